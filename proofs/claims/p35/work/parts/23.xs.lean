/-! the class's Room -/
def sR : Nat → Prop := fun k => 53 ≤ k ∧ k ≤ 55
def RM (μ : Mem) : Prop := ∃ p q, ((p = 54 ∧ q = 55) ∨ (p = 55 ∧ q = 54)) ∧ μ 53 2 = nI p ∧ μ 53 3 = nI q
theorem RM_of {μ μ' : Mem} (h : RM μ) (e : μ' 53 = μ 53) : RM μ' := by unfold RM; rw [e]; exact h
theorem RM_p {μ : Mem} {q : Nat} {f : Nat → Int32} (h : RM μ) (e : q ≠ 53) : RM (mput μ q f) := RM_of h (mput_o e)
theorem RM_2 {μ : Mem} (h : RM μ) : shX ((μ 53 2).toNatClampNeg) = .inl 1024 ∧ ((μ 53 2).toNatClampNeg = 54 ∨ (μ 53 2).toNatClampNeg = 55) := by
  obtain ⟨p, q, h1, h2, h3⟩ := h
  rcases h1 with ⟨rfl, rfl⟩ | ⟨rfl, rfl⟩
  · rw [h2]; exact ⟨rfl, Or.inl rfl⟩
  · rw [h2]; exact ⟨rfl, Or.inr rfl⟩
theorem RM_3 {μ : Mem} (h : RM μ) : shX ((μ 53 3).toNatClampNeg) = .inl 1024 ∧ ((μ 53 3).toNatClampNeg = 54 ∨ (μ 53 3).toNatClampNeg = 55) := by
  obtain ⟨p, q, h1, h2, h3⟩ := h
  rcases h1 with ⟨rfl, rfl⟩ | ⟨rfl, rfl⟩
  · rw [h3]; exact ⟨rfl, Or.inr rfl⟩
  · rw [h3]; exact ⟨rfl, Or.inl rfl⟩
theorem sR_of {k : Nat} (h : k = 54 ∨ k = 55) : sR k := by unfold sR; omega
theorem pos_or (x : Int32) : x ≤ 0 ∨ ∃ j : Nat, 0 < j ∧ j < 2 ^ 31 ∧ x = nI j := by
  by_cases h : x < 0
  · exact Or.inl (Int32.le_of_lt h)
  · obtain ⟨j, hj, e⟩ := nI_of h
    rcases Nat.eq_zero_or_pos j with rfl | h0
    · left; rw [e]; decide
    · exact Or.inr ⟨j, h0, hj, e⟩
theorem sX_closeOne {x : Int32} {μ : Mem} {post : Mem → Prop} (hx : lo 10 x) (h : RM μ) (k : ∀ μ', Fr sR μ μ' → RM μ' → post μ') : T_X4_closeOne x μ post := by
  intro P hP
  have H : ∀ t, t ≤ 10 → ∀ μ2, Fr sR μ μ2 → RM μ2 → P x (nI t) μ2 := by
    refine down_ind (fun μ2 hf h2 => hP _ _ _ (br_t (by decide) (k μ2 hf h2))) (fun t ht ih μ2 hf h2 => hP _ _ _ (br_f (nI_ge ht (by decide)) ?_))
    rw [nI_1]
    obtain ⟨e1, e2⟩ := RM_3 h2
    refine ⟨fun _ => ih μ2 hf h2, fun _ => ⟨e1, lo_10 (lo_and hx _), lo_10 hx, lo_10 (lo_and hx _), ih _ (Fr_p hf (sR_of e2)) (RM_p h2 (by omega))⟩⟩
  exact H 0 (Nat.zero_le _) μ (Fr_rf _ _) h
theorem sX_closeSome {z : Nat → Nat} {x x2 : Int32} {μ : Mem} {post : Mem → Prop} (hx : lo 10 x) (hz : ScR 16 z μ) (h : RM μ) (k : ∀ μ', Fr sR μ μ' → RM μ' → post μ') : T_X4_closeSome x x2 μ post := by
  refine sX_bitCount ?_
  intro P hP
  have H : ∀ j, j < 2 ^ 31 → ∀ x3 μ2, lo 10 x3 → Fr sR μ μ2 → RM μ2 → P x x2 x3 (nI j) μ2 := by
    intro j
    induction j with
    | zero => exact fun _ x3 μ2 _ hf h2 => hP _ _ _ _ _ (br_t (by decide) (k μ2 hf h2))
    | succ j ih =>
      intro hj x3 μ2 h3 hf h2
      refine hP _ _ _ _ _ (br_f (nI_nle (by omega) hj) ?_)
      obtain ⟨e1, e2⟩ := RM_3 h2
      have h54 : ∀ μ4, Fr sR μ μ4 → RM μ4 → T_X4_closeSome_54 post P x x2 x3 (nI (j + 1)) μ4 := by
        intro μ4 hf4 h4
        unfold T_X4_closeSome_54
        rw [pk_m1]
        exact ih (by omega) _ μ4 (lo_and2 _ hx) hf4 h4
      refine ⟨e1, lo_10 h3, fun _ => h54 μ2 hf h2, fun _ => sX_closeOne h3 h2 (fun μ4 hf4 h4 => ?_)⟩
      have hf4' := Fr_tr hf hf4
      refine sX_sumE (ScR_fr hz hf4' (by unfold sR; omega) (by unfold sR; omega)) ?_
      obtain ⟨e3, e4⟩ := RM_3 h4
      exact ⟨fun _ => h54 μ4 hf4' h4, fun _ => ⟨e3, lo_10 h3, h54 _ (Fr_p hf4' (sR_of e4)) (RM_p h4 (by omega))⟩⟩
  rcases pos_or ((1 : Int32) <<< (bcF x &&& 31)) with q | ⟨j, hj0, hj, e⟩
  · exact hP _ _ _ _ _ (br_t q (k μ (Fr_rf _ _) h))
  · rw [e]
    exact H j hj x μ hx (Fr_rf _ _) h
theorem sX_fillFar {x : Int32} {μ : Mem} {post : Mem → Prop} (hx : lo 10 x) (h : RM μ) (k : ∀ μ', Fr sR μ μ' → RM μ' → post μ') : T_X4_fillFar x μ post := by
  refine sX_bitCount ?_
  intro P hP
  have H : ∀ j, j < 2 ^ 31 → ∀ x3 μ2, lo 10 x3 → Fr sR μ μ2 → RM μ2 → P x x3 (nI j) μ2 := by
    intro j
    induction j with
    | zero => exact fun _ x3 μ2 _ hf h2 => hP _ _ _ _ (br_t (by decide) (k μ2 hf h2))
    | succ j ih =>
      intro hj x3 μ2 h3 hf h2
      refine hP _ _ _ _ (br_f (nI_nle (by omega) hj) ?_)
      obtain ⟨e1, e2⟩ := RM_3 h2
      rw [pk_m1]
      exact ⟨e1, lo_10 h3, ih (by omega) _ _ (lo_and2 _ hx) (Fr_p hf (sR_of e2)) (RM_p h2 (by omega))⟩
  rcases pos_or ((1 : Int32) <<< (bcF x &&& 31)) with q | ⟨j, hj0, hj, e⟩
  · exact hP _ _ _ _ (br_t q (k μ (Fr_rf _ _) h))
  · rw [e]
    exact H j hj x μ hx (Fr_rf _ _) h
theorem RW_at {n r k : Nat} {μ : Mem} (h : RW n r μ) (hk : k < n) : vp_in (μ r k) 9 ∧ ∃ v, v < 9 ∧ μ r k = nI v ∧ (μ r k).toNatClampNeg = v := by
  obtain ⟨v, hv, e⟩ := h k hk
  rw [e]
  exact ⟨in9 hv (by omega), v, hv, rfl, cl9 (by omega)⟩
theorem sX_goOn {n r j : Nat} {z : Nat → Nat} {x : Int32} {μ : Mem} {post : Mem → Prop} (hw : WK n μ) (hz : ScR 19 z μ) (ho : OP μ) (hr : shX r = .inl 9) (hrs : ¬ sR r) (hrow : RW n r μ) (hj : j + 1 < n) (hx : lo 10 x) (h : RM μ) (k : ∀ μ', Fr sR μ μ' → RM μ' → post μ') : T_X4_goOn r (nI (j + 1)) x μ post := by
  have h9 := hw.2.1
  refine sX_fillFar hx h (fun μ2 hf2 h2 => ?_)
  rw [nI_pred, cl9 (show j < 1000000 by omega), cl9 (show j + 1 < 1000000 by omega), hf2 r hrs, hf2 34 (by unfold sR; omega), hf2 14 (by unfold sR; omega)]
  obtain ⟨a1, va, hva, ea, ca⟩ := RW_at hrow (show j < n by omega)
  obtain ⟨b1, vb, hvb, eb, cb⟩ := RW_at hrow hj
  rw [ca, cb]
  have l1 : lo 10 (μ 34 j) := ho j (by omega)
  have l2 : lo 10 (μ 14 va) := hw.2.2 va hva
  refine ⟨hr, in9 (by omega) (by omega), a1, in9 (by omega) (by omega), in9 (by omega) (by omega), b1, sX_bitCount ?_⟩
  have l3 : lo 10 (μ 34 j &&& (μ 14 va ^^^ (-1))) := lo_and l1 _
  generalize μ 34 j &&& (μ 14 va ^^^ (-1)) = y at l3 ⊢
  intro P hP
  have H : ∀ i, i < 2 ^ 31 → ∀ x7 μ3, lo 10 x7 → Fr sR μ μ3 → RM μ3 → P x (μ 14 va) y (y &&& μ 14 vb) x7 (nI i) μ3 := by
    intro i
    induction i with
    | zero => exact fun _ x7 μ3 _ hf h3 => hP _ _ _ _ _ _ _ (br_t (by decide) (k μ3 hf h3))
    | succ i ih =>
      intro hi x7 μ3 h7 hf h3
      refine hP _ _ _ _ _ _ _ (br_f (nI_nle (by omega) hi) ?_)
      obtain ⟨e1, e2⟩ := RM_2 h3
      obtain ⟨e3, e4⟩ := RM_3 h3
      have l7 : lo 10 ((x7 ||| μ 14 va) &&& x) := lo_and2 _ hx
      have h135 : ∀ μ4, Fr sR μ μ4 → RM μ4 → T_X4_goOn_135 r post P x (μ 14 va) y (y &&& μ 14 vb) x7 (nI (i + 1)) μ4 := by
        intro μ4 hf4 h4
        unfold T_X4_goOn_135
        rw [pk_m1]
        exact ih (by omega) _ μ4 (lo_and2 _ l3) hf4 h4
      exact ⟨e1, lo_10 h7, fun _ => h135 μ3 hf h3, fun _ => ⟨e3, lo_10 l7, lo_10 h7, sX_sumE (ScR_fr hz hf (by unfold sR; omega) (by unfold sR; omega)) ⟨lo_10 l7, h135 _ (Fr_p hf (sR_of e4)) (RM_p h3 (by omega))⟩⟩⟩
  rcases pos_or ((1 : Int32) <<< (bcF y &&& 31)) with q | ⟨i, hi0, hi, e⟩
  · exact hP _ _ _ _ _ _ _ (br_t q (k μ2 hf2 h2))
  · rw [e]
    exact H i hi y μ2 l3 hf2 h2
theorem sX_leastPrice {n r : Nat} {z z2 : Nat → Nat} {x : Int32} {μ : Mem} {post : Int32 → Mem → Prop} (hw : WK n μ) (hz : ScR 16 z μ) (hz2 : ScR 19 z2 μ) (ho : OP μ) (hr : shX r = .inl 9) (hrs : ¬ sR r) (hrow : RW n r μ) (h : RM μ) (k : ∀ v μ', Fr sR μ μ' → RM μ' → post v μ') : T_X4_leastPrice r x μ post := by
  have h9 := hw.2.1
  obtain ⟨e1, e2⟩ := RM_2 h
  refine ⟨e1, i1024, fun P hP => ?_⟩
  have H : ∀ f j, n ≤ j + 1 + f → j < 20 → ∀ μ2, Fr sR μ μ2 → RM μ2 → P x (nI (j + 1)) μ2 := by
    intro f
    induction f with
    | zero =>
      intro j hj hj2 μ2 hf h2
      obtain ⟨a1, a2⟩ := RM_2 h2
      exact hP _ _ _ (br_t (by rw [hf 13 (by unfold sR; omega), hw.1]; exact nI_le (by omega) (by omega)) ⟨a1, i1024, k _ μ2 hf h2⟩)
    | succ f ih =>
      intro j hj hj2 μ2 hf h2
      refine hP _ _ _ (pk_le n (j + 1) (fun hle => ?_) (fun hlt => ?_) (by rw [hf 13 (by unfold sR; omega)]; exact hw.1))
      · obtain ⟨a1, a2⟩ := RM_2 h2
        exact ⟨a1, i1024, k _ μ2 hf h2⟩
      · have hw2 := WK_fr hw hf (by unfold sR; omega) (by unfold sR; omega)
        have ho2 := OP_fr ho hf (by unfold sR; omega)
        have hrow2 := RW_fr hrow hf hrs
        rw [nI_1, cl9 (show j + 1 < 1000000 by omega)]
        obtain ⟨b1, vb, hvb, eb, cb⟩ := RW_at hrow2 hlt
        have i1 := in9 (show j + 1 < 9 by omega) (by omega)
        have lx : lo 10 (μ2 34 (j + 1) &&& (μ2 14 (μ2 r (j + 1)).toNatClampNeg ^^^ (-1))) := lo_and (ho2 _ (by omega)) _
        refine ⟨i1, hr, i1, b1, sX_goOn hw2 (ScR_fr hz2 hf (by unfold sR; omega) (by unfold sR; omega)) ho2 hr hrs hrow2 hlt lx h2 (fun μ3 hf3 h3 => ?_)⟩
        have hf3' := Fr_tr hf hf3
        obtain ⟨c1, -⟩ := RW_at (RW_fr hrow hf3' hrs) hlt
        have hz3 := ScR_fr hz hf3' (by unfold sR; omega) (by unfold sR; omega)
        refine ⟨i1, c1, sX_sumE hz3 (sX_closeSome lx hz3 h3 (fun μ4 hf4 h4 => ih (j + 1) (by omega) (by omega) _ (Fr_p (Fr_p (Fr_tr hf3' hf4) (by unfold sR; omega)) (by unfold sR; omega)) ?_))⟩
        obtain ⟨p, q, h1, h2, h3⟩ := h4
        refine ⟨q, p, h1.symm.imp (fun t => ⟨t.2, t.1⟩) (fun t => ⟨t.2, t.1⟩), ?_, ?_⟩
        · rw [m2, pk_un (by decide), m2, pk_us]; exact h3
        · rw [m2, pk_us]; exact h2
  exact H 20 0 (by omega) (by omega) _ (Fr_p (Fr_rf _ _) (sR_of e2)) (RM_p h (by omega))
theorem sX_greatestNeedB {μ : Mem} {n : Nat} {z : Nat → Nat} {post : Int32 → Mem → Prop} (hn : μ 13 4 = nI n) (h9 : n ≤ 9) (hz : ScR 16 z μ) (h : ∀ v, v ≤ 990 → post (nI v) μ) : T_X10_greatestNeed μ post := by
  intro P hP
  have H : ∀ k, k ≤ n → ∀ a, a ≤ 990 → P (nI a) (nI k) μ := by
    refine down_ind (fun a ha => hP _ _ _ (br_t (by rw [hn]; exact nI_self_le n) (h a ha))) (fun k hk ih a ha => hP _ _ _ (br_f (by rw [hn]; exact nI_ge hk (by omega)) ?_))
    rw [nI_1]
    refine ⟨vp_in_nI (by omega) (by omega), sX_sumE hz ?_⟩
    have hs := sum10_le hz.1 (μ 14 (nI k).toNatClampNeg)
    split
    · exact ih _ hs
    · exact ih _ ha
  exact H 0 (Nat.zero_le _) 0 (by omega)
theorem sX_leastRoom {n r : Nat} {z z2 : Nat → Nat} {x : Int32} {μ : Mem} {post : Int32 → Mem → Prop} (hw : WK n μ) (hz : ScR 16 z μ) (hz2 : ScR 19 z2 μ) (ho : OP μ) (hr : shX r = .inl 9) (hrs : ¬ sR r) (hrow : RW n r μ) (h : RM μ) (hm : ∃ v, v ≤ 990 ∧ μ 33 1 = nI v) (k : ∀ v μ', Fr sR μ μ' → RM μ' → post v μ') : T_X4_leastRoom r x μ post := by
  obtain ⟨m, hm, em⟩ := hm
  refine sX_greatestNeedB hw.1 hw.2.1 hz (fun v hv => ?_)
  have H : ∀ f, ∀ l h2 μ2, h2 ≤ l + f → l ≤ 1000 → h2 ≤ 990 → Fr sR μ μ2 → RM μ2 → T_X4_leastRoom_21 r post x (nI l) (nI h2) μ2 := by
    intro f l h2 μ2 hf hl hh hfr hrm P hP
    revert l h2 μ2
    induction f with
    | zero => exact fun l h2 μ2 hf hl hh hfr hrm => hP _ _ _ _ (br_t (nI_le (by omega) (by omega)) (k _ μ2 hfr hrm))
    | succ f ih =>
      intro l h2 μ2 hf hl hh hfr hrm
      refine hP _ _ _ _ (pk_le h2 l (fun _ => k _ μ2 hfr hrm) (fun hlt => ?_))
      have e : (nI l + nI h2) / 2 = nI ((l + h2) / 2) := by
        rw [nI_add]
        exact pk_div (d := 2) (by omega) (by omega) (by omega)
      rw [e]
      refine sX_leastPrice (WK_fr hw hfr (by unfold sR; omega) (by unfold sR; omega)) (ScR_fr hz hfr (by unfold sR; omega) (by unfold sR; omega)) (ScR_fr hz2 hfr (by unfold sR; omega) (by unfold sR; omega)) (OP_fr ho hfr (by unfold sR; omega)) hr hrs (RW_fr hrow hfr hrs) hrm (fun u μ3 hf3 h3 => ?_)
      rw [nI_1]
      exact ⟨fun _ => ih _ _ _ (by omega) (by omega) (by omega) (Fr_tr hfr hf3) h3, fun _ => ih _ _ _ (by omega) (by omega) (by omega) (Fr_tr hfr hf3) h3⟩
  rw [em]
  split
  · exact H 990 _ _ μ (by omega) (by omega) (by omega) (Fr_rf _ _) h
  · exact H 990 _ _ μ (by omega) (by omega) (by omega) (Fr_rf _ _) h
