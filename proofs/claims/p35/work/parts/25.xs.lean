/-! the class's Sheets (as they are), Text -/
def rf (l x : Int32) : Int32 := if l = -1 then 1 else if l = x then 0 else 2
def cf (r i len : Int32) : Int32 := if r = 0 then (if i < 0 then 3 else if i < len then 0 else 3) else r
def csf (r i n len : Int32) : Int32 := if r = 0 then (if 0 ≤ n then (if i < 0 then 3 else if len < i then 3 else if n ≤ len - i then 0 else 3) else 4) else r
def cutv (l v : Int32) : Int32 := if l = 0 then v.toInt8.toInt32 else if l = 1 then v.toInt16.toInt32 else v
theorem sX_rowFault {k : Nat} {x : Int32} {μ : Mem} {post : Int32 → Mem → Prop} (hk : k < 4) (h : post (rf (μ 3 k) x) μ) : T_X7_rowFault (nI k) x μ post := by
  have i1 := in9 hk (by omega)
  unfold rf at h
  unfold T_X7_rowFault
  rw [cl9 (show k < 1000000 by omega)]
  refine ⟨i1, fun q => ⟨i1, fun q2 => ?_, fun q2 => ?_⟩, fun q => ?_⟩
  · rw [if_neg q, if_neg q2] at h; exact h
  · rw [if_neg q, if_pos q2] at h; exact h
  · rw [if_pos q] at h; exact h
theorem sX_cellFault {k : Nat} {x i : Int32} {μ : Mem} {post : Int32 → Mem → Prop} (hk : k < 4) (h : post (cf (rf (μ 3 k) x) i (μ 4 k)) μ) : T_X7_cellFault (nI k) x i μ post := by
  refine sX_rowFault hk ?_
  have i1 := in9 hk (by omega)
  unfold cf at h
  rw [cl9 (show k < 1000000 by omega)]
  refine ⟨fun q => ⟨fun q2 => ?_, fun q2 => ⟨i1, fun q3 => ?_, fun q3 => ?_⟩⟩, fun q => ?_⟩
  · rw [if_pos q, if_pos q2] at h; exact h
  · rw [if_pos q, if_neg q2, if_pos q3] at h; exact h
  · rw [if_pos q, if_neg q2, if_neg q3] at h; exact h
  · rw [if_neg q] at h; exact h
theorem sX_cellsFault {k : Nat} {x i n : Int32} {μ : Mem} {post : Int32 → Mem → Prop} (hk : k < 4) (h : post (csf (rf (μ 3 k) x) i n (μ 4 k)) μ) : T_X7_cellsFault (nI k) x i n μ post := by
  refine sX_rowFault hk ?_
  have i1 := in9 hk (by omega)
  unfold csf at h
  rw [cl9 (show k < 1000000 by omega)]
  refine ⟨fun q => ⟨fun qn => ⟨fun q2 => ?_, fun q2 => ⟨i1, fun q3 => ?_, fun q3 => ⟨i1, fun q4 => ?_, fun q4 => ?_⟩⟩⟩, fun qn => ?_⟩, fun q => ?_⟩
  · rw [if_pos q, if_pos qn, if_pos q2] at h; exact h
  · rw [if_pos q, if_pos qn, if_neg q2, if_pos q3] at h; exact h
  · rw [if_pos q, if_pos qn, if_neg q2, if_neg q3, if_pos q4] at h; exact h
  · rw [if_pos q, if_pos qn, if_neg q2, if_neg q3, if_neg q4] at h; exact h
  · rw [if_pos q, if_neg qn] at h; exact h
  · rw [if_neg q] at h; exact h
theorem csf_0 {r i n : Int32} {l : Nat} (hl : l ≤ 60) (h : csf r i n (nI l) = 0) : r = 0 ∧ ∃ a b, i = nI a ∧ n = nI b ∧ a + b ≤ l := by
  unfold csf at h
  by_cases q : r = 0
  · rw [if_pos q] at h
    by_cases qn : 0 ≤ n
    · rw [if_pos qn] at h
      by_cases q2 : i < 0
      · rw [if_pos q2] at h; exact absurd h (by decide)
      · rw [if_neg q2] at h
        by_cases q3 : nI l < i
        · rw [if_pos q3] at h; exact absurd h (by decide)
        · rw [if_neg q3] at h
          by_cases q4 : n ≤ nI l - i
          · obtain ⟨a, ha, rfl⟩ := nI_of q2
            have qn' : ¬ n < 0 := Int32.not_lt.mpr qn
            obtain ⟨b, hb, rfl⟩ := nI_of qn'
            rw [nI_ltI (by omega) ha] at q3
            rw [pk_sub (by omega), nI_leI hb (by omega)] at q4
            exact ⟨q, a, b, rfl, rfl, by omega⟩
          · rw [if_neg q4] at h; exact absurd h (by decide)
    · rw [if_neg qn] at h; exact absurd h (by decide)
  · rw [if_neg q] at h; exact absurd h q
theorem cf_0 {r i : Int32} {l : Nat} (hl : l ≤ 60) (h : cf r i (nI l) = 0) : r = 0 ∧ ∃ a, i = nI a ∧ a < l := by
  unfold cf at h
  by_cases q : r = 0
  · rw [if_pos q] at h
    by_cases q2 : i < 0
    · rw [if_pos q2] at h; exact absurd h (by decide)
    · rw [if_neg q2] at h
      by_cases q3 : i < nI l
      · obtain ⟨a, ha, rfl⟩ := nI_of q2
        rw [nI_ltI ha (by omega)] at q3
        exact ⟨q, a, rfl, q3⟩
      · rw [if_neg q3] at h; exact absurd h (by decide)
  · rw [if_neg q] at h; exact absurd h q
theorem sX_renew {k n : Nat} {l : Int32} {μ : Mem} {post : Mem → Prop} (hk : k < 4) (hn : n ≤ 60) (h : ∀ μ', Fr (fun q => q = 3 ∨ q = 4 ∨ q = 5 + k) μ μ' → μ' 3 = upd (μ 3) k l → μ' 4 = upd (μ 4) k (nI n) → (∀ i, i < n → μ' (5 + k) i = 0) → post μ') : T_X7_renew (nI k) l (nI n) μ post := by
  have i1 := in9 hk (by omega)
  refine ⟨i1, i1, ?_⟩
  rw [cl9 (show k < 1000000 by omega)]
  intro P hP
  have H : ∀ j, j ≤ n → ∀ μ2, Fr (fun q => q = 3 ∨ q = 4 ∨ q = 5 + k) μ μ2 → μ2 3 = upd (μ 3) k l → μ2 4 = upd (μ 4) k (nI n) → (∀ i, i < j → μ2 (5 + k) i = 0) → P (nI k) (nI n) (nI j) μ2 := by
    refine down_ind (fun μ2 hf h3 h4 h5 => hP _ _ _ _ (br_t (nI_self_le n) (h μ2 hf h3 h4 h5))) (fun j hj ih μ2 hf h3 h4 h5 => hP _ _ _ _ (br_f (nI_ge hj (by omega)) ⟨i1, in9 (by omega) (by omega), ?_⟩))
    rw [nI_1, cl9 (show k < 1000000 by omega), cl9 (show j < 1000000 by omega)]
    refine ih _ (Fr_p hf (Or.inr (Or.inr rfl))) ?_ ?_ (fun i hi => ?_)
    · unfold mset; rw [mput_o (by omega), h3]
    · unfold mset; rw [mput_o (by omega), h4]
    · rw [m2]
      by_cases e : i = j
      · subst e; rw [pk_us]
      · rw [pk_un e]; exact h5 i (by omega)
  refine H 0 (Nat.zero_le _) _ (Fr_p (Fr_p (Fr_rf _ _) (Or.inl rfl)) (Or.inr (Or.inl rfl))) ?_ ?_ (fun i hi => absurd hi (by omega))
  · unfold mset; rw [mput_o (by decide), mput_same]
  · unfold mset; rw [mput_same, mput_o (by decide)]
theorem sX_drop {k : Nat} {μ : Mem} {post : Int32 → Mem → Prop} (hk : k < 4) (h : post (if μ 3 k = -1 then 0 else 1) (mset (mset μ 3 k (-1)) 4 k 0)) : T_X7_drop (nI k) μ post := by
  have i1 := in9 hk (by omega)
  unfold T_X7_drop T_X7_drop_15
  rw [cl9 (show k < 1000000 by omega)]
  refine ⟨i1, fun q => ⟨i1, i1, Or.inl rfl, ?_⟩, fun q => ⟨i1, i1, Or.inr rfl, ?_⟩⟩
  · rw [if_pos q] at h; exact h
  · rw [if_neg q] at h; exact h
theorem sX_write {k i : Nat} {v : Int32} {μ : Mem} {post : Mem → Prop} (hk : k < 4) (hi : i < 60) (h : post (mset μ (5 + k) i (cutv (μ 3 k) v))) : T_X7_write (nI k) (nI i) v μ post := by
  have i1 := in9 hk (by omega)
  have i2 := in9 hi (by omega)
  unfold T_X7_write T_X7_write_33
  unfold cutv at h
  rw [cl9 (show k < 1000000 by omega), cl9 (show i < 1000000 by omega)]
  refine ⟨i1, fun q => ⟨i1, fun q2 => ⟨i1, i2, ?_⟩, fun q2 => ⟨i1, i2, ?_⟩⟩, fun q => ⟨i1, i2, ?_⟩⟩
  · rw [if_neg q, if_neg q2] at h; exact h
  · rw [if_neg q, if_pos q2] at h; exact h
  · rw [if_pos q] at h; exact h
/-! Text -/
def sT : Nat → Prop := fun k => 9 ≤ k ∧ k ≤ 12
def TXI (μ : Mem) : Prop := (∃ c, c ≤ 9 ∧ μ 9 3 = nI c) ∧ (∃ t, t < 10 ∧ μ 9 6 = nI t) ∧ (∀ w, w < 9 → lo 10 (μ 10 w)) ∧ (∀ t, t < 10 → ∃ v, v ≤ 9 ∧ μ 12 t = nI v)
def TXs (s : Int32) (μ : Mem) : Prop := TXI μ ∧ ((s = 2 ∨ s = 3 ∨ s = 4) → ∃ c, c < 9 ∧ μ 9 3 = nI (c + 1))
theorem TXI_of {μ μ' : Mem} (h : TXI μ) (e3 : μ' 9 3 = μ 9 3) (e6 : μ' 9 6 = μ 9 6) (e10 : μ' 10 = μ 10) (e12 : μ' 12 = μ 12) : TXI μ' := by
  unfold TXI
  rw [e3, e6, e10, e12]
  exact h
theorem TXI_fr {S : Nat → Prop} {μ μ' : Mem} (h : TXI μ) (f : Fr S μ μ') (h9 : ¬ S 9) (h10 : ¬ S 10) (h12 : ¬ S 12) : TXI μ' := TXI_of h (by rw [f 9 h9]) (by rw [f 9 h9]) (f 10 h10) (f 12 h12)
theorem TXI_9 {j : Nat} {v : Int32} {μ : Mem} (h : TXI μ) (h3 : j ≠ 3) (h6 : j ≠ 6) : TXI (mset μ 9 j v) := TXI_of h (by rw [m2, pk_un (fun e => h3 e.symm)]) (by rw [m2, pk_un (fun e => h6 e.symm)]) (mput_o (by decide)) (mput_o (by decide))
theorem TXI_p {q : Nat} {f : Nat → Int32} {μ : Mem} (h : TXI μ) (h9 : q ≠ 9) (h10 : q ≠ 10) (h12 : q ≠ 12) : TXI (mput μ q f) := TXI_of h (by rw [mput_o h9]) (by rw [mput_o h9]) (mput_o h10) (mput_o h12)
theorem TXI_10 {j : Nat} {v : Int32} {μ : Mem} (h : TXI μ) (hv : lo 10 v) : TXI (mset μ 10 j v) := by
  obtain ⟨h1, h2, h3, h4⟩ := h
  unfold TXI mset
  rw [mput_o (show (10 : Nat) ≠ 9 by decide), mput_same, mput_o (show (10 : Nat) ≠ 12 by decide)]
  refine ⟨h1, h2, fun w hw => ?_, h4⟩
  by_cases e : w = j
  · subst e; rw [pk_us]; exact hv
  · rw [pk_un e]; exact h3 w hw
theorem TXI_12 {j : Nat} {v : Nat} {μ : Mem} (h : TXI μ) (hv : v ≤ 9) : TXI (mset μ 12 j (nI v)) := by
  obtain ⟨h1, h2, h3, h4⟩ := h
  unfold TXI mset
  rw [mput_o (by decide), mput_o (by decide), mput_same]
  refine ⟨h1, h2, h3, fun t ht => ?_⟩
  by_cases e : t = j
  · subst e; rw [pk_us]; exact ⟨v, hv, rfl⟩
  · rw [pk_un e]; exact h4 t ht
theorem rngI {x : Int32} (a b : Nat) (hb : b < 2 ^ 30) (h1 : ¬ x < nI a) (h2 : ¬ nI b < x) (hab : a ≤ b) : ∃ t, a + t ≤ b ∧ x = nI (a + t) := by
  rw [Int32.lt_iff_toInt_lt, nI_toInt (by omega)] at h1
  rw [Int32.lt_iff_toInt_lt, nI_toInt (by omega)] at h2
  refine ⟨(x.toInt - a).toNat, by omega, Int32.toInt_inj.mp ?_⟩
  rw [nI_toInt (by omega)]
  omega
theorem rngS {x : Int32} (a b : Nat) (hb : b < 2 ^ 30) (h1 : ¬ x < nI a) (h2 : ¬ nI b < x) (hab : a ≤ b) : ∃ t, a + t ≤ b ∧ x - nI a = nI t := by
  obtain ⟨t, ht, e⟩ := rngI a b hb h1 h2 hab
  refine ⟨t, ht, ?_⟩
  rw [e, pk_sub (by omega)]
  congr 1
  omega
theorem ns0 {u : Int32} {A : Prop} (h : ¬ (u = 2 ∨ u = 3 ∨ u = 4)) : (u = 2 ∨ u = 3 ∨ u = 4) → A := fun q => absurd q h
theorem sX_forget {μ : Mem} {post : Mem → Prop} (h : TXI μ) (k : ∀ μ', Fr sT μ μ' → TXI μ' → post μ') : T_X9_forget μ post := by
  intro P hP
  have H : ∀ j, j ≤ 10 → ∀ μ2, Fr sT μ μ2 → TXI μ2 → P (nI j) μ2 := by
    refine down_ind (fun μ2 hf h2 => hP _ _ (br_t (by decide) (k μ2 hf h2))) (fun j hj ih μ2 hf h2 => hP _ _ (br_f (nI_ge hj (by decide)) ⟨in9 hj (by omega), ?_⟩))
    rw [nI_1]
    exact ih _ (Fr_p hf (by unfold sT; omega)) (TXI_12 (v := 1) h2 (by decide))
  refine H 0 (Nat.zero_le _) _ (Fr_p (Fr_p (Fr_p (Fr_rf _ _) (by unfold sT; omega)) (by unfold sT; omega)) (by unfold sT; omega)) (TXI_9 (TXI_9 ?_ (by decide) (by decide)) (by decide) (by decide))
  obtain ⟨h1, h2, h3, h4⟩ := h
  unfold TXI mset
  rw [mput_same, mput_o (by decide), mput_o (by decide), pk_us, pk_un (by decide)]
  exact ⟨⟨0, by omega, rfl⟩, h2, h3, h4⟩
theorem sX_beginItem {x : Int32} {μ : Mem} {post : Int32 → Mem → Prop} (h : TXI μ) (k : ∀ u μ', Fr sT μ μ' → TXs u μ' → post u μ') : T_X9_beginItem x μ post := by
  unfold T_X9_beginItem
  have h1 : TXI (mset μ 9 4 ((μ 9 4) + 1)) := TXI_9 h (by decide) (by decide)
  have hf1 : Fr sT μ (mset μ 9 4 ((μ 9 4) + 1)) := Fr_put _ _ (by unfold sT; omega)
  generalize mset μ 9 4 ((μ 9 4) + 1) = μ1 at h1 hf1 ⊢
  have k0 := k 0 μ1 hf1 ⟨h1, ns0 (by decide)⟩
  have k5 := k 5 μ1 hf1 ⟨h1, ns0 (by decide)⟩
  have h64 : T_X9_beginItem_64 post x μ1 := ⟨fun _ => k0, fun _ => ⟨fun _ => k0, fun _ => ⟨fun _ => k0, fun _ => k5⟩⟩⟩
  obtain ⟨c, hc, ec⟩ := h1.1
  refine ⟨fun _ => h64, fun _ => ⟨fun _ => h64, fun _ => pk_le 9 c (fun _ => h64) (fun hlt => ?_) rfl ec⟩⟩
  have e2 : (mset μ1 10 (μ1 9 3).toNatClampNeg 0) 9 3 = nI c := by unfold mset; rw [mput_o (by decide), ec]
  have e3 : ∀ j v, (mset (mset μ1 10 (μ1 9 3).toNatClampNeg 0) 11 j v) 9 3 = nI c := fun j v => by unfold mset; rw [mput_o (by decide), mput_o (by decide), ec]
  rw [e2, e3, ec, nI_1]
  refine ⟨in9 (by omega) (by omega), in9 (by omega) (by omega), k 2 _ (Fr_p (Fr_p (Fr_p hf1 (by unfold sT; omega)) (by unfold sT; omega)) (by unfold sT; omega)) ⟨?_, fun _ => ⟨c, hlt, ?_⟩⟩⟩
  · have h3 : TXI (mset (mset μ1 10 (nI c).toNatClampNeg 0) 11 (nI c).toNatClampNeg 0) := TXI_p (TXI_10 h1 (lo_0 _)) (by decide) (by decide) (by decide)
    obtain ⟨g1, g2, g3, g4⟩ := h3
    unfold TXI
    rw [m2, pk_us, pk_un (by decide)]
    refine ⟨⟨c + 1, by omega, rfl⟩, g2, ?_, ?_⟩
    · unfold mset; rw [mput_o (by decide)]; exact g3
    · unfold mset; rw [mput_o (by decide)]; exact g4
  · rw [m2, pk_us]
theorem sX_endItem {x : Int32} {μ : Mem} {post : Int32 → Mem → Prop} (h : TXI μ) (k : ∀ u, TXs u μ → post u μ) : T_X9_endItem x μ post := by
  have k0 := k 0 ⟨h, ns0 (by decide)⟩
  have k1 := k 1 ⟨h, ns0 (by decide)⟩
  exact ⟨fun _ => k0, fun _ => ⟨fun _ => k0, fun _ => k1⟩⟩
theorem sX_goOnInWork {x : Int32} {μ : Mem} {post : Int32 → Mem → Prop} (h : TXI μ) (hc : ∃ c, c < 9 ∧ μ 9 3 = nI (c + 1)) (k : ∀ u, TXs u μ → post u μ) : T_X9_goOnInWork x μ post :=
  ⟨fun _ => sX_endItem h k, fun _ => k 3 ⟨h, fun _ => hc⟩⟩
theorem sX_takeBefore {x : Int32} {μ : Mem} {post : Int32 → Mem → Prop} (h : TXI μ) (hc : ∃ c, c < 9 ∧ μ 9 3 = nI (c + 1)) (k : ∀ u μ', Fr sT μ μ' → TXs u μ' → post u μ') : T_X9_takeBefore x μ post := by
  obtain ⟨c, hc, ec⟩ := hc
  have k0 := k 0 μ (Fr_rf _ _) ⟨h, ns0 (by decide)⟩
  have i1 := in9 hc (by omega)
  unfold T_X9_takeBefore
  rw [ec, nI_pred]
  refine ⟨fun _ => k0, fun _ => ⟨i1, fun _ => ⟨i1, i1, k 4 _ (Fr_put _ _ (by unfold sT; omega)) ⟨TXI_p h (by decide) (by decide) (by decide), fun _ => ⟨c, hc, ?_⟩⟩⟩, fun _ => k0⟩⟩
  unfold mset
  rw [mput_o (by decide), ec]
theorem sX_takeNeed {t : Nat} {μ : Mem} {post : Int32 → Mem → Prop} (h : TXI μ) (ht : t < 10) (hc : ∃ c, c < 9 ∧ μ 9 3 = nI (c + 1)) (k : ∀ u μ', Fr sT μ μ' → TXs u μ' → post u μ') : T_X9_takeNeed (nI t) μ post := by
  obtain ⟨c, hc, ec⟩ := hc
  have k0 := k 0 μ (Fr_rf _ _) ⟨h, ns0 (by decide)⟩
  have i1 := in9 hc (by omega)
  unfold T_X9_takeNeed
  rw [ec, nI_pred, cl9 (show c < 1000000 by omega)]
  refine ⟨i1, fun _ => ⟨i1, i1, k 2 _ (Fr_put _ _ (by unfold sT; omega)) ⟨TXI_10 h (lo_or (h.2.2.1 c hc) (lo_shl ht (by decide))), fun _ => ⟨c, hc, ?_⟩⟩⟩, fun _ => k0⟩
  unfold mset
  rw [mput_o (by decide), ec]
theorem sX_takeSize {v : Nat} {μ : Mem} {post : Int32 → Mem → Prop} (h : TXI μ) (hv : v ≤ 9) (k : ∀ u μ', Fr sT μ μ' → TXs u μ' → post u μ') : T_X9_takeSize (nI v) μ post := by
  obtain ⟨t, ht, et⟩ := h.2.1
  refine ⟨by rw [et]; exact in9 ht (by omega), k 7 _ (Fr_put _ _ (by unfold sT; omega)) ⟨TXI_12 h hv, ns0 (by decide)⟩⟩
theorem sX_takeSized {t : Nat} {μ : Mem} {post : Int32 → Mem → Prop} (h : TXI μ) (ht : t < 10) (k : ∀ u μ', Fr sT μ μ' → TXs u μ' → post u μ') : T_X9_takeSized (nI t) μ post := by
  have k0 := k 0 μ (Fr_rf _ _) ⟨h, ns0 (by decide)⟩
  refine ⟨fun _ => k 6 _ (Fr_p (Fr_put _ _ (by unfold sT; omega)) (by unfold sT; omega)) ⟨?_, ns0 (by decide)⟩, fun _ => k0⟩
  obtain ⟨g1, g2, g3, g4⟩ := h
  unfold TXI mset
  rw [mput_same, mput_same, mput_o (by decide), mput_o (by decide), mput_o (by decide), mput_o (by decide), pk_us, pk_un (by decide), pk_un (by decide)]
  exact ⟨g1, ⟨t, ht, rfl⟩, g3, g4⟩
theorem sX_step {s x : Int32} {μ : Mem} {post : Int32 → Mem → Prop} (h : TXs s μ) (k : ∀ u μ', Fr sT μ μ' → TXs u μ' → post u μ') : T_X9_step s x μ post := by
  obtain ⟨h1, hc⟩ := h
  have k0 := k 0 μ (Fr_rf _ _) ⟨h1, ns0 (by decide)⟩
  have k' : ∀ u, TXs u μ → post u μ := fun u hu => k u μ (Fr_rf _ _) hu
  refine ⟨fun _ => sX_beginItem h1 k, fun q => ?_, fun q => ?_, fun q => sX_goOnInWork h1 (hc (Or.inr (Or.inr q))) k', fun _ => ?_, fun _ => ?_, fun _ _ _ _ _ _ => sX_endItem h1 k'⟩
  · have c1 := hc (Or.inl q)
    refine ⟨fun _ => sX_goOnInWork h1 c1 k', fun q1 => ⟨fun _ => sX_goOnInWork h1 c1 k', fun q2 => ?_⟩⟩
    obtain ⟨t, ht, e⟩ := rngS 97 106 (by omega) q1 q2 (by omega)
    rw [show x - 97 = nI t from e]
    exact sX_takeNeed h1 (by omega) c1 k
  · exact ⟨fun _ => k0, fun _ => ⟨fun _ => k0, fun _ => sX_takeBefore h1 (hc (Or.inr (Or.inl q))) k⟩⟩
  · refine ⟨fun _ => k0, fun q1 => ⟨fun _ => k0, fun q2 => ?_⟩⟩
    obtain ⟨t, ht, e⟩ := rngS 97 106 (by omega) q1 q2 (by omega)
    rw [show x - 97 = nI t from e]
    exact sX_takeSized h1 (by omega) k
  · refine ⟨fun _ => k0, fun q1 => ⟨fun _ => k0, fun q2 => ?_⟩⟩
    obtain ⟨t, ht, e⟩ := rngI 49 57 (by omega) q1 q2 (by omega)
    rw [e, show (48 : Int32) = nI 48 from rfl, pk_sub (by omega)]
    exact sX_takeSize h1 (by omega) k
theorem sX_firstFault {r a b : Nat} {μ : Mem} {post : Int32 → Mem → Prop} (h : TXI μ) (hr : shX r = .inl 60) (hab : a + b ≤ 60) (k : ∀ u μ', Fr sT μ μ' → TXI μ' → post u μ') : T_X9_firstFault r (nI a) (nI b) μ post := by
  refine sX_forget h (fun μ1 hf1 h1 => ?_)
  intro P hP
  have H : ∀ j, j ≤ b → ∀ s μ2, Fr sT μ μ2 → TXs s μ2 → P (nI a) (nI b) s (nI j) μ2 := by
    refine down_ind (fun s μ2 hf h2 => ?_) (fun j hj ih s μ2 hf h2 => ?_)
    · have k' : ∀ u, post u μ2 := fun u => k u μ2 hf h2.1
      exact hP _ _ _ _ _ (br_t (nI_self_le b) ⟨fun _ => k' _, fun _ => ⟨fun _ => k' _, fun _ => ⟨fun _ => k' _, fun _ => k' _⟩⟩⟩)
    · refine hP _ _ _ _ _ (br_f (nI_ge hj (by omega)) ⟨hr, ?_, sX_step h2 (fun u μ3 hf3 h3 => ⟨fun _ => ?_, fun _ => k _ μ3 (Fr_tr hf hf3) h3.1⟩)⟩)
      · rw [nI_add]; exact in9 (by omega) (by omega)
      · rw [nI_1]
        exact ih u μ3 (Fr_tr hf hf3) h3
  exact H 0 (Nat.zero_le _) 1 μ1 hf1 ⟨h1, ns0 (by decide)⟩
