/-! the class's Bounds: what it keeps is right; cross, knot, bound of both sides -/
def GB (n : Nat) (z : Nat → Nat) (μ : Mem) : Prop := (∀ k, k ≤ n → ∃ c, CRs n (μ 14) (μ 15) z (2 ^ n) k c ∧ μ 48 k = nI c) ∧ ∃ b, SC n (μ 14) z 1024 b ∧ μ 47 1 = nI b ∧ μ 47 2 = nI (sum10 z (nI b))
def CB (n : Nat) (z : Nat → Nat) (V : Nat) (μ : Mem) : Prop := V < 2 ^ 30 ∧ μ 13 5 = nI V ∧ (μ 47 5 = -1 ∨ ∃ v, v ≤ V ∧ μ 47 5 = nI v ∧ (v = V → GB n z μ))
theorem CB_fr {n V : Nat} {z : Nat → Nat} {S : Nat → Prop} {μ μ' : Mem} (h : CB n z V μ) (f : Fr S μ μ') (s13 : ¬ S 13) (s14 : ¬ S 14) (s15 : ¬ S 15) (s47 : ¬ S 47) (s48 : ¬ S 48) : CB n z V μ' := by
  unfold CB GB
  rw [f 13 s13, f 14 s14, f 15 s15, f 47 s47, f 48 s48]
  exact h
theorem CB_up {n n' V : Nat} {z z' : Nat → Nat} {μ μ' : Mem} (h : CB n z V μ) (hV : V + 1 < 2 ^ 30) (e13 : μ' 13 5 = μ 13 5 + 1) (e47 : μ' 47 = μ 47) : CB n' z' (V + 1) μ' := by
  obtain ⟨a, b, c⟩ := h
  refine ⟨hV, by rw [e13, b, nI_1], ?_⟩
  rw [e47]
  rcases c with c | ⟨v, hv, e, -⟩
  · exact Or.inl c
  · exact Or.inr ⟨v, by omega, e, fun q => absurd q (by omega)⟩
theorem nI_nm {k : Nat} (h : k < 2 ^ 31) : ¬ nI k = -1 := fun e => by
  have e2 := congrArg Int32.toInt e
  rw [nI_toInt h] at e2
  have e3 : (-1 : Int32).toInt = -1 := by decide
  omega
theorem eX_refresh0 {n m V : Nat} {z1 z2 : Nat → Nat} {μ : Mem} {post : Mem → Prop} (h : IX n m z1 z2 μ) (hC : CB n z1 V μ) (k : ∀ μ', Fr sB μ μ' → GB n z1 μ' → CB n z1 V μ' → post μ') : T_X0_refresh μ post := by
  obtain ⟨hV, hv5, hc⟩ := hC
  refine ⟨fun q => ?_, fun q => ?_⟩
  · rcases hc with e | ⟨v, hv, e, hg⟩
    · exact absurd ((e.symm.trans (q.trans hv5))).symm (nI_nm (by omega))
    · have ev : v = V := (nI_eq (by omega) (by omega)).mp (e.symm.trans (q.trans hv5))
      exact k μ (Fr_rf _ _) (hg ev) ⟨hV, hv5, Or.inr ⟨v, hv, e, hg⟩⟩
  · refine eX_fillCrossings h.1 h.2.1 (fun μ1 hf1 hc1 => eX_findKnot (WK_fr h.1 hf1 (by omega) (by omega)) (ScR_fr h.2.1 hf1 (by omega) (by omega)) (fun b μ2 hf2 hs e1 e2 => ?_))
    have f3 : Fr sB μ (mset μ2 47 5 (μ2 13 5)) := Fr_p (Fr_tr (Fr_mono hf1 (fun q hq => by unfold sB; omega)) (Fr_mono hf2 (fun q hq => by unfold sB; omega))) (Or.inl rfl)
    have e13 : μ2 13 5 = nI V := by rw [hf2 13 (by omega), hf1 13 (by omega)]; exact hv5
    have e48 : (mset μ2 47 5 (μ2 13 5)) 48 = μ1 48 := by unfold mset; rw [mput_o (by decide), hf2 48 (by omega)]
    have g : GB n z1 (mset μ2 47 5 (μ2 13 5)) := by
      unfold GB
      rw [f3 14 (by unfold sB; omega), f3 15 (by unfold sB; omega), e48]
      refine ⟨hc1, b, ?_, ?_, ?_⟩
      · rw [hf1 14 (by omega)] at hs; exact hs
      · rw [m2, pk_un (by decide)]; exact e1
      · rw [m2, pk_un (by decide)]; exact e2
    refine k _ f3 g ⟨hV, by rw [f3 13 (by unfold sB; omega)]; exact hv5, Or.inr ⟨V, Nat.le_refl _, ?_, fun _ => g⟩⟩
    rw [m2, pk_us]; exact e13
theorem tw_cross {n m m' V : Nat} {z1 z2 : Nat → Nat} {μX μM : Mem} {x1 : Int32} {G : Prop → Prop} {Q : Int32 → Int32 → Mem → Mem → Prop} (hG : ∀ T, T → G T) (hX : IX n m z1 z2 μX) (hM : IM n m' μM) (hK : RK n z1 z2 μX μM) (hC : CB n z1 V μX) (k : ∀ r r2 μ1, r = r2 → IX n m z1 z2 μ1 → Fr sB μX μ1 → CB n z1 V μ1 → Q r r2 μ1 μM) : T_X11_cross x1 μX (fun r μ1 => G (T_X12_cross x1 μM (fun r2 μ2 => Q r r2 μ1 μ2))) := by
  have h9 := xN hX
  have k1 : ∀ r, Q r r μX μM := fun r => k r r μX rfl hX (Fr_rf _ _) hC
  rcases in_or x1 (n + 1) (by omega) with ho | ⟨p, hp, rfl⟩
  · have mno : ∀ post2 : Int32 → Mem → Prop, post2 (-2) μM → T_X12_cross x1 μM post2 := fun post2 hq => by
      unfold T_X12_cross
      rw [hM.1.1]
      exact sM_in0 (by omega) (fun _ => br_t rfl hq) (fun j hj e => absurd e (ho j hj))
    refine ⟨fun _ => hG _ (mno _ (k1 _)), fun q1 => ⟨fun q2 => ?_, fun _ => hG _ (mno _ (k1 _))⟩⟩
    rw [xW hX] at q2
    obtain ⟨j, hj, e⟩ := in_of (n := n) (by omega) q1 (Int32.not_lt.mpr q2)
    exact absurd e (ho j hj)
  · refine br_f (nI_pos (by omega)) (br_t (by rw [xW hX]; exact nI_le (by omega) (by omega)) (eX_refresh0 hX hC (fun μ1 hf hg hc => ⟨in9 (show p < 10 by omega) (by omega), hG _ ?_⟩)))
    unfold T_X12_cross
    rw [hM.1.1]
    refine sM_in0 (by omega) (fun q => absurd rfl (q p hp)) (fun _ _ _ => br_f n10 (eM_crossOf hM.1 (by omega) (fun t ht => (hK.2 t ht).1) hX.2.1.1 (fun c hcr => k _ _ μ1 ?_ (IX_B hX hf) hf hc)))
    obtain ⟨c', h1, h2⟩ := hg.1 p (by omega)
    rw [cl9 (show p < 1000000 by omega), h2, CRs_u hX.2.1.1 (fun w hw => ?_) (fun w hw => ?_) h1 hcr]
    · rw [hf 14 (by unfold sB; omega)]; exact (hK.1 w hw).1
    · rw [hf 15 (by unfold sB; omega)]; exact (hK.1 w hw).2
theorem tw_knot {n m m' V : Nat} {z1 z2 : Nat → Nat} {μX μM : Mem} {x1 : Int32} {G : Prop → Prop} {Q : Int32 → Int32 → Mem → Mem → Prop} (hG : ∀ T, T → G T) (hX : IX n m z1 z2 μX) (hM : IM n m' μM) (hK : RK n z1 z2 μX μM) (hC : CB n z1 V μX) (k : ∀ r r2 μ1, r = r2 → IX n m z1 z2 μ1 → Fr sB μX μ1 → CB n z1 V μ1 → Q r r2 μ1 μM) : T_X11_knot x1 μX (fun r μ1 => G (T_X12_knot x1 μM (fun r2 μ2 => Q r r2 μ1 μ2))) := by
  have k1 : ∀ r, Q r r μX μM := fun r => k r r μX rfl hX (Fr_rf _ _) hC
  rcases in_or x1 2 (by omega) with ho | ⟨p, hp, rfl⟩
  · have mno : ∀ post2 : Int32 → Mem → Prop, post2 (-2) μM → T_X12_knot x1 μM post2 := fun post2 hq => sM_in0 (L := 1) (by omega) (fun _ => rb_f rfl hq) (fun j hj e => absurd e (ho j hj))
    refine ⟨fun _ => hG _ (mno _ (k1 _)), fun q1 => ⟨fun q2 => ?_, fun _ => hG _ (mno _ (k1 _))⟩⟩
    obtain ⟨j, hj, e⟩ := in_of (n := 1) (by omega) q1 (Int32.not_lt.mpr q2)
    exact absurd e (ho j hj)
  · refine br_f (nI_pos (by omega)) (br_t (nI_le (b := 1) (by omega) (by omega)) (eX_refresh0 hX hC (fun μ1 hf hg hc => ?_)))
    obtain ⟨-, b, hb, e1, e2⟩ := hg
    have mgo : ∀ post2 : Int32 → Mem → Prop, ((¬ nI p = 0 → post2 (nI (sum10 z1 (nI b))) μM) ∧ (nI p = 0 → post2 (nI b) μM)) → T_X12_knot (nI p) μM post2 := fun post2 hq => by
      refine sM_in0 (L := 1) (by omega) (fun q => absurd rfl (q p hp)) (fun _ _ _ => rb_t n10 (eM_knotOf hM.1 (fun t ht => (hK.2 t ht).1) hX.2.1.1 (fun b' hb' => ?_)))
      have e : b = b' := SC_u (fun w hw => by rw [hf 14 (by unfold sB; omega)]; exact (hK.1 w hw).1) hb hb'
      subst e
      refine ⟨fun q => sM_sizeE ?_, hq.2⟩
      rw [sizeF_sum (fun t ht => (hK.2 t ht).1)]
      exact hq.1 q
    exact ⟨fun q => hG _ (mgo _ (rb_t q (k _ _ μ1 e2 (IX_B hX hf) hf hc))), fun q => hG _ (mgo _ (rb_f q (k _ _ μ1 e1 (IX_B hX hf) hf hc)))⟩
def mx0 (s : Nat) (f : Nat → Nat) : Nat → Nat := foldN (fun k s => max s (f k)) s
theorem mx0_s (s : Nat) (f : Nat → Nat) (k : Nat) : mx0 s f (k + 1) = max (mx0 s f k) (f k) := rfl
theorem mx0_max (s : Nat) (f : Nat → Nat) : ∀ k, mx0 s f k = max s (mx0 0 f k) := by
  intro k
  induction k with
  | zero => show s = max s 0; omega
  | succ k ih => rw [mx0_s, mx0_s, ih]; omega
theorem mx0_le {s b : Nat} {f : Nat → Nat} (hs : s ≤ b) : ∀ k, (∀ i, i < k → f i ≤ b) → mx0 s f k ≤ b := by
  intro k
  induction k with
  | zero => intro _; exact hs
  | succ k ih =>
    intro h
    have := ih (fun i hi => h i (by omega))
    have := h k (by omega)
    rw [mx0_s]; omega
theorem nI_max {a b : Nat} (ha : a ≤ 1000000) (hb : b ≤ 1000000) : (if nI a < nI b then nI b else nI a) = nI (max a b) := by
  rcases Nat.lt_or_ge a b with q | q
  · rw [if_pos (nI_lt q (by omega)), Nat.max_eq_right (by omega)]
  · rw [if_neg (nI_nlt q (by omega)), Nat.max_eq_left q]
theorem eX_greatestCross {n : Nat} {c : Nat → Nat} {μ : Mem} {post : Int32 → Mem → Prop} (hn : μ 13 4 = nI n) (h9 : n ≤ 9) (hc : ∀ k, k ≤ n → μ 48 k = nI (c k) ∧ c k ≤ 1000000) (h : post (nI (mx0 0 c (n + 1))) μ) : T_X0_greatestCross μ post := by
  intro P hP
  have H : ∀ k, k ≤ n + 1 → P (nI (mx0 0 c k)) (nI k) μ := by
    refine down_ind (hP _ _ _ (br_t (by rw [hn]; exact nI_lt (by omega) (by omega)) h)) (fun k hk ih => hP _ _ _ (br_f (by rw [hn]; exact nI_nlt (by omega) (by omega)) ?_))
    have hle := mx0_le (b := 1000000) (s := 0) (f := c) (by omega) k (fun i hi => (hc i (by omega)).2)
    rw [nI_1, cl9 (show k < 1000000 by omega), (hc k (by omega)).1, nI_max hle (hc k (by omega)).2]
    exact ⟨vp_in_nI (by omega) (by omega), ih⟩
  exact H 0 (Nat.zero_le _)
theorem eX_greatestNeed {n : Nat} {z : Nat → Nat} {μ : Mem} {post : Int32 → Mem → Prop} (hn : μ 13 4 = nI n) (h9 : n ≤ 9) (hz : ScR 16 z μ) (h : post (nI (mx0 0 (fun w => sum10 z (μ 14 w)) n)) μ) : T_X10_greatestNeed μ post := by
  intro P hP
  have H : ∀ k, k ≤ n → P (nI (mx0 0 (fun w => sum10 z (μ 14 w)) k)) (nI k) μ := by
    refine down_ind (hP _ _ _ (br_t (by rw [hn]; exact nI_self_le n) h)) (fun k hk ih => hP _ _ _ (br_f (by rw [hn]; exact nI_ge hk (by omega)) ⟨vp_in_nI (by omega) (by omega), sX_sumE hz ?_⟩))
    have hle := mx0_le (b := 1000000) (s := 0) (f := fun w => sum10 z (μ 14 w)) (by omega) k (fun i hi => by have := sum10_le hz.1 (μ 14 i); show sum10 z (μ 14 i) ≤ 1000000; omega)
    have hl2 := sum10_le hz.1 (μ 14 k)
    rw [nI_1, cl9 (show k < 1000000 by omega), nI_max hle (by omega)]
    exact ih
  exact H 0 (Nat.zero_le _)
theorem mx0_cong {s : Nat} {f g : Nat → Nat} : ∀ k, (∀ i, i < k → f i = g i) → mx0 s f k = mx0 s g k := by
  intro k
  induction k with
  | zero => intro _; rfl
  | succ k ih => intro h; rw [mx0_s, mx0_s, ih (fun i hi => h i (by omega)), h k (by omega)]
theorem eM_bound {n : Nat} {z c : Nat → Nat} {μ : Mem} {post : Int32 → Mem → Prop} (h : WM n μ) (hz : ∀ t, t < 10 → μ 6 t = nI (z t)) (hz9 : ∀ t, z t ≤ 99) (hc : ∀ k, k ≤ n → CRs n (μ 4) (μ 5) z (2 ^ n) k (c k)) (k : ∀ b, SC n (μ 4) z 1024 b → post (nI (mx0 (mx0 (sum10 z (nI b)) (fun w => sum10 z (μ 4 w)) n) c (n + 1))) μ) : T_X12_bound μ post := by
  have hn := h.1
  have h9 := h.2.1
  refine eM_knotOf h hz hz9 (fun b hb0 => sM_sizeE ?_)
  rw [sizeF_sum hz]
  have lb := sum10_le hz9 (nI b)
  have hk := k b hb0
  generalize sum10 z (nI b) = kb at lb hk ⊢
  have H49 : ∀ y, y ≤ 1000000 → (y = mx0 kb (fun w => sum10 z (μ 4 w)) n) → T_X12_bound_49 post (nI y) 0 μ := by
    intro y hy ey P hP
    have H : ∀ j, j ≤ n + 1 → P (nI (mx0 y c j)) (nI j) μ := by
      refine down_ind (hP _ _ _ (br_t (by rw [hn]; exact nI_lt (by omega) (by omega)) (by rw [ey]; exact hk))) (fun j hj ih => hP _ _ _ (br_f (by rw [hn]; exact nI_nlt (by omega) (by omega)) (eM_crossOf h (by omega) hz hz9 (fun c' hc' => ?_))))
      have e : c' = c j := CRs_u hz9 (fun _ _ => rfl) (fun _ _ => rfl) hc' (hc j (by omega))
      have hcj := (hc j (by omega)).1
      have hle := mx0_le (b := 1000000) (s := y) (f := c) hy j (fun i hi => (hc i (by omega)).1)
      unfold T_X12_bound_73
      rw [nI_1, e]
      rw [mx0_s] at ih
      refine pk_le (c j) (mx0 y c j) (fun t => ?_) (fun t => ?_)
      · rw [Nat.max_eq_left t] at ih; exact ih
      · rw [Nat.max_eq_right (by omega)] at ih; exact ih
    exact H 0 (Nat.zero_le _)
  intro P hP
  have H : ∀ j, j ≤ n → P (nI (mx0 kb (fun w => sum10 z (μ 4 w)) j)) (nI j) μ := by
    have hle : ∀ j, j ≤ n → mx0 kb (fun w => sum10 z (μ 4 w)) j ≤ 1000000 := fun j _ => mx0_le (by omega) j (fun i hi => by have := sum10_le hz9 (μ 4 i); show sum10 z (μ 4 i) ≤ 1000000; omega)
    refine down_ind (hP _ _ _ (br_t (by rw [hn]; exact nI_self_le n) (H49 _ (hle n (Nat.le_refl _)) rfl))) (fun j hj ih => hP _ _ _ (br_f (by rw [hn]; exact nI_ge hj (by omega)) ⟨in9 (by omega) (by omega), sM_sizeE ?_⟩))
    have l1 := hle j (by omega)
    unfold T_X12_bound_40
    rw [nI_1, cl9 (show j < 1000000 by omega), sizeF_sum hz]
    have l2 := sum10_le hz9 (μ 4 j)
    rw [mx0_s] at ih
    have ih : P (nI (max (mx0 kb (fun w => sum10 z (μ 4 w)) j) (sum10 z (μ 4 j)))) (nI (j + 1)) μ := ih
    refine pk_le (sum10 z (μ 4 j)) (mx0 kb (fun w => sum10 z (μ 4 w)) j) (fun t => ?_) (fun t => ?_)
    · rw [Nat.max_eq_left t] at ih; exact ih
    · rw [Nat.max_eq_right (by omega)] at ih; exact ih
  exact H 0 (Nat.zero_le _)
theorem tw_bound {n m m' V : Nat} {z1 z2 : Nat → Nat} {μX μM : Mem} {G : Prop → Prop} {Q : Int32 → Int32 → Mem → Mem → Prop} (hG : ∀ T, T → G T) (hX : IX n m z1 z2 μX) (hM : IM n m' μM) (hK : RK n z1 z2 μX μM) (hC : CB n z1 V μX) (k : ∀ r r2 μ1, r = r2 → IX n m z1 z2 μ1 → Fr sB μX μ1 → CB n z1 V μ1 → Q r r2 μ1 μM) : T_X11_bound μX (fun r μ1 => G (T_X12_bound μM (fun r2 μ2 => Q r r2 μ1 μ2))) := by
  refine eX_refresh0 hX hC (fun μ1 hf hg hc => ?_)
  have h1 := IX_B hX hf
  have h9 := xN h1
  obtain ⟨hg1, b, hb0, e1, e2⟩ := hg
  have e14 : ∀ w, w < n → μ1 14 w = μM 4 w := fun w hw => by rw [hf 14 (by unfold sB; omega)]; exact (hK.1 w hw).1
  have e15 : ∀ w, w < n → μ1 15 w = μM 5 w := fun w hw => by rw [hf 15 (by unfold sB; omega)]; exact (hK.1 w hw).2
  have hcc : ∀ k, k ≤ n → CRs n (μ1 14) (μ1 15) z1 (2 ^ n) k (LT 48 μ1 k) ∧ μ1 48 k = nI (LT 48 μ1 k) := fun k hk => by
    obtain ⟨c, c1, c2⟩ := hg1 k hk
    have e : LT 48 μ1 k = c := by unfold LT; rw [c2]; exact nI_clamp (by have := c1.1; omega)
    rw [e]; exact ⟨c1, c2⟩
  have hccM : ∀ k, k ≤ n → CRs n (μM 4) (μM 5) z1 (2 ^ n) k (LT 48 μ1 k) := fun k hk => by
    obtain ⟨a, b, d⟩ := (hcc k hk).1
    refine ⟨a, fun s hs c1 c2 => ?_, ?_⟩
    · rw [← crC_cong e14]; exact b s hs (clo_cong (fun w hw => (e15 w hw).symm) c1) c2
    · rcases d with d | ⟨s, hs, c1, c2, c3⟩
      · exact Or.inl d
      · exact Or.inr ⟨s, hs, clo_cong e15 c1, c2, by rw [← crC_cong e14]; exact c3⟩
  refine eX_greatestCross (xW h1) h9 (c := LT 48 μ1) (fun k hk => ⟨(hcc k hk).2, (hcc k hk).1.1⟩) (eX_greatestNeed (xW h1) h9 h1.2.1 (hG _ (eM_bound hM.1 (fun t ht => (hK.2 t ht).1) hX.2.1.1 hccM (fun b' hb' => k _ _ μ1 ?_ h1 hf hc))))
  have eb : b = b' := SC_u e14 hb0 hb'
  subst eb
  have l1 := sum10_le hX.2.1.1 (nI b)
  have l2 : mx0 0 (fun w => sum10 z1 (μ1 14 w)) n ≤ 1000000 := mx0_le (by omega) n (fun i hi => by have := sum10_le hX.2.1.1 (μ1 14 i); show sum10 z1 (μ1 14 i) ≤ 1000000; omega)
  have l3 : mx0 0 (LT 48 μ1) (n + 1) ≤ 1000000 := mx0_le (by omega) (n + 1) (fun i hi => (hcc i (by omega)).1.1)
  rw [e2, nI_max l2 (by omega), nI_max l3 (by omega), mx0_max (mx0 (sum10 z1 (nI b)) _ n), mx0_max (sum10 z1 (nI b)), mx0_cong (f := fun w => sum10 z1 (μ1 14 w)) (g := fun w => sum10 z1 (μM 4 w)) n (fun w hw => by show sum10 z1 (μ1 14 w) = sum10 z1 (μM 4 w); rw [e14 w hw])]
  congr 1
  omega
