/-! cheapest: both answer alike -/
theorem pig : ∀ n (f : Nat → Nat), (∀ k, k < n → f k < n) → (∀ a b, a < n → b < n → f a = f b → a = b) → ∀ w, w < n → ∃ k, k < n ∧ f k = w := by
  intro n
  induction n with
  | zero => intro f _ _ w hw; exact absurd hw (by omega)
  | succ n ih =>
    intro f h1 h2 w hw
    have g1 : ∀ k, k < n → (if f k = n then f n else f k) < n := fun k hk => by
      have a := h1 k (by omega)
      have b := h1 n (by omega)
      split
      · have : f n ≠ n := fun e => by
          have := h2 k n (by omega) (by omega) (by omega)
          omega
        omega
      · omega
    have g2 : ∀ a b, a < n → b < n → (if f a = n then f n else f a) = (if f b = n then f n else f b) → a = b := fun a b ha hb0 e => by
      by_cases p : f a = n
      · by_cases q : f b = n
        · exact h2 a b (by omega) (by omega) (by omega)
        · rw [if_pos p, if_neg q] at e
          have := h2 n b (by omega) (by omega) e
          omega
      · by_cases q : f b = n
        · rw [if_neg p, if_pos q] at e
          have := h2 a n (by omega) (by omega) e
          omega
        · rw [if_neg p, if_neg q] at e
          exact h2 a b (by omega) (by omega) e
    have s := ih _ g1 g2
    by_cases e : w = f n
    · exact ⟨n, by omega, e.symm⟩
    · by_cases e2 : w = n
      · have hv := h1 n (by omega)
        obtain ⟨k, hk, ek⟩ := s (f n) (by omega)
        by_cases p : f k = n
        · exact ⟨k, by omega, by omega⟩
        · rw [if_neg p] at ek
          have := h2 k n (by omega) (by omega) ek
          omega
      · obtain ⟨k, hk, ek⟩ := s w (by omega)
        by_cases p : f k = n
        · rw [if_pos p] at ek; omega
        · rw [if_neg p] at ek; exact ⟨k, by omega, ek⟩
theorem PRM_sur {n : Nat} {ρ : Nat → Int32} (h9 : n ≤ 9) (h : PRM n ρ) : ∀ w, w < n → ∃ k, k < n ∧ (ρ k).toNatClampNeg = w := by
  refine pig n (fun k => (ρ k).toNatClampNeg) (fun k hk => ?_) (fun a b ha hb0 e => ?_)
  · obtain ⟨v, hv, e⟩ := h.1 k hk
    show (ρ k).toNatClampNeg < n
    rw [e, cl9 (by omega)]; exact hv
  · obtain ⟨v, hv, ev⟩ := h.1 a ha
    obtain ⟨u, hu, eu⟩ := h.1 b hb0
    have e : (ρ a).toNatClampNeg = (ρ b).toNatClampNeg := e
    rw [ev, eu, cl9 (show v < 1000000 by omega), cl9 (show u < 1000000 by omega)] at e
    exact h.2 a b ha hb0 (by rw [ev, eu, e])
theorem mx0_ge {f : Nat → Nat} : ∀ k i, i < k → f i ≤ mx0 0 f k := by
  intro k
  induction k with
  | zero => intro i hi; exact absurd hi (by omega)
  | succ k ih =>
    intro i hi
    rw [mx0_s]
    by_cases e : i = k
    · rw [e]; exact Nat.le_max_right _ _
    · exact Nat.le_trans (ih i (by omega)) (Nat.le_max_left _ _)
theorem mx0_at {f : Nat → Nat} {R : Nat} : ∀ k, R < mx0 0 f k → ∃ i, i < k ∧ R < f i := by
  intro k
  induction k with
  | zero => intro h; exact absurd h (Nat.not_lt_zero _)
  | succ k ih =>
    intro h
    rw [mx0_s] at h
    by_cases q : R < f k
    · exact ⟨k, by omega, q⟩
    · obtain ⟨i, hi, e⟩ := ih (by omega)
      exact ⟨i, by omega, e⟩
def sRX : Nat → Prop := fun q => q = 33 ∨ q = 34 ∨ (53 ≤ q ∧ q ≤ 55)
def sRM : Nat → Prop := fun q => q = 13 ∨ q = 20 ∨ q = 21
theorem DPc_eq {N Bt N' Bt' : Nat → Int32} {z zp V V' : Nat → Nat} {r k : Nat} (eN : ∀ i, i ≤ k → N i = N' i) (eB : ∀ i, i ≤ k → Bt i = Bt' i) (h : DPc N Bt z zp r k V) (h' : DPc N' Bt' z zp r k V') : V 0 = V' 0 := DPc_u k V V' (DPc_cong (m := k) eN eB k V (Nat.le_refl _) h) h' 0 (by omega)
section TwC
variable {n m : Nat} {z1 z2 : Nat → Nat} {μX μM : Mem}
theorem row_N {j : Nat} {μ2 : Mem} (h9 : n ≤ 9) (hM : IM n m μM) (hK : RK n z1 z2 μX μM) (hO : RO n m μX μM) (hj : j < m) (he : ∀ i, i < n → μ2 13 i = μM 12 (9 * j + i)) (h4 : μ2 4 = μM 4) : (∀ k, k < n → Nr (μX 14) (μX (25 + j)) k = Nr (μ2 4) (μ2 13) k) ∧ (∀ k, k < n → Br (μX 14) (μX (25 + j)) n k = Br (μ2 4) (μ2 13) n k) := by
  have er := RO_13 hO hj he
  have e14 : ∀ w, w < n → μX 14 w = μ2 4 w := fun w hw => by rw [h4]; exact (hK.1 w hw).1
  have eN := RO_val h9 hM hO hj e14
  have e1 : ∀ k, k < n → Nr (μX 14) (μX (25 + j)) k = Nr (μ2 4) (μ2 13) k := fun k hk => by
    show μX 14 (μX (25 + j) k).toNatClampNeg = μ2 4 (μ2 13 k).toNatClampNeg
    rw [er k hk]
    exact eN k hk
  refine ⟨e1, fun k hk => ?_⟩
  unfold Br
  rw [e1 k hk, openF_cg (fun k hk => (er k hk).symm) eN]
theorem tw_cheapest {x1 x2 : Int32} {G : Prop → Prop} {Q : Int32 → Int32 → Mem → Mem → Prop} (hG : ∀ T, T → G T) (hX : IX n m z1 z2 μX) (hM : IM n m μM) (hK : RK n z1 z2 μX μM) (hO : RO n m μX μM) (k : ∀ r r2 μ1 μ2, r = r2 → IX n m z1 z2 μ1 → IM n m μ2 → Fr sRX μX μ1 → Fr sRM μM μ2 → Q r r2 μ1 μ2) : T_X11_cheapest x1 x2 μX (fun r μ1 => G (T_X12_cheapest x1 x2 μM (fun r2 μ2 => Q r r2 μ1 μ2))) := by
  have h9 := xN hX
  have h8 := xM8 hX
  have k1 : ∀ r, Q r r μX μM := fun r => k _ _ μX μM rfl hX hM (Fr_rf _ _) (Fr_rf _ _)
  rcases in_or x1 m (by omega) with ho | ⟨j, hj, rfl⟩
  · exact sX_oHas (xM hX) h8 (fun _ => rb_f rfl (hG _ (sM_isOrder (mM hM) h8 (fun _ => rb_f rfl (k1 _)) (fun j hj e => absurd e (ho j hj))))) (fun j hj e => absurd e (ho j hj))
  refine sX_oHas (xM hX) h8 (fun q => absurd rfl (q j hj)) (fun _ _ _ => rb_t n10 ?_)
  rcases in_or x2 100 (by omega) with ho | ⟨R, hR, rfl⟩
  · have fin : T_X11_cheapest_23 (fun r μ1 => G (T_X12_cheapest (nI j) x2 μM (fun r2 μ2 => Q r r2 μ1 μ2))) μX := hG _ (sM_isOrder (mM hM) h8 (fun q => absurd rfl (q j hj)) (fun _ _ _ => rb_t n10 (sM_in0 (L := 99) (by omega) (fun _ => rb_f rfl (k1 _)) (fun i hi e => absurd e (ho i hi)))))
    refine ⟨fun _ => fin, fun q1 => ⟨fun q2 => ?_, fun _ => fin⟩⟩
    obtain ⟨i, hi, e⟩ := in_of (n := 99) (by omega) q1 (Int32.not_lt.mpr q2)
    exact absurd e (ho i hi)
  refine br_f (nI_pos (by omega)) (br_t (nI_le (b := 99) (by omega) (by omega)) ?_)
  have i1 := in9 (show j < 8 by omega) (show 8 < 1000000 by omega)
  rw [cl9 (show j < 1000000 by omega)]
  refine ⟨i1, eX_meas hX hj (fun μ1 hf1 h1 hMS => eX_greatestNeed (xW h1) h9 h1.2.1 ?_)⟩
  have f14 := hf1 14 (by unfold sG; omega)
  have fr := hf1 (25 + j) (by unfold sG; omega)
  have sG_X : Fr sRX μX μ1 := Fr_mono hf1 (fun q hq => by unfold sG at hq; unfold sRX; omega)
  have prm := PRM_sur h9 (PRM_cong (RO_row hO hj) (RO_prm hM hO hj))
  have hz9 := hX.2.1.1
  have hz29 := hX.2.2.1.1
  have gM : ∀ {μ1' : Mem} {r : Int32}, (∀ μ2, Fr (fun q => q = 13) μM μ2 → IM n m μ2 → RWn n 13 μ2 → (∀ i, i < n → μ2 13 i = μM 12 (9 * j + i)) → T_X12_cheapestWith (nI R) μ2 (fun r2 μ3 => Q r r2 μ1' μ3)) → G (T_X12_cheapest (nI j) (nI R) μM (fun r2 μ2 => Q r r2 μ1' μ2)) := fun {μ1' r} hh => hG _ (sM_isOrder (mM hM) h8 (fun q => absurd rfl (q j hj)) (fun _ _ _ => rb_t n10 (sM_in0 (L := 99) (by omega) (fun q => absurd rfl (q R (by omega))) (fun _ _ _ => rb_t n10 (sM_look hM hj (fun μ2 g1 g2 g3 g4 => hh μ2 g1 g2 g3 g4))))))
  have hz : ∀ μ2, Fr (fun q => q = 13) μM μ2 → ∀ t, t < 10 → μ2 6 t = nI (z1 t) := fun μ2 g t ht => by rw [g 6 (by omega)]; exact (hK.2 t ht).1
  have hz2 : ∀ μ2, Fr (fun q => q = 13) μM μ2 → ∀ t, t < 10 → μ2 7 t = nI (z2 t) := fun μ2 g t ht => by rw [g 7 (by omega)]; exact (hK.2 t ht).2
  have fM : ∀ {μ2 μ3 : Mem}, Fr (fun q => q = 13) μM μ2 → Fr s2021 μ2 μ3 → Fr sRM μM μ3 := fun a b => Fr_tr (Fr_mono a (fun q hq => Or.inl hq)) (Fr_mono b (fun q hq => Or.inr hq))
  have m9 : mx0 0 (fun w => sum10 z1 (μ1 14 w)) n ≤ 990 := mx0_le (by omega) n (fun i _ => sum10_le hz9 _)
  refine pk_le (mx0 0 (fun w => sum10 z1 (μ1 14 w)) n) R (fun hle => ⟨i1, ?_⟩) (fun hgt => ?_)
  · have hN : ∀ k, k < n → sum10 z1 (Nr (μ1 14) (μ1 (25 + j)) k) ≤ R := fun k hk => by
      obtain ⟨v, hv, e⟩ := (PRM_cong (RO_row hO hj) (RO_prm hM hO hj)).1 k hk
      refine Nat.le_trans (?_ : _ ≤ mx0 0 (fun w => sum10 z1 (μ1 14 w)) n) hle
      show sum10 z1 (μ1 14 (μ1 (25 + j) k).toNatClampNeg) ≤ _
      rw [fr, e, cl9 (by omega)]
      exact mx0_ge (f := fun w => sum10 z1 (μ1 14 w)) n v hv
    obtain ⟨p, q, hrm⟩ := h1.2.2.2.2.2.2.1
    refine eX_leastPrice h1.1 h1.2.1 h1.2.2.1 h1.2.2.2.1 (fun k hk => by rw [hMS.1 k hk, f14, fr]) (shXr (by omega)) (by unfold sR; omega) (xRow h1 hj) (p := p) (q := q) hrm (by omega) hN (fun V p' q' μ2 hf2 hrm2 hD => gM (fun μ3 g1 g2 g3 g4 => ?_))
    rw [f14, fr] at hD hN
    obtain ⟨eN, eB⟩ := row_N h9 hM hK hO hj g4 (g1 4 (by omega))
    refine eM_cheapestWith g2 (hz μ3 g1) hz9 (hz2 μ3 g1) hz29 g3 (by omega) (fun i μ4 hi hgt _ => absurd (hN i hi) (by rw [eN i hi]; omega)) (fun V' μ4 _ hD' hf4 => k _ _ μ2 μ4 ?_ (IX_R h1 hf2 (RMp_RM hrm2)) (IM_2021 g2 hf4) (Fr_tr sG_X (Fr_mono hf2 (fun q hq => Or.inr (Or.inr hq)))) (fM g1 hf4))
    by_cases n0 : n = 0
    · subst n0
      have a : V 0 = 0 := (show ∀ s, s < 1024 → V s = if s = 0 then 0 else 1000000 from hD) 0 (by omega)
      have b : V' 0 = 0 := (show ∀ s, s < 1024 → V' s = if s = 0 then 0 else 1000000 from hD') 0 (by omega)
      rw [a, b]
    · rw [DPc_eq (fun i hi => eN i (by omega)) (fun i hi => eB i (by omega)) hD hD']
  · refine gM (fun μ3 g1 g2 g3 g4 => ?_)
    obtain ⟨w, hw, hlt⟩ := mx0_at n hgt
    have hlt : R < sum10 z1 (μ1 14 w) := hlt
    obtain ⟨i, hi, ei⟩ := prm w hw
    obtain ⟨eN, eB⟩ := row_N h9 hM hK hO hj g4 (g1 4 (by omega))
    refine eM_cheapestWith g2 (hz μ3 g1) hz9 (hz2 μ3 g1) hz29 g3 (by omega) (fun _ μ4 _ _ hf4 => k _ _ μ1 μ4 rfl h1 (IM_2021 g2 hf4) sG_X (fM g1 hf4)) (fun V' μ4 hall _ _ => ?_)
    have := hall i hi
    rw [← eN i hi] at this
    have e2 : Nr (μX 14) (μX (25 + j)) i = μ1 14 w := by
      show μX 14 (μX (25 + j) i).toNatClampNeg = _
      rw [ei, f14]
    rw [e2] at this
    omega
end TwC
