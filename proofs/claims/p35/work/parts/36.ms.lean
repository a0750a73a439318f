/-! the reference's calls -/
section MCalls2
variable {n m : Nat} {μ : Mem} {post : Int32 → Mem → Prop} {x1 x2 x3 x4 x5 : Int32}
theorem pM_from (h : IM n m μ) (k : ∀ r μ', Fr sM μ μ' → IM n m μ' → post r μ') : T_X12_from x1 x2 x3 μ post := by
  have h9 := mN h
  have h8 := mM8 h
  have hp := pow9 h9
  have hp1 : 1 ≤ 2 ^ n := Nat.one_le_two_pow
  have k1 : ∀ r, post r μ := fun r => k r μ (Fr_rf _ _) h
  refine sM_isOrder (mM h) h8 (fun _ => rb_f rfl (k1 _)) (fun j hj e => rb_t n10 (sM_isIn (fun _ => br_t rfl (k1 _)) (fun q1 q2 => br_f n10 (sM_isIn (fun _ => rb_f rfl (k1 _)) (fun q3 q4 => rb_t n10 ?_)))))
  subst e
  rw [h.1.1] at q2
  obtain ⟨t, ht, et⟩ := in_of (n := n) (by omega) q1 q2
  subst et
  refine sM_look h hj (fun μ2 hf2 h2 hr he => ?_)
  have f2 := f13_M hf2
  have H74 : ∀ s, s < 2 ^ n → T_X12_from_74 post (nI t) x3 (nI s) 0 μ2 := by
    intro s hs P hP
    have H : ∀ i, i ≤ t → P (nI t) x3 (nI s) (nI i) μ2 := by
      refine down_ind (hP _ _ _ _ _ (br_t (nI_self_le t) (sM_all h2.1 (sM_leastOf h2.1 h2.2.2.1 (by omega) (fun μ3 μ4 hf4 hfu hf15 hz3 _ _ hE => ⟨in9 (by omega) (by omega), ?_⟩))))) (fun i hi ih => hP _ _ _ _ _ (br_f (nI_ge hi (by omega)) ?_))
      · rw [cl9 (show s < 1000000 by omega)]
        obtain ⟨g1, g2, -⟩ := hE s (by omega) (sub_all h9 hs)
        rw [g1]
        have hz4 : UZ μ4 := UZ_fr hz3 hf15 (by omega) (by omega)
        have h4 := IM_fr h2 (fL_M hf4) hz4
        refine sM_layLong h4.1 hz4 g2 (fun μ5 hf5 hL => ?_)
        have hz5 : UZ μ5 := UZ_fr hz4 hf5 (by omega) (by omega)
        have h5 := IM_fr h4 (f16_M hf5) hz5
        have kk : ∀ r, post r μ5 := fun r => k r μ5 (Fr_tr f2 (Fr_tr (fL_M hf4) (f16_M hf5))) h5
        exact ⟨fun _ => ⟨fun _ => sM_nextFrom h5.1 hz5 g2 hs (fun s hs => ⟨(hL s hs).1, (hL s hs).2.1⟩) (fun _ => kk _) (fun w _ _ _ => kk _), fun _ => ⟨in9 (by omega) (by omega), kk _⟩⟩, fun _ => kk _⟩
      · rw [nI_1, cl9 (show i < 1000000 by omega)]
        obtain ⟨a1, -⟩ := RWn_at h9 hr (show i < n by omega)
        exact ⟨in9 (by omega) (by omega), a1, fun _ => ih, fun _ => k _ μ2 f2 h2⟩
    exact H 0 (Nat.zero_le _)
  intro P hP
  have H : ∀ i, i ≤ t → ∀ s, s < 2 ^ n → P (nI t) x3 (nI s) (nI i) μ2 := by
    refine down_ind (fun s hs => hP _ _ _ _ _ (br_t (nI_self_le t) (H74 s hs))) (fun i hi ih s hs => hP _ _ _ _ _ (br_f (nI_ge hi (by omega)) ⟨in9 (by omega) (by omega), ?_⟩))
    rw [nI_1, cl9 (show i < 1000000 by omega)]
    obtain ⟨-, v, hv, ev, -⟩ := RWn_at h9 hr (show i < n by omega)
    rw [ev]
    obtain ⟨eo, ho⟩ := set_or (show s < 512 by omega) (show v < 9 by omega)
    rw [eo]
    exact ih _ (Nat.or_lt_two_pow hs (Nat.pow_lt_pow_right (by decide) hv))
  exact H 0 (Nat.zero_le _) 0 (by omega)
theorem pM_better (h : IM n m μ) (k : ∀ r μ', Fr sM μ μ' → IM n m μ' → post r μ') : T_X12_better x1 x2 μ post := by
  have h9 := mN h
  have h8 := mM8 h
  have k1 : ∀ r, post r μ := fun r => k r μ (Fr_rf _ _) h
  refine sM_isOrder (mM h) h8 (fun _ => br_t rfl (k1 _)) (fun i hi e => br_f n10 (sM_isOrder (mM h) h8 (fun _ => rb_f rfl (k1 _)) (fun j hj e2 => rb_t n10 ?_)))
  subst e e2
  refine sM_look h hi (fun μ2 hf2 h2 hr he => ?_)
  intro P hP
  have H : ∀ q, q ≤ n → ∀ μ3, Fr (fun q => q = 18) μ2 μ3 → (∀ i, i < q → ∃ v, v < n ∧ μ3 18 i = nI v) → P (nI j) (nI q) μ3 := by
    refine down_ind (fun μ3 hf3 hr3 => ?_) (fun q hq ih μ3 hf3 hr3 => ?_)
    · have h3 := IM_free h2 (Fr_mono hf3 (fun q hq => by unfold freM; omega))
      have kk : ∀ r, post r μ3 := fun r => k r μ3 (Fr_tr (f13_M hf2) (f18_M hf3)) h3
      exact hP _ _ _ (br_t (by rw [h3.1.1]; exact nI_self_le n) (sM_isBetter h3.1 rfl rfl (RWn_fr hr hf3 (by omega)) hr3 ⟨fun _ => kk _, fun _ => kk _⟩ (fun _ => ⟨fun _ => kk _, fun _ => kk _⟩)))
    · have h3 := IM_free h2 (Fr_mono hf3 (fun q hq => by unfold freM; omega))
      refine hP _ _ _ (br_f (by rw [h3.1.1]; exact nI_ge hq (by omega)) ?_)
      rw [nine_mul, nI_1, cl9 (show q < 1000000 by omega), cl9 (show 9 * j + q < 1000000 by omega)]
      refine ⟨in9 (by omega) (by omega), in9 (by omega) (by omega), ih _ (Fr_p hf3 rfl) (fun i hi => ?_)⟩
      rw [m2]
      by_cases e : i = q
      · subst e; rw [pk_us]; exact h3.2.2.2.2.2.2.2.2 j hj i hq
      · rw [pk_un e]; exact hr3 i (by omega)
  exact H 0 (Nat.zero_le _) μ2 (Fr_rf _ _) (fun i hi => absurd hi (by omega))
theorem pM_cross (h : IM n m μ) (k : ∀ r, post r μ) : T_X12_cross x1 μ post := sM_isIn (fun _ => br_t rfl (k _)) (fun _ _ => br_f n10 (sM_cross' h.1 (fun r => k r)))
theorem pM_knot (h : IM n m μ) (k : ∀ r, post r μ) : T_X12_knot x1 μ post := sM_isIn (fun _ => rb_f rfl (k _)) (fun _ _ => rb_t n10 (sM_knotOf' h.1 (fun r => ⟨fun _ => sM_sizeE (k _), fun _ => k _⟩)))
theorem pM_bound (h : IM n m μ) (k : ∀ r, post r μ) : T_X12_bound μ post := by
  have h9 := mN h
  have hn := h.1.1
  refine sM_knotOf' h.1 (fun r => sM_sizeE ?_)
  have H49 : ∀ y, T_X12_bound_49 post y 0 μ := by
    intro y P hP
    have H : ∀ j, j ≤ n + 1 → ∀ y, P y (nI j) μ := by
      refine down_ind (fun y => hP _ _ _ (br_t (by rw [hn]; exact nI_lt (by omega) (by omega)) (k _))) (fun j hj ih y => hP _ _ _ (br_f (by rw [hn]; exact nI_nlt (by omega) (by omega)) (sM_cross' h.1 (fun r => ?_))))
      unfold T_X12_bound_73
      rw [nI_1]
      exact ⟨fun _ => ih _, fun _ => ih _⟩
    exact H 0 (Nat.zero_le _) y
  intro P hP
  have H : ∀ j, j ≤ n → ∀ y, P y (nI j) μ := by
    refine down_ind (fun y => hP _ _ _ (br_t (by rw [hn]; exact nI_self_le n) (H49 y))) (fun j hj ih y => hP _ _ _ (br_f (by rw [hn]; exact nI_ge hj (by omega)) ⟨in9 (by omega) (by omega), sM_sizeE ?_⟩))
    unfold T_X12_bound_40
    rw [nI_1]
    exact ⟨fun _ => ih _, fun _ => ih _⟩
  exact H 0 (Nat.zero_le _) _
def sumN (f : Nat → Nat) : Nat → Nat := foldN (fun k s => s + f k) 0
theorem sumN_s (f : Nat → Nat) (k : Nat) : sumN f (k + 1) = sumN f k + f k := rfl
theorem sumN_lt {f g : Nat → Nat} {a : Nat} (h1 : ∀ i, i ≠ a → g i = f i) (h2 : g a < f a) : ∀ k, sumN g k + (if a < k then 1 else 0) ≤ sumN f k := by
  intro k
  induction k with
  | zero => rw [if_neg (by omega)]; exact Nat.le_refl _
  | succ k ih =>
    rw [sumN_s, sumN_s]
    by_cases e : k = a
    · subst e
      rw [if_neg (by omega)] at ih
      rw [if_pos (by omega)]
      omega
    · rw [h1 k e]
      by_cases q : a < k
      · rw [if_pos q] at ih; rw [if_pos (by omega)]; omega
      · rw [if_neg q] at ih; rw [if_neg (by omega)]; omega
theorem sM_layParts {post : Mem → Prop} (h : IM n m μ) (k : ∀ μ', Fr sM μ μ' → IM n m μ' → post μ') : T_X12_layParts μ post := by
  have h9 := mN h
  have hI : ∀ μ1, Fr (fun q => q = 19) μ μ1 → IM n m μ1 := fun μ1 hf => IM_free h (Fr_mono hf (fun q hq => by unfold freM; omega))
  have hk : ∀ μ1, Fr (fun q => q = 19) μ μ1 → post μ1 := fun μ1 hf => k μ1 (Fr_mono hf (fun q hq => by unfold sM; omega)) (hI μ1 hf)
  have pt : Nat → Mem → Prop := fun j μ1 => ∀ i, i < j → ∃ v, v < 9 ∧ μ1 19 i = nI v
  have H25 : ∀ μ1, Fr (fun q => q = 19) μ μ1 → (∀ i, i < n → ∃ v, v < 9 ∧ μ1 19 i = nI v) → T_X12_layParts_25 post 1 μ1 := by
    intro μ1 hf1 hp1 P hP
    have H : ∀ f μ2 x, sumN (fun i => (μ2 19 i).toNatClampNeg) n = f → Fr (fun q => q = 19) μ μ2 → (∀ i, i < n → ∃ v, v < 9 ∧ μ2 19 i = nI v) → P x μ2 := by
      intro f
      induction f using Nat.strongRecOn with
      | ind f ih =>
        intro μ2 x hf hfr hpt
        refine hP _ _ ⟨fun _ => hk μ2 hfr, fun _ => ?_⟩
        intro P33 hP33
        have H33 : ∀ a, a ≤ n → ∀ μ3 x, (x = 0 → sumN (fun i => (μ3 19 i).toNatClampNeg) n ≤ f) → (x ≠ 0 → sumN (fun i => (μ3 19 i).toNatClampNeg) n < f) → Fr (fun q => q = 19) μ μ3 → (∀ i, i < n → ∃ v, v < 9 ∧ μ3 19 i = nI v) → P33 x (nI a) μ3 := by
          refine down_ind (fun μ3 x hz hnz hfr3 hpt3 => ?_) (fun a ha ih3 μ3 x hz hnz hfr3 hpt3 => ?_)
          · refine hP33 _ _ _ (br_t (by rw [hfr3 0 (by omega), h.1.1]; exact nI_self_le n) ?_)
            by_cases e : x = 0
            · subst e
              exact hP _ _ (br_t rfl (hk μ3 hfr3))
            · exact ih _ (hnz e) μ3 x rfl hfr3 hpt3
          · refine hP33 _ _ _ (br_f (by rw [hfr3 0 (by omega), h.1.1]; exact nI_ge ha (by omega)) ?_)
            intro P43 hP43
            have H43 : ∀ b, b ≤ n → ∀ μ4 x, (x = 0 → sumN (fun i => (μ4 19 i).toNatClampNeg) n ≤ f) → (x ≠ 0 → sumN (fun i => (μ4 19 i).toNatClampNeg) n < f) → Fr (fun q => q = 19) μ μ4 → (∀ i, i < n → ∃ v, v < 9 ∧ μ4 19 i = nI v) → P43 x (nI a) (nI b) μ4 := by
              refine down_ind (fun μ4 x hz hnz hfr4 hpt4 => ?_) (fun b hb0 ih4 μ4 x hz hnz hfr4 hpt4 => ?_)
              · refine hP43 _ _ _ _ (br_t (by rw [hfr4 0 (by omega), h.1.1]; exact nI_self_le n) ?_)
                rw [nI_1]
                exact ih3 μ4 x hz hnz hfr4 hpt4
              · refine hP43 _ _ _ _ (br_f (by rw [hfr4 0 (by omega), h.1.1]; exact nI_ge hb0 (by omega)) ?_)
                have i1 := in9 (show a < 9 by omega) (by omega)
                have i2 := in9 (show b < 9 by omega) (by omega)
                rw [nI_1, cl9 (show a < 1000000 by omega), cl9 (show b < 1000000 by omega)]
                obtain ⟨va, hva, eva⟩ := hpt4 a ha
                obtain ⟨vb, hvb, evb⟩ := hpt4 b hb0
                refine ⟨i1, i2, fun _ => ih4 μ4 x hz hnz hfr4 hpt4, fun _ => ⟨i2, i1, ?_⟩⟩
                rw [eva, evb]
                refine pk_le va vb (fun _ => ih4 μ4 x hz hnz hfr4 hpt4) (fun hlt => ⟨i2, i1, ?_⟩)
                have hs := sumN_lt (f := fun i => (μ4 19 i).toNatClampNeg) (g := fun i => ((mset μ4 19 a (nI vb)) 19 i).toNatClampNeg) (a := a) (fun i hi => by show ((mset μ4 19 a (nI vb)) 19 i).toNatClampNeg = _; rw [m2, pk_un hi]) (by show ((mset μ4 19 a (nI vb)) 19 a).toNatClampNeg < (μ4 19 a).toNatClampNeg; rw [m2, pk_us, eva, cl9 (by omega), cl9 (by omega)]; exact hlt) n
                rw [if_pos ha] at hs
                have hs2 : sumN (fun i => ((mset μ4 19 a (nI vb)) 19 i).toNatClampNeg) n < f := by
                  by_cases e : x = 0
                  · have := hz e; omega
                  · have := hnz e; omega
                refine ih4 _ 1 (fun e => absurd e n10) (fun _ => hs2) (Fr_p hfr4 rfl) (fun i hi => ?_)
                rw [m2]
                by_cases e : i = a
                · subst e; rw [pk_us]; exact ⟨vb, hvb, rfl⟩
                · rw [pk_un e]; exact hpt4 i hi
            exact H43 0 (Nat.zero_le _) μ3 x hz hnz hfr3 hpt3
        exact H33 0 (Nat.zero_le _) μ2 0 (fun _ => by rw [hf]; exact Nat.le_refl _) (fun e => absurd rfl e) hfr hpt
    exact H _ μ1 1 rfl hf1 hp1
  intro P hP
  have H : ∀ j, j ≤ n → ∀ μ1, Fr (fun q => q = 19) μ μ1 → (∀ i, i < j → ∃ v, v < 9 ∧ μ1 19 i = nI v) → P (nI j) μ1 := by
    refine down_ind (fun μ1 hf hpt => hP _ _ (br_t (by rw [hf 0 (by omega), h.1.1]; exact nI_self_le n) (H25 μ1 hf hpt))) (fun j hj ih μ1 hf hpt => hP _ _ (br_f (by rw [hf 0 (by omega), h.1.1]; exact nI_ge hj (by omega)) ⟨in9 (by omega) (by omega), ?_⟩))
    rw [nI_1, cl9 (show j < 1000000 by omega)]
    refine ih _ (Fr_p hf rfl) (fun i hi => ?_)
    rw [m2]
    by_cases e : i = j
    · subst e; rw [pk_us]; exact ⟨i, by omega, rfl⟩
    · rw [pk_un e]; exact hpt i (by omega)
  exact H 0 (Nat.zero_le _) μ (Fr_rf _ _) (fun i hi => absurd hi (by omega))
theorem pM_part (h : IM n m μ) (k : ∀ r μ', Fr sM μ μ' → IM n m μ' → post r μ') : T_X12_part x1 μ post := by
  have h9 := mN h
  have h15 : (x1 = -1 ∨ ∃ j, j < n ∧ x1 = nI j) → T_X12_part_15 post x1 μ := by
    intro hx
    refine sM_layParts h (fun μ2 hf2 h2 => ⟨fun _ => ?_, fun q => ⟨?_, k _ μ2 hf2 h2⟩⟩)
    · intro P hP
      have H : ∀ j, j ≤ n → ∀ y, P y (nI j) μ2 := by
        refine down_ind (fun y => hP _ _ _ (br_t (by rw [h2.1.1]; exact nI_self_le n) (k _ μ2 hf2 h2))) (fun j hj ih y => hP _ _ _ (br_f (by rw [h2.1.1]; exact nI_ge hj (by omega)) ⟨in9 (by omega) (by omega), ?_⟩))
        unfold T_X12_part_58
        rw [nI_1]
        exact ⟨fun _ => ih _, fun _ => ih _⟩
      exact H 0 (Nat.zero_le _) _
    · rcases hx with e | ⟨j, hj, e⟩
      · subst e; exact absurd (by decide) q
      · subst e; exact in9 (by omega) (by omega)
  exact ⟨fun q => h15 (Or.inl q), fun _ => sM_isWork h.1 (fun _ => rb_f rfl (k _ μ (Fr_rf _ _) h)) (fun j hj e => rb_t n10 (h15 (Or.inr ⟨j, hj, e⟩)))⟩
theorem pM_within (h : IM n m μ) (k : ∀ r, post r μ) : T_X12_within μ post := sM_within' h.1 (fun r => k r)
/-- what comes() leaves -/
theorem sM_comes (h : IM n m μ) (hr : RWn n 13 μ) (kF : m = 8 → post (-4) μ) (k : m < 8 → ∀ μ', Fr (fun q => q = 0 ∨ q = 11 ∨ q = 12) μ μ' → μ' 0 = upd (μ 0) 17 (nI (m + 1)) → μ' 11 = upd (μ 11) m x1 → (∀ i, i < n → μ' 12 (9 * m + i) = μ 13 i) → (∀ i, i < 9 * m → μ' 12 i = μ 12 i) → IM n (m + 1) μ' → post (nI m) μ') : T_X12_comes x1 μ post := by
  have h9 := mN h
  have h8 := mM8 h
  unfold T_X12_comes
  rw [mM h, cl9 (show m < 1000000 by omega)]
  refine ⟨fun q => ?_, fun q => kF ((nI_eq (by omega) (by omega)).mp q)⟩
  have hm : m < 8 := by
    rcases Nat.lt_or_ge m 8 with t | t
    · exact t
    · exact absurd (by rw [show m = 8 by omega]; rfl) q
  refine ⟨in9 hm (by omega), ?_⟩
  intro P hP
  have H : ∀ j, j ≤ n → ∀ μ1, Fr (fun q => q = 11 ∨ q = 12) μ μ1 → μ1 11 = upd (μ 11) m x1 → (∀ i, i < j → μ1 12 (9 * m + i) = μ 13 i) → (∀ i, i < 9 * m → μ1 12 i = μ 12 i) → P (nI j) μ1 := by
    refine down_ind (fun μ1 hf e11 er eo => ?_) (fun j hj ih μ1 hf e11 er eo => ?_)
    · refine hP _ _ (br_t (by rw [hf 0 (by omega), h.1.1]; exact nI_self_le n) ?_)
      rw [hf 0 (by omega), mM h, nI_1, m2, pk_us, nI_pred]
      have f0 : Fr (fun q => q = 0 ∨ q = 11 ∨ q = 12) μ (mset μ1 0 17 (nI (m + 1))) := Fr_p (Fr_mono hf (fun q hq => by omega)) (Or.inl rfl)
      have g12 : (mset μ1 0 17 (nI (m + 1))) 12 = μ1 12 := mput_o (by decide)
      refine k hm _ f0 (by rw [m2, hf 0 (by omega)]) (by unfold mset; rw [mput_o (by decide)]; exact e11) (fun i hi => by rw [g12]; exact er i hi) (fun i hi => by rw [g12]; exact eo i hi) ?_
      obtain ⟨a1, a2, a3, a4, a5, a6, a7, a8, a9⟩ := h
      refine ⟨WM_of a1 (by rw [m2, pk_un (by decide), hf 0 (by omega)]) (f0 4 (by omega)) (f0 6 (by omega)), ?_, UZ_fr a3 f0 (by omega) (by omega), ?_, ?_, ?_, by omega, ?_, fun j hj i2 hi2 => ?_⟩
      · rw [f0 5 (by omega)]; exact a2
      · rw [f0 2 (by omega)]; exact a4
      · rw [f0 8 (by omega)]; exact a5
      · rw [f0 10 (by omega)]; exact a6
      · rw [m2, pk_us]
      · rw [g12]
        by_cases e : j = m
        · subst e; rw [er i2 hi2]; exact hr i2 hi2
        · rw [eo _ (by omega)]; exact a9 j (by omega) i2 hi2
    · refine hP _ _ (br_f (by rw [hf 0 (by omega), h.1.1]; exact nI_ge hj (by omega)) ?_)
      rw [hf 0 (by omega), mM h, nine_mul, nI_1, cl9 (show j < 1000000 by omega), cl9 (show 9 * m + j < 1000000 by omega), hf 13 (by omega)]
      refine ⟨in9 (by omega) (by omega), in9 (by omega) (by omega), ih _ (Fr_p hf (Or.inr rfl)) (by unfold mset; rw [mput_o (by decide)]; exact e11) (fun i hi => ?_) (fun i hi => ?_)⟩
      · rw [m2]
        by_cases e : i = j
        · subst e; rw [pk_us]
        · rw [pk_un (by omega)]; exact er i (by omega)
      · rw [m2, pk_un (by omega)]; exact eo i hi
  refine H 0 (Nat.zero_le _) _ (Fr_put _ _ (Or.inl rfl)) (by rw [m2]) (fun i hi => absurd hi (by omega)) (fun i hi => by unfold mset; rw [mput_o (by decide)])
theorem sM_chosen {s l : Nat} (h : IM n m μ) (hs : s < 2 ^ n) (hne : s ≠ 2 ^ n - 1) (hl : 0 < l) (hl2 : l < 1000) (k : ∀ w, w < n → mcN μ (2 ^ n - 1) s w = true → post (nI w) μ) : T_X12_chosen x1 (nI l) (nI s) μ post := by
  have h9 := mN h
  have hp := pow9 h9
  intro P hP
  have H : ∀ j, j ≤ n → ∀ x4 x5, ((x4 = -9 ∧ x5 = nI l ∧ ∀ v, v < j → mcN μ (2 ^ n - 1) s v = false) ∨ (∃ b, b < n ∧ x4 = nI b ∧ mcN μ (2 ^ n - 1) s b = true)) → P x1 (nI s) x4 x5 (nI j) μ := by
    refine down_ind (fun x4 x5 hi => ?_) (fun j hj ih x4 x5 hi => ?_)
    · refine hP _ _ _ _ _ _ (br_t (by rw [h.1.1]; exact nI_self_le n) ?_)
      rcases hi with ⟨-, -, hno⟩ | ⟨b, hb0, e, hc⟩
      · obtain ⟨w, hw, hc⟩ := some_may h9 h.2.1.1 hs hne
        rw [hno w hw] at hc
        exact absurd hc (by decide)
      · rw [e]; exact k b hb0 hc
    · refine hP _ _ _ _ _ _ (br_f (by rw [h.1.1]; exact nI_ge hj (by omega)) ⟨fun q => ?_, fun q => ?_⟩)
      · rcases hi with ⟨-, e, -⟩ | ⟨b, hb0, e, hc⟩
        · rw [e] at q; exact absurd q (nI_nle hl (by omega))
        · rw [e]; exact k b hb0 hc
      · refine sM_all h.1 (sM_mayComeE (by omega) (fun q2 => rb_f rfl ?_) (fun q2 => rb_t n10 ⟨fun q3 => ?_, fun q3 => ?_⟩))
        · rw [nI_1]
          refine ih x4 x5 ?_
          rcases hi with ⟨e1, e2, hno⟩ | hi
          · refine Or.inl ⟨e1, e2, fun v hv => ?_⟩
            by_cases e : v = j
            · subst e; exact q2
            · exact hno v (by omega)
          · exact Or.inr hi
        · unfold T_X12_chosen_70
          rw [nI_1]
          exact ih _ _ (Or.inr ⟨j, hj, rfl, q2⟩)
        · rcases hi with ⟨e1, -, -⟩ | ⟨b, hb0, e, hc⟩
          · exact absurd e1 q3
          · subst e
            refine sM_dislikes' h.1 (by omega) (fun r => sM_dislikes' h.1 (by omega) (fun r2 => ?_))
            unfold T_X12_chosen_70
            rw [nI_1]
            exact ⟨fun _ => ih _ _ (Or.inr ⟨b, hb0, rfl, hc⟩), fun _ => ih _ _ (Or.inr ⟨j, hj, rfl, q2⟩)⟩
  exact H 0 (Nat.zero_le _) _ _ (Or.inl ⟨rfl, rfl, fun v hv => absurd hv (by omega)⟩)
def sMc : Nat → Prop := fun q => q = 0 ∨ 11 ≤ q
theorem pM_build (h : IM n m μ) (k : ∀ r m' μ', Fr sMc μ μ' → (∀ s, s ≠ 17 → μ' 0 s = μ 0 s) → IM n m' μ' → post r μ') : T_X12_build x1 x2 μ post := by
  have h9 := mN h
  have h8 := mM8 h
  have hp := pow9 h9
  have k1 : ∀ r, post r μ := fun r => k r m μ (Fr_rf _ _) (fun _ _ => rfl) h
  refine sM_isIn (fun _ => br_t rfl (k1 _)) (fun _ _ => br_f n10 (sM_isIn (fun _ => rb_f rfl (k1 _)) (fun q1 q2 => rb_t n10 ⟨fun q0 => ?_, fun _ => k1 _⟩)))
  obtain ⟨l, hl, rfl⟩ := rngI 1 9 (by omega) q1 q2 (by omega)
  intro P hP
  have H : ∀ j, j ≤ n → ∀ s μ2, s < 2 ^ n → cntB (nI s) n = j → Fr (fun q => q = 13) μ μ2 → (∀ i, i < j → ∃ v, v < n ∧ μ2 13 i = nI v) → P x1 (nI (1 + l)) (nI s) (nI j) μ2 := by
    refine down_ind (fun s μ2 hs hc hf hr => ?_) (fun j hj ih s μ2 hs hc hf hr => ?_)
    · have h2 := IM_free h (Fr_mono hf (fun q hq => by unfold freM; omega))
      have g0 : ∀ s, μ2 0 s = μ 0 s := fun s => by rw [hf 0 (by omega)]
      refine hP _ _ _ _ _ (br_t (by rw [h2.1.1]; exact nI_self_le n) (sM_comes h2 hr (fun _ => k _ m μ2 (Fr_mono hf (fun q hq => by unfold sMc; omega)) (fun s _ => g0 s) h2) (fun _ μ3 hf3 e0 _ _ _ h3 => k _ (m + 1) μ3 (Fr_tr (Fr_mono hf (fun q hq => by unfold sMc; omega)) (Fr_mono hf3 (fun q hq => by unfold sMc; omega))) (fun s hs => ?_) h3)))
      rw [e0, pk_un hs]; exact g0 s
    · have h2 := IM_free h (Fr_mono hf (fun q hq => by unfold freM; omega))
      refine hP _ _ _ _ _ (br_f (by rw [h2.1.1]; exact nI_ge hj (by omega)) ?_)
      have hne : s ≠ 2 ^ n - 1 := fun e => by
        rw [e, cntB_all h9 n (Nat.le_refl _)] at hc
        omega
      refine sM_chosen h2 hs hne (by omega) (by omega) (fun w hw hmc => ?_)
      have i1 := in9 (show j < 9 by omega) (by omega)
      refine ⟨i1, i1, ?_⟩
      rw [nI_1, cl9 (show j < 1000000 by omega), m2, pk_us]
      have hcn := cntB_or (show w < 32 by omega) (mcN_b hmc).2 n
      obtain ⟨eo, ho⟩ := set_or (show s < 512 by omega) (show w < 9 by omega)
      rw [eo] at hcn ⊢
      rw [if_pos hw, hc] at hcn
      refine ih _ _ (Nat.or_lt_two_pow hs (Nat.pow_lt_pow_right (by decide) hw)) hcn (Fr_p hf rfl) (fun i hi => ?_)
      rw [m2]
      by_cases e : i = j
      · subst e; rw [pk_us]; exact ⟨w, hw, rfl⟩
      · rw [pk_un e]; exact hr i (by omega)
  have c0 : ∀ k, cntB (nI 0) k = 0 := by
    intro k
    induction k with
    | zero => rfl
    | succ k ih => rw [cntB_s, ih, show nI 0 = 0 from rfl, hb_0]; rfl
  exact H 0 (Nat.zero_le _) 0 μ Nat.one_le_two_pow (c0 n) (Fr_rf _ _) (fun i hi => absurd hi (by omega))
end MCalls2
