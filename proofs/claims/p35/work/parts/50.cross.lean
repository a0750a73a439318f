/-! exact: closed sets, needs, counts of bits; crossings of both sides -/
theorem hbt {x : Int32} {k : Nat} (h : ¬ hb x k = false) : hb x k = true := by
  cases p : hb x k
  · exact absurd p h
  · rfl
def clo (n : Nat) (bf : Nat → Int32) (x : Int32) : Prop := ∀ w, w < n → hb x w = true → bf w &&& (x ^^^ (-1)) = 0
theorem clo_cong {n : Nat} {bf bf' : Nat → Int32} {x : Int32} (e : ∀ w, w < n → bf w = bf' w) (h : clo n bf x) : clo n bf' x := fun w hw hb0 => by rw [← e w hw]; exact h w hw hb0
theorem eX_isClosed {n : Nat} {x : Int32} {μ : Mem} {post : Int32 → Mem → Prop} (hn : μ 13 4 = nI n) (h9 : n ≤ 9) (h0 : ¬ clo n (μ 15) x → post 0 μ) (h1 : clo n (μ 15) x → post 1 μ) : T_X10_isClosed x μ post := by
  intro P hP
  have H : ∀ j, j ≤ n → (∀ w, w < j → hb x w = true → μ 15 w &&& (x ^^^ (-1)) = 0) → P x (nI j) μ := by
    refine down_ind (fun hc => hP _ _ _ (br_t (by rw [hn]; exact nI_self_le n) (h1 hc))) (fun j hj ih hc => hP _ _ _ (br_f (by rw [hn]; exact nI_ge hj (by omega)) ?_))
    rw [nI_1, bit_z x (show j < 32 by omega), cl9 (show j < 1000000 by omega)]
    refine ⟨fun q => ih (fun w hw hb0 => ?_), fun q => ⟨in9 (by omega) (by omega), fun q2 => ih (fun w hw hb0 => ?_), fun q2 => h0 (fun c => q2 (c j hj (hbt q)))⟩⟩
    · by_cases e : w = j
      · subst e; rw [q] at hb0; exact absurd hb0 (by decide)
      · exact hc w (by omega) hb0
    · by_cases e : w = j
      · subst e; exact q2
      · exact hc w (by omega) hb0
  exact H 0 (Nat.zero_le _) (fun w hw => absurd hw (by omega))
theorem eM_isClosed {n : Nat} {x : Int32} {μ : Mem} {post : Int32 → Mem → Prop} (h : WM n μ) (h0 : ¬ clo n (μ 5) x → post 0 μ) (h1 : clo n (μ 5) x → post 1 μ) : T_X12_isClosed x μ post := by
  obtain ⟨hn, h9, -⟩ := h
  intro P hP
  have H : ∀ j, j ≤ n → (∀ w, w < j → hb x w = true → μ 5 w &&& (x ^^^ (-1)) = 0) → P x (nI j) μ := by
    refine down_ind (fun hc => hP _ _ _ (br_t (by rw [hn]; exact nI_self_le n) (h1 hc))) (fun j hj ih hc => hP _ _ _ (br_f (by rw [hn]; exact nI_ge hj (by omega)) ?_))
    rw [nI_1, cl9 (show j < 1000000 by omega)]
    refine sM_hasB (by omega) (fun q => br_t rfl (ih (fun w hw hb0 => ?_))) (fun q => br_f n10 ⟨in9 (by omega) (by omega), fun q2 => ih (fun w hw hb0 => ?_), fun q2 => h0 (fun c => q2 (c j hj q))⟩)
    · by_cases e : w = j
      · subst e; rw [q] at hb0; exact absurd hb0 (by decide)
      · exact hc w (by omega) hb0
    · by_cases e : w = j
      · subst e; exact q2
      · exact hc w (by omega) hb0
  exact H 0 (Nat.zero_le _) (fun w hw => absurd hw (by omega))
theorem needF_s (nd : Nat → Int32) (x : Int32) (k : Nat) : needF nd x (k + 1) = needF nd x k ||| (if hb x k then nd k else 0) := rfl
theorem needF_cong {nd nd' : Nat → Int32} {x : Int32} : ∀ n, (∀ w, w < n → nd w = nd' w) → needF nd x n = needF nd' x n := by
  intro n
  induction n with
  | zero => intro _; rfl
  | succ k ih =>
    intro e
    rw [needF_s, needF_s, ih (fun w hw => e w (by omega)), e k (by omega)]
theorem eX_neededBy {n : Nat} {x : Int32} {μ : Mem} {post : Int32 → Mem → Prop} (hn : μ 13 4 = nI n) (h9 : n ≤ 9) (k : post (needF (μ 14) x n) μ) : T_X10_neededBy x μ post := by
  intro P hP
  have H : ∀ j, j ≤ n → P x (needF (μ 14) x j) (nI j) μ := by
    refine down_ind (hP _ _ _ _ (br_t (by rw [hn]; exact nI_self_le n) k)) (fun j hj ih => hP _ _ _ _ (br_f (by rw [hn]; exact nI_ge hj (by omega)) ?_))
    rw [nI_1, bit_z x (show j < 32 by omega), cl9 (show j < 1000000 by omega)]
    rw [needF_s] at ih
    refine ⟨fun q => ?_, fun q => ⟨in9 (by omega) (by omega), ?_⟩⟩
    · rw [q] at ih
      have ih : P x (needF (μ 14) x j ||| 0) (nI (j + 1)) μ := ih
      rw [or0] at ih; exact ih
    · rw [hbt q] at ih; exact ih
  exact H 0 (Nat.zero_le _)
theorem eM_bitsOf {x : Int32} {μ : Mem} {post : Int32 → Mem → Prop} (k : post (nI (cntB x 10)) μ) : T_X12_bitsOf x μ post := by
  intro P hP
  have H : ∀ j, j ≤ 10 → P x (nI (cntB x j)) (nI j) μ := by
    refine down_ind (hP _ _ _ _ (br_t (by decide) k)) (fun j hj ih => hP _ _ _ _ (br_f (nI_ge hj (by decide)) ?_))
    rw [nI_1, bit_test x (show j < 32 by omega)]
    rw [cntB_s] at ih
    cases q : hb x j
    · rw [q] at ih
      have e : nI (cntB x j) + (if false = true then (1 : Int32) else 0) = nI (cntB x j + 0) := nI_add _ 0
      rw [e]; exact ih
    · rw [q] at ih
      have e : nI (cntB x j) + (if true = true then (1 : Int32) else 0) = nI (cntB x j + 1) := nI_add _ 1
      rw [e]; exact ih
  exact H 0 (Nat.zero_le _)
theorem sizeF_N {sz : Nat → Int32} {z : Nat → Nat} {x : Int32} : ∀ k, (∀ t, t < k → sz t = nI (z t)) → sizeF sz x k = nI (sumN (fun t => bz (hb x t) (z t)) k) := by
  intro k
  induction k with
  | zero => intro _; rfl
  | succ k ih =>
    intro h
    have e : sizeF sz x (k + 1) = sizeF sz x k + (if hb x k then sz k else 0) := rfl
    rw [e, ih (fun t ht => h t (by omega)), sumN_s, h k (by omega)]
    cases hb x k
    · exact nI_add _ 0
    · exact nI_add _ _
theorem sizeF_sum {sz : Nat → Int32} {z : Nat → Nat} {x : Int32} (h : ∀ t, t < 10 → sz t = nI (z t)) : sizeF sz x 10 = nI (sum10 z x) := by
  rw [sizeF_N 10 h]
  congr 1
  have e : ∀ g : Nat → Nat, sumN g 10 = 0 + g 0 + g 1 + g 2 + g 3 + g 4 + g 5 + g 6 + g 7 + g 8 + g 9 := fun g => rfl
  rw [e]
  unfold sum10
  omega
theorem bc_cnt {s : Nat} (h : s < 1024) : bcF (nI s) = nI (cntB (nI s) 10) := by
  have : ∀ s, s < 1024 → bcF (nI s) = nI (cntB (nI s) 10) := by decide +kernel
  exact this s h
theorem cnt_n {n s : Nat} (hn : n ≤ 9) (h : s < 2 ^ n) : cntB (nI s) 10 ≤ n := by
  have : ∀ n, n ≤ 9 → ∀ s, s < 2 ^ n → cntB (nI s) 10 ≤ n := by decide +kernel
  exact this n hn s h
def crC (n : Nat) (nd : Nat → Int32) (z : Nat → Nat) (s : Nat) : Nat := sum10 z (needF nd (nI s) n &&& needF nd (nI (2 ^ n - 1) &&& (nI s ^^^ (-1))) n)
/-- c is the least crossing after k, of the sets below S -/
def CRs (n : Nat) (nd bf : Nat → Int32) (z : Nat → Nat) (S k c : Nat) : Prop := c ≤ 1000000 ∧ (∀ s, s < S → clo n bf (nI s) → cntB (nI s) 10 = k → c ≤ crC n nd z s) ∧ (c = 1000000 ∨ ∃ s, s < S ∧ clo n bf (nI s) ∧ cntB (nI s) 10 = k ∧ c = crC n nd z s)
theorem CRs_0 (n : Nat) (nd bf : Nat → Int32) (z : Nat → Nat) (k : Nat) : CRs n nd bf z 0 k 1000000 := ⟨Nat.le_refl _, fun s hs => absurd hs (by omega), Or.inl rfl⟩
theorem CRs_skip {n S k c : Nat} {nd bf : Nat → Int32} {z : Nat → Nat} (h : CRs n nd bf z S k c) (q : ¬ (clo n bf (nI S) ∧ cntB (nI S) 10 = k)) : CRs n nd bf z (S + 1) k c := by
  obtain ⟨a, b, d⟩ := h
  refine ⟨a, fun s hs c1 c2 => ?_, ?_⟩
  · by_cases e : s = S
    · subst e; exact absurd ⟨c1, c2⟩ q
    · exact b s (by omega) c1 c2
  · rcases d with d | ⟨s, hs, d⟩
    · exact Or.inl d
    · exact Or.inr ⟨s, by omega, d⟩
theorem CRs_take {n S k c : Nat} {nd bf : Nat → Int32} {z : Nat → Nat} (h : CRs n nd bf z S k c) (c1 : clo n bf (nI S)) (c2 : cntB (nI S) 10 = k) : CRs n nd bf z (S + 1) k (if crC n nd z S < c then crC n nd z S else c) := by
  obtain ⟨a, b, d⟩ := h
  by_cases q : crC n nd z S < c
  · rw [if_pos q]
    refine ⟨by omega, fun s hs e1 e2 => ?_, Or.inr ⟨S, by omega, c1, c2, rfl⟩⟩
    by_cases e : s = S
    · subst e; exact Nat.le_refl _
    · have := b s (by omega) e1 e2; omega
  · rw [if_neg q]
    refine ⟨a, fun s hs e1 e2 => ?_, ?_⟩
    · by_cases e : s = S
      · subst e; omega
      · exact b s (by omega) e1 e2
    · rcases d with d | ⟨s, hs, d⟩
      · exact Or.inl d
      · exact Or.inr ⟨s, by omega, d⟩
theorem crC_cong {n s : Nat} {nd nd' : Nat → Int32} {z : Nat → Nat} (e : ∀ w, w < n → nd w = nd' w) : crC n nd z s = crC n nd' z s := by
  unfold crC
  rw [needF_cong n e, needF_cong n e]
theorem CRs_u {n S k c c' : Nat} {nd bf nd' bf' : Nat → Int32} {z : Nat → Nat} (hz : ∀ t, z t ≤ 99) (e1 : ∀ w, w < n → nd w = nd' w) (e2 : ∀ w, w < n → bf w = bf' w) (h : CRs n nd bf z S k c) (h' : CRs n nd' bf' z S k c') : c = c' := by
  obtain ⟨a, b, d⟩ := h
  obtain ⟨a', b', d'⟩ := h'
  have le1 : c' ≤ c := by
    rcases d with d | ⟨s, hs, c1, c2, c3⟩
    · omega
    · have := b' s hs (clo_cong e2 c1) c2
      rw [← crC_cong e1] at this; omega
  have le2 : c ≤ c' := by
    rcases d' with d | ⟨s, hs, c1, c2, c3⟩
    · omega
    · have := b s hs (clo_cong (fun w hw => (e2 w hw).symm) c1) c2
      rw [crC_cong e1] at this; omega
  omega
theorem eX_fillCrossings {n : Nat} {z : Nat → Nat} {μ : Mem} {post : Mem → Prop} (h : WK n μ) (hz : ScR 16 z μ) (k : ∀ μ', Fr (fun q => q = 48) μ μ' → (∀ k, k ≤ n → ∃ c, CRs n (μ 14) (μ 15) z (2 ^ n) k c ∧ μ' 48 k = nI c) → post μ') : T_X0_fillCrossings μ post := by
  have h9 := h.2.1
  have hp := pow9 h9
  have hp1 : 1 ≤ 2 ^ n := Nat.one_le_two_pow
  have inner : ∀ μ1, Fr (fun q => q = 48) μ μ1 → (∀ k, k ≤ n → μ1 48 k = nI 1000000) → T_X0_fillCrossings_37 post (nI (2 ^ n - 1)) 0 μ1 := by
    intro μ1 hf1 h1 P hP
    have H : ∀ j, j ≤ 2 ^ n → ∀ μ2, Fr (fun q => q = 48) μ μ2 → (∀ k, k ≤ n → ∃ c, CRs n (μ 14) (μ 15) z j k c ∧ μ2 48 k = nI c) → P (nI (2 ^ n - 1)) (nI j) μ2 := by
      refine down_ind (fun μ2 hf hc => hP _ _ _ (br_t (nI_lt (by omega) (by omega)) (k μ2 hf hc))) (fun j hj ih μ2 hf hc => hP _ _ _ (br_f (nI_nlt (by omega) (by omega)) ?_))
      have hn2 : μ2 13 4 = nI n := by rw [hf 13 (by omega)]; exact h.1
      have hz2 : ScR 16 z μ2 := ScR_fr hz hf (by omega) (by omega)
      have e14 := hf 14 (by omega)
      have e15 := hf 15 (by omega)
      rw [nI_1]
      refine eX_isClosed hn2 h9 (fun q => br_t rfl (ih μ2 hf (fun k hk => ?_))) (fun q => br_f n10 (sX_bitCount ?_))
      · obtain ⟨c, c1, c2⟩ := hc k hk
        exact ⟨c, CRs_skip c1 (fun t => q (by rw [e15]; exact t.1)), c2⟩
      rw [bc_cnt (show j < 1024 by omega)]
      have hcn := cnt_n h9 hj
      generalize hcnt : cntB (nI j) 10 = cj at hcn
      have i1 := in9 (show cj < 10 by omega) (show 10 < 1000000 by omega)
      refine eX_neededBy hn2 h9 (eX_neededBy hn2 h9 ⟨i1, sX_sumE hz2 ⟨i1, ?_⟩⟩)
      rw [cl9 (show cj < 1000000 by omega), e14]
      refine ih _ (Fr_p hf rfl) (fun k hk => ?_)
      rw [m2]
      obtain ⟨c, c1, c2⟩ := hc k hk
      by_cases e : k = cj
      · subst e
        have hle := sum10_le hz.1 (needF (μ 14) (nI j) n &&& needF (μ 14) (nI (2 ^ n - 1) &&& (nI j ^^^ (-1))) n)
        refine ⟨_, CRs_take c1 (by rw [← e15]; exact q) hcnt, ?_⟩
        rw [pk_us, c2]
        have hcm := c1.1
        unfold crC
        generalize sum10 z (needF (μ 14) (nI j) n &&& needF (μ 14) (nI (2 ^ n - 1) &&& (nI j ^^^ (-1))) n) = v at hle ⊢
        rcases Nat.lt_or_ge v c with t | t
        · rw [if_pos (nI_lt t (by omega)), if_pos t]
        · rw [if_neg (nI_nlt t (by omega)), if_neg (by omega)]
      · rw [pk_un e]
        exact ⟨c, CRs_skip c1 (fun t => e (t.2.symm.trans hcnt)), c2⟩
    exact H 0 (Nat.zero_le _) μ1 hf1 (fun k hk => ⟨1000000, CRs_0 _ _ _ _ _, h1 k hk⟩)
  intro P hP
  have H : ∀ j, j ≤ n + 1 → ∀ μ2, Fr (fun q => q = 48) μ μ2 → (∀ k, k < j → μ2 48 k = nI 1000000) → P (nI j) μ2 := by
    refine down_ind (fun μ2 hf hk => ?_) (fun j hj ih μ2 hf hk => ?_)
    · have hn2 : μ2 13 4 = nI n := by rw [hf 13 (by omega)]; exact h.1
      exact hP _ _ (br_t (by rw [hn2]; exact nI_lt (by omega) (by omega)) (sX_all hn2 h9 (inner μ2 hf (fun k q => hk k (by omega)))))
    · have hn2 : μ2 13 4 = nI n := by rw [hf 13 (by omega)]; exact h.1
      refine hP _ _ (br_f (by rw [hn2]; exact nI_nlt (by omega) (by omega)) ?_)
      rw [nI_1, cl9 (show j < 1000000 by omega)]
      refine ⟨in9 (by omega) (by omega), ih _ (Fr_p hf rfl) (fun k q => ?_)⟩
      rw [m2]
      by_cases e : k = j
      · subst e; rw [pk_us]; rfl
      · rw [pk_un e]; exact hk k (by omega)
  exact H 0 (Nat.zero_le _) μ (Fr_rf _ _) (fun k hk => absurd hk (by omega))
theorem eM_crossOf {n k0 : Nat} {z : Nat → Nat} {μ : Mem} {post : Int32 → Mem → Prop} (h : WM n μ) (hk0 : k0 < 1000) (hz : ∀ t, t < 10 → μ 6 t = nI (z t)) (hz9 : ∀ t, z t ≤ 99) (k : ∀ c, CRs n (μ 4) (μ 5) z (2 ^ n) k0 c → post (nI c) μ) : T_X12_crossOf (nI k0) μ post := by
  have h9 := h.2.1
  have hp := pow9 h9
  have hp1 : 1 ≤ 2 ^ n := Nat.one_le_two_pow
  intro P hP
  have H : ∀ j, j ≤ 2 ^ n → ∀ c, CRs n (μ 4) (μ 5) z j k0 c → P (nI k0) (nI c) (nI j) μ := by
    refine down_ind (fun c hc => hP _ _ _ _ (sM_all h (br_t (nI_lt (by omega) (by omega)) (k c hc)))) (fun j hj ih c hc => hP _ _ _ _ (sM_all h (br_f (nI_nlt (by omega) (by omega)) (eM_bitsOf ?_))))
    have hcn := cnt_n h9 hj
    unfold T_X12_crossOf_65
    rw [nI_1]
    refine ⟨fun q => ih c (CRs_skip hc (fun t => q (by rw [t.2]))), fun q => eM_isClosed h (fun q2 => br_t rfl (ih c (CRs_skip hc (fun t => q2 t.1)))) (fun q2 => br_f n10 (sM_needsE h (sM_all h (sM_needsE h (sM_sizeE ?_)))))⟩
    have ek : cntB (nI j) 10 = k0 := (nI_eq (by omega) (by omega)).mp q
    rw [sizeF_sum hz]
    have hle := sum10_le hz9 (needF (μ 4) (nI j) n &&& needF (μ 4) (nI (2 ^ n - 1) &&& (nI j ^^^ (-1))) n)
    have ht := CRs_take hc q2 ek
    have hcm := hc.1
    unfold crC at ht
    generalize sum10 z (needF (μ 4) (nI j) n &&& needF (μ 4) (nI (2 ^ n - 1) &&& (nI j ^^^ (-1))) n) = v at hle ht ⊢
    refine pk_le c v (fun t => ?_) (fun t => ?_)
    · rw [if_neg (by omega)] at ht; exact ih _ ht
    · rw [if_pos (by omega)] at ht; exact ih _ ht
  exact H 0 (Nat.zero_le _) 1000000 (CRs_0 _ _ _ _ _)
