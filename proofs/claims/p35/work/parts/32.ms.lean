/-! the reference: rows, what is open, most, long; what must come ahead -/
def RWn (n r : Nat) (μ : Mem) : Prop := ∀ k, k < n → ∃ v, v < n ∧ μ r k = nI v
theorem RWn_fr {n r : Nat} {S : Nat → Prop} {μ μ' : Mem} (h : RWn n r μ) (f : Fr S μ μ') (h1 : ¬ S r) : RWn n r μ' := fun k hk => by rw [f r h1]; exact h k hk
theorem RWn_at {n r k : Nat} {μ : Mem} (h9 : n ≤ 9) (h : RWn n r μ) (hk : k < n) : vp_in (μ r k) 9 ∧ ∃ v, v < n ∧ μ r k = nI v ∧ (μ r k).toNatClampNeg = v := by
  obtain ⟨v, hv, e⟩ := h k hk
  rw [e]
  exact ⟨in9 (by omega) (by omega), v, hv, rfl, cl9 (by omega)⟩
theorem nine_mul (j k : Nat) : (9 : Int32) * nI j + nI k = nI (9 * j + k) := by
  rw [show (9 : Int32) = nI 9 from rfl, pk_mul, nI_add]
theorem sixty_mul (j k : Nat) : (60 : Int32) * nI j + nI k = nI (60 * j + k) := by
  rw [show (60 : Int32) = nI 60 from rfl, pk_mul, nI_add]
theorem sM_lookAt {n j : Nat} {μ : Mem} {post : Mem → Prop} (h : WM n μ) (hj : j < 8) (k : ∀ μ', Fr (fun q => q = 13) μ μ' → (∀ i, i < n → μ' 13 i = μ 12 (9 * j + i)) → post μ') : T_X12_lookAt (nI j) μ post := by
  obtain ⟨hn, h9, -⟩ := h
  intro P hP
  have H : ∀ i, i ≤ n → ∀ μ1, Fr (fun q => q = 13) μ μ1 → (∀ q, q < i → μ1 13 q = μ 12 (9 * j + q)) → P (nI j) (nI i) μ1 := by
    refine down_ind (fun μ1 hf hr => ?_) (fun i hi ih μ1 hf hr => ?_)
    · exact hP _ _ _ (br_t (by rw [hf 0 (by omega), hn]; exact nI_self_le n) (k μ1 hf hr))
    · refine hP _ _ _ (br_f (by rw [hf 0 (by omega), hn]; exact nI_ge hi (by omega)) ?_)
      rw [nine_mul, nI_1, cl9 (show i < 1000000 by omega), cl9 (show 9 * j + i < 1000000 by omega), hf 12 (by omega)]
      refine ⟨in9 (by omega) (by omega), in9 (by omega) (by omega), ih _ (Fr_p hf rfl) (fun q hq => ?_)⟩
      rw [m2]
      by_cases e : q = i
      · subst e; rw [pk_us]
      · rw [pk_un e]; exact hr q (by omega)
  exact H 0 (Nat.zero_le _) μ (Fr_rf _ _) (fun q hq => absurd hq (by omega))
theorem sM_lawful' {n r : Nat} {μ : Mem} {post : Int32 → Mem → Prop} (h : WM n μ) (hr : shM r = .inl 9) (hrow : RWn n r μ) (k0 : post 0 μ) (k1 : post 1 μ) : T_X12_isLawful r μ post := by
  obtain ⟨hn, h9, -⟩ := h
  intro P hP
  have H : ∀ j, j ≤ n → ∀ x, P x (nI j) μ := by
    refine down_ind (fun x => hP _ _ _ (br_t (by rw [hn]; exact nI_self_le n) k1)) (fun j hj ih x => hP _ _ _ (br_f (by rw [hn]; exact nI_ge hj (by omega)) ?_))
    rw [nI_1, cl9 (show j < 1000000 by omega)]
    obtain ⟨a1, -⟩ := RWn_at h9 hrow hj
    have i1 := in9 (show j < 9 by omega) (by omega)
    exact ⟨hr, i1, a1, fun _ => ⟨i1, ih _⟩, fun _ => k0⟩
  exact H 0 (Nat.zero_le _) _
def aheadF (nd row : Nat → Int32) (p : Nat) : Nat → Int32 := foldN (fun k s => s ||| (if k ≤ p then nd (row k).toNatClampNeg else 0)) 0
def behindF (nd row : Nat → Int32) (p : Nat) : Nat → Int32 := foldN (fun k s => s ||| (if p ≤ k then nd (row k).toNatClampNeg else 0)) 0
def openF (nd row : Nat → Int32) (n p : Nat) : Int32 := aheadF nd row p n &&& behindF nd row p n
def wideF (nd sz row : Nat → Int32) (n p : Nat) : Int32 := sizeF sz (openF nd row n p) 10
def mostF (nd sz row : Nat → Int32) (n : Nat) : Nat → Int32 := foldN (fun k s => if wideF nd sz row n k ≤ s then s else wideF nd sz row n k) 0
def longF (nd sz row : Nat → Int32) (n : Nat) : Nat → Int32 := foldN (fun k s => s + wideF nd sz row n k) 0
theorem sM_openE {n r p : Nat} {μ : Mem} {post : Int32 → Mem → Prop} (h : WM n μ) (hr : shM r = .inl 9) (hrow : RWn n r μ) (hp : p < 1000) (k : post (openF (μ 4) (μ r) n p) μ) : T_X12_openAt r (nI p) μ post := by
  obtain ⟨hn, h9, -⟩ := h
  intro P hP
  have H : ∀ j, j ≤ n → P (nI p) (aheadF (μ 4) (μ r) p j) (behindF (μ 4) (μ r) p j) (nI j) μ := by
    refine down_ind (hP _ _ _ _ _ (br_t (by rw [hn]; exact nI_self_le n) k)) (fun j hj ih => hP _ _ _ _ _ (br_f (by rw [hn]; exact nI_ge hj (by omega)) ?_))
    obtain ⟨a1, -⟩ := RWn_at h9 hrow hj
    have i1 := in9 (show j < 9 by omega) (by omega)
    have e1 : aheadF (μ 4) (μ r) p (j + 1) = aheadF (μ 4) (μ r) p j ||| (if j ≤ p then μ 4 (μ r j).toNatClampNeg else 0) := rfl
    have e2 : behindF (μ 4) (μ r) p (j + 1) = behindF (μ 4) (μ r) p j ||| (if p ≤ j then μ 4 (μ r j).toNatClampNeg else 0) := rfl
    rw [e1, e2] at ih
    have h37 : ∀ s, s = (if j ≤ p then μ 4 (μ r j).toNatClampNeg else 0) → T_X12_openAt_37 r post P (nI p) (behindF (μ 4) (μ r) p j) (nI j) s (aheadF (μ 4) (μ r) p j) μ := by
      intro s hs
      unfold T_X12_openAt_37 T_X12_openAt_60
      rw [nI_1, hs, cl9 (show j < 1000000 by omega)]
      refine pk_lt j p (fun hlt => ?_) (fun hle => ⟨hr, i1, a1, ?_⟩)
      · rw [if_neg (show ¬ p ≤ j by omega)] at ih; exact ih
      · rw [if_pos (show p ≤ j from hle)] at ih; exact ih
    rw [cl9 (show j < 1000000 by omega)]
    refine pk_lt p j (fun hlt => h37 _ ?_) (fun hle => ⟨hr, i1, a1, h37 _ ?_⟩)
    · rw [if_neg (by omega)]
    · rw [if_pos hle]
  exact H 0 (Nat.zero_le _)
theorem sM_mostE {n r : Nat} {μ : Mem} {post : Int32 → Mem → Prop} (h : WM n μ) (hr : shM r = .inl 9) (hrow : RWn n r μ) (k : post (mostF (μ 4) (μ 6) (μ r) n n) μ) : T_X12_mostOf r μ post := by
  have hn := h.1
  have h9 := h.2.1
  intro P hP
  have H : ∀ j, j ≤ n → P (mostF (μ 4) (μ 6) (μ r) n j) (nI j) μ := by
    refine down_ind (hP _ _ _ (br_t (by rw [hn]; exact nI_self_le n) k)) (fun j hj ih => hP _ _ _ (br_f (by rw [hn]; exact nI_ge hj (by omega)) (sM_openE h hr hrow (by omega) (sM_sizeE ?_))))
    have e1 : mostF (μ 4) (μ 6) (μ r) n (j + 1) = if wideF (μ 4) (μ 6) (μ r) n j ≤ mostF (μ 4) (μ 6) (μ r) n j then mostF (μ 4) (μ 6) (μ r) n j else wideF (μ 4) (μ 6) (μ r) n j := rfl
    rw [e1] at ih
    unfold T_X12_mostOf_36
    rw [nI_1]
    refine ⟨fun (q : wideF (μ 4) (μ 6) (μ r) n j ≤ mostF (μ 4) (μ 6) (μ r) n j) => ?_, fun (q : ¬ wideF (μ 4) (μ 6) (μ r) n j ≤ mostF (μ 4) (μ 6) (μ r) n j) => ?_⟩
    · rw [if_pos q] at ih; exact ih
    · rw [if_neg q] at ih; exact ih
  exact H 0 (Nat.zero_le _)
theorem sM_longE {n r : Nat} {μ : Mem} {post : Int32 → Mem → Prop} (h : WM n μ) (hr : shM r = .inl 9) (hrow : RWn n r μ) (k : post (longF (μ 4) (μ 6) (μ r) n n) μ) : T_X12_longOf r μ post := by
  have hn := h.1
  have h9 := h.2.1
  intro P hP
  have H : ∀ j, j ≤ n → P (longF (μ 4) (μ 6) (μ r) n j) (nI j) μ := by
    refine down_ind (hP _ _ _ (br_t (by rw [hn]; exact nI_self_le n) k)) (fun j hj ih => hP _ _ _ (br_f (by rw [hn]; exact nI_ge hj (by omega)) (sM_openE h hr hrow (by omega) (sM_sizeE ?_))))
    rw [nI_1]
    exact ih
  exact H 0 (Nat.zero_le _)
theorem wideF_le {sz : Nat → Int32} (h : ∀ t, t < 10 → ∃ v, v ≤ 99 ∧ sz t = nI v) (nd row : Nat → Int32) (n p : Nat) : ∃ v, v ≤ 990 ∧ wideF nd sz row n p = nI v := by
  obtain ⟨v, hv, e⟩ := sizeF_le h (openF nd row n p) 10 (by omega)
  exact ⟨v, by omega, e⟩
theorem mostF_le {sz : Nat → Int32} (h : ∀ t, t < 10 → ∃ v, v ≤ 99 ∧ sz t = nI v) (nd row : Nat → Int32) (n : Nat) : ∀ k, ∃ v, v ≤ 990 ∧ mostF nd sz row n k = nI v := by
  intro k
  induction k with
  | zero => exact ⟨0, by omega, rfl⟩
  | succ k ih =>
    have e1 : mostF nd sz row n (k + 1) = if wideF nd sz row n k ≤ mostF nd sz row n k then mostF nd sz row n k else wideF nd sz row n k := rfl
    rw [e1]
    split
    · exact ih
    · exact wideF_le h nd row n k
theorem longF_le {sz : Nat → Int32} (h : ∀ t, t < 10 → ∃ v, v ≤ 99 ∧ sz t = nI v) (nd row : Nat → Int32) (n : Nat) : ∀ k, ∃ v, v ≤ 990 * k ∧ longF nd sz row n k = nI v := by
  intro k
  induction k with
  | zero => exact ⟨0, by omega, rfl⟩
  | succ k ih =>
    have e1 : longF nd sz row n (k + 1) = longF nd sz row n k + wideF nd sz row n k := rfl
    obtain ⟨v, hv, e⟩ := ih
    obtain ⟨w, hw, e2⟩ := wideF_le h nd row n k
    rw [e1, e, e2, nI_add]
    exact ⟨v + w, by omega, rfl⟩
/-- a row as a number: what comes first weighs most -/
def rowV (row : Nat → Int32) : Nat → Nat := foldN (fun k s => s * 9 + (row k).toNatClampNeg) 0
theorem rowV_lt {row : Nat → Int32} {n : Nat} (h : ∀ k, k < n → (row k).toNatClampNeg < 9) : ∀ k, k ≤ n → rowV row k < 9 ^ k := by
  intro k
  induction k with
  | zero => exact fun _ => by show 0 < 9 ^ 0; decide
  | succ k ih =>
    intro hk
    have h1 := ih (by omega)
    have h2 := h k (by omega)
    show rowV row k * 9 + (row k).toNatClampNeg < 9 ^ (k + 1)
    rw [Nat.pow_succ]
    omega
theorem rowV_cong {r1 r2 : Nat → Int32} : ∀ k, (∀ i, i < k → r1 i = r2 i) → rowV r1 k = rowV r2 k := by
  intro k
  induction k with
  | zero =>
    intro _
    have e1 : rowV r1 0 = 0 := rfl
    have e2 : rowV r2 0 = 0 := rfl
    rw [e1, e2]
  | succ k ih =>
    intro h
    have e1 : rowV r1 (k + 1) = rowV r1 k * 9 + (r1 k).toNatClampNeg := rfl
    have e2 : rowV r2 (k + 1) = rowV r2 k * 9 + (r2 k).toNatClampNeg := rfl
    rw [e1, e2, ih (fun i hi => h i (by omega)), h k (by omega)]
theorem rowV_less {r1 r2 : Nat → Int32} {n j : Nat} (h1 : ∀ k, k < n → (r1 k).toNatClampNeg < 9) (heq : ∀ i, i < j → r1 i = r2 i) (hlt : (r1 j).toNatClampNeg < (r2 j).toNatClampNeg) : ∀ k, j < k → k ≤ n → rowV r1 k < rowV r2 k := by
  intro k
  induction k with
  | zero => exact fun h => absurd h (by omega)
  | succ k ih =>
    intro hj hk
    show rowV r1 k * 9 + (r1 k).toNatClampNeg < rowV r2 k * 9 + (r2 k).toNatClampNeg
    by_cases e : j = k
    · subst e
      rw [rowV_cong j heq]
      omega
    · have := ih (by omega) (by omega)
      have := h1 k (by omega)
      omega
/-- a row's worth: less is better -/
def worth (nd sz row : Nat → Int32) (n : Nat) : Nat := ((mostF nd sz row n n).toNatClampNeg * 10000 + (longF nd sz row n n).toNatClampNeg) * 387420489 + rowV row n
theorem sM_isBetter {n r1 r2 : Nat} {μ : Mem} {post : Int32 → Mem → Prop} (h : WM n μ) (hr1 : shM r1 = .inl 9) (hr2 : shM r2 = .inl 9) (hw1 : RWn n r1 μ) (hw2 : RWn n r2 μ) (k0 : post 0 μ) (k1 : worth (μ 4) (μ 6) (μ r1) n < worth (μ 4) (μ 6) (μ r2) n → post 1 μ) : T_X12_isBetter r1 r2 μ post := by
  have hn := h.1
  have h9 := h.2.1
  obtain ⟨a, ha, ea⟩ := mostF_le h.2.2.2 (μ 4) (μ r1) n n
  obtain ⟨b, hb, eb⟩ := mostF_le h.2.2.2 (μ 4) (μ r2) n n
  obtain ⟨c, hc, ec⟩ := longF_le h.2.2.2 (μ 4) (μ r1) n n
  obtain ⟨d, hd, ed⟩ := longF_le h.2.2.2 (μ 4) (μ r2) n n
  have v1 : rowV (μ r1) n < 387420489 := by
    have q : ∀ k, k < n → (μ r1 k).toNatClampNeg < 9 := fun k hk => by obtain ⟨-, v, hv, -, e⟩ := RWn_at h9 hw1 hk; omega
    have := rowV_lt q n (Nat.le_refl _)
    have h3 : 9 ^ n ≤ 9 ^ 9 := Nat.pow_le_pow_right (by decide) h9
    omega
  have v2 : rowV (μ r2) n < 387420489 := by
    have q : ∀ k, k < n → (μ r2 k).toNatClampNeg < 9 := fun k hk => by obtain ⟨-, v, hv, -, e⟩ := RWn_at h9 hw2 hk; omega
    have := rowV_lt q n (Nat.le_refl _)
    have h3 : 9 ^ n ≤ 9 ^ 9 := Nat.pow_le_pow_right (by decide) h9
    omega
  unfold worth at k1
  rw [ea, eb, ec, ed, cl9 (show a < 1000000 by omega), cl9 (show b < 1000000 by omega), cl9 (show c < 1000000 by omega), cl9 (show d < 1000000 by omega)] at k1
  refine sM_mostE h hr1 hw1 (sM_mostE h hr2 hw2 ?_)
  rw [ea, eb]
  refine pk_eq a b (fun eab => ?_) (fun nab => pk_le b a (fun _ => k0) (fun hlt => k1 (by omega)))
  refine sM_longE h hr1 hw1 (sM_longE h hr2 hw2 ?_)
  rw [ec, ed]
  refine pk_eq c d (fun ecd => ?_) (fun ncd => pk_le d c (fun _ => k0) (fun hlt => k1 (by omega)))
  intro P hP
  have H : ∀ j, j ≤ n → (∀ i, i < j → μ r1 i = μ r2 i) → P (nI j) μ := by
    refine down_ind (fun _ => hP _ _ (br_t (by rw [hn]; exact nI_self_le n) k0)) (fun j hj ih heq => hP _ _ (br_f (by rw [hn]; exact nI_ge hj (by omega)) ?_))
    have i1 := in9 (show j < 9 by omega) (by omega)
    rw [nI_1, cl9 (show j < 1000000 by omega)]
    obtain ⟨-, x, hx, ex, cx⟩ := RWn_at h9 hw1 hj
    obtain ⟨-, y, hy, ey, cy⟩ := RWn_at h9 hw2 hj
    refine ⟨hr1, i1, hr2, i1, fun q => ih (fun i hi => ?_), fun _ => ⟨i1, i1, ?_⟩⟩
    · by_cases e : i = j
      · subst e; exact q
      · exact heq i (by omega)
    · rw [ex, ey]
      refine pk_le y x (fun _ => k0) (fun hlt => k1 ?_)
      have := rowV_less (r1 := μ r1) (r2 := μ r2) (n := n) (j := j) (fun k hk => by obtain ⟨-, v, hv, -, e⟩ := RWn_at h9 hw1 hk; omega) heq (by omega) n hj (Nat.le_refl _)
      omega
  exact H 0 (Nat.zero_le _) (fun i hi => absurd hi (by omega))
theorem sub_lt {x y : Int32} (hs : ∀ i, hb x i = true → hb y i = true) (hne : x ≠ y) : x.toBitVec.toNat < y.toBitVec.toNat := by
  have e : x.toBitVec.toNat &&& y.toBitVec.toNat = x.toBitVec.toNat := by
    apply Nat.eq_of_testBit_eq
    intro i
    rw [Nat.testBit_and]
    have := hs i
    rw [hb_tn, hb_tn] at this
    cases h : x.toBitVec.toNat.testBit i
    · simp
    · simp [this h]
  have h1 : x.toBitVec.toNat ≤ y.toBitVec.toNat := by
    rw [← e]
    exact Nat.and_le_right
  have h2 : x.toBitVec.toNat ≠ y.toBitVec.toNat := fun q => hne (Int32.toBitVec_inj.mp (BitVec.eq_of_toNat_eq q))
  omega
theorem sM_aheadOf {n w : Nat} {μ : Mem} {post : Int32 → Mem → Prop} (h : WM n μ) (hw : w < 9) (k : ∀ A, (∀ v, hb (μ 5 w) v = true → hb A v = true) → (∀ x, x < n → hb A x = true → ∀ v, hb (μ 5 x) v = true → hb A v = true) → (∀ C : Nat → Prop, (∀ v, hb (μ 5 w) v = true → C v) → (∀ x, x < n → C x → ∀ v, hb (μ 5 x) v = true → C v) → ∀ v, hb A v = true → C v) → post A μ) : T_X12_aheadOf (nI w) μ post := by
  obtain ⟨hn, h9, -⟩ := h
  refine ⟨in9 hw (by omega), ?_⟩
  rw [cl9 (show w < 1000000 by omega)]
  intro P hP
  have H : ∀ f x2 s, 2 ^ 32 - x2.toBitVec.toNat = f → (s = 0 ∨ s = 1) → (∀ v, hb (μ 5 w) v = true → hb x2 v = true) → (s = 0 → ∀ x, x < n → hb x2 x = true → ∀ v, hb (μ 5 x) v = true → hb x2 v = true) → (∀ C : Nat → Prop, (∀ v, hb (μ 5 w) v = true → C v) → (∀ x, x < n → C x → ∀ v, hb (μ 5 x) v = true → C v) → ∀ v, hb x2 v = true → C v) → P x2 s μ := by
    intro f
    induction f using Nat.strongRecOn with
    | ind f ih =>
      intro x2 s hfu hs hb0 hcl hmin
      refine hP _ _ _ ⟨fun q => k x2 hb0 (hcl q) hmin, fun q => ?_⟩
      intro P2 hP2
      have H2 : ∀ j, j ≤ n → ∀ y, (∀ i, hb x2 i = true → hb y i = true) → (∀ i, i < j → hb x2 i = true → ∀ v, hb (μ 5 i) v = true → hb y v = true) → (∀ C : Nat → Prop, (∀ v, hb (μ 5 w) v = true → C v) → (∀ x, x < n → C x → ∀ v, hb (μ 5 x) v = true → C v) → ∀ v, hb y v = true → C v) → P2 y x2 (nI j) μ := by
        refine down_ind (fun y hsub hc hm => hP2 _ _ _ _ (br_t (by rw [hn]; exact nI_self_le n) ⟨fun e => ?_, fun e => ?_⟩)) (fun j hj ih2 y hsub hc hm => hP2 _ _ _ _ (br_f (by rw [hn]; exact nI_ge hj (by omega)) ?_))
        · subst e
          refine hP _ _ _ (br_t rfl (k y hb0 (fun x hx => hc x hx) hmin))
        · have hlt := sub_lt hsub (fun q => e q.symm)
          have hy := y.toBitVec.isLt
          exact ih (2 ^ 32 - y.toBitVec.toNat) (by omega) y 1 rfl (Or.inr rfl) (fun v hv => hsub v (hb0 v hv)) (fun q => absurd q n10) hm
        · refine sM_hasB (by omega) (fun q => br_t rfl ?_) (fun q => br_f n10 ⟨in9 (by omega) (by omega), ?_⟩)
          · unfold T_X12_aheadOf_49
            rw [nI_1, or0]
            refine ih2 y hsub (fun i hi hx v hv => ?_) hm
            by_cases e : i = j
            · subst e; rw [hsub i hx] at q; exact absurd q (by decide)
            · exact hc i (by omega) hx v hv
          · unfold T_X12_aheadOf_49
            rw [nI_1, cl9 (show j < 1000000 by omega)]
            refine ih2 _ (fun i hi => by rw [hb_or, hsub i hi]; rfl) (fun i hi hx v hv => ?_) (fun C c1 c2 v hv => ?_)
            · rw [hb_or]
              by_cases e : i = j
              · subst e; rw [hv, Bool.or_true]
              · rw [hc i (by omega) hx v hv, Bool.true_or]
            · rw [hb_or, Bool.or_eq_true] at hv
              rcases hv with hv | hv
              · exact hm C c1 c2 v hv
              · exact c2 j hj (hm C c1 c2 j q) v hv
      exact H2 0 (Nat.zero_le _) x2 (fun _ q => q) (fun i hi => absurd hi (by omega)) hmin
  exact H _ (μ 5 w) 1 rfl (Or.inr rfl) (fun _ q => q) (fun q => absurd q n10) (fun C c1 _ v hv => c1 v hv)
