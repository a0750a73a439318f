/-! the reference's methods: small ones -/
theorem sM_isIn {x a b : Int32} {μ : Mem} {post : Int32 → Mem → Prop} (k0 : (x < a ∨ b < x) → post 0 μ) (k1 : ¬ x < a → ¬ b < x → post 1 μ) : T_X12_isIn x a b μ post := ⟨fun q => k0 (Or.inl q), fun q => ⟨fun q2 => k0 (Or.inr q2), fun q2 => k1 q q2⟩⟩
theorem sM_hasB {x : Int32} {k : Nat} {μ : Mem} {post : Int32 → Mem → Prop} (hk : k < 32) (k0 : hb x k = false → post 0 μ) (k1 : hb x k = true → post 1 μ) : T_X12_has x (nI k) μ post := by
  unfold T_X12_has
  rw [bit_o x hk]
  refine ⟨fun q => k0 ?_, fun q => k1 q⟩
  cases h : hb x k
  · rfl
  · exact absurd h q
theorem sM_has' {x y : Int32} {μ : Mem} {post : Int32 → Mem → Prop} (k0 : post 0 μ) (k1 : post 1 μ) : T_X12_has x y μ post := ⟨fun _ => k0, fun _ => k1⟩
theorem sM_bitsOf' {x : Int32} {μ : Mem} {post : Int32 → Mem → Prop} (k : ∀ r, post r μ) : T_X12_bitsOf x μ post := by
  intro P hP
  have H : ∀ j, j ≤ 10 → ∀ y, P x y (nI j) μ := by
    refine down_ind (fun y => hP _ _ _ _ (br_t (by decide) (k _))) (fun j hj ih y => hP _ _ _ _ (br_f (nI_ge hj (by decide)) ?_))
    rw [nI_1]
    exact ih _
  exact H 0 (Nat.zero_le _) _
theorem out_of {x : Int32} {n : Nat} (hn : n + 1 < 2 ^ 31) (h : x < 0 ∨ nI n < x) : ∀ j, j < n + 1 → x ≠ nI j := fun j hj e => by
  subst e
  exact h.elim (nI_pos (by omega)) (nI_nlt (by omega) (by omega))
theorem in_of {x : Int32} {n : Nat} (hn : n < 2 ^ 30) (h1 : ¬ x < 0) (h2 : ¬ nI n < x) : ∃ j, j < n + 1 ∧ x = nI j := by
  obtain ⟨t, ht, e⟩ := rngI 0 n hn h1 h2 (by omega)
  exact ⟨t, by omega, by rw [e]; congr 1; omega⟩
theorem sM_isSheet {x : Int32} {μ : Mem} {post : Int32 → Mem → Prop} (k0 : (∀ j, j < 4 → x ≠ nI j) → post 0 μ) (k1 : ∀ j, j < 4 → x = nI j → post 1 μ) : T_X12_isSheet x μ post :=
  sM_isIn (fun q => ⟨Or.inl rfl, k0 (out_of (n := 3) (by omega) q)⟩) (fun q1 q2 => ⟨Or.inr rfl, by obtain ⟨j, hj, e⟩ := in_of (n := 3) (by omega) q1 q2; exact k1 j hj e⟩)
theorem sM_isLane {x : Int32} {μ : Mem} {post : Int32 → Mem → Prop} (k0 : (∀ j, j < 3 → x ≠ nI j) → post 0 μ) (k1 : ∀ j, j < 3 → x = nI j → post 1 μ) : T_X12_isLane x μ post :=
  sM_isIn (fun q => ⟨Or.inl rfl, k0 (out_of (n := 2) (by omega) q)⟩) (fun q1 q2 => ⟨Or.inr rfl, by obtain ⟨j, hj, e⟩ := in_of (n := 2) (by omega) q1 q2; exact k1 j hj e⟩)
def rfm (l x : Int32) : Int32 := if l = -9 then 1 else if l = x then 0 else 2
theorem sM_against {k : Nat} {x i n : Int32} {μ : Mem} {post : Int32 → Mem → Prop} (hk : k < 4) (h : post (csf (rfm (μ 1 k) x) i n (μ 2 k)) μ) : T_X12_against (nI k) x i n μ post := by
  have i1 := in9 hk (by omega)
  unfold T_X12_against T_X12_against_23
  unfold csf rfm at h
  rw [cl9 (show k < 1000000 by omega)]
  refine ⟨i1, fun q => ⟨i1, fun q2 => absurd q q2, fun _ => ?_⟩, fun q => ⟨i1, fun q2 => ⟨i1, fun _ => ?_, fun q3 => absurd q3 q⟩, fun q2 => ?_⟩⟩
  · rw [if_pos q, if_neg (by decide)] at h; exact h
  · rw [if_neg q, if_pos q2, if_pos rfl] at h
    refine ⟨fun qn => ⟨fun q2 => ?_, fun q2 => ⟨i1, fun q3 => ?_, fun q3 => ⟨i1, fun q4 => ?_, fun q4 => ?_⟩⟩⟩, fun qn => ?_⟩
    · rw [if_pos qn, if_pos q2] at h; exact h
    · rw [if_pos qn, if_neg q2, if_pos q3] at h; exact h
    · rw [if_pos qn, if_neg q2, if_neg q3, if_pos q4] at h; exact h
    · rw [if_pos qn, if_neg q2, if_neg q3, if_neg q4] at h; exact h
    · rw [if_neg qn] at h; exact h
  · rw [if_neg q, if_neg q2, if_neg (by decide)] at h; exact h
def WM (n : Nat) (μ : Mem) : Prop := μ 0 5 = nI n ∧ n ≤ 9 ∧ (∀ w, w < 9 → lo 10 (μ 4 w)) ∧ (∀ t, t < 10 → ∃ v, v ≤ 99 ∧ μ 6 t = nI v)
theorem WM_of {n : Nat} {μ μ' : Mem} (h : WM n μ) (e0 : μ' 0 5 = μ 0 5) (e4 : μ' 4 = μ 4) (e6 : μ' 6 = μ 6) : WM n μ' := by
  unfold WM
  rw [e0, e4, e6]
  exact h
theorem WM_fr {n : Nat} {S : Nat → Prop} {μ μ' : Mem} (h : WM n μ) (f : Fr S μ μ') (h0 : ¬ S 0) (h4 : ¬ S 4) (h6 : ¬ S 6) : WM n μ' := WM_of h (by rw [f 0 h0]) (f 4 h4) (f 6 h6)
theorem sM_isWork {x : Int32} {n : Nat} {μ : Mem} {post : Int32 → Mem → Prop} (h : WM n μ) (k0 : (∀ j, j < n → x ≠ nI j) → post 0 μ) (k1 : ∀ j, j < n → x = nI j → post 1 μ) : T_X12_isWork x μ post := br_ix n h.1 (by have := h.2.1; omega) k0 k0 k1
theorem sM_isOrder {x : Int32} {m : Nat} {μ : Mem} {post : Int32 → Mem → Prop} (hm : μ 0 17 = nI m) (h8 : m ≤ 8) (k0 : (∀ j, j < m → x ≠ nI j) → post 0 μ) (k1 : ∀ j, j < m → x = nI j → post 1 μ) : T_X12_isOrder x μ post := br_ix m hm (by omega) k0 k0 k1
theorem sM_all {μ : Mem} {n : Nat} {post : Int32 → Mem → Prop} (h : WM n μ) (k : post (nI (2 ^ n - 1)) μ) : T_X12_all μ post := by
  unfold T_X12_all
  rw [h.1, all_eq h.2.1]
  exact k
/-! folds: what loops add up -/
def foldN {α : Type} (f : Nat → α → α) (a : α) : Nat → α
  | 0 => a
  | k + 1 => f k (foldN f a k)
def sizeF (sz : Nat → Int32) (x : Int32) : Nat → Int32 := foldN (fun t s => s + (if hb x t then sz t else 0)) 0
def needF (nd : Nat → Int32) (x : Int32) : Nat → Int32 := foldN (fun w s => s ||| (if hb x w then nd w else 0)) 0
theorem sizeF_le {sz : Nat → Int32} (h : ∀ t, t < 10 → ∃ v, v ≤ 99 ∧ sz t = nI v) (x : Int32) : ∀ k, k ≤ 10 → ∃ v, v ≤ 99 * k ∧ sizeF sz x k = nI v := by
  intro k
  induction k with
  | zero => exact fun _ => ⟨0, by omega, rfl⟩
  | succ k ih =>
    intro hk
    obtain ⟨v, hv, e⟩ := ih (by omega)
    obtain ⟨w, hw, e2⟩ := h k (by omega)
    show ∃ v, v ≤ 99 * (k + 1) ∧ sizeF sz x k + (if hb x k then sz k else 0) = nI v
    rw [e]
    split
    · rw [e2, nI_add]; exact ⟨v + w, by omega, rfl⟩
    · exact ⟨v, by omega, by rw [show (0 : Int32) = nI 0 from rfl, nI_add]; rfl⟩
theorem needF_lo {nd : Nat → Int32} {n : Nat} (h : ∀ w, w < n → lo 10 (nd w)) (x : Int32) : ∀ k, k ≤ n → lo 10 (needF nd x k) := by
  intro k
  induction k with
  | zero => exact fun _ => lo_0 _
  | succ k ih =>
    intro hk
    show lo 10 (needF nd x k ||| (if hb x k then nd k else 0))
    refine lo_or (ih (by omega)) ?_
    split
    · exact h k (by omega)
    · exact lo_0 _
theorem or0 (x : Int32) : x ||| 0 = x := by simp
theorem add0 (x : Int32) : x + 0 = x := by simp
theorem sM_sizeE {x : Int32} {μ : Mem} {post : Int32 → Mem → Prop} (k : post (sizeF (μ 6) x 10) μ) : T_X12_sizeOf x μ post := by
  intro P hP
  have H : ∀ j, j ≤ 10 → P x (sizeF (μ 6) x j) (nI j) μ := by
    refine down_ind (hP _ _ _ _ (br_t (by decide) k)) (fun j hj ih => hP _ _ _ _ (br_f (nI_ge hj (by decide)) ?_))
    have e : sizeF (μ 6) x (j + 1) = sizeF (μ 6) x j + (if hb x j then μ 6 j else 0) := rfl
    rw [e] at ih
    refine sM_hasB (by omega) (fun q => br_t rfl ?_) (fun q => br_f n10 ⟨in9 (by omega) (by omega), ?_⟩)
    · unfold T_X12_sizeOf_29
      rw [q] at ih
      rw [nI_1]; exact ih
    · unfold T_X12_sizeOf_29
      rw [q] at ih
      rw [nI_1, cl9 (show j < 1000000 by omega)]; exact ih
  exact H 0 (Nat.zero_le _)
theorem sM_size {n : Nat} {x : Int32} {μ : Mem} {post : Int32 → Mem → Prop} (h : WM n μ) (k : ∀ v, v ≤ 990 → post (nI v) μ) : T_X12_sizeOf x μ post := by
  refine sM_sizeE ?_
  obtain ⟨v, hv, e⟩ := sizeF_le h.2.2.2 x 10 (by omega)
  rw [e]
  exact k v (by omega)
theorem sM_price' {x : Int32} {μ : Mem} {post : Int32 → Mem → Prop} (k : ∀ r, post r μ) : T_X12_priceOf x μ post := by
  intro P hP
  have H : ∀ j, j ≤ 10 → ∀ y, P x y (nI j) μ := by
    refine down_ind (fun y => hP _ _ _ _ (br_t (by decide) (k _))) (fun j hj ih y => hP _ _ _ _ (br_f (nI_ge hj (by decide)) ?_))
    refine sM_has' (br_t rfl ?_) (br_f n10 ⟨in9 (by omega) (by omega), ?_⟩)
    · unfold T_X12_priceOf_29; rw [nI_1]; exact ih _
    · unfold T_X12_priceOf_29; rw [nI_1]; exact ih _
  exact H 0 (Nat.zero_le _) _
theorem sM_needsE {n : Nat} {x : Int32} {μ : Mem} {post : Int32 → Mem → Prop} (h : WM n μ) (k : post (needF (μ 4) x n) μ) : T_X12_needsOf x μ post := by
  obtain ⟨hn, h9, -⟩ := h
  intro P hP
  have H : ∀ j, j ≤ n → P x (needF (μ 4) x j) (nI j) μ := by
    refine down_ind (hP _ _ _ _ (br_t (by rw [hn]; exact nI_self_le n) k)) (fun j hj ih => hP _ _ _ _ (br_f (by rw [hn]; exact nI_ge hj (by omega)) ?_))
    have e : needF (μ 4) x (j + 1) = needF (μ 4) x j ||| (if hb x j then μ 4 j else 0) := rfl
    rw [e] at ih
    refine sM_hasB (by omega) (fun q => br_t rfl ?_) (fun q => br_f n10 ⟨in9 (by omega) (by omega), ?_⟩)
    · unfold T_X12_needsOf_31
      rw [q] at ih
      rw [nI_1]; exact ih
    · unfold T_X12_needsOf_31
      rw [q] at ih
      rw [nI_1, cl9 (show j < 1000000 by omega)]; exact ih
  exact H 0 (Nat.zero_le _)
theorem sM_needs {n : Nat} {x : Int32} {μ : Mem} {post : Int32 → Mem → Prop} (h : WM n μ) (k : ∀ r, lo 10 r → post r μ) : T_X12_needsOf x μ post :=
  sM_needsE h (k _ (needF_lo (n := n) (fun w hw => h.2.2.1 w (by have := h.2.1; omega)) x n (Nat.le_refl _)))
theorem sM_isClosed' {n : Nat} {x : Int32} {μ : Mem} {post : Int32 → Mem → Prop} (h : WM n μ) (k0 : post 0 μ) (k1 : post 1 μ) : T_X12_isClosed x μ post := by
  obtain ⟨hn, h9, -⟩ := h
  intro P hP
  have H : ∀ j, j ≤ n → P x (nI j) μ := by
    refine down_ind (hP _ _ _ (br_t (by rw [hn]; exact nI_self_le n) k1)) (fun j hj ih => hP _ _ _ (br_f (by rw [hn]; exact nI_ge hj (by omega)) ?_))
    rw [nI_1]
    exact sM_has' (br_t rfl ih) (br_f n10 ⟨in9 (by omega) (by omega), fun _ => ih, fun _ => k0⟩)
  exact H 0 (Nat.zero_le _)
theorem sM_cross' {n : Nat} {x : Int32} {μ : Mem} {post : Int32 → Mem → Prop} (h : WM n μ) (k : ∀ r, post r μ) : T_X12_crossOf x μ post := by
  have h9 := h.2.1
  have hp := pow9 h9
  have hp1 : 1 ≤ 2 ^ n := Nat.one_le_two_pow
  intro P hP
  have H : ∀ j, j ≤ 2 ^ n → ∀ y, P x y (nI j) μ := by
    refine down_ind (fun y => hP _ _ _ _ (sM_all h (br_t (nI_lt (by omega) (by omega)) (k _)))) (fun j hj ih y => hP _ _ _ _ (sM_all h (br_f (nI_nlt (by omega) (by omega)) ?_)))
    unfold T_X12_crossOf_65
    rw [nI_1]
    exact sM_bitsOf' (fun r => ⟨fun _ => ih _, fun _ => sM_isClosed' h (br_t rfl (ih _)) (br_f n10 (sM_needs h (fun r1 _ => sM_all h (sM_needs h (fun r2 _ => sM_size h (fun v _ => ⟨fun _ => ih _, fun _ => ih _⟩))))))⟩)
  exact H 0 (Nat.zero_le _) _
theorem sM_share' {n : Nat} {x y : Int32} {μ : Mem} {post : Int32 → Mem → Prop} (h : WM n μ) (k0 : post 0 μ) (k1 : post 1 μ) : T_X12_share x y μ post := by
  obtain ⟨hn, h9, -⟩ := h
  intro P hP
  have H : ∀ j, j ≤ n → P x y (nI j) μ := by
    refine down_ind (hP _ _ _ _ (br_t (by rw [hn]; exact nI_self_le n) k0)) (fun j hj ih => hP _ _ _ _ (br_f (by rw [hn]; exact nI_ge hj (by omega)) ?_))
    have i1 := in9 (show j < 9 by omega) (by omega)
    rw [nI_1]
    exact ⟨i1, sM_has' (br_t rfl ih) (br_f n10 ⟨i1, sM_has' (br_t rfl ih) (br_f n10 k1)⟩)⟩
  exact H 0 (Nat.zero_le _)
theorem sM_isKnot' {n : Nat} {x : Int32} {μ : Mem} {post : Int32 → Mem → Prop} (h : WM n μ) (k0 : post 0 μ) (k1 : post 1 μ) : T_X12_isKnot x μ post := by
  intro P hP
  have H : ∀ j, j ≤ 10 → P x (nI j) μ := by
    refine down_ind (hP _ _ _ (br_t (by decide) k1)) (fun j hj ih => hP _ _ _ (br_f (nI_ge hj (by decide)) ?_))
    intro P2 hP2
    have H2 : ∀ i, i ≤ j + 1 → P2 x (nI j) (nI i) μ := by
      refine down_ind (hP2 _ _ _ _ (br_t (nI_lt (by omega) (by omega)) (by rw [nI_1]; exact ih))) (fun i hi ih2 => hP2 _ _ _ _ (br_f (nI_nlt (by omega) (by omega)) ?_))
      rw [nI_1]
      exact sM_has' (br_t rfl ih2) (br_f n10 (sM_has' (br_t rfl ih2) (br_f n10 (sM_share' h (rb_f rfl k0) (rb_t n10 ih2)))))
    exact H2 0 (Nat.zero_le _)
  exact H 0 (Nat.zero_le _)
theorem sM_knotOf' {n : Nat} {μ : Mem} {post : Int32 → Mem → Prop} (h : WM n μ) (k : ∀ r, post r μ) : T_X12_knotOf μ post := by
  intro P hP
  have H : ∀ j, j ≤ 1024 → ∀ x y, P x y (nI j) μ := by
    refine down_ind (fun x y => hP _ _ _ _ (br_t (nI_self_le 1024) (k _))) (fun j hj ih x y => hP _ _ _ _ (br_f (nI_ge (b := 1024) hj (by decide)) ?_))
    rw [nI_1]
    exact sM_size h (fun v _ => ⟨fun _ => ih _ _, fun _ => sM_isKnot' h (br_t rfl (ih _ _)) (br_f n10 (ih _ _))⟩)
  exact H 1 (by omega) _ _
theorem sM_within' {n : Nat} {μ : Mem} {post : Int32 → Mem → Prop} (h : WM n μ) (k : ∀ r, post r μ) : T_X12_within μ post := by
  obtain ⟨hn, h9, -⟩ := h
  intro P hP
  have H : ∀ j, j ≤ n → ∀ y, P y (nI j) μ := by
    refine down_ind (fun y => hP _ _ _ (br_t (by rw [hn]; exact nI_self_le n) (k _))) (fun j hj ih y => hP _ _ _ (br_f (by rw [hn]; exact nI_ge hj (by omega)) ?_))
    intro P2 hP2
    have H2 : ∀ i, i ≤ n → ∀ y, P2 y (nI j) (nI i) μ := by
      refine down_ind (fun y => hP2 _ _ _ _ (br_t (by rw [hn]; exact nI_self_le n) (by rw [nI_1]; exact ih _))) (fun i hi ih2 y => hP2 _ _ _ _ (br_f (by rw [hn]; exact nI_ge hi (by omega)) ?_))
      have i1 := in9 (show j < 9 by omega) (by omega)
      have i2 := in9 (show i < 9 by omega) (by omega)
      have h70 : ∀ s, T_X12_within_70 post P P2 y (nI j) (nI i) s μ := fun s => by
        unfold T_X12_within_70 T_X12_within_85
        rw [nI_1]
        exact ⟨fun _ => ih2 _, fun _ => ih2 _⟩
      exact ⟨fun _ => h70 _, fun _ => ⟨i1, i2, fun _ => h70 _, fun _ => ⟨i1, i2, fun _ => h70 _, fun _ => ⟨fun _ => h70 _, fun _ => h70 _⟩⟩⟩⟩
    exact H2 0 (Nat.zero_le _) y
  exact H 0 (Nat.zero_le _) _
theorem sM_dislikes' {n w : Nat} {x1 x2 : Int32} {μ : Mem} {post : Int32 → Mem → Prop} (h : WM n μ) (hw : w < 9) (k : ∀ r, post r μ) : T_X12_dislikes x1 x2 (nI w) μ post := by
  have i1 := in9 hw (show 9 < 1000000 by omega)
  exact ⟨i1, sM_all h (sM_needs h (fun r _ => sM_size h (fun v _ => ⟨i1, sM_needs h (fun r2 _ => sM_size h (fun v2 _ => ⟨fun _ => ⟨fun _ => k _, fun _ => k _⟩, fun _ => k _⟩))⟩)))⟩
theorem sM_mayComeB {n w : Nat} {x1 x2 : Int32} {μ : Mem} {post : Int32 → Mem → Prop} (hw : w < 9) (k0 : ¬ ((hb x1 w = true ∧ hb x2 w = false) ∧ ((μ 5 w) &&& x1) &&& (x2 ^^^ (-1)) = 0) → post 0 μ) (k1 : (hb x1 w = true ∧ hb x2 w = false) → ((μ 5 w) &&& x1) &&& (x2 ^^^ (-1)) = 0 → post 1 μ) : T_X12_mayCome x1 x2 (nI w) μ post := by
  unfold T_X12_mayCome
  rw [cl9 (show w < 1000000 by omega)]
  refine sM_hasB (by omega) (fun q => br_t rfl (k0 (fun t => ?_))) (fun q => br_f n10 ⟨in9 hw (by omega), fun q2 => k0 (fun t => q2 t.2), fun q2 => k1 ?_ q2⟩)
  · rw [hb_andn, t.1.1, t.1.2] at q
    exact absurd q (by decide)
  · rw [hb_andn] at q
    cases h1 : hb x1 w <;> cases h2 : hb x2 w <;> simp_all
theorem sM_mayCome' {w : Nat} {x1 x2 : Int32} {μ : Mem} {post : Int32 → Mem → Prop} (hw : w < 9) (k0 : post 0 μ) (k1 : post 1 μ) : T_X12_mayCome x1 x2 (nI w) μ post :=
  sM_mayComeB (n := 0) hw (fun _ => k0) (fun _ _ => k1)
