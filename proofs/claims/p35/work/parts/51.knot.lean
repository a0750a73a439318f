/-! knots of both sides -/
def knot (n : Nat) (nd : Nat → Int32) (x : Int32) : Prop := ∀ t u, t < 10 → u < 10 → hb x t = true → hb x u = true → ∃ w, w < n ∧ hb (nd w) t = true ∧ hb (nd w) u = true
theorem knot_cong {n : Nat} {nd nd' : Nat → Int32} {x : Int32} (e : ∀ w, w < n → nd w = nd' w) (h : knot n nd x) : knot n nd' x := fun t u ht hu h1 h2 => by
  obtain ⟨w, hw, a, b⟩ := h t u ht hu h1 h2
  exact ⟨w, hw, by rw [← e w hw]; exact a, by rw [← e w hw]; exact b⟩
theorem andn_0 {x y : Int32} : x &&& (y ^^^ (-1)) = 0 ↔ Sub x y := by
  constructor
  · intro h b p
    cases q : hb y b
    · have : hb (x &&& (y ^^^ (-1))) b = true := by rw [hb_andn, p, q]; rfl
      rw [h, hb_0] at this
      exact absurd this (by decide)
    · rfl
  · intro h
    apply hb_ext
    intro b _
    rw [hb_andn, hb_0]
    cases p : hb x b
    · rfl
    · rw [h b p]; rfl
def JN (nd : Nat → Int32) (n t : Nat) (y : Int32) : Prop := ∀ u, hb y u = true ↔ ∃ w, w < n ∧ hb (nd w) t = true ∧ hb (nd w) u = true
theorem eX_fillJoined {n : Nat} {μ : Mem} {post : Mem → Prop} (h : WK n μ) (k : ∀ μ', Fr (fun q => q = 49) μ μ' → (∀ t, t < 10 → JN (μ 14) n t (μ' 49 t)) → post μ') : T_X0_fillJoined μ post := by
  have h9 := h.2.1
  intro P hP
  have H : ∀ j, j ≤ 10 → ∀ μ2, Fr (fun q => q = 49) μ μ2 → (∀ t, t < j → JN (μ 14) n t (μ2 49 t)) → P (nI j) μ2 := by
    refine down_ind (fun μ2 hf hj => hP _ _ (br_t (by decide) (k μ2 hf hj))) (fun j hj ih μ2 hf hJ => hP _ _ (br_f (nI_ge hj (by decide)) ⟨in9 hj (by omega), ?_⟩))
    rw [cl9 (show j < 1000000 by omega)]
    intro P2 hP2
    have H2 : ∀ i, i ≤ n → ∀ μ3, Fr (fun q => q = 49) μ μ3 → (∀ t, t < j → JN (μ 14) n t (μ3 49 t)) → JN (μ 14) i j (μ3 49 j) → P2 (nI j) (nI i) μ3 := by
      refine down_ind (fun μ3 hf hJ hI => ?_) (fun i hi ih2 μ3 hf hJ hI => ?_)
      · refine hP2 _ _ _ (br_t (by rw [hf 13 (by omega), h.1]; exact nI_self_le n) ?_)
        rw [nI_1]
        refine ih μ3 hf (fun t ht => ?_)
        by_cases e : t = j
        · subst e; exact hI
        · exact hJ t (by omega)
      · refine hP2 _ _ _ (br_f (by rw [hf 13 (by omega), h.1]; exact nI_ge hi (by omega)) ?_)
        have a1 := in9 (show i < 9 by omega) (show 9 < 1000000 by omega)
        have a2 := in9 hj (show 10 < 1000000 by omega)
        rw [nI_1, cl9 (show i < 1000000 by omega), cl9 (show j < 1000000 by omega), bit_z _ (show j < 32 by omega), hf 14 (by omega)]
        refine ⟨a1, fun q => ih2 _ hf hJ (fun u => ?_), fun q => ⟨a2, a1, a2, ih2 _ (Fr_p hf rfl) (fun t ht => ?_) (fun u => ?_)⟩⟩
        · rw [hI u]
          constructor
          · rintro ⟨w, hw, c⟩; exact ⟨w, by omega, c⟩
          · rintro ⟨w, hw, c1, c2⟩
            by_cases e : w = i
            · subst e; rw [q] at c1; exact absurd c1 (by decide)
            · exact ⟨w, by omega, c1, c2⟩
        · rw [m2, pk_un (by omega)]; exact hJ t ht
        · rw [m2, pk_us, hb_or, Bool.or_eq_true, hI u]
          constructor
          · rintro (⟨w, hw, c⟩ | c)
            · exact ⟨w, by omega, c⟩
            · exact ⟨i, by omega, hbt q, c⟩
          · rintro ⟨w, hw, c1, c2⟩
            by_cases e : w = i
            · subst e; exact Or.inr c2
            · exact Or.inl ⟨w, by omega, c1, c2⟩
    refine H2 0 (Nat.zero_le _) _ (Fr_p hf rfl) (fun t ht => ?_) (fun u => ?_)
    · rw [m2, pk_un (by omega)]; exact hJ t ht
    · rw [m2, pk_us, hb_0]
      exact ⟨fun q => absurd q (by decide), fun q => by obtain ⟨w, hw, _⟩ := q; omega⟩
  exact H 0 (Nat.zero_le _) μ (Fr_rf _ _) (fun t ht => absurd ht (by omega))
theorem eX_isKnot {n : Nat} {nd : Nat → Int32} {x : Int32} {μ : Mem} {post : Int32 → Mem → Prop} (hJ : ∀ t, t < 10 → JN nd n t (μ 49 t)) (hx : lo 10 x) (h0 : ¬ knot n nd x → post 0 μ) (h1 : knot n nd x → post 1 μ) : T_X0_isKnot x μ post := by
  intro P hP
  have H : ∀ j, j ≤ 10 → (∀ t u, t < j → u < 10 → hb x t = true → hb x u = true → ∃ w, w < n ∧ hb (nd w) t = true ∧ hb (nd w) u = true) → P x (nI j) μ := by
    refine down_ind (fun hc => hP _ _ _ (br_t (by decide) (h1 hc))) (fun j hj ih hc => hP _ _ _ (br_f (nI_ge hj (by decide)) ?_))
    rw [nI_1, bit_z x (show j < 32 by omega), cl9 (show j < 1000000 by omega)]
    refine ⟨fun q => ih (fun t u ht hu p1 p2 => ?_), fun q => ⟨in9 hj (by omega), fun q2 => ih (fun t u ht hu p1 p2 => ?_), fun q2 => h0 (fun c => q2 (andn_0.mpr (fun u hu => (hJ j hj u).mpr (c j u hj ?_ (hbt q) hu))))⟩⟩
    · by_cases e : t = j
      · subst e; rw [q] at p1; exact absurd p1 (by decide)
      · exact hc t u (by omega) hu p1 p2
    · by_cases e : t = j
      · subst e; exact (hJ t hj u).mp (andn_0.mp q2 u p2)
      · exact hc t u (by omega) hu p1 p2
    · rcases Nat.lt_or_ge u 10 with t | t
      · exact t
      · rw [hx u t] at hu; exact absurd hu (by decide)
  exact H 0 (Nat.zero_le _) (fun t u ht => absurd ht (by omega))
theorem sum10_0 (z : Nat → Nat) : sum10 z (nI 0) = 0 := by
  unfold sum10
  rw [show (nI 0 : Int32) = 0 from rfl]
  rw [hb_0, hb_0, hb_0, hb_0, hb_0, hb_0, hb_0, hb_0, hb_0, hb_0]
  rfl
/-- b is the first of the greatest knots below S -/
def SC (n : Nat) (nd : Nat → Int32) (z : Nat → Nat) (S b : Nat) : Prop := b < 1024 ∧ ((b = 0 ∧ ∀ s, 0 < s → s < S → knot n nd (nI s) → sum10 z (nI s) = 0) ∨ (0 < b ∧ b < S ∧ knot n nd (nI b) ∧ 0 < sum10 z (nI b) ∧ (∀ s, 0 < s → s < S → knot n nd (nI s) → sum10 z (nI s) ≤ sum10 z (nI b)) ∧ ∀ s, 0 < s → s < b → knot n nd (nI s) → sum10 z (nI s) < sum10 z (nI b)))
theorem SC_1 (n : Nat) (nd : Nat → Int32) (z : Nat → Nat) : SC n nd z 1 0 := ⟨by omega, Or.inl ⟨rfl, fun s h1 h2 => absurd h2 (by omega)⟩⟩
theorem SC_skip {n S b : Nat} {nd : Nat → Int32} {z : Nat → Nat} (h : SC n nd z S b) (q : knot n nd (nI S) → sum10 z (nI S) ≤ sum10 z (nI b)) : SC n nd z (S + 1) b := by
  obtain ⟨hb0, h⟩ := h
  refine ⟨hb0, ?_⟩
  rcases h with ⟨e, h⟩ | ⟨a1, a2, a3, a4, a5, a6⟩
  · refine Or.inl ⟨e, fun s h1 h2 h3 => ?_⟩
    by_cases es : s = S
    · subst es
      have := q h3
      rw [e, sum10_0] at this; omega
    · exact h s h1 (by omega) h3
  · refine Or.inr ⟨a1, by omega, a3, a4, fun s h1 h2 h3 => ?_, a6⟩
    by_cases es : s = S
    · subst es; exact q h3
    · exact a5 s h1 (by omega) h3
theorem SC_take {n S b : Nat} {nd : Nat → Int32} {z : Nat → Nat} (h : SC n nd z S b) (hS : 0 < S) (hS2 : S < 1024) (c : knot n nd (nI S)) (q : sum10 z (nI b) < sum10 z (nI S)) : SC n nd z (S + 1) S := by
  obtain ⟨hb0, h⟩ := h
  have hle : ∀ s, 0 < s → s < S → knot n nd (nI s) → sum10 z (nI s) ≤ sum10 z (nI b) := by
    rcases h with ⟨e, h⟩ | ⟨a1, a2, a3, a4, a5, a6⟩
    · intro s h1 h2 h3; rw [h s h1 h2 h3]; omega
    · exact a5
  refine ⟨hS2, Or.inr ⟨hS, by omega, c, by omega, fun s h1 h2 h3 => ?_, fun s h1 h2 h3 => ?_⟩⟩
  · by_cases es : s = S
    · subst es; exact Nat.le_refl _
    · have := hle s h1 (by omega) h3; omega
  · have := hle s h1 h2 h3; omega
theorem SC_u {n S b b' : Nat} {nd nd' : Nat → Int32} {z : Nat → Nat} (e : ∀ w, w < n → nd w = nd' w) (h : SC n nd z S b) (h' : SC n nd' z S b') : b = b' := by
  have e' : ∀ w, w < n → nd' w = nd w := fun w hw => (e w hw).symm
  obtain ⟨-, h⟩ := h
  obtain ⟨-, h'⟩ := h'
  rcases h with ⟨e1, h⟩ | ⟨a1, a2, a3, a4, a5, a6⟩
  · rcases h' with ⟨e2, h'⟩ | ⟨b1, b2, b3, b4, b5, b6⟩
    · rw [e1, e2]
    · have := h b' b1 b2 (knot_cong e' b3); omega
  · rcases h' with ⟨e2, h'⟩ | ⟨b1, b2, b3, b4, b5, b6⟩
    · have := h' b a1 a2 (knot_cong e a3); omega
    · have c1 := a5 b' b1 b2 (knot_cong e' b3)
      have c2 := b5 b a1 a2 (knot_cong e a3)
      rcases Nat.lt_trichotomy b b' with t | t | t
      · have := b6 b a1 t (knot_cong e a3); omega
      · exact t
      · have := a6 b' b1 t (knot_cong e' b3); omega
theorem needF_hb {nd : Nat → Int32} {x : Int32} {t : Nat} : ∀ n, hb (needF nd x n) t = true ↔ ∃ w, w < n ∧ hb x w = true ∧ hb (nd w) t = true := by
  intro n
  induction n with
  | zero => exact ⟨fun q => by rw [show needF nd x 0 = 0 from rfl, hb_0] at q; exact absurd q (by decide), fun q => by obtain ⟨w, hw, _⟩ := q; omega⟩
  | succ k ih =>
    rw [needF_s, hb_or, Bool.or_eq_true, ih]
    constructor
    · rintro (⟨w, hw, c⟩ | c)
      · exact ⟨w, by omega, c⟩
      · cases q : hb x k
        · rw [q] at c
          have c : hb 0 t = true := c
          rw [hb_0] at c; exact absurd c (by decide)
        · rw [q] at c; exact ⟨k, by omega, q, c⟩
    · rintro ⟨w, hw, c1, c2⟩
      by_cases e : w = k
      · subst e; right; rw [c1]; exact c2
      · exact Or.inl ⟨w, by omega, c1, c2⟩
theorem hb_full {n w : Nat} (h9 : n ≤ 9) (hw : w < n) : hb (nI (2 ^ n - 1)) w = true := by
  have : ∀ n, n ≤ 9 → ∀ w, w < n → hb (nI (2 ^ n - 1)) w = true := by decide +kernel
  exact this n h9 w hw
theorem knot_in {n a s : Nat} {nd : Nat → Int32} (h9 : n ≤ 9) (ha : a < 1024) (hs : s < 1024) (e : needF nd (nI (2 ^ n - 1)) n = nI a) (h : knot n nd (nI s)) : Sub (nI s) (nI a) := fun t ht => by
  have ht10 : t < 10 := by
    rcases Nat.lt_or_ge t 10 with q | q
    · exact q
    · rw [nI_lo (n := 10) (by omega) (by omega) t q] at ht; exact absurd ht (by decide)
  obtain ⟨w, hw, c, -⟩ := h t t ht10 ht10 ht ht
  rw [← e, needF_hb]
  exact ⟨w, hw, hb_full h9 hw, c⟩
theorem Sub_le {s a : Nat} (ha : a < 1024) (hs : s < 1024) (h : Sub (nI s) (nI a)) : s ≤ a := by
  have e : s &&& a = s := by
    apply Nat.eq_of_testBit_eq
    intro i
    rw [Nat.testBit_and]
    cases q : s.testBit i
    · rfl
    · have := h i (by rw [hb_nI (by omega)]; exact q)
      rw [hb_nI (by omega)] at this
      rw [this]; rfl
  rw [← e]
  exact Nat.and_le_right
theorem eX_findKnot {n : Nat} {z : Nat → Nat} {μ : Mem} {post : Mem → Prop} (h : WK n μ) (hz : ScR 16 z μ) (k : ∀ b μ', Fr (fun q => q = 47 ∨ q = 49) μ μ' → SC n (μ 14) z 1024 b → μ' 47 1 = nI b → μ' 47 2 = nI (sum10 z (nI b)) → post μ') : T_X0_findKnot μ post := by
  have h9 := h.2.1
  refine eX_fillJoined h (fun μ1 hf1 hJ => ?_)
  have hn1 : μ1 13 4 = nI n := by rw [hf1 13 (by omega)]; exact h.1
  refine sX_all hn1 h9 (eX_neededBy hn1 h9 ?_)
  have e14 : μ1 14 = μ 14 := hf1 14 (by omega)
  rw [e14]
  obtain ⟨a, ha, ea⟩ := lo_nI (needF_lo (fun w hw => h.2.2 w (by omega)) (nI (2 ^ n - 1)) n (Nat.le_refl _))
  have ha2 : a < 1024 := ha
  rw [ea]
  intro P hP
  have H : ∀ j, 0 < j → j ≤ a + 1 → ∀ b μ2, Fr (fun q => q = 47 ∨ q = 49) μ μ2 → μ2 49 = μ1 49 → SC n (μ 14) z j b → μ2 47 1 = nI b → μ2 47 2 = nI (sum10 z (nI b)) → P (nI a) (nI j) μ2 := by
    intro j hj0 hj
    revert hj0
    revert j
    refine down_ind (fun _ b μ2 hf e49 hs e1 e2 => hP _ _ _ (br_t (nI_lt (by omega) (by omega)) (k b μ2 hf ?_ e1 e2))) (fun j hj ih hj0 b μ2 hf e49 hs e1 e2 => hP _ _ _ (br_f (nI_nlt (by omega) (by omega)) ?_))
    · obtain ⟨hb0, hs⟩ := hs
      refine ⟨hb0, ?_⟩
      have out : ∀ s, a < s → s < 1024 → ¬ knot n (μ 14) (nI s) := fun s h1 h2 c => by
        have := Sub_le ha2 h2 (knot_in h9 ha2 h2 ea c); omega
      rcases hs with ⟨e, hs⟩ | ⟨a1, a2, a3, a4, a5, a6⟩
      · refine Or.inl ⟨e, fun s h1 h2 h3 => ?_⟩
        rcases Nat.lt_or_ge a s with t | t
        · exact absurd h3 (out s t h2)
        · exact hs s h1 (by omega) h3
      · refine Or.inr ⟨a1, by omega, a3, a4, fun s h1 h2 h3 => ?_, a6⟩
        rcases Nat.lt_or_ge a s with t | t
        · exact absurd h3 (out s t h2)
        · exact a5 s h1 (by omega) h3
    · have hz2 : ScR 16 z μ2 := ScR_fr hz hf (by omega) (by omega)
      rw [nI_1]
      refine ⟨fun q => ih (by omega) b μ2 hf e49 (SC_skip hs (fun c => absurd (andn_0.mpr (knot_in h9 ha2 (by omega) ea c)) q)) e1 e2, fun q => sX_sumE hz2 ?_⟩
      rw [e2]
      have l1 := sum10_le hz.1 (nI j)
      have l2 := sum10_le hz.1 (nI b)
      refine pk_le (sum10 z (nI j)) (sum10 z (nI b)) (fun t => ih (by omega) b μ2 hf e49 (SC_skip hs (fun _ => t)) e1 e2) (fun t => ?_)
      refine eX_isKnot (n := n) (nd := μ 14) (fun t ht => by rw [e49]; exact hJ t ht) (nI_lo (n := 10) (by omega) (by omega)) (fun c => br_t rfl (ih (by omega) b μ2 hf e49 (SC_skip hs (fun c2 => absurd c2 c)) e1 e2)) (fun c => br_f n10 (sX_sumE (ScR_p hz2 (by decide) (by decide)) (ih (by omega) j _ (Fr_p (Fr_p hf (Or.inl rfl)) (Or.inl rfl)) ?_ (SC_take hs hj0 (by omega) c t) ?_ ?_)))
      · unfold mset; rw [mput_o (by decide), mput_o (by decide)]; exact e49
      · rw [m2, pk_un (by decide), m2, pk_us]
      · rw [m2, pk_us]
  refine H 1 (by omega) (by omega) 0 _ (Fr_p (Fr_p (Fr_mono hf1 (fun q hq => Or.inr hq)) (Or.inl rfl)) (Or.inl rfl)) ?_ (SC_1 _ _ _) ?_ ?_
  · unfold mset; rw [mput_o (by decide), mput_o (by decide)]
  · rw [m2, pk_un (by decide), m2, pk_us]; rfl
  · rw [m2, pk_us, sum10_0]; rfl
theorem eM_share {n t u : Nat} {μ : Mem} {post : Int32 → Mem → Prop} (h : WM n μ) (ht : t < 10) (hu : u < 10) (h0 : (¬ ∃ w, w < n ∧ hb (μ 4 w) t = true ∧ hb (μ 4 w) u = true) → post 0 μ) (h1 : (∃ w, w < n ∧ hb (μ 4 w) t = true ∧ hb (μ 4 w) u = true) → post 1 μ) : T_X12_share (nI t) (nI u) μ post := by
  obtain ⟨hn, h9, -⟩ := h
  intro P hP
  have H : ∀ j, j ≤ n → (¬ ∃ w, w < j ∧ hb (μ 4 w) t = true ∧ hb (μ 4 w) u = true) → P (nI t) (nI u) (nI j) μ := by
    refine down_ind (fun hc => hP _ _ _ _ (br_t (by rw [hn]; exact nI_self_le n) (h0 hc))) (fun j hj ih hc => hP _ _ _ _ (br_f (by rw [hn]; exact nI_ge hj (by omega)) ⟨in9 (by omega) (by omega), ?_⟩))
    rw [nI_1, cl9 (show j < 1000000 by omega)]
    refine sM_hasB (by omega) (fun q => br_t rfl (ih ?_)) (fun q => br_f n10 ⟨in9 (by omega) (by omega), sM_hasB (by omega) (fun q2 => br_t rfl (ih ?_)) (fun q2 => br_f n10 (h1 ⟨j, hj, q, q2⟩))⟩)
    · rintro ⟨w, hw, c1, c2⟩
      by_cases e : w = j
      · subst e; rw [q] at c1; exact absurd c1 (by decide)
      · exact hc ⟨w, by omega, c1, c2⟩
    · rintro ⟨w, hw, c1, c2⟩
      by_cases e : w = j
      · subst e; rw [q2] at c2; exact absurd c2 (by decide)
      · exact hc ⟨w, by omega, c1, c2⟩
  exact H 0 (Nat.zero_le _) (fun q => by obtain ⟨w, hw, _⟩ := q; omega)
theorem eM_isKnot {n : Nat} {x : Int32} {μ : Mem} {post : Int32 → Mem → Prop} (h : WM n μ) (h0 : ¬ knot n (μ 4) x → post 0 μ) (h1 : knot n (μ 4) x → post 1 μ) : T_X12_isKnot x μ post := by
  intro P hP
  have H : ∀ j, j ≤ 10 → (∀ t u, t < j → u < j → hb x t = true → hb x u = true → ∃ w, w < n ∧ hb (μ 4 w) t = true ∧ hb (μ 4 w) u = true) → P x (nI j) μ := by
    refine down_ind (fun hc => hP _ _ _ (br_t (by decide) (h1 hc))) (fun j hj ih hc => hP _ _ _ (br_f (nI_ge hj (by decide)) ?_))
    intro P2 hP2
    have H2 : ∀ i, i ≤ j + 1 → (∀ u, u < i → hb x j = true → hb x u = true → ∃ w, w < n ∧ hb (μ 4 w) j = true ∧ hb (μ 4 w) u = true) → P2 x (nI j) (nI i) μ := by
      refine down_ind (fun hi => hP2 _ _ _ _ (br_t (nI_lt (by omega) (by omega)) ?_)) (fun i hi ih2 hu => hP2 _ _ _ _ (br_f (nI_nlt (by omega) (by omega)) ?_))
      · rw [nI_1]
        refine ih (fun t u ht hu p1 p2 => ?_)
        by_cases e : t = j
        · subst e; exact hi u hu p1 p2
        · by_cases e2 : u = j
          · subst e2
            obtain ⟨w, hw, c1, c2⟩ := hi t (by omega) p2 p1
            exact ⟨w, hw, c2, c1⟩
          · exact hc t u (by omega) (by omega) p1 p2
      · rw [nI_1]
        refine sM_hasB (by omega) (fun q => br_t rfl (ih2 (fun u hu2 p1 p2 => ?_))) (fun q => br_f n10 (sM_hasB (by omega) (fun q2 => br_t rfl (ih2 (fun u hu2 p1 p2 => ?_))) (fun q2 => br_f n10 (eM_share h hj (by omega) (fun c => rb_f rfl (h0 (fun kn => c (kn j i hj (by omega) q q2)))) (fun c => rb_t n10 (ih2 (fun u hu2 p1 p2 => ?_)))))))
        · rw [q] at p1; exact absurd p1 (by decide)
        · by_cases e : u = i
          · subst e; rw [q2] at p2; exact absurd p2 (by decide)
          · exact hu u (by omega) p1 p2
        · by_cases e : u = i
          · subst e; exact c
          · exact hu u (by omega) p1 p2
    exact H2 0 (Nat.zero_le _) (fun u hu => absurd hu (by omega))
  exact H 0 (Nat.zero_le _) (fun t u ht => absurd ht (by omega))
theorem eM_knotOf {n : Nat} {z : Nat → Nat} {μ : Mem} {post : Int32 → Mem → Prop} (h : WM n μ) (hz : ∀ t, t < 10 → μ 6 t = nI (z t)) (hz9 : ∀ t, z t ≤ 99) (k : ∀ b, SC n (μ 4) z 1024 b → post (nI b) μ) : T_X12_knotOf μ post := by
  intro P hP
  have H : ∀ j, 0 < j → j ≤ 1024 → ∀ b, SC n (μ 4) z j b → P (nI b) (nI (sum10 z (nI b))) (nI j) μ := by
    intro j hj0 hj
    revert hj0
    revert j
    refine down_ind (fun _ b hs => hP _ _ _ _ (br_t (by decide) (k b hs))) (fun j hj ih hj0 b hs => hP _ _ _ _ (br_f (nI_ge hj (by decide)) (sM_sizeE ?_)))
    rw [nI_1, sizeF_sum hz]
    have l1 := sum10_le hz9 (nI j)
    have l2 := sum10_le hz9 (nI b)
    refine pk_le (sum10 z (nI j)) (sum10 z (nI b)) (fun t => ih (by omega) b (SC_skip hs (fun _ => t))) (fun t => ?_)
    exact eM_isKnot h (fun c => br_t rfl (ih (by omega) b (SC_skip hs (fun c2 => absurd c2 c)))) (fun c => br_f n10 (ih (by omega) j (SC_take hs hj0 (by omega) c t)))
  have e0 : nI (sum10 z (nI 0)) = 0 := by rw [sum10_0]; rfl
  have := H 1 (by omega) (by omega) 0 (SC_1 _ _ _)
  rw [e0] at this
  exact this
