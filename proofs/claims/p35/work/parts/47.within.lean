/-! within: both sides alike -/
def wC (nd : Nat → Int32) (j i : Nat) : Prop := (¬ nd j = nd i ∧ nd j &&& (nd i ^^^ (-1)) = 0) ∨ (nd j = nd i ∧ i < j)
def wB (n : Nat) (nd : Nat → Int32) (j : Nat) (y : Int32) : Prop := ∀ v, hb y v = true ↔ (v < j ∧ ∃ t, t < n ∧ wC nd v t)
def wI (n : Nat) (nd : Nat → Int32) (j i : Nat) (y : Int32) : Prop := ∀ v, hb y v = true ↔ ((v < j ∧ ∃ t, t < n ∧ wC nd v t) ∨ (v = j ∧ ∃ t, t < i ∧ wC nd j t))
theorem wB_0 (n : Nat) (nd : Nat → Int32) : wB n nd 0 0 := fun v => ⟨fun h => by rw [hb_0] at h; exact absurd h (by decide), fun h => absurd h.1 (by omega)⟩
theorem wI_0 {n j : Nat} {nd : Nat → Int32} {y : Int32} (h : wB n nd j y) : wI n nd j 0 y := fun v => by
  rw [h v]
  refine ⟨fun q => Or.inl q, fun q => ?_⟩
  rcases q with q | ⟨-, t, ht, -⟩
  · exact q
  · exact absurd ht (by omega)
theorem wI_n {n j : Nat} {nd : Nat → Int32} {y : Int32} (h : wI n nd j n y) : wB n nd (j + 1) y := fun v => by
  rw [h v]
  constructor
  · rintro (⟨q, t⟩ | ⟨e, t⟩)
    · exact ⟨by omega, t⟩
    · subst e; exact ⟨by omega, t⟩
  · rintro ⟨q, t⟩
    by_cases e : v = j
    · subst e; exact Or.inr ⟨rfl, t⟩
    · exact Or.inl ⟨by omega, t⟩
theorem wI_t {n j i : Nat} {nd : Nat → Int32} {y : Int32} (hj : j < 32) (h : wI n nd j i y) (c : wC nd j i) : wI n nd j (i + 1) (y ||| ((1 : Int32) <<< (nI j &&& 31))) := fun v => by
  rw [hb_or, Bool.or_eq_true, hb_shl hj, decide_eq_true_iff, h v]
  constructor
  · rintro ((q | ⟨e, t, ht, hc⟩) | e)
    · exact Or.inl q
    · exact Or.inr ⟨e, t, by omega, hc⟩
    · exact Or.inr ⟨e, i, by omega, c⟩
  · rintro (q | ⟨e, -⟩)
    · exact Or.inl (Or.inl q)
    · exact Or.inr e
theorem wI_f {n j i : Nat} {nd : Nat → Int32} {y : Int32} (h : wI n nd j i y) (c : ¬ wC nd j i) : wI n nd j (i + 1) y := fun v => by
  rw [h v]
  constructor
  · rintro (q | ⟨e, t, ht, hc⟩)
    · exact Or.inl q
    · exact Or.inr ⟨e, t, by omega, hc⟩
  · rintro (q | ⟨e, t, ht, hc⟩)
    · exact Or.inl q
    · by_cases et : t = i
      · subst et; exact absurd hc c
      · exact Or.inr ⟨e, t, by omega, hc⟩
theorem eX_isWithin {μ : Mem} {a b : Nat} {post : Int32 → Mem → Prop} (ha : a < 9) (hb9 : b < 9) (h0 : ¬ wC (μ 14) a b → post 0 μ) (h1 : wC (μ 14) a b → post 1 μ) : T_X0_isWithin (nI a) (nI b) μ post := by
  have a1 := in9 ha (show 9 < 1000000 by omega)
  have a2 := in9 hb9 (show 9 < 1000000 by omega)
  unfold T_X0_isWithin
  rw [cl9 (show a < 1000000 by omega), cl9 (show b < 1000000 by omega)]
  refine ⟨a1, a2, fun q => ⟨a1, a2, fun q2 => h0 (fun t => t.elim (fun t => q2 t.2) (fun t => q t.1)), fun q2 => h1 (Or.inl ⟨q, q2⟩)⟩, fun q => ⟨fun q2 => h0 (fun t => t.elim (fun t => t.1 q) (fun t => nI_ge t.2 (by omega) q2)), fun q2 => h1 (Or.inr ⟨q, ?_⟩)⟩⟩
  rcases Nat.lt_or_ge b a with t | t
  · exact t
  · exact absurd (nI_le t (by omega)) q2
theorem eX_allWithin {μ : Mem} {n : Nat} {post : Int32 → Mem → Prop} (h : WK n μ) (k : ∀ r, wB n (μ 14) n r → post r μ) : T_X0_allWithin μ post := by
  obtain ⟨hn, h9, -⟩ := h
  intro P hP
  have H : ∀ j, j ≤ n → ∀ y, wB n (μ 14) j y → P y (nI j) μ := by
    refine down_ind (fun y hy => hP _ _ _ (br_t (by rw [hn]; exact nI_self_le n) (k y hy))) (fun j hj ih y hy => hP _ _ _ (br_f (by rw [hn]; exact nI_ge hj (by omega)) ?_))
    intro P2 hP2
    have H2 : ∀ i, i ≤ n → ∀ y, wI n (μ 14) j i y → P2 y (nI j) (nI i) μ := by
      refine down_ind (fun y hy => hP2 _ _ _ _ (br_t (by rw [hn]; exact nI_self_le n) ?_)) (fun i hi ih2 y hy => hP2 _ _ _ _ (br_f (by rw [hn]; exact nI_ge hi (by omega)) ?_))
      · rw [nI_1]; exact ih y (wI_n hy)
      · rw [nI_1]
        exact eX_isWithin (by omega) (by omega) (fun c => br_t rfl (ih2 _ (wI_f hy c))) (fun c => br_f n10 (ih2 _ (wI_t (by omega) hy c)))
    exact H2 0 (Nat.zero_le _) y (wI_0 hy)
  exact H 0 (Nat.zero_le _) 0 (wB_0 _ _)
theorem eM_within {n : Nat} {μ : Mem} {post : Int32 → Mem → Prop} (h : WM n μ) (k : ∀ r, wB n (μ 4) n r → post r μ) : T_X12_within μ post := by
  obtain ⟨hn, h9, -⟩ := h
  intro P hP
  have H : ∀ j, j ≤ n → ∀ y, wB n (μ 4) j y → P y (nI j) μ := by
    refine down_ind (fun y hy => hP _ _ _ (br_t (by rw [hn]; exact nI_self_le n) (k _ hy))) (fun j hj ih y hy => hP _ _ _ (br_f (by rw [hn]; exact nI_ge hj (by omega)) ?_))
    intro P2 hP2
    have H2 : ∀ i, i ≤ n → ∀ y, wI n (μ 4) j i y → P2 y (nI j) (nI i) μ := by
      refine down_ind (fun y hy => hP2 _ _ _ _ (br_t (by rw [hn]; exact nI_self_le n) (by rw [nI_1]; exact ih _ (wI_n hy)))) (fun i hi ih2 y hy => hP2 _ _ _ _ (br_f (by rw [hn]; exact nI_ge hi (by omega)) ?_))
      have i1 := in9 (show j < 9 by omega) (show 9 < 1000000 by omega)
      have i2 := in9 (show i < 9 by omega) (show 9 < 1000000 by omega)
      have h69 : ¬ wC (μ 4) j i → T_X12_within_69 post P P2 y (nI j) (nI i) μ := fun c => by
        unfold T_X12_within_69 T_X12_within_70 T_X12_within_85
        rw [nI_1, or0]
        exact br_t rfl (ih2 _ (wI_f hy c))
      have h65 : wC (μ 4) j i → T_X12_within_65 post P P2 y (nI j) (nI i) μ := fun c => by
        unfold T_X12_within_65 T_X12_within_70 T_X12_within_85
        rw [nI_1]
        exact br_f n10 (ih2 _ (wI_t (by omega) hy c))
      rw [cl9 (show j < 1000000 by omega), cl9 (show i < 1000000 by omega)]
      refine ⟨fun e => h69 (fun c => ?_), fun e => ⟨i1, i2, fun q => h69 (fun c => c.elim (fun c => q c.2) (fun c => q ?_)), fun q => ⟨i1, i2, fun q2 => h65 (Or.inl ⟨q2, q⟩), fun q2 => ⟨fun q3 => h69 (fun c => c.elim (fun c => c.1 q2) (fun c => nI_ge c.2 (by omega) q3)), fun q3 => h65 (Or.inr ⟨q2, ?_⟩)⟩⟩⟩⟩
      · have e' := (nI_eq (by omega) (by omega)).mp e
        subst e'
        exact c.elim (fun c => c.1 rfl) (fun c => by omega)
      · rw [c.1]
        apply hb_ext
        intro v _
        rw [hb_andn, hb_0]
        cases hb (μ 4 i) v <;> rfl
      · rcases Nat.lt_or_ge i j with t | t
        · exact t
        · exact absurd (nI_le t (by omega)) q3
    exact H2 0 (Nat.zero_le _) y (wI_0 hy)
  exact H 0 (Nat.zero_le _) _ (wB_0 _ _)
theorem wC_cong {n : Nat} {nd nd' : Nat → Int32} (e : ∀ w, w < n → nd w = nd' w) {v t : Nat} (hv : v < n) (ht : t < n) : wC nd v t ↔ wC nd' v t := by
  unfold wC
  rw [e v hv, e t ht]
theorem wB_eq {n : Nat} {nd nd' : Nat → Int32} {r r' : Int32} (e : ∀ w, w < n → nd w = nd' w) (h : wB n nd n r) (h' : wB n nd' n r') : r = r' := by
  apply hb_ext
  intro v _
  apply Bool.eq_iff_iff.mpr
  rw [h v, h' v]
  constructor
  · rintro ⟨hv, t, ht, c⟩; exact ⟨hv, t, ht, (wC_cong e hv ht).mp c⟩
  · rintro ⟨hv, t, ht, c⟩; exact ⟨hv, t, ht, (wC_cong e hv ht).mpr c⟩
theorem tw_within {n m m' : Nat} {z1 z2 : Nat → Nat} {μX μM : Mem} {G : Prop → Prop} {Q : Int32 → Int32 → Mem → Mem → Prop} (hG : ∀ T, T → G T) (hX : IX n m z1 z2 μX) (hM : IM n m' μM) (hK : RK n z1 z2 μX μM) (k : ∀ r r2 m1' μ2, r = r2 → IM n m1' μ2 → Fr sMV μM μ2 → Q r r2 μX μ2) : T_X11_within μX (fun r μ1 => G (T_X12_within μM (fun r2 μ2 => Q r r2 μ1 μ2))) :=
  eX_allWithin hX.1 (fun r hr => hG _ (eM_within hM.1 (fun r2 hr2 => k r r2 m' μM (wB_eq (fun w hw => (hK.1 w hw).1) hr hr2) hM (Fr_rf _ _))))
