/-! the reference: before, thing, order, shop -/
section MCalls5
variable {n m : Nat} {μ : Mem} {post : Int32 → Mem → Prop} {x1 x2 x3 x4 x5 : Int32}
theorem pM_before (h : IM n m μ) (k : ∀ r μ', Fr (fun q => q = 5) μ μ' → IM n m μ' → post r μ') : T_X12_before x1 x2 x3 μ post := by
  have h9 := mN h
  have k1 : ∀ r, post r μ := fun r => k r μ (Fr_rf _ _) h
  refine sM_isWork h.1 (fun _ => br_t rfl (k1 _)) (fun i hi e => br_f n10 (sM_isWork h.1 (fun _ => rb_f rfl (k1 _)) (fun j hj e2 => rb_t n10 ⟨fun hne => ?_, fun _ => k1 _⟩)))
  subst e e2
  have hij : i ≠ j := fun e => hne (by rw [e])
  have i1 := in9 (show j < 9 by omega) (show 9 < 1000000 by omega)
  rw [cl9 (show j < 1000000 by omega)]
  have fin : ∀ v, AC n (upd (μ 5) j v) → T_X12_before_95 post v (nI j) μ := fun v hv => by
    refine ⟨i1, k _ _ (Fr_put _ _ rfl) (IM_5 h (Fr_put _ _ rfl) ?_)⟩
    rw [m2, cl9 (show j < 1000000 by omega)]
    exact hv
  refine ⟨i1, sM_has' ⟨fun q => ?_, fun _ => k1 _⟩ ⟨fun q => ?_, fun _ => k1 _⟩⟩
  · have h61f : ∀ A : Int32, x3 ≠ 0 → (∀ v, hb (μ 5 i) v = true → hb A v = true) → (∀ x, x < n → hb A x = true → ∀ v, hb (μ 5 x) v = true → hb A v = true) → hb A j = false → T_X12_before_61 post (nI i) (nI j) x3 μ := by
      intro A hx hA hcl hj0
      refine ⟨fun e => absurd e hx, fun _ => ⟨i1, fin _ ⟨?_, fun w hw => ?_⟩⟩⟩
      · rw [cl9 (show j < 1000000 by omega)]
        refine Acyc_add (w := i) (o := j) (A := fun v => hb A v = true) h.2.1.1 hi (fun v _ hv => hA v hv) (fun x hx hAx v _ hv => hcl x hx hAx v hv) (fun t => by rw [hj0] at t; exact absurd t (by decide)) hij (fun x hx v hv hbv => ?_)
        by_cases e : x = j
        · subst e
          rw [pk_us, hb_or, hb_shl (by omega), Bool.or_eq_true] at hbv
          rcases hbv with q | q
          · exact Or.inl q
          · exact Or.inr ⟨rfl, of_decide_eq_true q⟩
        · rw [pk_un e] at hbv; exact Or.inl hbv
      · rw [cl9 (show j < 1000000 by omega)]
        by_cases e : w = j
        · subst e; rw [pk_us]; exact lo_or (h.2.1.2 w hw) (lo_shl hi (by omega))
        · rw [pk_un e]; exact h.2.1.2 w hw
    refine ⟨fun e => absurd e.symm q, fun hx => sM_aheadOf h.1 (by omega) (fun A hA hcl _ => sM_hasB (by omega) (fun q2 => br_t rfl (h61f A hx hA hcl q2)) (fun _ => br_f n10 (k1 _)))⟩
  · have h61t : x3 = 0 → T_X12_before_61 post (nI i) (nI j) x3 μ := by
      intro hx
      refine ⟨fun _ => ⟨i1, fin _ ⟨?_, fun w hw => ?_⟩⟩, fun e => absurd hx e⟩
      · rw [cl9 (show j < 1000000 by omega)]
        refine Acyc_sub h.2.1.1 (fun x hx v hv hbv => ?_)
        by_cases e : x = j
        · subst e
          rw [pk_us, hb_and, Bool.and_eq_true] at hbv
          exact hbv.1
        · rw [pk_un e] at hbv; exact hbv
      · rw [cl9 (show j < 1000000 by omega)]
        by_cases e : w = j
        · subst e; rw [pk_us]; exact lo_and (h.2.1.2 w hw) _
        · rw [pk_un e]; exact h.2.1.2 w hw
    have h61f : ∀ A : Int32, x3 ≠ 0 → (∀ v, hb (μ 5 i) v = true → hb A v = true) → (∀ x, x < n → hb A x = true → ∀ v, hb (μ 5 x) v = true → hb A v = true) → hb A j = false → T_X12_before_61 post (nI i) (nI j) x3 μ := by
      intro A hx hA hcl hj0
      refine ⟨fun e => absurd e hx, fun _ => ⟨i1, fin _ ⟨?_, fun w hw => ?_⟩⟩⟩
      · rw [cl9 (show j < 1000000 by omega)]
        refine Acyc_add (w := i) (o := j) (A := fun v => hb A v = true) h.2.1.1 hi (fun v _ hv => hA v hv) (fun x hx hAx v _ hv => hcl x hx hAx v hv) (fun t => by rw [hj0] at t; exact absurd t (by decide)) hij (fun x hx v hv hbv => ?_)
        by_cases e : x = j
        · subst e
          rw [pk_us, hb_or, hb_shl (by omega), Bool.or_eq_true] at hbv
          rcases hbv with q | q
          · exact Or.inl q
          · exact Or.inr ⟨rfl, of_decide_eq_true q⟩
        · rw [pk_un e] at hbv; exact Or.inl hbv
      · rw [cl9 (show j < 1000000 by omega)]
        by_cases e : w = j
        · subst e; rw [pk_us]; exact lo_or (h.2.1.2 w hw) (lo_shl hi (by omega))
        · rw [pk_un e]; exact h.2.1.2 w hw
    exact ⟨fun e => h61t e, fun hx => sM_aheadOf h.1 (by omega) (fun A hA hcl _ => sM_hasB (by omega) (fun q2 => br_t rfl (h61f A hx hA hcl q2)) (fun _ => br_f n10 (k1 _)))⟩
theorem IM_6 {j : Nat} {v : Nat} (h : IM n m μ) (hv : v ≤ 99) : IM n m (mset μ 6 j (nI v)) := by
  obtain ⟨a1, a2, a3, a4, a5, a6, a7, a8, a9⟩ := h
  have f : Fr (fun q => q = 6) μ (mset μ 6 j (nI v)) := Fr_put _ _ rfl
  refine ⟨⟨?_, a1.2.1, ?_, fun t ht => ?_⟩, ?_, UZ_fr a3 f (by omega) (by omega), ?_, ?_, ?_, a7, ?_, ?_⟩
  · rw [f 0 (by omega)]; exact a1.1
  · rw [f 4 (by omega)]; exact a1.2.2.1
  · rw [m2]
    by_cases e : t = j
    · subst e; rw [pk_us]; exact ⟨v, hv, rfl⟩
    · rw [pk_un e]; exact a1.2.2.2 t ht
  · rw [f 5 (by omega)]; exact a2
  · rw [f 2 (by omega)]; exact a4
  · rw [f 8 (by omega)]; exact a5
  · rw [f 10 (by omega)]; exact a6
  · rw [f 0 (by omega)]; exact a8
  · rw [f 12 (by omega)]; exact a9
theorem pM_thing (h : IM n m μ) (k : ∀ r μ', Fr sMN μ μ' → IM n m μ' → post r μ') : T_X12_thing x1 x2 x3 μ post := by
  have k1 : ∀ r, post r μ := fun r => k r μ (Fr_rf _ _) h
  refine sM_isIn (fun _ => rb_f rfl (k1 _)) (fun q1 q2 => rb_t n10 (sM_isIn (fun _ => br_t rfl (k1 _)) (fun q3 q4 => br_f n10 ?_)))
  obtain ⟨t, ht, rfl⟩ := in_of (n := 9) (by omega) q1 q2
  have i1 := in9 ht (show 9 + 1 < 1000000 by omega)
  have h42 : ∀ a b : Nat, b ≤ 99 → a ≤ b → T_X12_thing_42 post (nI t) x2 x3 (nI b) (nI a) x3 μ := by
    intro a b hb0 hab
    refine sM_isIn (fun _ => rb_f rfl (k1 _)) (fun q5 q6 => rb_t n10 ?_)
    obtain ⟨v, hv, rfl⟩ := rngI a b (by omega) q5 q6 hab
    have h70 : ∀ s, T_X12_thing_70 post (nI t) x2 (nI (a + v)) s μ := fun s => ⟨fun _ => ⟨i1, k _ _ (Fr_put _ _ (by unfold sMN; omega)) (IM_free h (Fr_put _ _ (by unfold freM; omega)))⟩, fun _ => ⟨i1, k _ _ (Fr_put _ _ (by unfold sMN; omega)) (IM_6 h (by omega))⟩⟩
    exact ⟨fun _ => ⟨i1, h70 _⟩, fun _ => ⟨i1, h70 _⟩⟩
  exact ⟨fun _ => ⟨fun _ => h42 0 99 (by omega) (by omega), fun _ => h42 0 9 (by omega) (by omega)⟩, fun _ => ⟨fun _ => h42 1 99 (by omega) (by omega), fun _ => h42 1 9 (by omega) (by omega)⟩⟩
theorem pM_order (h : IM n m μ) (k : ∀ r m' μ', Fr sMN μ μ' → IM n m' μ' → post r μ') : T_X12_order x1 x2 x3 x4 x5 μ post := by
  have h9 := mN h
  have h1 : IM n m (mset μ 0 0 0) := IM_0 h (by decide) (by decide)
  have f1 : Fr sMN μ (mset μ 0 0 0) := Fr_put _ _ MN0
  unfold T_X12_order
  generalize mset μ 0 0 0 = μ1 at h1 f1 ⊢
  have k1 : ∀ r, post r μ1 := fun r => k r m μ1 f1 h1
  refine sM_isSheet (fun _ => rb_f rfl (k1 _)) (fun j hj e => rb_t n10 (sM_isIn (fun _ => br_t rfl (k1 _)) (fun q1 q2 => br_f n10 (sM_isLane (fun _ => rb_f rfl (k1 _)) (fun l2 hl2 e3 => rb_t n10 ?_)))))
  subst e
  refine sM_against hj ⟨fun q => ⟨fun _ => k1 _, fun q5 => ⟨fun _ => ?_, fun _ => k1 _⟩⟩, fun _ => k _ m _ (Fr_p f1 MN0) (IM_0 h1 (by decide) (by decide))⟩
  obtain ⟨L, hL, eL⟩ := mSh h1 hj
  rw [eL] at q
  obtain ⟨-, a, b, rfl, rfl, hab⟩ := csf_0 hL q
  rw [h1.1.1, nI_eq (by omega) (by omega)] at q5
  subst q5
  rw [sixty_mul]
  have H124 : (∀ i, i < b → ∃ v, v < b ∧ μ1 3 (60 * j + a + i) = nI v) → ∀ y, T_X12_order_124 post x1 (nI b) (nI (60 * j + a)) y 0 μ1 := by
    intro hv y P hP
    have H : ∀ i, i ≤ b → ∀ y μ2, Fr (fun q => q = 13) μ1 μ2 → (∀ q, q < i → ∃ v, v < b ∧ μ2 13 q = nI v) → P x1 (nI b) (nI (60 * j + a)) y (nI i) μ2 := by
      refine down_ind (fun y μ2 hf2 hr => ?_) (fun i hi ih y μ2 hf2 hr => ?_)
      · have h2 := IM_free h1 (Fr_mono hf2 (fun q hq => by unfold freM; omega))
        have f2 : Fr sMN μ μ2 := Fr_tr f1 (M_MN (f13_M hf2))
        have k2 : ∀ r, post r μ2 := fun r => k r m μ2 f2 h2
        have h195 : T_X12_order_195 post x1 μ2 := sM_comes h2 hr (fun _ => k2 _) (fun _ μ3 hf3 _ _ _ _ h3 => k _ (m + 1) μ3 (Fr_tr f2 (Fr_mono hf3 (fun q hq => by unfold sMN; omega))) h3)
        exact hP _ _ _ _ _ _ (br_t (nI_self_le b) (sM_all h2.1 ⟨fun _ => k2 _, fun _ => ⟨fun _ => h195, fun _ => sM_lawful' h2.1 rfl hr (rb_f rfl (k2 _)) (rb_t n10 h195)⟩⟩))
      · refine hP _ _ _ _ _ _ (br_f (nI_ge hi (by omega)) ?_)
        rw [nI_add, nI_1, cl9 (show i < 1000000 by omega), cl9 (show 60 * j + a + i < 1000000 by omega), hf2 3 (by omega)]
        have i1 := in9 (show i < 9 by omega) (show 9 < 1000000 by omega)
        refine ⟨in9 (by omega) (by omega), i1, i1, ih _ _ (Fr_p hf2 rfl) (fun q hq => ?_)⟩
        rw [m2]
        by_cases e : q = i
        · subst e; rw [pk_us]; exact hv q hi
        · rw [pk_un e]; exact hr q (by omega)
    exact H 0 (Nat.zero_le _) y μ1 (Fr_rf _ _) (fun q hq => absurd hq (by omega))
  intro P hP
  have H : ∀ i, i ≤ b → (∀ q, q < i → ∃ v, v < b ∧ μ1 3 (60 * j + a + q) = nI v) → P x1 (nI b) (nI (60 * j + a)) 0 (nI i) μ1 := by
    refine down_ind (fun hv => hP _ _ _ _ _ _ (br_t (nI_self_le b) (H124 hv 0))) (fun i hi ih hv => hP _ _ _ _ _ _ (br_f (nI_ge hi (by omega)) ?_))
    rw [nI_add, nI_1, cl9 (show 60 * j + a + i < 1000000 by omega)]
    refine ⟨in9 (by omega) (by omega), sM_isWork h1.1 (fun _ => rb_f rfl (k1 _)) (fun v hvb e => rb_t n10 (ih (fun q hq => ?_)))⟩
    by_cases e2 : q = i
    · subst e2; exact ⟨v, hvb, e⟩
    · exact hv q (by omega)
  exact H 0 (Nat.zero_le _) (fun q hq => absurd hq (by omega))
theorem IM_rd {μ' : Mem} {a e rw : Nat} (h : IM n m μ) (f : Fr sRd μ μ') (c : CE μ μ') (hr : RD a e rw μ') : IM n m μ' := by
  obtain ⟨a1, a2, a3, a4, a5, a6, a7, a8, a9⟩ := h
  refine ⟨WM_of a1 (c 5 (by decide) (by decide) (by decide) (by decide)) (f 4 (by unfold sRd; omega)) (f 6 (by unfold sRd; omega)), ?_, UZ_fr a3 f (by unfold sRd; omega) (by unfold sRd; omega), ?_, hr.2.2.2.2.2.2.1, hr.2.2.2.2.2.2.2.2, a7, ?_, ?_⟩
  · rw [f 5 (by unfold sRd; omega)]; exact a2
  · rw [f 2 (by unfold sRd; omega)]; exact a4
  · rw [c 17 (by decide) (by decide) (by decide) (by decide)]; exact a8
  · rw [f 12 (by unfold sRd; omega)]; exact a9
theorem pM_shop (h : IM n m μ) (k : ∀ r n' m' μ', Fr sMN μ μ' → IM n' m' μ' → post r μ') : T_X12_shop x1 x2 x3 x4 μ post := by
  have h9 := mN h
  have h1 : IM n m (mset μ 0 0 0) := IM_0 h (by decide) (by decide)
  have f1 : Fr sMN μ (mset μ 0 0 0) := Fr_put _ _ MN0
  unfold T_X12_shop
  generalize mset μ 0 0 0 = μ1 at h1 f1 ⊢
  have k1 : ∀ r, post r μ1 := fun r => k r n m μ1 f1 h1
  refine sM_isSheet (fun _ => rb_f rfl (k1 _)) (fun j hj e => rb_t n10 (sM_isLane (fun _ => rb_f rfl (k1 _)) (fun l2 hl2 e3 => rb_t n10 ?_)))
  subst e
  refine sM_against hj ⟨fun q => ?_, fun _ => k _ n m _ (Fr_p f1 MN0) (IM_0 h1 (by decide) (by decide))⟩
  obtain ⟨L, hL, eL⟩ := mSh h1 hj
  rw [eL] at q
  obtain ⟨-, a, b, rfl, rfl, hab⟩ := csf_0 hL q
  rw [sixty_mul, nI_add]
  have h2 : IM n m (mset (mset μ1 0 10 (nI (60 * j + a))) 0 11 (nI (60 * j + a + b))) := IM_0 (IM_0 h1 (by decide) (by decide)) (by decide) (by decide)
  have f2 : Fr sMN μ (mset (mset μ1 0 10 (nI (60 * j + a))) 0 11 (nI (60 * j + a + b))) := Fr_p (Fr_p f1 MN0) MN0
  have e10 : (mset (mset μ1 0 10 (nI (60 * j + a))) 0 11 (nI (60 * j + a + b))) 0 10 = nI (60 * j + a) := by rw [m2, pk_un (by decide), m2, pk_us]
  have e11 : (mset (mset μ1 0 10 (nI (60 * j + a))) 0 11 (nI (60 * j + a + b))) 0 11 = nI (60 * j + a + b) := by rw [m2, pk_us]
  generalize mset (mset μ1 0 10 (nI (60 * j + a))) 0 11 (nI (60 * j + a + b)) = μ2 at h2 f2 e10 e11 ⊢
  have hra : ∀ post2 : Int32 → Mem → Prop, (∀ u a' rw' μ', RD a' (60 * j + a + b) rw' μ' → Fr sRd μ2 μ' → CE μ2 μ' → post2 u μ') → T_X12_readsAll μ2 post2 := by
    intro post2 k2
    have hp : ∀ x, T_X12_readsAll_12 post2 x (mset (mset μ2 0 12 0) 0 15 0) → T_X12_readsAll_12 post2 x (mset (mset μ2 0 12 0) 0 15 0) := fun _ q => q
    have hrd : RD (60 * j + a) (60 * j + a + b) 0 (mset (mset μ2 0 12 0) 0 15 0) := by
      refine ⟨?_, ?_, by omega, by omega, ?_, by omega, fun w hw => ?_, fun w hw => absurd hw (by omega), fun t ht => ?_⟩
      · rw [m2, pk_un (by decide), m2, pk_un (by decide)]; exact e10
      · rw [m2, pk_un (by decide), m2, pk_un (by decide)]; exact e11
      · rw [m2, pk_un (by decide), m2, pk_us]; rfl
      · unfold mset; rw [mput_o (by decide), mput_o (by decide)]; exact h2.2.2.2.2.1 w hw
      · unfold mset; rw [mput_o (by decide), mput_o (by decide)]; exact h2.2.2.2.2.2.1 t ht
    have hz : mset (mset (mset (mset μ2 0 12 0) 0 15 0) 0 12 0) 0 15 0 = mset (mset μ2 0 12 0) 0 15 0 := by
      funext c
      by_cases ec : c = 0
      · subst ec
        rw [m2, m2, m2, m2]
        funext s
        by_cases e15 : s = 15
        · subst e15; rw [pk_us, pk_us]
        · by_cases e12 : s = 12
          · subst e12; rw [pk_un e15, pk_us, pk_un e15, pk_us]
          · rw [pk_un e15, pk_un e12, pk_un e15]
      · unfold mset
        rw [mput_o (fun t => ec t.symm), mput_o (fun t => ec t.symm)]
    have := sM_readsAll (post := post2) (μ0 := μ2) hrd (Fr_p (Fr_p (Fr_rf _ _) (Or.inl rfl)) (Or.inl rfl)) (CE_u (CE_u (CE_rf _) (by omega)) (by omega)) k2
    unfold T_X12_readsAll at this ⊢
    rw [hz] at this
    exact this
  refine hra _ (fun u a' rw' μ3 hrd hf3 hc3 => ?_)
  have h3 := IM_rd h2 hf3 hc3 hrd
  have f3 : Fr sMN μ μ3 := Fr_tr f2 (Fr_mono hf3 (fun q hq => by unfold sRd at hq; unfold sMN; omega))
  refine ⟨fun _ => ?_, fun _ => k _ n m μ3 f3 h3⟩
  have e12 := hrd.2.2.2.2.1
  have hrw9 := hrd.2.2.2.2.2.1
  have hnd := hrd.2.2.2.2.2.2.1
  have hbf := hrd.2.2.2.2.2.2.2.1
  have hsz := hrd.2.2.2.2.2.2.2.2
  rw [e12]
  have K2 : ∀ μ4, Fr (fun q => q = 0 ∨ q = 4 ∨ q = 5 ∨ q = 6) μ3 μ4 → μ4 0 = upd (μ3 0) 5 (nI rw') → (∀ w, w < 9 → lo 10 (μ4 4 w)) → (∀ w, w < rw' → μ4 5 w = μ3 9 w) → (∀ t, t < 10 → ∃ v, v ≤ 99 ∧ μ4 6 t = nI v) → IM rw' 0 (mset μ4 0 17 0) := by
    intro μ4 hf4 e0 g4 g5 g6
    obtain ⟨a1, a2, a3, a4, a5, a6, a7, a8, a9⟩ := h3
    have f : Fr (fun q => q = 0 ∨ q = 4 ∨ q = 5 ∨ q = 6) μ3 (mset μ4 0 17 0) := Fr_p hf4 (Or.inl rfl)
    have fo : ∀ q, q ≠ 0 → (mset μ4 0 17 0) q = μ4 q := fun q hq => mput_o (fun e => hq e.symm)
    refine ⟨⟨?_, hrw9, ?_, ?_⟩, ⟨Acyc_lo (fun w hw => ?_), fun w hw => ?_⟩, UZ_fr a3 f (by omega) (by omega), ?_, ?_, ?_, by omega, ?_, fun j hj => absurd hj (by omega)⟩
    · rw [m2, pk_un (by decide), e0, pk_us]
    · rw [fo 4 (by decide)]; exact g4
    · rw [fo 6 (by decide)]; exact g6
    · rw [fo 5 (by decide), g5 w hw]; exact hbf w hw
    · rw [fo 5 (by decide), g5 w hw]; exact lo_mono (hbf w hw) (by omega)
    · rw [f 2 (by omega)]; exact a4
    · rw [f 8 (by omega)]; exact a5
    · rw [f 10 (by omega)]; exact a6
    · rw [m2, pk_us]; rfl
  have H145 : ∀ μ4, Fr (fun q => q = 0 ∨ q = 4 ∨ q = 5 ∨ q = 6) μ3 μ4 → μ4 0 = upd (μ3 0) 5 (nI rw') → (∀ w, w < 9 → lo 10 (μ4 4 w)) → (∀ w, w < rw' → μ4 5 w = μ3 9 w) → (∀ t, t < 10 → ∃ v, v ≤ 99 ∧ μ4 6 t = nI v) → T_X12_shop_145 post 0 μ4 := by
    intro μ4 hf4 e0 g4 g5 g6 P hP
    have H : ∀ t, t ≤ 10 → ∀ μ5, Fr (fun q => q = 0 ∨ q = 4 ∨ q = 5 ∨ q = 6) μ3 μ5 → μ5 0 = upd (μ3 0) 5 (nI rw') → (∀ w, w < 9 → lo 10 (μ5 4 w)) → (∀ w, w < rw' → μ5 5 w = μ3 9 w) → (∀ t, t < 10 → ∃ v, v ≤ 99 ∧ μ5 6 t = nI v) → P (nI t) μ5 := by
      refine down_ind (fun μ5 hf5 e0 g4 g5 g6 => hP _ _ (br_t (by decide) (k _ rw' 0 _ (Fr_p (Fr_tr f3 (Fr_mono hf5 (fun q hq => by unfold sMN; omega))) MN0) (K2 μ5 hf5 e0 g4 g5 g6)))) (fun t ht ih μ5 hf5 e0 g4 g5 g6 => hP _ _ (br_f (nI_ge (b := 10) ht (by decide)) ?_))
      have i1 := in9 ht (show 10 < 1000000 by omega)
      have h181 : ∀ v, v ≤ 99 → T_X12_shop_181 post P (nI t) (nI v) (nI t) μ5 := by
        intro v hv
        refine ⟨i1, ?_⟩
        rw [nI_1]
        refine ih _ (Fr_p hf5 (by omega)) (by unfold mset; rw [mput_o (by decide)]; exact e0) (by unfold mset; rw [mput_o (by decide)]; exact g4) (by unfold mset; rw [mput_o (by decide)]; exact g5) (fun t2 ht2 => ?_)
        rw [m2, cl9 (show t < 1000000 by omega)]
        by_cases e : t2 = t
        · subst e; rw [pk_us]; exact ⟨v, hv, rfl⟩
        · rw [pk_un e]; exact g6 t2 ht2
      refine sM_has' (br_t rfl (h181 1 (by omega))) (br_f n10 ⟨i1, ?_⟩)
      rw [cl9 (show t < 1000000 by omega), hf5 10 (by omega)]
      obtain ⟨v, hv, ev⟩ := hsz t ht
      rw [ev]
      exact h181 v (by omega)
    exact H 0 (Nat.zero_le _) μ4 hf4 e0 g4 g5 g6
  intro P hP
  have H : ∀ w, w ≤ rw' → ∀ μ4, Fr (fun q => q = 0 ∨ q = 4 ∨ q = 5 ∨ q = 6) μ3 μ4 → μ4 0 = upd (μ3 0) 5 (nI rw') → (∀ w, w < 9 → lo 10 (μ4 4 w)) → (∀ i, i < w → μ4 5 i = μ3 9 i) → (∀ t, t < 10 → ∃ v, v ≤ 99 ∧ μ4 6 t = nI v) → P (nI w) μ4 := by
    refine down_ind (fun μ4 hf4 e0 g4 g5 g6 => hP _ _ (br_t (by rw [e0, pk_us]; exact nI_self_le rw') (H145 μ4 hf4 e0 g4 g5 g6))) (fun w hw ih μ4 hf4 e0 g4 g5 g6 => hP _ _ (br_f (by rw [e0, pk_us]; exact nI_ge hw (by omega)) ?_))
    have i1 := in9 (show w < 9 by omega) (show 9 < 1000000 by omega)
    rw [nI_1, cl9 (show w < 1000000 by omega), hf4 8 (by omega)]
    have e9 : (mset μ4 4 w (μ3 8 w)) 9 = μ3 9 := by unfold mset; rw [mput_o (by decide), hf4 9 (by omega)]
    rw [e9]
    refine ⟨i1, i1, i1, i1, ih _ (Fr_p (Fr_p hf4 (by omega)) (by omega)) ?_ (fun i hi => ?_) (fun i hi => ?_) ?_⟩
    · unfold mset; rw [mput_o (by decide), mput_o (by decide)]; exact e0
    · unfold mset
      rw [mput_o (by decide), mput_same]
      by_cases e : i = w
      · subst e; rw [pk_us]; exact hnd i hi
      · rw [pk_un e]; exact g4 i hi
    · rw [m2]
      unfold mset
      rw [mput_o (by decide)]
      by_cases e : i = w
      · subst e; rw [pk_us]
      · rw [pk_un e]; exact g5 i (by omega)
    · unfold mset; rw [mput_o (by decide), mput_o (by decide)]; exact g6
  refine H 0 (Nat.zero_le _) _ (Fr_put _ _ (Or.inl rfl)) (m2 _ _ _ _) ?_ (fun i hi => absurd hi (by omega)) ?_
  · unfold mset; rw [mput_o (by decide)]; exact h3.1.2.2.1
  · unfold mset; rw [mput_o (by decide)]; exact h3.1.2.2.2
end MCalls5
