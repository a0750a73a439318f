/-! the reference's calls that change what it holds -/
section MCalls4
variable {n m : Nat} {μ : Mem} {post : Int32 → Mem → Prop} {x1 x2 x3 x4 x5 : Int32}
/-- the befores alone changed -/
theorem IM_5 {μ' : Mem} (h : IM n m μ) (f : Fr (fun q => q = 5) μ μ') (ha : AC n (μ' 5)) : IM n m μ' := by
  obtain ⟨a1, a2, a3, a4, a5, a6, a7, a8, a9⟩ := h
  refine ⟨WM_fr a1 f (by omega) (by omega) (by omega), ha, UZ_fr a3 f (by omega) (by omega), ?_, ?_, ?_, a7, ?_, ?_⟩
  · rw [f 2 (by omega)]; exact a4
  · rw [f 8 (by omega)]; exact a5
  · rw [f 10 (by omega)]; exact a6
  · rw [f 0 (by omega)]; exact a8
  · rw [f 12 (by omega)]; exact a9
theorem pM_why (h : IM n m μ) (k : ∀ r μ', Fr sM μ μ' → IM n m μ' → post r μ') : T_X12_why x1 x2 μ post := by
  have h9 := mN h
  have hp1 : 1 ≤ 2 ^ n := Nat.one_le_two_pow
  have k1 : ∀ r, post r μ := fun r => k r μ (Fr_rf _ _) h
  refine sM_isWork h.1 (fun _ => br_t rfl (k1 _)) (fun i hi e => br_f n10 (sM_isWork h.1 (fun _ => rb_f rfl (k1 _)) (fun j hj e2 => rb_t n10 ?_)))
  subst e e2
  have i1 := in9 (show j < 9 by omega) (by omega)
  rw [cl9 (show j < 1000000 by omega)]
  refine ⟨i1, sM_hasB (by omega) (fun _ => rb_f rfl (k1 _)) (fun q => rb_t n10 ⟨i1, i1, ?_⟩)⟩
  have f1 : Fr (fun q => q = 5) μ (mset μ 5 j ((μ 5 j) &&& (((1 : Int32) <<< (nI i &&& 31)) ^^^ (-1)))) := Fr_put _ _ rfl
  have e5 : (mset μ 5 j ((μ 5 j) &&& (((1 : Int32) <<< (nI i &&& 31)) ^^^ (-1)))) 5 = upd (μ 5) j ((μ 5 j) &&& (((1 : Int32) <<< (nI i &&& 31)) ^^^ (-1))) := m2 _ _ _ _
  have h1 : IM n m (mset μ 5 j ((μ 5 j) &&& (((1 : Int32) <<< (nI i &&& 31)) ^^^ (-1)))) := by
    refine IM_5 h f1 ⟨Acyc_sub h.2.1.1 (fun w hw v hv hbv => ?_), fun w hw => ?_⟩
    · rw [e5] at hbv
      by_cases e : w = j
      · subst e
        rw [pk_us, hb_and, Bool.and_eq_true] at hbv
        exact hbv.1
      · rw [pk_un e] at hbv; exact hbv
    · rw [e5]
      by_cases e : w = j
      · subst e; rw [pk_us]; exact lo_and (h.2.1.2 w hw) _
      · rw [pk_un e]; exact h.2.1.2 w hw
  generalize mset μ 5 j ((μ 5 j) &&& (((1 : Int32) <<< (nI i &&& 31)) ^^^ (-1))) = μ1 at f1 e5 h1 ⊢
  refine sM_all h1.1 (pM_leastOf h1 (by omega) (fun r μ2 hf2 h2 => ⟨i1, i1, ?_⟩))
  have e52 : μ2 5 = upd (μ 5) j ((μ 5 j) &&& (((1 : Int32) <<< (nI i &&& 31)) ^^^ (-1))) := by rw [hf2 5 (by unfold sM; omega)]; exact e5
  have er : ((μ 5 j) &&& (((1 : Int32) <<< (nI i &&& 31)) ^^^ (-1))) ||| ((1 : Int32) <<< (nI i &&& 31)) = μ 5 j := by
    apply hb_ext
    intro t ht
    rw [hb_or, hb_andn, hb_shl (by omega)]
    by_cases e : t = i
    · subst e; rw [q]; simp
    · simp [e]
  have e53 : (mset μ2 5 j ((μ2 5 j) ||| ((1 : Int32) <<< (nI i &&& 31)))) 5 = μ 5 := by
    rw [m2, e52, pk_us, er]
    funext t
    by_cases e : t = j
    · subst e; rw [pk_us]
    · rw [pk_un e, pk_un e]
  have f3 : Fr (fun q => q = 5) μ2 (mset μ2 5 j ((μ2 5 j) ||| ((1 : Int32) <<< (nI i &&& 31)))) := Fr_put _ _ rfl
  refine k _ _ (fun q hq => ?_) (IM_5 h2 f3 (by rw [e53]; exact h.2.1))
  by_cases e : q = 5
  · subst e; exact e53
  · rw [f3 q e, hf2 q hq, f1 q e]
theorem pM_sheet (h : IM n m μ) (k : ∀ μ', IM n m μ' → post (rSheet x1 x2 x3) μ') : T_X12_sheet x1 x2 x3 μ post := by
  have h1 : IM n m (mset μ 0 0 0) := IM_0 h (by decide) (by decide)
  unfold T_X12_sheet
  generalize mset μ 0 0 0 = μ1 at h1 ⊢
  unfold rSheet at k
  refine sM_isSheet (fun q => rb_f rfl ?_) (fun j hj e => rb_t n10 ?_)
  · have hc : x1 < 0 ∨ 4 ≤ x1 := ix_out (n := 4) (by omega) q
    rw [if_pos hc] at k; exact k μ1 h1
  subst e
  have hc : ¬ (nI j < 0 ∨ 4 ≤ nI j) := ix_in (n := 4) (by omega) hj
  rw [if_neg hc] at k
  refine sM_isLane (fun q => br_t rfl ?_) (fun l hl e => br_f n10 ⟨fun q => ⟨fun q2 => ?_, fun q2 => ?_⟩, fun q => ?_⟩)
  · have hd : x2 < 0 ∨ 3 ≤ x2 ∨ 60 < x3 := (ix_out (n := 3) (by omega) q).elim Or.inl (fun t => Or.inr (Or.inl t))
    rw [if_pos hd] at k; exact k μ1 h1
  · subst e
    have q3 : ¬ (nI l < 0 ∨ 3 ≤ nI l ∨ 60 < x3) := fun t => t.elim (nI_pos (by omega)) (fun t => t.elim (nI_ge (b := 3) hl (by omega)) (fun t => Int32.not_lt.mpr q t))
    have q4 : ¬ x3 < 0 := Int32.not_lt.mpr q2
    rw [if_neg q3, if_neg q4] at k
    obtain ⟨L, hL, rfl⟩ := rngI 0 60 (by omega) q4 (Int32.not_lt.mpr q) (by omega)
    have i1 := in9 hj (show 4 < 1000000 by omega)
    refine ⟨i1, i1, ?_⟩
    rw [cl9 (show j < 1000000 by omega)]
    have h2 : IM n m (mset (mset μ1 1 j (nI l)) 2 j (nI (0 + L))) := by
      have hh := IM_free h1 (Fr_put μ1 (c := 1) (upd (μ1 1) j (nI l)) (show freM 1 by unfold freM; omega))
      obtain ⟨a1, a2, a3, a4, a5, a6, a7, a8, a9⟩ := hh
      have f : Fr (fun q => q = 2) (mset μ1 1 j (nI l)) (mset (mset μ1 1 j (nI l)) 2 j (nI (0 + L))) := Fr_put _ _ rfl
      refine ⟨WM_fr a1 f (by omega) (by omega) (by omega), ?_, UZ_fr a3 f (by omega) (by omega), fun i hi => ?_, ?_, ?_, a7, ?_, ?_⟩
      · rw [f 5 (by omega)]; exact a2
      · rw [m2]
        by_cases e : i = j
        · subst e; rw [pk_us]; exact ⟨0 + L, by omega, rfl⟩
        · rw [pk_un e]; exact a4 i hi
      · rw [f 8 (by omega)]; exact a5
      · rw [f 10 (by omega)]; exact a6
      · rw [f 0 (by omega)]; exact a8
      · rw [f 12 (by omega)]; exact a9
    generalize mset (mset μ1 1 j (nI l)) 2 j (nI (0 + L)) = μ2 at h2 ⊢
    intro P hP
    have H : ∀ i, i ≤ 60 → ∀ μ3, IM n m μ3 → P (nI j) (nI i) μ3 := by
      refine down_ind (fun μ3 h3 => hP _ _ _ (br_t (by decide) (k μ3 h3))) (fun i hi ih μ3 h3 => hP _ _ _ (br_f (nI_ge (b := 60) hi (by decide)) ?_))
      rw [sixty_mul, nI_1]
      exact ⟨in9 (by omega) (by omega), ih _ (IM_free h3 (Fr_put _ _ (by unfold freM; omega)))⟩
    exact H 0 (Nat.zero_le _) μ2 h2
  · subst e
    have q3 : ¬ (nI l < 0 ∨ 3 ≤ nI l ∨ 60 < x3) := fun t => t.elim (nI_pos (by omega)) (fun t => t.elim (nI_ge (b := 3) hl (by omega)) (fun t => Int32.not_lt.mpr q t))
    rw [if_neg q3, if_pos (Int32.not_le.mp q2)] at k
    exact k _ (IM_0 h1 (by decide) (by decide))
  · rw [if_pos (Or.inr (Or.inr (Int32.not_le.mp q)))] at k; exact k μ1 h1
theorem IM_1 {f : Nat → Int32} (h : IM n m μ) : IM n m (mput μ 1 f) := IM_free h (Fr_put _ _ (by unfold freM; omega))
theorem IM_3 {f : Nat → Int32} (h : IM n m μ) : IM n m (mput μ 3 f) := IM_free h (Fr_put _ _ (by unfold freM; omega))
theorem pM_lose (h : IM n m μ) (k : ∀ r μ', IM n m μ' → post r μ') : T_X12_lose x1 μ post := by
  refine sM_isSheet (fun _ => rb_f rfl (k _ μ h)) (fun j hj e => rb_t n10 ?_)
  subst e
  have i1 := in9 hj (show 4 < 1000000 by omega)
  exact ⟨i1, fun _ => ⟨i1, k _ _ (IM_1 h)⟩, fun _ => ⟨i1, k _ _ (IM_1 h)⟩⟩
theorem mSh (h : IM n m μ) {k : Nat} (hk : k < 4) : ∃ l, l ≤ 60 ∧ μ 2 k = nI l := h.2.2.2.1 k hk
/-- isIn(i, 0, length - 1) -/
theorem sM_isInL {x : Int32} {L : Nat} {μ : Mem} {post : Int32 → Mem → Prop} (hL : L ≤ 60) (k0 : (∀ j, j < L → x ≠ nI j) → post 0 μ) (k1 : ∀ j, j < L → x = nI j → post 1 μ) : T_X12_isIn x 0 (nI L - 1) μ post := by
  rcases Nat.eq_zero_or_pos L with e | e
  · subst e
    refine sM_isIn (fun _ => k0 (fun j hj => absurd hj (by omega))) (fun q1 q2 => ?_)
    exfalso
    obtain ⟨j, hj, ej⟩ := nI_of q1
    rw [ej] at q2
    exact q2 (by rw [Int32.lt_iff_toInt_lt, nI_toInt hj, show (nI 0 - 1).toInt = -1 by decide]; omega)
  · obtain ⟨L', rfl⟩ : ∃ t, L = t + 1 := ⟨L - 1, by omega⟩
    rw [nI_pred]
    refine sM_isIn (fun q => k0 (out_of (n := L') (by omega) q)) (fun q1 q2 => ?_)
    obtain ⟨j, hj, ej⟩ := in_of (n := L') (by omega) q1 q2
    exact k1 j hj ej
theorem pM_put (h : IM n m μ) (k : ∀ r μ', IM n m μ' → post r μ') : T_X12_put x1 x2 x3 μ post := by
  have h1 : IM n m (mset μ 0 0 0) := IM_0 h (by decide) (by decide)
  unfold T_X12_put
  generalize mset μ 0 0 0 = μ1 at h1 ⊢
  refine sM_isSheet (fun _ => rb_f rfl (k _ μ1 h1)) (fun j hj e => rb_t n10 ?_)
  subst e
  have i1 := in9 hj (show 4 < 1000000 by omega)
  rw [cl9 (show j < 1000000 by omega)]
  obtain ⟨L, hL, eL⟩ := mSh h1 hj
  rw [eL]
  refine ⟨i1, fun _ => ⟨i1, sM_isInL hL (fun _ => rb_f rfl (k _ _ (IM_0 h1 (by decide) (by decide)))) (fun i hi e => rb_t n10 ⟨i1, ?_⟩)⟩, fun _ => k _ _ (IM_0 h1 (by decide) (by decide))⟩
  subst e
  rw [sixty_mul]
  have i2 := in9 (show 60 * j + i < 240 by omega) (by omega)
  exact ⟨fun _ => ⟨i1, fun _ => ⟨i2, k _ _ (IM_3 h1)⟩, fun _ => ⟨i2, k _ _ (IM_3 h1)⟩⟩, fun _ => ⟨i2, k _ _ (IM_3 h1)⟩⟩
theorem pM_cell {post : Int64 → Mem → Prop} (h : IM n m μ) (k : ∀ r μ', IM n m μ' → post r μ') : T_X12_cell x1 x2 x3 μ post := by
  have h1 : IM n m (mset μ 0 0 0) := IM_0 h (by decide) (by decide)
  unfold T_X12_cell
  generalize mset μ 0 0 0 = μ1 at h1 ⊢
  refine sM_isSheet (fun _ => br_t rfl (k _ μ1 h1)) (fun j hj e => br_f n10 (sM_isLane (fun _ => rb_f rfl (k _ μ1 h1)) (fun l hl e2 => rb_t n10 ?_)))
  subst e
  have i1 := in9 hj (show 4 < 1000000 by omega)
  obtain ⟨L, hL, eL⟩ := mSh h1 hj
  have h50 : T_X12_cell_50 post (nI j) x2 μ1 := by
    unfold T_X12_cell_50
    rw [cl9 (show j < 1000000 by omega), eL]
    refine ⟨i1, fun _ => ⟨i1, sM_isInL hL (fun _ => rb_f rfl (k _ _ (IM_0 h1 (by decide) (by decide)))) (fun i hi e => rb_t n10 ?_)⟩, fun _ => k _ _ (IM_0 h1 (by decide) (by decide))⟩
    subst e
    rw [sixty_mul]
    exact ⟨in9 (by omega) (by omega), k _ μ1 h1⟩
  exact ⟨i1, fun _ => h50, fun _ => ⟨i1, fun _ => h50, fun _ => k _ _ (IM_0 h1 (by decide) (by decide))⟩⟩
theorem IM_tr {v : Int32} (h : IM n m μ) : IM n m (mset μ 0 1 v) := IM_0 h (by decide) (by decide)
theorem pM_tell (h : IM n m μ) (k : ∀ r μ', Fr sMN μ μ' → IM n m μ' → post r μ') : T_X12_tell x1 μ post := by
  have h8 := mM8 h
  refine sM_isOrder (mM h) h8 (fun _ => rb_f rfl (k _ μ (Fr_rf _ _) h)) (fun j hj e => rb_t n10 ?_)
  subst e
  refine sM_look h hj (fun μ2 hf2 h2 hr _ => sM_mostE h2.1 rfl hr ⟨in9 (by omega) (by omega), fun _ => ?_, fun _ => ?_, fun _ _ => k _ _ (Fr_p (M_MN (f13_M hf2)) MN0) (IM_tr h2)⟩)
  · exact k _ _ (Fr_p (Fr_p (M_MN (f13_M hf2)) MN0) MN0) (IM_tr (IM_tr h2))
  · exact k _ _ (Fr_p (Fr_p (Fr_p (Fr_p (M_MN (f13_M hf2)) MN0) MN0) MN0) MN0) (IM_tr (IM_tr (IM_tr (IM_tr h2))))
theorem pM_show (h : IM n m μ) (k : ∀ r μ', Fr sMN μ μ' → IM n m μ' → post r μ') : T_X12_show x1 μ post := by
  have h8 := mM8 h
  refine sM_isOrder (mM h) h8 (fun _ => rb_f rfl (k _ μ (Fr_rf _ _) h)) (fun j hj e => rb_t n10 ?_)
  subst e
  have i1 := in9 (show j < 8 by omega) (show 8 < 1000000 by omega)
  have h26 : ∀ s, T_X12_show_26 post (nI j) s μ := fun s => ⟨i1, fun _ => k _ _ (Fr_put _ _ MN0) (IM_tr h), fun _ => k _ _ (Fr_put _ _ MN0) (IM_tr h)⟩
  exact ⟨i1, fun _ => h26 _, fun _ => h26 _⟩
theorem pM_as (h : IM n m μ) (k : ∀ r μ', Fr sMN μ μ' → IM n m μ' → post r μ') : T_X12_as x1 x2 μ post := by
  have h8 := mM8 h
  have h1 : IM n m (mset μ 0 0 0) := IM_0 h (by decide) (by decide)
  have f1 : Fr sMN μ (mset μ 0 0 0) := Fr_put _ _ MN0
  unfold T_X12_as
  generalize mset μ 0 0 0 = μ1 at h1 f1 ⊢
  refine sM_isOrder (mM h1) h8 (fun _ => rb_f rfl (k _ μ1 f1 h1)) (fun j hj e => rb_t n10 (sM_isIn (fun _ => rb_f rfl (k _ μ1 f1 h1)) (fun q1 q2 => rb_t n10 ?_)))
  subst e
  exact ⟨in9 (by omega) (by omega), fun _ => k _ _ (Fr_p f1 MN0) (IM_0 h1 (by decide) (by decide)), fun _ => k _ μ1 f1 h1⟩
theorem pM_many (h : IM n m μ) (k : ∀ r, post r μ) : T_X12_many x1 μ post := by
  have h9 := mN h
  intro P hP
  have H : ∀ j, j ≤ n → ∀ y, P x1 y (nI j) μ := by
    refine down_ind (fun y => hP _ _ _ _ (br_t (by rw [h.1.1]; exact nI_self_le n) ⟨fun _ => k _, fun _ => k _, fun _ => k _, fun _ => sM_all h.1 (sM_needs h.1 (fun r _ => sM_bitsOf' (fun r2 => k _))), fun _ _ _ _ => k _⟩)) (fun j hj ih y => hP _ _ _ _ (br_f (by rw [h.1.1]; exact nI_ge hj (by omega)) ⟨in9 (by omega) (by omega), sM_bitsOf' (fun r => ?_)⟩))
    rw [nI_1]
    exact ih _
  exact H 0 (Nat.zero_le _) _
theorem lo_lt2 {k : Nat} {x : Int32} (hk : k ≤ 30) (h1 : ¬ x < 0) (h2 : ¬ nI (2 ^ k - 1) < x) : lo k x := by
  have hp : 2 ^ k ≤ 2 ^ 30 := Nat.pow_le_pow_right (by decide) hk
  have hp1 : 1 ≤ 2 ^ k := Nat.one_le_two_pow
  obtain ⟨t, ht, e⟩ := rngI 0 (2 ^ k - 1) (by omega) h1 h2 (by omega)
  rw [e]
  exact nI_lo (by omega) (by omega)
theorem pM_work (h : IM n m μ) (k : ∀ r n' m' μ', Fr sMN μ μ' → IM n' m' μ' → post r μ') : T_X12_work x1 x2 μ post := by
  have h9 := mN h
  have k1 : ∀ r, post r μ := fun r => k r n m μ (Fr_rf _ _) h
  refine sM_isIn (fun _ => br_t rfl (k1 _)) (fun q1 q2 => br_f n10 (sM_all h.1 (sM_isIn (fun _ => rb_f rfl (k1 _)) (fun q3 q4 => rb_t n10 ⟨fun q5 => ?_, fun _ => k1 _⟩))))
  have hn9 : n < 9 := by
    rcases Nat.lt_or_ge n 9 with t | t
    · exact t
    · exact absurd (by rw [h.1.1, show n = 9 by omega]; rfl) q5
  have l1 : lo 10 x1 := lo_lt2 (k := 10) (by omega) q1 q2
  have l2 : lo n x2 := lo_lt2 (k := n) (by omega) q3 q4
  have g1 : ∀ j v, (mset μ 4 j v) 0 = μ 0 := fun j v => mput_o (by decide)
  have g2 : ∀ j v i u, (mset (mset μ 4 j v) 5 i u) 0 = μ 0 := fun j v i u => by unfold mset; rw [mput_o (by decide), mput_o (by decide)]
  rw [g2, g1, h.1.1, cl9 (show n < 1000000 by omega), nI_1]
  have i1 := in9 hn9 (show 9 < 1000000 by omega)
  refine ⟨i1, i1, k _ (n + 1) 0 _ (Fr_p (Fr_p (Fr_p (Fr_p (Fr_rf _ _) (by unfold sMN; omega)) (by unfold sMN; omega)) MN0) MN0) ?_⟩
  obtain ⟨a1, a2, a3, a4, a5, a6, a7, a8, a9⟩ := h
  have g4 : ∀ f g, (mput (mput (mset (mset μ 4 n x1) 5 n x2) 0 f) 0 g) 4 = upd (μ 4) n x1 := fun f g => by unfold mset; rw [mput_o (by decide), mput_o (by decide), mput_o (by decide), mput_same]
  have g5 : ∀ f g, (mput (mput (mset (mset μ 4 n x1) 5 n x2) 0 f) 0 g) 5 = upd (μ 5) n x2 := fun f g => by unfold mset; rw [mput_o (by decide), mput_o (by decide), mput_same, mput_o (by decide)]
  have go : ∀ q f g, q ≠ 0 → q ≠ 4 → q ≠ 5 → (mput (mput (mset (mset μ 4 n x1) 5 n x2) 0 f) 0 g) q = μ q := fun q f g t1 t2 t3 => by unfold mset; rw [mput_o (fun e => t1 e.symm), mput_o (fun e => t1 e.symm), mput_o (fun e => t3 e.symm), mput_o (fun e => t2 e.symm)]
  refine ⟨⟨?_, by omega, fun w hw => ?_, ?_⟩, ?_, UZ_of a3 (go 14 _ _ (by decide) (by decide) (by decide)) (go 17 _ _ (by decide) (by decide) (by decide)), ?_, ?_, ?_, by omega, ?_, fun j hj => absurd hj (by omega)⟩
  · rw [m2, pk_un (by decide), m2, pk_us]
  · refine Eq.subst (motive := fun f => lo 10 (f w)) (g4 _ _).symm ?_
    by_cases e : w = n
    · subst e; rw [pk_us]; exact l1
    · rw [pk_un e]; exact a1.2.2.1 w hw
  · exact Eq.subst (motive := fun f => ∀ t, t < 10 → ∃ v, v ≤ 99 ∧ f t = nI v) (go 6 _ _ (by decide) (by decide) (by decide)).symm a1.2.2.2
  · refine Eq.subst (motive := fun f => AC (n + 1) f) (g5 _ _).symm ⟨?_, fun w hw => ?_⟩
    rotate_left
    · by_cases e : w = n
      · subst e; rw [pk_us]; exact lo_mono l2 (by omega)
      · rw [pk_un e]; exact lo_mono (a2.2 w (by omega)) (by omega)
    intro S hS
    by_cases hold : ∃ w, w < n ∧ S w
    · obtain ⟨w, hw, hSw, hm⟩ := a2.1 S hold
      refine ⟨w, by omega, hSw, fun v hv hbv => ?_⟩
      rw [pk_un (by omega)] at hbv
      by_cases e : v = n
      · subst e
        rw [a2.2 w hw v (Nat.le_refl _)] at hbv; exact absurd hbv (by decide)
      · exact hm v (by omega) hbv
    · obtain ⟨w, hw, hSw⟩ := hS
      have e : w = n := by
        rcases Nat.lt_or_ge w n with t | t
        · exact absurd ⟨w, t, hSw⟩ hold
        · omega
      subst e
      refine ⟨w, hw, hSw, fun v hv hbv hSv => ?_⟩
      rw [pk_us] at hbv
      rcases Nat.lt_or_ge v w with t | t
      · exact hold ⟨v, t, hSv⟩
      · rw [l2 v t] at hbv; exact absurd hbv (by decide)
  · exact Eq.subst (motive := fun f => ∀ k, k < 4 → ∃ l, l ≤ 60 ∧ f k = nI l) (go 2 _ _ (by decide) (by decide) (by decide)).symm a4
  · exact Eq.subst (motive := fun f => ∀ w, w < 9 → lo 10 (f w)) (go 8 _ _ (by decide) (by decide) (by decide)).symm a5
  · exact Eq.subst (motive := fun f => ∀ t, t < 10 → ∃ v, v ≤ 9 ∧ f t = nI v) (go 10 _ _ (by decide) (by decide) (by decide)).symm a6
  · rw [m2, pk_us]; rfl
end MCalls4
