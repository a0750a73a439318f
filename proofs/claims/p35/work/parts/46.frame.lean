/-! calls that leave the works alone -/
def sVS : Nat → Prop := fun q => q = 0 ∨ (9 ≤ q ∧ q ≤ 12) ∨ 22 ≤ q
def sV0 : Nat → Prop := fun q => (9 ≤ q ∧ q ≤ 12) ∨ 22 ≤ q
def sMV : Nat → Prop := fun q => q = 0 ∨ 8 ≤ q
theorem V0_VS {μ μ' : Mem} (f : Fr sV0 μ μ') : Fr sVS μ μ' := Fr_mono f (fun k q => Or.inr q)
theorem Q_V0 {μ μ' : Mem} (f : Fr sQ μ μ') : Fr sV0 μ μ' := Fr_mono f (fun k q => by unfold sQ at q; unfold sV0; omega)
theorem VS0 : sVS 0 := Or.inl rfl
theorem M_MV {μ μ' : Mem} (f : Fr sM μ μ') : Fr sMV μ μ' := Fr_mono f (fun k q => by unfold sM at q; unfold sMV; omega)
theorem MV0 : sMV 0 := Or.inl rfl
section V1
variable {n m : Nat} {z1 z2 : Nat → Nat} {μ : Mem} {post : Int32 → Mem → Prop} {x1 x2 x3 x4 x5 : Int32}
theorem vX_order (h : IX n m z1 z2 μ) (k : ∀ r m' μ', Fr sVS μ μ' → μ' 0 12 = μ 0 12 → IX n m' z1 z2 μ' → post r μ') : T_X11_order x1 x2 x3 x4 x5 μ post := by
  have h9 := xN h
  have h1 : IX n m z1 z2 (mset μ 0 13 0) := IX_q h fre0
  have f1 : Fr sVS μ (mset μ 0 13 0) := Fr_put _ _ VS0
  have t1 : (mset μ 0 13 0) 0 12 = μ 0 12 := by rw [m2, pk_un (by decide)]
  unfold T_X11_order
  generalize mset μ 0 13 0 = μ1 at h1 f1 t1 ⊢
  have k1 : ∀ r, post r μ1 := fun r => k r m μ1 f1 t1 h1
  refine sX_isSheet (fun _ => rb_f rfl (k1 _)) (fun j hj e => rb_t n10 (sX_isKind (fun _ => br_t rfl (k1 _)) (fun l hl e2 => br_f n10 (sX_isLane (fun _ => rb_f rfl (k1 _)) (fun l2 hl2 e3 => rb_t n10 ?_)))))
  subst e
  refine sX_cellsFault hj ⟨fun q => ⟨fun _ => k1 _, fun _ => ⟨fun q5 => ?_, fun _ => k1 _⟩⟩, fun _ => k _ m _ (Fr_p f1 VS0) (by rw [m2, pk_un (by decide)]; exact t1) (IX_q h1 fre0)⟩
  obtain ⟨L, hL, eL⟩ := xSh h1 hj
  rw [eL] at q
  obtain ⟨-, a, b, rfl, rfl, hab⟩ := csf_0 hL q
  rw [xW h1, nI_eq (by omega) (by omega)] at q5
  subst q5
  rw [cl9 (show j < 1000000 by omega), cl9 (show a < 1000000 by omega), cl9 (show b < 1000000 by omega)]
  refine ⟨in9 hj (by omega), ⟨nI_pos (by omega), by decide, nI_pos (by omega), by omega, ?_⟩, ?_⟩
  · rw [show (0 : Int32).toNatClampNeg = 0 by decide]; omega
  have h2 : ∀ f, IX b m z1 z2 (mput μ1 57 f) := fun f => IX_q h1 (by unfold fre; omega)
  have f2 : ∀ f, Fr sVS μ (mput μ1 57 f) := fun f => Fr_p f1 (by unfold sVS; omega)
  have t2 : ∀ f, (mput μ1 57 f) 0 12 = μ 0 12 := fun f => by rw [mput_o (by decide)]; exact t1
  refine pX_refusal (h2 _) (fun r μ3 hr hf3 h3 => ?_)
  have f3 := Fr_tr (f2 _) (V0_VS (Q_V0 (fG_Q hf3)))
  have t3 : μ3 0 12 = μ 0 12 := by rw [hf3 0 (by unfold sG; omega)]; exact t2 _
  refine ⟨fun q => ?_, fun _ => k _ m μ3 f3 t3 h3⟩
  obtain ⟨hm8, hrw⟩ := hr q
  refine sX_add (xM h3) hm8 rfl (fun μ4 hf4 e22 _ er => k _ (m + 1) μ4 (Fr_tr f3 (Fr_mono hf4 (fun k q => by unfold sVS; omega))) ?_ (IX_add h3 hm8 hrw hf4 e22 er))
  rw [hf4 0 (by omega)]; exact t3
theorem vX_build (h : IX n m z1 z2 μ) (k : ∀ r m' μ', Fr sV0 μ μ' → IX n m' z1 z2 μ' → post r μ') : T_X11_build x1 x2 μ post := by
  have h9 := xN h
  have h8 := xM8 h
  have k1 : ∀ r, post r μ := fun r => k r m μ (Fr_rf _ _) h
  refine ⟨fun _ => k1 _, fun _ => ⟨fun _ => k1 _, fun _ => ⟨fun _ => k1 _, fun _ => ⟨fun _ => ⟨fun q0 => pk_lt m 8 (fun hlt => br_t rfl ?_) (fun _ => br_f (by decide) (k1 _)) (xM h), fun _ => k1 _⟩, fun _ => k1 _⟩⟩⟩⟩
  have hn0 : 0 < n := by
    rcases Nat.eq_zero_or_pos n with q | q
    · rw [xW h, q] at q0; exact absurd rfl q0
    · exact q
  intro P hP
  have H : ∀ j, j ≤ n → ∀ a μ2, Fr sV0 μ μ2 → IX n m z1 z2 μ2 → (∀ i, i < j → ∃ v, v < 9 ∧ μ2 57 i = nI v) → P x1 x2 a (nI j) μ2 := by
    refine down_ind (fun a μ2 hf2 h2 hr => hP _ _ _ _ _ (br_t (by rw [xW h2]; exact nI_self_le n) ?_)) (fun j hj ih a μ2 hf2 h2 hr => hP _ _ _ _ _ (br_f (by rw [xW h2]; exact nI_ge hj (by omega)) ?_))
    · exact sX_add (xM h2) hlt rfl (fun μ4 hf4 e22 _ er => k _ (m + 1) μ4 (Fr_tr hf2 (Fr_mono hf4 (fun k q => by unfold sV0; omega))) (IX_add h2 hlt hr hf4 e22 er))
    · have i1 := in9 (show j < 9 by omega) (by omega)
      rw [nI_1, cl9 (show j < 1000000 by omega)]
      refine sX_choose' h2.1 h2.2.1 (fun w hw _ => ⟨i1, i1, ih _ _ (Fr_p hf2 (by unfold sV0; omega)) (IX_q h2 (by unfold fre; omega)) (fun i hi => ?_)⟩)
      rw [m2]
      by_cases e : i = j
      · subst e; rw [pk_us]; exact ⟨w, hw, rfl⟩
      · rw [pk_un e]; exact hr i (by omega)
  exact H 0 (Nat.zero_le _) _ μ (Fr_rf _ _) h (fun i hi => absurd hi (by omega))
theorem vX_move (h : IX n m z1 z2 μ) (k : ∀ r m' μ', Fr sV0 μ μ' → IX n m' z1 z2 μ' → post r μ') : T_X11_move x1 μ post := by
  have h8 := xM8 h
  have k1 : ∀ r, post r μ := fun r => k r m μ (Fr_rf _ _) h
  refine sX_oHas (xM h) h8 (fun _ => rb_f rfl (k1 _)) (fun j hj e => rb_t n10 ?_)
  subst e
  rw [cl9 (show j < 1000000 by omega)]
  refine pX_lawful h hj (fun r μ2 hf2 h2 => ⟨fun _ => pk_lt m 8 (fun hlt => br_t rfl ⟨in9 (by omega) (by omega), ?_⟩) (fun _ => br_f (by decide) (k _ m μ2 (Q_V0 (fG_Q hf2)) h2)) (xM h2), fun _ => k _ m μ2 (Q_V0 (fG_Q hf2)) h2⟩)
  refine sX_improve h2.1 h2.2.1 h2.2.2.2.1 (shXr (by omega)) (xRow h2 hj) (fun u μ3 hf3 ho3 hr3 => ?_)
  have h3 := IX_V h2 hf3 ho3
  exact sX_add (xM h3) hlt rfl (fun μ4 hf4 e22 _ er => k _ (m + 1) μ4 (Fr_tr (Fr_tr (Q_V0 (fG_Q hf2)) (Q_V0 (fV_Q hf3))) (Fr_mono hf4 (fun k q => by unfold sV0; omega))) (IX_add h3 hlt hr3 hf4 e22 er))
theorem vX_tellRow (h : IX n m z1 z2 μ) {j : Nat} (hj : j < m) (k : ∀ r μ', Fr sVS μ μ' → IX n m z1 z2 μ' → post r μ') : T_X11_tellRow (nI j) μ post := by
  have h8 := xM8 h
  unfold T_X11_tellRow
  rw [cl9 (show j < 1000000 by omega)]
  exact ⟨in9 (by omega) (by omega), sX_meas (IX_q h fre0) hj (fun μ2 hf2 h2 _ _ => k _ μ2 (Fr_tr (Fr_put _ _ VS0) (V0_VS (Q_V0 (fG_Q hf2)))) h2)⟩
theorem vX_tellBefore (h : IX n m z1 z2 μ) {j : Nat} (hj : j < m) (k : ∀ r μ', Fr sVS μ μ' → IX n m z1 z2 μ' → post r μ') : T_X11_tellBefore (nI j) μ post := by
  unfold T_X11_tellBefore T_X11_leave
  exact vX_tellRow (IX_q h fre0) hj (fun r μ2 hf2 h2 => k (r + 1000) μ2 (Fr_tr (Fr_put _ _ VS0) hf2) h2)
theorem vX_tell (h : IX n m z1 z2 μ) (k : ∀ r μ', Fr sVS μ μ' → IX n m z1 z2 μ' → post r μ') : T_X11_tell x1 μ post := by
  have h8 := xM8 h
  refine sX_oHas (xM h) h8 (fun _ => rb_f rfl (k _ μ (Fr_rf _ _) h)) (fun j hj e => rb_t n10 ?_)
  subst e
  refine ⟨in9 (by omega) (by omega), fun _ => vX_tellBefore h hj k, fun _ => ?_, fun _ _ => vX_tellRow h hj k⟩
  unfold T_X11_tellAgain T_X11_leave
  exact vX_tellBefore (IX_q h fre0) hj (fun r μ2 hf2 h2 => vX_tellRow h2 hj (fun r2 μ3 hf3 h3 => k _ μ3 (Fr_tr (Fr_put _ _ VS0) (Fr_tr hf2 hf3)) h3))
theorem vX_show (h : IX n m z1 z2 μ) (k : ∀ r μ', Fr sVS μ μ' → IX n m z1 z2 μ' → post r μ') : T_X11_show x1 μ post := by
  have h8 := xM8 h
  refine sX_oHas (xM h) h8 (fun _ => rb_f rfl (k _ μ (Fr_rf _ _) h)) (fun j hj e => rb_t n10 ?_)
  subst e
  have k2 : ∀ r f, post r (mput μ 0 f) := fun r f => k r _ (Fr_put _ _ VS0) (IX_q h fre0)
  have h42 : ∀ a b, T_X11_show_42 post (nI j) a b μ := fun a b => ⟨fun _ => k2 _ _, fun _ => k2 _ _⟩
  exact ⟨in9 (by omega) (by omega), fun _ => ⟨fun _ => h42 _ _, fun _ => h42 _ _⟩, fun _ => ⟨fun _ => h42 _ _, fun _ => h42 _ _⟩⟩
theorem vX_as (h : IX n m z1 z2 μ) (k : ∀ r μ', Fr sVS μ μ' → IX n m z1 z2 μ' → post r μ') : T_X11_as x1 x2 μ post := by
  have h8 := xM8 h
  have h1 : IX n m z1 z2 (mset μ 0 13 0) := IX_q h fre0
  have f1 : Fr sVS μ (mset μ 0 13 0) := Fr_put _ _ VS0
  unfold T_X11_as
  generalize mset μ 0 13 0 = μ1 at h1 f1 ⊢
  refine sX_oHas (xM h1) h8 (fun _ => rb_f rfl (k _ μ1 f1 h1)) (fun j hj e => rb_t n10 (sX_isKind (fun _ => rb_f rfl (k _ μ1 f1 h1)) (fun l hl e2 => rb_t n10 ?_)))
  subst e
  exact ⟨in9 (by omega) (by omega), fun _ => k _ μ1 f1 h1, fun _ => k _ _ (Fr_p f1 VS0) (IX_q h1 fre0)⟩
end V1
section V2
variable {n m : Nat} {μ : Mem} {post : Int32 → Mem → Prop} {x1 x2 x3 x4 x5 : Int32}
theorem vM_tell (h : IM n m μ) (k : ∀ r μ', Fr sMV μ μ' → IM n m μ' → post r μ') : T_X12_tell x1 μ post := by
  have h8 := mM8 h
  refine sM_isOrder (mM h) h8 (fun _ => rb_f rfl (k _ μ (Fr_rf _ _) h)) (fun j hj e => rb_t n10 ?_)
  subst e
  refine sM_look h hj (fun μ2 hf2 h2 hr _ => sM_mostE h2.1 rfl hr ⟨in9 (by omega) (by omega), fun _ => ?_, fun _ => ?_, fun _ _ => k _ _ (Fr_p (M_MV (f13_M hf2)) MV0) (IM_tr h2)⟩)
  · exact k _ _ (Fr_p (Fr_p (M_MV (f13_M hf2)) MV0) MV0) (IM_tr (IM_tr h2))
  · exact k _ _ (Fr_p (Fr_p (Fr_p (Fr_p (M_MV (f13_M hf2)) MV0) MV0) MV0) MV0) (IM_tr (IM_tr (IM_tr (IM_tr h2))))
theorem vM_show (h : IM n m μ) (k : ∀ r μ', Fr sMV μ μ' → IM n m μ' → post r μ') : T_X12_show x1 μ post := by
  have h8 := mM8 h
  refine sM_isOrder (mM h) h8 (fun _ => rb_f rfl (k _ μ (Fr_rf _ _) h)) (fun j hj e => rb_t n10 ?_)
  subst e
  have i1 := in9 (show j < 8 by omega) (show 8 < 1000000 by omega)
  have h26 : ∀ s, T_X12_show_26 post (nI j) s μ := fun s => ⟨i1, fun _ => k _ _ (Fr_put _ _ MV0) (IM_tr h), fun _ => k _ _ (Fr_put _ _ MV0) (IM_tr h)⟩
  exact ⟨i1, fun _ => h26 _, fun _ => h26 _⟩
theorem vM_as (h : IM n m μ) (k : ∀ r μ', Fr sMV μ μ' → IM n m μ' → post r μ') : T_X12_as x1 x2 μ post := by
  have h8 := mM8 h
  have h1 : IM n m (mset μ 0 0 0) := IM_0 h (by decide) (by decide)
  have f1 : Fr sMV μ (mset μ 0 0 0) := Fr_put _ _ MV0
  unfold T_X12_as
  generalize mset μ 0 0 0 = μ1 at h1 f1 ⊢
  refine sM_isOrder (mM h1) h8 (fun _ => rb_f rfl (k _ μ1 f1 h1)) (fun j hj e => rb_t n10 (sM_isIn (fun _ => rb_f rfl (k _ μ1 f1 h1)) (fun q1 q2 => rb_t n10 ?_)))
  subst e
  exact ⟨in9 (by omega) (by omega), fun _ => k _ _ (Fr_p f1 MV0) (IM_0 h1 (by decide) (by decide)), fun _ => k _ μ1 f1 h1⟩
theorem vM_order (h : IM n m μ) (k : ∀ r m' μ', Fr sMV μ μ' → IM n m' μ' → post r μ') : T_X12_order x1 x2 x3 x4 x5 μ post := by
  have h9 := mN h
  have h1 : IM n m (mset μ 0 0 0) := IM_0 h (by decide) (by decide)
  have f1 : Fr sMV μ (mset μ 0 0 0) := Fr_put _ _ MV0
  unfold T_X12_order
  generalize mset μ 0 0 0 = μ1 at h1 f1 ⊢
  have k1 : ∀ r, post r μ1 := fun r => k r m μ1 f1 h1
  refine sM_isSheet (fun _ => rb_f rfl (k1 _)) (fun j hj e => rb_t n10 (sM_isIn (fun _ => br_t rfl (k1 _)) (fun q1 q2 => br_f n10 (sM_isLane (fun _ => rb_f rfl (k1 _)) (fun l2 hl2 e3 => rb_t n10 ?_)))))
  subst e
  refine sM_against hj ⟨fun q => ⟨fun _ => k1 _, fun q5 => ⟨fun _ => ?_, fun _ => k1 _⟩⟩, fun _ => k _ m _ (Fr_p f1 MV0) (IM_0 h1 (by decide) (by decide))⟩
  obtain ⟨L, hL, eL⟩ := mSh h1 hj
  rw [eL] at q
  obtain ⟨-, a, b, rfl, rfl, hab⟩ := csf_0 hL q
  rw [h1.1.1, nI_eq (by omega) (by omega)] at q5
  subst q5
  rw [sixty_mul]
  have H124 : (∀ i, i < b → ∃ v, v < b ∧ μ1 3 (60 * j + a + i) = nI v) → ∀ y, T_X12_order_124 post x1 (nI b) (nI (60 * j + a)) y 0 μ1 := by
    intro hv y P hP
    have H : ∀ i, i ≤ b → ∀ y μ2, Fr (fun q => q = 13) μ1 μ2 → (∀ q, q < i → ∃ v, v < b ∧ μ2 13 q = nI v) → P x1 (nI b) (nI (60 * j + a)) y (nI i) μ2 := by
      refine down_ind (fun y μ2 hf2 hr => ?_) (fun i hi ih y μ2 hf2 hr => ?_)
      · have h2 := IM_free h1 (Fr_mono hf2 (fun q hq => by unfold freM; omega))
        have f2 : Fr sMV μ μ2 := Fr_tr f1 (M_MV (f13_M hf2))
        have k2 : ∀ r, post r μ2 := fun r => k r m μ2 f2 h2
        have h195 : T_X12_order_195 post x1 μ2 := sM_comes h2 hr (fun _ => k2 _) (fun _ μ3 hf3 _ _ _ _ h3 => k _ (m + 1) μ3 (Fr_tr f2 (Fr_mono hf3 (fun q hq => by unfold sMV; omega))) h3)
        exact hP _ _ _ _ _ _ (br_t (nI_self_le b) (sM_all h2.1 ⟨fun _ => k2 _, fun _ => ⟨fun _ => h195, fun _ => sM_lawful' h2.1 rfl hr (rb_f rfl (k2 _)) (rb_t n10 h195)⟩⟩))
      · refine hP _ _ _ _ _ _ (br_f (nI_ge hi (by omega)) ?_)
        rw [nI_add, nI_1, cl9 (show i < 1000000 by omega), cl9 (show 60 * j + a + i < 1000000 by omega), hf2 3 (by omega)]
        have i1 := in9 (show i < 9 by omega) (show 9 < 1000000 by omega)
        refine ⟨in9 (by omega) (by omega), i1, i1, ih _ _ (Fr_p hf2 rfl) (fun q hq => ?_)⟩
        rw [m2]
        by_cases e : q = i
        · subst e; rw [pk_us]; exact hv q hi
        · rw [pk_un e]; exact hr q (by omega)
    exact H 0 (Nat.zero_le _) y μ1 (Fr_rf _ _) (fun q hq => absurd hq (by omega))
  intro P hP
  have H : ∀ i, i ≤ b → (∀ q, q < i → ∃ v, v < b ∧ μ1 3 (60 * j + a + q) = nI v) → P x1 (nI b) (nI (60 * j + a)) 0 (nI i) μ1 := by
    refine down_ind (fun hv => hP _ _ _ _ _ _ (br_t (nI_self_le b) (H124 hv 0))) (fun i hi ih hv => hP _ _ _ _ _ _ (br_f (nI_ge hi (by omega)) ?_))
    rw [nI_add, nI_1, cl9 (show 60 * j + a + i < 1000000 by omega)]
    refine ⟨in9 (by omega) (by omega), sM_isWork h1.1 (fun _ => rb_f rfl (k1 _)) (fun v hvb e => rb_t n10 (ih (fun q hq => ?_)))⟩
    by_cases e2 : q = i
    · subst e2; exact ⟨v, hvb, e⟩
    · exact hv q (by omega)
  exact H 0 (Nat.zero_le _) (fun q hq => absurd hq (by omega))
end V2
