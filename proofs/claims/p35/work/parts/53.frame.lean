/-! calls that leave the works and the Bounds alone -/
def sQC : Nat → Prop := fun k => (9 ≤ k ∧ k ≤ 12) ∨ (33 ≤ k ∧ k ≤ 46) ∨ 50 ≤ k
def sCS : Nat → Prop := fun q => q = 0 ∨ (9 ≤ q ∧ q ≤ 12) ∨ (22 ≤ q ∧ q ≤ 46) ∨ 50 ≤ q
def sC0 : Nat → Prop := fun q => (9 ≤ q ∧ q ≤ 12) ∨ (22 ≤ q ∧ q ≤ 46) ∨ 50 ≤ q
theorem C0_CS {μ μ' : Mem} (f : Fr sC0 μ μ') : Fr sCS μ μ' := Fr_mono f (fun k q => Or.inr q)
theorem Q_C0 {μ μ' : Mem} (f : Fr sQC μ μ') : Fr sC0 μ μ' := Fr_mono f (fun k q => by unfold sQC at q; unfold sC0; omega)
theorem CS0 : sCS 0 := Or.inl rfl
theorem CS_VS {μ μ' : Mem} (f : Fr sCS μ μ') : Fr sVS μ μ' := Fr_mono f (fun k q => by unfold sCS at q; unfold sVS; omega)
theorem fG_C {μ μ' : Mem} (f : Fr sG μ μ') : Fr sQC μ μ' := Fr_mono f (fun k q => by unfold sG at q; unfold sQC; omega)
theorem fV_C {μ μ' : Mem} (f : Fr sV μ μ') : Fr sQC μ μ' := Fr_mono f (fun k q => by unfold sV at q; unfold sQC; omega)
theorem fR_C {μ μ' : Mem} (f : Fr sR μ μ') : Fr sQC μ μ' := Fr_mono f (fun k q => by unfold sR at q; unfold sQC; omega)
theorem fS_C {c : Nat} (hc : 33 ≤ c ∧ c ≤ 41) {μ μ' : Mem} (f : Fr (sS c) μ μ') : Fr sQC μ μ' := Fr_mono f (fun k q => by unfold sS at q; unfold sQC; omega)
section C1
variable {n m : Nat} {z1 z2 : Nat → Nat} {μ : Mem} {post : Int32 → Mem → Prop} {x1 x2 x3 x4 x5 : Int32}
theorem wX_ofOrder (h : IX n m z1 z2 μ) (k : ∀ r μ', Fr sQC μ μ' → IX n m z1 z2 μ' → post r μ') : T_X11_ofOrder x1 x2 μ post := by
  have h9 := xN h
  have h8 := xM8 h
  refine sX_oHas (xM h) h8 (fun _ => rb_f rfl (k _ μ (Fr_rf _ _) h)) (fun j hj e => rb_t n10 ?_)
  subst e
  have i1 := in9 (show j < 8 by omega) (by omega)
  rw [cl9 (show j < 1000000 by omega)]
  refine ⟨i1, sX_meas h hj (fun μ2 hf h2 _ _ => ?_)⟩
  have k2 : ∀ r, post r μ2 := fun r => k r μ2 (fG_C hf) h2
  refine ⟨fun _ => ⟨i1, k2 _⟩, fun _ => k2 _, fun _ => k2 _, fun _ => ⟨fun _ => k2 _, fun _ => k2 _⟩, fun _ _ _ _ => ⟨fun _ => k2 _, fun q1 => ⟨fun q2 => ?_, fun _ => k2 _⟩⟩⟩
  obtain ⟨p, hp, e⟩ := nI_of q1
  rw [e, xW h2, nI_ltI hp (by omega)] at q2
  rw [e]
  have i2 := in9 (show p < 9 by omega) (by omega)
  exact ⟨fun _ => ⟨i1, i2, k2 _⟩, fun _ => ⟨i2, k2 _⟩, fun _ => ⟨i2, sX_sum' (fun r => k2 r)⟩, fun _ _ _ => k2 _⟩
theorem wX_best (h : IX n m z1 z2 μ) (k : ∀ r μ', Fr sQC μ μ' → IX n m z1 z2 μ' → post r μ') : T_X11_best x1 μ post := by
  have h9 := xN h
  obtain ⟨a, ha⟩ := h.2.2.2.2.1
  have hc : isSearch 35 := Or.inl rfl
  refine ⟨fun _ => sX_refresh6 hc h.1 h.2.1 ha (fun b μ2 hf2 hs2 => ?_), fun _ => k _ μ (Fr_rf _ _) h⟩
  have h2 := IX_35 h hf2 hs2
  have q2 := fS_C (by decide) hf2
  have kk : ∀ r μ', Fr (sS 35) μ2 μ' → SRa 35 b μ' → post r μ' := fun r μ' hf hs => k r μ' (Fr_tr q2 (fS_C (by decide) hf)) (IX_35 h2 hf hs)
  have k2 : ∀ r, post r μ2 := fun r => k r μ2 q2 h2
  refine ⟨fun _ => ⟨fun _ => ⟨fun _ => k2 _, fun q1 => ⟨fun q3 => ?_, fun _ => k2 _⟩⟩, fun _ => sX_longFrom (d := 0) hc hs2 h2.2.1 (by omega) kk⟩, fun _ => ⟨i512, k2 _⟩⟩
  have q0 : ¬ x1 < 0 := fun q => q1 (Int32.lt_trans q (by decide))
  obtain ⟨p, hp, rfl⟩ := nI_of q0
  have hp10 : 10 ≤ p := by
    rcases Nat.lt_or_ge p 10 with q | q
    · exact absurd (nI_lt (b := 10) q (by omega)) q1
    · exact q
  have e : nI p - 10 = nI (p - 10) := pk_sub (b := 10) hp10
  rw [e, xW h2, nI_ltI (by omega) (by omega)] at q3
  rw [e]
  exact sX_workAt hc hs2 h2.2.1 (by omega) kk
theorem wX_from (h : IX n m z1 z2 μ) (k : ∀ r μ', Fr sQC μ μ' → IX n m z1 z2 μ' → post r μ') : T_X11_from x1 x2 x3 μ post := by
  have h9 := xN h
  have h8 := xM8 h
  obtain ⟨a, ha⟩ := h.2.2.2.2.1
  have hc : isSearch 35 := Or.inl rfl
  have k1 : ∀ r, post r μ := fun r => k r μ (Fr_rf _ _) h
  refine sX_oHas (xM h) h8 (fun _ => rb_f rfl (k1 _)) (fun j hj e => rb_t n10 ⟨fun _ => k1 _, fun q1 => ⟨fun _ => k1 _, fun q2 => ⟨fun _ => k1 _, fun _ => ⟨fun _ => ?_, fun _ => k1 _⟩⟩⟩⟩)
  subst e
  obtain ⟨p, hp, rfl⟩ := nI_of q1
  rw [xW h, nI_ltI (by omega) hp] at q2
  refine sX_setOfFirst (m := m) (by omega) (by omega) h9 (xRow h hj) (fun r hr => ?_)
  obtain ⟨d, hd, rfl⟩ := lo_nI hr
  refine sX_isClosed (xW h) h9 (rb_f rfl (k1 _)) (rb_t n10 ?_)
  refine sX_refresh6 hc h.1 h.2.1 ha (fun b μ2 hf2 hs2 => ?_)
  have h2 := IX_35 h hf2 hs2
  have q2 := fS_C (by decide) hf2
  have kk : ∀ r μ', Fr (sS 35) μ2 μ' → SRa 35 b μ' → post r μ' := fun r μ' hf hs => k r μ' (Fr_tr q2 (fS_C (by decide) hf)) (IX_35 h2 hf hs)
  exact ⟨fun _ => ⟨fun _ => sX_nextFrom hc hs2 h2.2.1 hd kk, fun _ => sX_longFrom hc hs2 h2.2.1 hd kk⟩, fun _ => ⟨in9 hd (by omega), k _ μ2 q2 h2⟩⟩
theorem wX_better (h : IX n m z1 z2 μ) (k : ∀ r μ', Fr sQC μ μ' → IX n m z1 z2 μ' → post r μ') : T_X11_better x1 x2 μ post := by
  have h9 := xN h
  have h8 := xM8 h
  have k1 : ∀ r, post r μ := fun r => k r μ (Fr_rf _ _) h
  refine sX_oHas (xM h) h8 (fun _ => br_t rfl (k1 _)) (fun i hi e => br_f n10 (sX_oHas (xM h) h8 (fun _ => rb_f rfl (k1 _)) (fun j hj e2 => rb_t n10 ?_)))
  subst e e2
  have i1 := in9 (show i < 8 by omega) (by omega)
  have i2 := in9 (show j < 8 by omega) (by omega)
  rw [cl9 (show i < 1000000 by omega), cl9 (show j < 1000000 by omega)]
  refine ⟨i2, sX_meas h hj (fun μ2 hf2 h2 _ _ => ⟨i1, sX_meas h2 hi (fun μ3 hf3 h3 _ _ => ⟨i1, i2, ?_⟩)⟩)⟩
  have k2 : ∀ r, post r μ3 := fun r => k r μ3 (Fr_tr (fG_C hf2) (fG_C hf3)) h3
  exact sX_beats h3.1 (shXr (by omega)) (shXr (by omega)) ⟨fun _ => k2 _, fun _ => k2 _⟩ ⟨fun _ => k2 _, fun _ => k2 _⟩
theorem wX_moves (h : IX n m z1 z2 μ) (k : ∀ r μ', Fr sQC μ μ' → IX n m z1 z2 μ' → post r μ') : T_X11_moves x1 μ post := by
  have h8 := xM8 h
  have k1 : ∀ r, post r μ := fun r => k r μ (Fr_rf _ _) h
  refine sX_oHas (xM h) h8 (fun _ => rb_f rfl (k1 _)) (fun j hj e => rb_t n10 ?_)
  subst e
  rw [cl9 (show j < 1000000 by omega)]
  refine pX_lawful h hj (fun r μ2 hf h2 => ⟨fun _ => k _ μ2 (fG_C hf) h2, fun _ => ⟨in9 (by omega) (by omega), sX_improve h2.1 h2.2.1 h2.2.2.2.1 (shXr (by omega)) (xRow h2 hj) (fun u μ3 hf3 ho3 _ => k _ μ3 (Fr_tr (fG_C hf) (fV_C hf3)) (IX_V h2 hf3 ho3))⟩⟩)
theorem wX_cheapest (h : IX n m z1 z2 μ) (k : ∀ r μ', Fr sQC μ μ' → IX n m z1 z2 μ' → post r μ') : T_X11_cheapest x1 x2 μ post := by
  have h8 := xM8 h
  have k1 : ∀ r, post r μ := fun r => k r μ (Fr_rf _ _) h
  refine sX_oHas (xM h) h8 (fun _ => rb_f rfl (k1 _)) (fun j hj e => rb_t n10 ⟨fun _ => k1 _, fun _ => ⟨fun _ => ?_, fun _ => k1 _⟩⟩)
  subst e
  have i1 := in9 (show j < 8 by omega) (by omega)
  rw [cl9 (show j < 1000000 by omega)]
  refine ⟨i1, sX_meas h hj (fun μ2 hf h2 _ _ => sX_greatestNeed (xW h2) (xN h2) (fun r => ⟨fun _ => ⟨i1, ?_⟩, fun _ => k _ μ2 (fG_C hf) h2⟩))⟩
  exact sX_leastPrice h2.1 h2.2.1 h2.2.2.1 h2.2.2.2.1 (shXr (by omega)) (by unfold sR; omega) (xRow h2 hj) h2.2.2.2.2.2.2.1 (fun v μ3 hf3 h3 => k _ μ3 (Fr_tr (fG_C hf) (fR_C hf3)) (IX_R h2 hf3 h3))
theorem wX_room (h : IX n m z1 z2 μ) (k : ∀ r μ', Fr sQC μ μ' → IX n m z1 z2 μ' → post r μ') : T_X11_room x1 x2 μ post := by
  have h8 := xM8 h
  have k1 : ∀ r, post r μ := fun r => k r μ (Fr_rf _ _) h
  refine sX_oHas (xM h) h8 (fun _ => rb_f rfl (k1 _)) (fun j hj e => rb_t n10 ⟨fun _ => k1 _, fun _ => ⟨fun _ => ?_, fun _ => k1 _⟩⟩)
  subst e
  have i1 := in9 (show j < 8 by omega) (by omega)
  rw [cl9 (show j < 1000000 by omega)]
  refine ⟨i1, sX_meas h hj (fun μ2 hf h2 hm _ => ⟨i1, ?_⟩)⟩
  exact sX_leastRoom h2.1 h2.2.1 h2.2.2.1 h2.2.2.2.1 (shXr (by omega)) (by unfold sR; omega) (xRow h2 hj) h2.2.2.2.2.2.2.1 hm (fun v μ3 hf3 h3 => k _ μ3 (Fr_tr (fG_C hf) (fR_C hf3)) (IX_R h2 hf3 h3))
theorem wX_two (h : IX n m z1 z2 μ) (k : ∀ r μ', Fr sQC μ μ' → IX n m z1 z2 μ' → post r μ') : T_X11_two x1 μ post := by
  have k1 : ∀ r, post r μ := fun r => k r μ (Fr_rf _ _) h
  obtain ⟨a, ha⟩ := h.2.2.2.2.2.1
  refine ⟨fun _ => ⟨fun _ => k1 _, fun _ => ⟨fun _ => sX_refresh8 h.1 h.2.1 ha (fun b μ2 hf hs => ?_), fun _ => k1 _⟩⟩, fun _ => k1 _⟩
  have k2 : ∀ r, post r μ2 := fun r => k r μ2 (Fr_mono hf (fun q hq => by unfold sS at hq; unfold sQC; omega)) (IX_41' h hf hs)
  exact ⟨fun _ => k2 _, fun _ => k2 _, fun _ => k2 _, fun _ _ _ => k2 _⟩
theorem wX_mostWithout (h : IX n m z1 z2 μ) (k : ∀ r μ', Fr sQC μ μ' → IX n m z1 z2 μ' → post r μ') : T_X11_mostWithout x1 x2 μ post :=
  sX_all (xW h) (xN h) (sX_leastMost (Or.inr rfl) h.1 h.2.1 (fun r a μ2 hf hs => k r μ2 (fS_C (by decide) hf) (IX_41 h hf hs)))
theorem wX_without (h : IX n m z1 z2 μ) (k : ∀ r μ', Fr sQC μ μ' → IX n m z1 z2 μ' → post r μ') : T_X11_without x1 μ post :=
  sX_wHas (xW h) (xN h) (fun _ => br_t rfl (k _ μ (Fr_rf _ _) h)) (fun j hj e => br_f n10 (wX_mostWithout h k))
theorem wX_why (h : IX n m z1 z2 μ) (k : ∀ r μ', Fr sQC μ μ' → IX n m z1 z2 μ' → post r μ') : T_X11_why x1 x2 μ post := by
  have h9 := xN h
  have k1 : ∀ r, post r μ := fun r => k r μ (Fr_rf _ _) h
  refine sX_wHas (xW h) h9 (fun _ => br_t rfl (k1 _)) (fun i hi e => br_f n10 (sX_wHas (xW h) h9 (fun _ => rb_f rfl (k1 _)) (fun j hj e2 => rb_t n10 ?_)))
  subst e e2
  exact sX_isBefore (by omega) (by omega) ⟨fun _ => k1 _, fun _ => sX_leastMostUnbound (Or.inr rfl) h.1 h.2.1 (by omega) (fun r a μ2 hf hs => k r μ2 (fS_C (by decide) hf) (IX_41 h hf hs))⟩
theorem wX_widest (h : IX n m z1 z2 μ) (k : ∀ r μ', Fr sQC μ μ' → IX n m z1 z2 μ' → post r μ') : T_X11_widest μ post := by
  have h9 := xN h
  intro P hP
  have H : ∀ j, j ≤ n → ∀ a b μ2, Fr sQC μ μ2 → IX n m z1 z2 μ2 → P a b (nI j) μ2 := by
    refine down_ind (fun a b μ2 hf h2 => hP _ _ _ _ (br_t (by rw [xW h2]; exact nI_self_le n) (k _ μ2 hf h2))) (fun j hj ih a b μ2 hf h2 => hP _ _ _ _ (br_f (by rw [xW h2]; exact nI_ge hj (by omega)) ?_))
    rw [nI_1]
    exact wX_mostWithout h2 (fun r μ3 hf3 h3 => ⟨fun _ => ih _ _ μ3 (Fr_tr hf hf3) h3, fun _ => ih _ _ μ3 (Fr_tr hf hf3) h3⟩)
  exact H 0 (Nat.zero_le _) _ _ μ (Fr_rf _ _) h
theorem wX_order (h : IX n m z1 z2 μ) (k : ∀ r m' μ', Fr sCS μ μ' → μ' 0 12 = μ 0 12 → IX n m' z1 z2 μ' → post r μ') : T_X11_order x1 x2 x3 x4 x5 μ post := by
  have h9 := xN h
  have h1 : IX n m z1 z2 (mset μ 0 13 0) := IX_q h fre0
  have f1 : Fr sCS μ (mset μ 0 13 0) := Fr_put _ _ CS0
  have t1 : (mset μ 0 13 0) 0 12 = μ 0 12 := by rw [m2, pk_un (by decide)]
  unfold T_X11_order
  generalize mset μ 0 13 0 = μ1 at h1 f1 t1 ⊢
  have k1 : ∀ r, post r μ1 := fun r => k r m μ1 f1 t1 h1
  refine sX_isSheet (fun _ => rb_f rfl (k1 _)) (fun j hj e => rb_t n10 (sX_isKind (fun _ => br_t rfl (k1 _)) (fun l hl e2 => br_f n10 (sX_isLane (fun _ => rb_f rfl (k1 _)) (fun l2 hl2 e3 => rb_t n10 ?_)))))
  subst e
  refine sX_cellsFault hj ⟨fun q => ⟨fun _ => k1 _, fun _ => ⟨fun q5 => ?_, fun _ => k1 _⟩⟩, fun _ => k _ m _ (Fr_p f1 CS0) (by rw [m2, pk_un (by decide)]; exact t1) (IX_q h1 fre0)⟩
  obtain ⟨L, hL, eL⟩ := xSh h1 hj
  rw [eL] at q
  obtain ⟨-, a, b, rfl, rfl, hab⟩ := csf_0 hL q
  rw [xW h1, nI_eq (by omega) (by omega)] at q5
  subst q5
  rw [cl9 (show j < 1000000 by omega), cl9 (show a < 1000000 by omega), cl9 (show b < 1000000 by omega)]
  refine ⟨in9 hj (by omega), ⟨nI_pos (by omega), by decide, nI_pos (by omega), by omega, ?_⟩, ?_⟩
  · rw [show (0 : Int32).toNatClampNeg = 0 by decide]; omega
  have h2 : ∀ f, IX b m z1 z2 (mput μ1 57 f) := fun f => IX_q h1 (by unfold fre; omega)
  have f2 : ∀ f, Fr sCS μ (mput μ1 57 f) := fun f => Fr_p f1 (by unfold sCS; omega)
  have t2 : ∀ f, (mput μ1 57 f) 0 12 = μ 0 12 := fun f => by rw [mput_o (by decide)]; exact t1
  refine pX_refusal (h2 _) (fun r μ3 hr hf3 h3 => ?_)
  have f3 := Fr_tr (f2 _) (C0_CS (Q_C0 (fG_C hf3)))
  have t3 : μ3 0 12 = μ 0 12 := by rw [hf3 0 (by unfold sG; omega)]; exact t2 _
  refine ⟨fun q => ?_, fun _ => k _ m μ3 f3 t3 h3⟩
  obtain ⟨hm8, hrw⟩ := hr q
  refine sX_add (xM h3) hm8 rfl (fun μ4 hf4 e22 _ er => k _ (m + 1) μ4 (Fr_tr f3 (Fr_mono hf4 (fun k q => by unfold sCS; omega))) ?_ (IX_add h3 hm8 hrw hf4 e22 er))
  rw [hf4 0 (by omega)]; exact t3
theorem wX_build (h : IX n m z1 z2 μ) (k : ∀ r m' μ', Fr sC0 μ μ' → IX n m' z1 z2 μ' → post r μ') : T_X11_build x1 x2 μ post := by
  have h9 := xN h
  have h8 := xM8 h
  have k1 : ∀ r, post r μ := fun r => k r m μ (Fr_rf _ _) h
  refine ⟨fun _ => k1 _, fun _ => ⟨fun _ => k1 _, fun _ => ⟨fun _ => k1 _, fun _ => ⟨fun _ => ⟨fun q0 => pk_lt m 8 (fun hlt => br_t rfl ?_) (fun _ => br_f (by decide) (k1 _)) (xM h), fun _ => k1 _⟩, fun _ => k1 _⟩⟩⟩⟩
  have hn0 : 0 < n := by
    rcases Nat.eq_zero_or_pos n with q | q
    · rw [xW h, q] at q0; exact absurd rfl q0
    · exact q
  intro P hP
  have H : ∀ j, j ≤ n → ∀ a μ2, Fr sC0 μ μ2 → IX n m z1 z2 μ2 → (∀ i, i < j → ∃ v, v < 9 ∧ μ2 57 i = nI v) → P x1 x2 a (nI j) μ2 := by
    refine down_ind (fun a μ2 hf2 h2 hr => hP _ _ _ _ _ (br_t (by rw [xW h2]; exact nI_self_le n) ?_)) (fun j hj ih a μ2 hf2 h2 hr => hP _ _ _ _ _ (br_f (by rw [xW h2]; exact nI_ge hj (by omega)) ?_))
    · exact sX_add (xM h2) hlt rfl (fun μ4 hf4 e22 _ er => k _ (m + 1) μ4 (Fr_tr hf2 (Fr_mono hf4 (fun k q => by unfold sC0; omega))) (IX_add h2 hlt hr hf4 e22 er))
    · have i1 := in9 (show j < 9 by omega) (by omega)
      rw [nI_1, cl9 (show j < 1000000 by omega)]
      refine sX_choose' h2.1 h2.2.1 (fun w hw _ => ⟨i1, i1, ih _ _ (Fr_p hf2 (by unfold sC0; omega)) (IX_q h2 (by unfold fre; omega)) (fun i hi => ?_)⟩)
      rw [m2]
      by_cases e : i = j
      · subst e; rw [pk_us]; exact ⟨w, hw, rfl⟩
      · rw [pk_un e]; exact hr i (by omega)
  exact H 0 (Nat.zero_le _) _ μ (Fr_rf _ _) h (fun i hi => absurd hi (by omega))
theorem wX_move (h : IX n m z1 z2 μ) (k : ∀ r m' μ', Fr sC0 μ μ' → IX n m' z1 z2 μ' → post r μ') : T_X11_move x1 μ post := by
  have h8 := xM8 h
  have k1 : ∀ r, post r μ := fun r => k r m μ (Fr_rf _ _) h
  refine sX_oHas (xM h) h8 (fun _ => rb_f rfl (k1 _)) (fun j hj e => rb_t n10 ?_)
  subst e
  rw [cl9 (show j < 1000000 by omega)]
  refine pX_lawful h hj (fun r μ2 hf2 h2 => ⟨fun _ => pk_lt m 8 (fun hlt => br_t rfl ⟨in9 (by omega) (by omega), ?_⟩) (fun _ => br_f (by decide) (k _ m μ2 (Q_C0 (fG_C hf2)) h2)) (xM h2), fun _ => k _ m μ2 (Q_C0 (fG_C hf2)) h2⟩)
  refine sX_improve h2.1 h2.2.1 h2.2.2.2.1 (shXr (by omega)) (xRow h2 hj) (fun u μ3 hf3 ho3 hr3 => ?_)
  have h3 := IX_V h2 hf3 ho3
  exact sX_add (xM h3) hlt rfl (fun μ4 hf4 e22 _ er => k _ (m + 1) μ4 (Fr_tr (Fr_tr (Q_C0 (fG_C hf2)) (Q_C0 (fV_C hf3))) (Fr_mono hf4 (fun k q => by unfold sC0; omega))) (IX_add h3 hlt hr3 hf4 e22 er))
theorem wX_tellRow (h : IX n m z1 z2 μ) {j : Nat} (hj : j < m) (k : ∀ r μ', Fr sCS μ μ' → IX n m z1 z2 μ' → post r μ') : T_X11_tellRow (nI j) μ post := by
  have h8 := xM8 h
  unfold T_X11_tellRow
  rw [cl9 (show j < 1000000 by omega)]
  exact ⟨in9 (by omega) (by omega), sX_meas (IX_q h fre0) hj (fun μ2 hf2 h2 _ _ => k _ μ2 (Fr_tr (Fr_put _ _ CS0) (C0_CS (Q_C0 (fG_C hf2)))) h2)⟩
theorem wX_tellBefore (h : IX n m z1 z2 μ) {j : Nat} (hj : j < m) (k : ∀ r μ', Fr sCS μ μ' → IX n m z1 z2 μ' → post r μ') : T_X11_tellBefore (nI j) μ post := by
  unfold T_X11_tellBefore T_X11_leave
  exact wX_tellRow (IX_q h fre0) hj (fun r μ2 hf2 h2 => k (r + 1000) μ2 (Fr_tr (Fr_put _ _ CS0) hf2) h2)
theorem wX_tell (h : IX n m z1 z2 μ) (k : ∀ r μ', Fr sCS μ μ' → IX n m z1 z2 μ' → post r μ') : T_X11_tell x1 μ post := by
  have h8 := xM8 h
  refine sX_oHas (xM h) h8 (fun _ => rb_f rfl (k _ μ (Fr_rf _ _) h)) (fun j hj e => rb_t n10 ?_)
  subst e
  refine ⟨in9 (by omega) (by omega), fun _ => wX_tellBefore h hj k, fun _ => ?_, fun _ _ => wX_tellRow h hj k⟩
  unfold T_X11_tellAgain T_X11_leave
  exact wX_tellBefore (IX_q h fre0) hj (fun r μ2 hf2 h2 => wX_tellRow h2 hj (fun r2 μ3 hf3 h3 => k _ μ3 (Fr_tr (Fr_put _ _ CS0) (Fr_tr hf2 hf3)) h3))
theorem wX_show (h : IX n m z1 z2 μ) (k : ∀ r μ', Fr sCS μ μ' → IX n m z1 z2 μ' → post r μ') : T_X11_show x1 μ post := by
  have h8 := xM8 h
  refine sX_oHas (xM h) h8 (fun _ => rb_f rfl (k _ μ (Fr_rf _ _) h)) (fun j hj e => rb_t n10 ?_)
  subst e
  have k2 : ∀ r f, post r (mput μ 0 f) := fun r f => k r _ (Fr_put _ _ CS0) (IX_q h fre0)
  have h42 : ∀ a b, T_X11_show_42 post (nI j) a b μ := fun a b => ⟨fun _ => k2 _ _, fun _ => k2 _ _⟩
  exact ⟨in9 (by omega) (by omega), fun _ => ⟨fun _ => h42 _ _, fun _ => h42 _ _⟩, fun _ => ⟨fun _ => h42 _ _, fun _ => h42 _ _⟩⟩
theorem wX_as (h : IX n m z1 z2 μ) (k : ∀ r μ', Fr sCS μ μ' → IX n m z1 z2 μ' → post r μ') : T_X11_as x1 x2 μ post := by
  have h8 := xM8 h
  have h1 : IX n m z1 z2 (mset μ 0 13 0) := IX_q h fre0
  have f1 : Fr sCS μ (mset μ 0 13 0) := Fr_put _ _ CS0
  unfold T_X11_as
  generalize mset μ 0 13 0 = μ1 at h1 f1 ⊢
  refine sX_oHas (xM h1) h8 (fun _ => rb_f rfl (k _ μ1 f1 h1)) (fun j hj e => rb_t n10 (sX_isKind (fun _ => rb_f rfl (k _ μ1 f1 h1)) (fun l hl e2 => rb_t n10 ?_)))
  subst e
  exact ⟨in9 (by omega) (by omega), fun _ => k _ μ1 f1 h1, fun _ => k _ _ (Fr_p f1 CS0) (IX_q h1 fre0)⟩
end C1
