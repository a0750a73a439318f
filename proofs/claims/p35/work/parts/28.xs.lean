/-! the class's calls that change what it holds -/
def sNS : Nat → Prop := fun q => q = 0 ∨ 9 ≤ q
def sN0 : Nat → Prop := fun q => 9 ≤ q
theorem N0_NS {μ μ' : Mem} (f : Fr sN0 μ μ') : Fr sNS μ μ' := Fr_mono f (fun k q => Or.inr q)
theorem Q_N0 {μ μ' : Mem} (f : Fr sQ μ μ') : Fr sN0 μ μ' := Fr_mono f (fun k q => by unfold sQ at q; unfold sN0; omega)
theorem NS0 : sNS 0 := Or.inl rfl
theorem IX_add {n m r : Nat} {z1 z2 : Nat → Nat} {μ μ' : Mem} (h : IX n m z1 z2 μ) (hm : m < 8) (hrow : RW n r μ) (f : Fr (fun q => q = 22 ∨ q = 24 ∨ q = 25 + m) μ μ') (e22 : μ' 22 = upd (μ 22) 2 (nI (m + 1))) (er : ∀ k, k < 9 → μ' (25 + m) k = μ r k) : IX n (m + 1) z1 z2 μ' := by
  have h9 := xN h
  obtain ⟨a1, a2, a3, a4, a5, a6, a7, a8, a9, a10, a11, a12⟩ := h
  refine ⟨WK_fr a1 f (by omega) (by omega), ScR_fr a2 f (by omega) (by omega), ScR_fr a3 f (by omega) (by omega), OP_fr a4 f (by omega), a5.imp fun a q => SRa_of q (f 35 (by omega)), a6.imp fun a q => SRa_of q (f 41 (by omega)), RM_of a7 (f 53 (by omega)), TXI_fr a8 f (by omega) (by omega) (by omega), fun k hk => ?_, by omega, ?_, fun j hj => ?_⟩
  · rw [f 4 (by omega)]; exact a9 k hk
  · rw [e22, pk_us]
  · by_cases e : j = m
    · subst e
      intro k hk
      rw [er k (by omega)]
      exact hrow k hk
    · exact RW_fr (a12 j (by omega)) f (by omega)
theorem IX_orders0 {n m : Nat} {z1 z2 : Nat → Nat} {μ : Mem} (h : IX n m z1 z2 μ) : IX n 0 z1 z2 (mset μ 22 2 0) := by
  obtain ⟨a1, a2, a3, a4, a5, a6, a7, a8, a9, a10, a11, a12⟩ := h
  have f : Fr (fun q => q = 22) μ (mset μ 22 2 0) := Fr_put _ _ rfl
  refine ⟨WK_fr a1 f (by omega) (by omega), ScR_fr a2 f (by omega) (by omega), ScR_fr a3 f (by omega) (by omega), OP_fr a4 f (by omega), a5.imp fun a q => SRa_of q (f 35 (by omega)), a6.imp fun a q => SRa_of q (f 41 (by omega)), RM_of a7 (f 53 (by omega)), TXI_fr a8 f (by omega) (by omega) (by omega), fun k hk => ?_, by omega, ?_, fun j hj => absurd hj (by omega)⟩
  · rw [f 4 (by omega)]; exact a9 k hk
  · rw [m2, pk_us]; rfl
section Calls2
variable {n m : Nat} {z1 z2 : Nat → Nat} {μ : Mem} {post : Int32 → Mem → Prop} {x1 x2 x3 x4 x5 : Int32}
theorem xSh (h : IX n m z1 z2 μ) {k : Nat} (hk : k < 4) : ∃ l, l ≤ 60 ∧ μ 4 k = nI l := h.2.2.2.2.2.2.2.2.1 k hk
theorem pX_shop (h : IX n m z1 z2 μ) (k : ∀ r n' m' z' μ', Fr sNS μ μ' → μ' 0 12 = μ 0 12 → IX n' m' z' z2 μ' → post r μ') : T_X11_shop x1 x2 x3 x4 μ post := by
  have h1 : IX n m z1 z2 (mset μ 0 13 0) := IX_q h fre0
  have f1 : Fr sNS μ (mset μ 0 13 0) := Fr_put _ _ NS0
  have t1 : (mset μ 0 13 0) 0 12 = μ 0 12 := by rw [m2, pk_un (by decide)]
  unfold T_X11_shop
  generalize mset μ 0 13 0 = μ1 at h1 f1 t1 ⊢
  have k1 : ∀ r, post r μ1 := fun r => k r n m z1 μ1 f1 t1 h1
  refine sX_isSheet (fun _ => rb_f rfl (k1 _)) (fun j hj e => rb_t n10 (sX_isLane (fun _ => rb_f rfl (k1 _)) (fun l hl e2 => rb_t n10 ?_)))
  subst e
  refine sX_cellsFault hj ⟨fun q => ⟨in9 hj (by omega), ?_⟩, fun _ => k _ n m z1 _ (Fr_p f1 NS0) (by rw [m2, pk_un (by decide)]; exact t1) (IX_q h1 fre0)⟩
  obtain ⟨L, hL, eL⟩ := xSh h1 hj
  rw [eL] at q
  obtain ⟨-, a, b, rfl, rfl, hab⟩ := csf_0 hL q
  rw [cl9 (show j < 1000000 by omega)]
  refine sX_firstFault h1.2.2.2.2.2.2.2.1 (shXs hj) (by omega) (fun u μ2 hf2 ht2 => ?_)
  have h2 := IX_T h1 hf2 ht2
  have f2 : Fr sNS μ μ2 := Fr_tr f1 (Fr_mono hf2 (fun k q => by unfold sT at q; unfold sNS; omega))
  have t2 : μ2 0 12 = μ 0 12 := by rw [hf2 0 (by unfold sT; omega)]; exact t1
  refine ⟨fun _ => sX_takeOver h2.1 h2.2.1 ht2 (fun c z' μ3 hc ec hf3 hw3 hz3 _ _ => ?_), fun _ => k _ n m z1 μ2 f2 t2 h2⟩
  refine k _ c 0 z' _ (Fr_p (Fr_tr f2 (Fr_mono hf3 (fun k q => by unfold sW at q; unfold sNS; omega))) (by unfold sNS; omega)) ?_ ?_
  · unfold mset; rw [mput_o (by decide), hf3 0 (by unfold sW; omega)]; exact t2
  · obtain ⟨a1, a2, a3, a4, a5, a6, a7, a8, a9, a10, a11, a12⟩ := h2
    have g : Fr (fun q => sW q ∨ q = 22) μ2 (mset μ3 22 2 0) := Fr_p (Fr_mono hf3 (fun k q => Or.inl q)) (Or.inr rfl)
    refine ⟨WK_p hw3 (by decide) (by decide), ScR_p hz3 (by decide) (by decide), ScR_fr a3 g (by unfold sW; omega) (by unfold sW; omega), OP_fr a4 g (by unfold sW; omega), a5.imp fun a q => SRa_of q (g 35 (by unfold sW; omega)), a6.imp fun a q => SRa_of q (g 41 (by unfold sW; omega)), RM_of a7 (g 53 (by unfold sW; omega)), TXI_fr a8 g (by unfold sW; omega) (by unfold sW; omega) (by unfold sW; omega), fun k hk => ?_, by omega, ?_, fun j hj => absurd hj (by omega)⟩
    · rw [g 4 (by unfold sW; omega)]; exact a9 k hk
    · rw [m2, pk_us]; rfl
theorem pX_work (h : IX n m z1 z2 μ) (k : ∀ r n' m' μ', Fr sN0 μ μ' → IX n' m' z1 z2 μ' → post r μ') : T_X11_work x1 x2 μ post := by
  have h9 := xN h
  have k1 : ∀ r, post r μ := fun r => k r n m μ (Fr_rf _ _) h
  refine ⟨fun _ => k1 _, fun q1 => ⟨fun _ => k1 _, fun q2 => ⟨fun _ => k1 _, fun q3 => sX_all (xW h) h9 ⟨fun q4 => pk_lt n 9 (fun hlt => ?_) (fun _ => k1 _) (xW h), fun _ => k1 _⟩⟩⟩⟩
  have hx : lo 10 x1 := by
    obtain ⟨j, hj, rfl⟩ := nI_of q1
    refine nI_lo (n := 10) ?_ (by decide)
    rcases Nat.lt_or_ge j 1024 with q | q
    · exact q
    · exact absurd (nI_le (a := 1024) q hj) q2
  refine sX_addW h.1 hlt hx (fun μ2 hf2 hw2 _ _ => k _ (n + 1) 0 _ (Fr_p (Fr_mono hf2 (fun k q => by unfold sN0; omega)) (by unfold sN0; omega)) ?_)
  obtain ⟨a1, a2, a3, a4, a5, a6, a7, a8, a9, a10, a11, a12⟩ := h
  have g : Fr (fun q => (q = 13 ∨ q = 14 ∨ q = 15) ∨ q = 22) μ (mset μ2 22 2 0) := Fr_p (Fr_mono hf2 (fun k q => Or.inl q)) (Or.inr rfl)
  refine ⟨WK_p hw2 (by decide) (by decide), ScR_fr a2 g (by omega) (by omega), ScR_fr a3 g (by omega) (by omega), OP_fr a4 g (by omega), a5.imp fun a q => SRa_of q (g 35 (by omega)), a6.imp fun a q => SRa_of q (g 41 (by omega)), RM_of a7 (g 53 (by omega)), TXI_fr a8 g (by omega) (by omega) (by omega), fun k hk => ?_, by omega, ?_, fun j hj => absurd hj (by omega)⟩
  · rw [g 4 (by omega)]; exact a9 k hk
  · rw [m2, pk_us]; rfl
theorem IX_1315 {μ' : Mem} (h : IX n m z1 z2 μ) (f : Fr (fun q => q = 13 ∨ q = 15) μ μ') (e : μ' 13 4 = μ 13 4) : IX n m z1 z2 μ' := by
  obtain ⟨a1, a2, a3, a4, a5, a6, a7, a8, a9, a10, a11, a12⟩ := h
  refine ⟨⟨by rw [e]; exact a1.1, a1.2.1, fun w hw => by rw [f 14 (by omega)]; exact a1.2.2 w hw⟩, ScR_fr a2 f (by omega) (by omega), ScR_fr a3 f (by omega) (by omega), OP_fr a4 f (by omega), a5.imp fun a q => SRa_of q (f 35 (by omega)), a6.imp fun a q => SRa_of q (f 41 (by omega)), RM_of a7 (f 53 (by omega)), TXI_fr a8 f (by omega) (by omega) (by omega), fun k hk => ?_, a10, ?_, fun j hj => RW_fr (a12 j hj) f (by omega)⟩
  · rw [f 4 (by omega)]; exact a9 k hk
  · rw [f 22 (by omega)]; exact a11
theorem pX_before (h : IX n m z1 z2 μ) (k : ∀ r μ', Fr sN0 μ μ' → IX n m z1 z2 μ' → post r μ') : T_X11_before x1 x2 x3 μ post := by
  have h9 := xN h
  have k1 : ∀ r, post r μ := fun r => k r μ (Fr_rf _ _) h
  refine sX_wHas (xW h) h9 (fun _ => br_t rfl (k1 _)) (fun i hi e => br_f n10 (sX_wHas (xW h) h9 (fun _ => rb_f rfl (k1 _)) (fun j hj e2 => rb_t n10 ?_)))
  subst e e2
  have h66 : T_X11_before_66 post (nI i) (nI j) μ := sX_turnBefore (by omega) (fun μ2 hf2 e2 _ => k _ μ2 (Fr_mono hf2 (fun k q => by unfold sN0; omega)) (IX_1315 h hf2 e2))
  exact ⟨fun _ => sX_isBefore (by omega) (by omega) ⟨fun _ => ⟨fun _ => h66, fun _ => sX_comesAhead' h.1 (by omega) (fun u => ⟨fun _ => h66, fun _ => k1 _⟩)⟩, fun _ => k1 _⟩, fun _ => k1 _⟩
theorem IX_sc {μ' : Mem} {z1' z2' : Nat → Nat} (h : IX n m z1 z2 μ) (f : Fr (fun q => q = 17 ∨ q = 18 ∨ q = 20 ∨ q = 21) μ μ') (s1 : ScR 16 z1' μ') (s2 : ScR 19 z2' μ') : IX n m z1' z2' μ' := by
  obtain ⟨a1, a2, a3, a4, a5, a6, a7, a8, a9, a10, a11, a12⟩ := h
  refine ⟨WK_fr a1 f (by omega) (by omega), s1, s2, OP_fr a4 f (by omega), a5.imp fun a q => SRa_of q (f 35 (by omega)), a6.imp fun a q => SRa_of q (f 41 (by omega)), RM_of a7 (f 53 (by omega)), TXI_fr a8 f (by omega) (by omega) (by omega), fun k hk => ?_, a10, ?_, fun j hj => RW_fr (a12 j hj) f (by omega)⟩
  · rw [f 4 (by omega)]; exact a9 k hk
  · rw [f 22 (by omega)]; exact a11
theorem pX_thing (h : IX n m z1 z2 μ) (k : ∀ r z1' z2' μ', Fr sN0 μ μ' → IX n m z1' z2' μ' → post r μ') : T_X11_thing x1 x2 x3 μ post := by
  have k1 : ∀ r, post r μ := fun r => k r z1 z2 μ (Fr_rf _ _) h
  refine ⟨fun _ => k1 _, fun q1 => ⟨fun q2 => ?_, fun _ => k1 _⟩⟩
  obtain ⟨t, ht, rfl⟩ := nI_of q1
  have ht10 : t < 10 := (nI_ltI ht (by omega)).mp q2
  have h37 : T_X11_thing_37 post (nI t) x2 x3 μ := by
    refine ⟨fun _ => k1 _, fun _ => ⟨fun _ => k1 _, fun q3 => ⟨fun _ => k1 _, fun q4 => ?_⟩⟩⟩
    obtain ⟨v, hv, rfl⟩ := rngI 0 99 (by omega) q3 q4 (by omega)
    refine sX_change (Or.inr rfl) h.2.2.1 ht10 (by omega) (fun μ2 hf2 hz2 => k _ z1 _ μ2 (Fr_mono hf2 (fun k q => by unfold sN0; omega)) (IX_sc h (Fr_mono hf2 (fun k q => by omega)) (ScR_fr h.2.1 hf2 (by omega) (by omega)) hz2))
  refine ⟨fun _ => h37, fun _ => ⟨fun _ => h37, fun q3 => ⟨fun _ => h37, fun q4 => ?_⟩⟩⟩
  obtain ⟨v, hv, rfl⟩ := rngI 1 9 (by omega) q3 q4 (by omega)
  have h1 : IX n m z1 z2 (mset μ 13 5 ((μ 13 5) + 1)) := IX_1315 h (Fr_put _ _ (Or.inl rfl)) (by rw [m2, pk_un (by decide)])
  refine sX_change (Or.inl rfl) h1.2.1 ht10 (by omega) (fun μ2 hf2 hz2 => k _ _ z2 μ2 (Fr_tr (Fr_put _ _ (by unfold sN0; omega)) (Fr_mono hf2 (fun k q => by unfold sN0; omega))) (IX_sc h1 (Fr_mono hf2 (fun k q => by omega)) hz2 (ScR_fr h1.2.2.1 hf2 (by omega) (by omega))))
theorem pX_refusal (h : IX n m z1 z2 μ) (k : ∀ r μ', (r = 0 → m < 8 ∧ RW n 57 μ') → Fr sG μ μ' → IX n m z1 z2 μ' → post r μ') : T_X11_refusalOfSpare x1 μ post := by
  have h9 := xN h
  have h8 := xM8 h
  have kf : ∀ r, ¬ r = 0 → post r μ := fun r hr => k r μ (fun q => absurd q hr) (Fr_rf _ _) h
  intro P hP
  have H : ∀ j, j ≤ n → ∀ a b, (∀ i, i < j → ∃ v, v < 9 ∧ μ 57 i = nI v) → P x1 a b (nI j) μ := by
    refine down_ind (fun a b hr => hP _ _ _ _ _ (br_t (by rw [xW h]; exact nI_self_le n) ⟨fun _ => ?_, fun _ => kf _ (by decide)⟩)) (fun j hj ih a b hr => hP _ _ _ _ _ (br_f (by rw [xW h]; exact nI_ge hj (by omega)) ⟨in9 (by omega) (by omega), ?_⟩))
    · refine sX_measure h.1 h.2.1 h.2.2.2.1 rfl (by unfold sG; omega) hr (fun μ2 hf2 ho2 _ _ => ?_)
      have h2 := IX_G h hf2 ho2
      have h112 : T_X11_refusalOfSpare_112 post μ2 := by
        refine pk_lt m 8 (fun hlt => br_t rfl (k _ μ2 (fun _ => ⟨hlt, RW_fr hr hf2 (by unfold sG; omega)⟩) hf2 h2)) (fun _ => br_f (by decide) (k _ μ2 (fun q => absurd q (by decide)) hf2 h2)) (xM h2)
      exact ⟨fun _ => h112, fun _ => ⟨fun _ => h112, fun _ => k _ μ2 (fun q => absurd q (by decide)) hf2 h2⟩⟩
    · rw [cl9 (show j < 1000000 by omega)]
      refine sX_wHas (xW h) h9 (fun _ => rb_f rfl (kf _ (by decide))) (fun v hv e => rb_t n10 ⟨in9 (by omega) (by omega), ?_⟩)
      have step : ∀ a b, P x1 a b (nI j + 1) μ := fun a b => by
        rw [nI_1]
        refine ih a b (fun i hi => ?_)
        by_cases e2 : i = j
        · subst e2; exact ⟨v, by omega, e⟩
        · exact hr i (by omega)
      exact ⟨fun _ => step _ _, fun _ => ⟨fun _ => step _ _, fun _ => step _ _⟩⟩
  exact H 0 (Nat.zero_le _) _ _ (fun i hi => absurd hi (by omega))
theorem pX_order (h : IX n m z1 z2 μ) (k : ∀ r m' μ', Fr sNS μ μ' → μ' 0 12 = μ 0 12 → IX n m' z1 z2 μ' → post r μ') : T_X11_order x1 x2 x3 x4 x5 μ post := by
  have h9 := xN h
  have h1 : IX n m z1 z2 (mset μ 0 13 0) := IX_q h fre0
  have f1 : Fr sNS μ (mset μ 0 13 0) := Fr_put _ _ NS0
  have t1 : (mset μ 0 13 0) 0 12 = μ 0 12 := by rw [m2, pk_un (by decide)]
  unfold T_X11_order
  generalize mset μ 0 13 0 = μ1 at h1 f1 t1 ⊢
  have k1 : ∀ r, post r μ1 := fun r => k r m μ1 f1 t1 h1
  refine sX_isSheet (fun _ => rb_f rfl (k1 _)) (fun j hj e => rb_t n10 (sX_isKind (fun _ => br_t rfl (k1 _)) (fun l hl e2 => br_f n10 (sX_isLane (fun _ => rb_f rfl (k1 _)) (fun l2 hl2 e3 => rb_t n10 ?_)))))
  subst e
  refine sX_cellsFault hj ⟨fun q => ⟨fun _ => k1 _, fun _ => ⟨fun q5 => ?_, fun _ => k1 _⟩⟩, fun _ => k _ m _ (Fr_p f1 NS0) (by rw [m2, pk_un (by decide)]; exact t1) (IX_q h1 fre0)⟩
  obtain ⟨L, hL, eL⟩ := xSh h1 hj
  rw [eL] at q
  obtain ⟨-, a, b, rfl, rfl, hab⟩ := csf_0 hL q
  rw [xW h1, nI_eq (by omega) (by omega)] at q5
  subst q5
  rw [cl9 (show j < 1000000 by omega), cl9 (show a < 1000000 by omega), cl9 (show b < 1000000 by omega)]
  refine ⟨in9 hj (by omega), ⟨nI_pos (by omega), by decide, nI_pos (by omega), by omega, ?_⟩, ?_⟩
  · rw [show (0 : Int32).toNatClampNeg = 0 by decide]; omega
  have h2 : ∀ f, IX b m z1 z2 (mput μ1 57 f) := fun f => IX_q h1 (by unfold fre; omega)
  have f2 : ∀ f, Fr sNS μ (mput μ1 57 f) := fun f => Fr_p f1 (by unfold sNS; omega)
  have t2 : ∀ f, (mput μ1 57 f) 0 12 = μ 0 12 := fun f => by rw [mput_o (by decide)]; exact t1
  refine pX_refusal (h2 _) (fun r μ3 hr hf3 h3 => ?_)
  have f3 := Fr_tr (f2 _) (N0_NS (Q_N0 (fG_Q hf3)))
  have t3 : μ3 0 12 = μ 0 12 := by rw [hf3 0 (by unfold sG; omega)]; exact t2 _
  refine ⟨fun q => ?_, fun _ => k _ m μ3 f3 t3 h3⟩
  obtain ⟨hm8, hrw⟩ := hr q
  refine sX_add (xM h3) hm8 rfl (fun μ4 hf4 e22 _ er => k _ (m + 1) μ4 (Fr_tr f3 (Fr_mono hf4 (fun k q => by unfold sNS; omega))) ?_ (IX_add h3 hm8 hrw hf4 e22 er))
  rw [hf4 0 (by omega)]; exact t3
theorem pX_build (h : IX n m z1 z2 μ) (k : ∀ r m' μ', Fr sN0 μ μ' → IX n m' z1 z2 μ' → post r μ') : T_X11_build x1 x2 μ post := by
  have h9 := xN h
  have h8 := xM8 h
  have k1 : ∀ r, post r μ := fun r => k r m μ (Fr_rf _ _) h
  refine ⟨fun _ => k1 _, fun _ => ⟨fun _ => k1 _, fun _ => ⟨fun _ => k1 _, fun _ => ⟨fun _ => ⟨fun q0 => pk_lt m 8 (fun hlt => br_t rfl ?_) (fun _ => br_f (by decide) (k1 _)) (xM h), fun _ => k1 _⟩, fun _ => k1 _⟩⟩⟩⟩
  have hn0 : 0 < n := by
    rcases Nat.eq_zero_or_pos n with q | q
    · rw [xW h, q] at q0; exact absurd rfl q0
    · exact q
  intro P hP
  have H : ∀ j, j ≤ n → ∀ a μ2, Fr sN0 μ μ2 → IX n m z1 z2 μ2 → (∀ i, i < j → ∃ v, v < 9 ∧ μ2 57 i = nI v) → P x1 x2 a (nI j) μ2 := by
    refine down_ind (fun a μ2 hf2 h2 hr => hP _ _ _ _ _ (br_t (by rw [xW h2]; exact nI_self_le n) ?_)) (fun j hj ih a μ2 hf2 h2 hr => hP _ _ _ _ _ (br_f (by rw [xW h2]; exact nI_ge hj (by omega)) ?_))
    · exact sX_add (xM h2) hlt rfl (fun μ4 hf4 e22 _ er => k _ (m + 1) μ4 (Fr_tr hf2 (Fr_mono hf4 (fun k q => by unfold sN0; omega))) (IX_add h2 hlt hr hf4 e22 er))
    · have i1 := in9 (show j < 9 by omega) (by omega)
      rw [nI_1, cl9 (show j < 1000000 by omega)]
      refine sX_choose' h2.1 h2.2.1 (fun w hw _ => ⟨i1, i1, ih _ _ (Fr_p hf2 (by unfold sN0; omega)) (IX_q h2 (by unfold fre; omega)) (fun i hi => ?_)⟩)
      rw [m2]
      by_cases e : i = j
      · subst e; rw [pk_us]; exact ⟨w, hw, rfl⟩
      · rw [pk_un e]; exact hr i (by omega)
  exact H 0 (Nat.zero_le _) _ μ (Fr_rf _ _) h (fun i hi => absurd hi (by omega))
theorem pX_move (h : IX n m z1 z2 μ) (k : ∀ r m' μ', Fr sN0 μ μ' → IX n m' z1 z2 μ' → post r μ') : T_X11_move x1 μ post := by
  have h8 := xM8 h
  have k1 : ∀ r, post r μ := fun r => k r m μ (Fr_rf _ _) h
  refine sX_oHas (xM h) h8 (fun _ => rb_f rfl (k1 _)) (fun j hj e => rb_t n10 ?_)
  subst e
  rw [cl9 (show j < 1000000 by omega)]
  refine pX_lawful h hj (fun r μ2 hf2 h2 => ⟨fun _ => pk_lt m 8 (fun hlt => br_t rfl ⟨in9 (by omega) (by omega), ?_⟩) (fun _ => br_f (by decide) (k _ m μ2 (Q_N0 (fG_Q hf2)) h2)) (xM h2), fun _ => k _ m μ2 (Q_N0 (fG_Q hf2)) h2⟩)
  refine sX_improve h2.1 h2.2.1 h2.2.2.2.1 (shXr (by omega)) (xRow h2 hj) (fun u μ3 hf3 ho3 hr3 => ?_)
  have h3 := IX_V h2 hf3 ho3
  exact sX_add (xM h3) hlt rfl (fun μ4 hf4 e22 _ er => k _ (m + 1) μ4 (Fr_tr (Fr_tr (Q_N0 (fG_Q hf2)) (Q_N0 (fV_Q hf3))) (Fr_mono hf4 (fun k q => by unfold sN0; omega))) (IX_add h3 hlt hr3 hf4 e22 er))
/-- what sheet() answers -/
def rSheet (x1 x2 x3 : Int32) : Int32 := if x1 < 0 ∨ 4 ≤ x1 then -1 else if x2 < 0 ∨ 3 ≤ x2 ∨ 60 < x3 then -2 else if x3 < 0 then -14 else 1
theorem ix_out {x : Int32} {n : Nat} (hn : n < 2 ^ 31) (h : ∀ j, j < n → x ≠ nI j) : x < 0 ∨ nI n ≤ x := by
  rcases pk_ix x hn with q | q | ⟨j, hj, e⟩
  · exact Or.inl q
  · exact Or.inr q
  · exact absurd e (h j hj)
theorem ix_in {j n : Nat} (hn : n < 2 ^ 31) (h : j < n) : ¬ (nI j < 0 ∨ nI n ≤ nI j) := fun q => q.elim (nI_pos (by omega)) (nI_ge h hn)
theorem IX_sheet {μ' : Mem} {j L : Nat} (h : IX n m z1 z2 μ) (hL : L ≤ 60) (f : Fr (fun q => q = 3 ∨ q = 4 ∨ q = 5 + j) μ μ') (hj : j < 4) (e4 : μ' 4 = upd (μ 4) j (nI L)) : IX n m z1 z2 μ' := by
  obtain ⟨a1, a2, a3, a4, a5, a6, a7, a8, a9, a10, a11, a12⟩ := h
  refine ⟨WK_fr a1 f (by omega) (by omega), ScR_fr a2 f (by omega) (by omega), ScR_fr a3 f (by omega) (by omega), OP_fr a4 f (by omega), a5.imp fun a q => SRa_of q (f 35 (by omega)), a6.imp fun a q => SRa_of q (f 41 (by omega)), RM_of a7 (f 53 (by omega)), TXI_fr a8 f (by omega) (by omega) (by omega), fun k hk => ?_, a10, ?_, fun i hi => RW_fr (a12 i hi) f (by omega)⟩
  · rw [e4]
    by_cases e : k = j
    · subst e; rw [pk_us]; exact ⟨L, hL, rfl⟩
    · rw [pk_un e]; exact a9 k hk
  · rw [f 22 (by omega)]; exact a11
theorem pX_sheet (h : IX n m z1 z2 μ) (k : ∀ μ', IX n m z1 z2 μ' → post (rSheet x1 x2 x3) μ') : T_X11_sheet x1 x2 x3 μ post := by
  have h1 : IX n m z1 z2 (mset μ 0 13 0) := IX_q h fre0
  unfold T_X11_sheet
  generalize mset μ 0 13 0 = μ1 at h1 ⊢
  unfold rSheet at k
  refine sX_isSheet (fun q => rb_f rfl ?_) (fun j hj e => rb_t n10 ?_)
  · have hc : x1 < 0 ∨ 4 ≤ x1 := ix_out (n := 4) (by omega) q
    rw [if_pos hc] at k; exact k μ1 h1
  subst e
  have hc : ¬ (nI j < 0 ∨ 4 ≤ nI j) := ix_in (n := 4) (by omega) hj
  rw [if_neg hc] at k
  refine sX_isLane (fun q => br_t rfl ?_) (fun l hl e => br_f n10 ⟨fun q => ⟨fun q2 => ?_, fun q2 => ?_⟩, fun q => ?_⟩)
  · have hd : x2 < 0 ∨ 3 ≤ x2 ∨ 60 < x3 := (ix_out (n := 3) (by omega) q).elim Or.inl (fun t => Or.inr (Or.inl t))
    rw [if_pos hd] at k; exact k μ1 h1
  · subst e
    have q3 : ¬ (nI l < 0 ∨ 3 ≤ nI l ∨ 60 < x3) := fun t => t.elim (nI_pos (by omega)) (fun t => t.elim (nI_ge (b := 3) hl (by omega)) (fun t => Int32.not_lt.mpr q t))
    have q4 : ¬ x3 < 0 := Int32.not_lt.mpr q2
    rw [if_neg q3, if_neg q4] at k
    obtain ⟨L, hL, rfl⟩ := rngI 0 60 (by omega) q4 (Int32.not_lt.mpr q) (by omega)
    exact sX_renew hj (by omega) (fun μ2 hf _ e4 _ => k μ2 (IX_sheet h1 (by omega) hf hj e4))
  · subst e
    have q3 : ¬ (nI l < 0 ∨ 3 ≤ nI l ∨ 60 < x3) := fun t => t.elim (nI_pos (by omega)) (fun t => t.elim (nI_ge (b := 3) hl (by omega)) (fun t => Int32.not_lt.mpr q t))
    rw [if_neg q3, if_pos (Int32.not_le.mp q2)] at k
    exact k _ (IX_q h1 fre0)
  · rw [if_pos (Or.inr (Or.inr (Int32.not_le.mp q)))] at k; exact k μ1 h1
theorem pX_lose (h : IX n m z1 z2 μ) (k : ∀ r μ', IX n m z1 z2 μ' → post r μ') : T_X11_lose x1 μ post := by
  refine sX_isSheet (fun _ => rb_f rfl (k _ μ h)) (fun j hj e => rb_t n10 ?_)
  subst e
  have h2 : IX n m z1 z2 (mset (mset μ 3 j (-1)) 4 j 0) := IX_sheet (L := 0) h (by omega) (Fr_p (Fr_put _ _ (Or.inl rfl)) (Or.inr (Or.inl rfl))) hj (by rw [m2]; unfold mset; rw [mput_o (by decide)]; rfl)
  exact sX_drop hj ⟨fun _ => k _ _ h2, fun _ => k _ _ h2⟩
theorem pX_put (h : IX n m z1 z2 μ) (k : ∀ r μ', IX n m z1 z2 μ' → post r μ') : T_X11_put x1 x2 x3 μ post := by
  have h1 : IX n m z1 z2 (mset μ 0 13 0) := IX_q h fre0
  unfold T_X11_put
  generalize mset μ 0 13 0 = μ1 at h1 ⊢
  refine sX_isSheet (fun _ => rb_f rfl (k _ μ1 h1)) (fun j hj e => rb_t n10 ⟨by rw [e]; exact in9 hj (by omega), ?_⟩)
  subst e
  refine sX_cellFault hj ⟨fun q => ?_, fun _ => k _ _ (IX_q h1 fre0)⟩
  obtain ⟨L, hL, eL⟩ := xSh h1 hj
  rw [eL] at q
  obtain ⟨-, a, rfl, ha⟩ := cf_0 hL q
  exact sX_write hj (by omega) (k _ _ (IX_q h1 (by unfold fre; omega)))
theorem pX_cell {post : Int64 → Mem → Prop} (h : IX n m z1 z2 μ) (k : ∀ r μ', IX n m z1 z2 μ' → post r μ') : T_X11_cell x1 x2 x3 μ post := by
  have h1 : IX n m z1 z2 (mset μ 0 13 0) := IX_q h fre0
  unfold T_X11_cell
  generalize mset μ 0 13 0 = μ1 at h1 ⊢
  refine sX_isSheet (fun _ => br_t rfl (k _ μ1 h1)) (fun j hj e => br_f n10 (sX_isLane (fun _ => rb_f rfl (k _ μ1 h1)) (fun l hl e2 => rb_t n10 ?_)))
  subst e
  refine sX_cellFault hj ?_
  rw [m2, pk_us]
  refine ⟨fun q => ?_, fun _ => k _ _ (IX_q h1 fre0)⟩
  obtain ⟨L, hL, eL⟩ := xSh h1 hj
  have q' := q
  rw [eL] at q'
  obtain ⟨-, a, rfl, ha⟩ := cf_0 hL q'
  exact ⟨in9 hj (by omega), in9 (by omega) (by omega), k _ _ (IX_q h1 fre0)⟩
theorem pX_tellRow (h : IX n m z1 z2 μ) {j : Nat} (hj : j < m) (k : ∀ r μ', Fr sNS μ μ' → IX n m z1 z2 μ' → post r μ') : T_X11_tellRow (nI j) μ post := by
  have h8 := xM8 h
  unfold T_X11_tellRow
  rw [cl9 (show j < 1000000 by omega)]
  exact ⟨in9 (by omega) (by omega), sX_meas (IX_q h fre0) hj (fun μ2 hf2 h2 _ _ => k _ μ2 (Fr_tr (Fr_put _ _ NS0) (N0_NS (Q_N0 (fG_Q hf2)))) h2)⟩
theorem pX_tellBefore (h : IX n m z1 z2 μ) {j : Nat} (hj : j < m) (k : ∀ r μ', Fr sNS μ μ' → IX n m z1 z2 μ' → post r μ') : T_X11_tellBefore (nI j) μ post := by
  unfold T_X11_tellBefore T_X11_leave
  exact pX_tellRow (IX_q h fre0) hj (fun r μ2 hf2 h2 => k (r + 1000) μ2 (Fr_tr (Fr_put _ _ NS0) hf2) h2)
theorem pX_tell (h : IX n m z1 z2 μ) (k : ∀ r μ', Fr sNS μ μ' → IX n m z1 z2 μ' → post r μ') : T_X11_tell x1 μ post := by
  have h8 := xM8 h
  refine sX_oHas (xM h) h8 (fun _ => rb_f rfl (k _ μ (Fr_rf _ _) h)) (fun j hj e => rb_t n10 ?_)
  subst e
  refine ⟨in9 (by omega) (by omega), fun _ => pX_tellBefore h hj k, fun _ => ?_, fun _ _ => pX_tellRow h hj k⟩
  unfold T_X11_tellAgain T_X11_leave
  exact pX_tellBefore (IX_q h fre0) hj (fun r μ2 hf2 h2 => pX_tellRow h2 hj (fun r2 μ3 hf3 h3 => k _ μ3 (Fr_tr (Fr_put _ _ NS0) (Fr_tr hf2 hf3)) h3))
theorem pX_show (h : IX n m z1 z2 μ) (k : ∀ r μ', Fr sNS μ μ' → IX n m z1 z2 μ' → post r μ') : T_X11_show x1 μ post := by
  have h8 := xM8 h
  refine sX_oHas (xM h) h8 (fun _ => rb_f rfl (k _ μ (Fr_rf _ _) h)) (fun j hj e => rb_t n10 ?_)
  subst e
  have k2 : ∀ r f, post r (mput μ 0 f) := fun r f => k r _ (Fr_put _ _ NS0) (IX_q h fre0)
  have h42 : ∀ a b, T_X11_show_42 post (nI j) a b μ := fun a b => ⟨fun _ => k2 _ _, fun _ => k2 _ _⟩
  exact ⟨in9 (by omega) (by omega), fun _ => ⟨fun _ => h42 _ _, fun _ => h42 _ _⟩, fun _ => ⟨fun _ => h42 _ _, fun _ => h42 _ _⟩⟩
theorem pX_as (h : IX n m z1 z2 μ) (k : ∀ r μ', Fr sNS μ μ' → IX n m z1 z2 μ' → post r μ') : T_X11_as x1 x2 μ post := by
  have h8 := xM8 h
  have h1 : IX n m z1 z2 (mset μ 0 13 0) := IX_q h fre0
  have f1 : Fr sNS μ (mset μ 0 13 0) := Fr_put _ _ NS0
  unfold T_X11_as
  generalize mset μ 0 13 0 = μ1 at h1 f1 ⊢
  refine sX_oHas (xM h1) h8 (fun _ => rb_f rfl (k _ μ1 f1 h1)) (fun j hj e => rb_t n10 (sX_isKind (fun _ => rb_f rfl (k _ μ1 f1 h1)) (fun l hl e2 => rb_t n10 ?_)))
  subst e
  exact ⟨in9 (by omega) (by omega), fun _ => k _ μ1 f1 h1, fun _ => k _ _ (Fr_p f1 NS0) (IX_q h1 fre0)⟩
end Calls2
