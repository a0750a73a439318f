/-! sizes are no more than 9 (made by nine.py) -/
theorem tw_shop9 {n m m' : Nat} {z1 z2 : Nat → Nat} {μX μM : Mem} {x1 x2 x3 x4 : Int32} {G : Prop → Prop} {Q : Int32 → Int32 → Mem → Mem → Prop} (hG : ∀ T, T → G T) (hX : IX n m z1 z2 μX) (hM : IM n m' μM) (hR : RS μX μM) (hK : RK n z1 z2 μX μM)
    (k1 : ∀ r r2 μ1 μ2, IX n m z1 z2 μ1 → IM n m' μ2 → RS μ1 μ2 → RK n z1 z2 μ1 μ2 → RF μ1 μ2 → μ1 0 12 = μX 0 12 → μ2 0 1 = μM 0 1 → Fr sC μX μ1 → Fr sRd μM μ2 → Q r r2 μ1 μ2)
    (k2 : ∀ rw z' μ1 μ2, IX rw 0 z' z2 μ1 → IM rw 0 μ2 → RS μ1 μ2 → RK rw z' z2 μ1 μ2 → RF μ1 μ2 → μ1 0 12 = μX 0 12 → μ2 0 1 = μM 0 1 → Fr sTk μX μ1 → Fr sTm μM μ2 → μ1 13 5 = μX 13 5 + 1 → (∀ t, t < 10 → z' t ≤ 9) → Q (nI rw) (nI rw) μ1 μ2) : T_X11_shop x1 x2 x3 x4 μX (fun r μ1 => G (T_X12_shop x1 x2 x3 x4 μM (fun r2 μ2 => Q r r2 μ1 μ2))) := by
  have hX1 : IX n m z1 z2 (mset μX 0 13 0) := IX_q hX fre0
  have hM1 : IM n m' (mset μM 0 0 0) := IM_0 hM (by decide) (by decide)
  have hR1 : RS (mset μX 0 13 0) (mset μM 0 0 0) := RS_00 hR
  have tX : (mset μX 0 13 0) 0 12 = μX 0 12 := by rw [m2, pk_un (by decide)]
  have tM : (mset μM 0 0 0) 0 1 = μM 0 1 := by rw [m2, pk_un (by decide)]
  have fX : (mset μX 0 13 0) 0 13 = 0 := by rw [m2, pk_us]
  have fM : (mset μM 0 0 0) 0 0 = 0 := by rw [m2, pk_us]
  have gX : Fr sC μX (mset μX 0 13 0) := Fr_put _ _ (Or.inl rfl)
  have gM : Fr sRd μM (mset μM 0 0 0) := Fr_put _ _ (Or.inl rfl)
  have hK1 : RK n z1 z2 (mset μX 0 13 0) (mset μM 0 0 0) := RK_fr hK gX gM (by unfold sC; omega) (by unfold sC; omega) (by unfold sRd; omega) (by unfold sRd; omega) (by unfold sRd; omega) (by unfold sRd; omega)
  unfold T_X11_shop T_X12_shop
  generalize mset μX 0 13 0 = μX1 at hX1 hR1 hK1 tX fX gX ⊢
  generalize mset μM 0 0 0 = μM1 at hM1 hR1 hK1 tM fM gM ⊢
  have k0 : ∀ r, Q r r μX1 μM1 := fun r => k1 r r _ _ hX1 hM1 hR1 hK1 (fX.trans fM.symm) tX tM gX gM
  rcases in_or x1 4 (by omega) with ho | ⟨j, hj, rfl⟩
  · refine sX_isSheet (fun _ => rb_f rfl (hG _ ?_)) (fun j hj e => absurd e (ho j hj))
    exact sM_isSheet (fun _ => rb_f rfl (k0 _)) (fun j hj e => absurd e (ho j hj))
  have i1 := in9 hj (show 4 < 1000000 by omega)
  refine sX_isSheet (fun q => absurd rfl (q j hj)) (fun _ _ _ => rb_t n10 ?_)
  have inM : ∀ T, T → T_X12_isSheet (nI j) μM1 (fun (u1 : Int32) (μ2 : Mem) => ((¬ u1 = 0 → T) ∧ (u1 = 0 → False))) → True := fun _ _ _ => trivial
  rcases in_or x2 3 (by omega) with ho | ⟨y, hy, rfl⟩
  · refine sX_isLane (fun _ => rb_f rfl (hG _ ?_)) (fun j hj e => absurd e (ho j hj))
    exact sM_isSheet (fun q => absurd rfl (q j hj)) (fun _ _ _ => rb_t n10 (sM_isLane (fun _ => rb_f rfl (k0 _)) (fun j hj e => absurd e (ho j hj))))
  refine sX_isLane (fun q => absurd rfl (q y hy)) (fun _ _ _ => rb_t n10 (sX_cellsFault hj ?_))
  obtain ⟨er, el⟩ := rf_rfm (x := nI y) (hR1 j hj)
  have ecs : csf (rfm (μM1 1 j) (nI y)) x3 x4 (μM1 2 j) = csf (rf (μX1 3 j) (nI y)) x3 x4 (μX1 4 j) := by rw [er]; exact (csf_cong el).symm
  have goM : ∀ (post2 : Int32 → Mem → Prop), (((csf (rf (μX1 3 j) (nI y)) x3 x4 (μX1 4 j) = 0 → T_X12_readsAll (mset (mset μM1 0 10 ((60 * nI j) + x3)) 0 11 (((60 * nI j) + x3) + x4)) (fun (u7 : Int32) (μ8 : Mem) => ((¬ u7 = 0 → T_X12_shop_99 post2 0 (mset μ8 0 5 (μ8 0 12))) ∧ (u7 = 0 → post2 ((-100) - ((μ8 0 10) - ((60 * nI j) + x3))) μ8)))) ∧ (¬ csf (rf (μX1 3 j) (nI y)) x3 x4 (μX1 4 j) = 0 → post2 ((-10) - csf (rf (μX1 3 j) (nI y)) x3 x4 (μX1 4 j)) (mset μM1 0 0 (csf (rf (μX1 3 j) (nI y)) x3 x4 (μX1 4 j)))))) → T_X12_isSheet (nI j) μM1 (fun (u1 : Int32) (μ2 : Mem) => ((¬ u1 = 0 → T_X12_isLane (nI y) μ2 (fun (u3 : Int32) (μ4 : Mem) => ((¬ u3 = 0 → T_X12_against (nI j) (nI y) x3 x4 μ4 (fun (u5 : Int32) (μ6 : Mem) => ((u5 = 0 → T_X12_readsAll (mset (mset μ6 0 10 ((60 * nI j) + x3)) 0 11 (((60 * nI j) + x3) + x4)) (fun (u7 : Int32) (μ8 : Mem) => ((¬ u7 = 0 → T_X12_shop_99 post2 0 (mset μ8 0 5 (μ8 0 12))) ∧ (u7 = 0 → post2 ((-100) - ((μ8 0 10) - ((60 * nI j) + x3))) μ8)))) ∧ (¬ u5 = 0 → T_X12_fails u5 μ6 (fun (u9 : Int32) (μ10 : Mem) => post2 u9 μ10))))) ∧ (u3 = 0 → post2 (-2) μ4)))) ∧ (u1 = 0 → post2 (-1) μ2))) := by
    intro post2 hq
    refine sM_isSheet (fun q => absurd rfl (q j hj)) (fun _ _ _ => rb_t n10 (sM_isLane (fun q => absurd rfl (q y hy)) (fun _ _ _ => rb_t n10 (sM_against hj ?_))))
    rw [ecs]
    exact hq
  refine ⟨fun hc0 => ⟨i1, ?_⟩, fun hc0 => hG _ (goM _ (br_f hc0 ?_))⟩
  · obtain ⟨L, hL, eL⟩ := xSh hX1 hj
    have hc0' := hc0
    rw [eL] at hc0'
    obtain ⟨er0, a, b, rfl, rfl, hab⟩ := csf_0 hL hc0'
    rw [cl9 (show j < 1000000 by omega)]
    have hcells : ∀ i, i < b → μM1 3 (60 * j + a + i) = μX1 (5 + j) (a + i) := fun i hi => by
      rcases hR1 j hj with ⟨a1, -⟩ | ⟨l, L', h1, h2, h3, h4, h5, h6, h7⟩
      · rw [a1, rf_1] at er0; exact absurd er0 n10
      · have eLL : L' = L := (nI_eq (by omega) (by omega)).mp (h5.symm.trans eL)
        subst eLL
        rw [h7 (a + i) (by omega)]
        congr 1
        omega
    refine eX_firstFault hX1.2.2.2.2.2.2.2.1 (shXs hj) (by unfold sT; omega) (by omega) (fun μf hff f3 f4 f5 f12 gT gF => ?_)
    have hM2 : IM n m' (mset (mset μM1 0 10 ((60 * nI j) + nI a)) 0 11 (((60 * nI j) + nI a) + nI b)) := IM_0 (IM_0 hM1 (by decide) (by decide)) (by decide) (by decide)
    have e10 : (mset (mset μM1 0 10 ((60 * nI j) + nI a)) 0 11 (((60 * nI j) + nI a) + nI b)) 0 10 = nI (60 * j + a) := by rw [m2, pk_un (by decide), m2, pk_us, sixty_mul]
    have e11 : (mset (mset μM1 0 10 ((60 * nI j) + nI a)) 0 11 (((60 * nI j) + nI a) + nI b)) 0 11 = nI (60 * j + a + b) := by rw [m2, pk_us, sixty_mul, nI_add]
    have e3 : (mset (mset μM1 0 10 ((60 * nI j) + nI a)) 0 11 (((60 * nI j) + nI a) + nI b)) 3 = μM1 3 := by unfold mset; rw [mput_o (by decide), mput_o (by decide)]
    have eM1 : (mset (mset μM1 0 10 ((60 * nI j) + nI a)) 0 11 (((60 * nI j) + nI a) + nI b)) 0 1 = μM 0 1 := by rw [m2, pk_un (by decide), m2, pk_un (by decide)]; exact tM
    have eM0 : (mset (mset μM1 0 10 ((60 * nI j) + nI a)) 0 11 (((60 * nI j) + nI a) + nI b)) 0 0 = 0 := by rw [m2, pk_un (by decide), m2, pk_un (by decide)]; exact fM
    have gM2 : Fr sRd μM (mset (mset μM1 0 10 ((60 * nI j) + nI a)) 0 11 (((60 * nI j) + nI a) + nI b)) := Fr_p (Fr_p gM (Or.inl rfl)) (Or.inl rfl)
    have goM2 := fun post2 hq => goM post2 (br_t hc0 hq)
    generalize mset (mset μM1 0 10 ((60 * nI j) + nI a)) 0 11 (((60 * nI j) + nI a) + nI b) = μM2 at hM2 e10 e11 e3 eM1 eM0 gM2 goM2
    have hX2 := IX_T hX1 gF gT
    have gX2 : Fr sC μX (rnF (fun k => μX1 (5 + j) (a + k)) b b 1 0 μf).2 := Fr_tr gX (Fr_mono gF (fun q hq => by unfold sT at hq; unfold sC; omega))
    have tX2 : (rnF (fun k => μX1 (5 + j) (a + k)) b b 1 0 μf).2 0 12 = μX 0 12 := by rw [gF 0 (by unfold sT; omega)]; exact tX
    have fX2 : (rnF (fun k => μX1 (5 + j) (a + k)) b b 1 0 μf).2 0 13 = 0 := by rw [gF 0 (by unfold sT; omega)]; exact fX
    have v2 : (rnF (fun k => μX1 (5 + j) (a + k)) b b 1 0 μf).2 13 = μX 13 := gX2 13 (by unfold sC; omega)
    have rn := rnF_or (codes := fun k => μX1 (5 + j) (a + k)) (b := b) b 1 0 μf (by omega)
    have hread : ∀ post2, KK (fun k => μX1 (5 + j) (a + k)) b (60 * j + a) μM2 post2 b 1 0 μf → T_X12_readsAll μM2 post2 := fun post2 hk => tM_readsAll hM2 (by omega) (by omega) e10 e11 (fun k hk => by rw [e3]; exact hcells k hk) f3 f4 f5 f12 hk
    unfold KK at hread
    generalize rnF (fun k => μX1 (5 + j) (a + k)) b b 1 0 μf = R at gT gF hX2 gX2 tX2 fX2 v2 rn hread ⊢
    obtain ⟨R1, R2⟩ := R
    rcases rn with e | ⟨q, hq, e⟩
    · have e : R1 = -1 := e
      subst e
      refine br_t (show (-1 : Int32) < 0 by decide) (sX_takeOver2 hX2.1 hX2.2.1 gT (fun c z' μ3 hc ec hf3 hw3 hz3 hsz3 hwk3 hv3 => hG _ (goM2 _ (hread _ ⟨fun _ rw μM3 hrd hfd gf gc => ?_, fun e => absurd rfl e⟩))))
      refine ⟨fun _ => ?_, fun e => absurd e n10⟩
      have hM3 := IM_rd hM2 gf gc hrd
      have ecr : c = rw := (nI_eq (by omega) (by have := hrd.2.2.2.2.2.1; omega)).mp (ec.symm.trans hfd.1)
      subst ecr
      have e134 : (mset μ3 22 2 0) 13 4 = nI c := by unfold mset; rw [mput_o (by decide)]; exact hw3.1
      rw [e134]
      refine sM_shopEnd hM3 hrd (fun μM4 gf4 hM4 e04 hw4 hs4 => ?_)
      have gX3 : Fr sTk μX (mset μ3 22 2 0) := Fr_p (Fr_tr (Fr_mono gX2 (fun q hq => by unfold sC at hq; unfold sTk; omega)) (Fr_mono hf3 (fun q hq => by unfold sW at hq; unfold sTk; omega))) (by unfold sTk; omega)
      have gM4 : Fr sTm μM μM4 := Fr_tr (Fr_tr (Fr_mono gM2 (fun q hq => by unfold sRd at hq; unfold sTm; omega)) (Fr_mono gf (fun q hq => by unfold sRd at hq; unfold sTm; omega))) (Fr_mono gf4 (fun q hq => by unfold sTm; omega))
      refine k2 c z' _ μM4 ?_ hM4 (RS_fr hR gX3 gM4 (fun q h1 h2 => by unfold sTk; omega) (fun q h1 h2 => by unfold sTm; omega)) ⟨fun w hw => ?_, fun t ht => ⟨?_, ?_⟩⟩ ?_ ?_ ?_ gX3 gM4 ?_ ?_
      · obtain ⟨a1, a2, a3, a4, a5, a6, a7, a8, a9, a10, a11, a12⟩ := hX2
        have g : Fr (fun q => sW q ∨ q = 22) R2 (mset μ3 22 2 0) := Fr_p (Fr_mono hf3 (fun k q => Or.inl q)) (Or.inr rfl)
        refine ⟨WK_p hw3 (by decide) (by decide), ScR_p hz3 (by decide) (by decide), ScR_fr a3 g (by unfold sW; omega) (by unfold sW; omega), OP_fr a4 g (by unfold sW; omega), a5.imp fun a q => SRa_of q (g 35 (by unfold sW; omega)), a6.imp fun a q => SRa_of q (g 41 (by unfold sW; omega)), RM_of a7 (g 53 (by unfold sW; omega)), TXI_fr a8 g (by unfold sW; omega) (by unfold sW; omega) (by unfold sW; omega), fun k hk => ?_, by omega, ?_, fun j hj => absurd hj (by omega)⟩
        · rw [g 4 (by unfold sW; omega)]; exact a9 k hk
        · rw [m2, pk_us]; rfl
      · obtain ⟨b1, b2⟩ := hwk3 w hw
        obtain ⟨b3, b4⟩ := hw4 w hw
        obtain ⟨b5, b6⟩ := hfd.2.1 w hw
        unfold mset
        rw [mput_o (by decide), mput_o (by decide), b1, b2, b3, b4, b5, b6]
        exact ⟨rfl, rfl⟩
      · rw [hs4 t ht, ← hfd.2.2 t ht]; exact hsz3 t ht
      · rw [gM4 7 (by unfold sTm; omega)]; exact (hK.2 t ht).2
      · unfold RF mset
        rw [mput_o (by decide), hf3 0 (by unfold sW; omega), fX2, e04 0 (by decide) (by decide), gc 0 (by decide) (by decide) (by decide) (by decide)]
        exact eM0.symm
      · unfold mset; rw [mput_o (by decide), hf3 0 (by unfold sW; omega)]; exact tX2
      · rw [e04 1 (by decide) (by decide), gc 1 (by decide) (by decide) (by decide) (by decide)]; exact eM1
      · unfold mset; rw [mput_o (by decide), hv3, v2]
      · intro t ht
        have ez := (hsz3 t ht).symm.trans (hfd.2.2 t ht)
        have z99 := hz3.1 t
        obtain ⟨v, hv, ev⟩ := hM3.2.2.2.2.2.1 t ht
        rw [ev] at ez
        by_cases c : hb (μM3 0 15) t = true
        · rw [if_pos c] at ez
          have := (nI_eq (by omega) (by omega)).mp ez
          omega
        · rw [if_neg c] at ez
          have := (nI_eq (b := 1) (by omega) (by omega)).mp ez
          omega
    · have e : R1 = nI q := e
      subst e
      refine br_f (nI_pos (by omega)) (hG _ (goM2 _ (hread _ ⟨fun e => absurd e (nI_nm1 (by omega)), fun _ a' rw μM3 hrd gf gc => ⟨fun e => absurd rfl e, fun _ => ?_⟩⟩)))
      refine k1 _ _ _ _ hX2 (IM_rd hM2 gf gc hrd) (RS_fr hR gX2 (Fr_tr gM2 gf) (fun q h1 h2 => by unfold sC; omega) (fun q h1 h2 => by unfold sRd; omega)) (RK_fr hK gX2 (Fr_tr gM2 gf) (by unfold sC; omega) (by unfold sC; omega) (by unfold sRd; omega) (by unfold sRd; omega) (by unfold sRd; omega) (by unfold sRd; omega)) ?_ tX2 ?_ gX2 (Fr_tr gM2 gf)
      · unfold RF
        rw [fX2, gc 0 (by decide) (by decide) (by decide) (by decide)]; exact eM0.symm
      · rw [gc 1 (by decide) (by decide) (by decide) (by decide)]; exact eM1
  · generalize csf (rf (μX1 3 j) (nI y)) x3 x4 (μX1 4 j) = c
    refine k1 _ _ _ _ (IX_q hX1 fre0) (IM_0 hM1 (by decide) (by decide)) (RS_00 hR1) (RK_fr hK1 (Fr_put (S := fun q => q = 0) _ _ rfl) (Fr_put (S := fun q => q = 0) _ _ rfl) (by omega) (by omega) (by omega) (by omega) (by omega) (by omega)) (by unfold RF; rw [m2, m2, pk_us, pk_us]) (by rw [m2, pk_un (by decide)]; exact tX) (by rw [m2, pk_un (by decide)]; exact tM) (Fr_p gX (Or.inl rfl)) (Fr_p gM (Or.inl rfl))
theorem tw_thing9 {n m m' : Nat} {z1 z2 : Nat → Nat} {μX μM : Mem} {x1 x2 x3 : Int32} {G : Prop → Prop} {Q : Int32 → Int32 → Mem → Mem → Prop} (hG : ∀ T, T → G T) (hX : IX n m z1 z2 μX) (hM : IM n m' μM) (hK : RK n z1 z2 μX μM) (k1 : ∀ r, Q r r μX μM)
    (k2 : ∀ r r2 z1' μ1 μ2, r = r2 → IX n m z1' z2 μ1 → IM n m' μ2 → RK n z1' z2 μ1 μ2 → Fr (fun q => q = 13 ∨ q = 17 ∨ q = 18) μX μ1 → Fr (fun q => q = 6) μM μ2 → μ1 13 5 = μX 13 5 + 1 → ((∀ t, t < 10 → z1 t ≤ 9) → ∀ t, t < 10 → z1' t ≤ 9) → Q r r2 μ1 μ2)
    (k3 : ∀ r r2 z2' μ1 μ2, r = r2 → IX n m z1 z2' μ1 → IM n m' μ2 → RK n z1 z2' μ1 μ2 → Fr (fun q => q = 20 ∨ q = 21) μX μ1 → Fr (fun q => q = 7) μM μ2 → Q r r2 μ1 μ2) : T_X11_thing x1 x2 x3 μX (fun r μ1 => G (T_X12_thing x1 x2 x3 μM (fun r2 μ2 => Q r r2 μ1 μ2))) := by
  rcases in_or x1 10 (by omega) with ho | ⟨t, ht, rfl⟩
  · have mno : ∀ post2 : Int32 → Mem → Prop, post2 (-1) μM → T_X12_thing x1 x2 x3 μM post2 := fun post2 hq => sM_in0 (L := 9) (by omega) (fun _ => rb_f rfl hq) (fun j hj e => absurd e (ho j hj))
    refine ⟨fun _ => hG _ (mno _ (k1 _)), fun q1 => ⟨fun q2 => ?_, fun _ => hG _ (mno _ (k1 _))⟩⟩
    obtain ⟨t, ht, rfl⟩ := nI_of q1
    exact absurd rfl (ho t ((nI_ltI ht (by omega)).mp q2))
  have i1 := in9 ht (show 10 < 1000000 by omega)
  have ecl := cl9 (show t < 1000000 by omega)
  refine br_f (nI_pos (by omega)) (br_t (nI_lt (b := 10) ht (by omega)) ?_)
  by_cases h0 : x2 = 0
  · subst h0
    have h37 : (x3 < 1 ∨ 9 < x3) → T_X11_thing_37 (fun r μ1 => G (T_X12_thing (nI t) 0 x3 μM (fun r2 μ2 => Q r r2 μ1 μ2))) (nI t) 0 x3 μX := fun ho => rb_t (by decide) (hG _ (sM_in0 (L := 9) (by omega) (fun q => absurd rfl (q t ht)) (fun _ _ _ => rb_t n10 (sM_in0 (L := 1) (by omega) (fun q => absurd rfl (q 0 (by omega))) (fun _ _ _ => br_f n10 (rb_f rfl (rb_f rfl (sM_isIn (fun _ => rb_f rfl (k1 _)) (fun q5 q6 => (ho.elim q5 q6).elim)))))))))
    refine rb_f rfl ⟨fun q => h37 (Or.inl q), fun q3 => ⟨fun q => h37 (Or.inr q), fun q4 => ?_⟩⟩
    obtain ⟨v, hv, rfl⟩ := rngI 1 9 (by omega) q3 q4 (by omega)
    have h1 : IX n m z1 z2 (mset μX 13 5 ((μX 13 5) + 1)) := IX_1315 hX (Fr_put _ _ (Or.inl rfl)) (by rw [m2, pk_un (by decide)])
    refine sX_change (Or.inl rfl) h1.2.1 ht (by omega) (fun μ2 hf2 hz2 => hG _ (sM_in0 (L := 9) (by omega) (fun q => absurd rfl (q t ht)) (fun _ _ _ => rb_t n10 (sM_in0 (L := 1) (by omega) (fun q => absurd rfl (q 0 (by omega))) (fun _ _ _ => br_f n10 (rb_f rfl (rb_f rfl (sM_isIn (fun q => (q.elim q3 q4).elim) (fun _ _ => rb_t n10 (rb_f rfl ⟨i1, rb_f rfl ⟨i1, ?_⟩⟩))))))))))
    have gX : Fr (fun q => q = 13 ∨ q = 17 ∨ q = 18) μX μ2 := Fr_tr (Fr_put _ _ (Or.inl rfl)) (Fr_mono hf2 (fun k q => by omega))
    rw [ecl]
    refine k2 _ _ (zup z1 t (1 + v)) μ2 _ ?_ (IX_sc h1 (Fr_mono hf2 (fun k q => by omega)) hz2 (ScR_fr h1.2.2.1 hf2 (by omega) (by omega))) (IM_6 hM (by omega)) ⟨fun w hw => ?_, fun t' ht' => ?_⟩ gX (Fr_put _ _ rfl) ?_ (fun hh t' ht' => ?_)
    · exact ((hK.2 t ht).1).symm
    · rw [gX 14 (by omega), gX 15 (by omega)]
      unfold mset; rw [mput_o (by decide), mput_o (by decide)]; exact hK.1 w hw
    · have e7 : (mset μM 6 t (nI (1 + v))) 7 = μM 7 := mput_o (by decide)
      rw [e7, m2]
      unfold zup
      by_cases e : t' = t
      · subst e; rw [pk_us, if_pos rfl]; exact ⟨rfl, (hK.2 t' ht').2⟩
      · rw [pk_un e, if_neg e]; exact hK.2 t' ht'
    · rw [hf2 13 (by omega), m2, pk_us]
    · show (if t' = t then 1 + v else z1 t') ≤ 9
      split
      · omega
      · exact hh t' ht'
  by_cases h1 : x2 = 1
  · subst h1
    have mno : (x3 < 0 ∨ 99 < x3) → ∀ post2 : Int32 → Mem → Prop, post2 (-2) μM → T_X12_thing (nI t) 1 x3 μM post2 := fun ho post2 hq => sM_in0 (L := 9) (by omega) (fun q => absurd rfl (q t ht)) (fun _ _ _ => rb_t n10 (sM_in0 (L := 1) (by omega) (fun q => absurd rfl (q 1 (by omega))) (fun _ _ _ => br_f n10 (rb_t n10 (rb_t n10 (sM_isIn (fun _ => rb_f rfl hq) (fun q5 q6 => (ho.elim q5 q6).elim)))))))
    refine rb_t n10 (rb_f rfl ⟨fun q => hG _ (mno (Or.inl q) _ (k1 _)), fun q3 => ⟨fun q => hG _ (mno (Or.inr q) _ (k1 _)), fun q4 => ?_⟩⟩)
    obtain ⟨v, hv, rfl⟩ := rngI 0 99 (by omega) q3 q4 (by omega)
    refine sX_change (Or.inr rfl) hX.2.2.1 ht (by omega) (fun μ2 hf2 hz2 => hG _ (sM_in0 (L := 9) (by omega) (fun q => absurd rfl (q t ht)) (fun _ _ _ => rb_t n10 (sM_in0 (L := 1) (by omega) (fun q => absurd rfl (q 1 (by omega))) (fun _ _ _ => br_f n10 (rb_t n10 (rb_t n10 (sM_isIn (fun q => (q.elim q3 q4).elim) (fun _ _ => rb_t n10 (rb_t n10 ⟨i1, rb_t n10 ⟨i1, ?_⟩⟩))))))))))
    have gX : Fr (fun q => q = 20 ∨ q = 21) μX μ2 := Fr_mono hf2 (fun k q => by omega)
    rw [ecl]
    refine k3 _ _ (zup z2 t (0 + v)) μ2 _ ?_ (IX_sc hX (Fr_mono hf2 (fun k q => by omega)) (ScR_fr hX.2.1 hf2 (by omega) (by omega)) hz2) (IM_free hM (Fr_put _ _ (by unfold freM; omega))) ⟨fun w hw => ?_, fun t' ht' => ?_⟩ gX (Fr_put _ _ rfl)
    · exact ((hK.2 t ht).2).symm
    · rw [gX 14 (by omega), gX 15 (by omega)]
      unfold mset; rw [mput_o (by decide), mput_o (by decide)]; exact hK.1 w hw
    · have e6 : (mset μM 7 t (nI (0 + v))) 6 = μM 6 := mput_o (by decide)
      rw [e6, m2]
      unfold zup
      by_cases e : t' = t
      · subst e; rw [pk_us, if_pos rfl]; exact ⟨(hK.2 t' ht').1, rfl⟩
      · rw [pk_un e, if_neg e]; exact hK.2 t' ht'
  · refine rb_t h0 (rb_t h1 (hG _ (sM_in0 (L := 9) (by omega) (fun q => absurd rfl (q t ht)) (fun _ _ _ => rb_t n10 (sM_in0 (L := 1) (by omega) (fun _ => br_t rfl (k1 _)) (fun j hj e => ?_))))))
    exfalso
    rcases (show j = 0 ∨ j = 1 by omega) with rfl | rfl
    · exact h0 e
    · exact h1 e
