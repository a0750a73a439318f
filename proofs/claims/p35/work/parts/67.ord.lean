/-! ofOrder, better, tell, show, as, many: both sides alike -/
theorem neg_div10 {x : Int32} (h : x < 0) : ¬ x / 10 = 1 ∧ ¬ x / 10 = 2 ∧ ¬ x / 10 = 3 := by
  have e : (x / 10).toInt ≤ 0 := by
    rw [Int32.toInt_div_of_ne_right x 10 (by decide)]
    rw [Int32.lt_iff_toInt_lt] at h
    have h0 : (0 : Int32).toInt = 0 := by decide
    have h10 : (10 : Int32).toInt = 10 := by decide
    rw [h0] at h
    rw [h10, show x.toInt = -(-x.toInt) by omega, Int.neg_tdiv, Int.tdiv_eq_ediv_of_nonneg (by omega)]
    omega
  refine ⟨fun q => ?_, fun q => ?_, fun q => ?_⟩
  · rw [q] at e; exact absurd e (by decide)
  · rw [q] at e; exact absurd e (by decide)
  · rw [q] at e; exact absurd e (by decide)
theorem eX_meas {n m j : Nat} {z1 z2 : Nat → Nat} {μ : Mem} {post : Mem → Prop} (h : IX n m z1 z2 μ) (hj : j < m) (k : ∀ μ', Fr sG μ μ' → IX n m z1 z2 μ' → MS n z1 (μ 14) (μ 15) (μ (25 + j)) μ' → post μ') : T_X1_measure (25 + j) μ post := by
  have h8 := xM8 h
  exact eX_measure h.1 h.2.1 h.2.2.2.1 (shXr (by omega)) (by unfold sG; omega) (xRow h hj) (fun μ2 hf2 ho2 hMS => k μ2 hf2 (IX_G h hf2 ho2) hMS)
theorem RO_13 {n m j : Nat} {μX μM μ2 : Mem} (hO : RO n m μX μM) (hj : j < m) (he : ∀ i, i < n → μ2 13 i = μM 12 (9 * j + i)) : ∀ i, i < n → μ2 13 i = μX (25 + j) i := fun i hi => by rw [he i hi]; exact ((hO j hj).2.1 i hi).symm
theorem RO_G {n m : Nat} {μX μM μ1 μ2 : Mem} (hO : RO n m μX μM) (h8 : m ≤ 8) (hf1 : Fr sG μX μ1) (hf2 : Fr (fun q => q = 13) μM μ2) : RO n m μ1 μ2 := RO_fr hO h8 hf1 hf2 (by unfold sG; omega) (fun q h1 h2 => by unfold sG; omega) (by omega) (by omega)
theorem tw_ofOrder {n m : Nat} {z1 z2 : Nat → Nat} {μX μM : Mem} {x1 x2 : Int32} {G : Prop → Prop} {Q : Int32 → Int32 → Mem → Mem → Prop} (hG : ∀ T, T → G T) (hX : IX n m z1 z2 μX) (hM : IM n m μM) (hK : RK n z1 z2 μX μM) (hO : RO n m μX μM) (k : ∀ r r2 μ1 μ2, r = r2 → IX n m z1 z2 μ1 → IM n m μ2 → Fr sG μX μ1 → Fr (fun q => q = 13) μM μ2 → Q r r2 μ1 μ2) : T_X11_ofOrder x1 x2 μX (fun r μ1 => G (T_X12_ofOrder x1 x2 μM (fun r2 μ2 => Q r r2 μ1 μ2))) := by
  have h9 := xN hX
  have h8 := xM8 hX
  have hz := fun t ht => (hK.2 t ht).1
  have hz9 := hX.2.1.1
  rcases in_or x1 m (by omega) with ho | ⟨j, hj, rfl⟩
  · exact sX_oHas (xM hX) h8 (fun _ => rb_f rfl (hG _ (sM_isOrder (mM hM) h8 (fun _ => rb_f rfl (k _ _ μX μM rfl hX hM (Fr_rf _ _) (Fr_rf _ _))) (fun j hj e => absurd e (ho j hj))))) (fun j hj e => absurd e (ho j hj))
  have i1 := in9 (show j < 8 by omega) (show 8 < 1000000 by omega)
  have hcj := cl9 (show j < 1000000 by omega)
  have ev14 := RO_val (nd := μX 14) (nd' := μM 4) h9 hM hO hj (fun w hw => (hK.1 w hw).1)
  have ev15 := RO_val (nd := μX 15) (nd' := μM 5) h9 hM hO hj (fun w hw => (hK.1 w hw).2)
  refine sX_oHas (xM hX) h8 (fun q => absurd rfl (q j hj)) (fun _ _ _ => rb_t n10 ?_)
  rw [hcj]
  refine ⟨i1, eX_meas hX hj (fun μ1 hf1 h1 hMS => ?_)⟩
  obtain ⟨g0, g1, g2, g3⟩ := hMS
  have look : ∀ post2 : Mem → Prop, (∀ μ2, Fr (fun q => q = 13) μM μ2 → IM n m μ2 → RWn n 13 μ2 → (∀ i, i < n → μ2 13 i = μX (25 + j) i) → post2 μ2) → T_X12_lookAt (nI j) μM post2 := fun post2 hq => sM_look hM hj (fun μ2 hf2 h2 hr he => hq μ2 hf2 h2 hr (RO_13 hO hj he))
  have fin : ∀ r r2 μ2, Fr (fun q => q = 13) μM μ2 → IM n m μ2 → r = r2 → Q r r2 μ1 μ2 := fun r r2 μ2 hf2 h2 e => k r r2 μ1 μ2 e h1 h2 hf1 hf2
  have zz : ∀ μ2, Fr (fun q => q = 13) μM μ2 → ∀ t, t < 10 → μ2 6 t = nI (z1 t) := fun μ2 hf2 t ht => by rw [hf2 6 (by omega)]; exact hz t ht
  have nn : ∀ {a b : Int32} {T : Prop}, a = b → ¬ a = b → T := fun e q => absurd e q
  refine ⟨fun q => ⟨i1, hG _ ?_⟩, fun q => hG _ ?_, fun q => hG _ ?_, fun q => ?_, fun q0 q1 q2 q3 => ?_⟩
  · subst q
    refine sM_isOrder (mM hM) h8 (fun q => absurd rfl (q j hj)) (fun _ _ _ => rb_t n10 (look _ (fun μ2 hf2 h2 hr er => ⟨fun _ => ⟨i1, fin _ _ μ2 hf2 h2 ?_⟩, fun e => absurd e (by decide), fun e => absurd e (by decide), fun e => absurd e (by decide), fun e => absurd rfl e⟩)))
    obtain ⟨kd, -, e1, e2⟩ := (hO j hj).1
    rw [hcj, hf1 24 (by unfold sG; omega), hf2 11 (by omega), e1, e2]
  · subst q
    refine sM_isOrder (mM hM) h8 (fun q => absurd rfl (q j hj)) (fun _ _ _ => rb_t n10 (look _ (fun μ2 hf2 h2 hr er => ⟨fun e => absurd e (by decide), fun _ => eM_most h2.1 (zz μ2 hf2) hz9 rfl hr (fin _ _ μ2 hf2 h2 ?_), fun e => absurd e (by decide), fun e => absurd e (by decide), fun _ e => absurd rfl e⟩)))
    rw [g1, hf2 4 (by omega), moN_cong (fun i hi => (er i hi).symm) ev14]
  · subst q
    refine sM_isOrder (mM hM) h8 (fun q => absurd rfl (q j hj)) (fun _ _ _ => rb_t n10 (look _ (fun μ2 hf2 h2 hr er => ⟨fun e => absurd e (by decide), fun e => absurd e (by decide), fun _ => eM_long h2.1 (zz μ2 hf2) rfl hr (fin _ _ μ2 hf2 h2 ?_), fun e => absurd e (by decide), fun _ _ e => absurd rfl e⟩)))
    rw [g2, hf2 4 (by omega), loN_cong (fun i hi => (er i hi).symm) ev14]
  · subst q
    have goM : ∀ r : Int32, ((LWk (μX 15) (μX (25 + j)) n → r = 1) ∧ (¬ LWk (μX 15) (μX (25 + j)) n → r = 0)) → G (T_X12_ofOrder (nI j) 3 μM (fun r2 μ2 => Q r r2 μ1 μ2)) := fun r hr0 => hG _ (sM_isOrder (mM hM) h8 (fun q => absurd rfl (q j hj)) (fun _ _ _ => rb_t n10 (look _ (fun μ2 hf2 h2 hr er => ⟨fun e => absurd e (by decide), fun e => absurd e (by decide), fun e => absurd e (by decide), fun _ => eM_lawful h2.1 rfl hr (fun nl => br_t rfl (fin _ _ μ2 hf2 h2 (hr0.2 (fun l => nl (by
        rw [hf2 5 (by omega)]
        exact LWk_cong (fun i hi => (er i hi).symm) ev15 l))))) (fun l => br_f n10 (fin _ _ μ2 hf2 h2 (hr0.1 (by
        rw [hf2 5 (by omega)] at l
        exact LWk_cong er (fun i hi => by rw [er i hi]; exact (ev15 i hi).symm) l)))), fun _ _ _ e => absurd rfl e⟩))))
    rcases g3 with ⟨e, l⟩ | ⟨e, l⟩
    · exact br_f (by rw [e]; decide) (goM 1 ⟨fun _ => rfl, fun nl => absurd l nl⟩)
    · exact br_t e (goM 0 ⟨fun l2 => absurd l2 l, fun _ => rfl⟩)
  · have rest : ∀ post2 : Int32 → Mem → Prop, (∀ μ2, Fr (fun q => q = 13) μM μ2 → IM n m μ2 → RWn n 13 μ2 → (∀ i, i < n → μ2 13 i = μX (25 + j) i) → ((x2 < 10 → post2 (-2) μ2) ∧ (¬ x2 < 10 → ((38 < x2 → post2 (-2) μ2) ∧ (¬ 38 < x2 → (((x2 - x2 / 10 * 10) < (μ2 0 5) → ((20 ≤ x2 → ((30 ≤ x2 → T_X12_openAt 13 (x2 - x2 / 10 * 10) μ2 (fun (u13 : Int32) (μ14 : Mem) => T_X12_sizeOf u13 μ14 (fun (u15 : Int32) (μ16 : Mem) => post2 u15 μ16))) ∧ (¬ 30 ≤ x2 → T_X12_openAt 13 (x2 - x2 / 10 * 10) μ2 (fun (u17 : Int32) (μ18 : Mem) => post2 u17 μ18)))) ∧ (¬ 20 ≤ x2 → vp_in (x2 - x2 / 10 * 10) 9 ∧ post2 (μ2 13 (x2 - x2 / 10 * 10).toNatClampNeg) μ2))) ∧ (¬ (x2 - x2 / 10 * 10) < (μ2 0 5) → post2 (-2) μ2))))))) → T_X12_ofOrder (nI j) x2 μM post2 := fun post2 hq => sM_isOrder (mM hM) h8 (fun q => absurd rfl (q j hj)) (fun _ _ _ => rb_t n10 (look _ (fun μ2 hf2 h2 hr er => ⟨fun e => absurd e q0, fun e => absurd e q1, fun e => absurd e q2, fun e => absurd e q3, fun _ _ _ _ => hq μ2 hf2 h2 hr er⟩)))
    by_cases hneg : x2 < 0
    · have F : G (T_X12_ofOrder (nI j) x2 μM (fun r2 μ2 => Q (-2) r2 μ1 μ2)) := hG _ (rest _ (fun μ2 hf2 h2 hr er => br_t (Int32.lt_trans hneg (by decide)) (fin _ _ μ2 hf2 h2 rfl)))
      obtain ⟨d1, d2, d3⟩ := neg_div10 hneg
      exact ⟨fun _ => F, fun _ => ⟨fun _ => ⟨fun e => absurd e d1, fun e => absurd e d2, fun e => absurd e d3, fun _ _ _ => F⟩, fun _ => F⟩⟩
    · obtain ⟨p, hp, rfl⟩ := nI_of hneg
      have er0 : nI p - nI p / 10 * 10 = nI (p % 10) := pk_rem (d := 10) hp (by omega) (by omega)
      have ed0 : nI p / 10 = nI (p / 10) := pk_div (d := 10) hp (by omega) (by omega)
      have hm10 : p % 10 < 10 := Nat.mod_lt _ (by omega)
      have hdm := Nat.div_add_mod p 10
      have F : (p < 10 ∨ 38 < p ∨ n ≤ p % 10) → G (T_X12_ofOrder (nI j) (nI p) μM (fun r2 μ2 => Q (-2) r2 μ1 μ2)) := fun hc => hG _ (rest _ (fun μ2 hf2 h2 hr er => by
        rw [er0, h2.1.1]
        refine pk_lt p 10 (fun _ => fin _ _ μ2 hf2 h2 rfl) (fun c1 => pk_lt 38 p (fun _ => fin _ _ μ2 hf2 h2 rfl) (fun c2 => br_f (nI_nlt (by omega) (by omega)) (fin _ _ μ2 hf2 h2 rfl)))))
      unfold T_X11_atPlace
      rw [er0, ed0]
      refine br_f (nI_pos (by omega)) ?_
      rw [xW h1]
      refine pk_lt (p % 10) n (fun hlt => ?_) (fun hge => F (Or.inr (Or.inr hge)))
      have i2 := in9 (show p % 10 < 9 by omega) (show 9 < 1000000 by omega)
      have hcp := cl9 (show p % 10 < 1000000 by omega)
      rw [hcp, hcj]
      have L : ∀ r : Int32, (10 ≤ p ∧ p ≤ 38) → (∀ μ2, Fr (fun q => q = 13) μM μ2 → IM n m μ2 → RWn n 13 μ2 → (∀ i, i < n → μ2 13 i = μX (25 + j) i) → (((p < 20 → r = μ2 13 (p % 10)) ∧ (20 ≤ p → p < 30 → r = openF (μM 4) (μ2 13) n (p % 10)) ∧ (30 ≤ p → r = nI (sum10 z1 (openF (μM 4) (μ2 13) n (p % 10))))))) → G (T_X12_ofOrder (nI j) (nI p) μM (fun r2 μ2 => Q r r2 μ1 μ2)) := fun r hpp hr0 => hG _ (rest _ (fun μ2 hf2 h2 hr er => by
        obtain ⟨c1, c2, c3⟩ := hr0 μ2 hf2 h2 hr er
        have e4 : μ2 4 = μM 4 := hf2 4 (by omega)
        rw [er0, h2.1.1, hcp]
        refine br_f (nI_nlt (a := p) (b := 10) (by omega) (by omega)) (br_f (nI_nlt (a := 38) (b := p) (by omega) (by omega)) (br_t (nI_lt hlt (by omega)) (pk_le 20 p (fun a1 => pk_le 30 p (fun a2 => sM_openE h2.1 rfl hr (by omega) (sM_sizeE ?_)) (fun a2 => sM_openE h2.1 rfl hr (by omega) ?_)) (fun a1 => ⟨i2, fin _ _ μ2 hf2 h2 (c1 (by omega))⟩))))
        · rw [sizeF_sum (zz μ2 hf2), e4]
          exact fin _ _ μ2 hf2 h2 (c3 a2)
        · rw [e4]
          exact fin _ _ μ2 hf2 h2 (c2 a1 (by omega))))
      have eo : ∀ μ2 : Mem, (∀ i, i < n → μ2 13 i = μX (25 + j) i) → openF (μX 14) (μX (25 + j)) n (p % 10) = openF (μM 4) (μ2 13) n (p % 10) := fun μ2 er => openF_cg (fun i hi => (er i hi).symm) ev14 (p % 10)
      refine ⟨fun e => ⟨i1, i2, L _ ?_ (fun μ2 hf2 h2 hr er => ⟨fun _ => ?_, fun a => ?_, fun a => ?_⟩)⟩, fun e => ⟨i2, L _ ?_ (fun μ2 hf2 h2 hr er => ⟨fun a => ?_, fun _ _ => ?_, fun a => ?_⟩)⟩, fun e => ⟨i2, sX_sumE h1.2.1 (L _ ?_ (fun μ2 hf2 h2 hr er => ⟨fun a => ?_, fun a b => ?_, fun _ => ?_⟩))⟩, fun d1 d2 d3 => F ?_⟩
      · have e := (nI_eq (b := 1) (by omega) (by omega)).mp e; omega
      · rw [er _ hlt, hf1 (25 + j) (by unfold sG; omega)]
      · have e := (nI_eq (b := 1) (by omega) (by omega)).mp e; omega
      · have e := (nI_eq (b := 1) (by omega) (by omega)).mp e; omega
      · have e := (nI_eq (b := 2) (by omega) (by omega)).mp e; omega
      · have e := (nI_eq (b := 2) (by omega) (by omega)).mp e; omega
      · rw [g0 _ hlt]; exact eo μ2 er
      · have e := (nI_eq (b := 2) (by omega) (by omega)).mp e; omega
      · have e := (nI_eq (b := 3) (by omega) (by omega)).mp e; omega
      · have e := (nI_eq (b := 3) (by omega) (by omega)).mp e; omega
      · have e := (nI_eq (b := 3) (by omega) (by omega)).mp e; omega
      · rw [g0 _ hlt, eo μ2 er]
      · have c1 : p / 10 ≠ 1 := fun e => d1 (by rw [e]; rfl)
        have c2 : p / 10 ≠ 2 := fun e => d2 (by rw [e]; rfl)
        have c3 : p / 10 ≠ 3 := fun e => d3 (by rw [e]; rfl)
        omega
theorem eM_better25 {n m j : Nat} {μ : Mem} {post : Int32 → Mem → Prop} (h : IM n m μ) (hj : j < m) (k : ∀ μ', Fr (fun q => q = 18) μ μ' → IM n m μ' → (∀ i, i < n → μ' 18 i = μ 12 (9 * j + i)) → T_X12_isBetter 13 18 μ' (fun (u1 : Int32) (μ2 : Mem) => ((u1 = 0 → post 0 μ2) ∧ (¬ u1 = 0 → post 1 μ2)))) : T_X12_better_25 post (nI j) 0 μ := by
  have h9 := mN h
  have h8 := mM8 h
  intro P hP
  have H : ∀ i, i ≤ n → ∀ μ1, Fr (fun q => q = 18) μ μ1 → (∀ q, q < i → μ1 18 q = μ 12 (9 * j + q)) → P (nI j) (nI i) μ1 := by
    refine down_ind (fun μ1 hf hr => ?_) (fun i hi ih μ1 hf hr => ?_)
    · exact hP _ _ _ (br_t (by rw [hf 0 (by omega), h.1.1]; exact nI_self_le n) (k μ1 hf (IM_free h (Fr_mono hf (fun q hq => by unfold freM; omega))) hr))
    · refine hP _ _ _ (br_f (by rw [hf 0 (by omega), h.1.1]; exact nI_ge hi (by omega)) ?_)
      rw [nine_mul, nI_1, cl9 (show i < 1000000 by omega), cl9 (show 9 * j + i < 1000000 by omega), hf 12 (by omega)]
      refine ⟨in9 (by omega) (by omega), in9 (by omega) (by omega), ih _ (Fr_p hf rfl) (fun q hq => ?_)⟩
      rw [m2]
      by_cases e : q = i
      · subst e; rw [pk_us]
      · rw [pk_un e]; exact hr q (by omega)
  exact H 0 (Nat.zero_le _) μ (Fr_rf _ _) (fun q hq => absurd hq (by omega))
theorem tw_better {n m : Nat} {z1 z2 : Nat → Nat} {μX μM : Mem} {x1 x2 : Int32} {G : Prop → Prop} {Q : Int32 → Int32 → Mem → Mem → Prop} (hG : ∀ T, T → G T) (hX : IX n m z1 z2 μX) (hM : IM n m μM) (hK : RK n z1 z2 μX μM) (hO : RO n m μX μM) (k : ∀ r r2 μ1 μ2, r = r2 → IX n m z1 z2 μ1 → IM n m μ2 → Fr sG μX μ1 → Fr s1318 μM μ2 → Q r r2 μ1 μ2) : T_X11_better x1 x2 μX (fun r μ1 => G (T_X12_better x1 x2 μM (fun r2 μ2 => Q r r2 μ1 μ2))) := by
  have h9 := xN hX
  have h8 := xM8 hX
  have hz := fun t ht => (hK.2 t ht).1
  have hz9 := hX.2.1.1
  have k1 : ∀ r, Q r r μX μM := fun r => k _ _ μX μM rfl hX hM (Fr_rf _ _) (Fr_rf _ _)
  rcases in_or x1 m (by omega) with ho | ⟨i, hi, rfl⟩
  · exact sX_oHas (xM hX) h8 (fun _ => br_t rfl (hG _ (sM_isOrder (mM hM) h8 (fun _ => br_t rfl (k1 _)) (fun j hj e => absurd e (ho j hj))))) (fun j hj e => absurd e (ho j hj))
  refine sX_oHas (xM hX) h8 (fun q => absurd rfl (q i hi)) (fun _ _ _ => br_f n10 ?_)
  rcases in_or x2 m (by omega) with ho | ⟨j, hj, rfl⟩
  · exact sX_oHas (xM hX) h8 (fun _ => rb_f rfl (hG _ (sM_isOrder (mM hM) h8 (fun q => absurd rfl (q i hi)) (fun _ _ _ => br_f n10 (sM_isOrder (mM hM) h8 (fun _ => rb_f rfl (k1 _)) (fun j hj e => absurd e (ho j hj))))))) (fun j hj e => absurd e (ho j hj))
  have i1 := in9 (show i < 8 by omega) (show 8 < 1000000 by omega)
  have i2 := in9 (show j < 8 by omega) (show 8 < 1000000 by omega)
  refine sX_oHas (xM hX) h8 (fun q => absurd rfl (q j hj)) (fun _ _ _ => rb_t n10 ?_)
  rw [cl9 (show i < 1000000 by omega), cl9 (show j < 1000000 by omega)]
  refine ⟨i2, eX_meas hX hj (fun μ1 hf1 h1 hMS1 => ⟨i1, eX_meas h1 hi (fun μ2 hf2 h2 hMS2 => ⟨i1, i2, ?_⟩)⟩)⟩
  obtain ⟨-, a1, a2, -⟩ := hMS1
  obtain ⟨-, b1, b2, -⟩ := hMS2
  rw [hf1 14 (by unfold sG; omega), hf1 (25 + i) (by unfold sG; omega)] at b1 b2
  rw [a1, a2]
  have l1 := moN_le (nd := μX 14) (row := μX (25 + i)) (n := n) hz9
  have l2 := moN_le (nd := μX 14) (row := μX (25 + j)) (n := n) hz9
  have l3 := loN_le (nd := μX 14) (row := μX (25 + i)) (n := n) h9 hz9
  have l4 := loN_le (nd := μX 14) (row := μX (25 + j)) (n := n) h9 hz9
  have f2 := Fr_tr hf1 hf2
  have r1 : μ2 (25 + i) = μX (25 + i) := f2 (25 + i) (by unfold sG; omega)
  have r2 : μ2 (25 + j) = μX (25 + j) := f2 (25 + j) (by unfold sG; omega)
  have evi := RO_val (nd := μX 14) (nd' := μM 4) h9 hM hO hi (fun w hw => (hK.1 w hw).1)
  have evj := RO_val (nd := μX 14) (nd' := μM 4) h9 hM hO hj (fun w hw => (hK.1 w hw).1)
  have goM : ∀ r : Int32, ((BET n (moN (μX 14) z1 (μX (25 + i)) n) (loN (μX 14) z1 (μX (25 + i)) n) (moN (μX 14) z1 (μX (25 + j)) n) (loN (μX 14) z1 (μX (25 + j)) n) (μX (25 + i)) (μX (25 + j)) → r = 1) ∧ (¬ BET n (moN (μX 14) z1 (μX (25 + i)) n) (loN (μX 14) z1 (μX (25 + i)) n) (moN (μX 14) z1 (μX (25 + j)) n) (loN (μX 14) z1 (μX (25 + j)) n) (μX (25 + i)) (μX (25 + j)) → r = 0)) → G (T_X12_better (nI i) (nI j) μM (fun r2 μ3 => Q r r2 μ2 μ3)) := fun r hr => by
    refine hG _ (sM_isOrder (mM hM) h8 (fun q => absurd rfl (q i hi)) (fun _ _ _ => br_f n10 (sM_isOrder (mM hM) h8 (fun q => absurd rfl (q j hj)) (fun _ _ _ => rb_t n10 (sM_look hM hi (fun μ3 hf3 h3 hrw he => eM_better25 h3 hj (fun μ4 hf4 h4 he4 => ?_)))))))
    have e13 : ∀ q, q < n → μ4 13 q = μX (25 + i) q := fun q hq => by rw [hf4 13 (by omega)]; exact RO_13 hO hi he q hq
    have e18 : ∀ q, q < n → μ4 18 q = μX (25 + j) q := fun q hq => by rw [he4 q hq, hf3 12 (by omega)]; exact ((hO j hj).2.1 q hq).symm
    have e4 : μ4 4 = μM 4 := by rw [hf4 4 (by omega), hf3 4 (by omega)]
    have w13 : RWn n 13 μ4 := fun q hq => by rw [hf4 13 (by omega)]; exact hrw q hq
    have w18 : RWn n 18 μ4 := fun q hq => by rw [he4 q hq]; exact h3.2.2.2.2.2.2.2.2 j hj q hq
    have fM : Fr s1318 μM μ4 := Fr_tr (Fr_mono hf3 (fun q hq => Or.inl hq)) (Fr_mono hf4 (fun q hq => Or.inr hq))
    have m1 : moN (μ4 4) z1 (μ4 13) n = moN (μX 14) z1 (μX (25 + i)) n := by rw [e4]; exact (moN_cong (fun q hq => (e13 q hq).symm) evi).symm
    have m2' : loN (μ4 4) z1 (μ4 13) n = loN (μX 14) z1 (μX (25 + i)) n := by rw [e4]; exact (loN_cong (fun q hq => (e13 q hq).symm) evi).symm
    have m3 : moN (μ4 4) z1 (μ4 18) n = moN (μX 14) z1 (μX (25 + j)) n := by rw [e4]; exact (moN_cong (fun q hq => (e18 q hq).symm) evj).symm
    have m4 : loN (μ4 4) z1 (μ4 18) n = loN (μX 14) z1 (μX (25 + j)) n := by rw [e4]; exact (loN_cong (fun q hq => (e18 q hq).symm) evj).symm
    refine eM_isBetter h4.1 (fun t ht => by rw [hf4 6 (by omega), hf3 6 (by omega)]; exact hz t ht) hz9 rfl rfl w13 w18 (fun nb => br_t rfl (k _ _ μ2 μ4 (hr.2 (fun b => nb ?_)) h2 h4 f2 fM)) (fun b => br_f n10 (k _ _ μ2 μ4 (hr.1 ?_) h2 h4 f2 fM))
    · rw [m1, m2', m3, m4]; exact BET_cong (fun q hq => (e13 q hq).symm) (fun q hq => (e18 q hq).symm) b
    · rw [m1, m2', m3, m4] at b; exact BET_cong e13 e18 b
  refine eX_beats h2.1 (shXr (by omega)) (shXr (by omega)) b1 b2 (by omega) (by omega) (by omega) (by omega) (fun nb => br_t rfl (goM 0 ⟨fun b => absurd ?_ nb, fun _ => rfl⟩)) (fun b => br_f n10 (goM 1 ⟨fun _ => rfl, fun nb => absurd ?_ nb⟩))
  · rw [r1, r2]; exact b
  · rw [r1, r2] at b; exact b
theorem IX_0s {n m s : Nat} {z1 z2 : Nat → Nat} {v : Int32} {μ : Mem} (h : IX n m z1 z2 μ) : IX n m z1 z2 (mset μ 0 s v) := IX_q h fre0
def sTX : Nat → Prop := fun q => q = 0 ∨ q = 33 ∨ q = 34
def sTM2 : Nat → Prop := fun q => q = 0 ∨ q = 13
theorem eX_tellRow {n m j : Nat} {z1 z2 : Nat → Nat} {μ : Mem} {post : Int32 → Mem → Prop} (h : IX n m z1 z2 μ) (hj : j < m) (k : ∀ μ', Fr sTX μ μ' → IX n m z1 z2 μ' → (∀ s, s ≠ 12 → μ' 0 s = μ 0 s) → μ' 0 12 = μ 0 12 * 31 + 1 → post (nI (moN (μ 14) z1 (μ (25 + j)) n)) μ') : T_X11_tellRow (nI j) μ post := by
  have h8 := xM8 h
  have i1 := in9 (show j < 8 by omega) (show 8 < 1000000 by omega)
  have f1 : Fr (fun q => q = 0) μ (mset μ 0 12 (((μ 0 12) * 31) + 1)) := Fr_put _ _ rfl
  have h1 : IX n m z1 z2 (mset μ 0 12 (((μ 0 12) * 31) + 1)) := IX_0s h
  have e1 : ∀ s, s ≠ 12 → (mset μ 0 12 (((μ 0 12) * 31) + 1)) 0 s = μ 0 s := fun s hs => by rw [m2, pk_un hs]
  have e2 : (mset μ 0 12 (((μ 0 12) * 31) + 1)) 0 12 = μ 0 12 * 31 + 1 := by rw [m2, pk_us]
  unfold T_X11_tellRow T_X11_leave
  generalize mset μ 0 12 (((μ 0 12) * 31) + 1) = μ1 at f1 h1 e1 e2 ⊢
  rw [cl9 (show j < 1000000 by omega)]
  refine ⟨i1, eX_meas h1 hj (fun μ2 hf2 h2 hMS => ?_)⟩
  obtain ⟨-, g1, -, -⟩ := hMS
  rw [g1, f1 14 (by omega), f1 (25 + j) (by omega)]
  have e0 : μ2 0 = μ1 0 := hf2 0 (by unfold sG; omega)
  exact k μ2 (Fr_tr (Fr_mono f1 (fun q hq => by unfold sTX; omega)) (Fr_mono hf2 (fun q hq => by unfold sG at hq; unfold sTX; omega))) h2 (fun s hs => by rw [e0]; exact e1 s hs) (by rw [e0]; exact e2)
theorem tw_tell {n m : Nat} {z1 z2 : Nat → Nat} {μX μM : Mem} {x1 : Int32} {G : Prop → Prop} {Q : Int32 → Int32 → Mem → Mem → Prop} (hG : ∀ T, T → G T) (hX : IX n m z1 z2 μX) (hM : IM n m μM) (hK : RK n z1 z2 μX μM) (hO : RO n m μX μM) (hT : RT μX μM) (k : ∀ r r2 μ1 μ2, r = r2 → IX n m z1 z2 μ1 → IM n m μ2 → RT μ1 μ2 → μ1 0 13 = μX 0 13 → μ2 0 0 = μM 0 0 → Fr sTX μX μ1 → Fr sTM2 μM μ2 → Q r r2 μ1 μ2) : T_X11_tell x1 μX (fun r μ1 => G (T_X12_tell x1 μM (fun r2 μ2 => Q r r2 μ1 μ2))) := by
  have h9 := xN hX
  have h8 := xM8 hX
  have hz := fun t ht => (hK.2 t ht).1
  have hz9 := hX.2.1.1
  have hT : μX 0 12 = μM 0 1 := hT
  rcases in_or x1 m (by omega) with ho | ⟨j, hj, rfl⟩
  · exact sX_oHas (xM hX) h8 (fun _ => rb_f rfl (hG _ (sM_isOrder (mM hM) h8 (fun _ => rb_f rfl (k _ _ μX μM rfl hX hM hT rfl rfl (Fr_rf _ _) (Fr_rf _ _))) (fun j hj e => absurd e (ho j hj))))) (fun j hj e => absurd e (ho j hj))
  have i1 := in9 (show j < 8 by omega) (show 8 < 1000000 by omega)
  have hcj := cl9 (show j < 1000000 by omega)
  obtain ⟨kd, hkd, c1, c2⟩ := (hO j hj).1
  have ev14 := RO_val (nd := μX 14) (nd' := μM 4) h9 hM hO hj (fun w hw => (hK.1 w hw).1)
  have lM := moN_le (nd := μX 14) (row := μX (25 + j)) (n := n) hz9
  generalize hMo : moN (μX 14) z1 (μX (25 + j)) n = M at lM
  -- the reference, up to the bodies
  have goM : ∀ post2 : Int32 → Mem → Prop, (∀ μ2, Fr (fun q => q = 13) μM μ2 → IM n m μ2 → ((nI kd = 1 → T_X12_begins 2 μ2 (fun (μ10 : Mem) => T_X12_begins 1 μ10 (fun (μ12 : Mem) => post2 (nI M + 1000) μ12))) ∧ (nI kd = 2 → T_X12_begins 3 μ2 (fun (μ14 : Mem) => T_X12_begins 2 μ14 (fun (μ16 : Mem) => T_X12_begins 1 μ16 (fun (μ18 : Mem) => T_X12_begins 1 μ18 (fun (μ20 : Mem) => post2 ((2 * nI M) + 1000) μ20))))) ∧ (¬ nI kd = 1 → ¬ nI kd = 2 → T_X12_begins 1 μ2 (fun (μ22 : Mem) => post2 (nI M) μ22)))) → T_X12_tell (nI j) μM post2 := fun post2 hq => by
    refine sM_isOrder (mM hM) h8 (fun q => absurd rfl (q j hj)) (fun _ _ _ => rb_t n10 (sM_look hM hj (fun μ2 hf2 h2 hr he => eM_most h2.1 (fun t ht => by rw [hf2 6 (by omega)]; exact hz t ht) hz9 rfl hr ⟨i1, ?_⟩)))
    have eM : moN (μ2 4) z1 (μ2 13) n = M := by
      rw [← hMo, hf2 4 (by omega)]
      exact (moN_cong (fun i hi => (RO_13 hO hj he i hi).symm) ev14).symm
    rw [eM, hcj, hf2 11 (by omega), c2]
    exact hq μ2 hf2 h2
  have mc : ∀ x : Int32, x * 31 = 31 * x := fun x => Int32.mul_comm x 31
  refine sX_oHas (xM hX) h8 (fun q => absurd rfl (q j hj)) (fun _ _ _ => rb_t n10 ⟨i1, ?_⟩)
  rw [hcj, c1]
  have k12 : kd = 0 ∨ kd = 1 ∨ kd = 2 := by omega
  have M0 : ∀ {μ2 : Mem}, Fr (fun q => q = 13) μM μ2 → ∀ s, μ2 0 s = μM 0 s := fun hf2 s => by rw [hf2 0 (by omega)]
  refine ⟨fun q => ?_, fun q => ?_, fun q1 q2 => ?_⟩
  · -- BEFORE
    have f1 : Fr sTX μX (mset μX 0 12 (((μX 0 12) * 31) + 2)) := Fr_put _ _ (Or.inl rfl)
    have hX1 : IX n m z1 z2 (mset μX 0 12 (((μX 0 12) * 31) + 2)) := IX_0s hX
    unfold T_X11_tellBefore T_X11_leave
    refine eX_tellRow hX1 hj (fun μ1 g1 h1 s1 t1 => hG _ (goM _ (fun μ2 hf2 h2 => ⟨fun _ => ?_, fun e => absurd (q.symm.trans e) (by decide), fun e => absurd q e⟩)))
    have e14 : (mset μX 0 12 (((μX 0 12) * 31) + 2)) 14 = μX 14 := mput_o (by decide)
    have e25 : (mset μX 0 12 (((μX 0 12) * 31) + 2)) (25 + j) = μX (25 + j) := mput_o (by omega)
    rw [e14, e25, hMo]
    refine k _ _ μ1 _ rfl h1 (IM_0 (IM_0 h2 (by decide) (by decide)) (by decide) (by decide)) ?_ ?_ ?_ (Fr_tr f1 g1) (Fr_p (Fr_p (Fr_mono hf2 (fun q hq => Or.inr hq)) (Or.inl rfl)) (Or.inl rfl))
    · unfold RT
      rw [t1, m2, pk_us, m2, pk_us, m2, pk_us, M0 hf2, hT, mc, mc]
    · rw [s1 13 (by decide), m2, pk_un (by decide)]
    · rw [m2, pk_un (by decide), m2, pk_un (by decide), M0 hf2]
  · -- AGAIN
    have f1 : Fr sTX μX (mset μX 0 12 (((μX 0 12) * 31) + 3)) := Fr_put _ _ (Or.inl rfl)
    have hX1 : IX n m z1 z2 (mset μX 0 12 (((μX 0 12) * 31) + 3)) := IX_0s hX
    have e3 : (mset μX 0 12 (((μX 0 12) * 31) + 3)) 0 12 = μX 0 12 * 31 + 3 := by rw [m2, pk_us]
    have e3' : (mset μX 0 12 (((μX 0 12) * 31) + 3)) 0 13 = μX 0 13 := by rw [m2, pk_un (by decide)]
    have e14 : (mset μX 0 12 (((μX 0 12) * 31) + 3)) 14 = μX 14 := mput_o (by decide)
    have e25 : (mset μX 0 12 (((μX 0 12) * 31) + 3)) (25 + j) = μX (25 + j) := mput_o (by omega)
    unfold T_X11_tellAgain T_X11_leave
    generalize mset μX 0 12 (((μX 0 12) * 31) + 3) = μa at f1 hX1 e3 e3' e14 e25 ⊢
    have f2 : Fr sTX μX (mset μa 0 12 (((μa 0 12) * 31) + 2)) := Fr_p f1 (Or.inl rfl)
    have hX2 : IX n m z1 z2 (mset μa 0 12 (((μa 0 12) * 31) + 2)) := IX_0s hX1
    have g3 : (mset μa 0 12 (((μa 0 12) * 31) + 2)) 0 12 = (μX 0 12 * 31 + 3) * 31 + 2 := by rw [m2, pk_us, e3]
    have g3' : (mset μa 0 12 (((μa 0 12) * 31) + 2)) 0 13 = μX 0 13 := by rw [m2, pk_un (by decide)]; exact e3'
    have g14 : (mset μa 0 12 (((μa 0 12) * 31) + 2)) 14 = μX 14 := by
      have : (mset μa 0 12 (((μa 0 12) * 31) + 2)) 14 = μa 14 := mput_o (by decide)
      rw [this]; exact e14
    have g25 : (mset μa 0 12 (((μa 0 12) * 31) + 2)) (25 + j) = μX (25 + j) := by
      have : (mset μa 0 12 (((μa 0 12) * 31) + 2)) (25 + j) = μa (25 + j) := mput_o (by omega)
      rw [this]; exact e25
    unfold T_X11_tellBefore T_X11_leave
    refine eX_tellRow hX2 hj (fun μ1 f3 h1 s1 t1 => eX_tellRow h1 hj (fun μ3 f4 h3 s3 t3 => hG _ (goM _ (fun μ2 hf2 h2 => ⟨fun e => absurd (q.symm.trans e) (by decide), fun _ => ?_, fun _ e => absurd q e⟩))))
    rw [f3 14 (by unfold sTX; omega), f3 (25 + j) (by unfold sTX; omega), g14, g25, hMo]
    refine k _ _ μ3 _ ?_ h3 (IM_0 (IM_0 (IM_0 (IM_0 h2 (by decide) (by decide)) (by decide) (by decide)) (by decide) (by decide)) (by decide) (by decide)) ?_ ?_ ?_ (Fr_tr (Fr_tr f2 f3) f4) (Fr_p (Fr_p (Fr_p (Fr_p (Fr_mono hf2 (fun q hq => Or.inr hq)) (Or.inl rfl)) (Or.inl rfl)) (Or.inl rfl)) (Or.inl rfl))
    · rw [show (1000 : Int32) = nI 1000 from rfl, show (2 : Int32) = nI 2 from rfl, nI_add, nI_add, pk_mul, nI_add]
      congr 1
      omega
    · unfold RT
      rw [t3, t1, g3, m2, pk_us, m2, pk_us, m2, pk_us, m2, pk_us, M0 hf2, hT, mc, mc, mc, mc]
    · rw [s3 13 (by decide), s1 13 (by decide)]; exact g3'
    · rw [m2, pk_un (by decide), m2, pk_un (by decide), m2, pk_un (by decide), m2, pk_un (by decide), M0 hf2]
  · refine eX_tellRow hX hj (fun μ1 g1 h1 s1 t1 => hG _ (goM _ (fun μ2 hf2 h2 => ⟨fun e => absurd e q1, fun e => absurd e q2, fun _ _ => ?_⟩)))
    rw [hMo]
    refine k _ _ μ1 _ rfl h1 (IM_0 h2 (by decide) (by decide)) ?_ (s1 13 (by decide)) ?_ g1 (Fr_p (Fr_mono hf2 (fun q hq => Or.inr hq)) (Or.inl rfl))
    · unfold RT
      rw [t1, m2, pk_us, M0 hf2, hT, mc]
    · rw [m2, pk_un (by decide), M0 hf2]
theorem tw_show {n m : Nat} {z1 z2 : Nat → Nat} {μX μM : Mem} {x1 : Int32} {G : Prop → Prop} {Q : Int32 → Int32 → Mem → Mem → Prop} (hG : ∀ T, T → G T) (hX : IX n m z1 z2 μX) (hM : IM n m μM) (hO : RO n m μX μM) (hT : RT μX μM) (k : ∀ r r2 μ1 μ2, r = r2 → IX n m z1 z2 μ1 → IM n m μ2 → RT μ1 μ2 → μ1 0 13 = μX 0 13 → μ2 0 0 = μM 0 0 → Fr sTX μX μ1 → Fr sTM2 μM μ2 → Q r r2 μ1 μ2) : T_X11_show x1 μX (fun r μ1 => G (T_X12_show x1 μM (fun r2 μ2 => Q r r2 μ1 μ2))) := by
  have h8 := xM8 hX
  have hT : μX 0 12 = μM 0 1 := hT
  rcases in_or x1 m (by omega) with ho | ⟨j, hj, rfl⟩
  · exact sX_oHas (xM hX) h8 (fun _ => rb_f rfl (hG _ (sM_isOrder (mM hM) h8 (fun _ => rb_f rfl (k _ _ μX μM rfl hX hM hT rfl rfl (Fr_rf _ _) (Fr_rf _ _))) (fun j hj e => absurd e (ho j hj))))) (fun j hj e => absurd e (ho j hj))
  have i1 := in9 (show j < 8 by omega) (show 8 < 1000000 by omega)
  have hcj := cl9 (show j < 1000000 by omega)
  obtain ⟨kd, hkd, c1, c2⟩ := (hO j hj).1
  have mc : ∀ x : Int32, x * 31 = 31 * x := fun x => Int32.mul_comm x 31
  have fin : ∀ (b r : Int32), Q r r (mset μX 0 12 (((μX 0 12) * 31) + b)) (mset μM 0 1 ((31 * (μM 0 1)) + b)) := fun b r => k r r _ _ rfl (IX_0s hX) (IM_0 hM (by decide) (by decide)) (by unfold RT; rw [m2, m2, pk_us, pk_us, hT, mc]) (by rw [m2, pk_un (by decide)]) (by rw [m2, pk_un (by decide)]) (Fr_put _ _ (Or.inl rfl)) (Fr_put _ _ (Or.inl rfl))
  have e11 : ∀ b, (mset μM 0 1 ((31 * (μM 0 1)) + b)) 11 = μM 11 := fun b => mput_o (by decide)
  refine sX_oHas (xM hX) h8 (fun q => absurd rfl (q j hj)) (fun _ _ _ => rb_t n10 ⟨i1, ?_⟩)
  rw [hcj, c1]
  refine ⟨fun q => br_t rfl (br_t rfl (hG _ (sM_isOrder (mM hM) h8 (fun q => absurd rfl (q j hj)) (fun _ _ _ => rb_t n10 ⟨i1, ?_⟩)))), fun q => br_f n10 (br_f n10 (hG _ (sM_isOrder (mM hM) h8 (fun q => absurd rfl (q j hj)) (fun _ _ _ => rb_t n10 ⟨i1, ?_⟩))))⟩
  · rw [hcj, c2]
    refine rb_t q ⟨i1, ?_⟩
    rw [hcj, e11, c2]
    exact rb_t q (fin 4 _)
  · rw [hcj, c2]
    refine rb_f q ⟨i1, ?_⟩
    rw [hcj, e11, c2]
    exact rb_f q (fin 5 _)
theorem tw_as {n m : Nat} {z1 z2 : Nat → Nat} {μX μM : Mem} {x1 x2 : Int32} {G : Prop → Prop} {Q : Int32 → Int32 → Mem → Mem → Prop} (hG : ∀ T, T → G T) (hX : IX n m z1 z2 μX) (hM : IM n m μM) (hO : RO n m μX μM) (k : ∀ r r2 μ1 μ2, r = r2 → IX n m z1 z2 μ1 → IM n m μ2 → RF μ1 μ2 → μ1 0 12 = μX 0 12 → μ2 0 1 = μM 0 1 → Fr sTX μX μ1 → Fr sTM2 μM μ2 → Q r r2 μ1 μ2) : T_X11_as x1 x2 μX (fun r μ1 => G (T_X12_as x1 x2 μM (fun r2 μ2 => Q r r2 μ1 μ2))) := by
  have h8 := xM8 hX
  obtain ⟨μM1, eM1⟩ : ∃ μ, μ = mset μM 0 0 0 := ⟨_, rfl⟩
  have hX1 : IX n m z1 z2 (mset μX 0 13 0) := IX_0s hX
  have hM1 : IM n m μM1 := by rw [eM1]; exact IM_0 hM (by decide) (by decide)
  have gX : Fr sTX μX (mset μX 0 13 0) := Fr_put _ _ (Or.inl rfl)
  have gM : Fr sTM2 μM μM1 := by rw [eM1]; exact Fr_put _ _ (Or.inl rfl)
  have tX : (mset μX 0 13 0) 0 12 = μX 0 12 := by rw [m2, pk_un (by decide)]
  have tM : μM1 0 1 = μM 0 1 := by rw [eM1, m2, pk_un (by decide)]
  have fX : (mset μX 0 13 0) 0 13 = 0 := by rw [m2, pk_us]
  have fM : μM1 0 0 = 0 := by rw [eM1, m2, pk_us]
  have k24 : (mset μX 0 13 0) 24 = μX 24 := mput_o (by decide)
  have k11 : μM1 11 = μM 11 := by rw [eM1]; exact mput_o (by decide)
  unfold T_X11_as
  generalize mset μX 0 13 0 = μX1 at hX1 gX tX fX k24 ⊢
  have k0 : ∀ r, Q r r μX1 μM1 := fun r => k r r _ _ rfl hX1 hM1 (fX.trans fM.symm) tX tM gX gM
  have un : ∀ post2, (T_X12_isOrder x1 μM1 (fun (u1 : Int32) (μ2 : Mem) => ((¬ u1 = 0 → T_X12_isIn x2 0 2 μ2 (fun (u3 : Int32) (μ4 : Mem) => ((¬ u3 = 0 → vp_in x1 8 ∧ (((μ4 11 x1.toNatClampNeg) < x2 → T_X12_fails 2 μ4 (fun (u6 : Int32) (μ7 : Mem) => post2 u6 μ7)) ∧ (¬ (μ4 11 x1.toNatClampNeg) < x2 → post2 1 μ4))) ∧ (u3 = 0 → post2 (-2) μ4)))) ∧ (u1 = 0 → post2 (-1) μ2)))) → T_X12_as x1 x2 μM post2 := fun post2 hq => by
    unfold T_X12_as
    rw [← eM1]
    exact hq
  rcases in_or x1 m (by omega) with ho | ⟨j, hj, rfl⟩
  · exact sX_oHas (xM hX1) h8 (fun _ => rb_f rfl (hG _ (un _ (sM_isOrder (mM hM1) h8 (fun _ => rb_f rfl (k0 _)) (fun j hj e => absurd e (ho j hj)))))) (fun j hj e => absurd e (ho j hj))
  have i1 := in9 (show j < 8 by omega) (show 8 < 1000000 by omega)
  have hcj := cl9 (show j < 1000000 by omega)
  obtain ⟨kd, hkd, c1, c2⟩ := (hO j hj).1
  refine sX_oHas (xM hX1) h8 (fun q => absurd rfl (q j hj)) (fun _ _ _ => rb_t n10 ?_)
  rcases in_or x2 3 (by omega) with ho | ⟨y, hy, rfl⟩
  · exact sX_isKind (fun _ => rb_f rfl (hG _ (un _ (sM_isOrder (mM hM1) h8 (fun q => absurd rfl (q j hj)) (fun _ _ _ => rb_t n10 (sM_in0 (L := 2) (by omega) (fun _ => rb_f rfl (k0 _)) (fun j hj e => absurd e (ho j hj)))))))) (fun j hj e => absurd e (ho j hj))
  refine sX_isKind (fun q => absurd rfl (q y hy)) (fun _ _ _ => rb_t n10 ⟨i1, ?_⟩)
  rw [hcj, k24, c1]
  have goM : ∀ post2, ((nI kd < nI y → post2 (-12) (mset μM1 0 0 2)) ∧ (¬ nI kd < nI y → post2 1 μM1)) → T_X12_as (nI j) (nI y) μM post2 := fun post2 hq => un _ (sM_isOrder (mM hM1) h8 (fun q => absurd rfl (q j hj)) (fun _ _ _ => rb_t n10 (sM_in0 (L := 2) (by omega) (fun q => absurd rfl (q y hy)) (fun _ _ _ => rb_t n10 ⟨i1, by
    rw [hcj, k11, c2]
    exact hq⟩))))
  refine pk_le y kd (fun q => hG _ (goM _ (br_f (nI_nlt q (by omega)) (k0 _)))) (fun q => hG _ (goM _ (br_t (nI_lt q (by omega)) ?_)))
  exact k _ _ _ _ rfl (IX_0s hX1) (IM_0 hM1 (by decide) (by decide)) (by unfold RF; rw [m2, m2, pk_us, pk_us]) (by rw [m2, pk_un (by decide)]; exact tX) (by rw [m2, pk_un (by decide)]; exact tM) (Fr_p gX (Or.inl rfl)) (Fr_p gM (Or.inl rfl))
theorem eX_countBefores {n : Nat} {μ : Mem} {post : Int32 → Mem → Prop} (hn : μ 13 4 = nI n) (h9 : n ≤ 9) (hlo : ∀ w, w < n → lo 10 (μ 15 w)) (k : post (nI (sumN (fun w => cntB (μ 15 w) 10) n)) μ) : T_X10_countBefores μ post := by
  intro P hP
  have H : ∀ j, j ≤ n → P (nI (sumN (fun w => cntB (μ 15 w) 10) j)) (nI j) μ := by
    refine down_ind (hP _ _ _ (br_t (by rw [hn]; exact nI_self_le n) k)) (fun j hj ih => hP _ _ _ (br_f (by rw [hn]; exact nI_ge hj (by omega)) ⟨in9 (by omega) (by omega), sX_bitCount ?_⟩))
    rw [nI_1, cl9 (show j < 1000000 by omega)]
    obtain ⟨a, ha, ea⟩ := lo_nI (hlo j hj)
    have ha : a < 1024 := ha
    rw [ea, bc_cnt ha, nI_add, ← ea]
    rw [sumN_s] at ih
    exact ih
  exact H 0 (Nat.zero_le _)
theorem tw_many {n m : Nat} {z1 z2 : Nat → Nat} {μX μM : Mem} {x1 : Int32} {G : Prop → Prop} {Q : Int32 → Int32 → Mem → Mem → Prop} (hG : ∀ T, T → G T) (hX : IX n m z1 z2 μX) (hM : IM n m μM) (hK : RK n z1 z2 μX μM) (k : ∀ r r2, r = r2 → Q r r2 μX μM) : T_X11_many x1 μX (fun r μ1 => G (T_X12_many x1 μM (fun r2 μ2 => Q r r2 μ1 μ2))) := by
  have h9 := xN hX
  have hp := pow9 h9
  have goM : ∀ post2 : Int32 → Mem → Prop, ((x1 = 0 → post2 (nI n) μM) ∧ (x1 = 1 → post2 (nI m) μM) ∧ (x1 = 2 → post2 (nI (sumN (fun w => cntB (μM 5 w) 10) n)) μM) ∧ (x1 = 3 → post2 (nI (cntB (needF (μM 4) (nI (2 ^ n - 1)) n) 10)) μM) ∧ (¬ x1 = 0 → ¬ x1 = 1 → ¬ x1 = 2 → ¬ x1 = 3 → post2 (-2) μM)) → T_X12_many x1 μM post2 := by
    intro post2 hq P hP
    have H : ∀ j, j ≤ n → P x1 (nI (sumN (fun w => cntB (μM 5 w) 10) j)) (nI j) μM := by
      refine down_ind (hP _ _ _ _ (br_t (by rw [hM.1.1]; exact nI_self_le n) ?_)) (fun j hj ih => hP _ _ _ _ (br_f (by rw [hM.1.1]; exact nI_ge hj (by omega)) ⟨in9 (by omega) (by omega), eM_bitsOf ?_⟩))
      · rw [hM.1.1, mM hM]
        exact ⟨hq.1, hq.2.1, hq.2.2.1, fun q => sM_all hM.1 (sM_needsE hM.1 (eM_bitsOf (hq.2.2.2.1 q))), hq.2.2.2.2⟩
      · rw [nI_1, cl9 (show j < 1000000 by omega), nI_add]
        rw [sumN_s] at ih
        exact ih
    exact H 0 (Nat.zero_le _)
  have e5 : ∀ w, w < n → μX 15 w = μM 5 w := fun w hw => (hK.1 w hw).2
  have e4 : ∀ w, w < n → μX 14 w = μM 4 w := fun w hw => (hK.1 w hw).1
  refine ⟨fun q => hG _ (goM _ ⟨fun _ => k _ _ (xW hX), fun e => absurd (q.symm.trans e) (by decide), fun e => absurd (q.symm.trans e) (by decide), fun e => absurd (q.symm.trans e) (by decide), fun e => absurd q e⟩), fun q => hG _ (goM _ ⟨fun e => absurd (q.symm.trans e) (by decide), fun _ => k _ _ (xM hX), fun e => absurd (q.symm.trans e) (by decide), fun e => absurd (q.symm.trans e) (by decide), fun _ e => absurd q e⟩), fun q => eX_countBefores (xW hX) h9 (fun w hw => ?_) (hG _ (goM _ ⟨fun e => absurd (q.symm.trans e) (by decide), fun e => absurd (q.symm.trans e) (by decide), fun _ => k _ _ ?_, fun e => absurd (q.symm.trans e) (by decide), fun _ _ e => absurd q e⟩)), fun q => sX_all (xW hX) h9 (eX_neededBy (xW hX) h9 (sX_bitCount (hG _ (goM _ ⟨fun e => absurd (q.symm.trans e) (by decide), fun e => absurd (q.symm.trans e) (by decide), fun e => absurd (q.symm.trans e) (by decide), fun _ => k _ _ ?_, fun _ _ _ e => absurd q e⟩)))), fun q0 q1 q2 q3 => hG _ (goM _ ⟨fun e => absurd e q0, fun e => absurd e q1, fun e => absurd e q2, fun e => absurd e q3, fun _ _ _ _ => k _ _ rfl⟩)⟩
  · rw [e5 w hw]; exact lo_mono (hM.2.1.2 w hw) (by omega)
  · rw [sumN_cl n (fun i hi => by show cntB (μX 15 i) 10 = cntB (μM 5 i) 10; rw [e5 i hi])]
  · have hlo : lo 10 (needF (μX 14) (nI (2 ^ n - 1)) n) := needF_lo (fun w hw => hX.1.2.2 w (by omega)) _ n (Nat.le_refl _)
    obtain ⟨a, ha, ea⟩ := lo_nI hlo
    have ha : a < 1024 := ha
    rw [ea, bc_cnt ha, ← ea, needF_cong n e4]
