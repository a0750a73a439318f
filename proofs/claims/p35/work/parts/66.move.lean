/-! moves: the reference, and both sides alike -/
theorem eM_layMoved {n m a b : Nat} {μ : Mem} {post : Mem → Prop} (h : IM n m μ) (ha : a < n) (hb0 : b < n) (k : ∀ μ', Fr (fun q => q = 18) μ μ' → (∀ i, i < n → μ' 18 i = mvR (μ 13) a b i) → post μ') : T_X12_layMoved (nI a) (nI b) μ post := by
  have h9 := mN h
  have fin : ∀ d μ1, d ≤ b → (b ≤ d ∨ d = a) → Fr (fun q => q = 18) μ μ1 → (∀ i, i < n → μ1 18 i = if a ≤ i ∧ i < b then μ 13 (i + 1) else if d < i ∧ i ≤ a then μ 13 (i - 1) else μ 13 i) → post (mset μ1 18 (nI b).toNatClampNeg (μ 13 a)) := fun d μ1 hd hd2 hf1 h1 => by
    rw [cl9 (show b < 1000000 by omega)]
    refine k _ (Fr_p hf1 rfl) (fun i hi => ?_)
    rw [m2]
    unfold mvR mvI
    by_cases e : i = b
    · subst e; rw [pk_us, if_pos rfl]
    · rw [pk_un e, if_neg e, h1 i hi]
      by_cases q1 : a ≤ i ∧ i < b
      · rw [if_pos q1, if_pos q1]
      · rw [if_neg q1, if_neg q1]
        by_cases q2 : b < i ∧ i ≤ a
        · rw [if_pos q2, if_pos (by omega)]
        · rw [if_neg q2, if_neg (by omega)]
  have H69 : ∀ μ1, Fr (fun q => q = 18) μ μ1 → (∀ i, i < n → μ1 18 i = if a ≤ i ∧ i < b then μ 13 (i + 1) else μ 13 i) → T_X12_layMoved_69 post (nI b) (μ 13 a) (nI a) μ1 := by
    intro μ1 hf1 h1 P hP
    have H : ∀ d, d ≤ a → (b ≤ d ∨ d = a) → ∀ μ1, Fr (fun q => q = 18) μ μ1 → (∀ i, i < n → μ1 18 i = if a ≤ i ∧ i < b then μ 13 (i + 1) else if d < i ∧ i ≤ a then μ 13 (i - 1) else μ 13 i) → P (nI b) (μ 13 a) (nI d) μ1 := by
      intro d
      induction d with
      | zero => exact fun _ hd2 μ1 hf1 h1 => hP _ _ _ _ (br_t (nI_le (by omega) (by omega)) ⟨in9 (by omega) (by omega), fin 0 μ1 (by omega) hd2 hf1 h1⟩)
      | succ d ih =>
        intro hd hd2 μ1 hf1 h1
        refine hP _ _ _ _ (pk_le (d + 1) b (fun q => ⟨in9 (by omega) (by omega), fin (d + 1) μ1 q hd2 hf1 h1⟩) (fun q => ?_))
        rw [nI_pred, pk_m1, cl9 (show d < 1000000 by omega), cl9 (show d + 1 < 1000000 by omega), hf1 13 (by omega)]
        refine ⟨in9 (by omega) (by omega), in9 (by omega) (by omega), ih (by omega) (Or.inl (by omega)) _ (Fr_p hf1 rfl) (fun i hi => ?_)⟩
        rw [m2]
        by_cases e : i = d + 1
        · subst e
          rw [pk_us, if_neg (by omega), if_pos (by omega)]
          congr 1
        · rw [pk_un e, h1 i hi]
          by_cases q1 : a ≤ i ∧ i < b
          · rw [if_pos q1, if_pos q1]
          · rw [if_neg q1, if_neg q1]
            by_cases q2 : d + 1 < i ∧ i ≤ a
            · rw [if_pos q2, if_pos (by omega)]
            · rw [if_neg q2, if_neg (by omega)]
    refine H a (Nat.le_refl _) (Or.inr rfl) μ1 hf1 (fun i hi => ?_)
    rw [h1 i hi]
    by_cases q1 : a ≤ i ∧ i < b
    · rw [if_pos q1, if_pos q1]
    · rw [if_neg q1, if_neg q1, if_neg (by omega)]
  have H38 : ∀ μ1, Fr (fun q => q = 18) μ μ1 → (∀ i, i < n → μ1 18 i = μ 13 i) → T_X12_layMoved_38 post (nI a) (nI b) (μ 13 a) (nI a) μ1 := by
    intro μ1 hf1 h1 P hP
    have ex : ∀ i μ1, b ≤ i → (i ≤ b ∨ i = a) → Fr (fun q => q = 18) μ μ1 → (∀ q, q < n → μ1 18 q = if a ≤ q ∧ q < i then μ 13 (q + 1) else μ 13 q) → T_X12_layMoved_69 post (nI b) (μ 13 a) (nI a) μ1 := fun i μ1 hi1 hi2 hf1 h1 => H69 μ1 hf1 (fun q hq => by
      rw [h1 q hq]
      by_cases q1 : a ≤ q ∧ q < b
      · rw [if_pos q1, if_pos (by omega)]
      · rw [if_neg q1, if_neg (by omega)])
    have H : ∀ f i, b ≤ i + f → a ≤ i → (i ≤ b ∨ i = a) → ∀ μ1, Fr (fun q => q = 18) μ μ1 → (∀ q, q < n → μ1 18 q = if a ≤ q ∧ q < i then μ 13 (q + 1) else μ 13 q) → P (nI a) (nI b) (μ 13 a) (nI i) μ1 := by
      intro f
      induction f with
      | zero => exact fun i hi hai hi2 μ1 hf1 h1 => hP _ _ _ _ _ (br_t (nI_le (by omega) (by omega)) (ex i μ1 (by omega) hi2 hf1 h1))
      | succ f ih =>
        intro i hi hai hi2 μ1 hf1 h1
        refine hP _ _ _ _ _ (pk_le b i (fun q => ex i μ1 q hi2 hf1 h1) (fun q => ?_))
        rw [nI_1, cl9 (show i + 1 < 1000000 by omega), cl9 (show i < 1000000 by omega), hf1 13 (by omega)]
        refine ⟨in9 (by omega) (by omega), in9 (by omega) (by omega), ih (i + 1) (by omega) (by omega) (Or.inl (by omega)) _ (Fr_p hf1 rfl) (fun x hx => ?_)⟩
        rw [m2]
        by_cases e : x = i
        · subst e; rw [pk_us, if_pos (by omega)]
        · rw [pk_un e, h1 x hx]
          by_cases q1 : a ≤ x ∧ x < i
          · rw [if_pos q1, if_pos (by omega)]
          · rw [if_neg q1, if_neg (by omega)]
    exact H 20 a (by omega) (Nat.le_refl _) (Or.inr rfl) μ1 hf1 (fun q hq => by rw [if_neg (by omega)]; exact h1 q hq)
  intro P hP
  have H : ∀ j, j ≤ n → ∀ μ1, Fr (fun q => q = 18) μ μ1 → (∀ i, i < j → μ1 18 i = μ 13 i) → P (nI a) (nI b) (nI j) μ1 := by
    refine down_ind (fun μ1 hf1 hr1 => ?_) (fun j hj ih μ1 hf1 hr1 => ?_)
    · refine hP _ _ _ _ (br_t (by rw [hf1 0 (by omega), h.1.1]; exact nI_self_le n) ⟨in9 (by omega) (by omega), ?_⟩)
      rw [cl9 (show a < 1000000 by omega), hf1 13 (by omega)]
      exact H38 μ1 hf1 hr1
    · refine hP _ _ _ _ (br_f (by rw [hf1 0 (by omega), h.1.1]; exact nI_ge hj (by omega)) ?_)
      have i1 := in9 (show j < 9 by omega) (by omega)
      rw [nI_1, cl9 (show j < 1000000 by omega), hf1 13 (by omega)]
      refine ⟨i1, i1, ih _ (Fr_p hf1 rfl) (fun i hi => ?_)⟩
      rw [m2]
      by_cases e : i = j
      · subst e; rw [pk_us]
      · rw [pk_un e]; exact hr1 i (by omega)
  exact H 0 (Nat.zero_le _) μ (Fr_rf _ _) (fun i hi => absurd hi (by omega))
theorem eM_moveOnce {n m : Nat} {z : Nat → Nat} {μ : Mem} {post : Int32 → Mem → Prop} (h : IM n m μ) (hz : ∀ t, t < 10 → μ 6 t = nI (z t)) (hz9 : ∀ t, z t ≤ 99) (hr : RWn n 13 μ) (k0 : ∀ μ', Fr (fun q => q = 18) μ μ' → NoM n (μ 4) (μ 5) z (μ 13) → post 0 μ') (k1 : ∀ p t μ', FG n (μ 4) (μ 5) z (μ 13) p t → Fr s1318 μ μ' → (∀ i, i < n → μ' 13 i = mvR (μ 13) p t i) → post 1 μ') : T_X12_moveOnce μ post := by
  have h9 := mN h
  have hI : ∀ μ1, Fr (fun q => q = 18) μ μ1 → IM n m μ1 := fun μ1 hf => IM_free h (Fr_mono hf (fun q hq => by unfold freM; omega))
  have H62 : ∀ p t μ1, FG n (μ 4) (μ 5) z (μ 13) p t → Fr (fun q => q = 18) μ μ1 → (∀ i, i < n → μ1 18 i = mvR (μ 13) p t i) → T_X12_moveOnce_62 post 0 μ1 := by
    intro p t μ1 hfg hf1 hr1 P hP
    have H : ∀ j, j ≤ n → ∀ μ2, Fr (fun q => q = 13) μ1 μ2 → (∀ i, i < j → μ2 13 i = μ1 18 i) → P (nI j) μ2 := by
      refine down_ind (fun μ2 hf2 he => ?_) (fun j hj ih μ2 hf2 he => ?_)
      · exact hP _ _ (br_t (by rw [hf2 0 (by omega), hf1 0 (by omega), h.1.1]; exact nI_self_le n) (k1 p t μ2 hfg (Fr_tr (Fr_mono hf1 (fun q hq => Or.inr hq)) (Fr_mono hf2 (fun q hq => Or.inl hq))) (fun i hi => by rw [he i hi]; exact hr1 i hi)))
      · refine hP _ _ (br_f (by rw [hf2 0 (by omega), hf1 0 (by omega), h.1.1]; exact nI_ge hj (by omega)) ?_)
        have i1 := in9 (show j < 9 by omega) (by omega)
        rw [nI_1, cl9 (show j < 1000000 by omega), hf2 18 (by omega)]
        refine ⟨i1, i1, ih _ (Fr_p hf2 rfl) (fun i hi => ?_)⟩
        rw [m2]
        by_cases e : i = j
        · subst e; rw [pk_us]
        · rw [pk_un e]; exact he i (by omega)
    exact H 0 (Nat.zero_le _) μ1 (Fr_rf _ _) (fun i hi => absurd hi (by omega))
  intro P hP
  have H : ∀ p, p ≤ n → ∀ μ1, Fr (fun q => q = 18) μ μ1 → (∀ p' t', p' < p → t' < n → p' ≠ t' → ¬ gdM n (μ 4) (μ 5) z (μ 13) p' t') → P (nI p) μ1 := by
    refine down_ind (fun μ1 hf1 hno => ?_) (fun p hp ih μ1 hf1 hno => ?_)
    · exact hP _ _ (br_t (by rw [hf1 0 (by omega), h.1.1]; exact nI_self_le n) (k0 μ1 hf1 hno))
    · refine hP _ _ (br_f (by rw [hf1 0 (by omega), h.1.1]; exact nI_ge hp (by omega)) ?_)
      intro P2 hP2
      have H2 : ∀ t, t ≤ n → ∀ μ2, Fr (fun q => q = 18) μ μ2 → (∀ t', t' < t → p ≠ t' → ¬ gdM n (μ 4) (μ 5) z (μ 13) p t') → P2 (nI p) (nI t) μ2 := by
        refine down_ind (fun μ2 hf2 hn2 => ?_) (fun t ht ih2 μ2 hf2 hn2 => ?_)
        · refine hP2 _ _ _ (br_t (by rw [hf2 0 (by omega), h.1.1]; exact nI_self_le n) ?_)
          rw [nI_1]
          refine ih μ2 hf2 (fun p' t' hp' ht' hne => ?_)
          by_cases e : p' = p
          · subst e; exact hn2 t' ht' hne
          · exact hno p' t' (by omega) ht' hne
        · refine hP2 _ _ _ (br_f (by rw [hf2 0 (by omega), h.1.1]; exact nI_ge ht (by omega)) ?_)
          rw [nI_1]
          refine ⟨fun q => eM_layMoved (hI μ2 hf2) hp ht (fun μ3 hf3 hr3 => ?_), fun q => ih2 μ2 hf2 (fun t' ht' hne => ?_)⟩
          · have hf3' := Fr_tr hf2 hf3
            have h3 := hI μ3 hf3'
            have f13 : μ3 13 = μ 13 := hf3' 13 (by omega)
            have f4 : μ3 4 = μ 4 := hf3' 4 (by omega)
            have f5 : μ3 5 = μ 5 := hf3' 5 (by omega)
            rw [hf2 13 (by omega)] at hr3
            have hpt : p ≠ t := fun e => q (by rw [e])
            have hmv : RWn n 18 μ3 := fun i hi => by rw [hr3 i hi]; exact hr _ (mvI_lt hp ht hi)
            have skip : ¬ gdM n (μ 4) (μ 5) z (μ 13) p t → P2 (nI p) (nI (t + 1)) μ3 := fun g => ih2 μ3 hf3' (fun t' ht' hne => by
              by_cases e : t' = t
              · subst e; exact g
              · exact hn2 t' (by omega) hne)
            refine eM_lawful h3.1 rfl hmv (fun nl => br_t rfl (skip (fun g => nl ?_))) (fun l => br_f n10 (eM_isBetter h3.1 (fun t ht => by rw [hf3' 6 (by omega)]; exact hz t ht) hz9 rfl rfl hmv (RWn_fr hr hf3' (by omega)) (fun nb => br_t rfl (skip (fun g => nb ?_))) (fun b => br_f n10 (H62 p t μ3 ⟨hp, ht, hpt, ⟨?_, ?_⟩, fun p' t' hp' ht' hne hl => ?_⟩ hf3' hr3))))
            · rw [f5]; exact LWk_cong (fun i hi => (hr3 i hi).symm) (fun _ _ => rfl) g.1
            · rw [f4, f13, moN_cong hr3 (fun _ _ => rfl), loN_cong hr3 (fun _ _ => rfl)]
              exact BET_cong (fun i hi => (hr3 i hi).symm) (fun _ _ => rfl) g.2
            · rw [f5] at l; exact LWk_cong hr3 (fun _ _ => rfl) l
            · rw [f4, f13, moN_cong hr3 (fun _ _ => rfl), loN_cong hr3 (fun _ _ => rfl)] at b
              exact BET_cong hr3 (fun _ _ => rfl) b
            · rcases hl with hl | ⟨hl, hl2⟩
              · exact hno p' t' hl ht' hne
              · subst hl; exact hn2 t' hl2 hne
          · have ept : p = t := (nI_eq (by omega) (by omega)).mp q
            by_cases e : t' = t
            · subst e; exact absurd ept hne
            · exact hn2 t' (by omega) hne
      exact H2 0 (Nat.zero_le _) μ1 hf1 (fun t' ht' => absurd ht' (by omega))
  exact H 0 (Nat.zero_le _) μ (Fr_rf _ _) (fun p' t' hp' => absurd hp' (by omega))
theorem s1318_free {n m : Nat} {μ μ' : Mem} (h : IM n m μ) (f : Fr s1318 μ μ') : IM n m μ' := IM_free h (Fr_mono f (fun q hq => by unfold s1318 at hq; unfold freM; omega))
theorem eM_moves31 {n m : Nat} {z : Nat → Nat} {μ : Mem} {post : Int32 → Mem → Prop} (h : IM n m μ) (hz : ∀ t, t < 10 → μ 6 t = nI (z t)) (hz9 : ∀ t, z t ≤ 99) (hr : PRM n (μ 13)) (k : ∀ j μ', Fr s1318 μ μ' → CEn n (μ 4) (μ 5) z (μ 13) j (μ' 13) → post (nI j) μ') : T_X12_moves_31 post 0 μ := by
  have h9 := mN h
  intro P hP
  have H : ∀ f j, j + f = 362881 → ∀ μ3, Fr s1318 μ μ3 → Chn n (μ 4) (μ 5) z (μ 13) j (μ3 13) → P (nI j) μ3 := by
    intro f
    induction f with
    | zero =>
      intro j hj μ3 _ hc
      have := Chn_le h9 hz9 hr hc
      omega
    | succ f ih =>
      intro j hj μ3 f3 hc
      have f4 : μ3 4 = μ 4 := f3 4 (by unfold s1318; omega)
      have f5 : μ3 5 = μ 5 := f3 5 (by unfold s1318; omega)
      refine hP _ _ (eM_moveOnce (s1318_free h f3) (fun t ht => by rw [f3 6 (by unfold s1318; omega)]; exact hz t ht) hz9 (Chn_prm hr j _ hc).1 (fun μ4 g4 hno => br_t rfl ?_) (fun p t μ4 hfg g4 r1 => br_f n10 ?_))
      · have f13 : μ4 13 = μ3 13 := g4 13 (by omega)
        rw [f4, f5] at hno
        exact k j μ4 (Fr_tr f3 (Fr_mono g4 (fun q hq => Or.inr hq))) ⟨by rw [f13]; exact hc, by rw [f13]; exact hno⟩
      · rw [f4, f5] at hfg
        rw [nI_1]
        exact ih (j + 1) (by omega) μ4 (Fr_tr f3 g4) ⟨μ3 13, p, t, hc, hfg, r1⟩
  exact H 362881 0 (by omega) μ (Fr_rf _ _) (fun i hi => rfl)
theorem eM_move31 {n m : Nat} {z : Nat → Nat} {μ : Mem} {post : Int32 → Mem → Prop} (h : IM n m μ) (hz : ∀ t, t < 10 → μ 6 t = nI (z t)) (hz9 : ∀ t, z t ≤ 99) (hr : PRM n (μ 13)) (k : ∀ j μ', Fr s1318 μ μ' → CEn n (μ 4) (μ 5) z (μ 13) j (μ' 13) → T_X12_comes 1 μ' post) : T_X12_move_31 post 1 μ := by
  have h9 := mN h
  intro P hP
  have H : ∀ f j, j + f = 362881 → ∀ μ3, Fr s1318 μ μ3 → Chn n (μ 4) (μ 5) z (μ 13) j (μ3 13) → P 1 μ3 := by
    intro f
    induction f with
    | zero =>
      intro j hj μ3 _ hc
      have := Chn_le h9 hz9 hr hc
      omega
    | succ f ih =>
      intro j hj μ3 f3 hc
      have f4 : μ3 4 = μ 4 := f3 4 (by unfold s1318; omega)
      have f5 : μ3 5 = μ 5 := f3 5 (by unfold s1318; omega)
      refine hP _ _ (br_f n10 (eM_moveOnce (s1318_free h f3) (fun t ht => by rw [f3 6 (by unfold s1318; omega)]; exact hz t ht) hz9 (Chn_prm hr j _ hc).1 (fun μ4 g4 hno => hP _ _ (br_t rfl ?_)) (fun p t μ4 hfg g4 r1 => ?_)))
      · have f13 : μ4 13 = μ3 13 := g4 13 (by omega)
        rw [f4, f5] at hno
        exact k j μ4 (Fr_tr f3 (Fr_mono g4 (fun q hq => Or.inr hq))) ⟨by rw [f13]; exact hc, by rw [f13]; exact hno⟩
      · rw [f4, f5] at hfg
        exact ih (j + 1) (by omega) μ4 (Fr_tr f3 g4) ⟨μ3 13, p, t, hc, hfg, r1⟩
  exact H 362881 0 (by omega) μ (Fr_rf _ _) (fun i hi => rfl)
/-! an order of both sides -/
theorem RO_prm {n m j : Nat} {μX μM : Mem} (hM : IM n m μM) (hO : RO n m μX μM) (hj : j < m) : PRM n (fun k => μM 12 (9 * j + k)) := ⟨fun k hk => hM.2.2.2.2.2.2.2.2 j hj k hk, fun a b ha hb0 e => (hO j hj).2.2 a b ha hb0 e⟩
theorem RO_row {n m j : Nat} {μX μM : Mem} (hO : RO n m μX μM) (hj : j < m) : ∀ k, k < n → (fun k => μM 12 (9 * j + k)) k = μX (25 + j) k := fun k hk => ((hO j hj).2.1 k hk).symm
theorem eX_lawful {n m j : Nat} {z1 z2 : Nat → Nat} {μ : Mem} {post : Int32 → Mem → Prop} (h : IX n m z1 z2 μ) (hj : j < m) (k1 : ∀ μ', Fr sG μ μ' → IX n m z1 z2 μ' → LWk (μ 15) (μ (25 + j)) n → post 1 μ') (k0 : ∀ μ', Fr sG μ μ' → IX n m z1 z2 μ' → ¬ LWk (μ 15) (μ (25 + j)) n → post 0 μ') : T_X11_isLawful (nI j) μ post := by
  have h8 := xM8 h
  refine ⟨in9 (by omega) (by omega), ?_⟩
  rw [cl9 (show j < 1000000 by omega)]
  refine eX_measure h.1 h.2.1 h.2.2.2.1 (shXr (by omega)) (by unfold sG; omega) (xRow h hj) (fun μ2 hf2 ho2 hMS => ?_)
  have h2 := IX_G h hf2 ho2
  rcases hMS.2.2.2 with ⟨e, l⟩ | ⟨e, l⟩
  · rw [e]; exact ⟨Or.inr rfl, k1 μ2 hf2 h2 l⟩
  · rw [e]; exact ⟨Or.inl rfl, k0 μ2 hf2 h2 l⟩
theorem RO_val {n m j : Nat} {μX μM : Mem} {nd nd' : Nat → Int32} (h9 : n ≤ 9) (hM : IM n m μM) (hO : RO n m μX μM) (hj : j < m) (e : ∀ w, w < n → nd w = nd' w) : ∀ k, k < n → nd (μX (25 + j) k).toNatClampNeg = nd' (μX (25 + j) k).toNatClampNeg := fun k hk => by
  obtain ⟨v, hv, ev⟩ := hM.2.2.2.2.2.2.2.2 j hj k hk
  rw [(hO j hj).2.1 k hk, ev, cl9 (show v < 1000000 by omega)]
  exact e v hv
def sVX : Nat → Prop := fun q => (22 ≤ q ∧ q ≤ 34) ∨ (50 ≤ q ∧ q ≤ 52)
def sVM : Nat → Prop := fun q => q = 0 ∨ q = 11 ∨ q = 12 ∨ q = 13 ∨ q = 18
theorem tw_moves {n m : Nat} {z1 z2 : Nat → Nat} {μX μM : Mem} {x1 : Int32} {G : Prop → Prop} {Q : Int32 → Int32 → Mem → Mem → Prop} (hG : ∀ T, T → G T) (hX : IX n m z1 z2 μX) (hM : IM n m μM) (hK : RK n z1 z2 μX μM) (hO : RO n m μX μM) (k : ∀ r r2 μ1 μ2, r = r2 → IX n m z1 z2 μ1 → IM n m μ2 → RO n m μ1 μ2 → μ1 0 = μX 0 → μ2 0 = μM 0 → Fr sVX μX μ1 → Fr sVM μM μ2 → Q r r2 μ1 μ2) : T_X11_moves x1 μX (fun r μ1 => G (T_X12_moves x1 μM (fun r2 μ2 => Q r r2 μ1 μ2))) := by
  have h9 := xN hX
  have h8 := xM8 hX
  have hz := fun t ht => (hK.2 t ht).1
  have hz9 := hX.2.1.1
  rcases in_or x1 m (by omega) with ho | ⟨j, hj, rfl⟩
  · exact sX_oHas (xM hX) h8 (fun _ => rb_f rfl (hG _ (sM_isOrder (mM hM) h8 (fun _ => rb_f rfl (k _ _ μX μM rfl hX hM hO rfl rfl (Fr_rf _ _) (Fr_rf _ _))) (fun j hj e => absurd e (ho j hj))))) (fun j hj e => absurd e (ho j hj))
  have i1 := in9 (show j < 8 by omega) (show 8 < 1000000 by omega)
  have eval := RO_val (nd := μX 15) (nd' := μM 5) h9 hM hO hj (fun w hw => (hK.1 w hw).2)
  have goM : ∀ post2 : Int32 → Mem → Prop, (∀ μ2, Fr (fun q => q = 13) μM μ2 → IM n m μ2 → (∀ i, i < n → μ2 13 i = μX (25 + j) i) → ((LWk (μX 15) (μX (25 + j)) n → T_X12_moves_31 post2 0 μ2) ∧ (¬ LWk (μX 15) (μX (25 + j)) n → post2 (-3) μ2))) → T_X12_moves (nI j) μM post2 := fun post2 hq => by
    refine sM_isOrder (mM hM) h8 (fun q => absurd rfl (q j hj)) (fun _ _ _ => rb_t n10 (sM_look hM hj (fun μ2 hf2 h2 hr he => ?_)))
    have er : ∀ i, i < n → μ2 13 i = μX (25 + j) i := fun i hi => by rw [he i hi]; exact ((hO j hj).2.1 i hi).symm
    have e5 : μ2 5 = μM 5 := hf2 5 (by omega)
    obtain ⟨q1, q2⟩ := hq μ2 hf2 h2 er
    refine eM_lawful h2.1 rfl hr (fun nl => rb_f rfl (q2 (fun l => nl ?_))) (fun l => rb_t n10 (q1 ?_))
    · rw [e5]; exact LWk_cong (fun i hi => (er i hi).symm) eval l
    · rw [e5] at l
      exact LWk_cong er (fun i hi => by rw [er i hi]; exact (eval i hi).symm) l
  refine sX_oHas (xM hX) h8 (fun q => absurd rfl (q j hj)) (fun _ _ _ => rb_t n10 (eX_lawful hX hj (fun μ1 hf1 h1 l => br_f n10 ⟨i1, ?_⟩) (fun μ1 hf1 h1 nl => br_t rfl (hG _ (goM _ (fun μ2 hf2 h2 er => ⟨fun l => absurd l nl, fun _ => ?_⟩))))))
  · rw [cl9 (show j < 1000000 by omega)]
    have r25 : μ1 (25 + j) = μX (25 + j) := hf1 (25 + j) (by unfold sG; omega)
    have r14 : μ1 14 = μX 14 := hf1 14 (by unfold sG; omega)
    have r15 : μ1 15 = μX 15 := hf1 15 (by unfold sG; omega)
    have hprm : PRM n (μX (25 + j)) := PRM_cong (RO_row hO hj) (RO_prm hM hO hj)
    refine eX_improve h1.1 h1.2.1 h1.2.2.2.1 (shXr (by omega)) (by rw [r25]; exact hprm) (fun c μ3 hc hf3 ho3 hce => hG _ (goM _ (fun μ2 hf2 h2 er => ⟨fun _ => ?_, fun nl => absurd l nl⟩)))
    rw [r25, r14, r15] at hce
    refine eM_moves31 h2 (fun t ht => by rw [hf2 6 (by omega)]; exact hz t ht) hz9 (PRM_cong (fun i hi => (er i hi).symm) hprm) (fun c2 μ4 hf4 hce2 => ?_)
    have hce' := CEn_cong (nd' := μ2 4) (bf' := μ2 5) (σ0 := μ2 13) h9 hprm (fun i hi => (er i hi).symm) (fun w hw => by rw [hf2 4 (by omega)]; exact (hK.1 w hw).1) (fun w hw => by rw [hf2 5 (by omega)]; exact (hK.1 w hw).2) hce
    have eu := (CEn_u h9 (PRM_cong (fun i hi => (er i hi).symm) hprm) hce' hce2).1
    have fX : Fr sVX μX μ3 := Fr_tr (Fr_mono hf1 (fun q hq => by unfold sG at hq; unfold sVX; omega)) (Fr_mono hf3 (fun q hq => by unfold sV at hq; unfold sVX; omega))
    have gX : Fr (fun q => q = 33 ∨ q = 34 ∨ (50 ≤ q ∧ q ≤ 52)) μX μ3 := Fr_tr (Fr_mono hf1 (fun q hq => by unfold sG at hq; omega)) (Fr_mono hf3 (fun q hq => by unfold sV at hq; omega))
    have gM : Fr s1318 μM μ4 := Fr_tr (Fr_mono hf2 (fun q hq => Or.inl hq)) hf4
    exact k _ _ μ3 μ4 (by rw [eu]) (IX_V h1 hf3 ho3) (s1318_free h2 hf4) (RO_fr hO h8 gX gM (by omega) (fun q h1 h2 => by omega) (by unfold s1318; omega) (by unfold s1318; omega)) (gX 0 (by omega)) (gM 0 (by unfold s1318; omega)) fX (Fr_mono gM (fun q hq => by unfold s1318 at hq; unfold sVM; omega))
  · exact k _ _ μ1 μ2 rfl h1 h2 (RO_fr hO h8 hf1 hf2 (by unfold sG; omega) (fun q h1 h2 => by unfold sG; omega) (by omega) (by omega)) (hf1 0 (by unfold sG; omega)) (hf2 0 (by omega)) (Fr_mono hf1 (fun q hq => by unfold sG at hq; unfold sVX; omega)) (Fr_mono hf2 (fun q hq => by unfold sVM; omega))
theorem tw_move {n m : Nat} {z1 z2 : Nat → Nat} {μX μM : Mem} {x1 : Int32} {G : Prop → Prop} {Q : Int32 → Int32 → Mem → Mem → Prop} (hG : ∀ T, T → G T) (hX : IX n m z1 z2 μX) (hM : IM n m μM) (hK : RK n z1 z2 μX μM) (hO : RO n m μX μM) (k : ∀ r r2 m1 μ1 μ2, r = r2 → IX n m1 z1 z2 μ1 → IM n m1 μ2 → RO n m1 μ1 μ2 → μ1 0 = μX 0 → (∀ s, s ≠ 17 → μ2 0 s = μM 0 s) → Fr sVX μX μ1 → Fr sVM μM μ2 → Q r r2 μ1 μ2) : T_X11_move x1 μX (fun r μ1 => G (T_X12_move x1 μM (fun r2 μ2 => Q r r2 μ1 μ2))) := by
  have h9 := xN hX
  have h8 := xM8 hX
  have hz := fun t ht => (hK.2 t ht).1
  have hz9 := hX.2.1.1
  rcases in_or x1 m (by omega) with ho | ⟨j, hj, rfl⟩
  · exact sX_oHas (xM hX) h8 (fun _ => rb_f rfl (hG _ (sM_isOrder (mM hM) h8 (fun _ => rb_f rfl (k _ _ m μX μM rfl hX hM hO rfl (fun _ _ => rfl) (Fr_rf _ _) (Fr_rf _ _))) (fun j hj e => absurd e (ho j hj))))) (fun j hj e => absurd e (ho j hj))
  have i1 := in9 (show j < 8 by omega) (show 8 < 1000000 by omega)
  have eval := RO_val (nd := μX 15) (nd' := μM 5) h9 hM hO hj (fun w hw => (hK.1 w hw).2)
  have hprm : PRM n (μX (25 + j)) := PRM_cong (RO_row hO hj) (RO_prm hM hO hj)
  have goM : ∀ post2 : Int32 → Mem → Prop, (∀ μ2, Fr (fun q => q = 13) μM μ2 → IM n m μ2 → (∀ i, i < n → μ2 13 i = μX (25 + j) i) → ((LWk (μX 15) (μX (25 + j)) n → T_X12_move_31 post2 1 μ2) ∧ (¬ LWk (μX 15) (μX (25 + j)) n → post2 (-3) μ2))) → T_X12_move (nI j) μM post2 := fun post2 hq => by
    refine sM_isOrder (mM hM) h8 (fun q => absurd rfl (q j hj)) (fun _ _ _ => rb_t n10 (sM_look hM hj (fun μ2 hf2 h2 hr he => ?_)))
    have er : ∀ i, i < n → μ2 13 i = μX (25 + j) i := fun i hi => by rw [he i hi]; exact ((hO j hj).2.1 i hi).symm
    have e5 : μ2 5 = μM 5 := hf2 5 (by omega)
    obtain ⟨q1, q2⟩ := hq μ2 hf2 h2 er
    refine eM_lawful h2.1 rfl hr (fun nl => rb_f rfl (q2 (fun l => nl ?_))) (fun l => rb_t n10 (q1 ?_))
    · rw [e5]; exact LWk_cong (fun i hi => (er i hi).symm) eval l
    · rw [e5] at l
      exact LWk_cong er (fun i hi => by rw [er i hi]; exact (eval i hi).symm) l
  refine sX_oHas (xM hX) h8 (fun q => absurd rfl (q j hj)) (fun _ _ _ => rb_t n10 (eX_lawful hX hj (fun μ1 hf1 h1 l => rb_t n10 ?_) (fun μ1 hf1 h1 nl => rb_f rfl (hG _ (goM _ (fun μ2 hf2 h2 er => ⟨fun l => absurd l nl, fun _ => ?_⟩))))))
  · have r25 : μ1 (25 + j) = μX (25 + j) := hf1 (25 + j) (by unfold sG; omega)
    have r14 : μ1 14 = μX 14 := hf1 14 (by unfold sG; omega)
    have r15 : μ1 15 = μX 15 := hf1 15 (by unfold sG; omega)
    refine pk_lt m 8 (fun hm8 => br_t rfl ⟨i1, ?_⟩) (fun hm8 => br_f (by decide) (hG _ (goM _ (fun μ2 hf2 h2 er => ⟨fun _ => eM_move31 h2 (fun t ht => by rw [hf2 6 (by omega)]; exact hz t ht) hz9 (PRM_cong (fun i hi => (er i hi).symm) hprm) (fun c2 μ4 hf4 hce2 => ?_), fun nl => absurd l nl⟩)))) (xM h1)
    · rw [cl9 (show j < 1000000 by omega)]
      refine eX_improve h1.1 h1.2.1 h1.2.2.2.1 (shXr (by omega)) (by rw [r25]; exact hprm) (fun c μ3 hc hf3 ho3 hce => ?_)
      rw [r25, r14, r15] at hce
      have h3 := IX_V h1 hf3 ho3
      have p3 := Chn_prm hprm c _ hce.1
      have gX : Fr (fun q => q = 33 ∨ q = 34 ∨ (50 ≤ q ∧ q ≤ 52)) μX μ3 := Fr_tr (Fr_mono hf1 (fun q hq => by unfold sG at hq; omega)) (Fr_mono hf3 (fun q hq => by unfold sV at hq; omega))
      refine sX_add (xM h3) hm8 rfl (fun μ5 hf5 e22 e24 er5 => hG _ (goM _ (fun μ2 hf2 h2 er => ⟨fun _ => eM_move31 h2 (fun t ht => by rw [hf2 6 (by omega)]; exact hz t ht) hz9 (PRM_cong (fun i hi => (er i hi).symm) hprm) (fun c2 μ4 hf4 hce2 => ?_), fun nl => absurd l nl⟩)))
      have hce' := CEn_cong (nd' := μ2 4) (bf' := μ2 5) (σ0 := μ2 13) h9 hprm (fun i hi => (er i hi).symm) (fun w hw => by rw [hf2 4 (by omega)]; exact (hK.1 w hw).1) (fun w hw => by rw [hf2 5 (by omega)]; exact (hK.1 w hw).2) hce
      have hprm2 := PRM_cong (fun i hi => (er i hi).symm) hprm
      have eu := (CEn_u h9 hprm2 hce' hce2).2
      have p4 := Chn_prm hprm2 c2 _ hce2.1
      have h4 := s1318_free h2 hf4
      have gM : Fr s1318 μM μ4 := Fr_tr (Fr_mono hf2 (fun q hq => Or.inl hq)) hf4
      have hO3 : RO n m μ3 μ4 := RO_fr hO h8 gX gM (by omega) (fun q h1 h2 => by omega) (by unfold s1318; omega) (by unfold s1318; omega)
      have hrw3 : RW n 51 μ3 := fun i hi => by
        obtain ⟨v, hv, ev⟩ := p3.1 i hi
        exact ⟨v, by omega, ev⟩
      refine sM_comes h4 p4.1 (fun q => absurd q (by omega)) (fun _ μ6 hg6 e0 e11 e12 e12' h6 => k _ _ (m + 1) _ _ rfl (IX_add h3 hm8 hrw3 hf5 e22 er5) h6 (RO_add hO3 h9 (show 1 < 3 by omega) hf5 e24 e11 e12' (fun i hi => ?_) (fun a b ha hb0 e => ?_)) ?_ (fun s hs => ?_) (Fr_tr (Fr_mono gX (fun q hq => by unfold sVX; omega)) (Fr_mono hf5 (fun q hq => by unfold sVX; omega))) (Fr_tr (Fr_mono gM (fun q hq => by unfold s1318 at hq; unfold sVM; omega)) (Fr_mono hg6 (fun q hq => by unfold sVM; omega))))
      · rw [er5 i (by omega), e12 i hi]; exact eu i hi
      · rw [e12 a ha, e12 b hb0] at e
        exact p4.2 a b ha hb0 e
      · rw [hf5 0 (by omega)]; exact gX 0 (by omega)
      · rw [e0, pk_un hs, gM 0 (by unfold s1318; omega)]
    · have gM : Fr s1318 μM μ4 := Fr_tr (Fr_mono hf2 (fun q hq => Or.inl hq)) hf4
      have h4 := s1318_free h2 hf4
      have p4 := Chn_prm (PRM_cong (fun i hi => (er i hi).symm) hprm) c2 _ hce2.1
      exact sM_comes h4 p4.1 (fun _ => k _ _ m μ1 μ4 rfl h1 h4 (RO_fr hO h8 hf1 gM (by unfold sG; omega) (fun q h1 h2 => by unfold sG; omega) (by unfold s1318; omega) (by unfold s1318; omega)) (hf1 0 (by unfold sG; omega)) (fun s _ => by rw [gM 0 (by unfold s1318; omega)]) (Fr_mono hf1 (fun q hq => by unfold sG at hq; unfold sVX; omega)) (Fr_mono gM (fun q hq => by unfold s1318 at hq; unfold sVM; omega))) (fun q => absurd q (by omega))
  · exact k _ _ m μ1 μ2 rfl h1 h2 (RO_fr hO h8 hf1 hf2 (by unfold sG; omega) (fun q h1 h2 => by unfold sG; omega) (by omega) (by omega)) (hf1 0 (by unfold sG; omega)) (fun s _ => by rw [hf2 0 (by omega)]) (Fr_mono hf1 (fun q hq => by unfold sG at hq; unfold sVX; omega)) (Fr_mono hf2 (fun q hq => by unfold sVM; omega))
