/-! without, widest: both sides alike -/
/-- v is the least greatest width of the works of u -/
def VLe (n : Nat) (nd bf : Nat → Int32) (z : Nat → Nat) (u v : Nat) : Prop := ∃ μ1 μ' : Mem, WM n μ1 ∧ (∀ w, w < n → nd w = μ1 4 w) ∧ (∀ w, w < n → bf w = μ1 5 w) ∧ (∀ s, s < 2 ^ n → μ1 14 s = needF (μ1 4) (nI s) n) ∧ (∀ x, x < 1024 → μ1 17 x = nI (sum10 z (nI x))) ∧ (∀ s, s ≤ u → (∀ i, hb (nI s) i = true → hb (nI u) i = true) → EQm μ1 n u μ' s) ∧ v = LT 15 μ' 0
theorem VLe_cong {n u v : Nat} {nd bf nd' bf' : Nat → Int32} {z : Nat → Nat} (e1 : ∀ w, w < n → nd' w = nd w) (e2 : ∀ w, w < n → bf' w = bf w) (h : VLe n nd bf z u v) : VLe n nd' bf' z u v := by
  obtain ⟨μ1, μ', a, b, c, d⟩ := h
  exact ⟨μ1, μ', a, fun w hw => (e1 w hw).trans (b w hw), fun w hw => (e2 w hw).trans (c w hw), d⟩
theorem eX_leastMostV {n m u lim : Nat} {z1 z2 : Nat → Nat} {μ : Mem} {post : Int32 → Mem → Prop} (h : IX n m z1 z2 μ) (hu : u < 2 ^ n) (hlim : lim ≤ 1000000) (k : ∀ r μ', Fr (sS 41) μ μ' → IX n m z1 z2 μ' → (∀ v, VLe n (μ 14) (μ 15) z1 u v → r = nI (min lim v)) → (∃ r', r' ≤ lim ∧ r = nI r') → post r μ') : T_X6_leastMost 41 (nI u) (nI lim) μ post := by
  have h9 := xN h
  have hc : isSearch 41 := Or.inr rfl
  have hcl := cntB_le (nI u) n
  refine eX_load hc h.1 (fun μ1 hf1 hL _ _ => eX_fillLeast hc hL.1 (ScR_fr h.2.1 hf1 (by unfold sS; omega) (by unfold sS; omega)) hlim (fun μ2 hf2 hT => ⟨i512, ?_⟩))
  have e0 : (0 : Int32).toNatClampNeg = 0 := by decide
  rw [e0]
  have hp1 : 1 ≤ 2 ^ cntB (nI u) n := Nat.one_le_two_pow
  have f2 : Fr (sS 41) μ μ2 := Fr_tr hf1 (Fr_mono hf2 (fun q hq => by unfold sS; omega))
  refine k _ μ2 f2 (IX_41 h f2 (SRa_of hL.1 (hf2 41 (by omega)))) (fun v hv => ?_) ⟨_, (hT 0 (by omega)).2.1, (hT 0 (by omega)).1⟩
  obtain ⟨μM1, μM', a1, a2, a3, a4, a5, a6, a7⟩ := hv
  rw [(hT 0 (by omega)).1, tab_eq h9 hu hL a1 a2 a3 a4 a5 h.2.1.1 hlim (fun t ht => (hT t ht).2) a6 (2 ^ cntB (nI u) n - 1) 0 0 (by omega) (ES_0 n u), a7]
theorem eM_leastOfV {n m u : Nat} {z : Nat → Nat} {μ : Mem} {post : Int32 → Mem → Prop} (h : IM n m μ) (hu : u < 2 ^ n) (hz : ∀ t, t < 10 → μ 6 t = nI (z t)) (k : ∀ v μ', v ≤ 1000000 → Fr sL15 μ μ' → IM n m μ' → VLe n (μ 4) (μ 5) z u v → post (nI v) μ') : T_X12_leastOf (nI u) μ post := by
  refine sM_leastOf h.1 h.2.2.1 hu (fun μ1 μ2 hf hf1 hf2 hz1 e14 e17 hE => ?_)
  have h1 : WM n μ1 := WM_of h.1 (by rw [hf1 0 (by unfold sU; omega)]) (hf1 4 (by unfold sU; omega)) (hf1 6 (by unfold sU; omega))
  have hE0 := hE 0 (Nat.zero_le _) (fun i q => by rw [show (nI 0 : Int32) = 0 from rfl, hb_0] at q; exact absurd q (by decide))
  refine k _ μ2 hE0.2.1 hf (IM_fr h (Fr_mono hf (fun q hq => by unfold sL15 at hq; unfold sM; omega)) (UZ_fr hz1 hf2 (by omega) (by omega))) ⟨μ1, μ2, h1, fun w _ => by rw [hf1 4 (by unfold sU; omega)], fun w _ => by rw [hf1 5 (by unfold sU; omega)], fun s hs => by rw [hf1 4 (by unfold sU; omega)]; exact e14 s hs, fun x hx => by rw [e17 x hx, sizeF_sum hz], hE, rfl⟩
theorem all_but {n w : Nat} (h9 : n ≤ 9) : ∃ u, u < 2 ^ n ∧ nI (2 ^ n - 1) &&& (((1 : Int32) <<< (nI w &&& 31)) ^^^ (-1)) = nI u := by
  have hp1 : 1 ≤ 2 ^ n := Nat.one_le_two_pow
  exact lo_nI (lo_and (nI_lo (n := n) (by omega) (by omega)) _)
theorem tw_without {n m m' : Nat} {z1 z2 : Nat → Nat} {μX μM : Mem} {x1 : Int32} {G : Prop → Prop} {Q : Int32 → Int32 → Mem → Mem → Prop} (hG : ∀ T, T → G T) (hX : IX n m z1 z2 μX) (hM : IM n m' μM) (hK : RK n z1 z2 μX μM) (k : ∀ r r2 m1 m1' μ1 μ2, r = r2 → IX n m1 z1 z2 μ1 → IM n m1' μ2 → Fr sCS μX μ1 → Fr sMV μM μ2 → Q r r2 μ1 μ2) : T_X11_without x1 μX (fun r μ1 => G (T_X12_without x1 μM (fun r2 μ2 => Q r r2 μ1 μ2))) := by
  have h9 := xN hX
  rcases in_or x1 n (by omega) with ho | ⟨j, hj, rfl⟩
  · exact sX_wHas (xW hX) h9 (fun _ => br_t rfl (hG _ (sM_isWork hM.1 (fun _ => br_t rfl (k _ _ m m' μX μM rfl hX hM (Fr_rf _ _) (Fr_rf _ _))) (fun j hj e => absurd e (ho j hj))))) (fun j hj e => absurd e (ho j hj))
  obtain ⟨u, hu, eu⟩ := all_but (w := j) h9
  refine sX_wHas (xW hX) h9 (fun q => absurd rfl (q j hj)) (fun _ _ _ => br_f n10 (sX_all (xW hX) h9 ?_))
  rw [eu]
  refine eX_leastMostV (lim := 1000000) hX hu (by omega) (fun r μ1 hf h1 hr _ => hG _ (sM_isWork hM.1 (fun q => absurd rfl (q j hj)) (fun _ _ _ => br_f n10 (sM_all hM.1 ?_))))
  rw [eu]
  refine eM_leastOfV hM hu (fun t ht => (hK.2 t ht).1) (fun v μ2 hv hf2 h2 hV => k _ _ m m' μ1 μ2 ?_ h1 h2 (Fr_mono hf (fun q hq => by unfold sS at hq; unfold sCS; omega)) (Fr_mono hf2 (fun q hq => by unfold sL15 at hq; unfold sMV; omega)))
  rw [hr v (VLe_cong (fun w hw => (hK.1 w hw).1) (fun w hw => (hK.1 w hw).2) hV), Nat.min_eq_right hv]
/-- the widest of f: who, and how wide -/
def wst (f : Nat → Nat) : Nat → Int32 × Nat
  | 0 => (-9, 1000000)
  | k + 1 => if (wst f k).2 ≤ f k then wst f k else (nI k, f k)
theorem wst_le (f : Nat → Nat) : ∀ k, (wst f k).2 ≤ 1000000 := by
  intro k
  induction k with
  | zero => exact Nat.le_refl _
  | succ k ih =>
    show (if (wst f k).2 ≤ f k then wst f k else (nI k, f k)).2 ≤ 1000000
    by_cases q : (wst f k).2 ≤ f k
    · rw [if_pos q]; exact ih
    · rw [if_neg q]; show f k ≤ 1000000; omega
theorem wst_t {f : Nat → Nat} {k : Nat} (q : (wst f k).2 ≤ f k) : wst f (k + 1) = wst f k := if_pos q
theorem wst_f {f : Nat → Nat} {k : Nat} (q : ¬ (wst f k).2 ≤ f k) : wst f (k + 1) = (nI k, f k) := if_neg q
def VLs (n : Nat) (nd bf : Nat → Int32) (z : Nat → Nat) (f : Nat → Nat) : Prop := ∀ w, w < n → ∀ u, u < 2 ^ n → nI (2 ^ n - 1) &&& (((1 : Int32) <<< (nI w &&& 31)) ^^^ (-1)) = nI u → VLe n nd bf z u (f w)
theorem wst_cong {f g : Nat → Nat} : ∀ k, (∀ i, i < k → f i = g i) → wst f k = wst g k := by
  intro k
  induction k with
  | zero => intro _; rfl
  | succ k ih =>
    intro h
    show (if (wst f k).2 ≤ f k then wst f k else (nI k, f k)) = (if (wst g k).2 ≤ g k then wst g k else (nI k, g k))
    rw [ih (fun i hi => h i (by omega)), h k (by omega)]
theorem eX_widest {n m : Nat} {z1 z2 : Nat → Nat} {μ : Mem} {post : Int32 → Mem → Prop} (h : IX n m z1 z2 μ) (k : ∀ r μ', Fr (sS 41) μ μ' → IX n m z1 z2 μ' → (∀ f, VLs n (μ 14) (μ 15) z1 f → r = (wst f n).1) → post r μ') : T_X11_widest μ post := by
  have h9 := xN h
  intro P hP
  have H : ∀ j, j ≤ n → ∀ a b μ2, b ≤ 1000000 → Fr (sS 41) μ μ2 → IX n m z1 z2 μ2 → (∀ f, VLs n (μ 14) (μ 15) z1 f → wst f j = (a, b)) → P a (nI b) (nI j) μ2 := by
    refine down_ind (fun a b μ2 hb0 hf h2 hw => hP _ _ _ _ (br_t (by rw [xW h2]; exact nI_self_le n) (k _ μ2 hf h2 (fun f hV => by rw [hw f hV])))) (fun j hj ih a b μ2 hb0 hf h2 hw => hP _ _ _ _ (br_f (by rw [xW h2]; exact nI_ge hj (by omega)) (sX_all (xW h2) h9 ?_)))
    obtain ⟨u, hu, eu⟩ := all_but (w := j) h9
    rw [eu, nI_1]
    refine eX_leastMostV h2 hu hb0 (fun r μ3 hf3 h3 hr hex => ?_)
    obtain ⟨r', hr', er⟩ := hex
    subst er
    rw [hf 14 (by unfold sS; omega), hf 15 (by unfold sS; omega)] at hr
    have hv : ∀ f, VLs n (μ 14) (μ 15) z1 f → r' = min b (f j) := fun f hV => (nI_eq (by omega) (by omega)).mp (hr (f j) (hV j hj u hu eu))
    refine pk_le b r' (fun t => ih a b μ3 hb0 (Fr_tr hf hf3) h3 (fun f hV => ?_)) (fun t => ih (nI j) r' μ3 (by omega) (Fr_tr hf hf3) h3 (fun f hV => ?_))
    · have := hv f hV
      have e := hw f hV
      rw [wst_t (by rw [e]; show b ≤ f j; omega)]; exact e
    · have := hv f hV
      have e := hw f hV
      have ef : f j = r' := by omega
      rw [wst_f (by rw [e]; show ¬ b ≤ f j; omega), ef]
  exact H 0 (Nat.zero_le _) (-9) 1000000 μ (by omega) (Fr_rf _ _) h (fun f _ => rfl)
theorem eM_widest {n m : Nat} {z : Nat → Nat} {μ : Mem} {post : Int32 → Mem → Prop} (h : IM n m μ) (hz : ∀ t, t < 10 → μ 6 t = nI (z t)) (k : ∀ f μ', Fr sL15 μ μ' → IM n m μ' → VLs n (μ 4) (μ 5) z f → post (wst f n).1 μ') : T_X12_widest μ post := by
  have h9 := mN h
  intro P hP
  have H : ∀ j, j ≤ n → ∀ f μ2, Fr sL15 μ μ2 → IM n m μ2 → (∀ w, w < j → ∀ u, u < 2 ^ n → nI (2 ^ n - 1) &&& (((1 : Int32) <<< (nI w &&& 31)) ^^^ (-1)) = nI u → VLe n (μ 4) (μ 5) z u (f w)) → P (wst f j).1 (nI (wst f j).2) (nI j) μ2 := by
    refine down_ind (fun f μ2 hf h2 hV => hP _ _ _ _ (br_t (by rw [h2.1.1]; exact nI_self_le n) (k f μ2 hf h2 hV))) (fun j hj ih f μ2 hf h2 hV => hP _ _ _ _ (br_f (by rw [h2.1.1]; exact nI_ge hj (by omega)) (sM_all h2.1 ?_)))
    obtain ⟨u, hu, eu⟩ := all_but (w := j) h9
    rw [eu, nI_1]
    refine eM_leastOfV h2 hu (fun t ht => by rw [hf 6 (by unfold sL15; omega)]; exact hz t ht) (fun v μ3 hv hf3 h3 hVv => ?_)
    rw [hf 4 (by unfold sL15; omega), hf 5 (by unfold sL15; omega)] at hVv
    have hp := pow9 h9
    have ih' := ih (fup f j v) μ3 (Fr_tr hf hf3) h3 (fun w hw u' hu' eu' => by
      unfold fup
      by_cases e : w = j
      · subst e
        have e2 : u = u' := (nI_eq (by omega) (by omega)).mp (eu.symm.trans eu')
        subst e2
        rw [if_pos rfl]; exact hVv
      · rw [if_neg e]; exact hV w (by omega) u' hu' eu')
    have ec : wst (fup f j v) j = wst f j := wst_cong j (fun i hi => if_neg (by omega))
    have ej : fup f j v j = v := if_pos rfl
    have hwl := wst_le f j
    refine pk_le (wst f j).2 v (fun t => ?_) (fun t => ?_)
    · rw [wst_t (by rw [ec, ej]; exact t), ec] at ih'; exact ih'
    · rw [wst_f (by rw [ec, ej]; omega), ej] at ih'; exact ih'
  exact H 0 (Nat.zero_le _) (fun _ => 0) μ (Fr_rf _ _) h (fun w hw => absurd hw (by omega))
theorem tw_widest {n m m' : Nat} {z1 z2 : Nat → Nat} {μX μM : Mem} {G : Prop → Prop} {Q : Int32 → Int32 → Mem → Mem → Prop} (hG : ∀ T, T → G T) (hX : IX n m z1 z2 μX) (hM : IM n m' μM) (hK : RK n z1 z2 μX μM) (k : ∀ r r2 m1 m1' μ1 μ2, r = r2 → IX n m1 z1 z2 μ1 → IM n m1' μ2 → Fr sCS μX μ1 → Fr sMV μM μ2 → Q r r2 μ1 μ2) : T_X11_widest μX (fun r μ1 => G (T_X12_widest μM (fun r2 μ2 => Q r r2 μ1 μ2))) :=
  eX_widest hX (fun r μ1 hf h1 hr => hG _ (eM_widest hM (fun t ht => (hK.2 t ht).1) (fun f μ2 hf2 h2 hV => k _ _ m m' μ1 μ2 (hr f (fun w hw u hu eu => VLe_cong (fun w hw => (hK.1 w hw).1) (fun w hw => (hK.1 w hw).2) (hV w hw u hu eu))) h1 h2 (Fr_mono hf (fun q hq => by unfold sS at hq; unfold sCS; omega)) (Fr_mono hf2 (fun q hq => by unfold sL15 at hq; unfold sMV; omega)))))
