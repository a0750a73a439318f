/-! works of both sides are alike: the shop -/
theorem eX_forget {μ : Mem} {post : Mem → Prop} (h : TXI μ) (k : ∀ μ', Fr sT μ μ' → TXI μ' → μ' 9 3 = 0 → μ' 9 4 = 0 → μ' 9 5 = 0 → (∀ t, t < 10 → μ' 12 t = 1) → post μ') : T_X9_forget μ post := by
  intro P hP
  have H : ∀ j, j ≤ 10 → ∀ μ2, Fr sT μ μ2 → TXI μ2 → μ2 9 3 = 0 → μ2 9 4 = 0 → μ2 9 5 = 0 → (∀ t, t < j → μ2 12 t = 1) → P (nI j) μ2 := by
    refine down_ind (fun μ2 hf h2 a b c d => hP _ _ (br_t (by decide) (k μ2 hf h2 a b c d))) (fun j hj ih μ2 hf h2 a b c d => hP _ _ (br_f (nI_ge hj (by decide)) ⟨in9 hj (by omega), ?_⟩))
    rw [nI_1, cl9 (show j < 1000000 by omega)]
    have g9 : (mset μ2 12 j 1) 9 = μ2 9 := mput_o (by decide)
    refine ih _ (Fr_p hf (by unfold sT; omega)) (TXI_12 (v := 1) h2 (by decide)) (by rw [g9]; exact a) (by rw [g9]; exact b) (by rw [g9]; exact c) (fun t ht => ?_)
    rw [m2]
    by_cases e : t = j
    · subst e; rw [pk_us]
    · rw [pk_un e]; exact d t (by omega)
  have ht : TXI (mset (mset (mset μ 9 3 0) 9 4 0) 9 5 0) := by
    refine TXI_9 (TXI_9 ?_ (by decide) (by decide)) (by decide) (by decide)
    obtain ⟨h1, h2, h3, h4⟩ := h
    unfold TXI mset
    rw [mput_same, mput_o (by decide), mput_o (by decide), pk_us, pk_un (by decide)]
    exact ⟨⟨0, by omega, rfl⟩, h2, h3, h4⟩
  refine H 0 (Nat.zero_le _) _ (Fr_p (Fr_p (Fr_p (Fr_rf _ _) (by unfold sT; omega)) (by unfold sT; omega)) (by unfold sT; omega)) ht ?_ ?_ ?_ (fun t ht => absurd ht (by omega))
  · rw [m2, pk_un (by decide), m2, pk_un (by decide), m2, pk_us]
  · rw [m2, pk_un (by decide), m2, pk_us]
  · rw [m2, pk_us]
theorem eX_firstFault {r a b : Nat} {μ : Mem} {post : Int32 → Mem → Prop} (h : TXI μ) (hr : shX r = .inl 60) (hrT : ¬ sT r) (hab : a + b ≤ 60) (k : ∀ μf, Fr sT μ μf → μf 9 3 = 0 → μf 9 4 = 0 → μf 9 5 = 0 → (∀ t, t < 10 → μf 12 t = 1) → TXI (rnF (fun k => μ r (a + k)) b b 1 0 μf).2 → Fr sT μ (rnF (fun k => μ r (a + k)) b b 1 0 μf).2 → post (rnF (fun k => μ r (a + k)) b b 1 0 μf).1 (rnF (fun k => μ r (a + k)) b b 1 0 μf).2) : T_X9_firstFault r (nI a) (nI b) μ post := by
  refine eX_forget h (fun μf hf hT a1 a2 a3 a4 => ?_)
  exact eX_run hr hrT hab b 0 1 μf (by omega) hf ⟨hT, ns0 (by decide)⟩ (fun g1 g2 => k μf hf a1 a2 a3 a4 g1 g2)
/-- its answer is -1 or a place -/
theorem rnF_or {codes : Nat → Int32} {b : Nat} : ∀ f s j μ, j + f = b → (rnF codes b f s j μ).1 = -1 ∨ ∃ k, k ≤ b ∧ (rnF codes b f s j μ).1 = nI k := by
  intro f
  induction f with
  | zero =>
    intro s j μ hj
    show (if s = 2 ∨ s = 4 ∨ s = 7 then (-1 : Int32) else nI b) = -1 ∨ ∃ k, k ≤ b ∧ (if s = 2 ∨ s = 4 ∨ s = 7 then (-1 : Int32) else nI b) = nI k
    by_cases h : s = 2 ∨ s = 4 ∨ s = 7
    · left; rw [if_pos h]
    · right; exact ⟨b, Nat.le_refl _, by rw [if_neg h]⟩
  | succ f ih =>
    intro s j μ hj
    by_cases h : (stF s (codes j) μ).1 = 0
    · have e : rnF codes b (f + 1) s j μ = (nI j, (stF s (codes j) μ).2) := if_pos h
      rw [e]; exact Or.inr ⟨j, by omega, rfl⟩
    · have e : rnF codes b (f + 1) s j μ = rnF codes b f (stF s (codes j) μ).1 (j + 1) (stF s (codes j) μ).2 := if_neg h
      rw [e]; exact ih _ _ _ (by omega)
/-- the reference's readsAll by the class's run -/
theorem tM_readsAll {codes : Nat → Int32} {b p n m : Nat} {μ μf : Mem} {post : Int32 → Mem → Prop} (h : IM n m μ) (hb0 : b ≤ 60) (hp : p + b ≤ 240) (e10 : μ 0 10 = nI p) (e11 : μ 0 11 = nI (p + b)) (hcd : ∀ k, k < b → μ 3 (p + k) = codes k) (f3 : μf 9 3 = 0) (f4 : μf 9 4 = 0) (f5 : μf 9 5 = 0) (f12 : ∀ t, t < 10 → μf 12 t = 1) (hK : KK codes b p μ post b 1 0 μf) : T_X12_readsAll μ post := by
  intro P12 hP
  have g3 : (mset (mset μ 0 12 0) 0 15 0) 3 = μ 3 := by unfold mset; rw [mput_o (by decide), mput_o (by decide)]
  have g8 : (mset (mset μ 0 12 0) 0 15 0) 8 = μ 8 := by unfold mset; rw [mput_o (by decide), mput_o (by decide)]
  have g10 : (mset (mset μ 0 12 0) 0 15 0) 10 = μ 10 := by unfold mset; rw [mput_o (by decide), mput_o (by decide)]
  refine simA (μM0 := mset (mset μ 0 12 0) 0 15 0) hb0 hp (fun k hk => by rw [g3]; exact hcd k hk) hP b 0 0 0 μf _ (by omega) (by omega) ⟨?_, ?_, by omega, by omega, ?_, by omega, ?_, fun w hw => absurd hw (by omega), ?_⟩ ⟨f4, ?_, ?_, fun w hw => absurd hw (by omega), fun t ht => ?_⟩ f3 hK rfl (Fr_p (Fr_p (Fr_rf _ _) (Or.inl rfl)) (Or.inl rfl)) (CE_u (CE_u (CE_rf _) (by omega)) (by omega))
  · rw [m2, pk_un (by decide), m2, pk_un (by decide)]; exact e10
  · rw [m2, pk_un (by decide), m2, pk_un (by decide)]; exact e11
  · rw [m2, pk_un (by decide), m2, pk_us]; rfl
  · rw [g8]; exact h.2.2.2.2.1
  · rw [g10]; exact h.2.2.2.2.2.1
  · rw [m2, pk_us]; exact f5
  · rw [m2, pk_us]; exact lo_0 _
  · rw [m2, pk_us, hb_0, f12 t ht]; rfl
theorem sM_shopEnd {n m rw e : Nat} {μ3 : Mem} {post : Int32 → Mem → Prop} (h3 : IM n m μ3) (hrd : RD e e rw μ3) (k : ∀ μ', Fr (fun q => q = 0 ∨ q = 4 ∨ q = 5 ∨ q = 6) μ3 μ' → IM rw 0 μ' → (∀ s, s ≠ 5 → s ≠ 17 → μ' 0 s = μ3 0 s) → (∀ w, w < rw → μ' 4 w = μ3 8 w ∧ μ' 5 w = μ3 9 w) → (∀ t, t < 10 → μ' 6 t = if hb (μ3 0 15) t then μ3 10 t else 1) → post (nI rw) μ') : T_X12_shop_99 post 0 (mset μ3 0 5 (μ3 0 12)) := by
  have e12 := hrd.2.2.2.2.1
  have hrw9 := hrd.2.2.2.2.2.1
  have hnd := hrd.2.2.2.2.2.2.1
  have hbf := hrd.2.2.2.2.2.2.2.1
  have hsz := hrd.2.2.2.2.2.2.2.2
  rw [e12]
  have SZ : ∀ t, t < 10 → ∃ v, v ≤ 99 ∧ (if hb (μ3 0 15) t then μ3 10 t else 1) = nI v := fun t ht => by
    split
    · obtain ⟨v, hv, ev⟩ := hsz t ht
      exact ⟨v, by omega, ev⟩
    · exact ⟨1, by omega, rfl⟩
  have H145 : ∀ μ4, Fr (fun q => q = 0 ∨ q = 4 ∨ q = 5 ∨ q = 6) μ3 μ4 → μ4 0 = upd (μ3 0) 5 (nI rw) → (∀ w, w < 9 → lo 10 (μ4 4 w)) → (∀ w, w < rw → μ4 4 w = μ3 8 w ∧ μ4 5 w = μ3 9 w) → T_X12_shop_145 post 0 μ4 := by
    intro μ4 hf4 e0 g4 g5 P hP
    have H : ∀ t, t ≤ 10 → ∀ μ5, Fr (fun q => q = 0 ∨ q = 4 ∨ q = 5 ∨ q = 6) μ3 μ5 → μ5 0 = upd (μ3 0) 5 (nI rw) → (∀ w, w < 9 → lo 10 (μ5 4 w)) → (∀ w, w < rw → μ5 4 w = μ3 8 w ∧ μ5 5 w = μ3 9 w) → (∀ i, i < t → μ5 6 i = if hb (μ3 0 15) i then μ3 10 i else 1) → P (nI t) μ5 := by
      refine down_ind (fun μ5 hf5 e0 g4 g5 g6 => hP _ _ (br_t (by decide) ?_)) (fun t ht ih μ5 hf5 e0 g4 g5 g6 => hP _ _ (br_f (nI_ge (b := 10) ht (by decide)) ?_))
      · have ee : (mset μ5 0 17 0) 0 5 = nI rw := by rw [m2, pk_un (by decide), e0, pk_us]
        rw [ee]
        obtain ⟨a1, a2, a3, a4, a5, a6, a7, a8, a9⟩ := h3
        have f : Fr (fun q => q = 0 ∨ q = 4 ∨ q = 5 ∨ q = 6) μ3 (mset μ5 0 17 0) := Fr_p hf5 (Or.inl rfl)
        have fo : ∀ q, q ≠ 0 → (mset μ5 0 17 0) q = μ5 q := fun q hq => mput_o (fun e => hq e.symm)
        refine k _ f ⟨⟨ee, hrw9, ?_, fun t ht => ?_⟩, ⟨Acyc_lo (fun w hw => ?_), fun w hw => ?_⟩, UZ_fr a3 f (by omega) (by omega), ?_, ?_, ?_, by omega, ?_, fun j hj => absurd hj (by omega)⟩ (fun s h5 h17 => by rw [m2, pk_un h17, e0, pk_un h5]) (fun w hw => by rw [fo 4 (by decide), fo 5 (by decide)]; exact g5 w hw) (fun t ht => by rw [fo 6 (by decide)]; exact g6 t ht)
        · rw [fo 4 (by decide)]; exact g4
        · rw [fo 6 (by decide), g6 t ht]; exact SZ t ht
        · rw [fo 5 (by decide), (g5 w hw).2]; exact hbf w hw
        · rw [fo 5 (by decide), (g5 w hw).2]; exact lo_mono (hbf w hw) (by omega)
        · rw [f 2 (by omega)]; exact a4
        · rw [f 8 (by omega)]; exact a5
        · rw [f 10 (by omega)]; exact a6
        · rw [m2, pk_us]; rfl
      · have i1 := in9 ht (show 10 < 1000000 by omega)
        have h181 : ∀ v, v = (if hb (μ3 0 15) t then μ3 10 t else 1) → T_X12_shop_181 post P (nI t) v (nI t) μ5 := by
          intro v hv
          refine ⟨i1, ?_⟩
          rw [nI_1]
          refine ih _ (Fr_p hf5 (by omega)) (by unfold mset; rw [mput_o (by decide)]; exact e0) (by unfold mset; rw [mput_o (by decide)]; exact g4) (fun w hw => by unfold mset; rw [mput_o (by decide), mput_o (by decide)]; exact g5 w hw) (fun t2 ht2 => ?_)
          rw [m2, cl9 (show t < 1000000 by omega)]
          by_cases e : t2 = t
          · subst e; rw [pk_us]; exact hv
          · rw [pk_un e]; exact g6 t2 (by omega)
        rw [show μ5 0 15 = μ3 0 15 by rw [e0, pk_un (by decide)]]
        refine sM_hasB (by omega) (fun q => br_t rfl (h181 1 ?_)) (fun q => br_f n10 ⟨i1, ?_⟩)
        · rw [q]; rfl
        · rw [cl9 (show t < 1000000 by omega), hf5 10 (by omega)]
          exact h181 _ (by rw [q]; rfl)
    exact H 0 (Nat.zero_le _) μ4 hf4 e0 g4 g5 (fun i hi => absurd hi (by omega))
  intro P hP
  have H : ∀ w, w ≤ rw → ∀ μ4, Fr (fun q => q = 0 ∨ q = 4 ∨ q = 5 ∨ q = 6) μ3 μ4 → μ4 0 = upd (μ3 0) 5 (nI rw) → (∀ w, w < 9 → lo 10 (μ4 4 w)) → (∀ i, i < w → μ4 4 i = μ3 8 i ∧ μ4 5 i = μ3 9 i) → P (nI w) μ4 := by
    refine down_ind (fun μ4 hf4 e0 g4 g5 => hP _ _ (br_t (by rw [e0, pk_us]; exact nI_self_le rw) (H145 μ4 hf4 e0 g4 g5))) (fun w hw ih μ4 hf4 e0 g4 g5 => hP _ _ (br_f (by rw [e0, pk_us]; exact nI_ge hw (by omega)) ?_))
    have i1 := in9 (show w < 9 by omega) (show 9 < 1000000 by omega)
    rw [nI_1, cl9 (show w < 1000000 by omega), hf4 8 (by omega)]
    have e9 : (mset μ4 4 w (μ3 8 w)) 9 = μ3 9 := by unfold mset; rw [mput_o (by decide), hf4 9 (by omega)]
    rw [e9]
    refine ⟨i1, i1, i1, i1, ih _ (Fr_p (Fr_p hf4 (by omega)) (by omega)) ?_ (fun i hi => ?_) (fun i hi => ?_)⟩
    · unfold mset; rw [mput_o (by decide), mput_o (by decide)]; exact e0
    · unfold mset
      rw [mput_o (by decide), mput_same]
      by_cases e : i = w
      · subst e; rw [pk_us]; exact hnd i hi
      · rw [pk_un e]; exact g4 i hi
    · have b4 : (mset (mset μ4 4 w (μ3 8 w)) 5 w (μ3 9 w)) 4 = upd (μ4 4) w (μ3 8 w) := by unfold mset; rw [mput_o (by decide), mput_same]
      have b5 : (mset (mset μ4 4 w (μ3 8 w)) 5 w (μ3 9 w)) 5 = upd (μ4 5) w (μ3 9 w) := by unfold mset; rw [mput_same, mput_o (by decide)]
      rw [b4, b5]
      by_cases e : i = w
      · subst e; rw [pk_us, pk_us]; exact ⟨rfl, rfl⟩
      · rw [pk_un e, pk_un e]; exact g5 i (by omega)
  refine H 0 (Nat.zero_le _) _ (Fr_put _ _ (Or.inl rfl)) (m2 _ _ _ _) ?_ (fun i hi => absurd hi (by omega))
  unfold mset; rw [mput_o (by decide)]; exact h3.1.2.2.1
/-- works alike: n of them, sizes z1, prices z2 -/
def RK (n : Nat) (z1 z2 : Nat → Nat) (μX μM : Mem) : Prop := (∀ w, w < n → μX 14 w = μM 4 w ∧ μX 15 w = μM 5 w) ∧ (∀ t, t < 10 → μM 6 t = nI (z1 t) ∧ μM 7 t = nI (z2 t))
theorem RK_fr {n : Nat} {z1 z2 : Nat → Nat} {SX SM : Nat → Prop} {μX μM μX' μM' : Mem} (h : RK n z1 z2 μX μM) (f : Fr SX μX μX') (g : Fr SM μM μM') (x14 : ¬ SX 14) (x15 : ¬ SX 15) (y4 : ¬ SM 4) (y5 : ¬ SM 5) (y6 : ¬ SM 6) (y7 : ¬ SM 7) : RK n z1 z2 μX' μM' := by
  unfold RK
  rw [f 14 x14, f 15 x15, g 4 y4, g 5 y5, g 6 y6, g 7 y7]
  exact h
theorem sX_takeOver2 {n : Nat} {z : Nat → Nat} {μ : Mem} {post : Mem → Prop} (h : WK n μ) (hz : ScR 16 z μ) (ht : TXI μ) (k : ∀ c z' μ', c ≤ 9 → μ 9 3 = nI c → Fr sW μ μ' → WK c μ' → ScR 16 z' μ' → (∀ t, t < 10 → μ 12 t = nI (z' t)) → (∀ w, w < c → μ' 14 w = μ 10 w ∧ μ' 15 w = μ 11 w) → μ' 13 5 = μ 13 5 + 1 → post μ') : T_X10_takeOver μ post := by
  obtain ⟨c, hc, ec⟩ := ht.1
  have hsz := ht.2.2.2
  have hnd := ht.2.2.1
  intro P hP
  have H2 : ∀ μ1, Fr sW μ μ1 → WK c μ1 → ScR 16 z μ1 → μ1 13 5 = μ 13 5 → (∀ w, w < c → μ1 14 w = μ 10 w ∧ μ1 15 w = μ 11 w) → T_X10_takeOver_50 post 0 μ1 := by
    intro μ1 hf1 hw1 hz1 hv1 hx1 P2 hP2
    have H3 : ∀ j, j ≤ 10 → ∀ z2 μ2, Fr sW μ μ2 → WK c μ2 → ScR 16 z2 μ2 → μ2 13 5 = μ 13 5 → (∀ t, t < j → μ 12 t = nI (z2 t)) → (∀ w, w < c → μ2 14 w = μ 10 w ∧ μ2 15 w = μ 11 w) → P2 (nI j) μ2 := by
      refine down_ind (fun z2 μ2 hf2 hw2 hz2 hv2 ht2 hx2 => ?_) (fun j hj ih z2 μ2 hf2 hw2 hz2 hv2 ht2 hx2 => ?_)
      · refine hP2 _ _ (br_t (by decide) (k c z2 _ hc ec (Fr_p hf2 (by unfold sW; omega)) ?_ (ScR_p hz2 (by decide) (by decide)) ht2 (fun w hw => ?_) (by rw [m2, pk_us, hv2])))
        · refine ⟨?_, hc, fun w hw => ?_⟩
          · rw [m2, pk_un (by decide)]; exact hw2.1
          · unfold mset; rw [mput_o (by decide)]; exact hw2.2.2 w hw
        · unfold mset
          rw [mput_o (by decide), mput_o (by decide)]
          exact hx2 w hw
      · refine hP2 _ _ (br_f (nI_ge hj (by decide)) ⟨in9 hj (by omega), ?_⟩)
        obtain ⟨v, hv, ev⟩ := hsz j hj
        rw [cl9 (show j < 1000000 by omega), hf2 12 (by unfold sW; omega), ev, nI_1]
        refine sX_change (Or.inl rfl) hz2 hj (by omega) (fun μ3 hf3 hz3 => ih _ μ3 (Fr_tr hf2 (Fr_mono hf3 (fun q hq => by unfold sW; omega))) (WK_fr hw2 hf3 (by omega) (by omega)) hz3 (by rw [hf3 13 (by omega)]; exact hv2) (fun t ht => ?_) (fun w hw => ?_))
        · unfold zup
          by_cases e : t = j
          · subst e; rw [if_pos rfl]; exact ev
          · rw [if_neg e]; exact ht2 t (by omega)
        · rw [hf3 14 (by omega), hf3 15 (by omega)]
          exact hx2 w hw
    exact H3 0 (Nat.zero_le _) z μ1 hf1 hw1 hz1 hv1 (fun t ht => absurd ht (by omega)) hx1
  have H : ∀ j, j ≤ c → ∀ μ2, Fr sW μ μ2 → WK c μ2 → ScR 16 z μ2 → μ2 13 5 = μ 13 5 → (∀ w, w < j → μ2 14 w = μ 10 w ∧ μ2 15 w = μ 11 w) → P (nI j) μ2 := by
    refine down_ind (fun μ2 hf2 hw2 hz2 hv2 hx2 => hP _ _ (br_t (by rw [hw2.1]; exact nI_self_le c) (H2 μ2 hf2 hw2 hz2 hv2 hx2))) (fun j hj ih μ2 hf2 hw2 hz2 hv2 hx2 => hP _ _ (br_f (by rw [hw2.1]; exact nI_ge hj (by omega)) ?_))
    have i1 := in9 (show j < 9 by omega) (by omega)
    rw [nI_1, cl9 (show j < 1000000 by omega), hf2 10 (by unfold sW; omega)]
    have e11 : (mset μ2 14 j (μ 10 j)) 11 j = μ 11 j := by unfold mset; rw [mput_o (by decide), hf2 11 (by unfold sW; omega)]
    rw [e11]
    refine ⟨i1, i1, i1, i1, ih _ (Fr_p (Fr_p hf2 (by unfold sW; omega)) (by unfold sW; omega)) ⟨?_, hc, fun w hw => ?_⟩ (ScR_p (ScR_p hz2 (by decide) (by decide)) (by decide) (by decide)) ?_ (fun w hw => ?_)⟩
    · unfold mset; rw [mput_o (by decide), mput_o (by decide)]; exact hw2.1
    · unfold mset
      rw [mput_o (by decide), mput_same]
      by_cases e : w = j
      · subst e; rw [pk_us]; exact hnd w hw
      · rw [pk_un e]; exact hw2.2.2 w hw
    · unfold mset; rw [mput_o (by decide), mput_o (by decide)]; exact hv2
    · unfold mset
      rw [mput_o (show (15 : Nat) ≠ 14 by decide), mput_same, mput_same, mput_o (by decide)]
      by_cases e : w = j
      · subst e; rw [pk_us, pk_us]; exact ⟨rfl, rfl⟩
      · rw [pk_un e, pk_un e]; exact hx2 w (by omega)
  refine H 0 (Nat.zero_le _) _ (Fr_put _ _ (by unfold sW; omega)) ⟨?_, hc, fun w hw => ?_⟩ (ScR_p hz (by decide) (by decide)) (by rw [m2, pk_un (by decide)]) (fun w hw => absurd hw (by omega))
  · rw [m2, pk_us]; exact ec
  · unfold mset; rw [mput_o (by decide)]; exact h.2.2 w hw
theorem rf_rfm {j : Nat} {x : Int32} {μX μM : Mem} (h : RS1 j μX μM) : rfm (μM 1 j) x = rf (μX 3 j) x ∧ (rf (μX 3 j) x = 0 → μX 4 j = μM 2 j) := by
  rcases h with ⟨a, b⟩ | ⟨l, L, h1, h2, h3, h4, h5, h6, h7⟩
  · rw [a, b]
    refine ⟨by unfold rfm rf; rw [if_pos rfl, if_pos rfl], fun e => ?_⟩
    rw [rf_1] at e
    exact absurd e n10
  · rw [h3, h4, h5, h6]
    exact ⟨by unfold rfm rf; rw [if_neg (nI_ne9 (by omega)), if_neg (nI_ne1 (by omega))], fun _ => rfl⟩
theorem csf_cong {r i n L L' : Int32} (h : r = 0 → L = L') : csf r i n L = csf r i n L' := by
  unfold csf
  by_cases e : r = 0
  · rw [h e]
  · rw [if_neg e, if_neg e]
def sC : Nat → Prop := fun q => q = 0 ∨ (9 ≤ q ∧ q ≤ 12)
def sTk : Nat → Prop := fun q => q = 0 ∨ (9 ≤ q ∧ q ≤ 18) ∨ q = 22
def sTm : Nat → Prop := fun q => q = 0 ∨ (4 ≤ q ∧ q ≤ 6) ∨ (8 ≤ q ∧ q ≤ 10)
theorem tw_shop {n m m' : Nat} {z1 z2 : Nat → Nat} {μX μM : Mem} {x1 x2 x3 x4 : Int32} {G : Prop → Prop} {Q : Int32 → Int32 → Mem → Mem → Prop} (hG : ∀ T, T → G T) (hX : IX n m z1 z2 μX) (hM : IM n m' μM) (hR : RS μX μM) (hK : RK n z1 z2 μX μM)
    (k1 : ∀ r r2 μ1 μ2, IX n m z1 z2 μ1 → IM n m' μ2 → RS μ1 μ2 → RK n z1 z2 μ1 μ2 → RF μ1 μ2 → μ1 0 12 = μX 0 12 → μ2 0 1 = μM 0 1 → Fr sC μX μ1 → Fr sRd μM μ2 → Q r r2 μ1 μ2)
    (k2 : ∀ rw z' μ1 μ2, IX rw 0 z' z2 μ1 → IM rw 0 μ2 → RS μ1 μ2 → RK rw z' z2 μ1 μ2 → RF μ1 μ2 → μ1 0 12 = μX 0 12 → μ2 0 1 = μM 0 1 → Fr sTk μX μ1 → Fr sTm μM μ2 → μ1 13 5 = μX 13 5 + 1 → Q (nI rw) (nI rw) μ1 μ2) : T_X11_shop x1 x2 x3 x4 μX (fun r μ1 => G (T_X12_shop x1 x2 x3 x4 μM (fun r2 μ2 => Q r r2 μ1 μ2))) := by
  have hX1 : IX n m z1 z2 (mset μX 0 13 0) := IX_q hX fre0
  have hM1 : IM n m' (mset μM 0 0 0) := IM_0 hM (by decide) (by decide)
  have hR1 : RS (mset μX 0 13 0) (mset μM 0 0 0) := RS_00 hR
  have tX : (mset μX 0 13 0) 0 12 = μX 0 12 := by rw [m2, pk_un (by decide)]
  have tM : (mset μM 0 0 0) 0 1 = μM 0 1 := by rw [m2, pk_un (by decide)]
  have fX : (mset μX 0 13 0) 0 13 = 0 := by rw [m2, pk_us]
  have fM : (mset μM 0 0 0) 0 0 = 0 := by rw [m2, pk_us]
  have gX : Fr sC μX (mset μX 0 13 0) := Fr_put _ _ (Or.inl rfl)
  have gM : Fr sRd μM (mset μM 0 0 0) := Fr_put _ _ (Or.inl rfl)
  have hK1 : RK n z1 z2 (mset μX 0 13 0) (mset μM 0 0 0) := RK_fr hK gX gM (by unfold sC; omega) (by unfold sC; omega) (by unfold sRd; omega) (by unfold sRd; omega) (by unfold sRd; omega) (by unfold sRd; omega)
  unfold T_X11_shop T_X12_shop
  generalize mset μX 0 13 0 = μX1 at hX1 hR1 hK1 tX fX gX ⊢
  generalize mset μM 0 0 0 = μM1 at hM1 hR1 hK1 tM fM gM ⊢
  have k0 : ∀ r, Q r r μX1 μM1 := fun r => k1 r r _ _ hX1 hM1 hR1 hK1 (fX.trans fM.symm) tX tM gX gM
  rcases in_or x1 4 (by omega) with ho | ⟨j, hj, rfl⟩
  · refine sX_isSheet (fun _ => rb_f rfl (hG _ ?_)) (fun j hj e => absurd e (ho j hj))
    exact sM_isSheet (fun _ => rb_f rfl (k0 _)) (fun j hj e => absurd e (ho j hj))
  have i1 := in9 hj (show 4 < 1000000 by omega)
  refine sX_isSheet (fun q => absurd rfl (q j hj)) (fun _ _ _ => rb_t n10 ?_)
  have inM : ∀ T, T → T_X12_isSheet (nI j) μM1 (fun (u1 : Int32) (μ2 : Mem) => ((¬ u1 = 0 → T) ∧ (u1 = 0 → False))) → True := fun _ _ _ => trivial
  rcases in_or x2 3 (by omega) with ho | ⟨y, hy, rfl⟩
  · refine sX_isLane (fun _ => rb_f rfl (hG _ ?_)) (fun j hj e => absurd e (ho j hj))
    exact sM_isSheet (fun q => absurd rfl (q j hj)) (fun _ _ _ => rb_t n10 (sM_isLane (fun _ => rb_f rfl (k0 _)) (fun j hj e => absurd e (ho j hj))))
  refine sX_isLane (fun q => absurd rfl (q y hy)) (fun _ _ _ => rb_t n10 (sX_cellsFault hj ?_))
  obtain ⟨er, el⟩ := rf_rfm (x := nI y) (hR1 j hj)
  have ecs : csf (rfm (μM1 1 j) (nI y)) x3 x4 (μM1 2 j) = csf (rf (μX1 3 j) (nI y)) x3 x4 (μX1 4 j) := by rw [er]; exact (csf_cong el).symm
  have goM : ∀ (post2 : Int32 → Mem → Prop), (((csf (rf (μX1 3 j) (nI y)) x3 x4 (μX1 4 j) = 0 → T_X12_readsAll (mset (mset μM1 0 10 ((60 * nI j) + x3)) 0 11 (((60 * nI j) + x3) + x4)) (fun (u7 : Int32) (μ8 : Mem) => ((¬ u7 = 0 → T_X12_shop_99 post2 0 (mset μ8 0 5 (μ8 0 12))) ∧ (u7 = 0 → post2 ((-100) - ((μ8 0 10) - ((60 * nI j) + x3))) μ8)))) ∧ (¬ csf (rf (μX1 3 j) (nI y)) x3 x4 (μX1 4 j) = 0 → post2 ((-10) - csf (rf (μX1 3 j) (nI y)) x3 x4 (μX1 4 j)) (mset μM1 0 0 (csf (rf (μX1 3 j) (nI y)) x3 x4 (μX1 4 j)))))) → T_X12_isSheet (nI j) μM1 (fun (u1 : Int32) (μ2 : Mem) => ((¬ u1 = 0 → T_X12_isLane (nI y) μ2 (fun (u3 : Int32) (μ4 : Mem) => ((¬ u3 = 0 → T_X12_against (nI j) (nI y) x3 x4 μ4 (fun (u5 : Int32) (μ6 : Mem) => ((u5 = 0 → T_X12_readsAll (mset (mset μ6 0 10 ((60 * nI j) + x3)) 0 11 (((60 * nI j) + x3) + x4)) (fun (u7 : Int32) (μ8 : Mem) => ((¬ u7 = 0 → T_X12_shop_99 post2 0 (mset μ8 0 5 (μ8 0 12))) ∧ (u7 = 0 → post2 ((-100) - ((μ8 0 10) - ((60 * nI j) + x3))) μ8)))) ∧ (¬ u5 = 0 → T_X12_fails u5 μ6 (fun (u9 : Int32) (μ10 : Mem) => post2 u9 μ10))))) ∧ (u3 = 0 → post2 (-2) μ4)))) ∧ (u1 = 0 → post2 (-1) μ2))) := by
    intro post2 hq
    refine sM_isSheet (fun q => absurd rfl (q j hj)) (fun _ _ _ => rb_t n10 (sM_isLane (fun q => absurd rfl (q y hy)) (fun _ _ _ => rb_t n10 (sM_against hj ?_))))
    rw [ecs]
    exact hq
  refine ⟨fun hc0 => ⟨i1, ?_⟩, fun hc0 => hG _ (goM _ (br_f hc0 ?_))⟩
  · obtain ⟨L, hL, eL⟩ := xSh hX1 hj
    have hc0' := hc0
    rw [eL] at hc0'
    obtain ⟨er0, a, b, rfl, rfl, hab⟩ := csf_0 hL hc0'
    rw [cl9 (show j < 1000000 by omega)]
    have hcells : ∀ i, i < b → μM1 3 (60 * j + a + i) = μX1 (5 + j) (a + i) := fun i hi => by
      rcases hR1 j hj with ⟨a1, -⟩ | ⟨l, L', h1, h2, h3, h4, h5, h6, h7⟩
      · rw [a1, rf_1] at er0; exact absurd er0 n10
      · have eLL : L' = L := (nI_eq (by omega) (by omega)).mp (h5.symm.trans eL)
        subst eLL
        rw [h7 (a + i) (by omega)]
        congr 1
        omega
    refine eX_firstFault hX1.2.2.2.2.2.2.2.1 (shXs hj) (by unfold sT; omega) (by omega) (fun μf hff f3 f4 f5 f12 gT gF => ?_)
    have hM2 : IM n m' (mset (mset μM1 0 10 ((60 * nI j) + nI a)) 0 11 (((60 * nI j) + nI a) + nI b)) := IM_0 (IM_0 hM1 (by decide) (by decide)) (by decide) (by decide)
    have e10 : (mset (mset μM1 0 10 ((60 * nI j) + nI a)) 0 11 (((60 * nI j) + nI a) + nI b)) 0 10 = nI (60 * j + a) := by rw [m2, pk_un (by decide), m2, pk_us, sixty_mul]
    have e11 : (mset (mset μM1 0 10 ((60 * nI j) + nI a)) 0 11 (((60 * nI j) + nI a) + nI b)) 0 11 = nI (60 * j + a + b) := by rw [m2, pk_us, sixty_mul, nI_add]
    have e3 : (mset (mset μM1 0 10 ((60 * nI j) + nI a)) 0 11 (((60 * nI j) + nI a) + nI b)) 3 = μM1 3 := by unfold mset; rw [mput_o (by decide), mput_o (by decide)]
    have eM1 : (mset (mset μM1 0 10 ((60 * nI j) + nI a)) 0 11 (((60 * nI j) + nI a) + nI b)) 0 1 = μM 0 1 := by rw [m2, pk_un (by decide), m2, pk_un (by decide)]; exact tM
    have eM0 : (mset (mset μM1 0 10 ((60 * nI j) + nI a)) 0 11 (((60 * nI j) + nI a) + nI b)) 0 0 = 0 := by rw [m2, pk_un (by decide), m2, pk_un (by decide)]; exact fM
    have gM2 : Fr sRd μM (mset (mset μM1 0 10 ((60 * nI j) + nI a)) 0 11 (((60 * nI j) + nI a) + nI b)) := Fr_p (Fr_p gM (Or.inl rfl)) (Or.inl rfl)
    have goM2 := fun post2 hq => goM post2 (br_t hc0 hq)
    generalize mset (mset μM1 0 10 ((60 * nI j) + nI a)) 0 11 (((60 * nI j) + nI a) + nI b) = μM2 at hM2 e10 e11 e3 eM1 eM0 gM2 goM2
    have hX2 := IX_T hX1 gF gT
    have gX2 : Fr sC μX (rnF (fun k => μX1 (5 + j) (a + k)) b b 1 0 μf).2 := Fr_tr gX (Fr_mono gF (fun q hq => by unfold sT at hq; unfold sC; omega))
    have tX2 : (rnF (fun k => μX1 (5 + j) (a + k)) b b 1 0 μf).2 0 12 = μX 0 12 := by rw [gF 0 (by unfold sT; omega)]; exact tX
    have fX2 : (rnF (fun k => μX1 (5 + j) (a + k)) b b 1 0 μf).2 0 13 = 0 := by rw [gF 0 (by unfold sT; omega)]; exact fX
    have v2 : (rnF (fun k => μX1 (5 + j) (a + k)) b b 1 0 μf).2 13 = μX 13 := gX2 13 (by unfold sC; omega)
    have rn := rnF_or (codes := fun k => μX1 (5 + j) (a + k)) (b := b) b 1 0 μf (by omega)
    have hread : ∀ post2, KK (fun k => μX1 (5 + j) (a + k)) b (60 * j + a) μM2 post2 b 1 0 μf → T_X12_readsAll μM2 post2 := fun post2 hk => tM_readsAll hM2 (by omega) (by omega) e10 e11 (fun k hk => by rw [e3]; exact hcells k hk) f3 f4 f5 f12 hk
    unfold KK at hread
    generalize rnF (fun k => μX1 (5 + j) (a + k)) b b 1 0 μf = R at gT gF hX2 gX2 tX2 fX2 v2 rn hread ⊢
    obtain ⟨R1, R2⟩ := R
    rcases rn with e | ⟨q, hq, e⟩
    · have e : R1 = -1 := e
      subst e
      refine br_t (show (-1 : Int32) < 0 by decide) (sX_takeOver2 hX2.1 hX2.2.1 gT (fun c z' μ3 hc ec hf3 hw3 hz3 hsz3 hwk3 hv3 => hG _ (goM2 _ (hread _ ⟨fun _ rw μM3 hrd hfd gf gc => ?_, fun e => absurd rfl e⟩))))
      refine ⟨fun _ => ?_, fun e => absurd e n10⟩
      have hM3 := IM_rd hM2 gf gc hrd
      have ecr : c = rw := (nI_eq (by omega) (by have := hrd.2.2.2.2.2.1; omega)).mp (ec.symm.trans hfd.1)
      subst ecr
      have e134 : (mset μ3 22 2 0) 13 4 = nI c := by unfold mset; rw [mput_o (by decide)]; exact hw3.1
      rw [e134]
      refine sM_shopEnd hM3 hrd (fun μM4 gf4 hM4 e04 hw4 hs4 => ?_)
      have gX3 : Fr sTk μX (mset μ3 22 2 0) := Fr_p (Fr_tr (Fr_mono gX2 (fun q hq => by unfold sC at hq; unfold sTk; omega)) (Fr_mono hf3 (fun q hq => by unfold sW at hq; unfold sTk; omega))) (by unfold sTk; omega)
      have gM4 : Fr sTm μM μM4 := Fr_tr (Fr_tr (Fr_mono gM2 (fun q hq => by unfold sRd at hq; unfold sTm; omega)) (Fr_mono gf (fun q hq => by unfold sRd at hq; unfold sTm; omega))) (Fr_mono gf4 (fun q hq => by unfold sTm; omega))
      refine k2 c z' _ μM4 ?_ hM4 (RS_fr hR gX3 gM4 (fun q h1 h2 => by unfold sTk; omega) (fun q h1 h2 => by unfold sTm; omega)) ⟨fun w hw => ?_, fun t ht => ⟨?_, ?_⟩⟩ ?_ ?_ ?_ gX3 gM4 ?_
      · obtain ⟨a1, a2, a3, a4, a5, a6, a7, a8, a9, a10, a11, a12⟩ := hX2
        have g : Fr (fun q => sW q ∨ q = 22) R2 (mset μ3 22 2 0) := Fr_p (Fr_mono hf3 (fun k q => Or.inl q)) (Or.inr rfl)
        refine ⟨WK_p hw3 (by decide) (by decide), ScR_p hz3 (by decide) (by decide), ScR_fr a3 g (by unfold sW; omega) (by unfold sW; omega), OP_fr a4 g (by unfold sW; omega), a5.imp fun a q => SRa_of q (g 35 (by unfold sW; omega)), a6.imp fun a q => SRa_of q (g 41 (by unfold sW; omega)), RM_of a7 (g 53 (by unfold sW; omega)), TXI_fr a8 g (by unfold sW; omega) (by unfold sW; omega) (by unfold sW; omega), fun k hk => ?_, by omega, ?_, fun j hj => absurd hj (by omega)⟩
        · rw [g 4 (by unfold sW; omega)]; exact a9 k hk
        · rw [m2, pk_us]; rfl
      · obtain ⟨b1, b2⟩ := hwk3 w hw
        obtain ⟨b3, b4⟩ := hw4 w hw
        obtain ⟨b5, b6⟩ := hfd.2.1 w hw
        unfold mset
        rw [mput_o (by decide), mput_o (by decide), b1, b2, b3, b4, b5, b6]
        exact ⟨rfl, rfl⟩
      · rw [hs4 t ht, ← hfd.2.2 t ht]; exact hsz3 t ht
      · rw [gM4 7 (by unfold sTm; omega)]; exact (hK.2 t ht).2
      · unfold RF mset
        rw [mput_o (by decide), hf3 0 (by unfold sW; omega), fX2, e04 0 (by decide) (by decide), gc 0 (by decide) (by decide) (by decide) (by decide)]
        exact eM0.symm
      · unfold mset; rw [mput_o (by decide), hf3 0 (by unfold sW; omega)]; exact tX2
      · rw [e04 1 (by decide) (by decide), gc 1 (by decide) (by decide) (by decide) (by decide)]; exact eM1
      · unfold mset; rw [mput_o (by decide), hv3, v2]
    · have e : R1 = nI q := e
      subst e
      refine br_f (nI_pos (by omega)) (hG _ (goM2 _ (hread _ ⟨fun e => absurd e (nI_nm1 (by omega)), fun _ a' rw μM3 hrd gf gc => ⟨fun e => absurd rfl e, fun _ => ?_⟩⟩)))
      refine k1 _ _ _ _ hX2 (IM_rd hM2 gf gc hrd) (RS_fr hR gX2 (Fr_tr gM2 gf) (fun q h1 h2 => by unfold sC; omega) (fun q h1 h2 => by unfold sRd; omega)) (RK_fr hK gX2 (Fr_tr gM2 gf) (by unfold sC; omega) (by unfold sC; omega) (by unfold sRd; omega) (by unfold sRd; omega) (by unfold sRd; omega) (by unfold sRd; omega)) ?_ tX2 ?_ gX2 (Fr_tr gM2 gf)
      · unfold RF
        rw [fX2, gc 0 (by decide) (by decide) (by decide) (by decide)]; exact eM0.symm
      · rw [gc 1 (by decide) (by decide) (by decide) (by decide)]; exact eM1
  · generalize csf (rf (μX1 3 j) (nI y)) x3 x4 (μX1 4 j) = c
    refine k1 _ _ _ _ (IX_q hX1 fre0) (IM_0 hM1 (by decide) (by decide)) (RS_00 hR1) (RK_fr hK1 (Fr_put (S := fun q => q = 0) _ _ rfl) (Fr_put (S := fun q => q = 0) _ _ rfl) (by omega) (by omega) (by omega) (by omega) (by omega) (by omega)) (by unfold RF; rw [m2, m2, pk_us, pk_us]) (by rw [m2, pk_un (by decide)]; exact tX) (by rw [m2, pk_un (by decide)]; exact tM) (Fr_p gX (Or.inl rfl)) (Fr_p gM (Or.inl rfl))
