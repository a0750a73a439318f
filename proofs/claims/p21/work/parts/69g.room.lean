/-! room: both answer alike -/
theorem DPc_mono {N Bt : Nat → Int32} {z zp : Nat → Nat} {r r' : Nat} (hzp : ∀ t, zp t ≤ 99) (hr : r ≤ r') : ∀ k V V', DPc N Bt z zp r k V → DPc N Bt z zp r' k V' → ∀ s, s < 1024 → V' s ≤ V s := by
  intro k
  induction k with
  | zero => intro V V' h h' s hs; rw [h s hs, h' s hs]; exact Nat.le_refl _
  | succ k ih =>
    intro V V' h h' s hs
    have bd' := (DPc_bd hzp _ _ h' s hs).1
    obtain ⟨Vp, a, b⟩ := h
    obtain ⟨Vp', a', b'⟩ := h'
    by_cases q : okP N Bt z r (k + 1) s
    · rcases ((b s hs).1 q).2.2 with t | ⟨s', g1, g2, g3, g4⟩
      · omega
      · have m := ih Vp Vp' a a' s' g1
        have := ((b' s hs).1 ⟨q.1, Nat.le_trans q.2 hr⟩).2.1 (Vp' s' + prP N Bt zp k s') ⟨s', g1, by omega, g3, rfl⟩
        omega
    · rw [(b s hs).2 q]; exact bd'
theorem open_B {nd row : Nat → Int32} {n k : Nat} (hk : k < n) : openF nd row n k = Br nd row n k ||| Nr nd row k := by
  refine hb_ext (fun b _ => ?_)
  unfold Br
  rw [hb_or, hb_andn]
  cases e : hb (Nr nd row k) b
  · rw [Bool.not_false, Bool.and_true, Bool.or_false]
  · rw [Bool.or_true]
    unfold openF
    rw [hb_and, aheadF_hb.mpr ⟨k, hk, Nat.le_refl _, e⟩, behindF_hb.mpr ⟨k, hk, Nat.le_refl _, e⟩]
    rfl
theorem DPc_zero {nd row : Nat → Int32} {n r : Nat} {z zp : Nat → Nat} (hlo : ∀ k, k < n → lo 10 (Br nd row n k)) (hr : ∀ k, k < n → sum10 z (openF nd row n k) ≤ r) : ∀ k V, k < n → DPc (Nr nd row) (Br nd row n) z zp r k V → ∀ b, b < 1024 → Br nd row n k = nI b → V b = 0 := by
  intro k
  induction k with
  | zero =>
    intro V _ h b hb0 e
    have : b = 0 := sub_0 hb0 Br_0 (by rw [e]; exact fun _ q => q)
    rw [h b hb0, if_pos this]
  | succ k ih =>
    intro V hk h b hb0 e
    obtain ⟨Vp, a, st⟩ := h
    obtain ⟨b', hb', e'⟩ := lo_nI (hlo k (by omega))
    have hb' : b' < 1024 := hb'
    have z0 := ih Vp (by omega) a b' hb' e'
    have ok : okP (Nr nd row) (Br nd row n) z r (k + 1) b := by
      refine ⟨by rw [e]; exact fun _ q => q, ?_⟩
      have := hr (k + 1) hk
      rw [open_B hk, sum10_or (fun i q => Br_N i q), e] at this
      exact this
    have := ((st b hb0).1 ok).2.1 (Vp b' + prP (Nr nd row) (Br nd row n) zp k b') ⟨b', hb', by omega, fun i q => ?_, rfl⟩
    · have p0 : prP (Nr nd row) (Br nd row n) zp k b' = 0 := by
        unfold prP
        rw [e']
        refine sum10_z (fun i => ?_)
        rw [hb_andn, hb_and]
        cases hb (nI b') i <;> simp
      omega
    · rw [← e] at q
      rw [← e', hb_or]
      cases eN : hb (Nr nd row k) i
      · rw [Bool.or_false]
        have nN := Br_N i q
        unfold Br openF at q
        rw [hb_andn, hb_and, Bool.and_eq_true, Bool.and_eq_true] at q
        obtain ⟨⟨q1, q2⟩, -⟩ := q
        obtain ⟨i1, a1, a2, a3⟩ := aheadF_hb.mp q1
        obtain ⟨i2, c1, c2, c3⟩ := behindF_hb.mp q2
        have : i1 ≠ k + 1 := fun t => by
          rw [t] at a3
          rw [show hb (Nr nd row (k + 1)) i = true from a3] at nN
          exact absurd nN (by decide)
        unfold Br openF
        rw [hb_andn, hb_and, eN, aheadF_hb.mpr ⟨i1, a1, by omega, a3⟩, behindF_hb.mpr ⟨i2, c1, by omega, c3⟩]
        rfl
      · rw [Bool.or_true]
def OKr (N Bt : Nat → Int32) (z zp : Nat → Nat) (n MO p r : Nat) : Prop := (∃ V, DPc N Bt z zp r (n - 1) V ∧ V 0 ≤ p) ∨ MO ≤ r
def FLr (N Bt : Nat → Int32) (z zp : Nat → Nat) (n p r : Nat) : Prop := ∃ V, DPc N Bt z zp r (n - 1) V ∧ p < V 0
theorem DPc_most {nd row : Nat → Int32} {n r : Nat} {z zp : Nat → Nat} (hlo : ∀ k, k < n → lo 10 (Br nd row n k)) (hr : moN nd z row n ≤ r) {V : Nat → Nat} (h : DPc (Nr nd row) (Br nd row n) z zp r (n - 1) V) : V 0 = 0 := by
  by_cases n0 : n = 0
  · subst n0
    exact (show ∀ s, s < 1024 → V s = if s = 0 then 0 else 1000000 from h) 0 (by omega)
  · refine DPc_zero hlo (fun k hk => Nat.le_trans (mx0_ge (f := wP nd z row n) n k hk) hr) (n - 1) V (by omega) h 0 (by omega) (hb_ext (fun b _ => ?_))
    rw [Br_z (by omega), show (nI 0 : Int32) = 0 from rfl, hb_0]
theorem OF_no {nd row : Nat → Int32} {n p r r' : Nat} {z zp : Nat → Nat} (hzp : ∀ t, zp t ≤ 99) (hlo : ∀ k, k < n → lo 10 (Br nd row n k)) (h : OKr (Nr nd row) (Br nd row n) z zp n (moN nd z row n) p r) (h' : FLr (Nr nd row) (Br nd row n) z zp n p r') : r' < r := by
  refine Nat.not_le.mp (fun q => ?_)
  obtain ⟨V', d', l'⟩ := h'
  rcases h with ⟨V, d, l⟩ | l
  · have := DPc_mono hzp q _ _ _ d d' 0 (by omega)
    omega
  · have := DPc_most hlo (Nat.le_trans l q) d'
    omega
theorem room_u {nd row : Nat → Int32} {n p l l' gn : Nat} {z zp : Nat → Nat} (hzp : ∀ t, zp t ≤ 99) (hlo : ∀ k, k < n → lo 10 (Br nd row n k)) (a1 : gn ≤ l) (a2 : OKr (Nr nd row) (Br nd row n) z zp n (moN nd z row n) p l) (a3 : l = gn ∨ ∃ l0, l = l0 + 1 ∧ FLr (Nr nd row) (Br nd row n) z zp n p l0) (b1 : gn ≤ l') (b2 : OKr (Nr nd row) (Br nd row n) z zp n (moN nd z row n) p l') (b3 : l' = 0 ∨ ∃ l0, l' = l0 + 1 ∧ (l0 < gn ∨ FLr (Nr nd row) (Br nd row n) z zp n p l0)) : l = l' := by
  have c1 : l ≤ l' := by
    rcases a3 with e | ⟨l0, e, f⟩
    · omega
    · have := OF_no hzp hlo b2 f
      omega
  have c2 : l' ≤ l := by
    rcases b3 with e | ⟨l0, e, f | f⟩
    · omega
    · omega
    · have := OF_no hzp hlo a2 f
      omega
  omega
theorem eX_leastRoom {n r p : Nat} {z z2 : Nat → Nat} {μ : Mem} {post : Int32 → Mem → Prop} (hw : WK n μ) (hz : ScR 16 z μ) (hz2 : ScR 19 z2 μ) (ho : OP μ) (hop : ∀ k, k < n → μ 34 k = openF (μ 14) (μ r) n k) (hr : shX r = .inl 9) (hrs : ¬ sR r) (hrow : RW n r μ) (hin : ∀ k, k < n → ∃ v, v < n ∧ μ r k = nI v) (h : RM μ) (hp : p ≤ 9999) (hm : μ 33 1 = nI (moN (μ 14) z (μ r) n)) (k : ∀ l μ', mx0 0 (fun w => sum10 z (μ 14 w)) n ≤ l → OKr (Nr (μ 14) (μ r)) (Br (μ 14) (μ r) n) z z2 n (moN (μ 14) z (μ r) n) p l → (l = mx0 0 (fun w => sum10 z (μ 14 w)) n ∨ ∃ l0, l = l0 + 1 ∧ FLr (Nr (μ 14) (μ r)) (Br (μ 14) (μ r) n) z z2 n p l0) → Fr sR μ μ' → RM μ' → post (nI l) μ') : T_X4_leastRoom r (nI p) μ post := by
  have h9 := hw.2.1
  have g9 : mx0 0 (fun w => sum10 z (μ 14 w)) n ≤ 990 := mx0_le (by omega) n (fun i _ => sum10_le hz.1 _)
  have m9 : moN (μ 14) z (μ r) n ≤ 990 := moN_le hz.1
  refine eX_greatestNeed hw.1 h9 hz ?_
  rw [hm]
  have hNg : ∀ k, k < n → sum10 z (Nr (μ 14) (μ r) k) ≤ mx0 0 (fun w => sum10 z (μ 14 w)) n := fun k hk => by
    obtain ⟨v, hv, e⟩ := hin k hk
    show sum10 z (μ 14 (μ r k).toNatClampNeg) ≤ _
    rw [e, cl9 (by omega)]
    exact mx0_ge (f := fun w => sum10 z (μ 14 w)) n v hv
  generalize mx0 0 (fun w => sum10 z (μ 14 w)) n = gn at *
  have em : (if nI gn < nI (moN (μ 14) z (μ r) n) then nI (moN (μ 14) z (μ r) n) else nI gn) = nI (max gn (moN (μ 14) z (μ r) n)) := by
    by_cases q : gn < moN (μ 14) z (μ r) n
    · rw [if_pos (nI_lt q (by omega)), Nat.max_eq_right (by omega)]
    · rw [if_neg (nI_nlt (by omega) (by omega)), Nat.max_eq_left (by omega)]
  rw [em]
  intro P hP
  have H : ∀ f l b μ2, b ≤ l + f → l ≤ b → gn ≤ l → b ≤ 990 → OKr (Nr (μ 14) (μ r)) (Br (μ 14) (μ r) n) z z2 n (moN (μ 14) z (μ r) n) p b → (l = gn ∨ ∃ l0, l = l0 + 1 ∧ FLr (Nr (μ 14) (μ r)) (Br (μ 14) (μ r) n) z z2 n p l0) → Fr sR μ μ2 → RM μ2 → P (nI p) (nI l) (nI b) μ2 := by
    intro f
    induction f with
    | zero =>
      intro l b μ2 h1 h2 h3 h4 h5 h6 hf hrm
      have e : b = l := by omega
      subst e
      exact hP _ _ _ _ (br_t (nI_self_le _) (k b μ2 h3 h5 h6 hf hrm))
    | succ f ih =>
      intro l b μ2 h1 h2 h3 h4 h5 h6 hf hrm
      refine hP _ _ _ _ (pk_le b l (fun hle => ?_) (fun hlt => ?_))
      · have e : b = l := by omega
        subst e
        exact k b μ2 h3 h5 h6 hf hrm
      · rw [nI_add, show (2 : Int32) = nI 2 from rfl, pk_div (by omega) (by omega) (by omega), nI_1]
        have e14 := hf 14 (by unfold sR; omega)
        have er := hf r hrs
        obtain ⟨pp, qq, hrmp⟩ := hrm
        refine eX_leastPrice (p := pp) (q := qq) (WK_fr hw hf (by unfold sR; omega) (by unfold sR; omega)) (ScR_fr hz hf (by unfold sR; omega) (by unfold sR; omega)) (ScR_fr hz2 hf (by unfold sR; omega) (by unfold sR; omega)) (OP_fr ho hf (by unfold sR; omega)) (fun k hk => by rw [hf 34 (by unfold sR; omega), e14, er]; exact hop k hk) hr hrs (RW_fr hrow hf hrs) hrmp (by omega) (fun k hk => by rw [e14, er]; have := hNg k hk; omega) (fun V p' q' μ3 hf3 hrm3 hD => ?_)
        rw [e14, er] at hD
        have hv := (DPc_bd hz2.1 _ _ hD 0 (by omega)).1
        have hf3' := Fr_tr hf hf3
        refine pk_lt p (V 0) (fun hlt2 => ih _ b μ3 (by omega) (by omega) (by omega) h4 h5 (Or.inr ⟨(l + b) / 2, rfl, V, hD, hlt2⟩) hf3' (RMp_RM hrm3)) (fun hge => ih l _ μ3 (by omega) (by omega) h3 (by omega) (Or.inl ⟨V, hD, hge⟩) h6 hf3' (RMp_RM hrm3))
  exact H 990 gn _ μ (by omega) (by omega) (Nat.le_refl _) (by omega) (Or.inr (by omega)) (Or.inl rfl) (Fr_rf _ _) h
theorem DPc_tr {N Bt N' Bt' : Nat → Int32} {z zp V : Nat → Nat} {r n : Nat} (eN : ∀ i, i < n → N i = N' i) (eB : ∀ i, i < n → Bt i = Bt' i) (h : DPc N Bt z zp r (n - 1) V) : DPc N' Bt' z zp r (n - 1) V := by
  by_cases n0 : n = 0
  · subst n0; exact h
  · exact DPc_cong (m := n - 1) (fun i hi => eN i (by omega)) (fun i hi => eB i (by omega)) (n - 1) V (Nat.le_refl _) h
theorem eM_room35 {n m p gn MO : Nat} {N Bt : Nat → Int32} {z z2 : Nat → Nat} {μ : Mem} {post : Int32 → Mem → Prop} (h : IM n m μ) (hz : ∀ t, t < 10 → μ 6 t = nI (z t)) (hz9 : ∀ t, z t ≤ 99) (hz2 : ∀ t, t < 10 → μ 7 t = nI (z2 t)) (hz29 : ∀ t, z2 t ≤ 99) (hr : RWn n 13 μ) (hp : p ≤ 9999) (eN : ∀ k, k < n → Nr (μ 4) (μ 13) k = N k) (eB : ∀ k, k < n → Br (μ 4) (μ 13) n k = Bt k) (hg1 : ∀ k, k < n → sum10 z (N k) ≤ gn) (hg2 : ∀ R, (∀ k, k < n → sum10 z (N k) ≤ R) → gn ≤ R) (hg9 : gn ≤ 99) (hMO : MO ≤ 99) (k : ∀ l μ', gn ≤ l → OKr N Bt z z2 n MO p l → (l = 0 ∨ ∃ l0, l = l0 + 1 ∧ (l0 < gn ∨ FLr N Bt z z2 n p l0)) → Fr s2021 μ μ' → post (nI l) μ') : T_X12_room_35 post (nI p) 0 99 μ := by
  intro P hP
  have H : ∀ f l b μ2, b ≤ l + f → l ≤ b → b ≤ 99 → gn ≤ b → OKr N Bt z z2 n MO p b → (l = 0 ∨ ∃ l0, l = l0 + 1 ∧ (l0 < gn ∨ FLr N Bt z z2 n p l0)) → Fr s2021 μ μ2 → P (nI p) (nI l) (nI b) μ2 := by
    intro f
    induction f with
    | zero =>
      intro l b μ2 h1 h2 h3 h4 h5 h6 hf
      have e : b = l := by omega
      subst e
      exact hP _ _ _ _ (br_t (nI_self_le _) (k b μ2 h4 h5 h6 hf))
    | succ f ih =>
      intro l b μ2 h1 h2 h3 h4 h5 h6 hf
      refine hP _ _ _ _ (pk_le b l (fun hle => ?_) (fun hlt => ?_))
      · have e : b = l := by omega
        subst e
        exact k b μ2 h4 h5 h6 hf
      · unfold T_X12_room_70
        rw [nI_add, show (2 : Int32) = nI 2 from rfl, pk_div (by omega) (by omega) (by omega), nI_1]
        have e4 := hf 4 (by unfold s2021; omega)
        have e13 := hf 13 (by unfold s2021; omega)
        have e6 := hf 6 (by unfold s2021; omega)
        have e7 := hf 7 (by unfold s2021; omega)
        refine eM_cheapestWith (z := z) (z2 := z2) (IM_2021 h hf) (by rw [e6]; exact hz) hz9 (by rw [e7]; exact hz2) hz29 (RWn_fr hr hf (by unfold s2021; omega)) (by omega) (fun j μ3 hj hgt hf3 => br_t rfl (ih _ b μ3 (by omega) (by omega) h3 h4 h5 (Or.inr ⟨(l + b) / 2, rfl, Or.inl ?_⟩) (Fr_tr hf hf3))) (fun V μ3 hall hD hf3 => ?_)
        · rw [e4, e13, eN j hj] at hgt
          have := hg1 j hj
          omega
        · rw [e4, e13] at hD hall
          have hv := (DPc_bd hz29 _ _ hD 0 (by omega)).1
          have hD' := DPc_tr eN eB hD
          have hg := hg2 ((l + b) / 2) (fun k hk => by rw [← eN k hk]; exact hall k hk)
          refine br_f (fun e => nI_pos (n := V 0) (by omega) (by rw [e]; decide)) (pk_le (V 0) p (fun hle => ih l _ μ3 (by omega) (by omega) (by omega) hg (Or.inl ⟨V, hD', hle⟩) h6 (Fr_tr hf hf3)) (fun hgt => ih _ b μ3 (by omega) (by omega) h3 h4 h5 (Or.inr ⟨(l + b) / 2, rfl, Or.inr ⟨V, hD', hgt⟩⟩) (Fr_tr hf hf3)))
  exact H 99 0 99 μ (by omega) (by omega) (by omega) hg9 (Or.inr hMO) (Or.inl rfl) (Fr_rf _ _)
theorem sum10_9 {z : Nat → Nat} (h : ∀ t, t < 10 → z t ≤ 9) (x : Int32) : sum10 z x ≤ 90 := by
  have b : ∀ t, t < 10 → bz (hb x t) (z t) ≤ 9 := fun t ht => by
    have := h t ht
    unfold bz
    split <;> omega
  unfold sum10
  have := b 0 (by omega); have := b 1 (by omega); have := b 2 (by omega); have := b 3 (by omega); have := b 4 (by omega); have := b 5 (by omega); have := b 6 (by omega); have := b 7 (by omega); have := b 8 (by omega); have := b 9 (by omega)
  omega
section TwR
variable {n m : Nat} {z1 z2 : Nat → Nat} {μX μM : Mem}
theorem tw_room {x1 x2 : Int32} {G : Prop → Prop} {Q : Int32 → Int32 → Mem → Mem → Prop} (hG : ∀ T, T → G T) (hN9 : ∀ t, t < 10 → z1 t ≤ 9) (hX : IX n m z1 z2 μX) (hM : IM n m μM) (hK : RK n z1 z2 μX μM) (hO : RO n m μX μM) (k : ∀ r r2 μ1 μ2, r = r2 → IX n m z1 z2 μ1 → IM n m μ2 → Fr sRX μX μ1 → Fr sRM μM μ2 → Q r r2 μ1 μ2) : T_X11_room x1 x2 μX (fun r μ1 => G (T_X12_room x1 x2 μM (fun r2 μ2 => Q r r2 μ1 μ2))) := by
  have h9 := xN hX
  have h8 := xM8 hX
  have k1 : ∀ r, Q r r μX μM := fun r => k _ _ μX μM rfl hX hM (Fr_rf _ _) (Fr_rf _ _)
  rcases in_or x1 m (by omega) with ho | ⟨j, hj, rfl⟩
  · exact sX_oHas (xM hX) h8 (fun _ => rb_f rfl (hG _ (sM_isOrder (mM hM) h8 (fun _ => rb_f rfl (k1 _)) (fun j hj e => absurd e (ho j hj))))) (fun j hj e => absurd e (ho j hj))
  refine sX_oHas (xM hX) h8 (fun q => absurd rfl (q j hj)) (fun _ _ _ => rb_t n10 ?_)
  rcases in_or x2 10000 (by omega) with ho | ⟨p, hp, rfl⟩
  · have fin : T_X11_room_24 (fun r μ1 => G (T_X12_room (nI j) x2 μM (fun r2 μ2 => Q r r2 μ1 μ2))) μX := hG _ (sM_isOrder (mM hM) h8 (fun q => absurd rfl (q j hj)) (fun _ _ _ => rb_t n10 (sM_in0 (L := 9999) (by omega) (fun _ => rb_f rfl (k1 _)) (fun i hi e => absurd e (ho i hi)))))
    refine ⟨fun _ => fin, fun q1 => ⟨fun q2 => ?_, fun _ => fin⟩⟩
    obtain ⟨i, hi, e⟩ := in_of (n := 9999) (by omega) q1 (Int32.not_lt.mpr q2)
    exact absurd e (ho i hi)
  refine br_f (nI_pos (by omega)) (br_t (nI_le (b := 9999) (by omega) (by omega)) ?_)
  have i1 := in9 (show j < 8 by omega) (show 8 < 1000000 by omega)
  rw [cl9 (show j < 1000000 by omega)]
  refine ⟨i1, eX_meas hX hj (fun μ1 hf1 h1 hMS => ⟨i1, ?_⟩)⟩
  have f14 := hf1 14 (by unfold sG; omega)
  have fr := hf1 (25 + j) (by unfold sG; omega)
  have sG_X : Fr sRX μX μ1 := Fr_mono hf1 (fun q hq => by unfold sG at hq; unfold sRX; omega)
  have prm := PRM_cong (RO_row hO hj) (RO_prm hM hO hj)
  have hz9 := hX.2.1.1
  have hz29 := hX.2.2.1.1
  refine eX_leastRoom (p := p) h1.1 h1.2.1 h1.2.2.1 h1.2.2.2.1 (fun k hk => by rw [hMS.1 k hk, f14, fr]) (shXr (by omega)) (by unfold sR; omega) (xRow h1 hj) (by rw [fr]; exact prm.1) h1.2.2.2.2.2.2.1 (by omega) (by rw [hMS.2.1, f14, fr]) (fun l μ2 a1 a2 a3 hf2 hrm2 => hG _ (sM_isOrder (mM hM) h8 (fun q => absurd rfl (q j hj)) (fun _ _ _ => rb_t n10 (sM_in0 (L := 9999) (by omega) (fun q => absurd rfl (q p (by omega))) (fun _ _ _ => rb_t n10 (sM_look hM hj (fun μ3 g1 g2 g3 g4 => ?_)))))))
  rw [f14, fr] at a2 a3
  rw [f14] at a1
  obtain ⟨eN, eB⟩ := row_N h9 hM hK hO hj g4 (g1 4 (by omega))
  have hlo : ∀ k, k < n → lo 10 (Br (μX 14) (μX (25 + j)) n k) := fun k hk => by
    rw [eB k hk]
    exact lo_and (openF_lo (nd_lo g2.1 g3)) _
  refine eM_room35 (gn := mx0 0 (fun w => sum10 z1 (μX 14 w)) n) (MO := moN (μX 14) z1 (μX (25 + j)) n) (N := Nr (μX 14) (μX (25 + j))) (Bt := Br (μX 14) (μX (25 + j)) n) (z := z1) (z2 := z2) g2 (fun t ht => by rw [g1 6 (by omega)]; exact (hK.2 t ht).1) hz9 (fun t ht => by rw [g1 7 (by omega)]; exact (hK.2 t ht).2) hz29 g3 (by omega) (fun k hk => (eN k hk).symm) (fun k hk => (eB k hk).symm) (fun k hk => ?_) (fun R hR => mx0_le (Nat.zero_le _) n (fun w hw => ?_)) (Nat.le_trans (mx0_le (b := 90) (by omega) n (fun i _ => sum10_9 hN9 _)) (by omega)) (Nat.le_trans (mx0_le (b := 90) (by omega) n (fun i _ => sum10_9 hN9 _)) (by omega)) (fun l' μ4 b1 b2 b3 hf4 => k _ _ μ2 μ4 ?_ (IX_R h1 hf2 hrm2) (IM_2021 g2 hf4) (Fr_tr sG_X (Fr_mono hf2 (fun q hq => Or.inr (Or.inr hq)))) (Fr_tr (Fr_mono g1 (fun q hq => Or.inl hq)) (Fr_mono hf4 (fun q hq => Or.inr hq))))
  · obtain ⟨v, hv, e⟩ := prm.1 k hk
    show sum10 z1 (μX 14 (μX (25 + j) k).toNatClampNeg) ≤ _
    rw [e, cl9 (by omega)]
    exact mx0_ge (f := fun w => sum10 z1 (μX 14 w)) n v hv
  · obtain ⟨i, hi, ei⟩ := PRM_sur h9 prm w hw
    have := hR i hi
    rw [show Nr (μX 14) (μX (25 + j)) i = μX 14 w by show μX 14 (μX (25 + j) i).toNatClampNeg = _; rw [ei]] at this
    exact this
  · rw [room_u hz29 hlo a1 a2 a3 b1 b2 b3]
end TwR
