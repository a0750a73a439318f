/-! why: both sides alike -/
theorem upd_back {f : Nat → Int32} {j : Nat} {y v : Int32} (h : v = f j) : upd (upd f j y) j v = f := by
  funext k
  by_cases e : k = j
  · subst e; rw [pk_us]; exact h
  · rw [pk_un e, pk_un e]
theorem andn_or {x : Int32} {i : Nat} (hi : i < 32) (h : hb x i = true) : (x &&& (((1 : Int32) <<< (nI i &&& 31)) ^^^ (-1))) ||| ((1 : Int32) <<< (nI i &&& 31)) = x := by
  apply hb_ext
  intro k _
  rw [hb_or, hb_andn, hb_shl hi]
  by_cases e : k = i
  · subst e; rw [h, decide_eq_true rfl]; rfl
  · rw [decide_eq_false e]; cases hb x k <;> rfl
theorem LOd_less {n i j : Nat} {nd bf : Nat → Int32} {μ : Mem} (h9 : n ≤ 9) (hi : i < n) (hj : j < n) (h : LOd 41 n (nI (2 ^ n - 1)) nd bf μ) : LOd 41 n (nI (2 ^ n - 1)) nd (upd bf j (bf j &&& (((1 : Int32) <<< (nI i &&& 31)) ^^^ (-1)))) (mset μ 43 j (μ 43 j &&& (((1 : Int32) <<< (nI i &&& 31)) ^^^ (-1)))) := by
  obtain ⟨h1, h2, h3⟩ := h
  have e42 : (mset μ 43 j (μ 43 j &&& (((1 : Int32) <<< (nI i &&& 31)) ^^^ (-1)))) 42 = μ 42 := mput_o (by decide)
  have e44 : (mset μ 43 j (μ 43 j &&& (((1 : Int32) <<< (nI i &&& 31)) ^^^ (-1)))) 44 = μ 44 := mput_o (by decide)
  have ec : ∀ w, w ≤ n → cntB (nI (2 ^ n - 1)) w = w := cntB_all h9
  refine ⟨SRa_p h1 (by decide), fun w hw hb0 => ?_, fun t ht b => ?_⟩
  · obtain ⟨a, b⟩ := h2 w hw hb0
    refine ⟨?_, ?_⟩
    · show (mset μ 43 j (μ 43 j &&& (((1 : Int32) <<< (nI i &&& 31)) ^^^ (-1)))) 42 (cntB (nI (2 ^ n - 1)) w) = nd w
      rw [e42]; exact a
    · show SQ _ _ n ((mset μ 43 j (μ 43 j &&& (((1 : Int32) <<< (nI i &&& 31)) ^^^ (-1)))) 43 (cntB (nI (2 ^ n - 1)) w))
      have b : SQ (nI (2 ^ n - 1)) (bf w) n (μ 43 (cntB (nI (2 ^ n - 1)) w)) := b
      rw [m2]
      rw [ec w (by omega)] at b ⊢
      by_cases e : w = j
      · subst e
        rw [pk_us, pk_us]
        intro q
        rw [hb_andn, hb_shl (by omega), Bool.and_eq_true, b q]
        constructor
        · rintro ⟨⟨v, hv, v1, v2, v3⟩, p⟩
          have ev := ec v (by omega)
          refine ⟨v, hv, v1, v2, ?_⟩
          rw [hb_andn, hb_shl (by omega), v3]
          have : v = q := by omega
          subst this
          exact p
        · rintro ⟨v, hv, v1, v2, v3⟩
          have ev := ec v (by omega)
          rw [hb_andn, hb_shl (by omega), Bool.and_eq_true] at v3
          refine ⟨⟨v, hv, v1, v2, v3.1⟩, ?_⟩
          have : v = q := by omega
          subst this
          exact v3.2
      · rw [pk_un e, pk_un e]; exact b
  · show hb ((mset μ 43 j (μ 43 j &&& (((1 : Int32) <<< (nI i &&& 31)) ^^^ (-1)))) 44 t) b = true ↔ _
    have e42' : (mset μ 43 j (μ 43 j &&& (((1 : Int32) <<< (nI i &&& 31)) ^^^ (-1)))) (41 + 1) = μ 42 := e42
    rw [e44, e42']
    exact h3 t ht b
theorem tw_why {n m m' : Nat} {z1 z2 : Nat → Nat} {μX μM : Mem} {x1 x2 : Int32} {G : Prop → Prop} {Q : Int32 → Int32 → Mem → Mem → Prop} (hG : ∀ T, T → G T) (hX : IX n m z1 z2 μX) (hM : IM n m' μM) (hK : RK n z1 z2 μX μM) (k : ∀ r r2 m1 m1' μ1 μ2, r = r2 → IX n m1 z1 z2 μ1 → IM n m1' μ2 → Fr sCS μX μ1 → Fr sMV μM μ2 → Q r r2 μ1 μ2) : T_X11_why x1 x2 μX (fun r μ1 => G (T_X12_why x1 x2 μM (fun r2 μ2 => Q r r2 μ1 μ2))) := by
  have h9 := xN hX
  have hn := xW hX
  have k1 : ∀ r, Q r r μX μM := fun r => k r r m m' μX μM rfl hX hM (Fr_rf _ _) (Fr_rf _ _)
  rcases in_or x1 n (by omega) with ho | ⟨i, hi, rfl⟩
  · exact sX_wHas hn h9 (fun _ => br_t rfl (hG _ (sM_isWork hM.1 (fun _ => br_t rfl (k1 _)) (fun j hj e => absurd e (ho j hj))))) (fun j hj e => absurd e (ho j hj))
  refine sX_wHas hn h9 (fun q => absurd rfl (q i hi)) (fun _ _ _ => br_f n10 ?_)
  rcases in_or x2 n (by omega) with ho | ⟨j, hj, rfl⟩
  · exact sX_wHas hn h9 (fun _ => rb_f rfl (hG _ (sM_isWork hM.1 (fun q => absurd rfl (q i hi)) (fun _ _ _ => br_f n10 (sM_isWork hM.1 (fun _ => rb_f rfl (k1 _)) (fun j hj e => absurd e (ho j hj))))))) (fun j hj e => absurd e (ho j hj))
  have i1 := in9 (show j < 9 by omega) (show 9 < 1000000 by omega)
  have ecl := cl9 (show j < 1000000 by omega)
  have e5 := (hK.1 j hj).2
  refine sX_wHas hn h9 (fun q => absurd rfl (q j hj)) (fun _ _ _ => rb_t n10 (sX_isBefore (by omega) (by omega) ?_))
  cases p : hb (μX 15 j) i
  · have p' : hb (μM 5 j) i = false := by rw [← e5]; exact p
    refine br_t rfl (hG _ (sM_isWork hM.1 (fun q => absurd rfl (q i hi)) (fun _ _ _ => br_f n10 (sM_isWork hM.1 (fun q => absurd rfl (q j hj)) (fun _ _ _ => rb_t n10 ⟨i1, ?_⟩)))))
    rw [ecl]
    exact sM_hasB (by omega) (fun _ => rb_f rfl (k1 _)) (fun q => absurd (p'.symm.trans q) (by decide))
  · have p' : hb (μM 5 j) i = true := by rw [← e5]; exact p
    have hp1 : 1 ≤ 2 ^ n := Nat.one_le_two_pow
    have hc : isSearch 41 := Or.inr rfl
    refine br_f n10 (sX_all hn h9 (eX_load hc hX.1 (fun μ1 hf1 hL _ _ => ⟨i1, i1, ?_⟩)))
    rw [ecl]
    have hL2 := LOd_less h9 hi hj hL
    have fm : Fr (sS 41) μX (mset μ1 43 j (μ1 43 j &&& (((1 : Int32) <<< (nI i &&& 31)) ^^^ (-1)))) := Fr_p hf1 (by unfold sS; omega)
    have hL3 : LOd 41 n (nI (2 ^ n - 1)) (μX 14) (upd (μX 15) j (μX 15 j &&& (((1 : Int32) <<< (nI i &&& 31)) ^^^ (-1)))) (mset μ1 (41 + 2) j (μ1 (41 + 2) j &&& (((1 : Int32) <<< (nI i &&& 31)) ^^^ (-1)))) := hL2
    refine eX_fillLeast (lim := 1000000) hc hL3.1 (ScR_fr hX.2.1 fm (by unfold sS; omega) (by unfold sS; omega)) (by omega) (fun μ2 hf2 hT => ⟨i512, ?_⟩)
    have e0 : (0 : Int32).toNatClampNeg = 0 := by decide
    rw [e0]
    have hq1 : 1 ≤ 2 ^ cntB (nI (2 ^ n - 1)) n := Nat.one_le_two_pow
    have f2 : Fr (sS 41) μX μ2 := Fr_tr fm (Fr_mono hf2 (fun q hq => by unfold sS; omega))
    have h2 := IX_41 hX f2 (SRa_of hL3.1 (hf2 41 (by omega)))
    refine hG _ (sM_isWork hM.1 (fun q => absurd rfl (q i hi)) (fun _ _ _ => br_f n10 (sM_isWork hM.1 (fun q => absurd rfl (q j hj)) (fun _ _ _ => rb_t n10 ⟨i1, ?_⟩))))
    rw [ecl]
    refine sM_hasB (by omega) (fun q => absurd (q.symm.trans p') (by decide)) (fun _ => rb_t n10 ⟨i1, i1, ?_⟩)
    have hM1 : IM n m' (mset μM 5 j (μM 5 j &&& (((1 : Int32) <<< (nI i &&& 31)) ^^^ (-1)))) := IM_5 hM (Fr_put _ _ rfl) (by rw [m2]; exact AC_sub hM.2.1)
    have g1 : Fr (fun q => q = 5) μM (mset μM 5 j (μM 5 j &&& (((1 : Int32) <<< (nI i &&& 31)) ^^^ (-1)))) := Fr_put _ _ rfl
    have g5 : (mset μM 5 j (μM 5 j &&& (((1 : Int32) <<< (nI i &&& 31)) ^^^ (-1)))) 5 = upd (μM 5) j (μM 5 j &&& (((1 : Int32) <<< (nI i &&& 31)) ^^^ (-1))) := m2 _ _ _ _
    generalize mset μM 5 j (μM 5 j &&& (((1 : Int32) <<< (nI i &&& 31)) ^^^ (-1))) = μM1 at hM1 g1 g5 ⊢
    refine sM_all hM1.1 (eM_leastOfV hM1 (by omega) (fun t ht => by rw [g1 6 (by omega)]; exact (hK.2 t ht).1) (fun v μM2 hv hf3 hM2 hV => ⟨i1, i1, ?_⟩))
    have e52 : μM2 5 = upd (μM 5) j (μM 5 j &&& (((1 : Int32) <<< (nI i &&& 31)) ^^^ (-1))) := by rw [hf3 5 (by unfold sL15; omega)]; exact g5
    have eb : μM2 5 j ||| ((1 : Int32) <<< (nI i &&& 31)) = μM 5 j := by rw [e52, pk_us]; exact andn_or (by omega) p'
    rw [eb]
    have e53 : (mset μM2 5 j (μM 5 j)) 5 = μM 5 := by rw [m2, e52]; exact upd_back rfl
    have fM : Fr sMV μM (mset μM2 5 j (μM 5 j)) := fun q hq => by
      by_cases eq : q = 5
      · subst eq; exact e53
      · have : (mset μM2 5 j (μM 5 j)) q = μM2 q := mput_o (fun e => eq e.symm)
        rw [this, hf3 q (fun t => hq (by unfold sL15 at t; unfold sMV; omega)), g1 q eq]
    refine k _ _ m m' μ2 _ ?_ h2 (IM_5 hM2 (Fr_put _ _ rfl) (by rw [e53]; exact hM.2.1)) (Fr_mono f2 (fun q hq => by unfold sS at hq; unfold sCS; omega)) fM
    obtain ⟨μA, μB, a1, a2, a3, a4, a5, a6, a7⟩ := hV
    rw [(hT 0 (by omega)).1, tab_eq (u := 2 ^ n - 1) h9 (by omega) hL3 a1 (fun w hw => ?_) (fun w hw => ?_) a4 a5 hX.2.1.1 (by omega) (fun t ht => (hT t ht).2) a6 (2 ^ cntB (nI (2 ^ n - 1)) n - 1) 0 0 (by omega) (ES_0 n _), ← a7, Nat.min_eq_right hv]
    · rw [← a2 w hw, g1 4 (by omega)]; exact (hK.1 w hw).1
    · rw [← a3 w hw, g5]
      by_cases e : w = j
      · subst e; rw [pk_us, pk_us, e5]
      · rw [pk_un e, pk_un e]; exact (hK.1 w hw).2
