/-! the reference reads as the class does: needs, sizes, items -/
section Sim2
variable {codes : Nat → Int32} {b p : Nat} {μ0 : Mem} {post : Int32 → Mem → Prop}
theorem TD_at {rw it : Nat} {μX μM : Mem} {v : Int32} (h : TD rw it μX μM) : TD rw it μX (mset μM 0 10 v) := by
  obtain ⟨t1, t2, t3, t4, t5⟩ := h
  have g15 : (mset μM 0 10 v) 0 15 = μM 0 15 := by rw [m2, pk_un (by decide)]
  refine ⟨t1, by rw [g15]; exact t2, by rw [g15]; exact t3, fun w hw => ?_, fun t htt => ?_⟩
  · unfold mset; rw [mput_o (by decide), mput_o (by decide)]; exact t4 w hw
  · rw [g15]; unfold mset; rw [mput_o (by decide)]; exact t5 t htt
theorem simW {rw it F : Nat} {P12 : Int32 → Mem → Prop} (hb0 : b ≤ 60) (hp : p + b ≤ 240) (hrw : rw < 9) {μM0 : Mem} (hcd : ∀ k, k < b → μM0 3 (p + k) = codes k)
    (fin : ∀ f k s μX μM, f < F → k + f = b → RD (p + k) (p + b) (rw + 1) μM → TD (rw + 1) (it + 1) μX μM → μX 9 3 = nI (rw + 1) → (s = 2 ∨ s = 4 ∨ s = 7) → (k < b → (s = 2 → codes k < 97 ∨ 106 < codes k) ∧ (s ≠ 7 → codes k ≠ 60)) → KK codes b p μ0 post f s k μX → μM 3 = μM0 3 → Fr sRd μ0 μM → CE μ0 μM → T_X12_readsAll_97 post P12 (nI it) μM) :
    ∀ f k μX μM, f < F → k + f = b → RD (p + k) (p + b) rw μM → TD rw (it + 1) μX μM → μX 9 3 = nI (rw + 1) → μX 10 rw = 0 → μX 11 rw = 0 → KK codes b p μ0 post f 2 k μX → μM 3 = μM0 3 → Fr sRd μ0 μM → CE μ0 μM → T_X12_readsWork μM (fun u μ => (¬ u = 0 → T_X12_readsAll_97 post P12 (nI it) μ) ∧ (u = 0 → post 0 μ)) := by
  intro f k μX μM hfF hkf h ht hcnt e10 e11 hK h3 hf hc P hP
  have H : ∀ f k x1 μX μM, f < F → k + f = b → lo 10 x1 → RD (p + k) (p + b) rw μM → TD rw (it + 1) μX μM → μX 9 3 = nI (rw + 1) → μX 10 rw = x1 → μX 11 rw = 0 → KK codes b p μ0 post f 2 k μX → μM 3 = μM0 3 → Fr sRd μ0 μM → CE μ0 μM → P x1 μM := by
    intro f
    induction f using Nat.strongRecOn with
    | ind f ihf =>
      intro k x1 μX μM hfF hkf hx1 h ht hcnt e10 e11 hK h3 hf hc
      have h55 : (k < b → codes k < 97 ∨ 106 < codes k) → T_X12_readsWork_55 (fun u μ => (¬ u = 0 → T_X12_readsAll_97 post P12 (nI it) μ) ∧ (u = 0 → post 0 μ)) x1 0 μM := fun hno => sim55 hb0 hp hrw hx1 hcd fin f k μX μM hfF hkf h ht hcnt e10 e11 hno hK h3 hf hc
      refine hP _ _ (sM_codeAt h (fun q => sM_isIn (fun _ => br_t rfl (h55 (fun hk => absurd hk (by omega)))) (fun q1 _ => absurd (by decide) q1)) (fun q => ?_))
      have hk : k < b := by omega
      rw [h3, hcd k hk]
      refine sM_isIn (fun qo => br_t rfl (h55 (fun _ => qo))) (fun q1 q2 => br_f n10 (sM_codeAt h (fun t => absurd t (by omega)) (fun _ => ?_)))
      rw [h3, hcd k hk]
      obtain ⟨t, ht10, et⟩ := rngS 97 106 (by omega) q1 q2 (by omega)
      have et' : codes k - 97 = nI t := et
      rw [et']
      obtain ⟨f1, rfl⟩ : ∃ f1, f = f1 + 1 := ⟨f - 1, by omega⟩
      have erw : (μX 9 3) - 1 = nI rw := by rw [hcnt, nI_pred]
      have est : stF 2 (codes k) μX = if hb x1 t = false then (2, mset μX 10 rw (x1 ||| ((1 : Int32) <<< (nI t &&& 31)))) else (0, μX) := by
        unfold stF
        rw [if_neg (by decide), if_pos rfl, if_neg q1, if_neg q2, et']
        unfold tnF
        rw [erw, cl9 (show rw < 1000000 by omega), e10]
        by_cases hb2 : hb x1 t = false
        · rw [if_pos hb2, if_pos ((and_bit (by omega)).mpr hb2)]
        · rw [if_neg hb2, if_neg (fun e => hb2 ((and_bit (by omega)).mp e))]
      refine sM_hasB (by omega) (fun hb2 => br_t rfl ?_) (fun hb2 => br_f n10 ⟨fun e => absurd rfl e, fun _ => KK_stop hK (by omega) (by rw [est, if_neg (by rw [hb2]; decide)]) (p + k) rw μM h hf hc⟩)
      rw [if_pos hb2] at est
      have hK2 := KK_step hK (by rw [est]; exact (by decide : (2 : Int32) ≠ 0))
      rw [est] at hK2
      have h4 := RD_next h q
      rw [show p + k + 1 = p + (k + 1) by omega] at h4
      refine ihf f1 (by omega) (k + 1) (x1 ||| ((1 : Int32) <<< (nI t &&& 31))) (mset μX 10 rw (x1 ||| ((1 : Int32) <<< (nI t &&& 31)))) _ (by omega) (by omega) (lo_or hx1 (lo_shl (by omega) (by omega))) h4 ?_ ?_ (by rw [m2, pk_us]) ?_ hK2 (by unfold mset; rw [mput_o (by decide)]; exact h3) (Fr_p hf (Or.inl rfl)) (CE_u hc (by omega))
      · refine TD_at ?_
        obtain ⟨t1, t2, t3, t4, t5⟩ := ht
        refine ⟨?_, ?_, t3, fun w hw => ?_, fun t htt => ?_⟩
        · unfold mset; rw [mput_o (by decide)]; exact t1
        · unfold mset; rw [mput_o (by decide)]; exact t2
        · rw [m2, pk_un (by omega)]; unfold mset; rw [mput_o (by decide)]; exact t4 w hw
        · unfold mset; rw [mput_o (by decide)]; exact t5 t htt
      · unfold mset; rw [mput_o (by decide)]; exact hcnt
      · unfold mset; rw [mput_o (by decide)]; exact e11
  exact H f k 0 μX μM hfF hkf (lo_0 _) h ht hcnt e10 e11 hK h3 hf hc
theorem full_has {t : Nat} (h : t < 10) : hb 1023 t = true := by
  have : ∀ t, t < 10 → hb 1023 t = true := by decide +kernel
  exact this t h
/-- all sizes told: no further one is read -/
theorem simF {rw k : Nat} {μM : Mem} {post2 : Int32 → Mem → Prop} (h : RD k (p + b) rw μM) (h15 : μM 0 15 = 1023) (k0 : post2 0 μM) : T_X12_readsSize μM post2 := by
  refine sM_codeAt h (fun _ => sM_isIn (fun _ => br_t rfl k0) (fun q1 _ => absurd (by decide) q1)) (fun q => sM_isIn (fun _ => br_t rfl k0) (fun q1 q2 => br_f n10 ?_))
  obtain ⟨t, ht, et⟩ := in_of (n := 9) (by omega) q1 q2
  rw [et, h15]
  exact sM_hasB (by omega) (fun e => by rw [full_has (by omega)] at e; exact absurd e (by decide)) (fun _ => br_f n10 k0)
theorem simS {f k rw it F : Nat} {μX μM : Mem} {P12 : Int32 → Mem → Prop} (hb0 : b ≤ 60) (hp : p + b ≤ 240) (hfF : f < F) (hkf : k + f = b) (hcd : ∀ k, k < b → μM 3 (p + k) = codes k) (h : RD (p + k) (p + b) rw μM) (ht : TD rw (it + 1) μX μM) (hcnt : μX 9 3 = nI rw) (hK : KK codes b p μ0 post f 5 k μX) (hf : Fr sRd μ0 μM) (hc : CE μ0 μM)
    (fin : ∀ f k s μX μM', f < F → k + f = b → RD (p + k) (p + b) rw μM' → TD rw (it + 1) μX μM' → μX 9 3 = nI rw → (s = 2 ∨ s = 4 ∨ s = 7) → (k < b → (s = 2 → codes k < 97 ∨ 106 < codes k) ∧ (s ≠ 7 → codes k ≠ 60)) → KK codes b p μ0 post f s k μX → μM' 3 = μM 3 → Fr sRd μ0 μM' → CE μ0 μM' → T_X12_readsAll_97 post P12 (nI it) μM') : T_X12_readsSize μM (fun u μ => (¬ u = 0 → T_X12_readsAll_97 post P12 (nI it) μ) ∧ (u = 0 → post 0 μ)) := by
  have z0 : ∀ μ', post 0 μ' → ((¬ (0 : Int32) = 0 → T_X12_readsAll_97 post P12 (nI it) μ') ∧ ((0 : Int32) = 0 → post 0 μ')) := fun μ' hq => ⟨fun e => absurd rfl e, fun _ => hq⟩
  refine sM_codeAt h (fun q => ?_) (fun q => ?_)
  · have ef : f = 0 := by omega
    subst ef
    have k0 := KK_bad hK (by omega) (by decide) (p + k) rw μM h hf hc
    exact sM_isIn (fun _ => br_t rfl (z0 _ k0)) (fun q1 _ => absurd (by decide) q1)
  have hk : k < b := by omega
  rw [hcd k hk]
  obtain ⟨f1, rfl⟩ : ∃ f1, f = f1 + 1 := ⟨f - 1, by omega⟩
  have est5 : stF 5 (codes k) μX = if codes k < 97 then (0, μX) else if 106 < codes k then (0, μX) else tzF (codes k - 97) μX := by
    unfold stF
    rw [if_neg (by decide), if_neg (by decide), if_neg (by decide), if_neg (by decide), if_pos rfl]
  have k0 : (stF 5 (codes k) μX).1 = 0 → post 0 μM := fun e => KK_stop hK (by omega) e (p + k) rw μM h hf hc
  refine sM_isIn (fun qo => br_t rfl (z0 _ (k0 ?_))) (fun q1 q2 => br_f n10 ?_)
  · rw [est5]
    by_cases c1 : codes k < 97
    · rw [if_pos c1]
    · rw [if_neg c1]
      by_cases c2 : 106 < codes k
      · rw [if_pos c2]
      · obtain ⟨t, ht3, et⟩ := rngS 97 106 (by omega) c1 c2 (by omega)
        have et' : codes k - 97 = nI t := et
        rw [et'] at qo
        rcases qo with q | q
        · exact absurd q (nI_pos (by omega))
        · exact absurd q (nI_nlt (a := 9) (b := t) (by omega) (by omega))
  obtain ⟨t, -, ht9, et, ec⟩ := in_sub (c := codes k) (d := 97) (lo := 0) (hi := 9) (by omega) (by omega) (by omega) q1 q2
  have et' : codes k - 97 = nI t := et
  have c1 : ¬ codes k < 97 := by rw [ec]; exact nI_nlt (b := 97) (by omega) (by omega)
  have c2 : ¬ 106 < codes k := by rw [ec]; exact nI_nlt (a := 106) (by omega) (by omega)
  obtain ⟨t1, t2, t3, t4, t5⟩ := ht
  rw [et']
  rw [if_neg c1, if_neg c2, et'] at est5
  unfold tzF at est5
  rw [t2] at est5
  refine sM_hasB (by omega) (fun hb2 => br_t rfl ?_) (fun hb2 => br_f n10 (z0 _ (k0 ?_)))
  · rw [if_pos ((and_bit (by omega)).mpr hb2)] at est5
    have hK1 := KK_step hK (by rw [est5]; exact (by decide : (6 : Int32) ≠ 0))
    rw [est5] at hK1
    have h2 := RD_next h q
    rw [show p + k + 1 = p + (k + 1) by omega] at h2
    have hf2 : Fr sRd μ0 (mset μM 0 10 ((μM 0 10) + 1)) := Fr_p hf (Or.inl rfl)
    have hc2 : CE μ0 (mset μM 0 10 ((μM 0 10) + 1)) := CE_u hc (by omega)
    have g3 : (mset μM 0 10 ((μM 0 10) + 1)) 3 = μM 3 := mput_o (by decide)
    have g8 : (mset μM 0 10 ((μM 0 10) + 1)) 8 = μM 8 := mput_o (by decide)
    have g9 : (mset μM 0 10 ((μM 0 10) + 1)) 9 = μM 9 := mput_o (by decide)
    have g10 : (mset μM 0 10 ((μM 0 10) + 1)) 10 = μM 10 := mput_o (by decide)
    have g15 : (mset μM 0 10 ((μM 0 10) + 1)) 0 15 = μM 0 15 := by rw [m2, pk_un (by decide)]
    generalize mset μM 0 10 ((μM 0 10) + 1) = μ2 at h2 hf2 hc2 g3 g8 g9 g10 g15 ⊢
    refine sM_codeAt h2 (fun qe => ?_) (fun qi => ?_)
    · have ef : f1 = 0 := by omega
      subst ef
      have k1 := KK_bad hK1 (by omega) (by decide : ¬ ((6 : Int32) = 2 ∨ (6 : Int32) = 4 ∨ (6 : Int32) = 7)) (p + (k + 1)) rw μ2 h2 hf2 hc2
      exact sM_isIn (fun _ => rb_f rfl (z0 _ k1)) (fun q1 _ => absurd (by decide) q1)
    · have hk1 : k + 1 < b := by omega
      obtain ⟨f2, rfl⟩ : ∃ f2, f1 = f2 + 1 := ⟨f1 - 1, by omega⟩
      rw [g3, hcd (k + 1) hk1]
      generalize hXX : mset (mset μX 9 5 ((μM 0 15) ||| ((1 : Int32) <<< (nI t &&& 31)))) 9 6 (nI t) = μX2 at hK1
      have x6 : μX2 9 6 = nI t := by rw [← hXX, m2, pk_us]
      have x5 : μX2 9 5 = (μM 0 15) ||| ((1 : Int32) <<< (nI t &&& 31)) := by rw [← hXX, m2, pk_un (by decide), m2, pk_us]
      have x4 : μX2 9 4 = μX 9 4 := by rw [← hXX, m2, pk_un (by decide), m2, pk_un (by decide)]
      have x3 : μX2 9 3 = μX 9 3 := by rw [← hXX, m2, pk_un (by decide), m2, pk_un (by decide)]
      have xo : ∀ q, q ≠ 9 → μX2 q = μX q := fun q hq => by rw [← hXX]; unfold mset; rw [mput_o (fun e => hq e.symm), mput_o (fun e => hq e.symm)]
      have est6 : stF 6 (codes (k + 1)) μX2 = if codes (k + 1) < 49 then (0, μX2) else if 57 < codes (k + 1) then (0, μX2) else (7, mset μX2 12 t (codes (k + 1) - 48)) := by
        unfold stF
        rw [if_neg (by decide), if_neg (by decide), if_neg (by decide), if_neg (by decide), if_neg (by decide), if_pos rfl, x6, cl9 (show t < 1000000 by omega)]
      have k1 : (stF 6 (codes (k + 1)) μX2).1 = 0 → post 0 μ2 := fun e => KK_stop hK1 (by omega) e (p + (k + 1)) rw μ2 h2 hf2 hc2
      refine sM_isIn (fun qo => rb_f rfl (z0 _ (k1 ?_))) (fun q4 q5 => rb_t n10 ⟨in9 (by omega) (by omega), ?_⟩)
      · rw [est6]
        by_cases d1 : codes (k + 1) < 49
        · rw [if_pos d1]
        · rw [if_neg d1]
          by_cases d2 : 57 < codes (k + 1)
          · rw [if_pos d2]
          · obtain ⟨u, hu, eu⟩ := rngI 49 57 (by omega) d1 d2 (by omega)
            have ew : codes (k + 1) - 48 = nI (u + 1) := by
              rw [eu, show (48 : Int32) = nI 48 from rfl, pk_sub (by omega)]
              congr 1
              omega
            rw [ew] at qo
            rcases qo with q | q
            · exact absurd q (nI_nlt (b := 1) (by omega) (by omega))
            · exact absurd q (nI_nlt (a := 9) (b := u + 1) (by omega) (by omega))
      · obtain ⟨v, hv1, hv9, ev, ec2⟩ := in_sub (c := codes (k + 1)) (d := 48) (lo := 1) (hi := 9) (by omega) (by omega) (by omega) q4 q5
        have ev' : codes (k + 1) - 48 = nI v := ev
        have d1 : ¬ codes (k + 1) < 49 := by rw [ec2]; exact nI_nlt (b := 49) (by omega) (by omega)
        have d2 : ¬ 57 < codes (k + 1) := by rw [ec2]; exact nI_nlt (a := 57) (by omega) (by omega)
        rw [if_neg d1, if_neg d2, ev'] at est6
        have hK2 := KK_step hK1 (by rw [est6]; exact (by decide : (7 : Int32) ≠ 0))
        rw [est6] at hK2
        rw [ev', cl9 (show t < 1000000 by omega)]
        have y0 : ∀ y, (mset (mset μ2 0 15 y) 10 t (nI v)) 0 = upd (μ2 0) 15 y := fun y => by unfold mset; rw [mput_o (by decide), mput_same]
        rw [y0, pk_un (by decide)]
        obtain ⟨r1, r2, r3, r4, r5, r6, r7, r8, r9⟩ := h2
        have w0 : ∀ s, s ≠ 10 → s ≠ 15 → (mset (mset (mset μ2 0 15 ((μ2 0 15) ||| ((1 : Int32) <<< (nI t &&& 31)))) 10 t (nI v)) 0 10 ((μ2 0 10) + 1)) 0 s = μ2 0 s := fun s h1 h2 => by rw [m2, pk_un h1, y0, pk_un h2]
        have w15 : (mset (mset (mset μ2 0 15 ((μ2 0 15) ||| ((1 : Int32) <<< (nI t &&& 31)))) 10 t (nI v)) 0 10 ((μ2 0 10) + 1)) 0 15 = (μM 0 15) ||| ((1 : Int32) <<< (nI t &&& 31)) := by rw [m2, pk_un (by decide), y0, pk_us, g15]
        have w10 : (mset (mset (mset μ2 0 15 ((μ2 0 15) ||| ((1 : Int32) <<< (nI t &&& 31)))) 10 t (nI v)) 0 10 ((μ2 0 10) + 1)) 10 = upd (μM 10) t (nI v) := by unfold mset; rw [mput_o (by decide), mput_same, mput_o (by decide), g10]
        have wo : ∀ q, q ≠ 0 → q ≠ 10 → (mset (mset (mset μ2 0 15 ((μ2 0 15) ||| ((1 : Int32) <<< (nI t &&& 31)))) 10 t (nI v)) 0 10 ((μ2 0 10) + 1)) q = μ2 q := fun q h1 h2 => by unfold mset; rw [mput_o (fun e => h1 e.symm), mput_o (fun e => h2 e.symm), mput_o (fun e => h1 e.symm)]
        refine ⟨fun _ => ?_, fun e => absurd e n10⟩
        refine fin f2 (k + 1 + 1) 7 (mset μX2 12 t (nI v)) _ (by omega) (by omega) ⟨?_, ?_, by omega, r4, ?_, r6, fun w hw => ?_, fun w hw => ?_, fun t2' ht2 => ?_⟩ ⟨?_, ?_, ?_, fun w hw => ?_, fun t2' ht2 => ?_⟩ ?_ (Or.inr (Or.inr rfl)) (fun _ => ⟨fun e => absurd e (by decide), fun e => absurd rfl e⟩) hK2 ?_ (Fr_p (Fr_p (Fr_p hf2 (Or.inl rfl)) (by unfold sRd; omega)) (Or.inl rfl)) (CE_u (CE_p (CE_u hc2 (by omega)) (by decide)) (by omega))
        · rw [m2, pk_us, r1, nI_1]; rfl
        · rw [w0 11 (by decide) (by decide)]; exact r2
        · rw [w0 12 (by decide) (by decide)]; exact r5
        · rw [wo 8 (by decide) (by decide)]; exact r7 w hw
        · rw [wo 9 (by decide) (by decide)]; exact r8 w hw
        · rw [w10]
          by_cases e2 : t2' = t
          · subst e2; rw [pk_us]; exact ⟨v, by omega, rfl⟩
          · rw [pk_un e2, ← g10]; exact r9 t2' ht2
        · unfold mset; rw [mput_o (by decide), x4]; exact t1
        · rw [w15]; unfold mset; rw [mput_o (by decide)]; exact x5
        · rw [w15]; exact lo_or t3 (lo_shl (by omega) (by omega))
        · rw [wo 8 (by decide) (by decide), wo 9 (by decide) (by decide), g8, g9]
          unfold mset
          rw [mput_o (by decide), mput_o (by decide), xo 10 (by decide), xo 11 (by decide)]
          exact t4 w hw
        · rw [w15, w10, m2, xo 12 (by decide), hb_or, hb_shl (by omega)]
          by_cases e2 : t2' = t
          · subst e2; rw [pk_us, pk_us]; simp
          · rw [pk_un e2, pk_un e2]
            have := t5 t2' ht2
            simpa [e2] using this
        · unfold mset; rw [mput_o (by decide), x3]; exact hcnt
        · rw [wo 3 (by decide) (by decide), g3]
  · rw [if_neg (fun e => by rw [(and_bit (by omega)).mp e] at hb2; exact absurd hb2 (by decide))] at est5
    rw [est5]
/-- the whole text -/
theorem simA {μM0 : Mem} (hb0 : b ≤ 60) (hp : p + b ≤ 240) (hcd : ∀ k, k < b → μM0 3 (p + k) = codes k) {P12 : Int32 → Mem → Prop} (hP : ∀ (x1 : Int32) (μ : Mem), B_X12_readsAll_12 post P12 x1 μ → P12 x1 μ) : ∀ f k it rw μX μM, k + f = b → it < 12 → RD (p + k) (p + b) rw μM → TD rw it μX μM → μX 9 3 = nI rw → KK codes b p μ0 post f 1 k μX → μM 3 = μM0 3 → Fr sRd μ0 μM → CE μ0 μM → P12 (nI it) μM := by
  intro f
  induction f using Nat.strongRecOn with
  | ind f ihf =>
    intro k it rw μX μM hkf hit h ht hcnt hK h3 hf hc
    have e12 := h.2.2.2.2.1
    have hrw9 := h.2.2.2.2.2.1
    refine hP _ _ (sM_codeAt h (fun q => ?_) (fun q => ?_))
    · have ef : f = 0 := by omega
      subst ef
      have k0 := KK_bad hK (by omega) (by decide) (p + k) rw μM h hf hc
      exact rb_t (by decide) (rb_f rfl ⟨fun _ => k0, fun q => absurd q (by decide)⟩)
    have hk : k < b := by omega
    rw [h3, hcd k hk]
    obtain ⟨f1, rfl⟩ : ∃ f1, f = f1 + 1 := ⟨f - 1, by omega⟩
    obtain ⟨t1, t2, t3, t4, t5⟩ := id ht
    have est : stF 1 (codes k) μX = bgF (codes k) μX := by unfold stF; rw [if_pos rfl]
    have k0 : (stF 1 (codes k) μX).1 = 0 → post 0 μM := fun e => KK_stop hK (by omega) e (p + k) rw μM h hf hc
    have h2 := RD_next h q
    rw [show p + k + 1 = p + (k + 1) by omega] at h2
    have hf2 : Fr sRd μ0 (mset μM 0 10 ((μM 0 10) + 1)) := Fr_p hf (Or.inl rfl)
    have hc2 : CE μ0 (mset μM 0 10 ((μM 0 10) + 1)) := CE_u hc (by omega)
    have g3 : (mset μM 0 10 ((μM 0 10) + 1)) 3 = μM0 3 := by unfold mset; rw [mput_o (by decide)]; exact h3
    have g15 : (mset μM 0 10 ((μM 0 10) + 1)) 0 15 = μM 0 15 := by rw [m2, pk_un (by decide)]
    have htM : ∀ it μX', TD rw it μX' μM → TD rw it μX' (mset μM 0 10 ((μM 0 10) + 1)) := fun it μX' h => TD_at h
    have fin : ∀ rw2 f k s μX μM, f < f1 + 1 → k + f = b → RD (p + k) (p + b) rw2 μM → TD rw2 (it + 1) μX μM → μX 9 3 = nI rw2 → (s = 2 ∨ s = 4 ∨ s = 7) → (k < b → (s = 2 → codes k < 97 ∨ 106 < codes k) ∧ (s ≠ 7 → codes k ≠ 60)) → KK codes b p μ0 post f s k μX → μM 3 = μM0 3 → Fr sRd μ0 μM → CE μ0 μM → T_X12_readsAll_97 post P12 (nI it) μM := by
      intro rw2 f k s μX μM hlt hkf g ht hcnt hs hno hK h3 hf hc
      refine sim97 hkf hb0 hp (fun k hk => by rw [h3]; exact hcd k hk) hit g ht hcnt hs hno hK hf hc (fun μM' g' e8 e9 e10 e3 e15 gf gc hit2 hkb f' ef hK' => ?_)
      subst ef
      refine ihf f' (by omega) (k + 1) (it + 1) rw2 μX μM' (by omega) hit2 g' ?_ hcnt hK' (by rw [e3]; exact h3) gf gc
      obtain ⟨t1, t2, t3, t4, t5⟩ := ht
      exact ⟨t1, by rw [e15]; exact t2, by rw [e15]; exact t3, fun w hw => by rw [e8, e9]; exact t4 w hw, fun t htt => by rw [e15, e10]; exact t5 t htt⟩
    have hX4 : ∀ rw, TD rw it μX μM → TD rw (it + 1) (mset μX 9 4 ((μX 9 4) + 1)) μM := fun rw h => by
      obtain ⟨t1, t2, t3, t4, t5⟩ := h
      refine ⟨by rw [m2, pk_us, t1, nI_1], by rw [m2, pk_un (by decide)]; exact t2, t3, fun w hw => ?_, fun t htt => ?_⟩
      · unfold mset; rw [mput_o (by decide), mput_o (by decide)]; exact t4 w hw
      · unfold mset; rw [mput_o (by decide)]; exact t5 t htt
    have h43 : ¬ (codes k = 119 ∧ μX 9 5 = 0 ∧ ¬ 9 ≤ μX 9 3) → T_X12_readsAll_43 post P12 (nI it) (codes k) μM := by
      intro cw
      unfold bgF at est
      rw [if_neg cw] at est
      refine rb_f rfl ⟨fun q115 => k0 ?_, fun q115 => ⟨fun q0 => ⟨fun _ => ?_, fun e => absurd rfl e⟩, fun q0 => k0 ?_⟩⟩
      · rw [est, if_neg (fun t => q115 t.1)]
      · have hpos : 0 < rw := by
          rcases Nat.eq_zero_or_pos rw with e | e
          · rw [e12, e] at q0; exact absurd rfl q0
          · exact e
        by_cases hfull : μX 9 5 = 1023
        · refine simF h2 (by rw [g15, ← t2]; exact hfull) ⟨fun e => absurd rfl e, fun _ => ?_⟩
          refine KK_stop hK (by omega) ?_ (p + (k + 1)) rw _ h2 hf2 hc2
          rw [est, if_neg (fun t => t.2.2 hfull)]
        · rw [if_pos ⟨q115, by rw [hcnt]; exact nI_nle hpos (by omega), hfull⟩] at est
          have hK1 := KK_step hK (by rw [est]; exact (by decide : (5 : Int32) ≠ 0))
          rw [est] at hK1
          exact simS (F := f1 + 1) hb0 hp (by omega) (show k + 1 + f1 = b by omega) (fun k hk => by rw [g3]; exact hcd k hk) h2 (htM _ _ (hX4 rw ht)) (by rw [m2, pk_un (by decide)]; exact hcnt) hK1 hf2 hc2 (fun f k s μX μM' hlt hkf g ht hcnt hs hno hK e3 gf gc => fin rw f k s μX μM' hlt hkf g ht hcnt hs hno hK (by rw [e3]; exact g3) gf gc)
      · rw [est, if_neg (fun t => ?_)]
        have := t.2.1
        rw [hcnt] at this
        rw [e12] at q0
        exact this (by rw [show nI rw = 0 from q0]; decide)
    refine ⟨fun q119 => h43 (fun t => q119 t.1), fun q119 => ⟨fun q15 => h43 (fun t => q15 (by rw [← t2]; exact t.2.1)), fun q15 => ⟨fun q9 => h43 (fun t => t.2.2 (by rw [hcnt, ← e12]; exact q9)), fun q9 => ?_⟩⟩⟩
    have cw : codes k = 119 ∧ μX 9 5 = 0 ∧ ¬ 9 ≤ μX 9 3 := ⟨q119, by rw [t2]; exact q15, by rw [hcnt, ← e12]; exact q9⟩
    have hr9 : rw < 9 := by
      rw [e12] at q9
      rcases Nat.lt_or_ge rw 9 with t | t
      · exact t
      · exact absurd (nI_le (a := 9) t (by omega)) q9
    unfold bgF at est
    rw [if_pos cw, hcnt, cl9 (show rw < 1000000 by omega), nI_1] at est
    have hK1 := KK_step hK (by rw [est]; exact (by decide : (2 : Int32) ≠ 0))
    rw [est] at hK1
    have hK1 : KK codes b p μ0 post f1 2 (k + 1) (mset (mset (mset (mset μX 9 4 ((μX 9 4) + 1)) 10 rw 0) 11 rw 0) 9 3 (nI (rw + 1))) := hK1
    refine ⟨fun _ => ⟨fun e => absurd e n10, fun _ => ?_⟩, fun e => absurd e n10⟩
    refine simW (it := it) (F := f1 + 1) hb0 hp hr9 (fun k hk => by rw [g3]; exact hcd k hk) (fun f k s μX μM' hlt hkf g ht hcnt hs hno hK e3 gf gc => fin (rw + 1) f k s μX μM' hlt hkf g ht hcnt hs hno hK (by rw [e3]; exact g3) gf gc) f1 (k + 1) (mset (mset (mset (mset μX 9 4 ((μX 9 4) + 1)) 10 rw 0) 11 rw 0) 9 3 (nI (rw + 1))) _ (by omega) (by omega) h2 (htM _ _ ?_) ?_ ?_ ?_ hK1 rfl hf2 hc2
    · obtain ⟨s1, s2, s3, s4, s5⟩ := hX4 rw ht
      refine ⟨?_, ?_, s3, fun w hw => ?_, fun t htt => ?_⟩
      · rw [m2, pk_un (by decide)]; unfold mset; rw [mput_o (by decide), mput_o (by decide)]; exact s1
      · rw [m2, pk_un (by decide)]; unfold mset; rw [mput_o (by decide), mput_o (by decide)]; exact s2
      · have a10 : ∀ f, (mput (mset (mset (mset μX 9 4 ((μX 9 4) + 1)) 10 rw 0) 11 rw 0) 9 f) 10 w = μX 10 w := fun f => by unfold mset; rw [mput_o (by decide), mput_o (by decide), mput_same, pk_un (by omega), mput_o (by decide)]
        have a11 : ∀ f, (mput (mset (mset (mset μX 9 4 ((μX 9 4) + 1)) 10 rw 0) 11 rw 0) 9 f) 11 w = μX 11 w := fun f => by unfold mset; rw [mput_o (by decide), mput_same, pk_un (by omega), mput_o (by decide), mput_o (by decide)]
        exact ⟨(a10 _).trans (t4 w hw).1, (a11 _).trans (t4 w hw).2⟩
      · have a12 : ∀ f, (mput (mset (mset (mset μX 9 4 ((μX 9 4) + 1)) 10 rw 0) 11 rw 0) 9 f) 12 t = μX 12 t := fun f => by unfold mset; rw [mput_o (by decide), mput_o (by decide), mput_o (by decide), mput_o (by decide)]
        exact (a12 _).trans (t5 t htt)
    · rw [m2, pk_us]
    · unfold mset; rw [mput_o (by decide), mput_o (by decide), mput_same, pk_us]
    · unfold mset; rw [mput_o (by decide), mput_same, pk_us]
end Sim2
