/-! the reference reads as the class does -/
def FD (rw : Nat) (μX μM : Mem) : Prop := μX 9 3 = nI rw ∧ (∀ w, w < rw → μX 10 w = μM 8 w ∧ μX 11 w = μM 9 w) ∧ (∀ t, t < 10 → μX 12 t = if hb (μM 0 15) t then μM 10 t else 1)
/-- what both have read: rw works, it items begun -/
def TD (rw it : Nat) (μX μM : Mem) : Prop := μX 9 4 = nI it ∧ μX 9 5 = μM 0 15 ∧ lo 10 (μM 0 15) ∧ (∀ w, w < rw → μX 10 w = μM 8 w ∧ μX 11 w = μM 9 w) ∧ (∀ t, t < 10 → μX 12 t = if hb (μM 0 15) t then μM 10 t else 1)
def KK (codes : Nat → Int32) (b p : Nat) (μ0 : Mem) (post : Int32 → Mem → Prop) (f : Nat) (s : Int32) (k : Nat) (μX : Mem) : Prop :=
  ((rnF codes b f s k μX).1 = -1 → ∀ rw μM, RD (p + b) (p + b) rw μM → FD rw (rnF codes b f s k μX).2 μM → Fr sRd μ0 μM → CE μ0 μM → post 1 μM) ∧ ((rnF codes b f s k μX).1 ≠ -1 → ∀ a rw μM, RD a (p + b) rw μM → Fr sRd μ0 μM → CE μ0 μM → post 0 μM)
theorem KK_step {codes : Nat → Int32} {b p f k : Nat} {s : Int32} {μ0 μX : Mem} {post : Int32 → Mem → Prop} (h : KK codes b p μ0 post (f + 1) s k μX) (hs : (stF s (codes k) μX).1 ≠ 0) : KK codes b p μ0 post f (stF s (codes k) μX).1 (k + 1) (stF s (codes k) μX).2 := by
  have e : rnF codes b (f + 1) s k μX = rnF codes b f (stF s (codes k) μX).1 (k + 1) (stF s (codes k) μX).2 := if_neg hs
  unfold KK at h
  rw [e] at h
  exact h
theorem nI_nm1 {k : Nat} (h : k < 1000) : nI k ≠ -1 := by
  have : ∀ k, k < 1000 → nI k ≠ -1 := by decide +kernel
  exact this k h
theorem KK_stop {codes : Nat → Int32} {b p f k : Nat} {s : Int32} {μ0 μX : Mem} {post : Int32 → Mem → Prop} (h : KK codes b p μ0 post (f + 1) s k μX) (hk : k < 1000) (hs : (stF s (codes k) μX).1 = 0) : ∀ a rw μM, RD a (p + b) rw μM → Fr sRd μ0 μM → CE μ0 μM → post 0 μM := by
  have e : rnF codes b (f + 1) s k μX = (nI k, (stF s (codes k) μX).2) := if_pos hs
  unfold KK at h
  rw [e] at h
  exact h.2 (nI_nm1 hk)
theorem KK_bad {codes : Nat → Int32} {b p k : Nat} {s : Int32} {μ0 μX : Mem} {post : Int32 → Mem → Prop} (h : KK codes b p μ0 post 0 s k μX) (hb0 : b < 1000) (hs : ¬ (s = 2 ∨ s = 4 ∨ s = 7)) : ∀ a rw μM, RD a (p + b) rw μM → Fr sRd μ0 μM → CE μ0 μM → post 0 μM := by
  have e : rnF codes b 0 s k μX = (nI b, μX) := by
    show ((if s = 2 ∨ s = 4 ∨ s = 7 then -1 else nI b), μX) = _
    rw [if_neg hs]
  unfold KK at h
  rw [e] at h
  exact h.2 (nI_nm1 hb0)
theorem KK_good {codes : Nat → Int32} {b p k : Nat} {s : Int32} {μ0 μX : Mem} {post : Int32 → Mem → Prop} (h : KK codes b p μ0 post 0 s k μX) (hs : s = 2 ∨ s = 4 ∨ s = 7) : ∀ rw μM, RD (p + b) (p + b) rw μM → FD rw μX μM → Fr sRd μ0 μM → CE μ0 μM → post 1 μM := by
  have e : rnF codes b 0 s k μX = (-1, μX) := by
    show ((if s = 2 ∨ s = 4 ∨ s = 7 then -1 else nI b), μX) = _
    rw [if_pos hs]
  unfold KK at h
  rw [e] at h
  exact h.1 rfl
theorem and_bit {x : Int32} {t : Nat} (ht : t < 32) : (x &&& ((1 : Int32) <<< (nI t &&& 31)) = 0) ↔ hb x t = false := by
  constructor
  · intro h
    have : hb (x &&& ((1 : Int32) <<< (nI t &&& 31))) t = false := by rw [h, hb_0]
    rw [hb_and, hb_shl ht] at this
    simpa using this
  · intro h
    apply hb_ext
    intro i _
    rw [hb_and, hb_shl ht, hb_0]
    by_cases e : i = t
    · subst e; rw [h]; rfl
    · simp [e]
theorem sub_eq {c d x : Int32} (h : c - d = x) : c = x + d := by rw [← h, Int32.sub_add_cancel]
/-- isIn(c - d, lo, hi) -/
theorem in_sub {c : Int32} {d lo hi : Nat} (hd : d < 1000) (hlh : lo ≤ hi) (hhi : hi < 1000) (h1 : ¬ c - nI d < nI lo) (h2 : ¬ nI hi < c - nI d) : ∃ t, lo ≤ t ∧ t ≤ hi ∧ c - nI d = nI t ∧ c = nI (d + t) := by
  obtain ⟨t, ht, e⟩ := rngI lo hi (by omega) h1 h2 hlh
  refine ⟨lo + t, by omega, ht, e, ?_⟩
  rw [sub_eq e, nI_add]
  congr 1
  omega
section Sim
variable {codes : Nat → Int32} {b p : Nat} {μ0 : Mem} {post : Int32 → Mem → Prop}
/-- behind an item -/
theorem sim97 {f k rw it : Nat} {s : Int32} {μX μM : Mem} {P12 : Int32 → Mem → Prop} (hkf : k + f = b) (hb0 : b ≤ 60) (hp : p + b ≤ 240) (hcd : ∀ k, k < b → μM 3 (p + k) = codes k) (hit : it < 12) (h : RD (p + k) (p + b) rw μM) (ht : TD rw (it + 1) μX μM) (hcnt : μX 9 3 = nI rw) (hs : s = 2 ∨ s = 4 ∨ s = 7) (hno : k < b → (s = 2 → codes k < 97 ∨ 106 < codes k) ∧ (s ≠ 7 → codes k ≠ 60)) (hK : KK codes b p μ0 post f s k μX) (hf : Fr sRd μ0 μM) (hc : CE μ0 μM)
    (ih : ∀ μM', RD (p + (k + 1)) (p + b) rw μM' → μM' 8 = μM 8 → μM' 9 = μM 9 → μM' 10 = μM 10 → μM' 3 = μM 3 → μM' 0 15 = μM 0 15 → Fr sRd μ0 μM' → CE μ0 μM' → it + 1 < 12 → k < b → ∀ f', f = f' + 1 → KK codes b p μ0 post f' 1 (k + 1) μX → P12 (nI (it + 1)) μM') : T_X12_readsAll_97 post P12 (nI it) μM := by
  obtain ⟨r1, r2, r3, r4, -⟩ := id h
  unfold T_X12_readsAll_97
  rw [r1, r2]
  refine ⟨fun q => ?_, fun q => ?_⟩
  · have hk : k < b := by
      rcases Nat.lt_or_ge k b with t | t
      · exact t
      · exact absurd (by rw [show k = b by omega]) q
    obtain ⟨f', rfl⟩ : ∃ f', f = f' + 1 := ⟨f - 1, by omega⟩
    refine sM_codeAt h (fun t => absurd t (by omega)) (fun _ => ?_)
    rw [hcd k hk]
    have est : stF s (codes k) μX = (endF (codes k) μX, μX) := by
      obtain ⟨h1, h2⟩ := hno hk
      have hgo : codes k ≠ 60 → goF (codes k) μX = endF (codes k) μX := fun e => by unfold goF; rw [if_neg e]
      unfold stF
      rcases hs with e | e | e
      · subst e
        rw [if_neg (by decide), if_pos rfl]
        rcases h1 rfl with t | t
        · rw [if_pos t, hgo (h2 (by decide))]
        · by_cases t2 : codes k < 97
          · rw [if_pos t2, hgo (h2 (by decide))]
          · rw [if_neg t2, if_pos t, hgo (h2 (by decide))]
      · subst e
        rw [if_neg (by decide), if_neg (by decide), if_neg (by decide), if_pos rfl, hgo (h2 (by decide))]
      · subst e
        rw [if_neg (by decide), if_neg (by decide), if_neg (by decide), if_neg (by decide), if_neg (by decide), if_neg (by decide)]
    refine ⟨fun q2 => ?_, fun q2 => ?_⟩
    · refine KK_stop hK (by omega) ?_ (p + k) rw μM h hf hc
      rw [est]; show endF (codes k) μX = 0; unfold endF; rw [if_neg q2]
    · rw [nI_1]
      refine ⟨fun q3 => ?_, fun q3 => ?_⟩
      · have h12 : it + 1 < 12 := by
          rcases Nat.lt_or_ge (it + 1) 12 with t | t
          · exact t
          · exact absurd (by rw [show it + 1 = 12 by omega]; rfl) q3
        have e1 : (stF s (codes k) μX).1 = 1 := by
          rw [est]; show endF (codes k) μX = 1; unfold endF
          have hq : ¬ (12 : Int32) ≤ nI (it + 1) := nI_ge (b := 12) h12 (by omega)
          rw [if_pos q2, ht.1, if_neg hq]
        have hK2 := KK_step hK (by rw [e1]; decide)
        rw [e1, est] at hK2
        have h2 := RD_next h (show p + k < p + b by omega)
        rw [show p + k + 1 = p + (k + 1) by omega] at h2
        refine ih _ h2 (mput_o (by decide)) (mput_o (by decide)) (mput_o (by decide)) (mput_o (by decide)) (by rw [m2, pk_un (by decide)]) (Fr_p hf (Or.inl rfl)) (CE_u hc (by omega)) h12 hk f' rfl hK2
      · refine KK_stop hK (by omega) ?_ (p + k) rw μM h hf hc
        rw [est]; show endF (codes k) μX = 0; unfold endF
        have e12 : it + 1 = 12 := (nI_eq (by omega) (by omega)).mp (show nI (it + 1) = nI 12 from q3)
        have hq : (12 : Int32) ≤ nI 12 := nI_self_le 12
        rw [if_pos q2, ht.1, e12, if_pos hq]
  · have ek : k = b := by
      have := (nI_eq (by omega) (by omega)).mp q
      omega
    subst ek
    have ef : f = 0 := by omega
    subst ef
    exact KK_good hK hs rw μM h ⟨hcnt, ht.2.2.2.1, ht.2.2.2.2⟩ hf hc
theorem st_lt {s : Int32} {μX : Mem} (hs : s = 2 ∨ s = 4) : stF s 60 μX = (3, μX) := by
  unfold stF goF
  rcases hs with e | e
  · subst e; rw [if_neg (by decide), if_pos rfl, if_pos (by decide), if_pos rfl]
  · subst e; rw [if_neg (by decide), if_neg (by decide), if_neg (by decide), if_pos rfl, if_pos rfl]
theorem st_3 (x : Int32) (μX : Mem) : stF 3 x μX = if x < 48 then (0, μX) else if 57 < x then (0, μX) else tbF (x - 48) μX := by
  unfold stF
  rw [if_neg (by decide), if_neg (by decide), if_pos rfl]
/-- the befores of a work, and its end -/
theorem sim55 {rw it F : Nat} {x1 : Int32} {P12 : Int32 → Mem → Prop} (hb0 : b ≤ 60) (hp : p + b ≤ 240) (hrw : rw < 9) (hx1 : lo 10 x1) {μM0 : Mem} (hcd : ∀ k, k < b → μM0 3 (p + k) = codes k)
    (fin : ∀ f k s μX μM, f < F → k + f = b → RD (p + k) (p + b) (rw + 1) μM → TD (rw + 1) (it + 1) μX μM → μX 9 3 = nI (rw + 1) → (s = 2 ∨ s = 4 ∨ s = 7) → (k < b → (s = 2 → codes k < 97 ∨ 106 < codes k) ∧ (s ≠ 7 → codes k ≠ 60)) → KK codes b p μ0 post f s k μX → μM 3 = μM0 3 → Fr sRd μ0 μM → CE μ0 μM → T_X12_readsAll_97 post P12 (nI it) μM) :
    ∀ f k μX μM, f < F → k + f = b → RD (p + k) (p + b) rw μM → TD rw (it + 1) μX μM → μX 9 3 = nI (rw + 1) → μX 10 rw = x1 → μX 11 rw = 0 → (k < b → codes k < 97 ∨ 106 < codes k) → KK codes b p μ0 post f 2 k μX → μM 3 = μM0 3 → Fr sRd μ0 μM → CE μ0 μM → T_X12_readsWork_55 (fun u μ => (¬ u = 0 → T_X12_readsAll_97 post P12 (nI it) μ) ∧ (u = 0 → post 0 μ)) x1 0 μM := by
  intro f k μX μM hfF hkf h ht hcnt e10 e11 hno hK h3 hf hc P hP
  have H : ∀ f k s x2 μX μM, f < F → k + f = b → (s = 2 ∨ s = 4) → lo rw x2 → RD (p + k) (p + b) rw μM → TD rw (it + 1) μX μM → μX 9 3 = nI (rw + 1) → μX 10 rw = x1 → μX 11 rw = x2 → (k < b → s = 2 → codes k < 97 ∨ 106 < codes k) → KK codes b p μ0 post f s k μX → μM 3 = μM0 3 → Fr sRd μ0 μM → CE μ0 μM → P x1 x2 μM := by
    intro f
    induction f using Nat.strongRecOn with
    | ind f ihf =>
      intro k s x2 μX μM hfF hkf hs hx2 h ht hcnt e10 e11 hno hK h3 hf hc
      have e12 := h.2.2.2.2.1
      have hst : (k < b → codes k ≠ 60) → vp_in (μM 0 12) 9 ∧ vp_in ((mset μM 8 (μM 0 12).toNatClampNeg x1) 0 12) 9 ∧ ((¬ (1 : Int32) = 0 → T_X12_readsAll_97 post P12 (nI it) (mset (mset (mset μM 8 (μM 0 12).toNatClampNeg x1) 9 ((mset μM 8 (μM 0 12).toNatClampNeg x1) 0 12).toNatClampNeg x2) 0 12 (((mset (mset μM 8 (μM 0 12).toNatClampNeg x1) 9 ((mset μM 8 (μM 0 12).toNatClampNeg x1) 0 12).toNatClampNeg x2) 0 12) + 1))) ∧ ((1 : Int32) = 0 → post 0 (mset (mset (mset μM 8 (μM 0 12).toNatClampNeg x1) 9 ((mset μM 8 (μM 0 12).toNatClampNeg x1) 0 12).toNatClampNeg x2) 0 12 (((mset (mset μM 8 (μM 0 12).toNatClampNeg x1) 9 ((mset μM 8 (μM 0 12).toNatClampNeg x1) 0 12).toNatClampNeg x2) 0 12) + 1)))) := by
        intro hn60
        have g1 : ∀ j v, (mset μM 8 j v) 0 = μM 0 := fun j v => mput_o (by decide)
        have g2 : ∀ j v i u, (mset (mset μM 8 j v) 9 i u) 0 = μM 0 := fun j v i u => by unfold mset; rw [mput_o (by decide), mput_o (by decide)]
        rw [g2, g1, e12, cl9 (show rw < 1000000 by omega), nI_1]
        have g8 : (mset (mset (mset μM 8 rw x1) 9 rw x2) 0 12 (nI (rw + 1))) 8 = upd (μM 8) rw x1 := by unfold mset; rw [mput_o (by decide), mput_o (by decide), mput_same]
        have g9 : (mset (mset (mset μM 8 rw x1) 9 rw x2) 0 12 (nI (rw + 1))) 9 = upd (μM 9) rw x2 := by unfold mset; rw [mput_o (by decide), mput_same, mput_o (by decide)]
        have g10 : (mset (mset (mset μM 8 rw x1) 9 rw x2) 0 12 (nI (rw + 1))) 10 = μM 10 := by unfold mset; rw [mput_o (by decide), mput_o (by decide), mput_o (by decide)]
        have g3 : (mset (mset (mset μM 8 rw x1) 9 rw x2) 0 12 (nI (rw + 1))) 3 = μM 3 := by unfold mset; rw [mput_o (by decide), mput_o (by decide), mput_o (by decide)]
        have g15 : (mset (mset (mset μM 8 rw x1) 9 rw x2) 0 12 (nI (rw + 1))) 0 15 = μM 0 15 := by rw [m2, pk_un (by decide), g2]
        refine ⟨in9 hrw (by omega), in9 hrw (by omega), fun _ => fin f k s μX _ hfF hkf (RD_store h hrw hx1 hx2) ?_ hcnt (by rcases hs with e | e <;> simp [e]) (fun hk => ⟨fun e => hno hk e, fun _ => hn60 hk⟩) hK (by rw [g3]; exact h3) (Fr_p (Fr_p (Fr_p hf (by unfold sRd; omega)) (by unfold sRd; omega)) (by unfold sRd; omega)) (CE_u (CE_p (CE_p hc (by decide)) (by decide)) (by omega)), fun e => absurd e n10⟩
        obtain ⟨t1, t2, t3, t4, t5⟩ := ht
        refine ⟨t1, by rw [g15]; exact t2, by rw [g15]; exact t3, fun w hw => ?_, fun t htt => by rw [g15, g10]; exact t5 t htt⟩
        rw [g8, g9]
        by_cases e : w = rw
        · subst e; rw [pk_us, pk_us]; exact ⟨e10, e11⟩
        · rw [pk_un e, pk_un e]; exact t4 w (by omega)
      refine hP _ _ _ (sM_codeAt h (fun q => rb_t (by decide) (hst (fun hk => absurd hk (by omega)))) (fun q => ?_))
      have hk : k < b := by omega
      rw [h3, hcd k hk]
      refine ⟨fun q60 => hst (fun _ => q60), fun q60 => ?_⟩
      obtain ⟨f1, rfl⟩ : ∃ f1, f = f1 + 1 := ⟨f - 1, by omega⟩
      have est : stF s (codes k) μX = (3, μX) := by rw [q60]; exact st_lt hs
      have hK1 := KK_step hK (by rw [est]; exact (by decide : (3 : Int32) ≠ 0))
      rw [est] at hK1
      have h2 := RD_next h q
      have hf2 : Fr sRd μ0 (mset μM 0 10 ((μM 0 10) + 1)) := Fr_p hf (Or.inl rfl)
      have hc2 : CE μ0 (mset μM 0 10 ((μM 0 10) + 1)) := CE_u hc (by omega)
      have h32 : (mset μM 0 10 ((μM 0 10) + 1)) 3 = μM0 3 := by unfold mset; rw [mput_o (by decide)]; exact h3
      have ht2 : TD rw (it + 1) μX (mset μM 0 10 ((μM 0 10) + 1)) := by
        obtain ⟨t1, t2, t3, t4, t5⟩ := ht
        have g15 : (mset μM 0 10 ((μM 0 10) + 1)) 0 15 = μM 0 15 := by rw [m2, pk_un (by decide)]
        refine ⟨t1, by rw [g15]; exact t2, by rw [g15]; exact t3, fun w hw => ?_, fun t htt => ?_⟩
        · unfold mset; rw [mput_o (by decide), mput_o (by decide)]; exact t4 w hw
        · rw [g15]; unfold mset; rw [mput_o (by decide)]; exact t5 t htt
      rw [show p + k + 1 = p + (k + 1) by omega] at h2
      generalize mset μM 0 10 ((μM 0 10) + 1) = μ2 at h2 hf2 hc2 h32 ht2 ⊢
      have e122 := h2.2.2.2.2.1
      refine sM_codeAt h2 (fun qe => ?_) (fun qi => ?_)
      · have hf10 : f1 = 0 := by omega
        subst hf10
        have k0 := KK_bad hK1 (by omega) (by decide : ¬ ((3 : Int32) = 2 ∨ (3 : Int32) = 4 ∨ (3 : Int32) = 7)) (p + (k + 1)) rw μ2 h2 hf2 hc2
        exact sM_isIn (fun _ => br_t rfl ⟨fun e => absurd rfl e, fun _ => k0⟩) (fun q1 _ => absurd (by decide) q1)
      · have hk1 : k + 1 < b := by omega
        obtain ⟨f2, rfl⟩ : ∃ f2, f1 = f2 + 1 := ⟨f1 - 1, by omega⟩
        rw [h32, hcd (k + 1) hk1, e122]
        have est3 := st_3 (codes (k + 1)) μX
        have erw : (μX 9 3) - 1 = nI rw := by rw [hcnt, nI_pred]
        have k0 : (stF 3 (codes (k + 1)) μX).1 = 0 → post 0 μ2 := fun e => KK_stop hK1 (by omega) e (p + (k + 1)) rw μ2 h2 hf2 hc2
        refine sM_isIn (fun qo => br_t rfl ⟨fun e => absurd rfl e, fun _ => k0 ?_⟩) (fun q1 q2 => br_f n10 ?_)
        · rw [est3]
          by_cases c1 : codes (k + 1) < 48
          · rw [if_pos c1]
          · rw [if_neg c1]
            by_cases c2 : 57 < codes (k + 1)
            · rw [if_pos c2]
            · rw [if_neg c2]
              obtain ⟨t, ht3, et⟩ := rngS 48 57 (by omega) c1 c2 (by omega)
              have et' : codes (k + 1) - 48 = nI t := et
              rw [et'] at qo ⊢
              unfold tbF
              rw [erw]
              have hle : rw ≤ t := by
                rcases qo with q | q
                · exact absurd q (nI_pos (by omega))
                · rcases Nat.eq_zero_or_pos rw with e0 | e0
                  · omega
                  · obtain ⟨r', rfl⟩ : ∃ r', rw = r' + 1 := ⟨rw - 1, by omega⟩
                    rw [nI_pred, nI_ltI (by omega) (by omega)] at q
                    omega
              rw [if_pos (nI_le hle (by omega))]
        · rcases Nat.eq_zero_or_pos rw with e0 | e0
          · subst e0
            exfalso
            obtain ⟨j, hj, ej⟩ := nI_of q1
            rw [ej] at q2
            exact q2 (by rw [Int32.lt_iff_toInt_lt, nI_toInt hj, show (nI 0 - 1).toInt = -1 by decide]; omega)
          · obtain ⟨r', er'⟩ : ∃ r', rw = r' + 1 := ⟨rw - 1, by omega⟩
            have q2' : ¬ nI r' < codes (k + 1) - 48 := by
              have := q2
              rw [er', nI_pred] at this
              exact this
            obtain ⟨t, -, htr, et, ec⟩ := in_sub (c := codes (k + 1)) (d := 48) (lo := 0) (hi := r') (by omega) (by omega) (by omega) q1 q2'
            have et' : codes (k + 1) - 48 = nI t := et
            rw [et']
            have c1 : ¬ codes (k + 1) < 48 := by rw [ec]; exact nI_nlt (b := 48) (by omega) (by omega)
            have c2 : ¬ 57 < codes (k + 1) := by rw [ec]; exact nI_nlt (a := 57) (by omega) (by omega)
            have est4 : stF 3 (codes (k + 1)) μX = if hb x2 t = false then (4, mset μX 11 rw (x2 ||| ((1 : Int32) <<< (nI t &&& 31)))) else (0, μX) := by
              rw [est3, if_neg c1, if_neg c2, et']
              unfold tbF
              rw [erw, if_neg (nI_ge (show t < rw by omega) (by omega)), cl9 (show rw < 1000000 by omega), e11]
              by_cases hb2 : hb x2 t = false
              · rw [if_pos hb2, if_pos ((and_bit (by omega)).mpr hb2)]
              · rw [if_neg hb2, if_neg (fun e => hb2 ((and_bit (by omega)).mp e))]
            refine sM_hasB (by omega) (fun hb2 => br_t rfl ?_) (fun hb2 => br_f n10 ⟨fun e => absurd rfl e, fun _ => k0 ?_⟩)
            · rw [if_pos hb2] at est4
              have hK2 := KK_step hK1 (by rw [est4]; exact (by decide : (4 : Int32) ≠ 0))
              rw [est4] at hK2
              have h4 := RD_next h2 qi
              rw [show p + (k + 1) + 1 = p + (k + 1 + 1) by omega] at h4
              refine ihf f2 (by omega) (k + 1 + 1) 4 (x2 ||| ((1 : Int32) <<< (nI t &&& 31))) (mset μX 11 rw (x2 ||| ((1 : Int32) <<< (nI t &&& 31)))) _ (by omega) (by omega) (Or.inr rfl) (lo_or hx2 (lo_shl (by omega) (by omega))) h4 ?_ ?_ ?_ (by rw [m2, pk_us]) (fun _ e => absurd e (by decide)) hK2 (by unfold mset; rw [mput_o (by decide)]; exact h32) (Fr_p hf2 (Or.inl rfl)) (CE_u hc2 (by omega))
              · obtain ⟨t1, t2, t3, t4, t5⟩ := ht2
                have g15 : (mset μ2 0 10 ((μ2 0 10) + 1)) 0 15 = μ2 0 15 := by rw [m2, pk_un (by decide)]
                refine ⟨?_, ?_, by rw [g15]; exact t3, fun w hw => ?_, fun t htt => ?_⟩
                · unfold mset; rw [mput_o (by decide)]; exact t1
                · rw [g15]; unfold mset; rw [mput_o (by decide)]; exact t2
                · rw [m2, pk_un (by omega)]; unfold mset; rw [mput_o (by decide), mput_o (by decide), mput_o (by decide)]; exact t4 w hw
                · rw [g15]; unfold mset; rw [mput_o (by decide), mput_o (by decide)]; exact t5 t htt
              · unfold mset; rw [mput_o (by decide)]; exact hcnt
              · unfold mset; rw [mput_o (by decide)]; exact e10
            · rw [est4, if_neg (by rw [hb2]; decide)]
  exact H f k 2 0 μX μM hfF hkf (Or.inl rfl) (lo_0 _) h ht hcnt e10 e11 (fun hk _ => hno hk) hK h3 hf hc
end Sim
