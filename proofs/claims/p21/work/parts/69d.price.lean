/-! the class's least price of a row -/
def GOn (N : Int32) (zp : Nat → Nat) (Vp : Nat → Nat) (BA B : Nat) (en : Int32) (f c : Nat) : Prop := ∃ s, s < 1024 ∧ Sub (nI s) (nI BA) ∧ Vp s < 1000000 ∧ (nI s ||| N) &&& nI B = nI f ∧ c = Vp s + sum10 zp (en &&& (nI s ^^^ (-1)))
theorem eX_goOn {n r j B BA p q : Nat} {zp Vp : Nat → Nat} {μ : Mem} {post : Mem → Prop} (hw : WK n μ) (hz : ScR 19 zp μ) (hr : shX r = .inl 9) (hrs : ¬ sR r) (hrow : RW n r μ) (hj : j + 1 < n) (hB : B < 1024) (hBA : BA < 1024) (eBA : μ 34 j &&& (μ 14 (μ r j).toNatClampNeg ^^^ (-1)) = nI BA) (h : RMp p q μ) (hV : ∀ s, s < 1024 → Sub (nI s) (nI BA) → μ p s = nI (Vp s) ∧ Vp s ≤ 1000000 ∧ (Vp s < 1000000 → Vp s ≤ 99000)) (k : ∀ (μ' : Mem) (v : Nat → Nat), Fr (fun c => c = q) μ μ' → (∀ f, f < 1024 → Sub (nI f) (nI B) → μ' q f = nI (v f) ∧ LSt (GOn (μ 14 (μ r j).toNatClampNeg) zp Vp BA B (nI BA &&& μ 14 (μ r (j + 1)).toNatClampNeg) f) (v f)) → post μ') : T_X4_goOn r (nI (j + 1)) (nI B) μ post := by
  have h9 := hw.2.1
  obtain ⟨-, -, q53, qp, q5⟩ := RMp_3 h
  have rq : r ≠ q := fun e => hrs (by unfold sR; omega)
  refine eX_fillFar hB h (fun μ2 hf2 h2 => ?_)
  rw [nI_pred, cl9 (show j < 1000000 by omega), cl9 (show j + 1 < 1000000 by omega), hf2 r rq, hf2 34 (by omega), hf2 14 (by omega)]
  obtain ⟨a1, va, hva, ea, ca⟩ := RW_at hrow (show j < n by omega)
  obtain ⟨b1, vb, hvb, eb, cb⟩ := RW_at hrow hj
  refine ⟨hr, in9 (by omega) (by omega), a1, in9 (by omega) (by omega), in9 (by omega) (by omega), b1, sX_bitCount ?_⟩
  rw [eBA]
  obtain ⟨w1, w2⟩ := bc_pw hBA
  rw [w1]
  have lN : lo 10 (μ 14 (μ r j).toNatClampNeg) := by rw [ca]; exact hw.2.2 va hva
  generalize μ 14 (μ r j).toNatClampNeg = N at lN k ⊢
  generalize nI BA &&& μ 14 (μ r (j + 1)).toNatClampNeg = en at k ⊢
  have hz9 := hz.1
  intro P hP
  have H : ∀ L, L ≤ 2 ^ pcW 10 BA → ∀ (x7 : Int32) (μ3 : Mem) (v : Nat → Nat), (0 < L → x7 = nI (depW 10 BA (L - 1))) → Fr (fun c => c = q) μ μ3 → (∀ f, f < 1024 → Sub (nI f) (nI B) → μ3 q f = nI (v f) ∧ LSt (fun c => ∃ i, L ≤ i ∧ i < 2 ^ pcW 10 BA ∧ Vp (depW 10 BA i) < 1000000 ∧ (nI (depW 10 BA i) ||| N) &&& nI B = nI f ∧ c = Vp (depW 10 BA i) + sum10 zp (en &&& (nI (depW 10 BA i) ^^^ (-1)))) (v f)) → P (nI B) N (nI BA) en x7 (nI L) μ3 := by
    intro L
    induction L with
    | zero =>
      intro _ x7 μ3 v _ hf h3
      refine hP _ _ _ _ _ _ _ (br_t (by decide) (k μ3 v hf (fun f hfl hsub => ⟨(h3 f hfl hsub).1, LSt_cong (fun c => ⟨?_, ?_⟩) (h3 f hfl hsub).2⟩)))
      · rintro ⟨i, -, i2, i3, i4, i5⟩
        obtain ⟨d1, d2⟩ := dep_sb hBA i
        exact ⟨_, d1, d2, i3, i4, i5⟩
      · rintro ⟨s, s1, s2, s3, s4, s5⟩
        obtain ⟨i, hi, ei⟩ := depW_sur 10 BA s hBA ((sub_land s1 hBA).mp s2)
        exact ⟨i, Nat.zero_le _, hi, by rw [ei]; exact s3, by rw [ei]; exact s4, by rw [ei]; exact s5⟩
    | succ L ih =>
      intro hL x7 μ3 v hx hf h3
      have ex := hx (by omega)
      rw [show L + 1 - 1 = L by omega] at ex
      subst ex
      obtain ⟨d1, d2⟩ := dep_sb hBA L
      have rmp := RMp_fr h hf q53.symm
      obtain ⟨c1, c2, -, -, -⟩ := RMp_3 rmp
      obtain ⟨c3, c4, -, -⟩ := RMp_2 rmp
      obtain ⟨e1, l1, l1'⟩ := hV _ d1 d2
      refine hP _ _ _ _ _ _ _ (br_f (nI_nle (by omega) (by omega)) ?_)
      have nx : ∀ (μ4 : Mem) (v4 : Nat → Nat), Fr (fun c => c = q) μ μ4 → (∀ f, f < 1024 → Sub (nI f) (nI B) → μ4 q f = nI (v4 f) ∧ LSt (fun c => ∃ i, L ≤ i ∧ i < 2 ^ pcW 10 BA ∧ Vp (depW 10 BA i) < 1000000 ∧ (nI (depW 10 BA i) ||| N) &&& nI B = nI f ∧ c = Vp (depW 10 BA i) + sum10 zp (en &&& (nI (depW 10 BA i) ^^^ (-1)))) (v4 f)) → T_X4_goOn_135 r post P (nI B) N (nI BA) en (nI (depW 10 BA L)) (nI (L + 1)) μ4 := by
        intro μ4 v4 hf4 h4
        unfold T_X4_goOn_135
        rw [pk_m1]
        exact ih (by omega) _ μ4 v4 (fun h0 => dep_next hBA h0 (by omega)) hf4 h4
      rw [c1, c3, cl9 (show depW 10 BA L < 1000000 by omega), hf p (fun e => qp e.symm), e1]
      refine ⟨c4, in9 d1 (by omega), pk_le (x := 1000000) 1000000 (Vp (depW 10 BA L)) (fun hge => nx μ3 v hf (fun f hfl hsub => ⟨(h3 f hfl hsub).1, LSt_cong (fun c => ⟨?_, ?_⟩) (h3 f hfl hsub).2⟩)) (fun hlt => ?_)⟩
      · rintro ⟨i, i1, i2⟩
        exact ⟨i, by omega, i2⟩
      · rintro ⟨i, i1, i2, i3, i4⟩
        have : i ≠ L := fun e => by rw [e] at i3; omega
        exact ⟨i, by omega, i2, i3, i4⟩
      · obtain ⟨f0, hf0, ef0⟩ := lo_nI (lo_and2 (nI (depW 10 BA L) ||| N) (nI_lo (n := 10) hB (by decide)))
        have hf0 : f0 < 1024 := hf0
        have sb : Sub (nI f0) (nI B) := fun b hb0 => by
          rw [← ef0, hb_and, Bool.and_eq_true] at hb0
          exact hb0.2
        obtain ⟨e2, l2⟩ := h3 f0 hf0 sb
        have s9 := sum10_le hz9 (en &&& (nI (depW 10 BA L) ^^^ (-1)))
        have l3 := l2.1
        have l4 := l1' hlt
        rw [ef0, cl9 (show f0 < 1000000 by omega)]
        refine ⟨c2, in9 hf0 (by omega), in9 d1 (by omega), sX_sumE (ScR_fr hz hf (by omega) (by omega)) ⟨in9 hf0 (by omega), ?_⟩⟩
        rw [e2, nI_add, nI_mn (by omega) (by omega)]
        refine nx _ (fun f => if f = f0 then min (Vp (depW 10 BA L) + sum10 zp (en &&& (nI (depW 10 BA L) ^^^ (-1)))) (v f0) else v f) (Fr_p hf rfl) (fun f hfl hsub => ?_)
        rw [m2]
        have up : ∀ c, (∃ i, L ≤ i ∧ i < 2 ^ pcW 10 BA ∧ Vp (depW 10 BA i) < 1000000 ∧ (nI (depW 10 BA i) ||| N) &&& nI B = nI f ∧ c = Vp (depW 10 BA i) + sum10 zp (en &&& (nI (depW 10 BA i) ^^^ (-1)))) ↔ (f = f0 ∧ c = Vp (depW 10 BA L) + sum10 zp (en &&& (nI (depW 10 BA L) ^^^ (-1)))) ∨ (∃ i, L + 1 ≤ i ∧ i < 2 ^ pcW 10 BA ∧ Vp (depW 10 BA i) < 1000000 ∧ (nI (depW 10 BA i) ||| N) &&& nI B = nI f ∧ c = Vp (depW 10 BA i) + sum10 zp (en &&& (nI (depW 10 BA i) ^^^ (-1)))) := fun c => by
          constructor
          · rintro ⟨i, i1, i2, i3, i4, i5⟩
            by_cases e : i = L
            · rw [e] at i4 i5
              rw [ef0] at i4
              exact Or.inl ⟨((nI_eq (by omega) (by omega)).mp i4).symm, i5⟩
            · exact Or.inr ⟨i, by omega, i2, i3, i4, i5⟩
          · rintro (⟨e, i5⟩ | ⟨i, i1, i2⟩)
            · exact ⟨L, Nat.le_refl _, by omega, hlt, by rw [e]; exact ef0, i5⟩
            · exact ⟨i, by omega, i2⟩
        by_cases e : f = f0
        · rw [e, pk_us]
          show nI _ = nI (if f0 = f0 then _ else v f0) ∧ LSt _ (if f0 = f0 then _ else v f0)
          rw [if_pos rfl]
          refine ⟨rfl, LSt_cong (fun c => ?_) (LSt_or (LSt_one (by omega)) l2)⟩
          rw [e] at up
          exact ⟨fun t => (up c).mpr (t.imp (fun t => ⟨rfl, t⟩) id), fun t => ((up c).mp t).imp (fun t => t.2) id⟩
        · rw [pk_un e]
          show μ3 q f = nI (if f = f0 then _ else v f) ∧ LSt _ (if f = f0 then _ else v f)
          rw [if_neg e]
          exact ⟨(h3 f hfl hsub).1, LSt_cong (fun c => ⟨fun t => (up c).mpr (Or.inr t), fun t => ((up c).mp t).elim (fun t => absurd t.1 e) id⟩) (h3 f hfl hsub).2⟩
  refine H _ (Nat.le_refl _) _ μ2 (fun _ => 1000000) (fun _ => by rw [depW_top 10 BA hBA]) hf2 (fun f hfl hsub => ⟨h2 f hfl hsub, LSt_none (fun c ⟨i, i1, i2, _⟩ => absurd i1 (by omega))⟩)
/-- what a row NEEDS at a place, and what lies between there -/
def Nr (nd row : Nat → Int32) (k : Nat) : Int32 := nd (row k).toNatClampNeg
def Br (nd row : Nat → Int32) (n k : Nat) : Int32 := openF nd row n k &&& (Nr nd row k ^^^ (-1))
theorem Br_0 {nd row : Nat → Int32} {n : Nat} (b : Nat) : hb (Br nd row n 0) b = false := by
  unfold Br openF
  rw [hb_andn, hb_and]
  cases e : hb (aheadF nd row 0 n) b
  · rfl
  · obtain ⟨i, i1, i2, i3⟩ := aheadF_hb.mp e
    have : i = 0 := by omega
    subst this
    rw [show hb (Nr nd row 0) b = true from i3]
    simp
theorem Br_z {nd row : Nat → Int32} {n k : Nat} (hk : n ≤ k + 1) (b : Nat) : hb (Br nd row n k) b = false := by
  unfold Br openF
  rw [hb_andn, hb_and]
  cases e : hb (behindF nd row k n) b
  · simp
  · obtain ⟨i, i1, i2, i3⟩ := behindF_hb.mp e
    have : i = k := by omega
    subst this
    rw [show hb (Nr nd row i) b = true from i3]
    simp
theorem sub_0 {s : Nat} {x : Int32} (hs : s < 1024) (hx : ∀ b, hb x b = false) (h : Sub (nI s) x) : s = 0 := by
  refine (nI_eq (b := 0) (by omega) (by omega)).mp (hb_ext (fun b _ => ?_))
  rw [show (nI 0 : Int32) = 0 from rfl, hb_0]
  cases e : hb (nI s) b
  · rfl
  · have := h b e
    rw [hx b] at this
    exact absurd this (by decide)
theorem Br_N {nd row : Nat → Int32} {n k : Nat} (b : Nat) (h : hb (Br nd row n k) b = true) : hb (Nr nd row k) b = false := by
  unfold Br at h
  rw [hb_andn, Bool.and_eq_true] at h
  cases e : hb (Nr nd row k) b
  · rfl
  · rw [e] at h; exact absurd h.2 (by decide)
/-- from goOn and closeSome to the next place -/
theorem STp_of {N Bt : Nat → Int32} {z zp Vp v : Nat → Nat} {r k B BA : Nat} (hB : B < 1024) (eB : Bt (k + 1) = nI B) (eBA : Bt k = nI BA) (hN : sum10 z (N (k + 1)) ≤ r) (hVs : ∀ s, s < 1024 → Vp s < 1000000 → Sub (nI s) (Bt k)) (h : ∀ f, f < 1024 → Sub (nI f) (nI B) → (sum10 z (nI f) ≤ r - sum10 z (N (k + 1)) → LSt (CCz (GOn (N k) zp Vp BA B (nI BA &&& N (k + 1))) B f) (v f)) ∧ (r - sum10 z (N (k + 1)) < sum10 z (nI f) → v f = 1000000)) : STp N Bt z zp r k Vp (fun s => if s &&& B = s then v s else 1000000) := by
  intro s hs
  show (okP N Bt z r (k + 1) s → LSt _ (if s &&& B = s then v s else 1000000)) ∧ (¬ okP N Bt z r (k + 1) s → (if s &&& B = s then v s else 1000000) = 1000000)
  unfold okP
  rw [eB, sub_land hs hB]
  constructor
  · rintro ⟨a, b⟩
    rw [if_pos a]
    have hsub := (sub_land hs hB).mpr a
    refine LSt_cong (fun c => ⟨?_, ?_⟩) ((h s hs hsub).1 (by omega))
    · rintro ⟨f, f1, f2, f3, s', g1, g2, g3, g4, g5⟩
      refine ⟨s', g1, g3, fun i hi => ?_, ?_⟩
      · have := f3 i hi
        rw [← g4, hb_and, Bool.and_eq_true] at this
        exact this.1
      · rw [g5]
        unfold prP
        rw [eBA]
    · rintro ⟨s', g1, g2, g3, g4⟩
      obtain ⟨f, hf, ef⟩ := lo_nI (lo_and2 (nI s' ||| N k) (nI_lo (n := 10) hB (by decide)))
      have hf : f < 1024 := hf
      refine ⟨f, hf, fun i hi => ?_, fun i hi => ?_, s', g1, by rw [← eBA]; exact hVs s' g1 g2, g2, ef, ?_⟩
      · rw [← ef, hb_and, Bool.and_eq_true] at hi
        exact hi.2
      · rw [← ef, hb_and, g3 i hi, hsub i hi]; rfl
      · rw [g4]
        unfold prP
        rw [eBA]
  · intro q
    by_cases a : s &&& B = s
    · rw [if_pos a]
      exact (h s hs ((sub_land hs hB).mpr a)).2 (Nat.lt_of_not_le (fun t => q ⟨a, by omega⟩))
    · rw [if_neg a]
theorem eX_leastPrice {n r R p q : Nat} {z z2 : Nat → Nat} {μ : Mem} {post : Int32 → Mem → Prop} (hw : WK n μ) (hz : ScR 16 z μ) (hz2 : ScR 19 z2 μ) (ho : OP μ) (hop : ∀ k, k < n → μ 34 k = openF (μ 14) (μ r) n k) (hr : shX r = .inl 9) (hrs : ¬ sR r) (hrow : RW n r μ) (h : RMp p q μ) (hR : R ≤ 990) (hN : ∀ k, k < n → sum10 z (Nr (μ 14) (μ r) k) ≤ R) (k : ∀ (V : Nat → Nat) (p' : Nat) (q' : Nat) (μ' : Mem), Fr sR μ μ' → RMp p' q' μ' → DPc (Nr (μ 14) (μ r)) (Br (μ 14) (μ r) n) z z2 R (n - 1) V → post (nI (V 0)) μ') : T_X4_leastPrice r (nI R) μ post := by
  have h9 := hw.2.1
  have s53 : sR 53 := by unfold sR; omega
  have s54 : sR 54 := by unfold sR; omega
  have s55 : sR 55 := by unfold sR; omega
  have sub0 : ∀ x : Int32, Sub (nI 0) x := fun x b q => by
    rw [show (nI 0 : Int32) = 0 from rfl, hb_0] at q
    exact absurd q (by decide)
  have loB : ∀ k, k < n → lo 10 (Br (μ 14) (μ r) n k) := fun k hk => by
    unfold Br
    rw [← hop k hk]
    exact lo_and (ho k (by omega)) _
  obtain ⟨c1, c2, c53, c5⟩ := RMp_2 h
  refine ⟨by rw [c1]; exact c2, i1024, fun P hP => ?_⟩
  rw [c1]
  have H : ∀ f j, n ≤ j + 1 + f → j < 20 → (j = 0 ∨ j < n) → ∀ (p : Nat) (q : Nat) (μ2 : Mem) (V : Nat → Nat), Fr sR μ μ2 → RMp p q μ2 → DPc (Nr (μ 14) (μ r)) (Br (μ 14) (μ r) n) z z2 R j V → (∀ s, s < 1024 → Sub (nI s) (Br (μ 14) (μ r) n j) → μ2 p s = nI (V s)) → P (nI R) (nI (j + 1)) μ2 := by
    intro f
    have fin : ∀ j, n ≤ j + 1 → (j = 0 ∨ j < n) → ∀ (p : Nat) (q : Nat) (μ2 : Mem) (V : Nat → Nat), Fr sR μ μ2 → RMp p q μ2 → DPc (Nr (μ 14) (μ r)) (Br (μ 14) (μ r) n) z z2 R j V → (∀ s, s < 1024 → Sub (nI s) (Br (μ 14) (μ r) n j) → μ2 p s = nI (V s)) → shX ((μ2 53 2).toNatClampNeg) = .inl 1024 ∧ vp_in 0 1024 ∧ post (μ2 ((μ2 53 2).toNatClampNeg) (0 : Int32).toNatClampNeg) μ2 := by
      intro j hj hj2 p q μ2 V hf hrm hD hV
      obtain ⟨a1, a2, -, -⟩ := RMp_2 hrm
      rw [a1]
      refine ⟨a2, i1024, ?_⟩
      rw [show ((0 : Int32)).toNatClampNeg = 0 from rfl, hV 0 (by omega) (sub0 _)]
      have ej : n - 1 = j := by omega
      exact k V p q μ2 hf hrm (by rw [ej]; exact hD)
    induction f with
    | zero =>
      intro j hj hj2 hj3 p q μ2 V hf hrm hD hV
      exact hP _ _ _ (br_t (by rw [hf 13 (by unfold sR; omega), hw.1]; exact nI_le (by omega) (by omega)) (fin j (by omega) hj3 p q μ2 V hf hrm hD hV))
    | succ f ih =>
      intro j hj hj2 hj3 p q μ2 V hf hrm hD hV
      refine hP _ _ _ (pk_le n (j + 1) (fun hle => fin j hle hj3 p q μ2 V hf hrm hD hV) (fun hlt => ?_) (by rw [hf 13 (by unfold sR; omega)]; exact hw.1))
      have hw2 := WK_fr hw hf (by unfold sR; omega) (by unfold sR; omega)
      have hrow2 := RW_fr hrow hf hrs
      have e14 := hf 14 (by unfold sR; omega)
      have e34 := hf 34 (by unfold sR; omega)
      have er := hf r hrs
      have eBj : ∀ k, k < n → μ2 34 k &&& (μ2 14 (μ2 r k).toNatClampNeg ^^^ (-1)) = Br (μ 14) (μ r) n k := fun k hk => by
        rw [e14, e34, er, hop k hk]; rfl
      obtain ⟨BA, hBA, eBA⟩ := lo_nI (loB j (by omega))
      obtain ⟨B, hB, eB⟩ := lo_nI (loB (j + 1) hlt)
      have hBA : BA < 1024 := hBA
      have hB : B < 1024 := hB
      obtain ⟨-, -, q53, -, q5⟩ := RMp_3 hrm
      rw [nI_1, cl9 (show j + 1 < 1000000 by omega)]
      obtain ⟨b1, -⟩ := RW_at hrow2 hlt
      have i1 := in9 (show j + 1 < 9 by omega) (show 9 < 1000000 by omega)
      have g1 := eBj (j + 1) hlt
      rw [eB] at g1
      rw [g1]
      have hbd := DPc_bd hz2.1 j V hD
      refine ⟨i1, hr, i1, b1, eX_goOn hw2 (ScR_fr hz2 hf (by unfold sR; omega) (by unfold sR; omega)) hr hrs hrow2 hlt hB hBA ((eBj j (by omega)).trans eBA) hrm (fun s hs hsub => ⟨hV s hs (by rw [eBA]; exact hsub), (hbd s hs).1, fun t => by have := (hbd s hs).2 t; omega⟩) (fun μ3 v hf3 h3 => ?_)⟩
      have hf3' : Fr sR μ μ3 := Fr_tr hf (Fr_mono hf3 (fun c hc => by unfold sR; omega))
      have hz3 := ScR_fr hz hf3' (by unfold sR; omega) (by unfold sR; omega)
      obtain ⟨d1, -⟩ := RW_at (RW_fr hrow hf3' hrs) hlt
      rw [e14, er] at h3
      have hNj : sum10 z (Nr (μ 14) (μ r) (j + 1)) ≤ R := hN (j + 1) hlt
      refine ⟨i1, d1, sX_sumE hz3 ?_⟩
      rw [hf3' 14 (by unfold sR; omega), hf3' r hrs, pk_sub (show sum10 z (μ 14 (μ r (j + 1)).toNatClampNeg) ≤ R from hNj)]
      refine eX_closeSome hB (by omega) hz3 (RMp_fr hrm hf3 (by omega)) h3 (fun μ4 v4 hf4 h4 => ?_)
      have hf4' : Fr sR μ μ4 := Fr_tr hf3' (Fr_mono hf4 (fun c hc => by unfold sR; omega))
      have rm4 := RMp_fr (RMp_fr hrm hf3 (by omega)) hf4 (by omega)
      refine ih (j + 1) (by omega) (by omega) (Or.inr hlt) q p _ (fun s => if s &&& B = s then v4 s else 1000000) (Fr_p (Fr_p hf4' s53) s53) ⟨rm4.1.symm.imp (fun t => ⟨t.2, t.1⟩) (fun t => ⟨t.2, t.1⟩), ?_, ?_⟩ ⟨V, hD, STp_of hB eB eBA hNj (DPc_sub j V hD) (fun f hfl hsub => (h4 f hfl hsub).2)⟩ (fun s hs hsub => ?_)
      · rw [m2, pk_un (by decide), m2, pk_us]; exact rm4.2.2
      · rw [m2, pk_us]; exact rm4.2.1
      · rw [eB] at hsub
        show mset (mset μ4 53 2 (μ4 53 3)) 53 3 (μ4 53 2) q s = nI (if s &&& B = s then v4 s else 1000000)
        rw [if_pos ((sub_land hs hB).mp hsub)]
        have : ∀ (μ : Mem) (a : Nat) (x : Int32), mset μ 53 a x q = μ q := fun μ a x => mput_ne (by omega)
        rw [this, this]
        exact (h4 s hs hsub).1
  have rm0 : RMp p q (mset μ p (0 : Int32).toNatClampNeg 0) := ⟨h.1, by rw [show mset μ p (0 : Int32).toNatClampNeg 0 53 = μ 53 from mput_ne (fun e => c53 e.symm)]; exact h.2⟩
  refine H 20 0 (by omega) (by omega) (Or.inl rfl) p q _ (fun s => if s = 0 then 0 else 1000000) (Fr_p (Fr_rf _ _) (by rcases c5 with e | e <;> (rw [e]; assumption))) rm0 (fun s _ => rfl) (fun s hs hsub => ?_)
  rw [sub_0 hs Br_0 hsub, m2]
  exact pk_us
