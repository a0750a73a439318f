/-! the reference's least price of a row -/
theorem eM_price {x : Int32} {z2 : Nat → Nat} {μ : Mem} {post : Int32 → Mem → Prop} (hz : ∀ t, t < 10 → μ 7 t = nI (z2 t)) (k : post (nI (sum10 z2 x)) μ) : T_X12_priceOf x μ post := by
  intro P hP
  rw [← sizeF_sum hz] at k
  have H : ∀ j, j ≤ 10 → P x (sizeF (μ 7) x j) (nI j) μ := by
    refine down_ind (hP _ _ _ _ (br_t (by decide) k)) (fun j hj ih => hP _ _ _ _ (br_f (nI_ge hj (by decide)) ?_))
    have e : sizeF (μ 7) x (j + 1) = sizeF (μ 7) x j + (if hb x j then μ 7 j else 0) := rfl
    rw [e] at ih
    refine sM_hasB (by omega) (fun q => br_t rfl ?_) (fun q => br_f n10 ⟨in9 (by omega) (by omega), ?_⟩)
    · unfold T_X12_priceOf_29
      rw [q] at ih
      rw [nI_1]; exact ih
    · unfold T_X12_priceOf_29
      rw [q] at ih
      rw [nI_1, cl9 (show j < 1000000 by omega)]; exact ih
  exact H 0 (Nat.zero_le _)
theorem dep_0 : ∀ w B, depW w B 0 = 0 := by
  intro w
  induction w with
  | zero => intro B; rfl
  | succ w ih =>
    intro B
    by_cases q : B % 2 = 1
    · rw [depW_1 q, show 0 / 2 = 0 from rfl, ih]
    · rw [depW_0 q, ih]
/-- the sets that are kept, from the fullest down to L -/
def KSt (ok : Nat → Prop) (q cost : Nat) (v : Nat → Nat) (μ : Mem) (L : Nat) (μ2 : Mem) (v2 : Nat → Nat) : Prop := Fr (fun c => c = 21) μ μ2 ∧ (∀ f, f < 1024 → μ2 21 f = nI (v2 f) ∧ v2 f ≤ 1000000) ∧ (∀ f, f < 1024 → PRd q L f → ok f → v2 f = min (v f) cost) ∧ (∀ f, f < 1024 → ¬ (PRd q L f ∧ ok f) → v2 f = v f)
section Keep
variable {ok : Nat → Prop} {q cost L : Nat} {v v2 v3 : Nat → Nat} {μ μ2 μ3 : Mem}
theorem KSt_at (hq : q < 1024) (hL : L < 2 ^ pcW 10 q) (h : KSt ok q cost v μ (L + 1) μ2 v2) : v2 (depW 10 q L) = v (depW 10 q L) := h.2.2.2 _ (dep_sb hq L).1 (fun ⟨⟨i, i1, i2, i3⟩, _⟩ => by
  have := depW_mono 10 q L i (by omega) i2
  omega)
theorem KSt_step (h : KSt ok q cost v μ (L + 1) μ2 v2) (hL : L < 2 ^ pcW 10 q) (hf : Fr (fun c => c = 21) μ μ3) (h1 : ∀ f, f < 1024 → μ3 21 f = nI (v3 f) ∧ v3 f ≤ 1000000) (h2 : ∀ f, f < 1024 → f ≠ depW 10 q L → v3 f = v2 f) (h3 : ok (depW 10 q L) → v3 (depW 10 q L) = min (v (depW 10 q L)) cost) (h4 : ¬ ok (depW 10 q L) → v3 (depW 10 q L) = v (depW 10 q L)) : KSt ok q cost v μ L μ3 v3 := by
  refine ⟨hf, h1, fun f hfl hp ho => ?_, fun f hfl hn => ?_⟩
  · by_cases e : f = depW 10 q L
    · subst e; exact h3 ho
    · rw [h2 f hfl e]
      obtain ⟨i, i1, i2, i3⟩ := hp
      have : i ≠ L := fun t => e (by rw [← i3, t])
      exact h.2.2.1 f hfl ⟨i, by omega, i2, i3⟩ ho
  · by_cases e : f = depW 10 q L
    · subst e; exact h4 (fun t => hn ⟨⟨L, Nat.le_refl _, hL, rfl⟩, t⟩)
    · rw [h2 f hfl e]
      exact h.2.2.2 f hfl (fun ⟨⟨i, i1, i2, i3⟩, t⟩ => hn ⟨⟨i, by omega, i2, i3⟩, t⟩)
end Keep
theorem eM_keep {R w s q cost : Nat} {z v : Nat → Nat} {x2 x3 x5 : Int32} {μ : Mem} {post : Int32 → Mem → Prop} {P35 : Int32 → Int32 → Int32 → Mem → Prop} {P105 : Int32 → Int32 → Int32 → Int32 → Int32 → Int32 → Mem → Prop} (hz : ∀ t, t < 10 → μ 6 t = nI (z t)) (hz9 : ∀ t, z t ≤ 99) (hw : w < 9) (hq : q < 1024) (hR : R ≤ 990) (hc : cost ≤ 1000000) (hv : ∀ f, f < 1024 → μ 21 f = nI (v f) ∧ v f ≤ 1000000) (k : ∀ (μ' : Mem) (v' : Nat → Nat), Fr (fun c => c = 21) μ μ' → (∀ f, f < 1024 → μ' 21 f = nI (v' f)) → (∀ f, f < 1024 → Sub (nI f) (nI q) → sum10 z (nI f ||| μ 4 w) ≤ R → v' f = min (v f) cost) → (∀ f, f < 1024 → ¬ (Sub (nI f) (nI q) ∧ sum10 z (nI f ||| μ 4 w) ≤ R) → v' f = v f) → P105 (nI R) x2 x3 (nI w) x5 (nI (s + 1)) μ') : T_X12_cheapestWith_193 post P35 P105 (nI R) x2 x3 (nI w) x5 (nI s) (nI cost) (nI q) (nI q) μ := by
  intro P hP
  have iw := in9 hw (show 9 < 1000000 by omega)
  have stp : ∀ L, L < 2 ^ pcW 10 q → ∀ (μ2 : Mem) (v2 : Nat → Nat), KSt (fun f => sum10 z (nI f ||| μ 4 w) ≤ R) q cost v μ (L + 1) μ2 v2 → (∀ (μ3 : Mem) (v3 : Nat → Nat), KSt (fun f => sum10 z (nI f ||| μ 4 w) ≤ R) q cost v μ L μ3 v3 → T_X12_cheapestWith_237 post P35 P105 P (nI R) x2 x3 (nI w) x5 (nI s) (nI cost) (nI q) (nI (depW 10 q L)) μ3) → P (nI R) x2 x3 (nI w) x5 (nI s) (nI cost) (nI q) (nI (depW 10 q L)) μ2 := by
    intro L hL μ2 v2 hk nx
    have hat := KSt_at hq hL hk
    have d1 := (dep_sb hq L).1
    have st : ∀ {μ3 : Mem} {v3 : Nat → Nat}, Fr (fun c => c = 21) μ μ3 → (∀ f, f < 1024 → μ3 21 f = nI (v3 f) ∧ v3 f ≤ 1000000) → (∀ f, f < 1024 → f ≠ depW 10 q L → v3 f = v2 f) → (sum10 z (nI (depW 10 q L) ||| μ 4 w) ≤ R → v3 (depW 10 q L) = min (v (depW 10 q L)) cost) → (¬ sum10 z (nI (depW 10 q L) ||| μ 4 w) ≤ R → v3 (depW 10 q L) = v (depW 10 q L)) → KSt (fun f => sum10 z (nI f ||| μ 4 w) ≤ R) q cost v μ L μ3 v3 := fun a b c d e => KSt_step hk hL a b c d e
    obtain ⟨hf, hc1, -, -⟩ := hk
    generalize depW 10 q L = kp at *
    have i3 := in9 d1 (show 1024 < 1000000 by omega)
    obtain ⟨e1, l1⟩ := hc1 kp d1
    have s9 := sum10_le hz9 (nI kp ||| μ 4 w)
    refine hP _ _ _ _ _ _ _ _ _ _ (br_f (nI_pos (by omega)) ⟨iw, sM_sizeE ?_⟩)
    rw [hf 6 (by omega), hf 4 (by omega), cl9 (show w < 1000000 by omega), cl9 (show kp < 1000000 by omega), sizeF_sum hz, e1]
    refine pk_lt R (sum10 z (nI kp ||| μ 4 w)) (fun hlt => nx μ2 v2 (st hf hc1 (fun _ _ _ => rfl) (fun t => absurd t (by omega)) (fun _ => hat))) (fun hge => ⟨i3, pk_le (v2 kp) cost (fun hle => nx μ2 v2 (st hf hc1 (fun _ _ _ => rfl) (fun _ => by omega) (fun t => absurd hge t))) (fun hgt => ⟨i3, nx _ (fun f => if f = kp then cost else v2 f) (st (Fr_p hf rfl) (fun f hfl => ?_) (fun f _ e => if_neg e) (fun _ => ?_) (fun t => absurd hge t))⟩)⟩)
    · rw [m2]
      by_cases e : f = kp
      · rw [e, pk_us]
        show nI cost = nI (if kp = kp then cost else v2 kp) ∧ (if kp = kp then cost else v2 kp) ≤ 1000000
        rw [if_pos rfl]
        exact ⟨rfl, hc⟩
      · rw [pk_un e]
        show μ2 21 f = nI (if f = kp then cost else v2 f) ∧ (if f = kp then cost else v2 f) ≤ 1000000
        rw [if_neg e]
        exact hc1 f hfl
    · show (if kp = kp then cost else v2 kp) = _
      rw [if_pos rfl]
      omega
  have H : ∀ L, L < 2 ^ pcW 10 q → ∀ (μ2 : Mem) (v2 : Nat → Nat), KSt (fun f => sum10 z (nI f ||| μ 4 w) ≤ R) q cost v μ (L + 1) μ2 v2 → P (nI R) x2 x3 (nI w) x5 (nI s) (nI cost) (nI q) (nI (depW 10 q L)) μ2 := by
    intro L
    induction L with
    | zero =>
      intro hL μ2 v2 hk
      refine stp 0 hL μ2 v2 hk (fun μ3 v3 h3 => ?_)
      unfold T_X12_cheapestWith_237 T_X12_cheapestWith_253
      rw [dep_0]
      refine rb_f rfl (hP _ _ _ _ _ _ _ _ _ _ (br_t (by decide) ?_))
      rw [nI_1]
      refine k μ3 v3 h3.1 (fun f hfl => (h3.2.1 f hfl).1) (fun f hfl a b => ?_) (fun f hfl a => ?_)
      · obtain ⟨i, hi, ei⟩ := depW_sur 10 q f hq ((sub_land hfl hq).mp a)
        exact h3.2.2.1 f hfl ⟨i, Nat.zero_le _, hi, ei⟩ b
      · refine h3.2.2.2 f hfl (fun ⟨⟨i, _, _, i3⟩, t⟩ => a ⟨?_, t⟩)
        rw [← i3]; exact (dep_sb hq i).2
    | succ L ih =>
      intro hL μ2 v2 hk
      refine stp (L + 1) hL μ2 v2 hk (fun μ3 v3 h3 => ?_)
      unfold T_X12_cheapestWith_237 T_X12_cheapestWith_253
      have hp := depW_pos 10 q (L + 1) (by omega) hL
      have d1 := (dep_sb hq (L + 1)).1
      refine rb_t (nI_ne0 hp (by omega)) ?_
      rw [dep_next hq (by omega) hL]
      exact ih (by omega) μ3 v3 h3
  have hp : 0 < 2 ^ pcW 10 q := Nat.two_pow_pos _
  have := H (2 ^ pcW 10 q - 1) (by omega) μ v ⟨Fr_rf _ _, hv, fun f _ ⟨i, i1, i2, _⟩ => absurd i1 (by omega), fun f _ _ => rfl⟩
  rw [depW_top 10 q hq] at this
  exact this
theorem bz_or {a b : Bool} {v : Nat} (h : a = true → b = false) : bz (a || b) v = bz a v + bz b v := by
  cases a
  · cases b <;> simp [bz]
  · rw [h rfl]; simp [bz]
theorem sum10_or {z : Nat → Nat} {x y : Int32} (h : ∀ b, hb x b = true → hb y b = false) : sum10 z (x ||| y) = sum10 z x + sum10 z y := by
  unfold sum10
  simp only [hb_or]
  rw [bz_or (h 0), bz_or (h 1), bz_or (h 2), bz_or (h 3), bz_or (h 4), bz_or (h 5), bz_or (h 6), bz_or (h 7), bz_or (h 8), bz_or (h 9)]
  omega
theorem sum10_z {z : Nat → Nat} {x : Int32} (h : ∀ b, hb x b = false) : sum10 z x = 0 := by
  unfold sum10
  simp [h, bz]
/-- what comes to f at a place from the sets below S -/
def RCs (Nj s0 bt had : Int32) (z z2 U : Nat → Nat) (R S f c : Nat) : Prop := ∃ s, s < S ∧ U s < 1000000 ∧ Sub (nI f) ((nI s ||| s0) &&& bt) ∧ sum10 z (nI f ||| Nj) ≤ R ∧ c = U s + sum10 z2 ((Nj &&& had) &&& ((nI s ||| s0) ^^^ (-1)))
theorem RC_DP {nd row : Nat → Int32} {n j R : Nat} {z z2 U V : Nat → Nat} (hj : j < n) (hU : DPc (Nr nd row) (Br nd row n) z z2 R (j - 1) U) (hN : sum10 z (Nr nd row j) ≤ R) (hV : ∀ f, f < 1024 → LSt (RCs (Nr nd row j) (if j = 0 then 0 else Nr nd row (j - 1)) (Br nd row n j) (opN nd row j) z z2 U R 1024 f) (V f)) : DPc (Nr nd row) (Br nd row n) z z2 R j V := by
  cases j with
  | zero =>
    intro s hs
    have hU0 : ∀ s, s < 1024 → U s = if s = 0 then 0 else 1000000 := hU
    have h := hV s hs
    by_cases e : s = 0
    · rw [if_pos e]
      have c0 : RCs (Nr nd row 0) (if 0 = 0 then 0 else Nr nd row (0 - 1)) (Br nd row n 0) (opN nd row 0) z z2 U R 1024 s 0 := by
        refine ⟨0, by omega, by rw [hU0 0 (by omega), if_pos rfl]; omega, ?_, ?_, ?_⟩
        · rw [e]
          intro b q
          rw [show (nI 0 : Int32) = 0 from rfl, hb_0] at q
          exact absurd q (by decide)
        · rw [e, sum10_or (fun b q => by rw [show (nI 0 : Int32) = 0 from rfl, hb_0] at q; exact absurd q (by decide)), sum10_z (x := nI 0) (fun b => hb_0 b)]
          omega
        · rw [hU0 0 (by omega), if_pos rfl, sum10_z]
          intro b
          rw [hb_and, hb_and, show opN nd row 0 = 0 from rfl, hb_0, Bool.and_false, Bool.false_and]
      have := h.2.1 0 c0
      omega
    · rw [if_neg e]
      rcases h.2.2 with q | ⟨s', a, b, c, -, -⟩
      · exact q
      · exfalso
        by_cases e' : s' = 0
        · subst e'
          refine e (sub_0 hs (fun b => ?_) c)
          rw [if_pos rfl, hb_and, Br_0, Bool.and_false]
        · rw [hU0 s' a, if_neg e'] at b
          omega
  | succ j =>
    have hU : DPc (Nr nd row) (Br nd row n) z z2 R j U := hU
    refine ⟨U, hU, fun s hs => ?_⟩
    have h := hV s hs
    rw [if_neg (by omega), show j + 1 - 1 = j by omega] at h
    have pr : ∀ s' : Nat, (Nr nd row (j + 1) &&& opN nd row (j + 1)) &&& ((nI s' ||| Nr nd row j) ^^^ (-1)) = (Br nd row n j &&& Nr nd row (j + 1)) &&& (nI s' ^^^ (-1)) := fun s' => by
      refine hb_ext (fun b _ => ?_)
      rw [hb_andn, hb_andn, hb_and, hb_and, hb_or]
      cases e1 : hb (Nr nd row (j + 1)) b
      · rw [Bool.false_and, Bool.false_and, Bool.and_false, Bool.false_and]
      · cases e2 : hb (Nr nd row j) b
        · have e3 : hb (opN nd row (j + 1)) b = hb (Br nd row n j) b := by
            unfold Br
            rw [hb_andn, e2, Bool.not_false, Bool.and_true]
            unfold openF
            rw [hb_and]
            have f1 : hb (behindF nd row j n) b = true := behindF_hb.mpr ⟨j + 1, hj, by omega, e1⟩
            rw [f1, Bool.and_true]
            rw [Bool.eq_iff_iff]
            unfold opN
            rw [orF_hb, aheadF_hb]
            constructor
            · rintro ⟨i, i1, i2⟩
              exact ⟨i, by omega, by omega, i2⟩
            · rintro ⟨i, i1, i2, i3⟩
              exact ⟨i, by omega, i3⟩
          rw [e3, Bool.or_false, Bool.true_and, Bool.and_true]
        · have e3 : hb (Br nd row n j) b = false := by
            cases q : hb (Br nd row n j) b
            · rfl
            · rw [Br_N b q] at e2
              exact absurd e2 (by decide)
          rw [e3, Bool.or_true, Bool.not_true, Bool.and_false, Bool.false_and, Bool.false_and]
    have sz : Sub (nI s) (Br nd row n (j + 1)) → sum10 z (nI s ||| Nr nd row (j + 1)) = sum10 z (nI s) + sum10 z (Nr nd row (j + 1)) := fun q => sum10_or (fun b t => Br_N b (q b t))
    constructor
    · rintro ⟨a1, a2⟩
      refine LSt_cong (fun c => ⟨?_, ?_⟩) h
      · rintro ⟨s', g1, g2, g3, g4, g5⟩
        refine ⟨s', g1, g2, fun b q => ?_, ?_⟩
        · have := g3 b q
          rw [hb_and, Bool.and_eq_true] at this
          exact this.1
        · rw [g5, pr s']; rfl
      · rintro ⟨s', g1, g2, g3, g4⟩
        refine ⟨s', g1, g2, fun b q => ?_, by rw [sz a1]; exact a2, ?_⟩
        · rw [hb_and, g3 b q, a1 b q]; rfl
        · rw [g4, pr s']; rfl
    · intro q
      rcases h.2.2 with t | ⟨s', g1, g2, g3, g4, g5⟩
      · exact t
      · exfalso
        have a1 : Sub (nI s) (Br nd row n (j + 1)) := fun b t => by
          have := g3 b t
          rw [hb_and, Bool.and_eq_true] at this
          exact this.2
        rw [sz a1] at g4
        exact q ⟨a1, g4⟩
section Cheap
variable {n m R : Nat} {z z2 : Nat → Nat} {μ : Mem} {post : Int32 → Mem → Prop}
theorem eM_317 {U : Nat → Nat} (hU : ∀ s, s < 1024 → μ 20 s = nI (U s) ∧ U s ≤ 1000000) (h1 : ∀ s, 0 < s → s < 1024 → U s = 1000000) (k : post (nI (U 0)) μ) : T_X12_cheapestWith_317 post 1000000 0 μ := by
  intro P hP
  have H : ∀ s, s ≤ 1024 → ∀ y, (y = if s = 0 then 1000000 else U 0) → P (nI y) (nI s) μ := by
    refine down_ind (fun y hy => hP _ _ _ (br_t (nI_self_le 1024) ?_)) (fun s hs ih y hy => hP _ _ _ (br_f (nI_ge (b := 1024) hs (by decide)) ?_))
    · rw [hy, if_neg (by decide)]; exact k
    · have i1 := in9 hs (show 1024 < 1000000 by omega)
      obtain ⟨e1, l1⟩ := hU s hs
      obtain ⟨-, l0⟩ := hU 0 (by omega)
      unfold T_X12_cheapestWith_347
      rw [nI_1, cl9 (show s < 1000000 by omega), e1]
      have hy9 : y ≤ 1000000 := by rw [hy]; split <;> omega
      refine ⟨i1, pk_le y (U s) (fun hle => ih y ?_) (fun hgt => ⟨i1, ih (U s) ?_⟩)⟩
      · rw [if_neg (by omega)]
        by_cases e : s = 0
        · subst e; rw [if_pos rfl] at hy; omega
        · rw [hy, if_neg e]
      · rw [if_neg (by omega)]
        by_cases e : s = 0
        · subst e; rfl
        · have := h1 s (by omega) hs
          omega
  exact H 0 (Nat.zero_le _) 1000000 rfl
theorem eM_105 {j w had0 : Nat} {U : Nat → Nat} {had s0 bt : Int32} {P35 : Int32 → Int32 → Int32 → Mem → Prop} (hz : ∀ t, t < 10 → μ 6 t = nI (z t)) (hz9 : ∀ t, z t ≤ 99) (hz2 : ∀ t, t < 10 → μ 7 t = nI (z2 t)) (hz29 : ∀ t, z2 t ≤ 99) (hw : w < 9) (hR : R ≤ 990) (hbt : lo 10 bt) (hU : ∀ s, s < 1024 → μ 20 s = nI (U s) ∧ U s ≤ 1000000 ∧ (U s < 1000000 → U s ≤ 99000)) (h0 : j = 0 → s0 = 0) (h1 : 0 < j → j < 9 ∧ vp_in (μ 13 (j - 1)) 9 ∧ μ 4 (μ 13 (j - 1)).toNatClampNeg = s0) (h21 : ∀ f, f < 1024 → μ 21 f = nI 1000000) (k : ∀ (μ' : Mem) (v : Nat → Nat), Fr (fun c => c = 21) μ μ' → (∀ f, f < 1024 → μ' 21 f = nI (v f) ∧ LSt (RCs (μ 4 w) s0 bt had z z2 U R 1024 f) (v f)) → T_X12_cheapestWith_267 post P35 (nI R) had (nI j) (nI w) 0 μ') : T_X12_cheapestWith_105 post P35 (nI R) had (nI j) (nI w) bt 0 μ := by
  intro P hP
  have iw := in9 hw (show 9 < 1000000 by omega)
  have H : ∀ s, s ≤ 1024 → ∀ (μ2 : Mem) (v : Nat → Nat), Fr (fun c => c = 21) μ μ2 → (∀ f, f < 1024 → μ2 21 f = nI (v f) ∧ LSt (RCs (μ 4 w) s0 bt had z z2 U R s f) (v f)) → P (nI R) had (nI j) (nI w) bt (nI s) μ2 := by
    refine down_ind (fun μ2 v hf h2 => hP _ _ _ _ _ _ _ (br_t (nI_self_le 1024) (k μ2 v hf h2))) (fun s hs ih μ2 v hf h2 => hP _ _ _ _ _ _ _ (br_f (nI_ge (b := 1024) hs (by decide)) ?_))
    have i2 := in9 hs (show 1024 < 1000000 by omega)
    obtain ⟨e1, l1, l2⟩ := hU s hs
    rw [cl9 (show s < 1000000 by omega), hf 20 (by omega), e1, hf 13 (by omega), hf 4 (by omega)]
    refine ⟨i2, ?_⟩
    by_cases eU : U s = 1000000
    · refine rb_f (by rw [eU]; rfl) ?_
      rw [nI_1]
      refine ih μ2 v hf (fun f hfl => ⟨(h2 f hfl).1, LSt_cong (fun c => ⟨?_, ?_⟩) (h2 f hfl).2⟩)
      · rintro ⟨s', a, b⟩
        exact ⟨s', by omega, b⟩
      · rintro ⟨s', a, b, d⟩
        have : s' ≠ s := fun e => by rw [e] at b; omega
        exact ⟨s', by omega, b, d⟩
    · have hlt : U s < 1000000 := by omega
      have hle := l2 hlt
      refine rb_t (fun e => eU ((nI_eq (b := 1000000) (by omega) (by omega)).mp e)) ?_
      have h151 : T_X12_cheapestWith_151 post P35 P (nI R) had (nI j) (nI w) bt (nI s) s0 (nI s) μ2 := by
        have p9 := sum10_le hz29 ((μ 4 w &&& had) &&& ((nI s ||| s0) ^^^ (-1)))
        refine ⟨i2, iw, ?_⟩
        rw [cl9 (show s < 1000000 by omega), cl9 (show w < 1000000 by omega), hf 20 (by omega), hf 4 (by omega), e1]
        refine eM_price (z2 := z2) (by rw [hf 7 (by omega)]; exact hz2) ?_
        rw [nI_add]
        obtain ⟨q, hq, eq⟩ := lo_nI (lo_and2 (nI s ||| s0) hbt)
        have hq : q < 1024 := hq
        rw [eq]
        refine eM_keep (v := v) (z := z) (by rw [hf 6 (by omega)]; exact hz) hz9 hw hq hR (by omega) (fun f hfl => ⟨(h2 f hfl).1, (h2 f hfl).2.1⟩) (fun μ3 v3 hf3 g1 g2 g3 => ?_)
        rw [hf 4 (by omega)] at g2 g3
        refine ih μ3 v3 (Fr_tr hf hf3) (fun f hfl => ⟨g1 f hfl, ?_⟩)
        have up : ∀ c, RCs (μ 4 w) s0 bt had z z2 U R (s + 1) f c ↔ RCs (μ 4 w) s0 bt had z z2 U R s f c ∨ ((Sub (nI f) (nI q) ∧ sum10 z (nI f ||| μ 4 w) ≤ R) ∧ c = U s + sum10 z2 ((μ 4 w &&& had) &&& ((nI s ||| s0) ^^^ (-1)))) := fun c => by
          constructor
          · rintro ⟨s', a, b, d, e, g⟩
            by_cases es : s' = s
            · rw [es] at d g
              rw [eq] at d
              exact Or.inr ⟨⟨d, e⟩, g⟩
            · exact Or.inl ⟨s', by omega, b, d, e, g⟩
          · rintro (⟨s', a, b⟩ | ⟨⟨d, e⟩, g⟩)
            · exact ⟨s', by omega, b⟩
            · exact ⟨s, by omega, hlt, by rw [eq]; exact d, e, g⟩
        by_cases t : Sub (nI f) (nI q) ∧ sum10 z (nI f ||| μ 4 w) ≤ R
        · rw [g2 f hfl t.1 t.2]
          exact LSt_cong (fun c => ⟨fun a => (up c).mpr (a.imp id (fun a => ⟨t, a⟩)), fun a => ((up c).mp a).imp id (fun a => a.2)⟩) (LSt_or (h2 f hfl).2 (LSt_one (by omega)))
        · rw [g3 f hfl t]
          exact LSt_cong (fun c => ⟨fun a => (up c).mpr (Or.inl a), fun a => ((up c).mp a).elim id (fun a => absurd a.1 t)⟩) (h2 f hfl).2
      by_cases ej : j = 0
      · have e0 := h0 ej
        subst ej e0
        exact rb_f rfl h151
      · obtain ⟨j9, v1, e4⟩ := h1 (by omega)
        refine rb_t (nI_ne0 (by omega) (by omega)) ?_
        obtain ⟨j', rfl⟩ : ∃ t, j = t + 1 := ⟨j - 1, by omega⟩
        rw [show j' + 1 - 1 = j' by omega] at v1 e4
        rw [nI_pred, cl9 (show j' < 1000000 by omega), e4]
        exact ⟨in9 (by omega) (by omega), v1, h151⟩
  exact H 0 (Nat.zero_le _) μ (fun _ => 1000000) (Fr_rf _ _) (fun f hfl => ⟨h21 f hfl, LSt_none (fun c ⟨s, a, _⟩ => absurd a (by omega))⟩)
theorem eM_cheapestWith (h : IM n m μ) (hz : ∀ t, t < 10 → μ 6 t = nI (z t)) (hz9 : ∀ t, z t ≤ 99) (hz2 : ∀ t, t < 10 → μ 7 t = nI (z2 t)) (hz29 : ∀ t, z2 t ≤ 99) (hr : RWn n 13 μ) (hR : R ≤ 990) (k9 : ∀ j μ', j < n → R < sum10 z (Nr (μ 4) (μ 13) j) → Fr s2021 μ μ' → post (-9) μ') (k : ∀ (V : Nat → Nat) (μ' : Mem), (∀ j, j < n → sum10 z (Nr (μ 4) (μ 13) j) ≤ R) → DPc (Nr (μ 4) (μ 13)) (Br (μ 4) (μ 13) n) z z2 R (n - 1) V → Fr s2021 μ μ' → post (nI (V 0)) μ') : T_X12_cheapestWith (nI R) μ post := by
  have h9 := mN h
  have hI : ∀ μ1, Fr s2021 μ μ1 → IM n m μ1 := fun μ1 hf => IM_free h (Fr_mono hf (fun q hq => by unfold s2021 at hq; unfold freM; omega))
  have q20 : s2021 20 := Or.inl rfl
  have q21 : s2021 21 := Or.inr rfl
  have H35 : ∀ μ1, Fr s2021 μ μ1 → (∀ s, s < 1024 → μ1 20 s = nI (if s = 0 then 0 else 1000000)) → T_X12_cheapestWith_35 post (nI R) 0 0 μ1 := by
    intro μ1 hf1 hc1 P35 hP35
    have H : ∀ j, j ≤ n → ∀ (μ2 : Mem) (U : Nat → Nat), Fr s2021 μ μ2 → (∀ i, i < j → sum10 z (Nr (μ 4) (μ 13) i) ≤ R) → DPc (Nr (μ 4) (μ 13)) (Br (μ 4) (μ 13) n) z z2 R (j - 1) U → (∀ s, s < 1024 → μ2 20 s = nI (U s)) → P35 (nI R) (opN (μ 4) (μ 13) j) (nI j) μ2 := by
      refine down_ind (fun μ2 U hf2 hs hD hc => ?_) (fun j hj ih μ2 U hf2 hs hD hc => ?_)
      · refine hP35 _ _ _ _ (br_t (by rw [(hI μ2 hf2).1.1]; exact nI_self_le n) (eM_317 (U := U) (fun s hs => ⟨hc s hs, (DPc_bd hz29 _ _ hD s hs).1⟩) (fun s h0 hs => ?_) (k U μ2 hs hD hf2)))
        have hb := DPc_bd hz29 _ _ hD s hs
        by_cases q : U s < 1000000
        · have := DPc_sub _ _ hD s hs q
          have := sub_0 hs (Br_z (by omega)) this
          omega
        · omega
      · have hbd := DPc_bd hz29 _ _ hD
        have h2 := hI μ2 hf2
        have hr2 : RWn n 13 μ2 := RWn_fr hr hf2 (by unfold s2021; omega)
        obtain ⟨a1, w, hw, ew, cw⟩ := RWn_at h9 hr2 hj
        have i1 := in9 (show j < 9 by omega) (show 9 < 1000000 by omega)
        have e4 := hf2 4 (by unfold s2021; omega)
        have e13 := hf2 13 (by unfold s2021; omega)
        have e6 := hf2 6 (by unfold s2021; omega)
        have e7 := hf2 7 (by unfold s2021; omega)
        have eN : μ 4 w = Nr (μ 4) (μ 13) j := by
          show μ 4 w = μ 4 (μ 13 j).toNatClampNeg
          rw [← e13, cw]
        have s9 := sum10_le hz9 (Nr (μ 4) (μ 13) j)
        refine hP35 _ _ _ _ (br_f (by rw [h2.1.1]; exact nI_ge hj (by omega)) ?_)
        rw [cl9 (show j < 1000000 by omega)]
        refine ⟨i1, a1, sM_sizeE ?_⟩
        rw [cw, e4, e6, sizeF_sum hz, eN]
        refine pk_le (sum10 z (Nr (μ 4) (μ 13) j)) R (fun hle => ?_) (fun hgt => k9 j μ2 hj hgt hf2)
        refine sM_openE h2.1 rfl hr2 (by omega) ⟨i1, ?_, ?_⟩
        · rw [cl9 (show j < 1000000 by omega)]; exact a1
        rw [cl9 (show j < 1000000 by omega), ew, cl9 (show w < 1000000 by omega), e4, e13, eN]
        have lo5 : lo 10 (Br (μ 4) (μ 13) n j) := lo_and (openF_lo (nd_lo h.1 hr)) _
        have iw := in9 (show w < 9 by omega) (show 9 < 1000000 by omega)
        intro P79 hP79
        have H79 : ∀ s, s ≤ 1024 → ∀ μ3, Fr (fun c => c = 21) μ2 μ3 → (∀ f, f < s → μ3 21 f = nI 1000000) → P79 (nI R) (opN (μ 4) (μ 13) j) (nI j) (nI w) (Br (μ 4) (μ 13) n j) (nI s) μ3 := by
          refine down_ind (fun μ3 hf3 h3 => hP79 _ _ _ _ _ _ _ (br_t (nI_self_le 1024) ?_)) (fun s hs ih2 μ3 hf3 h3 => hP79 _ _ _ _ _ _ _ (br_f (nI_ge (b := 1024) hs (by decide)) ⟨in9 hs (by omega), ?_⟩))
          · have f4 : μ3 4 = μ 4 := (hf3 4 (by omega)).trans e4
            have f13 : μ3 13 = μ 13 := (hf3 13 (by omega)).trans e13
            refine eM_105 (had0 := 0) (z := z) (z2 := z2) (U := U) (s0 := if j = 0 then 0 else Nr (μ 4) (μ 13) (j - 1)) (by rw [hf3 6 (by omega), e6]; exact hz) hz9 (by rw [hf3 7 (by omega), e7]; exact hz2) hz29 (by omega) hR lo5 (fun s hs => ⟨by rw [hf3 20 (by omega)]; exact hc s hs, (hbd s hs).1, fun q => by have := (hbd s hs).2 q; omega⟩) (fun e => if_pos e) (fun h0 => ⟨by omega, ?_, ?_⟩) h3 (fun μ4 v hf4 h4 => ?_)
            · rw [f13, ← e13]
              exact (RWn_at h9 hr2 (show j - 1 < n by omega)).1
            · rw [f4, f13, if_neg (by omega)]; rfl
            · rw [f4, eN] at h4
              have hf4' : Fr s2021 μ μ4 := Fr_tr hf2 (Fr_tr (Fr_mono hf3 (fun c hc => Or.inr hc)) (Fr_mono hf4 (fun c hc => Or.inr hc)))
              have hD' := RC_DP hj hD hle (fun f hfl => (h4 f hfl).2)
              intro P hP
              have H2 : ∀ s, s ≤ 1024 → ∀ μ5, Fr (fun c => c = 20) μ4 μ5 → (∀ f, f < s → μ5 20 f = nI (v f)) → P (nI R) (opN (μ 4) (μ 13) j) (nI j) (nI w) (nI s) μ5 := by
                refine down_ind (fun μ5 hf5 h5 => hP _ _ _ _ _ _ (br_t (nI_self_le 1024) ⟨iw, ?_⟩)) (fun s hs ih3 μ5 hf5 h5 => hP _ _ _ _ _ _ (br_f (nI_ge (b := 1024) hs (by decide)) ?_))
                · have hf5' : Fr s2021 μ μ5 := Fr_tr hf4' (Fr_mono hf5 (fun c hc => Or.inl hc))
                  rw [nI_1, cl9 (show w < 1000000 by omega), hf5' 4 (by unfold s2021; omega), eN]
                  refine ih μ5 v hf5' (fun i hi => ?_) (by rw [show j + 1 - 1 = j by omega]; exact hD') h5
                  by_cases e : i = j
                  · rw [e]; exact hle
                  · exact hs i (by omega)
                · have i2 := in9 hs (show 1024 < 1000000 by omega)
                  rw [nI_1, cl9 (show s < 1000000 by omega), hf5 21 (by omega), (h4 s hs).1]
                  refine ⟨i2, i2, ih3 _ (Fr_p hf5 rfl) (fun f hf => ?_)⟩
                  rw [m2]
                  by_cases e : f = s
                  · rw [e, pk_us]
                  · rw [pk_un e]; exact h5 f (by omega)
              exact H2 0 (Nat.zero_le _) μ4 (Fr_rf _ _) (fun f hf => absurd hf (by omega))
          · rw [nI_1, cl9 (show s < 1000000 by omega)]
            refine ih2 _ (Fr_p hf3 rfl) (fun f hf => ?_)
            rw [m2]
            by_cases e : f = s
            · rw [e, pk_us]; rfl
            · rw [pk_un e]; exact h3 f (by omega)
        exact H79 0 (Nat.zero_le _) μ2 (Fr_rf _ _) (fun f hf => absurd hf (by omega))
    exact H 0 (Nat.zero_le _) μ1 (fun s => if s = 0 then 0 else 1000000) hf1 (fun i hi => absurd hi (by omega)) (fun s _ => rfl) hc1
  intro P hP
  have H : ∀ s, s ≤ 1024 → ∀ μ1, Fr s2021 μ μ1 → (∀ f, f < s → μ1 20 f = nI (if f = 0 then 0 else 1000000)) → P (nI R) (nI s) μ1 := by
    refine down_ind (fun μ1 hf1 h1 => hP _ _ _ (br_t (nI_self_le 1024) (H35 μ1 hf1 h1))) (fun s hs ih μ1 hf1 h1 => hP _ _ _ (br_f (nI_ge (b := 1024) hs (by decide)) ?_))
    unfold T_X12_cheapestWith_24
    rw [nI_1, cl9 (show s < 1000000 by omega)]
    have up : ∀ x, x = nI (if s = 0 then 0 else 1000000) → ∀ f, f < s + 1 → mset μ1 20 s x 20 f = nI (if f = 0 then 0 else 1000000) := fun x hx f hf => by
      rw [m2]
      by_cases e : f = s
      · rw [e, pk_us]; exact hx
      · rw [pk_un e]; exact h1 f (by omega)
    exact ⟨fun q => ⟨in9 hs (by omega), ih _ (Fr_p hf1 q20) (up _ (by rw [if_neg (fun e => q (by rw [e]; rfl))]; rfl))⟩, fun q => ⟨in9 hs (by omega), ih _ (Fr_p hf1 q20) (up _ (by rw [if_pos ((nI_eq (b := 0) (by omega) (by omega)).mp q)]; rfl))⟩⟩
  exact H 0 (Nat.zero_le _) μ (Fr_rf _ _) (fun f hf => absurd hf (by omega))
end Cheap
