/-! part: both sides alike -/
def Sub (a y : Int32) : Prop := ∀ b, hb a b = true → hb y b = true
theorem and_ne {x y : Int32} : (¬ x &&& y = 0) ↔ ∃ b, hb x b = true ∧ hb y b = true := by
  constructor
  · intro h
    refine Classical.byContradiction (fun q => h (hb_ext (fun b _ => ?_)))
    rw [hb_and, hb_0]
    cases p : hb x b
    · rfl
    · cases p2 : hb y b
      · rfl
      · exact absurd ⟨b, p, p2⟩ q
  · rintro ⟨b, p, q⟩ e
    have : hb (x &&& y) b = true := by rw [hb_and, p, q]; rfl
    rw [e, hb_0] at this
    exact absurd this (by decide)
theorem or_sub {a y : Int32} : y ||| a = y ↔ Sub a y := by
  constructor
  · intro e b hb0
    rw [← e, hb_or, hb0, Bool.or_true]
  · intro h
    apply hb_ext
    intro b _
    rw [hb_or]
    cases p : hb a b
    · rw [Bool.or_false]
    · rw [h b p]; rfl
/-- v hangs together with w -/
def Comp (n : Nat) (nd : Nat → Int32) (w v : Nat) : Prop := ∀ C : Nat → Prop, C w → (∀ x y, x < n → y < n → C x → (¬ nd x &&& nd y = 0) → C y) → C v
theorem Comp_s {n w v u : Nat} {nd : Nat → Int32} (h : Comp n nd w v) (hv : v < n) (hu : u < n) (s : ¬ nd v &&& nd u = 0) : Comp n nd w u := fun C c1 c2 => c2 v u hv hu (h C c1 c2) s
theorem Comp_cong {n w v : Nat} {nd nd' : Nat → Int32} (e : ∀ w, w < n → nd w = nd' w) (h : Comp n nd w v) : Comp n nd' w v := fun C c1 c2 => h C c1 (fun x y hx hy cx s => c2 x y hx hy cx (by rw [← e x hx, ← e y hy]; exact s))
def LPt (n : Nat) (nd : Nat → Int32) (w l : Nat) : Prop := l < n ∧ Comp n nd w l ∧ ∀ v, v < n → Comp n nd w v → l ≤ v
theorem LPt_u {n w l l' : Nat} {nd : Nat → Int32} (h : LPt n nd w l) (h' : LPt n nd w l') : l = l' := Nat.le_antisymm (h.2.2 l' h'.1 h'.2.1) (h'.2.2 l h.1 h.2.1)
theorem LPt_cong {n w l : Nat} {nd nd' : Nat → Int32} (e : ∀ w, w < n → nd w = nd' w) (h : LPt n nd w l) : LPt n nd' w l := ⟨h.1, Comp_cong e h.2.1, fun v hv c => h.2.2 v hv (Comp_cong (fun w hw => (e w hw).symm) c)⟩
def LI (n : Nat) (nd : Nat → Int32) (w l : Nat) (y : Int32) : Prop := l < n ∧ l ≤ w ∧ Comp n nd w l ∧ (∀ b, hb y b = true → ∃ v, v < n ∧ Comp n nd w v ∧ hb (nd v) b = true) ∧ Sub (nd w) y
def LD (n : Nat) (nd : Nat → Int32) (l : Nat) (y : Int32) : Prop := ∀ i, i < n → (¬ nd i &&& y = 0) → Sub (nd i) y ∧ l ≤ i
def LG (nd : Nat → Int32) (l : Nat) (y : Int32) : Nat → Bool := fun i => decide ((¬ nd i &&& y = 0) ∧ y ||| nd i = y ∧ l ≤ i)
theorem LD_all {n l : Nat} {nd : Nat → Int32} {y : Int32} (h : cnt n (LG nd l y) = n) : LD n nd l y := fun i hi _ => by
  have := of_decide_eq_true (cnt_all h i hi)
  exact ⟨or_sub.mp this.2.1, this.2.2⟩
theorem LPt_of {n w l : Nat} {nd : Nat → Int32} {y : Int32} (hI : LI n nd w l y) (hD : LD n nd l y) : LPt n nd w l := by
  refine ⟨hI.1, hI.2.2.1, fun v hv c => (c (fun v => v = w ∨ (v < n ∧ ¬ nd v &&& y = 0)) (Or.inl rfl) (fun x u hx hu cx s => Or.inr ⟨hu, ?_⟩)).elim (fun e => by rw [e]; exact hI.2.1) (fun q => (hD v q.1 q.2).2)⟩
  obtain ⟨b, p, q⟩ := and_ne.mp s
  have sx : Sub (nd x) y := cx.elim (fun e => by rw [e]; exact hI.2.2.2.2) (fun t => (hD x t.1 t.2).1)
  exact and_ne.mpr ⟨b, q, sx b p⟩
def LJ (n : Nat) (nd : Nat → Int32) (w l : Nat) (y : Int32) (i l2 : Nat) (y2 : Int32) : Prop := LI n nd w l2 y2 ∧ Sub y y2 ∧ l2 ≤ l ∧ (∀ t, t < i → (¬ nd t &&& y = 0) → Sub (nd t) y2 ∧ l2 ≤ t) ∧ (LD n nd l y → y2 = y) ∧ (y2 = y ∨ ∃ t, t < n ∧ ¬ Sub (nd t) y ∧ (¬ nd t &&& y2 = 0) ∧ Sub (nd t) y2 ∧ l2 ≤ t)
theorem LJ_0 {n w l : Nat} {nd : Nat → Int32} {y : Int32} (h : LI n nd w l y) : LJ n nd w l y 0 l y := ⟨h, fun _ q => q, Nat.le_refl _, fun t ht => absurd ht (by omega), fun _ => rfl, Or.inl rfl⟩
theorem LJ_f {n w l i l2 : Nat} {nd : Nat → Int32} {y y2 : Int32} (h : LJ n nd w l y i l2 y2) (q : nd i &&& y2 = 0) : LJ n nd w l y (i + 1) l2 y2 := by
  obtain ⟨a1, a2, a3, a4, a5, a6⟩ := h
  refine ⟨a1, a2, a3, fun t ht s => ?_, a5, a6⟩
  by_cases e : t = i
  · subst e
    obtain ⟨b, p1, p2⟩ := and_ne.mp s
    exact absurd q (and_ne.mpr ⟨b, p1, a2 b p2⟩)
  · exact a4 t (by omega) s
theorem LJ_t {n w l i l2 : Nat} {nd : Nat → Int32} {y y2 : Int32} (hi : i < n) (h : LJ n nd w l y i l2 y2) (q : ¬ nd i &&& y2 = 0) : LJ n nd w l y (i + 1) (if i < l2 then i else l2) (y2 ||| nd i) := by
  obtain ⟨⟨b1, b2, b3, b4, b5⟩, a2, a3, a4, a5, a6⟩ := h
  have hc : Comp n nd w i := by
    obtain ⟨b, p1, p2⟩ := and_ne.mp q
    obtain ⟨v, hv, cv, pv⟩ := b4 b p2
    exact Comp_s cv hv hi (and_ne.mpr ⟨b, pv, p1⟩)
  have s2 : Sub y2 (y2 ||| nd i) := fun b p => by rw [hb_or, p]; rfl
  have si : Sub (nd i) (y2 ||| nd i) := fun b p => by rw [hb_or, p, Bool.or_true]
  have l3 : (if i < l2 then i else l2) ≤ l2 ∧ (if i < l2 then i else l2) ≤ i := by split <;> omega
  have hlc : (if i < l2 then i else l2) < n ∧ Comp n nd w (if i < l2 then i else l2) := by
    split
    · exact ⟨hi, hc⟩
    · exact ⟨b1, b3⟩
  refine ⟨⟨hlc.1, by omega, hlc.2, fun b p => ?_, fun b p => s2 b (b5 b p)⟩, fun b p => s2 b (a2 b p), by omega, fun t ht s => ?_, fun hd => ?_, ?_⟩
  · rw [hb_or, Bool.or_eq_true] at p
    rcases p with p | p
    · exact b4 b p
    · exact ⟨i, hi, hc, p⟩
  · by_cases e : t = i
    · subst e; exact ⟨si, l3.2⟩
    · obtain ⟨t1, t2⟩ := a4 t (by omega) s
      exact ⟨fun b p => s2 b (t1 b p), by omega⟩
  · have e := a5 hd
    subst e
    exact or_sub.mpr (hd i hi q).1
  · by_cases hs : Sub (nd i) y
    · rcases a6 with e | ⟨t, ht, t1, t2, t3, t4⟩
      · left; subst e; exact or_sub.mpr hs
      · right
        refine ⟨t, ht, t1, ?_, fun b p => s2 b (t3 b p), by omega⟩
        obtain ⟨b, p1, p2⟩ := and_ne.mp t2
        exact and_ne.mpr ⟨b, p1, s2 b p2⟩
    · right
      refine ⟨i, hi, hs, ?_, si, l3.2⟩
      obtain ⟨b, p1, p2⟩ := and_ne.mp q
      exact and_ne.mpr ⟨b, p1, s2 b p2⟩
theorem LJ_n {n w l j l2 : Nat} {nd : Nat → Int32} {y y2 : Int32} (h : LJ n nd w l y n l2 y2) (hd : LD n nd l y ∨ j ≤ cnt n (LG nd l y)) : LD n nd l2 y2 ∨ j + 1 ≤ cnt n (LG nd l2 y2) := by
  obtain ⟨a1, a2, a3, a4, a5, a6⟩ := h
  rcases a6 with e | ⟨t, ht, t1, t2, t3, t4⟩
  · left
    subst e
    exact fun i hi s => a4 i hi s
  · right
    rcases hd with hd | hd
    · have e := a5 hd
      subst e
      exact absurd t3 t1
    · have := cnt_lt (n := n) (v := t) (f := LG nd l y) (g := LG nd l2 y2) (fun i hi q => ?_) ht (decide_eq_true ⟨t2, or_sub.mpr t3, t4⟩) (decide_eq_false (fun q => t1 (or_sub.mp q.2.1)))
      · omega
      · obtain ⟨q1, q2, q3⟩ := of_decide_eq_true q
        obtain ⟨s1, s2⟩ := a4 i hi q1
        refine decide_eq_true ⟨?_, or_sub.mpr s1, s2⟩
        obtain ⟨b, p1, p2⟩ := and_ne.mp q1
        exact and_ne.mpr ⟨b, p1, a2 b p2⟩
theorem nI_min {i l : Nat} (hi : i < 1000) (hl : l < 1000) : (if nI i < nI l then nI i else nI l) = nI (if i < l then i else l) := by
  rcases Nat.lt_or_ge i l with q | q
  · rw [if_pos (nI_lt q (by omega)), if_pos q]
  · rw [if_neg (nI_nlt q (by omega)), if_neg (by omega)]
theorem eX_leastOfPart {n w : Nat} {μ : Mem} {post : Int32 → Mem → Prop} (h : WK n μ) (hw : w < n) (k : ∀ l, LPt n (μ 14) w l → post (nI l) μ) : T_X0_leastOfPart (nI w) μ post := by
  obtain ⟨hn, h9, -⟩ := h
  refine ⟨in9 (show w < 9 by omega) (by omega), ?_⟩
  rw [cl9 (show w < 1000000 by omega)]
  intro P hP
  have H : ∀ j, j ≤ n → ∀ l y, LI n (μ 14) w l y → (LD n (μ 14) l y ∨ j ≤ cnt n (LG (μ 14) l y)) → P (nI l) y (nI j) μ := by
    refine down_ind (fun l y hI hD => hP _ _ _ _ (br_t (by rw [hn]; exact nI_self_le n) (k l (LPt_of hI ?_)))) (fun j hj ih l y hI hD => hP _ _ _ _ (br_f (by rw [hn]; exact nI_ge hj (by omega)) ?_))
    · rcases hD with q | q
      · exact q
      · exact LD_all (by have := cnt_le n (LG (μ 14) l y); omega)
    intro P2 hP2
    have H2 : ∀ i, i ≤ n → ∀ l2 y2, LJ n (μ 14) w l y i l2 y2 → P2 (nI l2) y2 (nI j) (nI i) μ := by
      refine down_ind (fun l2 y2 hJ => hP2 _ _ _ _ _ (br_t (by rw [hn]; exact nI_self_le n) ?_)) (fun i hi ih2 l2 y2 hJ => hP2 _ _ _ _ _ (br_f (by rw [hn]; exact nI_ge hi (by omega)) ?_))
      · rw [nI_1]; exact ih l2 y2 hJ.1 (LJ_n hJ hD)
      · have i1 := in9 (show i < 9 by omega) (show 9 < 1000000 by omega)
        have hl2 := hJ.1.1
        rw [nI_1, cl9 (show i < 1000000 by omega), nI_min (by omega) (by omega)]
        exact ⟨i1, fun q => ih2 _ _ (LJ_f hJ q), fun q => ⟨i1, ih2 _ _ (LJ_t hi hJ q)⟩⟩
    exact H2 0 (Nat.zero_le _) l y (LJ_0 hI)
  exact H 0 (Nat.zero_le _) w (μ 14 w) ⟨hw, Nat.le_refl _, fun C c _ => c, fun b p => ⟨w, hw, fun C c _ => c, p⟩, fun _ q => q⟩ (Or.inr (Nat.zero_le _))
def own (f : Nat → Nat) : Nat → Bool := fun w => decide (f w = w)
theorem eX_countParts {n : Nat} {μ : Mem} {post : Int32 → Mem → Prop} (h : WK n μ) (k : ∀ r, (∀ f, (∀ w, w < n → LPt n (μ 14) w (f w)) → r = nI (cnt n (own f))) → post r μ) : T_X0_countParts μ post := by
  have hn := h.1
  have h9 := h.2.1
  intro P hP
  have H : ∀ j, j ≤ n → ∀ y, (∀ f, (∀ w, w < n → LPt n (μ 14) w (f w)) → y = nI (cnt j (own f))) → P y (nI j) μ := by
    refine down_ind (fun y hy => hP _ _ _ (br_t (by rw [hn]; exact nI_self_le n) (k y hy))) (fun j hj ih y hy => hP _ _ _ (br_f (by rw [hn]; exact nI_ge hj (by omega)) (eX_leastOfPart h hj (fun l hl => ?_))))
    rw [nI_1]
    refine ⟨fun q => ih _ (fun f hf => ?_), fun q => ih _ (fun f hf => ?_)⟩
    · have e : own f j = false := decide_eq_false (fun e => q (by rw [LPt_u hl (hf j hj), e]))
      rw [cnt_s, e]
      exact hy f hf
    · have e1 : l = j := (nI_eq (by have := hl.1; omega) (by omega)).mp q
      have e : own f j = true := decide_eq_true (by rw [← LPt_u hl (hf j hj), e1])
      rw [cnt_s, e, hy f hf, nI_1]
      rfl
  exact H 0 (Nat.zero_le _) 0 (fun f _ => rfl)
/-- the reference's labels -/
def LBl (n : Nat) (nd : Nat → Int32) (f : Nat → Nat) (μ : Mem) (j : Nat) : Prop := ∀ i, i < j → f i ≤ i ∧ Comp n nd i (f i) ∧ μ 19 i = nI (f i)
def FXl (n : Nat) (nd : Nat → Int32) (f : Nat → Nat) : Prop := ∀ a b, a < n → b < n → (¬ nd a &&& nd b = 0) → f a ≤ f b
theorem LB_LPt {n : Nat} {nd : Nat → Int32} {f : Nat → Nat} {μ : Mem} (h : LBl n nd f μ n) (hx : FXl n nd f) : ∀ w, w < n → LPt n nd w (f w) := by
  intro w hw
  obtain ⟨a, b, c⟩ := h w hw
  refine ⟨by omega, b, fun v hv cv => ?_⟩
  have e : f v = f w := cv (fun v => f v = f w) rfl (fun x y hx0 hy cx s => by
    have s' : ¬ nd y &&& nd x = 0 := by
      obtain ⟨b, p1, p2⟩ := and_ne.mp s
      exact and_ne.mpr ⟨b, p2, p1⟩
    have := hx x y hx0 hy s
    have := hx y x hy hx0 s'
    omega)
  rw [← e]
  exact (h v hv).1
theorem sumN_cl {f g : Nat → Nat} : ∀ k, (∀ i, i < k → f i = g i) → sumN f k = sumN g k := by
  intro k
  induction k with
  | zero => intro _; rfl
  | succ k ih =>
    intro h
    rw [sumN_s, sumN_s, ih (fun i hi => h i (by omega)), h k (by omega)]
def fup (f : Nat → Nat) (a v : Nat) : Nat → Nat := fun i => if i = a then v else f i
theorem eM_layParts {n m : Nat} {μ : Mem} {post : Mem → Prop} (h : IM n m μ) (k : ∀ f μ', Fr (fun q => q = 19) μ μ' → LBl n (μ 4) f μ' n → FXl n (μ 4) f → post μ') : T_X12_layParts μ post := by
  have h9 := mN h
  have H25 : ∀ f1 μ1, Fr (fun q => q = 19) μ μ1 → LBl n (μ 4) f1 μ1 n → T_X12_layParts_25 post 1 μ1 := by
    intro f1 μ1 hf1 hp1 P hP
    have H : ∀ s f μ2 x, sumN f n = s → Fr (fun q => q = 19) μ μ2 → LBl n (μ 4) f μ2 n → (x = 0 → FXl n (μ 4) f) → P x μ2 := by
      intro s
      induction s using Nat.strongRecOn with
      | ind s ih =>
        intro f μ2 x hs hfr hpt hfx
        refine hP _ _ ⟨fun q => k f μ2 hfr hpt (hfx q), fun _ => ?_⟩
        intro P33 hP33
        have H33 : ∀ a, a ≤ n → ∀ f3 μ3 x, (x = 0 → sumN f3 n ≤ s) → (x ≠ 0 → sumN f3 n < s) → (x = 0 → ∀ c d, c < a → d < n → (¬ μ 4 c &&& μ 4 d = 0) → f3 c ≤ f3 d) → Fr (fun q => q = 19) μ μ3 → LBl n (μ 4) f3 μ3 n → P33 x (nI a) μ3 := by
          refine down_ind (fun f3 μ3 x hz hnz hx3 hfr3 hpt3 => ?_) (fun a ha ih3 f3 μ3 x hz hnz hx3 hfr3 hpt3 => ?_)
          · refine hP33 _ _ _ (br_t (by rw [hfr3 0 (by omega), h.1.1]; exact nI_self_le n) ?_)
            by_cases e : x = 0
            · subst e
              exact hP _ _ (br_t rfl (k f3 μ3 hfr3 hpt3 (fun c d hc hd => hx3 rfl c d hc hd)))
            · exact ih _ (hnz e) f3 μ3 x rfl hfr3 hpt3 (fun q => absurd q e)
          · refine hP33 _ _ _ (br_f (by rw [hfr3 0 (by omega), h.1.1]; exact nI_ge ha (by omega)) ?_)
            intro P43 hP43
            have H43 : ∀ b, b ≤ n → ∀ f4 μ4 x, (x = 0 → sumN f4 n ≤ s) → (x ≠ 0 → sumN f4 n < s) → (x = 0 → (∀ c d, c < a → d < n → (¬ μ 4 c &&& μ 4 d = 0) → f4 c ≤ f4 d) ∧ ∀ d, d < b → (¬ μ 4 a &&& μ 4 d = 0) → f4 a ≤ f4 d) → Fr (fun q => q = 19) μ μ4 → LBl n (μ 4) f4 μ4 n → P43 x (nI a) (nI b) μ4 := by
              refine down_ind (fun f4 μ4 x hz hnz hx4 hfr4 hpt4 => ?_) (fun b hb0 ih4 f4 μ4 x hz hnz hx4 hfr4 hpt4 => ?_)
              · refine hP43 _ _ _ _ (br_t (by rw [hfr4 0 (by omega), h.1.1]; exact nI_self_le n) ?_)
                rw [nI_1]
                refine ih3 f4 μ4 x hz hnz (fun q c d hc hd sh => ?_) hfr4 hpt4
                by_cases e : c = a
                · subst e; exact (hx4 q).2 d hd sh
                · exact (hx4 q).1 c d (by omega) hd sh
              · refine hP43 _ _ _ _ (br_f (by rw [hfr4 0 (by omega), h.1.1]; exact nI_ge hb0 (by omega)) ?_)
                have i1 := in9 (show a < 9 by omega) (show 9 < 1000000 by omega)
                have i2 := in9 (show b < 9 by omega) (show 9 < 1000000 by omega)
                rw [nI_1, cl9 (show a < 1000000 by omega), cl9 (show b < 1000000 by omega), hfr4 4 (by omega)]
                obtain ⟨va, hva, eva⟩ := hpt4 a ha
                obtain ⟨vb, hvb, evb⟩ := hpt4 b hb0
                refine ⟨i1, i2, fun q => ih4 f4 μ4 x hz hnz (fun e => ⟨(hx4 e).1, fun d hd sh => ?_⟩) hfr4 hpt4, fun sh => ⟨i2, i1, ?_⟩⟩
                · by_cases e2 : d = b
                  · subst e2; exact absurd q sh
                  · exact (hx4 e).2 d (by omega) sh
                rw [eva, evb]
                refine pk_le (f4 a) (f4 b) (fun hle => ih4 f4 μ4 x hz hnz (fun e => ⟨(hx4 e).1, fun d hd sh => ?_⟩) hfr4 hpt4) (fun hlt => ⟨i2, i1, ?_⟩)
                · by_cases e2 : d = b
                  · subst e2; exact hle
                  · exact (hx4 e).2 d (by omega) sh
                have hs4 := sumN_lt (f := f4) (g := fup f4 a (f4 b)) (a := a) (fun i hi => if_neg hi) (by show (if a = a then f4 b else f4 a) < f4 a; rw [if_pos rfl]; omega) n
                rw [if_pos ha] at hs4
                have hs2 : sumN (fup f4 a (f4 b)) n < s := by
                  by_cases e : x = 0
                  · have := hz e; omega
                  · have := hnz e; omega
                refine ih4 (fup f4 a (f4 b)) _ 1 (fun e => absurd e n10) (fun _ => hs2) (fun e => absurd e n10) (Fr_p hfr4 rfl) (fun i hi => ?_)
                rw [m2]
                unfold fup
                by_cases e : i = a
                · subst e
                  rw [pk_us, if_pos rfl]
                  refine ⟨by omega, fun C c1 c2 => ?_, rfl⟩
                  have cb : Comp n (μ 4) i b := Comp_s (fun C c _ => c) ha hb0 sh
                  exact hvb C (cb C c1 c2) c2
                · rw [pk_un e, if_neg e]; exact hpt4 i hi
            exact H43 0 (Nat.zero_le _) f3 μ3 x hz hnz (fun e => ⟨hx3 e, fun d hd => absurd hd (by omega)⟩) hfr3 hpt3
        exact H33 0 (Nat.zero_le _) f μ2 0 (fun _ => by rw [hs]; exact Nat.le_refl _) (fun e => absurd rfl e) (fun _ c d hc => absurd hc (by omega)) hfr hpt
    exact H _ f1 μ1 1 rfl hf1 hp1 (fun e => absurd e n10)
  intro P hP
  have H : ∀ j, j ≤ n → ∀ μ1, Fr (fun q => q = 19) μ μ1 → LBl n (μ 4) (fun i => i) μ1 j → P (nI j) μ1 := by
    refine down_ind (fun μ1 hf hpt => hP _ _ (br_t (by rw [hf 0 (by omega), h.1.1]; exact nI_self_le n) (H25 _ μ1 hf hpt))) (fun j hj ih μ1 hf hpt => hP _ _ (br_f (by rw [hf 0 (by omega), h.1.1]; exact nI_ge hj (by omega)) ⟨in9 (by omega) (by omega), ?_⟩))
    rw [nI_1, cl9 (show j < 1000000 by omega)]
    refine ih _ (Fr_p hf rfl) (fun i hi => ?_)
    rw [m2]
    by_cases e : i = j
    · subst e; rw [pk_us]; exact ⟨Nat.le_refl _, fun C c _ => c, rfl⟩
    · rw [pk_un e]; exact hpt i (by omega)
  exact H 0 (Nat.zero_le _) μ (Fr_rf _ _) (fun i hi => absurd hi (by omega))
theorem eM_part15 {n m : Nat} {x1 : Int32} {μ : Mem} {post : Int32 → Mem → Prop} (h : IM n m μ) (hx : x1 = -1 ∨ ∃ j, j < n ∧ x1 = nI j) (k : ∀ f r μ', Fr sM μ μ' → IM n m μ' → (∀ w, w < n → LPt n (μ 4) w (f w)) → (x1 = -1 → r = nI (cnt n (own f))) → (∀ j, j < n → x1 = nI j → r = nI (f j)) → post r μ') : T_X12_part_15 post x1 μ := by
  have h9 := mN h
  refine eM_layParts h (fun f μ2 hf2 hl hfx => ?_)
  have h2 : IM n m μ2 := IM_free h (Fr_mono hf2 (fun q hq => by unfold freM; omega))
  have f2 : Fr sM μ μ2 := Fr_mono hf2 (fun q hq => by unfold sM; omega)
  have hLP := LB_LPt hl hfx
  refine ⟨fun q => ?_, fun q => ?_⟩
  · rcases hx with e | ⟨j, hj, e⟩
    · intro P hP
      have H : ∀ j, j ≤ n → P (nI (cnt j (own f))) (nI j) μ2 := by
        refine down_ind (hP _ _ _ (br_t (by rw [h2.1.1]; exact nI_self_le n) (k f _ μ2 f2 h2 hLP (fun _ => rfl) (fun j hj e2 => ?_)))) (fun j hj ih => hP _ _ _ (br_f (by rw [h2.1.1]; exact nI_ge hj (by omega)) ⟨in9 (by omega) (by omega), ?_⟩))
        · rw [e] at e2; exact absurd e2.symm (nI_nm1 (by omega))
        · unfold T_X12_part_58
          rw [nI_1, cl9 (show j < 1000000 by omega), (hl j hj).2.2]
          refine ⟨fun q => ?_, fun q => ?_⟩
          · have e : own f j = false := decide_eq_false (fun e => q (by rw [e]))
            rw [cnt_s, e] at ih
            rw [show (nI (cnt j (own f)) + 0 : Int32) = nI (cnt j (own f) + 0) by rw [show (0 : Int32) = nI 0 from rfl, nI_add]]
            exact ih
          · have e : own f j = true := decide_eq_true ((nI_eq (by have := (hl j hj).1; omega) (by omega)).mp q)
            rw [cnt_s, e] at ih
            rw [nI_1]
            exact ih
      exact H 0 (Nat.zero_le _)
    · subst e; exact absurd q (nI_pos (by omega))
  · rcases hx with e | ⟨j, hj, e⟩
    · subst e; exact absurd (by decide) q
    · subst e
      rw [cl9 (show j < 1000000 by omega)]
      refine ⟨in9 (show j < 9 by omega) (by omega), k f _ μ2 f2 h2 hLP (fun e => absurd e (nI_nm1 (by omega))) (fun i hi e => ?_)⟩
      have e2 : j = i := (nI_eq (by omega) (by omega)).mp e
      rw [← e2]
      exact (hl j hj).2.2
theorem tw_part {n m m' : Nat} {z1 z2 : Nat → Nat} {μX μM : Mem} {x1 : Int32} {G : Prop → Prop} {Q : Int32 → Int32 → Mem → Mem → Prop} (hG : ∀ T, T → G T) (hX : IX n m z1 z2 μX) (hM : IM n m' μM) (hK : RK n z1 z2 μX μM) (k : ∀ r r2 m1' μ2, r = r2 → IM n m1' μ2 → Fr sMV μM μ2 → Q r r2 μX μ2) : T_X11_part x1 μX (fun r μ1 => G (T_X12_part x1 μM (fun r2 μ2 => Q r r2 μ1 μ2))) := by
  have h9 := xN hX
  have end_ : ∀ w, w < n → μM 4 w = μX 14 w := fun w hw => ((hK.1 w hw).1).symm
  by_cases e : x1 = -1
  · refine rb_f e (eX_countParts hX.1 (fun r hr => hG _ (br_t e (eM_part15 hM (Or.inl e) (fun f r2 μ2 f2 h2 hLP hr2 _ => k r r2 m' μ2 ?_ h2 (M_MV f2))))))
    rw [hr2 e]
    exact hr f (fun w hw => LPt_cong end_ (hLP w hw))
  · refine rb_t e ?_
    rcases in_or x1 n (by omega) with ho | ⟨j, hj, rfl⟩
    · exact sX_wHas (xW hX) h9 (fun _ => br_t rfl (hG _ (br_f e (sM_isWork hM.1 (fun _ => rb_f rfl (k _ _ m' μM rfl hM (Fr_rf _ _))) (fun j hj e => absurd e (ho j hj)))))) (fun j hj e => absurd e (ho j hj))
    · refine sX_wHas (xW hX) h9 (fun q => absurd rfl (q j hj)) (fun _ _ _ => br_f n10 (eX_leastOfPart hX.1 hj (fun l hl => hG _ (br_f e (sM_isWork hM.1 (fun q => absurd rfl (q j hj)) (fun _ _ _ => rb_t n10 (eM_part15 hM (Or.inr ⟨j, hj, rfl⟩) (fun f r2 μ2 f2 h2 hLP _ hr2 => k _ r2 m' μ2 ?_ h2 (M_MV f2)))))))))
      rw [hr2 j hj rfl]
      rw [LPt_u hl (LPt_cong end_ (hLP j hj))]
