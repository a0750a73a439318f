/-! the reference: the table of longs, the next work, the best -/
def itsN (μ0 : Mem) (u bar s : Nat) (L : Nat → Nat) (w : Nat) : Nat := if wdN μ0 u s w ≤ bar then wdN μ0 u s w + L (s ||| 2 ^ w) else 1000000
def EQl (μ0 : Mem) (n u bar : Nat) (μ : Mem) (s : Nat) : Prop := μ 16 s = nI (LT 16 μ s) ∧ LT 16 μ s ≤ 1000000 ∧ LT 16 μ s = if s = u then 0 else mnF (mcN μ0 u s) (itsN μ0 u bar s (LT 16 μ)) 1000000 n
theorem EQl_set {μ0 μ : Mem} {n u bar s d : Nat} {v : Int32} (h : EQl μ0 n u bar μ s) (hd : d < s) : EQl μ0 n u bar (mset μ 16 d v) s := by
  have e : ∀ i, s ≤ i → LT 16 (mset μ 16 d v) i = LT 16 μ i := fun i hi => by unfold LT; rw [m2, pk_un (by omega)]
  obtain ⟨h1, h2, h3⟩ := h
  refine ⟨?_, ?_, ?_⟩
  · rw [e s (Nat.le_refl _), m2, pk_un (by omega)]; exact h1
  · rw [e s (Nat.le_refl _)]; exact h2
  · rw [e s (Nat.le_refl _), h3]
    split
    · rfl
    · exact mnF_cong n (fun w _ _ => by unfold itsN; rw [e _ (Nat.left_le_or)])
theorem all_bits {n : Nat} (h9 : n ≤ 9) (i : Nat) : hb (nI (2 ^ n - 1)) i = decide (i < n) := by
  have hp := pow9 h9
  rw [hb_nI (by omega), Nat.testBit_two_pow_sub_one]
theorem sub_all {n s : Nat} (h9 : n ≤ 9) (hs : s < 2 ^ n) : ∀ i, hb (nI s) i = true → hb (nI (2 ^ n - 1)) i = true := by
  intro i hi
  rw [all_bits h9]
  have l : lo n (nI s) := nI_lo hs (by omega)
  rcases Nat.lt_or_ge i n with q | q
  · exact decide_eq_true q
  · rw [l i q] at hi; exact absurd hi (by decide)
theorem sM_layLong {n bar : Nat} {μ : Mem} {post : Mem → Prop} (h : WM n μ) (hz : UZ μ) (hbar : bar ≤ 1000000) (k : ∀ μ', Fr (fun q => q = 16) μ μ' → (∀ s, s < 2 ^ n → EQl μ n (2 ^ n - 1) bar μ' s) → post μ') : T_X12_layLong (nI bar) μ post := by
  have hn := h.1
  have h9 := h.2.1
  have hp := pow9 h9
  have hp1 : 1 ≤ 2 ^ n := Nat.one_le_two_pow
  refine sM_all h ?_
  generalize hU : 2 ^ n - 1 = u at k ⊢
  intro P hP
  have H : ∀ d, d ≤ u + 1 → ∀ μ1, Fr (fun q => q = 16) μ μ1 → (∀ s, d ≤ s → s ≤ u → EQl μ n u bar μ1 s) → P (nI bar) (nI u) (nI d - 1) μ1 := by
    intro d
    induction d with
    | zero => exact fun _ μ1 hf hE => hP _ _ _ _ (br_t (by decide) (k μ1 hf (fun s hs => hE s (by omega) (by omega))))
    | succ d ih =>
      intro hd μ1 hf hE
      rw [nI_pred]
      have hw1 := WM_fr h hf (by omega) (by omega) (by omega)
      have hz1 := UZ_fr hz hf (by omega) (by omega)
      have hst : ∀ v, v ≤ 1000000 → v = (if d = u then 0 else mnF (mcN μ u d) (itsN μ u bar d (LT 16 μ1)) 1000000 n) → T_X12_layLong_114 post P (nI bar) (nI u) (nI d) (nI v) μ1 := by
        intro v hv ev
        refine ⟨in9 (by omega) (by omega), ?_⟩
        rw [sub_m1, cl9 (show d < 1000000 by omega)]
        refine ih (by omega) _ (Fr_p hf rfl) (fun s hs1 hs2 => ?_)
        by_cases e : s = d
        · subst e
          have el : LT 16 (mset μ1 16 s (nI v)) s = v := by unfold LT; rw [m2, pk_us, nI_clamp (show v < 2 ^ 31 by omega)]
          refine ⟨?_, ?_, ?_⟩
          · rw [el, m2, pk_us]
          · rw [el]; exact hv
          · rw [el, ev]
            split
            · rfl
            · refine mnF_cong n (fun w _ hc => ?_)
              have hg := or_gt (s := s) (w := w) (by have := (mcN_b hc).2; rw [hb_nI (by omega)] at this; exact this)
              unfold itsN LT
              rw [m2, pk_un (by omega)]
        · exact EQl_set (hE s (by omega) hs2) (by omega)
      have H2 : ∀ (hdu : d ≠ u) w, w ≤ n → ∀ b, b = mnF (mcN μ u d) (itsN μ u bar d (LT 16 μ1)) 1000000 w → T_X12_layLong_27 post P (nI bar) (nI u) (nI d) (nI b) (nI w) μ1 := by
        intro hdu w hw b hbe P2 hP2
        revert b
        refine down_ind (n := n) (Q := fun w => ∀ b, b = mnF (mcN μ u d) (itsN μ u bar d (LT 16 μ1)) 1000000 w → P2 (nI bar) (nI u) (nI d) (nI b) (nI w) μ1) (fun b hbe => ?_) (fun w hw ih2 b hbe => ?_) w hw
        · refine hP2 _ _ _ _ _ _ (br_t (by rw [hw1.1]; exact nI_self_le n) (hst b ?_ ?_))
          · rw [hbe]; exact mnF_top _ _ _ _
          · rw [if_neg hdu]; exact hbe
        · refine hP2 _ _ _ _ _ _ (br_f (by rw [hw1.1]; exact nI_ge hw (by omega)) (br_f (fun q => hdu ((nI_eq (by omega) (by omega)).mp q)) ?_))
          have hb1 : b ≤ 1000000 := by rw [hbe]; exact mnF_top _ _ _ _
          have e3 := mnF_s (mcN μ u d) (itsN μ u bar d (LT 16 μ1)) 1000000 w
          rw [← hbe] at e3
          refine sM_mayComeE (by omega) (fun q => rb_f rfl ?_) (fun q => rb_t n10 (sM_wideE hw1 hz1 (by omega) (by omega) (by omega) (fun hwd => ?_)))
          · rw [mcN_of (hf 5 (by omega))] at q
            rw [nI_1]
            exact ih2 b (by rw [e3, if_neg (fun t => by rw [q] at t; exact absurd t.1 (by decide))])
          · rw [mcN_of (hf 5 (by omega))] at q
            rw [wdN_of (hf 4 (by omega)) (hf 14 (by omega)) (hf 17 (by omega))] at hwd ⊢
            obtain ⟨eo, ho⟩ := set_or (show d < 512 by omega) (show w < 9 by omega)
            rw [eo]
            have hg := or_gt (s := d) (w := w) (by have := (mcN_b q).2; rw [hb_nI (by omega)] at this; exact this)
            have hsub2 : ∀ i, hb (nI (d ||| 2 ^ w)) i = true → hb (nI u) i = true := by
              intro i hi
              rw [← eo, hb_or, Bool.or_eq_true] at hi
              rw [← hU]
              rcases hi with hi | hi
              · exact sub_all h9 (by omega) i hi
              · rw [hb_shl (by omega)] at hi
                have : i = w := of_decide_eq_true hi
                rw [this, all_bits h9]; exact decide_eq_true hw
            have hle : d ||| 2 ^ w ≤ u := by
              have hu32 : u < 2 ^ 32 := by omega
              have ho32 : d ||| 2 ^ w < 2 ^ 32 := by omega
              by_cases e : nI (d ||| 2 ^ w) = nI u
              · exact Nat.le_of_eq ((nI_eq (by omega) (by omega)).mp e)
              · have := sub_lt hsub2 e
                rw [pk_tn ho32, pk_tn hu32] at this
                omega
            obtain ⟨g1, g2, g3⟩ := hE (d ||| 2 ^ w) (by omega) hle
            have h90 : ∀ v, v ≤ 2000000 → v = itsN μ u bar d (LT 16 μ1) w → T_X12_layLong_90 post P P2 (nI bar) (nI u) (nI d) (nI b) (nI w) (nI v) μ1 := by
              intro v hv ev
              unfold T_X12_layLong_90 T_X12_layLong_106
              rw [nI_1]
              refine pk_le b v (fun hle => ih2 b ?_) (fun hlt => ih2 v ?_)
              · rw [e3, if_neg (fun t => by have := t.2; omega)]
              · rw [e3, if_pos ⟨q, by omega⟩, ev]
            rw [cl9 (show d ||| 2 ^ w < 1000000 by omega), g1, nI_add]
            refine pk_le (wdN μ u d w) bar (fun hle => ⟨in9 (by omega) (by omega), h90 _ (by omega) ?_⟩) (fun hlt => h90 1000000 (by omega) ?_)
            · unfold itsN; rw [if_pos hle]
            · unfold itsN; rw [if_neg (by omega)]
      refine hP _ _ _ _ (br_f (nI_pos (by omega)) ⟨fun q2 => H2 (fun e => q2 (by rw [e])) 0 (Nat.zero_le _) 1000000 rfl, fun q2 => ?_⟩)
      have edu : d = u := (nI_eq (by omega) (by omega)).mp q2
      intro P2 hP2
      have h114 := hst 0 (by omega) (by rw [if_pos edu])
      exact hP2 _ _ _ _ _ _ ⟨fun _ => h114, fun _ => ⟨fun _ => h114, fun q3 => absurd q2 q3⟩⟩
  have := H (u + 1) (Nat.le_refl _) μ (Fr_rf _ _) (fun s h1 h2 => absurd h1 (by omega))
  rw [nI_pred] at this
  exact this
def nxN (μ0 : Mem) (n bar : Nat) (L : Nat → Nat) (s w : Nat) : Prop := mcN μ0 (2 ^ n - 1) s w = true ∧ wdN μ0 (2 ^ n - 1) s w ≤ bar ∧ wdN μ0 (2 ^ n - 1) s w + L (s ||| 2 ^ w) = L s
theorem sM_nextFrom {n bar s : Nat} {μ : Mem} {post : Int32 → Mem → Prop} (h : WM n μ) (hz : UZ μ) (hbar : bar ≤ 1000000) (hs : s < 2 ^ n) (hE : ∀ s, s < 2 ^ n → μ 16 s = nI (LT 16 μ s) ∧ LT 16 μ s ≤ 1000000) (k9 : (∀ w, w < n → ¬ nxN μ n bar (LT 16 μ) s w) → post (-9) μ) (k : ∀ w, w < n → nxN μ n bar (LT 16 μ) s w → (∀ v, v < w → ¬ nxN μ n bar (LT 16 μ) s v) → post (nI w) μ) : T_X12_nextFrom (nI s) (nI bar) μ post := by
  have hn := h.1
  have h9 := h.2.1
  have hp := pow9 h9
  have hp1 : 1 ≤ 2 ^ n := Nat.one_le_two_pow
  intro P hP
  have H : ∀ w, w ≤ n → (∀ v, v < w → ¬ nxN μ n bar (LT 16 μ) s v) → P (nI s) (nI bar) (nI w) μ := by
    refine down_ind (fun hno => hP _ _ _ _ (br_t (by rw [hn]; exact nI_self_le n) (k9 hno))) (fun w hw ih hno => hP _ _ _ _ (br_f (by rw [hn]; exact nI_ge hw (by omega)) (sM_all h ?_)))
    have go : ¬ nxN μ n bar (LT 16 μ) s w → P (nI s) (nI bar) (nI w + 1) μ := fun q => by
      rw [nI_1]
      refine ih (fun v hv => ?_)
      by_cases e : v = w
      · subst e; exact q
      · exact hno v (by omega)
    refine sM_mayComeE (by omega) (fun q => br_t rfl (go (fun t => by have t1 := t.1; rw [q] at t1; exact absurd t1 (by decide)))) (fun q => br_f n10 (sM_all h (sM_wideE h hz (by omega) (by omega) (by omega) (fun hwd => ?_))))
    obtain ⟨eo, ho⟩ := set_or (show s < 512 by omega) (show w < 9 by omega)
    rw [eo]
    have hlt : s ||| 2 ^ w < 2 ^ n := Nat.or_lt_two_pow hs (Nat.pow_lt_pow_right (by decide) hw)
    obtain ⟨g1, g2⟩ := hE _ hlt
    obtain ⟨g3, g4⟩ := hE s hs
    rw [cl9 (show s ||| 2 ^ w < 1000000 by omega), cl9 (show s < 1000000 by omega), g1, g3, nI_add]
    refine pk_lt bar (wdN μ (2 ^ n - 1) s w) (fun hlt => go (fun t => by have := t.2.1; omega)) (fun hle => ⟨in9 (by omega) (by omega), in9 (by omega) (by omega), fun q2 => go (fun t => q2 (by rw [t.2.2])), fun q2 => k w hw ⟨q, hle, ?_⟩ hno⟩)
    exact (nI_eq (by omega) (by omega)).mp q2
  exact H 0 (Nat.zero_le _) (fun v hv => absurd hv (by omega))
theorem sM_leastBy {n u : Nat} {μ : Mem} {post : Int32 → Mem → Prop} (h : WM n μ) (hz : UZ μ) (hu : u < 2 ^ n) (k : ∀ μ', Fr (fun q => q = 15) μ μ' → (∀ s, s ≤ u → (∀ i, hb (nI s) i = true → hb (nI u) i = true) → EQm μ n u μ' s) → post (nI (LT 15 μ' 0)) μ') : T_X12_leastBy (nI u) μ post := by
  refine sM_layMost h hz hu (fun μ' hf hE => ⟨i512, ?_⟩)
  have e := (hE 0 (Nat.zero_le _) (fun i hi => by rw [show nI 0 = 0 from rfl, hb_0] at hi; exact absurd hi (by decide))).1
  rw [show (0 : Int32).toNatClampNeg = 0 by decide, e]
  exact k μ' hf hE
def sL15 : Nat → Prop := fun k => k = 14 ∨ k = 15 ∨ k = 17
theorem sM_leastOf {n u : Nat} {μ : Mem} {post : Int32 → Mem → Prop} (h : WM n μ) (hz : UZ μ) (hu : u < 2 ^ n) (k : ∀ μ1 μ', Fr sL15 μ μ' → Fr sU μ μ1 → Fr (fun q => q = 15) μ1 μ' → UZ μ1 → (∀ s, s < 2 ^ n → μ1 14 s = needF (μ 4) (nI s) n) → (∀ s, s < 1024 → μ1 17 s = sizeF (μ 6) (nI s) 10) → (∀ s, s ≤ u → (∀ i, hb (nI s) i = true → hb (nI u) i = true) → EQm μ1 n u μ' s) → post (nI (LT 15 μ' 0)) μ') : T_X12_leastOf (nI u) μ post := by
  refine sM_layUnions h hz (fun μ1 hf1 hz1 e1 e2 => ?_)
  refine sM_leastBy (WM_fr h hf1 (by unfold sU; omega) (by unfold sU; omega) (by unfold sU; omega)) hz1 hu (fun μ' hf2 hE => ?_)
  exact k μ1 μ' (Fr_tr (Fr_mono hf1 (fun q hq => by unfold sU at hq; unfold sL15; omega)) (Fr_mono hf2 (fun q hq => by unfold sL15; omega))) hf1 hf2 hz1 e1 e2 hE
/-! how many of the first n bits -/
def cntB (x : Int32) : Nat → Nat := foldN (fun k s => s + (if hb x k then 1 else 0)) 0
theorem cntB_s (x : Int32) (k : Nat) : cntB x (k + 1) = cntB x k + (if hb x k then 1 else 0) := rfl
theorem cntB_or {x : Int32} {w : Nat} (hw : w < 32) (h : hb x w = false) : ∀ k, cntB (x ||| ((1 : Int32) <<< (nI w &&& 31))) k = cntB x k + (if w < k then 1 else 0) := by
  intro k
  induction k with
  | zero =>
    have e1 : ∀ y, cntB y 0 = 0 := fun y => rfl
    rw [e1, e1, if_neg (by omega)]
  | succ k ih =>
    rw [cntB_s, cntB_s, ih, hb_or, hb_shl hw]
    by_cases e : k = w
    · subst e
      rw [h, if_neg (by omega), if_pos (show k < k + 1 by omega)]
      simp
    · by_cases q : w < k
      · rw [if_pos q, if_pos (show w < k + 1 by omega)]
        simp [e]
        omega
      · rw [if_neg q, if_neg (show ¬ w < k + 1 by omega)]
        simp [e]
theorem cntB_all {n : Nat} (h9 : n ≤ 9) : ∀ k, k ≤ n → cntB (nI (2 ^ n - 1)) k = k := by
  intro k
  induction k with
  | zero => exact fun _ => rfl
  | succ k ih =>
    intro hk
    rw [cntB_s, ih (by omega), all_bits h9]
    simp
    omega
theorem free_bit {n s : Nat} (h9 : n ≤ 9) (hs : s < 2 ^ n) (hne : s ≠ 2 ^ n - 1) : ∃ v, v < n ∧ hb (nI s) v = false := by
  have hp := pow9 h9
  have hp1 : 1 ≤ 2 ^ n := Nat.one_le_two_pow
  refine Classical.byContradiction (fun hno => hne ?_)
  have e : nI s = nI (2 ^ n - 1) := by
    apply hb_ext
    intro i _
    rw [all_bits h9]
    rcases Nat.lt_or_ge i n with q | q
    · rw [decide_eq_true q]
      cases hh : hb (nI s) i
      · exact absurd ⟨i, q, hh⟩ hno
      · rfl
    · rw [decide_eq_false (by omega)]
      exact (nI_lo hs (by omega) : lo n (nI s)) i q
  exact (nI_eq (by omega) (by omega)).mp e
/-- where no ring is, some work may come -/
theorem some_may {n s : Nat} {μ : Mem} (h9 : n ≤ 9) (hA : Acyc n (μ 5)) (hs : s < 2 ^ n) (hne : s ≠ 2 ^ n - 1) : ∃ w, w < n ∧ mcN μ (2 ^ n - 1) s w = true := by
  obtain ⟨v, hv, hfree⟩ := free_bit h9 hs hne
  obtain ⟨w, hw, hSw, hm⟩ := hA (fun v => hb (nI s) v = false) ⟨v, hv, hfree⟩
  refine ⟨w, hw, ?_⟩
  unfold mcN
  have e : ((μ 5 w) &&& nI (2 ^ n - 1)) &&& (nI s ^^^ (-1)) = 0 := by
    rw [andn0]
    intro i hi
    rw [hb_and, all_bits h9, Bool.and_eq_true] at hi
    have hi2 := of_decide_eq_true hi.2
    cases hh : hb (nI s) i
    · exact absurd hh (hm i hi2 hi.1)
    · rfl
  have hSw' : hb (nI s) w = false := hSw
  rw [all_bits h9, hSw', decide_eq_true hw, e]
  decide
theorem least_990 {n : Nat} {μ0 μ : Mem} (h : WM n μ0) (hz : UZ μ0) (hA : Acyc n (μ0 5)) (hE : ∀ s, s ≤ 2 ^ n - 1 → (∀ i, hb (nI s) i = true → hb (nI (2 ^ n - 1)) i = true) → EQm μ0 n (2 ^ n - 1) μ s) : ∀ d s, s + d = 2 ^ n - 1 → LT 15 μ s ≤ 990 := by
  have h9 := h.2.1
  have hp := pow9 h9
  have hp1 : 1 ≤ 2 ^ n := Nat.one_le_two_pow
  intro d
  induction d using Nat.strongRecOn with
  | ind d ih =>
    intro s hsd
    obtain ⟨-, -, e⟩ := hE s (by omega) (sub_all h9 (by omega))
    rw [e]
    by_cases hu : s = 2 ^ n - 1
    · rw [if_pos hu]; omega
    · rw [if_neg hu]
      obtain ⟨w, hw, hc⟩ := some_may h9 hA (show s < 2 ^ n by omega) hu
      have hg := or_gt (s := s) (w := w) (by have := (mcN_b hc).2; rw [hb_nI (by omega)] at this; exact this)
      have hlt : s ||| 2 ^ w < 2 ^ n := Nat.or_lt_two_pow (by omega) (Nat.pow_lt_pow_right (by decide) hw)
      have h1 := mnF_le (v := fun w => max (wdN μ0 (2 ^ n - 1) s w) (LT 15 μ (s ||| 2 ^ w))) (top := 1000000) hc n hw
      have h2 := ih (2 ^ n - 1 - (s ||| 2 ^ w)) (by omega) (s ||| 2 ^ w) (by omega)
      have h3 := wdN_le (u := 2 ^ n - 1) h hz (show s < 512 by omega) (show w < 9 by omega)
      have h4 : max (wdN μ0 (2 ^ n - 1) s w) (LT 15 μ (s ||| 2 ^ w)) ≤ 990 := by omega
      exact Nat.le_trans h1 h4
theorem long_fin {n bar : Nat} {μ0 μ μ' : Mem} (h : WM n μ0) (hz : UZ μ0) (hE : ∀ s, s ≤ 2 ^ n - 1 → (∀ i, hb (nI s) i = true → hb (nI (2 ^ n - 1)) i = true) → EQm μ0 n (2 ^ n - 1) μ s) (hL : ∀ s, s < 2 ^ n → EQl μ0 n (2 ^ n - 1) bar μ' s) (hbar : bar ≤ 990) : ∀ d s, s + d = 2 ^ n - 1 → LT 15 μ s ≤ bar → LT 16 μ' s ≤ 1000 * d := by
  have h9 := h.2.1
  have hp := pow9 h9
  have hp1 : 1 ≤ 2 ^ n := Nat.one_le_two_pow
  intro d
  induction d using Nat.strongRecOn with
  | ind d ih =>
    intro s hsd hle
    obtain ⟨-, -, e⟩ := hE s (by omega) (sub_all h9 (by omega))
    obtain ⟨-, -, e2⟩ := hL s (by omega)
    rw [e2]
    by_cases hu : s = 2 ^ n - 1
    · rw [if_pos hu]; omega
    · rw [if_neg hu] at e ⊢
      rcases mnF_at (mcN μ0 (2 ^ n - 1) s) (fun w => max (wdN μ0 (2 ^ n - 1) s w) (LT 15 μ (s ||| 2 ^ w))) 1000000 n with q | ⟨w, hw, hc, q⟩
      · rw [q] at e; omega
      · rw [q] at e
        have hg := or_gt (s := s) (w := w) (by have := (mcN_b hc).2; rw [hb_nI (by omega)] at this; exact this)
        have hlt : s ||| 2 ^ w < 2 ^ n := Nat.or_lt_two_pow (by omega) (Nat.pow_lt_pow_right (by decide) hw)
        have h1 := mnF_le (v := itsN μ0 (2 ^ n - 1) bar s (LT 16 μ')) (top := 1000000) hc n hw
        have h2 := ih (2 ^ n - 1 - (s ||| 2 ^ w)) (by omega) (s ||| 2 ^ w) (by omega) (by omega)
        have h3 := wdN_le (u := 2 ^ n - 1) h hz (show s < 512 by omega) (show w < 9 by omega)
        refine Nat.le_trans h1 ?_
        unfold itsN
        rw [if_pos (by omega)]
        omega
theorem next_some {n bar s : Nat} {μ0 μ' : Mem} (hL : EQl μ0 n (2 ^ n - 1) bar μ' s) (hfin : LT 16 μ' s < 1000000) (hne : s ≠ 2 ^ n - 1) : ∃ w, w < n ∧ nxN μ0 n bar (LT 16 μ') s w := by
  obtain ⟨-, -, e⟩ := hL
  rw [if_neg hne] at e
  rcases mnF_at (mcN μ0 (2 ^ n - 1) s) (itsN μ0 (2 ^ n - 1) bar s (LT 16 μ')) 1000000 n with q | ⟨w, hw, hc, q⟩
  · omega
  · refine ⟨w, hw, hc, ?_⟩
    rw [q] at e
    unfold itsN at e
    by_cases h : wdN μ0 (2 ^ n - 1) s w ≤ bar
    · rw [if_pos h] at e; exact ⟨h, e.symm⟩
    · rw [if_neg h] at e; omega
