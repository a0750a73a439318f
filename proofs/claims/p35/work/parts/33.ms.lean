/-! the reference: tables over sets -/
theorem nI_or {a b : Nat} (ha : a < 2 ^ 32) (hb0 : b < 2 ^ 32) : nI a ||| nI b = nI (a ||| b) := by
  apply hb_ext
  intro i hi
  rw [hb_or, hb_nI ha, hb_nI hb0, hb_nI (Nat.or_lt_two_pow ha hb0), Nat.testBit_or]
theorem nI_and {a b : Nat} (ha : a < 2 ^ 32) (hb0 : b < 2 ^ 32) : nI a &&& nI b = nI (a &&& b) := by
  apply hb_ext
  intro i hi
  rw [hb_and, hb_nI ha, hb_nI hb0, hb_nI (Nat.and_lt_two_pow _ hb0), Nat.testBit_and]
theorem set_or {s w : Nat} (hs : s < 512) (hw : w < 9) : nI s ||| ((1 : Int32) <<< (nI w &&& 31)) = nI (s ||| 2 ^ w) ∧ s ||| 2 ^ w < 512 := by
  have hp : 2 ^ w < 512 := Nat.lt_of_lt_of_le (Nat.pow_lt_pow_right (by decide) hw) (by decide)
  refine ⟨?_, Nat.or_lt_two_pow (n := 9) hs hp⟩
  rw [shl_nI (by omega), nI_or (by omega) (by omega)]
theorem or_gt {s w : Nat} (h : s.testBit w = false) : s < s ||| 2 ^ w := by
  have h1 : s ≤ s ||| 2 ^ w := Nat.left_le_or
  rcases Nat.lt_or_ge s (s ||| 2 ^ w) with q | q
  · exact q
  · have e : s = s ||| 2 ^ w := by omega
    have : (s ||| 2 ^ w).testBit w = true := by rw [Nat.testBit_or, Nat.testBit_two_pow_self, Bool.or_true]
    rw [← e, h] at this
    exact absurd this (by decide)
def mnF (c : Nat → Bool) (v : Nat → Nat) (top : Nat) : Nat → Nat := foldN (fun w b => if c w = true ∧ v w < b then v w else b) top
theorem mnF_s (c : Nat → Bool) (v : Nat → Nat) (top k : Nat) : mnF c v top (k + 1) = if c k = true ∧ v k < mnF c v top k then v k else mnF c v top k := rfl
theorem mnF_top (c : Nat → Bool) (v : Nat → Nat) (top : Nat) : ∀ k, mnF c v top k ≤ top := by
  intro k
  induction k with
  | zero => exact Nat.le_refl _
  | succ k ih =>
    rw [mnF_s]
    split
    · omega
    · exact ih
theorem mnF_le {c : Nat → Bool} {v : Nat → Nat} {top w : Nat} (hc : c w = true) : ∀ k, w < k → mnF c v top k ≤ v w := by
  intro k
  induction k with
  | zero => exact fun h => absurd h (by omega)
  | succ k ih =>
    intro h
    rw [mnF_s]
    by_cases e : w = k
    · subst e
      split
      · exact Nat.le_refl _
      · rename_i q
        rcases Nat.lt_or_ge (v w) (mnF c v top w) with q2 | q2
        · exact absurd ⟨hc, q2⟩ q
        · exact q2
    · have := ih (by omega)
      split
      · omega
      · exact this
theorem mnF_at (c : Nat → Bool) (v : Nat → Nat) (top : Nat) : ∀ k, mnF c v top k = top ∨ ∃ w, w < k ∧ c w = true ∧ mnF c v top k = v w := by
  intro k
  induction k with
  | zero => exact Or.inl rfl
  | succ k ih =>
    rw [mnF_s]
    split
    · rename_i q; exact Or.inr ⟨k, by omega, q.1, rfl⟩
    · rcases ih with q | ⟨w, hw, q1, q2⟩
      · exact Or.inl q
      · exact Or.inr ⟨w, by omega, q1, q2⟩
theorem mnF_cong {c : Nat → Bool} {v v' : Nat → Nat} {top : Nat} : ∀ k, (∀ w, w < k → c w = true → v w = v' w) → mnF c v top k = mnF c v' top k := by
  intro k
  induction k with
  | zero =>
    intro _
    have e1 : mnF c v top 0 = top := rfl
    have e2 : mnF c v' top 0 = top := rfl
    rw [e1, e2]
  | succ k ih =>
    intro h
    rw [mnF_s, mnF_s, ih (fun w hw => h w (by omega))]
    by_cases q : c k = true
    · rw [h k (by omega) q]
    · rw [if_neg (fun t => q t.1), if_neg (fun t => q t.1)]
/-- unions and sizes as they are laid -/
def UZ (μ : Mem) : Prop := (∀ s, s < 512 → lo 10 (μ 14 s)) ∧ (∀ s, s < 1024 → ∃ v, v ≤ 990 ∧ μ 17 s = nI v)
theorem UZ_of {μ μ' : Mem} (h : UZ μ) (e1 : μ' 14 = μ 14) (e2 : μ' 17 = μ 17) : UZ μ' := by unfold UZ; rw [e1, e2]; exact h
theorem UZ_fr {S : Nat → Prop} {μ μ' : Mem} (h : UZ μ) (f : Fr S μ μ') (h1 : ¬ S 14) (h2 : ¬ S 17) : UZ μ' := UZ_of h (f 14 h1) (f 17 h2)
def sU : Nat → Prop := fun k => k = 14 ∨ k = 17
theorem sM_layUnions {n : Nat} {μ : Mem} {post : Mem → Prop} (h : WM n μ) (hu : UZ μ) (k : ∀ μ', Fr sU μ μ' → UZ μ' → (∀ s, s < 2 ^ n → μ' 14 s = needF (μ 4) (nI s) n) → (∀ s, s < 1024 → μ' 17 s = sizeF (μ 6) (nI s) 10) → post μ') : T_X12_layUnions μ post := by
  have h9 := h.2.1
  have hp := pow9 h9
  have hp1 : 1 ≤ 2 ^ n := Nat.one_le_two_pow
  have H2 : ∀ μ1, Fr sU μ μ1 → UZ μ1 → (∀ s, s < 2 ^ n → μ1 14 s = needF (μ 4) (nI s) n) → T_X12_layUnions_29 post 0 μ1 := by
    intro μ1 hf1 hu1 hx1 P hP
    have H : ∀ s, s ≤ 1024 → ∀ μ2, Fr sU μ μ2 → UZ μ2 → (∀ s, s < 2 ^ n → μ2 14 s = needF (μ 4) (nI s) n) → (∀ i, i < s → μ2 17 i = sizeF (μ 6) (nI i) 10) → P (nI s) μ2 := by
      refine down_ind (fun μ2 hf2 hu2 hx2 hy2 => hP _ _ (br_t (nI_self_le 1024) (k μ2 hf2 hu2 hx2 hy2))) (fun s hs ih μ2 hf2 hu2 hx2 hy2 => hP _ _ (br_f (nI_ge (b := 1024) hs (by decide)) ?_))
      have hw2 := WM_fr h hf2 (by unfold sU; omega) (by unfold sU; omega) (by unfold sU; omega)
      refine sM_sizeE ⟨in9 hs (by omega), ?_⟩
      rw [nI_1, cl9 (show s < 1000000 by omega), hf2 6 (by unfold sU; omega)]
      refine ih _ (Fr_p hf2 (Or.inr rfl)) ⟨fun i hi => ?_, fun i hi => ?_⟩ (fun i hi => ?_) (fun i hi => ?_)
      · unfold mset; rw [mput_o (by decide)]; exact hu2.1 i hi
      · rw [m2]
        by_cases e : i = s
        · subst e
          rw [pk_us]
          obtain ⟨v, hv, ev⟩ := sizeF_le h.2.2.2 (nI i) 10 (by omega)
          exact ⟨v, by omega, ev⟩
        · rw [pk_un e]; exact hu2.2 i hi
      · unfold mset; rw [mput_o (by decide)]; exact hx2 i hi
      · rw [m2]
        by_cases e : i = s
        · subst e; rw [pk_us]
        · rw [pk_un e]; exact hy2 i (by omega)
    exact H 0 (Nat.zero_le _) μ1 hf1 hu1 hx1 (fun i hi => absurd hi (by omega))
  intro P hP
  have H : ∀ s, s ≤ 2 ^ n → ∀ μ1, Fr sU μ μ1 → UZ μ1 → (∀ i, i < s → μ1 14 i = needF (μ 4) (nI i) n) → P (nI s) μ1 := by
    refine down_ind (fun μ1 hf1 hu1 hx1 => ?_) (fun s hs ih μ1 hf1 hu1 hx1 => ?_)
    · have hw1 := WM_fr h hf1 (by unfold sU; omega) (by unfold sU; omega) (by unfold sU; omega)
      exact hP _ _ (sM_all hw1 (br_t (nI_lt (by omega) (by omega)) (H2 μ1 hf1 hu1 hx1)))
    · have hw1 := WM_fr h hf1 (by unfold sU; omega) (by unfold sU; omega) (by unfold sU; omega)
      refine hP _ _ (sM_all hw1 (br_f (nI_nlt (by omega) (by omega)) (sM_needsE hw1 ⟨in9 (by omega) (by omega), ?_⟩)))
      rw [nI_1, cl9 (show s < 1000000 by omega), hf1 4 (by unfold sU; omega)]
      refine ih _ (Fr_p hf1 (Or.inl rfl)) ⟨fun i hi => ?_, fun i hi => ?_⟩ (fun i hi => ?_)
      · rw [m2]
        by_cases e : i = s
        · subst e; rw [pk_us]; exact needF_lo (n := n) (fun w hw => h.2.2.1 w (by omega)) _ n (Nat.le_refl _)
        · rw [pk_un e]; exact hu1.1 i hi
      · unfold mset; rw [mput_o (by decide)]; exact hu1.2 i hi
      · rw [m2]
        by_cases e : i = s
        · subst e; rw [pk_us]
        · rw [pk_un e]; exact hx1 i (by omega)
  exact H 0 (Nat.zero_le _) μ (Fr_rf _ _) hu (fun i hi => absurd hi (by omega))
/-- how wide work w is behind the set s, within the universe u; whether it may come -/
def wdN (μ : Mem) (u s w : Nat) : Nat := (μ 17 ((μ 4 w) ||| ((μ 14 s) &&& (μ 14 ((nI u &&& (nI s ^^^ (-1))) &&& (((1 : Int32) <<< (nI w &&& 31)) ^^^ (-1))).toNatClampNeg))).toNatClampNeg).toNatClampNeg
def mcN (μ : Mem) (u s w : Nat) : Bool := (hb (nI u) w && !hb (nI s) w) && decide (((μ 5 w) &&& nI u) &&& (nI s ^^^ (-1)) = 0)
theorem sM_mayComeE {u s w : Nat} {μ : Mem} {post : Int32 → Mem → Prop} (hw : w < 9) (k0 : mcN μ u s w = false → post 0 μ) (k1 : mcN μ u s w = true → post 1 μ) : T_X12_mayCome (nI u) (nI s) (nI w) μ post := by
  refine sM_mayComeB (n := 0) hw (fun q => k0 ?_) (fun q1 q2 => k1 ?_)
  · unfold mcN
    cases h1 : hb (nI u) w <;> cases h2 : hb (nI s) w <;> simp_all
  · unfold mcN
    rw [q1.1, q1.2, q2]
    decide
theorem mcN_b {μ : Mem} {u s w : Nat} (h : mcN μ u s w = true) : hb (nI u) w = true ∧ hb (nI s) w = false := by
  unfold mcN at h
  cases h1 : hb (nI u) w <;> cases h2 : hb (nI s) w <;> simp_all
theorem sM_wideE {n u s w : Nat} {μ : Mem} {post : Int32 → Mem → Prop} (h : WM n μ) (hu : UZ μ) (hu5 : u < 512) (hs : s < 512) (hw : w < 9) (k : wdN μ u s w ≤ 990 → post (nI (wdN μ u s w)) μ) : T_X12_wideBy (nI u) (nI s) (nI w) μ post := by
  have l1 : lo 9 ((nI u &&& (nI s ^^^ (-1))) &&& (((1 : Int32) <<< (nI w &&& 31)) ^^^ (-1))) := lo_and (lo_and (lo9n hu5) _) _
  unfold T_X12_wideBy
  rw [cl9 (show w < 1000000 by omega), cl9 (show s < 1000000 by omega)]
  have l2 : lo 10 ((μ 4 w) ||| ((μ 14 s) &&& (μ 14 ((nI u &&& (nI s ^^^ (-1))) &&& (((1 : Int32) <<< (nI w &&& 31)) ^^^ (-1))).toNatClampNeg))) := lo_or (h.2.2.1 w hw) (lo_and (hu.1 s hs) _)
  obtain ⟨v, hv, ev⟩ := hu.2 _ (in_lt (lo_10 l2))
  refine ⟨in9 hw (by omega), in9 hs (by omega), lo_9 l1, lo_10 l2, ?_⟩
  unfold wdN at k
  rw [ev, cl9 (show v < 1000000 by omega)] at k
  rw [ev]
  exact k hv
theorem wdN_le {n u s w : Nat} {μ : Mem} (h : WM n μ) (hu : UZ μ) (hs : s < 512) (hw : w < 9) : wdN μ u s w ≤ 990 := by
  have l2 : lo 10 ((μ 4 w) ||| ((μ 14 s) &&& (μ 14 ((nI u &&& (nI s ^^^ (-1))) &&& (((1 : Int32) <<< (nI w &&& 31)) ^^^ (-1))).toNatClampNeg))) := lo_or (h.2.2.1 w hw) (lo_and (hu.1 s hs) _)
  obtain ⟨v, hv, ev⟩ := hu.2 _ (in_lt (lo_10 l2))
  unfold wdN
  rw [ev, cl9 (show v < 1000000 by omega)]
  exact hv
theorem wdN_of {μ μ' : Mem} (e4 : μ' 4 = μ 4) (e14 : μ' 14 = μ 14) (e17 : μ' 17 = μ 17) (u s w : Nat) : wdN μ' u s w = wdN μ u s w := by unfold wdN; rw [e4, e14, e17]
theorem mcN_of {μ μ' : Mem} (e5 : μ' 5 = μ 5) (u s w : Nat) : mcN μ' u s w = mcN μ u s w := by unfold mcN; rw [e5]
def LT (c : Nat) (μ : Mem) (s : Nat) : Nat := (μ c s).toNatClampNeg
/-- row s of the table of least mosts (of universe u) is as it must be -/
def EQm (μ0 : Mem) (n u : Nat) (μ : Mem) (s : Nat) : Prop := μ 15 s = nI (LT 15 μ s) ∧ LT 15 μ s ≤ 1000000 ∧ LT 15 μ s = if s = u then 0 else mnF (mcN μ0 u s) (fun w => max (wdN μ0 u s w) (LT 15 μ (s ||| 2 ^ w))) 1000000 n
theorem EQm_set {μ0 μ : Mem} {n u s d : Nat} {v : Int32} (h : EQm μ0 n u μ s) (hd : d < s) : EQm μ0 n u (mset μ 15 d v) s := by
  have e : ∀ i, s ≤ i → LT 15 (mset μ 15 d v) i = LT 15 μ i := fun i hi => by unfold LT; rw [m2, pk_un (by omega)]
  obtain ⟨h1, h2, h3⟩ := h
  refine ⟨?_, ?_, ?_⟩
  · rw [e s (Nat.le_refl _), m2, pk_un (by omega)]; exact h1
  · rw [e s (Nat.le_refl _)]; exact h2
  · rw [e s (Nat.le_refl _), h3]
    split
    · rfl
    · exact mnF_cong n (fun w _ _ => by rw [e _ (Nat.left_le_or)])
theorem andn0 {a b : Int32} : a &&& (b ^^^ (-1)) = 0 ↔ ∀ i, hb a i = true → hb b i = true := by
  constructor
  · intro h i hi
    have : hb (a &&& (b ^^^ (-1))) i = false := by rw [h, hb_0]
    rw [hb_andn, hi] at this
    cases q : hb b i
    · rw [q] at this; exact absurd this (by decide)
    · rfl
  · intro h
    apply hb_ext
    intro i _
    rw [hb_andn, hb_0]
    cases q : hb a i
    · rfl
    · rw [h i q]; rfl
theorem sM_layMost {n u : Nat} {μ : Mem} {post : Mem → Prop} (h : WM n μ) (hz : UZ μ) (hu : u < 2 ^ n) (k : ∀ μ', Fr (fun q => q = 15) μ μ' → (∀ s, s ≤ u → (∀ i, hb (nI s) i = true → hb (nI u) i = true) → EQm μ n u μ' s) → post μ') : T_X12_layMost (nI u) μ post := by
  have hn := h.1
  have h9 := h.2.1
  have hp := pow9 h9
  intro P hP
  have H : ∀ d, d ≤ u + 1 → ∀ μ1, Fr (fun q => q = 15) μ μ1 → (∀ s, d ≤ s → s ≤ u → (∀ i, hb (nI s) i = true → hb (nI u) i = true) → EQm μ n u μ1 s) → P (nI u) (nI d - 1) μ1 := by
    intro d
    induction d with
    | zero => exact fun _ μ1 hf hE => hP _ _ _ (br_t (by decide) (k μ1 hf (fun s hs => hE s (by omega) hs)))
    | succ d ih =>
      intro hd μ1 hf hE
      rw [nI_pred]
      refine hP _ _ _ (br_f (nI_pos (by omega)) ⟨fun q => ?_, fun q => ?_⟩)
      · have hw1 := WM_fr h hf (by omega) (by omega) (by omega)
        have hz1 := UZ_fr hz hf (by omega) (by omega)
        have hst : ∀ v, v ≤ 1000000 → v = (if d = u then 0 else mnF (mcN μ u d) (fun w => max (wdN μ u d w) (LT 15 μ1 (d ||| 2 ^ w))) 1000000 n) → T_X12_layMost_118 post P (nI u) (nI d) (nI v) μ1 := by
          intro v hv ev
          refine ⟨in9 (by omega) (by omega), ?_⟩
          rw [sub_m1, cl9 (show d < 1000000 by omega)]
          refine ih (by omega) _ (Fr_p hf rfl) (fun s hs1 hs2 hsub => ?_)
          by_cases e : s = d
          · subst e
            have el : LT 15 (mset μ1 15 s (nI v)) s = v := by unfold LT; rw [m2, pk_us, nI_clamp (show v < 2 ^ 31 by omega)]
            refine ⟨?_, ?_, ?_⟩
            · rw [el, m2, pk_us]
            · rw [el]; exact hv
            · rw [el, ev]
              split
              · rfl
              · refine mnF_cong n (fun w _ hc => ?_)
                have hg := or_gt (s := s) (w := w) (by have := (mcN_b hc).2; rw [hb_nI (by omega)] at this; exact this)
                unfold LT
                rw [m2, pk_un (by omega)]
          · exact EQm_set (hE s (by omega) hs2 hsub) (by omega)
        have H2 : ∀ (hdu : d ≠ u) w, w ≤ n → ∀ b, b = mnF (mcN μ u d) (fun w => max (wdN μ u d w) (LT 15 μ1 (d ||| 2 ^ w))) 1000000 w → T_X12_layMost_32 post P (nI u) (nI d) (nI b) (nI w) μ1 := by
          intro hdu w hw b hbe P2 hP2
          revert b
          refine down_ind (n := n) (Q := fun w => ∀ b, b = mnF (mcN μ u d) (fun w => max (wdN μ u d w) (LT 15 μ1 (d ||| 2 ^ w))) 1000000 w → P2 (nI u) (nI d) (nI b) (nI w) μ1) (fun b hbe => ?_) (fun w hw ih2 b hbe => ?_) w hw
          · refine hP2 _ _ _ _ _ (br_t (by rw [hw1.1]; exact nI_self_le n) (hst b ?_ ?_))
            · rw [hbe]; exact mnF_top _ _ _ _
            · rw [if_neg hdu]; exact hbe
          · refine hP2 _ _ _ _ _ (br_f (by rw [hw1.1]; exact nI_ge hw (by omega)) (br_f (fun q => hdu ((nI_eq (by omega) (by omega)).mp q)) ?_))
            have hb1 : b ≤ 1000000 := by rw [hbe]; exact mnF_top _ _ _ _
            have e3 := mnF_s (mcN μ u d) (fun w => max (wdN μ u d w) (LT 15 μ1 (d ||| 2 ^ w))) 1000000 w
            rw [← hbe] at e3
            refine sM_mayComeE (by omega) (fun q => rb_f rfl ?_) (fun q => rb_t n10 (sM_wideE hw1 hz1 (by omega) (by omega) (by omega) (fun hwd => ?_)))
            · rw [mcN_of (hf 5 (by omega))] at q
              rw [nI_1]
              exact ih2 b (by rw [e3, if_neg (fun t => by rw [q] at t; exact absurd t.1 (by decide))])
            · rw [mcN_of (hf 5 (by omega))] at q
              rw [wdN_of (hf 4 (by omega)) (hf 14 (by omega)) (hf 17 (by omega))] at hwd ⊢
              obtain ⟨eo, ho⟩ := set_or (show d < 512 by omega) (show w < 9 by omega)
              rw [eo]
              have hg := or_gt (s := d) (w := w) (by have := (mcN_b q).2; rw [hb_nI (by omega)] at this; exact this)
              have hsub2 : ∀ i, hb (nI (d ||| 2 ^ w)) i = true → hb (nI u) i = true := by
                intro i hi
                rw [← eo, hb_or, Bool.or_eq_true] at hi
                rcases hi with hi | hi
                · exact andn0.mp (by assumption) i hi
                · rw [hb_shl (by omega)] at hi
                  have : i = w := of_decide_eq_true hi
                  rw [this]; exact (mcN_b q).1
              have hle : d ||| 2 ^ w ≤ u := by
                have hu32 : u < 2 ^ 32 := by omega
                have ho32 : d ||| 2 ^ w < 2 ^ 32 := by omega
                by_cases e : nI (d ||| 2 ^ w) = nI u
                · exact Nat.le_of_eq ((nI_eq (by omega) (by omega)).mp e)
                · have := sub_lt hsub2 e
                  rw [pk_tn ho32, pk_tn hu32] at this
                  omega
              obtain ⟨g1, g2, g3⟩ := hE (d ||| 2 ^ w) (by omega) hle hsub2
              have h97 : ∀ v, v ≤ 1000000 → v = max (wdN μ u d w) (LT 15 μ1 (d ||| 2 ^ w)) → T_X12_layMost_97 post P P2 (nI u) (nI d) (nI b) (nI w) (nI v) μ1 := by
                intro v hv ev
                unfold T_X12_layMost_97 T_X12_layMost_111
                rw [nI_1]
                refine pk_le b v (fun hle => ih2 b ?_) (fun hlt => ih2 v ?_)
                · rw [e3, if_neg (fun t => by have := t.2; omega)]
                · rw [e3, if_pos ⟨q, by omega⟩, ev]
              rw [cl9 (show d ||| 2 ^ w < 1000000 by omega), g1]
              refine ⟨in9 (by omega) (by omega), pk_le (wdN μ u d w) (LT 15 μ1 (d ||| 2 ^ w)) (fun hle => h97 _ g2 (by omega)) (fun hlt => h97 _ (by omega) (by omega))⟩
        refine ⟨fun q2 => H2 (fun e => q2 (by rw [e])) 0 (Nat.zero_le _) 1000000 rfl, fun q2 => ?_⟩
        have edu : d = u := (nI_eq (by omega) (by omega)).mp q2
        intro P2 hP2
        have h118 := hst 0 (by omega) (by rw [if_pos edu])
        exact hP2 _ _ _ _ _ ⟨fun _ => h118, fun _ => ⟨fun _ => h118, fun q3 => absurd q2 q3⟩⟩
      · rw [sub_m1]
        refine ih (by omega) μ1 hf (fun s hs1 hs2 hsub => ?_)
        by_cases e : s = d
        · subst e
          exact absurd (andn0.mpr hsub) q
        · exact hE s (by omega) hs2 hsub
  have := H (u + 1) (Nat.le_refl _) μ (Fr_rf _ _) (fun s h1 h2 => absurd h1 (by omega))
  rw [nI_pred] at this
  exact this
