/-! two (begun): no parting is better than the greatest need -/
theorem sum10_sub {z : Nat → Nat} {x y : Int32} (h : Sub x y) : sum10 z x ≤ sum10 z y := by
  have hb0 : ∀ k, bz (hb x k) (z k) ≤ bz (hb y k) (z k) := fun k => by
    cases q : hb x k
    · exact Nat.zero_le _
    · rw [h k q]; exact Nat.le_refl _
  have h0 := hb0 0; have h1 := hb0 1; have h2 := hb0 2; have h3 := hb0 3; have h4 := hb0 4
  have h5 := hb0 5; have h6 := hb0 6; have h7 := hb0 7; have h8 := hb0 8; have h9 := hb0 9
  unfold sum10
  omega
theorem wdN_ge {n u s w : Nat} {z : Nat → Nat} {μ1 : Mem} (h9 : n ≤ 9) (hM : WM n μ1) (hz9 : ∀ t, z t ≤ 99) (e14 : ∀ s, s < 2 ^ n → lo 10 (μ1 14 s)) (e17 : ∀ x, x < 1024 → μ1 17 x = nI (sum10 z (nI x))) (hu : u < 2 ^ n) (hs : s < 2 ^ n) (hw : w < n) : sum10 z (μ1 4 w) ≤ wdN μ1 u s w := by
  have hp := pow9 h9
  obtain ⟨r, hr, er⟩ : ∃ r, r < 2 ^ n ∧ (nI u &&& (nI s ^^^ (-1))) &&& (((1 : Int32) <<< (nI w &&& 31)) ^^^ (-1)) = nI r := lo_nI (lo_and (lo_and (nI_lo hu (by omega)) _) _)
  obtain ⟨x, hx, ex⟩ := lo_nI (lo_or (hM.2.2.1 w (by omega)) (lo_and (e14 s hs) (μ1 14 r)))
  have hx' : x < 1024 := hx
  unfold wdN
  rw [er, cl9 (show r < 1000000 by omega), ex, cl9 (show x < 1000000 by omega), e17 x hx', nI_clamp (by have := sum10_le hz9 (nI x); omega), ← ex]
  exact sum10_sub (fun b q => by rw [hb_or, q]; rfl)
theorem VLe_ge {n u v w : Nat} {nd bf : Nat → Int32} {z : Nat → Nat} (h9 : n ≤ 9) (hz9 : ∀ t, z t ≤ 99) (hu : u < 2 ^ n) (h : VLe n nd bf z u v) (hw : w < n) (hwu : hb (nI u) w = true) : sum10 z (nd w) ≤ v := by
  obtain ⟨μ1, μ', hM, a2, a3, a4, a5, a6, a7⟩ := h
  have hp := pow9 h9
  have l14 : ∀ s, s < 2 ^ n → lo 10 (μ1 14 s) := fun s hs => by rw [a4 s hs]; exact needF_lo (fun w hw => hM.2.2.1 w (by omega)) _ n (Nat.le_refl _)
  have hl := sum10_le hz9 (nd w)
  have H : ∀ d s, s + d = 2 ^ n → (∀ i, hb (nI s) i = true → hb (nI u) i = true) → hb (nI s) w = false → sum10 z (nd w) ≤ LT 15 μ' s := by
    intro d
    induction d using Nat.strongRecOn with
    | ind d ih =>
      intro s hsd hsub hsw
      rcases Nat.eq_zero_or_pos d with e | e
      · subst e
        exfalso
        have hle := Sub_le (a := u) (s := s) (by omega) (by omega) hsub
        omega
      have hs : s < 2 ^ n := by omega
      have hsu : s ≤ u := Sub_le (by omega) (by omega) hsub
      obtain ⟨-, -, m3⟩ := a6 s hsu hsub
      have es : s ≠ u := fun q => by rw [q, hwu] at hsw; exact absurd hsw (by decide)
      rw [if_neg es] at m3
      rcases mnF_at (mcN μ1 u s) (fun w => max (wdN μ1 u s w) (LT 15 μ' (s ||| 2 ^ w))) 1000000 n with q | ⟨x, hx, q1, q2⟩
      · omega
      · have q2 : mnF (mcN μ1 u s) (fun w => max (wdN μ1 u s w) (LT 15 μ' (s ||| 2 ^ w))) 1000000 n = max (wdN μ1 u s x) (LT 15 μ' (s ||| 2 ^ x)) := q2
        by_cases ex : x = w
        · subst ex
          have := wdN_ge h9 hM hz9 l14 a5 hu hs hx
          rw [a2 x hx]; omega
        · obtain ⟨b1, b2⟩ := mcN_b q1
          have hbt0 : s.testBit x = false := by rw [← hb_nI (by omega)]; exact b2
          have hgt := or_gt hbt0
          have hlt : s ||| 2 ^ x < 2 ^ n := Nat.or_lt_two_pow hs (Nat.pow_lt_pow_right (by decide) hx)
          have := ih (2 ^ n - (s ||| 2 ^ x)) (by omega) (s ||| 2 ^ x) (by omega) (fun i q => by
            rw [hb_set (by omega) (by omega), Bool.or_eq_true, decide_eq_true_iff] at q
            rcases q with q | q
            · exact hsub i q
            · subst q; exact b1) (by rw [hb_set (by omega) (by omega), hsw, decide_eq_false (fun q => ex q.symm)]; rfl)
          omega
  rw [a7]
  refine H (2 ^ n) 0 (by omega) (fun i q => ?_) ?_
  · rw [show (nI 0 : Int32) = 0 from rfl, hb_0] at q; exact absurd q (by decide)
  · rw [show (nI 0 : Int32) = 0 from rfl, hb_0]
theorem comp_nI {n s : Nat} (h9 : n ≤ 9) (hs : s < 2 ^ n) : nI (2 ^ n - 1) &&& (nI s ^^^ (-1)) = nI (2 ^ n - 1 - s) := by
  have : ∀ n, n ≤ 9 → ∀ s, s < 2 ^ n → nI (2 ^ n - 1) &&& (nI s ^^^ (-1)) = nI (2 ^ n - 1 - s) := by decide +kernel
  exact this n h9 s hs
/-- the best parting of the sets 1, 3, .., 2k - 1: the set, and how wide -/
def twF (F : Nat → Nat) (A : Nat) : Nat → Nat × Nat
  | 0 => (0, 1000000)
  | k + 1 => if (twF F A k).2 ≤ max (F (2 * k + 1)) (F (A - (2 * k + 1))) then twF F A k else (2 * k + 1, max (F (2 * k + 1)) (F (A - (2 * k + 1))))
theorem twF_t {F : Nat → Nat} {A k : Nat} (q : (twF F A k).2 ≤ max (F (2 * k + 1)) (F (A - (2 * k + 1)))) : twF F A (k + 1) = twF F A k := if_pos q
theorem twF_f {F : Nat → Nat} {A k : Nat} (q : ¬ (twF F A k).2 ≤ max (F (2 * k + 1)) (F (A - (2 * k + 1)))) : twF F A (k + 1) = (2 * k + 1, max (F (2 * k + 1)) (F (A - (2 * k + 1)))) := if_neg q
theorem twF_cong {F H : Nat → Nat} {A : Nat} : ∀ k, (∀ i, i < k → F (2 * i + 1) = H (2 * i + 1) ∧ F (A - (2 * i + 1)) = H (A - (2 * i + 1))) → twF F A k = twF H A k := by
  intro k
  induction k with
  | zero => intro _; rfl
  | succ k ih =>
    intro h
    show (if (twF F A k).2 ≤ max (F (2 * k + 1)) (F (A - (2 * k + 1))) then twF F A k else (2 * k + 1, max (F (2 * k + 1)) (F (A - (2 * k + 1))))) = (if (twF H A k).2 ≤ max (H (2 * k + 1)) (H (A - (2 * k + 1))) then twF H A k else (2 * k + 1, max (H (2 * k + 1)) (H (A - (2 * k + 1)))))
    rw [ih (fun i hi => h i (by omega)), (h k (by omega)).1, (h k (by omega)).2]
/-- once the best is no greater than every parting, it stays -/
theorem twF_stop {F : Nat → Nat} {A k : Nat} : ∀ d, (∀ i, k ≤ i → i < k + d → (twF F A k).2 ≤ max (F (2 * i + 1)) (F (A - (2 * i + 1)))) → twF F A (k + d) = twF F A k := by
  intro d
  induction d with
  | zero => intro _; rfl
  | succ d ih =>
    intro h
    have e := ih (fun i h1 h2 => h i h1 (by omega))
    rw [show k + (d + 1) = k + d + 1 from rfl, twF_t (by rw [e]; exact h (k + d) (by omega) (by omega))]
    exact e
theorem twF_at (F : Nat → Nat) (A : Nat) : ∀ k, twF F A k = (0, 1000000) ∨ ∃ i, i < k ∧ twF F A k = (2 * i + 1, max (F (2 * i + 1)) (F (A - (2 * i + 1)))) := by
  intro k
  induction k with
  | zero => exact Or.inl rfl
  | succ k ih =>
    by_cases q : (twF F A k).2 ≤ max (F (2 * k + 1)) (F (A - (2 * k + 1)))
    · rw [twF_t q]
      rcases ih with e | ⟨i, hi, e⟩
      · exact Or.inl e
      · exact Or.inr ⟨i, by omega, e⟩
    · rw [twF_f q]
      exact Or.inr ⟨k, by omega, rfl⟩
theorem twF_le {F : Nat → Nat} {A i : Nat} : ∀ k, i < k → (twF F A k).2 ≤ max (F (2 * i + 1)) (F (A - (2 * i + 1))) := by
  intro k
  induction k with
  | zero => intro h; exact absurd h (by omega)
  | succ k ih =>
    intro h
    by_cases q : (twF F A k).2 ≤ max (F (2 * k + 1)) (F (A - (2 * k + 1)))
    · rw [twF_t q]
      by_cases e : i = k
      · subst e; exact q
      · exact ih (by omega)
    · rw [twF_f q]
      show max (F (2 * k + 1)) (F (A - (2 * k + 1))) ≤ _
      by_cases e : i = k
      · subst e; exact Nat.le_refl _
      · have := ih (by omega); omega
theorem wdN_le2 {n u s w : Nat} {z : Nat → Nat} {μ1 : Mem} (h9 : n ≤ 9) (hM : WM n μ1) (hz9 : ∀ t, z t ≤ 99) (e14 : ∀ s, s < 2 ^ n → lo 10 (μ1 14 s)) (e17 : ∀ x, x < 1024 → μ1 17 x = nI (sum10 z (nI x))) (hu : u < 2 ^ n) (hs : s < 2 ^ n) (hw : w < n) : wdN μ1 u s w ≤ 990 := by
  have hp := pow9 h9
  obtain ⟨r, hr, er⟩ : ∃ r, r < 2 ^ n ∧ (nI u &&& (nI s ^^^ (-1))) &&& (((1 : Int32) <<< (nI w &&& 31)) ^^^ (-1)) = nI r := lo_nI (lo_and (lo_and (nI_lo hu (by omega)) _) _)
  obtain ⟨x, hx, ex⟩ := lo_nI (lo_or (hM.2.2.1 w (by omega)) (lo_and (e14 s hs) (μ1 14 r)))
  have hx' : x < 1024 := hx
  unfold wdN
  rw [er, cl9 (show r < 1000000 by omega), ex, cl9 (show x < 1000000 by omega), e17 x hx', nI_clamp (by have := sum10_le hz9 (nI x); omega)]
  exact sum10_le hz9 _
theorem ne_bit {n u s : Nat} (h9 : n ≤ 9) (hu : u < 2 ^ n) (hs : s < 2 ^ n) (hsub : ∀ i, hb (nI s) i = true → hb (nI u) i = true) (hne : s ≠ u) : ∃ v, v < n ∧ hb (nI u) v = true ∧ hb (nI s) v = false := by
  refine Classical.byContradiction (fun hno => hne ?_)
  have hp := pow9 h9
  have e : nI s = nI u := by
    apply hb_ext
    intro i _
    cases p : hb (nI s) i
    · cases q : hb (nI u) i
      · rfl
      · exfalso
        rcases Nat.lt_or_ge i n with t | t
        · exact hno ⟨i, t, q, p⟩
        · rw [nI_lo hu (by omega) i t] at q; exact absurd q (by decide)
    · exact (hsub i p).symm
  exact (nI_eq (by omega) (by omega)).mp e
theorem VLe_990 {n u v : Nat} {nd bf : Nat → Int32} {z : Nat → Nat} (h9 : n ≤ 9) (hz9 : ∀ t, z t ≤ 99) (hA : Acyc n bf) (hu : u < 2 ^ n) (h : VLe n nd bf z u v) : v ≤ 990 := by
  obtain ⟨μ1, μ', hM, a2, a3, a4, a5, a6, a7⟩ := h
  have hp := pow9 h9
  have l14 : ∀ s, s < 2 ^ n → lo 10 (μ1 14 s) := fun s hs => by rw [a4 s hs]; exact needF_lo (fun w hw => hM.2.2.1 w (by omega)) _ n (Nat.le_refl _)
  have H : ∀ d s, s + d = 2 ^ n → (∀ i, hb (nI s) i = true → hb (nI u) i = true) → LT 15 μ' s ≤ 990 := by
    intro d
    induction d using Nat.strongRecOn with
    | ind d ih =>
      intro s hsd hsub
      rcases Nat.eq_zero_or_pos d with e | e
      · subst e
        exfalso
        have hle := Sub_le (a := u) (s := s) (by omega) (by omega) hsub
        omega
      have hs : s < 2 ^ n := by omega
      have hsu : s ≤ u := Sub_le (by omega) (by omega) hsub
      obtain ⟨-, -, m3⟩ := a6 s hsu hsub
      by_cases es : s = u
      · rw [if_pos es] at m3; omega
      · rw [if_neg es] at m3
        obtain ⟨x, hx, x1, x2⟩ := ne_bit h9 hu hs hsub es
        obtain ⟨w, hw, ⟨w1, w2⟩, hm⟩ := hA (fun v => hb (nI u) v = true ∧ hb (nI s) v = false) ⟨x, hx, x1, x2⟩
        have e0 : ((μ1 5 w) &&& nI u) &&& (nI s ^^^ (-1)) = 0 := andn_0.mpr (fun i hi => by
          rw [hb_and, Bool.and_eq_true] at hi
          rcases Nat.lt_or_ge i n with t | t
          · cases p : hb (nI s) i
            · exact absurd ⟨hi.2, p⟩ (hm i t (by rw [a3 w hw]; exact hi.1))
            · rfl
          · have := nI_lo hu (by omega) i t
            rw [hi.2] at this; exact absurd this (by decide))
        have mc : mcN μ1 u s w = true := by
          unfold mcN
          rw [w1, w2, e0]
          decide
        have hbt0 : s.testBit w = false := by rw [← hb_nI (by omega)]; exact w2
        have hgt := or_gt hbt0
        have hlt : s ||| 2 ^ w < 2 ^ n := Nat.or_lt_two_pow hs (Nat.pow_lt_pow_right (by decide) hw)
        have h1 := mnF_le (v := fun w => max (wdN μ1 u s w) (LT 15 μ' (s ||| 2 ^ w))) (top := 1000000) mc n hw
        have h1 : mnF (mcN μ1 u s) (fun w => max (wdN μ1 u s w) (LT 15 μ' (s ||| 2 ^ w))) 1000000 n ≤ max (wdN μ1 u s w) (LT 15 μ' (s ||| 2 ^ w)) := h1
        have h2 := wdN_le2 h9 hM hz9 l14 a5 hu hs hw
        have h3 := ih (2 ^ n - (s ||| 2 ^ w)) (by omega) (s ||| 2 ^ w) (by omega) (fun i q => by
          rw [hb_set (by omega) (by omega), Bool.or_eq_true, decide_eq_true_iff] at q
          rcases q with q | q
          · exact hsub i q
          · subst q; exact w1)
        omega
  rw [a7]
  refine H (2 ^ n) 0 (by omega) (fun i q => ?_)
  rw [show (nI 0 : Int32) = 0 from rfl, hb_0] at q; exact absurd q (by decide)
def VLall (n : Nat) (nd bf : Nat → Int32) (z : Nat → Nat) (F : Nat → Nat) : Prop := ∀ u, u < 2 ^ n → VLe n nd bf z u (F u)
theorem VLall_cong {n : Nat} {nd bf nd' bf' : Nat → Int32} {z F : Nat → Nat} (e1 : ∀ w, w < n → nd' w = nd w) (e2 : ∀ w, w < n → bf' w = bf w) (h : VLall n nd bf z F) : VLall n nd' bf' z F := fun u hu => VLe_cong e1 e2 (h u hu)
/-- what the class keeps of the best parting -/
def GT1 (n : Nat) (nd bf : Nat → Int32) (z : Nat → Nat) (b1 b2 : Nat) (μ : Mem) : Prop := b2 = 1000000 ∨ ∃ f1 f2, b1 < 2 ^ n ∧ b2 = max f1 f2 ∧ f1 ≤ 1000000 ∧ f2 ≤ 1000000 ∧ μ 56 0 = nI b1 ∧ μ 56 1 = nI f1 ∧ μ 56 2 = nI f2 ∧ (∀ v, VLe n nd bf z b1 v → v = f1) ∧ (∀ v, VLe n nd bf z (2 ^ n - 1 - b1) v → v = f2)
def GT (n : Nat) (nd bf : Nat → Int32) (z : Nat → Nat) (μ : Mem) : Prop := ∃ b1 b2, (∀ F, VLall n nd bf z F → twF F (2 ^ n - 1) (2 ^ (n - 1)) = (b1, b2)) ∧ GT1 n nd bf z b1 b2 μ
theorem GT1_of {n b1 b2 : Nat} {nd bf : Nat → Int32} {z : Nat → Nat} {μ μ' : Mem} (h : GT1 n nd bf z b1 b2 μ) (e0 : μ' 56 0 = μ 56 0) (e1 : μ' 56 1 = μ 56 1) (e2 : μ' 56 2 = μ 56 2) : GT1 n nd bf z b1 b2 μ' := by
  unfold GT1
  rw [e0, e1, e2]
  exact h
def sTt : Nat → Prop := fun q => sS 41 q ∨ q = 56
theorem sTt_no {q : Nat} (h : q < 41) : ¬ sTt q := by unfold sTt sS; omega
theorem fl_part {n i : Nat} {nd bf : Nat → Int32} {z F : Nat → Nat} (h9 : n ≤ 9) (hz9 : ∀ t, z t ≤ 99) (hF : VLall n nd bf z F) (hi : 2 * i + 1 < 2 ^ n) : mx0 0 (fun w => sum10 z (nd w)) n ≤ max (F (2 * i + 1)) (F (2 ^ n - 1 - (2 * i + 1))) := by
  refine mx0_le (Nat.zero_le _) n (fun w hw => ?_)
  show sum10 z (nd w) ≤ _
  cases p : hb (nI (2 * i + 1)) w
  · have hc : hb (nI (2 ^ n - 1 - (2 * i + 1))) w = true := by
      rw [← comp_nI h9 hi, hb_andn, all_bits h9, p, decide_eq_true hw]; rfl
    have := VLe_ge h9 hz9 (show 2 ^ n - 1 - (2 * i + 1) < 2 ^ n by omega) (hF _ (by omega)) hw hc
    omega
  · have := VLe_ge h9 hz9 hi (hF _ hi) hw p
    omega
theorem eX_divide {n m : Nat} {z1 z2 : Nat → Nat} {μ : Mem} {post : Mem → Prop} (h : IX n m z1 z2 μ) (hn : 0 < n) (k : ∀ μ', Fr sTt μ μ' → IX n m z1 z2 μ' → GT n (μ 14) (μ 15) z1 μ' → post μ') : T_X8_divide μ post := by
  have h9 := xN h
  have hp := pow9 h9
  have hK : 2 ^ n = 2 * 2 ^ (n - 1) := by
    obtain ⟨a, rfl⟩ : ∃ a, n = a + 1 := ⟨n - 1, by omega⟩
    rw [Nat.pow_succ, show a + 1 - 1 = a by omega]; omega
  have hK1 : 1 ≤ 2 ^ (n - 1) := Nat.one_le_two_pow
  have hfl := mx0_le (b := 990) (s := 0) (f := fun w => sum10 z1 (μ 14 w)) (by omega) n (fun i hi => sum10_le h.2.1.1 (μ 14 i))
  refine sX_all (xW h) h9 (eX_greatestNeed (xW h) h9 h.2.1 ?_)
  generalize hflv : mx0 0 (fun w => sum10 z1 (μ 14 w)) n = fl at hfl ⊢
  intro P hP
  have H : ∀ i, i ≤ 2 ^ (n - 1) → ∀ b1 b2 μ2, b2 ≤ 1000000 → Fr sTt μ μ2 → IX n m z1 z2 μ2 → (∀ F, VLall n (μ 14) (μ 15) z1 F → twF F (2 ^ n - 1) i = (b1, b2)) → GT1 n (μ 14) (μ 15) z1 b1 b2 μ2 → P (nI (2 ^ n - 1)) (nI fl) (nI b2) (nI (2 * i + 1)) μ2 := by
    refine down_ind (fun b1 b2 μ2 hb2 hf h2 hF hG => hP _ _ _ _ _ (br_t (nI_lt (by omega) (by omega)) (k μ2 hf h2 ⟨b1, b2, hF, hG⟩))) (fun i hi ih b1 b2 μ2 hb2 hf h2 hF hG => hP _ _ _ _ _ (br_f (nI_nlt (by omega) (by omega)) (pk_le b2 fl (fun t => k μ2 hf h2 ⟨b1, b2, fun F hFF => ?_, hG⟩) (fun t => ?_))))
    · have e := hF F hFF
      have hst := twF_stop (F := F) (A := 2 ^ n - 1) (k := i) (2 ^ (n - 1) - i) (fun j h1 h2 => by
        rw [e]
        show b2 ≤ _
        have := fl_part (i := j) h9 h.2.1.1 hFF (by omega)
        omega)
      rw [show i + (2 ^ (n - 1) - i) = 2 ^ (n - 1) by omega] at hst
      rw [hst]; exact e
    · have e14 : μ2 14 = μ 14 := hf 14 (sTt_no (by omega))
      have e15 : μ2 15 = μ 15 := hf 15 (sTt_no (by omega))
      have ee : nI (2 * i + 1) + 2 = nI (2 * (i + 1) + 1) := by
        rw [show 2 * (i + 1) + 1 = 2 * i + 1 + 2 by omega]; exact nI_add (2 * i + 1) 2
      rw [ee, comp_nI h9 (show 2 * i + 1 < 2 ^ n by omega)]
      refine eX_leastMostV h2 (by omega) hb2 (fun r μ3 hf3 h3 hr hex => ?_)
      obtain ⟨r1, hr1, er⟩ := hex
      subst er
      rw [e14, e15] at hr
      have hv1 : ∀ v, VLe n (μ 14) (μ 15) z1 (2 * i + 1) v → r1 = min b2 v := fun v q => (nI_eq (by omega) (by omega)).mp (hr v q)
      have f3 : Fr sTt μ μ3 := Fr_tr hf (Fr_mono hf3 (fun q hq => Or.inl hq))
      have e14' : μ3 14 = μ 14 := f3 14 (sTt_no (by omega))
      have e15' : μ3 15 = μ 15 := f3 15 (sTt_no (by omega))
      have e56 : μ3 56 = μ2 56 := hf3 56 (by unfold sS; omega)
      refine pk_le b2 r1 (fun t1 => ih b1 b2 μ3 hb2 f3 h3 (fun F hFF => ?_) (GT1_of hG (by rw [e56]) (by rw [e56]) (by rw [e56]))) (fun t1 => ?_)
      · have e := hF F hFF
        have := hv1 _ (hFF (2 * i + 1) (by omega))
        rw [twF_t (by rw [e]; show b2 ≤ _; omega)]
        exact e
      refine eX_leastMostV h3 (by omega) hb2 (fun r μ4 hf4 h4 hr2 hex2 => ?_)
      obtain ⟨r2, hr2', er⟩ := hex2
      subst er
      rw [e14', e15'] at hr2
      have hv2 : ∀ v, VLe n (μ 14) (μ 15) z1 (2 ^ n - 1 - (2 * i + 1)) v → r2 = min b2 v := fun v q => (nI_eq (by omega) (by omega)).mp (hr2 v q)
      have f4 : Fr sTt μ μ4 := Fr_tr f3 (Fr_mono hf4 (fun q hq => Or.inl hq))
      have e56' : μ4 56 = μ2 56 := by rw [hf4 56 (by unfold sS; omega)]; exact e56
      refine pk_le b2 r2 (fun t2 => ih b1 b2 μ4 hb2 f4 h4 (fun F hFF => ?_) (GT1_of hG (by rw [e56']) (by rw [e56']) (by rw [e56']))) (fun t2 => ?_)
      · have e := hF F hFF
        have := hv2 _ (hFF (2 ^ n - 1 - (2 * i + 1)) (by omega))
        rw [twF_t (by rw [e]; show b2 ≤ _; omega)]
        exact e
      rw [nI_max (by omega) (by omega)]
      have q56 : fre 56 := by unfold fre; omega
      have s56 : sTt 56 := Or.inr rfl
      refine ih (2 * i + 1) (max r1 r2) _ (by omega) (Fr_p (Fr_p (Fr_p f4 s56) s56) s56) (IX_q (IX_q (IX_q h4 q56) q56) q56) (fun F hFF => ?_) (Or.inr ⟨r1, r2, by omega, rfl, by omega, by omega, ?_, ?_, ?_, fun v q => ?_, fun v q => ?_⟩)
      · have e := hF F hFF
        have g1 := hv1 _ (hFF (2 * i + 1) (by omega))
        have g2 := hv2 _ (hFF (2 ^ n - 1 - (2 * i + 1)) (by omega))
        have x1 : F (2 * i + 1) = r1 := by omega
        have x2 : F (2 ^ n - 1 - (2 * i + 1)) = r2 := by omega
        rw [twF_f (by rw [e, x1, x2]; show ¬ b2 ≤ _; omega), x1, x2]
      · rw [m2, pk_un (by decide), m2, pk_un (by decide), m2, pk_us]
      · rw [m2, pk_un (by decide), m2, pk_us]
      · rw [m2, pk_us]
      · have := hv1 v q; omega
      · have := hv2 v q; omega
  exact H 0 (Nat.zero_le _) 0 1000000 μ (by omega) (Fr_rf _ _) h (fun F _ => rfl) (Or.inl rfl)
/-- the class's Tables: what it keeps is right -/
def CT (n : Nat) (z : Nat → Nat) (V : Nat) (μ : Mem) : Prop := μ 56 5 = -1 ∨ ∃ v, v ≤ V ∧ μ 56 5 = nI v ∧ (v = V → 0 < n → GT n (μ 14) (μ 15) z μ)
theorem CT_of {n V : Nat} {z : Nat → Nat} {μ μ' : Mem} (h : CT n z V μ) (e14 : μ' 14 = μ 14) (e15 : μ' 15 = μ 15) (e56 : μ' 56 = μ 56) : CT n z V μ' := by
  unfold CT GT GT1
  rw [e14, e15, e56]
  exact h
theorem CT_fr {n V : Nat} {z : Nat → Nat} {S : Nat → Prop} {μ μ' : Mem} (h : CT n z V μ) (f : Fr S μ μ') (s14 : ¬ S 14) (s15 : ¬ S 15) (s56 : ¬ S 56) : CT n z V μ' := CT_of h (f 14 s14) (f 15 s15) (f 56 s56)
theorem CT_up {n n' V : Nat} {z z' : Nat → Nat} {μ μ' : Mem} (h : CT n z V μ) (e56 : μ' 56 = μ 56) : CT n' z' (V + 1) μ' := by
  unfold CT
  rw [e56]
  rcases h with c | ⟨v, hv, e, -⟩
  · exact Or.inl c
  · exact Or.inr ⟨v, by omega, e, fun q => absurd q (by omega)⟩
theorem eX_refresh8 {n m V : Nat} {z1 z2 : Nat → Nat} {μ : Mem} {post : Mem → Prop} (h : IX n m z1 z2 μ) (hn : 0 < n) (hV : V < 2 ^ 30) (h5 : μ 13 5 = nI V) (hC : CT n z1 V μ) (k : ∀ μ', Fr sTt μ μ' → IX n m z1 z2 μ' → GT n (μ 14) (μ 15) z1 μ' → CT n z1 V μ' → post μ') : T_X8_refresh μ post := by
  refine ⟨fun q => ?_, fun q => eX_divide h hn (fun μ2 hf2 h2 hG => ?_)⟩
  · rcases hC with e | ⟨v, hv, e, hg⟩
    · exact absurd ((e.symm.trans (q.trans h5))).symm (nI_nm (by omega))
    · have ev : v = V := (nI_eq (by omega) (by omega)).mp (e.symm.trans (q.trans h5))
      exact k μ (Fr_rf _ _) h (hg ev hn) (Or.inr ⟨v, hv, e, hg⟩)
  · have s56 : sTt 56 := Or.inr rfl
    have f3 : Fr sTt μ (mset μ2 56 5 (μ2 13 5)) := Fr_p hf2 s56
    have e5 : μ2 13 5 = nI V := by rw [hf2 13 (sTt_no (by omega))]; exact h5
    have hG2 : GT n (μ 14) (μ 15) z1 (mset μ2 56 5 (μ2 13 5)) := by
      obtain ⟨b1, b2, g1, g2⟩ := hG
      exact ⟨b1, b2, g1, GT1_of g2 (by rw [m2, pk_un (by decide)]) (by rw [m2, pk_un (by decide)]) (by rw [m2, pk_un (by decide)])⟩
    refine k _ f3 (IX_q h2 (by unfold fre; omega)) hG2 (Or.inr ⟨V, Nat.le_refl _, by rw [m2, pk_us]; exact e5, fun _ _ => ?_⟩)
    rw [f3 14 (sTt_no (by omega)), f3 15 (sTt_no (by omega))]
    exact hG2
theorem eM_leastByV {n m u : Nat} {z : Nat → Nat} {μ : Mem} {post : Int32 → Mem → Prop} (h : IM n m μ) (hu : u < 2 ^ n) (e14 : ∀ s, s < 2 ^ n → μ 14 s = needF (μ 4) (nI s) n) (e17 : ∀ x, x < 1024 → μ 17 x = nI (sum10 z (nI x))) (k : ∀ v μ', v ≤ 1000000 → Fr (fun q => q = 15) μ μ' → IM n m μ' → VLe n (μ 4) (μ 5) z u v → post (nI v) μ') : T_X12_leastBy (nI u) μ post := by
  refine sM_leastBy h.1 h.2.2.1 hu (fun μ2 hf hE => ?_)
  have hE0 := hE 0 (Nat.zero_le _) (fun i q => by rw [show (nI 0 : Int32) = 0 from rfl, hb_0] at q; exact absurd q (by decide))
  exact k _ μ2 hE0.2.1 hf (IM_free h (Fr_mono hf (fun q hq => by unfold freM; omega))) ⟨μ, μ2, h.1, fun w _ => rfl, fun w _ => rfl, e14, e17, hE, rfl⟩
def ANS (n : Nat) (nd bf : Nat → Int32) (z : Nat → Nat) (F : Nat → Nat) (p : Nat) (r : Int32) : Prop := (p = 0 → r = nI (twF F (2 ^ n - 1) (2 ^ (n - 1))).2) ∧ (p = 1 → r = nI (twF F (2 ^ n - 1) (2 ^ (n - 1))).1) ∧ (p = 2 → ∃ v, VLe n nd bf z (twF F (2 ^ n - 1) (2 ^ (n - 1))).1 v ∧ r = nI v) ∧ (p = 3 → ∃ v, VLe n nd bf z (2 ^ n - 1 - (twF F (2 ^ n - 1) (2 ^ (n - 1))).1) v ∧ r = nI v)
theorem eM_two {n m p : Nat} {z : Nat → Nat} {μ : Mem} {post : Int32 → Mem → Prop} (h : IM n m μ) (hn : 0 < n) (hp4 : p < 4) (hz : ∀ t, t < 10 → μ 6 t = nI (z t)) (hz9 : ∀ t, z t ≤ 99) (k : ∀ F r μ', Fr sL15 μ μ' → IM n m μ' → VLall n (μ 4) (μ 5) z F → ANS n (μ 4) (μ 5) z F p r → post r μ') : T_X12_two (nI p) μ post := by
  have h9 := mN h
  have hp := pow9 h9
  have hK : 2 ^ n = 2 * 2 ^ (n - 1) := by
    obtain ⟨a, rfl⟩ : ∃ a, n = a + 1 := ⟨n - 1, by omega⟩
    rw [Nat.pow_succ, show a + 1 - 1 = a by omega]; omega
  have hK1 : 1 ≤ 2 ^ (n - 1) := Nat.one_le_two_pow
  refine rb_t (by rw [h.1.1]; exact fun q => by have := (nI_eq (b := 0) (by omega) (by omega)).mp q; omega) (sM_in0 (L := 3) (by omega) (fun q => absurd rfl (q p hp4)) (fun _ _ _ => rb_t n10 (sM_layUnions h.1 h.2.2.1 (fun μ1 hfu hz1 e14 e17 => ?_))))
  have fu : Fr sL15 μ μ1 := Fr_mono hfu (fun q hq => by unfold sU at hq; unfold sL15; omega)
  have h1 : IM n m μ1 := IM_fr h (fL_M fu) hz1
  intro P hP
  have H : ∀ i, i ≤ 2 ^ (n - 1) → ∀ F b1 b2 μ2, (b1, b2) = twF F (2 ^ n - 1) i → b2 ≤ 1000000 → Fr sL15 μ μ2 → IM n m μ2 → (∀ s, s < 2 ^ n → μ2 14 s = needF (μ 4) (nI s) n) → (∀ x, x < 1024 → μ2 17 x = nI (sum10 z (nI x))) → (∀ j, j < i → VLe n (μ 4) (μ 5) z (2 * j + 1) (F (2 * j + 1)) ∧ VLe n (μ 4) (μ 5) z (2 ^ n - 1 - (2 * j + 1)) (F (2 ^ n - 1 - (2 * j + 1)))) → P (nI p) (nI b1) (nI b2) (nI (2 * i + 1)) μ2 := by
    refine down_ind (fun F b1 b2 μ2 eF hb2 hf h2 g14 g17 hV => hP _ _ _ _ _ (sM_all h2.1 (br_t (nI_lt (by omega) (by omega)) ?_))) (fun i hi ih F b1 b2 μ2 eF hb2 hf h2 g14 g17 hV => hP _ _ _ _ _ (sM_all h2.1 (br_f (nI_nlt (by omega) (by omega)) ?_)))
    · have hall : VLall n (μ 4) (μ 5) z F := fun u hu => by
        rcases Nat.mod_two_eq_zero_or_one u with e | e
        · have := (hV (2 ^ (n - 1) - 1 - u / 2) (by omega)).2
          rw [show 2 ^ n - 1 - (2 * (2 ^ (n - 1) - 1 - u / 2) + 1) = u by omega] at this
          exact this
        · have := (hV (u / 2) (by omega)).1
          rw [show 2 * (u / 2) + 1 = u by omega] at this
          exact this
      have e1 : (twF F (2 ^ n - 1) (2 ^ (n - 1))).1 = b1 := by rw [← eF]
      have e2 : (twF F (2 ^ n - 1) (2 ^ (n - 1))).2 = b2 := by rw [← eF]
      have hb1 : b1 < 2 ^ n := by
        rcases twF_at F (2 ^ n - 1) (2 ^ (n - 1)) with e | ⟨i, hi, e⟩
        · rw [e] at e1; rw [← e1]; omega
        · rw [e] at e1
          have e1 : 2 * i + 1 = b1 := e1
          omega
      have e4 : μ2 4 = μ 4 := hf 4 (by unfold sL15; omega)
      have e5 : μ2 5 = μ 5 := hf 5 (by unfold sL15; omega)
      have hz2 : ∀ t, t < 10 → μ2 6 t = nI (z t) := fun t ht => by rw [hf 6 (by unfold sL15; omega)]; exact hz t ht
      have ne : ∀ a, a < 4 → a ≠ p → ¬ nI p = nI a := fun a ha q e => q ((nI_eq (by omega) (by omega)).mp e).symm
      refine ⟨fun q0 => ⟨fun q1 => ⟨fun q2 => sM_all h2.1 ?_, fun q2 => ?_⟩, fun q1 => ?_⟩, fun q0 => ?_⟩
      · have hp3 : p = 3 := by
          rcases (show p = 0 ∨ p = 1 ∨ p = 2 ∨ p = 3 by omega) with e | e | e | e
          · subst e; exact absurd rfl q0
          · subst e; exact absurd rfl q1
          · subst e; exact absurd rfl q2
          · exact e
        rw [comp_nI h9 hb1]
        refine eM_leastOfV h2 (by omega) hz2 (fun v μ3 hv hf3 h3 hVv => k F _ μ3 (Fr_tr hf hf3) h3 hall ⟨fun q => absurd q (by omega), fun q => absurd q (by omega), fun q => absurd q (by omega), fun _ => ⟨v, ?_, rfl⟩⟩)
        rw [e4, e5] at hVv
        rw [e1]; exact hVv
      · have hp2 : p = 2 := (nI_eq (a := p) (b := 2) (by omega) (by omega)).mp q2
        refine eM_leastOfV h2 hb1 hz2 (fun v μ3 hv hf3 h3 hVv => k F _ μ3 (Fr_tr hf hf3) h3 hall ⟨fun q => absurd q (by omega), fun q => absurd q (by omega), fun _ => ⟨v, ?_, rfl⟩, fun q => absurd q (by omega)⟩)
        rw [e4, e5] at hVv
        rw [e1]; exact hVv
      · have hp1 : p = 1 := (nI_eq (a := p) (b := 1) (by omega) (by omega)).mp q1
        exact k F _ μ2 hf h2 hall ⟨fun q => absurd q (by omega), fun _ => by rw [e1], fun q => absurd q (by omega), fun q => absurd q (by omega)⟩
      · have hp0 : p = 0 := (nI_eq (a := p) (b := 0) (by omega) (by omega)).mp q0
        exact k F _ μ2 hf h2 hall ⟨fun _ => by rw [e2], fun q => absurd q (by omega), fun q => absurd q (by omega), fun q => absurd q (by omega)⟩
    · have ee : nI (2 * i + 1) + 2 = nI (2 * (i + 1) + 1) := by
        rw [show 2 * (i + 1) + 1 = 2 * i + 1 + 2 by omega]; exact nI_add (2 * i + 1) 2
      have e4 : μ2 4 = μ 4 := hf 4 (by unfold sL15; omega)
      have e5 : μ2 5 = μ 5 := hf 5 (by unfold sL15; omega)
      refine eM_leastByV (z := z) h2 (by omega) (fun s hs => by rw [e4]; exact g14 s hs) g17 (fun v1 μ3 hv1 hf3 h3 hV1 => sM_all h3.1 ?_)
      rw [comp_nI h9 (show 2 * i + 1 < 2 ^ n by omega)]
      have f3 : Fr sL15 μ μ3 := Fr_tr hf (Fr_mono hf3 (fun q hq => by unfold sL15; omega))
      have e4' : μ3 4 = μ 4 := f3 4 (by unfold sL15; omega)
      have e5' : μ3 5 = μ 5 := f3 5 (by unfold sL15; omega)
      have g14' : ∀ s, s < 2 ^ n → μ3 14 s = needF (μ 4) (nI s) n := fun s hs => by rw [hf3 14 (by omega)]; exact g14 s hs
      have g17' : ∀ x, x < 1024 → μ3 17 x = nI (sum10 z (nI x)) := fun x hx => by rw [hf3 17 (by omega)]; exact g17 x hx
      refine eM_leastByV (z := z) h3 (by omega) (fun s hs => by rw [e4']; exact g14' s hs) g17' (fun v2 μ4 hv2 hf4 h4 hV2 => ?_)
      rw [e4, e5] at hV1
      rw [e4', e5'] at hV2
      have f4 : Fr sL15 μ μ4 := Fr_tr f3 (Fr_mono hf4 (fun q hq => by unfold sL15; omega))
      have g14'' : ∀ s, s < 2 ^ n → μ4 14 s = needF (μ 4) (nI s) n := fun s hs => by rw [hf4 14 (by omega)]; exact g14' s hs
      have g17'' : ∀ x, x < 1024 → μ4 17 x = nI (sum10 z (nI x)) := fun x hx => by rw [hf4 17 (by omega)]; exact g17' x hx
      have ef1 : ∀ a, a ≠ 2 * i + 1 → a ≠ 2 ^ n - 1 - (2 * i + 1) → fup (fup F (2 * i + 1) v1) (2 ^ n - 1 - (2 * i + 1)) v2 a = F a := fun a q1 q2 => by
        unfold fup; rw [if_neg q2, if_neg q1]
      have ef2 : fup (fup F (2 * i + 1) v1) (2 ^ n - 1 - (2 * i + 1)) v2 (2 * i + 1) = v1 := by
        unfold fup; rw [if_neg (by omega), if_pos rfl]
      have ef3 : fup (fup F (2 * i + 1) v1) (2 ^ n - 1 - (2 * i + 1)) v2 (2 ^ n - 1 - (2 * i + 1)) = v2 := if_pos rfl
      generalize fup (fup F (2 * i + 1) v1) (2 ^ n - 1 - (2 * i + 1)) v2 = F' at ef1 ef2 ef3
      have ec : twF F' (2 ^ n - 1) i = (b1, b2) := by
        rw [eF]
        exact twF_cong i (fun j hj => ⟨ef1 _ (by omega) (by omega), ef1 _ (by omega) (by omega)⟩)
      have hV' : ∀ j, j < i + 1 → VLe n (μ 4) (μ 5) z (2 * j + 1) (F' (2 * j + 1)) ∧ VLe n (μ 4) (μ 5) z (2 ^ n - 1 - (2 * j + 1)) (F' (2 ^ n - 1 - (2 * j + 1))) := fun j hj => by
        by_cases e : j = i
        · subst e; rw [ef2, ef3]; exact ⟨hV1, hV2⟩
        · rw [ef1 _ (by omega) (by omega), ef1 _ (by omega) (by omega)]; exact hV j (by omega)
      have h80 : ∀ s0, s0 ≤ 1000000 → s0 = max v1 v2 → T_X12_two_80 post P (nI p) (nI b1) (nI b2) (nI (2 * i + 1)) (nI s0) μ4 := fun s0 hs0 es0 => by
        unfold T_X12_two_80
        rw [ee]
        refine pk_le b2 s0 (fun t => ih F' b1 b2 μ4 ?_ hb2 f4 h4 g14'' g17'' hV') (fun t => ih F' (2 * i + 1) s0 μ4 ?_ hs0 f4 h4 g14'' g17'' hV')
        · rw [twF_t (by rw [ec, ef2, ef3]; show b2 ≤ _; omega), ec]
        · rw [twF_f (by rw [ec, ef2, ef3]; show ¬ b2 ≤ _; omega), ef2, ef3, es0]
      exact pk_le v1 v2 (fun t => h80 v2 hv2 (by omega)) (fun t => h80 v1 hv1 (by omega))
  refine H 0 (Nat.zero_le _) (fun _ => 0) 0 1000000 μ1 rfl (by omega) fu h1 e14 (fun x hx => by rw [e17 x hx, sizeF_sum hz]) (fun j hj => absurd hj (by omega))
theorem tw_two {n m m' V : Nat} {z1 z2 : Nat → Nat} {μX μM : Mem} {x1 : Int32} {G : Prop → Prop} {Q : Int32 → Int32 → Mem → Mem → Prop} (hG : ∀ T, T → G T) (hX : IX n m z1 z2 μX) (hM : IM n m' μM) (hK : RK n z1 z2 μX μM) (hV : V < 2 ^ 30) (h5 : μX 13 5 = nI V) (hC : CT n z1 V μX) (k : ∀ r r2 μ1 μ2, r = r2 → IX n m z1 z2 μ1 → IM n m' μ2 → Fr sTt μX μ1 → Fr sL15 μM μ2 → CT n z1 V μ1 → Q r r2 μ1 μ2) : T_X11_two x1 μX (fun r μ1 => G (T_X12_two x1 μM (fun r2 μ2 => Q r r2 μ1 μ2))) := by
  have h9 := xN hX
  have k1 : ∀ r, Q r r μX μM := fun r => k r r μX μM rfl hX hM (Fr_rf _ _) (Fr_rf _ _) hC
  rcases Nat.eq_zero_or_pos n with en | hn
  · subst en
    exact rb_f (by rw [xW hX]; rfl) (hG _ (rb_f (by rw [hM.1.1]; rfl) (k1 _)))
  have n0 : ¬ nI n = 0 := fun q => by have := (nI_eq (a := n) (b := 0) (by omega) (by omega)).mp q; omega
  refine rb_t (by rw [xW hX]; exact n0) ?_
  rcases in_or x1 4 (by omega) with ho | ⟨p, hp, rfl⟩
  · have mno : ∀ post2 : Int32 → Mem → Prop, post2 (-2) μM → T_X12_two x1 μM post2 := fun post2 hq => rb_t (by rw [hM.1.1]; exact n0) (sM_in0 (L := 3) (by omega) (fun _ => rb_f rfl hq) (fun j hj e => absurd e (ho j hj)))
    refine ⟨fun _ => hG _ (mno _ (k1 _)), fun q1 => ⟨fun q2 => ?_, fun _ => hG _ (mno _ (k1 _))⟩⟩
    obtain ⟨j, hj, e⟩ := in_of (n := 3) (by omega) q1 (Int32.not_lt.mpr q2)
    exact absurd e (ho j hj)
  refine br_f (nI_pos (by omega)) (br_t (nI_le (b := 3) (by omega) (by omega)) (eX_refresh8 hX hn hV h5 hC (fun μ1 hf h1 hg hc => ?_)))
  obtain ⟨b1, b2, hF, hB⟩ := hg
  have fin : ∀ r : Int32, (∀ f1 f2, b2 = max f1 f2 → f1 ≤ 1000000 → f2 ≤ 1000000 → μ1 56 0 = nI b1 → μ1 56 1 = nI f1 → μ1 56 2 = nI f2 → (p = 0 ∧ r = nI b2) ∨ (p = 1 ∧ r = nI b1) ∨ (p = 2 ∧ r = nI f1) ∨ (p = 3 ∧ r = nI f2)) → G (T_X12_two (nI p) μM (fun r2 μ2 => Q r r2 μ1 μ2)) := by
    intro r hr
    refine hG _ (eM_two hM hn hp (fun t ht => (hK.2 t ht).1) hX.2.1.1 (fun F r2 μ2 hf2 h2 hVF hA => k r r2 μ1 μ2 ?_ h1 h2 hf hf2 hc))
    have hVX : VLall n (μX 14) (μX 15) z1 F := VLall_cong (fun w hw => (hK.1 w hw).1) (fun w hw => (hK.1 w hw).2) hVF
    have eF := hF F hVX
    have hl : b2 ≤ 990 := by
      have a1 := twF_le (F := F) (A := 2 ^ n - 1) (i := 0) (2 ^ (n - 1)) (Nat.one_le_two_pow)
      rw [eF] at a1
      have a1 : b2 ≤ max (F (2 * 0 + 1)) (F (2 ^ n - 1 - (2 * 0 + 1))) := a1
      have hp2 : 2 ≤ 2 ^ n := Nat.le_trans (by decide) (Nat.pow_le_pow_right (by decide) (show 1 ≤ n from hn))
      have c1 := VLe_990 h9 hX.2.1.1 hM.2.1.1 (show 2 * 0 + 1 < 2 ^ n by omega) (hVF (2 * 0 + 1) (by omega))
      have c2 := VLe_990 h9 hX.2.1.1 hM.2.1.1 (show 2 ^ n - 1 - (2 * 0 + 1) < 2 ^ n by omega) (hVF (2 ^ n - 1 - (2 * 0 + 1)) (by omega))
      omega
    obtain ⟨A0, A1, A2, A3⟩ := hA
    rw [eF] at A0 A1 A2 A3
    rcases hB with e | ⟨f1, f2, g1, g2, g3, g4, g5, g6, g7, g8, g9⟩
    · omega
    · rcases hr f1 f2 g2 g3 g4 g5 g6 g7 with ⟨ep, er⟩ | ⟨ep, er⟩ | ⟨ep, er⟩ | ⟨ep, er⟩
      · rw [er, A0 ep]
      · rw [er, A1 ep]
      · obtain ⟨v, hv, ev⟩ := A2 ep
        have := g8 v (VLe_cong (fun w hw => (hK.1 w hw).1) (fun w hw => (hK.1 w hw).2) hv)
        rw [er, ev, this]
      · obtain ⟨v, hv, ev⟩ := A3 ep
        have := g9 v (VLe_cong (fun w hw => (hK.1 w hw).1) (fun w hw => (hK.1 w hw).2) hv)
        rw [er, ev, this]
  refine ⟨fun q => fin _ (fun f1 f2 g2 g3 g4 _ g6 g7 => Or.inl ⟨(nI_eq (a := p) (b := 0) (by omega) (by omega)).mp q, ?_⟩), fun q => fin _ (fun f1 f2 _ _ _ g5 _ _ => Or.inr (Or.inl ⟨(nI_eq (a := p) (b := 1) (by omega) (by omega)).mp q, g5⟩)), fun q => fin _ (fun f1 f2 _ _ _ _ g6 _ => Or.inr (Or.inr (Or.inl ⟨(nI_eq (a := p) (b := 2) (by omega) (by omega)).mp q, g6⟩))), fun q0 q1 q2 => fin _ (fun f1 f2 _ _ _ _ _ g7 => Or.inr (Or.inr (Or.inr ⟨?_, g7⟩)))⟩
  · rw [g6, g7, nI_max g3 g4, g2]
  · rcases (show p = 0 ∨ p = 1 ∨ p = 2 ∨ p = 3 by omega) with e | e | e | e
    · subst e; exact absurd rfl q0
    · subst e; exact absurd rfl q1
    · subst e; exact absurd rfl q2
    · exact e
