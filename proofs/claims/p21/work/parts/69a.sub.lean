/-! subsets of a set, from the fullest down -/
theorem and_b {a b c d : Nat} (hc : c < 2 ^ 1) (hd : d < 2 ^ 1) : (2 * a + c) &&& (2 * b + d) = 2 * (a &&& b) + (c &&& d) := by
  have h1 : c &&& d < 2 ^ 1 := Nat.and_lt_two_pow _ hd
  show (2 ^ 1 * a + c) &&& (2 ^ 1 * b + d) = 2 ^ 1 * (a &&& b) + (c &&& d)
  apply Nat.eq_of_testBit_eq
  intro j
  rw [Nat.testBit_and, Nat.testBit_two_pow_mul_add _ hc, Nat.testBit_two_pow_mul_add _ hd, Nat.testBit_two_pow_mul_add _ h1]
  by_cases q : j < 1
  · rw [if_pos q, if_pos q, if_pos q, Nat.testBit_and]
  · rw [if_neg q, if_neg q, if_neg q, Nat.testBit_and]
def depW : Nat → Nat → Nat → Nat
  | 0, _, _ => 0
  | w + 1, B, j => if B % 2 = 1 then 2 * depW w (B / 2) (j / 2) + j % 2 else 2 * depW w (B / 2) j
def pcW : Nat → Nat → Nat
  | 0, _ => 0
  | w + 1, B => pcW w (B / 2) + B % 2
theorem depW_1 {w B j : Nat} (h : B % 2 = 1) : depW (w + 1) B j = 2 * depW w (B / 2) (j / 2) + j % 2 := if_pos h
theorem depW_0 {w B j : Nat} (h : ¬ B % 2 = 1) : depW (w + 1) B j = 2 * depW w (B / 2) j := if_neg h
theorem pcW_s (w B : Nat) : pcW (w + 1) B = pcW w (B / 2) + B % 2 := rfl
theorem depW_lt : ∀ w B j, depW w B j < 2 ^ w := by
  intro w
  induction w with
  | zero => intro B j; exact Nat.one_pos
  | succ w ih =>
    intro B j
    rw [Nat.pow_succ]
    by_cases q : B % 2 = 1
    · rw [depW_1 q]
      have := ih (B / 2) (j / 2)
      omega
    · rw [depW_0 q]
      have := ih (B / 2) j
      omega
theorem depW_sub : ∀ w B j, B < 2 ^ w → depW w B j &&& B = depW w B j := by
  intro w
  induction w with
  | zero => intro B j _; exact Nat.zero_and B
  | succ w ih =>
    intro B j hB
    rw [Nat.pow_succ] at hB
    have hb : B = 2 * (B / 2) + B % 2 := by omega
    have hm : B % 2 < 2 ^ 1 := Nat.mod_lt _ (by decide)
    by_cases q : B % 2 = 1
    · rw [depW_1 q]
      have hj : j % 2 < 2 ^ 1 := Nat.mod_lt _ (by decide)
      have e := and_b (a := depW w (B / 2) (j / 2)) (b := B / 2) hj hm
      rw [← hb, ih (B / 2) (j / 2) (by omega), q] at e
      rw [e]
      congr 1
      rcases Nat.mod_two_eq_zero_or_one j with p | p
      · rw [p]; rfl
      · rw [p]; rfl
    · rw [depW_0 q]
      have e := and_b (a := depW w (B / 2) j) (b := B / 2) (c := 0) (d := B % 2) (by decide) hm
      rw [← hb, ih (B / 2) j (by omega), Nat.zero_and] at e
      exact e
theorem pow_s (w : Nat) : 2 ^ (w + 1) = 2 * 2 ^ w := by rw [Nat.pow_succ]; omega
theorem depW_pos : ∀ w B j, 0 < j → j < 2 ^ pcW w B → 0 < depW w B j := by
  intro w
  induction w with
  | zero => intro B j h1 h2; have h2 : j < 1 := h2; omega
  | succ w ih =>
    intro B j h1 h2
    rw [pcW_s] at h2
    by_cases q : B % 2 = 1
    · rw [q, pow_s] at h2
      rw [depW_1 q]
      by_cases p : j % 2 = 1
      · omega
      · have := ih (B / 2) (j / 2) (by omega) (by omega)
        omega
    · rw [depW_0 q]
      have e0 : B % 2 = 0 := by omega
      rw [e0] at h2
      have := ih (B / 2) j h1 h2
      omega
theorem depW_pred : ∀ w B j, B < 2 ^ w → 0 < j → j < 2 ^ pcW w B → (depW w B j - 1) &&& B = depW w B (j - 1) := by
  intro w
  induction w with
  | zero => intro B j _ h1 h2; have h2 : j < 1 := h2; omega
  | succ w ih =>
    intro B j hB h1 h2
    rw [Nat.pow_succ] at hB
    rw [pcW_s] at h2
    have hb : B = 2 * (B / 2) + B % 2 := by omega
    have hm : B % 2 < 2 ^ 1 := Nat.mod_lt _ (by decide)
    by_cases q : B % 2 = 1
    · rw [q, pow_s] at h2
      rw [depW_1 q, depW_1 q]
      by_cases p : j % 2 = 1
      · have e := and_b (a := depW w (B / 2) (j / 2)) (b := B / 2) (c := 0) (d := B % 2) (by decide) hm
        rw [← hb, depW_sub w (B / 2) (j / 2) (by omega), Nat.zero_and] at e
        rw [p, show (j - 1) / 2 = j / 2 by omega, show (j - 1) % 2 = 0 by omega]
        exact e
      · have hp := depW_pos w (B / 2) (j / 2) (by omega) (by omega)
        have e := and_b (a := depW w (B / 2) (j / 2) - 1) (b := B / 2) (c := 1) (d := B % 2) (by decide) hm
        rw [← hb, ih (B / 2) (j / 2) (by omega) (by omega) (by omega), q] at e
        rw [show 2 * depW w (B / 2) (j / 2) + j % 2 - 1 = 2 * (depW w (B / 2) (j / 2) - 1) + 1 by omega, show (j - 1) / 2 = j / 2 - 1 by omega, show (j - 1) % 2 = 1 by omega]
        exact e
    · have e0 : B % 2 = 0 := by omega
      rw [e0] at h2
      rw [depW_0 q, depW_0 q]
      have hp := depW_pos w (B / 2) j h1 h2
      have e := and_b (a := depW w (B / 2) j - 1) (b := B / 2) (c := 1) (d := B % 2) (by decide) hm
      rw [← hb, ih (B / 2) j (by omega) h1 h2, e0] at e
      rw [show 2 * depW w (B / 2) j - 1 = 2 * (depW w (B / 2) j - 1) + 1 by omega]
      exact e
theorem depW_sur : ∀ w B s, B < 2 ^ w → s &&& B = s → ∃ j, j < 2 ^ pcW w B ∧ depW w B j = s := by
  intro w
  induction w with
  | zero =>
    intro B s hB hs
    have hB : B < 1 := hB
    have e : B = 0 := by omega
    subst e
    rw [Nat.and_zero] at hs
    exact ⟨0, by decide, hs⟩
  | succ w ih =>
    intro B s hB hs
    rw [Nat.pow_succ] at hB
    have hb : B = 2 * (B / 2) + B % 2 := by omega
    have hsb : s = 2 * (s / 2) + s % 2 := by omega
    have hm : B % 2 < 2 ^ 1 := Nat.mod_lt _ (by decide)
    have hn : s % 2 < 2 ^ 1 := Nat.mod_lt _ (by decide)
    have e := and_b (a := s / 2) (b := B / 2) hn hm
    rw [← hb, ← hsb, hs] at e
    have hc : (s % 2 &&& B % 2) < 2 ^ 1 := Nat.and_lt_two_pow _ hm
    have e1 : s / 2 &&& B / 2 = s / 2 := by omega
    have e2 : s % 2 &&& B % 2 = s % 2 := by omega
    obtain ⟨j, hj, ej⟩ := ih (B / 2) (s / 2) (by omega) e1
    by_cases q : B % 2 = 1
    · refine ⟨2 * j + s % 2, ?_, ?_⟩
      · rw [pcW_s, q, pow_s]; omega
      · rw [depW_1 q, show (2 * j + s % 2) / 2 = j by omega, show (2 * j + s % 2) % 2 = s % 2 by omega, ej]
        omega
    · have e0 : B % 2 = 0 := by omega
      rw [e0, Nat.and_zero] at e2
      refine ⟨j, by rw [pcW_s, e0]; exact hj, ?_⟩
      rw [depW_0 q, ej]
      omega
theorem depW_top : ∀ w B, B < 2 ^ w → depW w B (2 ^ pcW w B - 1) = B := by
  intro w
  induction w with
  | zero => intro B hB; have hB : B < 1 := hB; show 0 = B; omega
  | succ w ih =>
    intro B hB
    rw [Nat.pow_succ] at hB
    have i := ih (B / 2) (by omega)
    have hp : 1 ≤ 2 ^ pcW w (B / 2) := Nat.one_le_two_pow
    rw [pcW_s]
    by_cases q : B % 2 = 1
    · rw [q, pow_s, depW_1 q, show (2 * 2 ^ pcW w (B / 2) - 1) / 2 = 2 ^ pcW w (B / 2) - 1 by omega, show (2 * 2 ^ pcW w (B / 2) - 1) % 2 = 1 by omega, i]
      omega
    · have e0 : B % 2 = 0 := by omega
      rw [e0, depW_0 q, Nat.add_zero, i]
      omega
theorem depW_mono : ∀ w B i j, i < j → j < 2 ^ pcW w B → depW w B i < depW w B j := by
  intro w
  induction w with
  | zero => intro B i j h h2; have h2 : j < 1 := h2; omega
  | succ w ih =>
    intro B i j h h2
    rw [pcW_s] at h2
    by_cases q : B % 2 = 1
    · rw [q, pow_s] at h2
      rw [depW_1 q, depW_1 q]
      by_cases e : i / 2 = j / 2
      · rw [e]; omega
      · have := ih (B / 2) (i / 2) (j / 2) (by omega) (by omega)
        omega
    · have e0 : B % 2 = 0 := by omega
      rw [e0] at h2
      rw [depW_0 q, depW_0 q]
      have := ih (B / 2) i j h h2
      omega
theorem pcW_cnt {B : Nat} (h : B < 1024) : pcW 10 B = cntB (nI B) 10 := by
  have : ∀ B, B < 1024 → pcW 10 B = cntB (nI B) 10 := by decide +kernel
  exact this B h
