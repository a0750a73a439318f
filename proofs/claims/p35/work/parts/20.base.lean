/-! numbers and bits for the pure part -/
theorem down_ind {n : Nat} {Q : Nat → Prop} (h0 : Q n) (hs : ∀ k, k < n → Q (k + 1) → Q k) : ∀ k, k ≤ n → Q k := by
  intro k hk
  obtain ⟨j, hj⟩ : ∃ j, k + j = n := ⟨n - k, by omega⟩
  induction j generalizing k with
  | zero =>
    have e : k = n := by omega
    rw [e]; exact h0
  | succ j ih => exact hs k (by omega) (ih (k + 1) (by omega) (by omega))
def hb (x : Int32) (k : Nat) : Bool := x.toBitVec.getLsbD k
theorem hb_tn (x : Int32) (k : Nat) : hb x k = x.toBitVec.toNat.testBit k := rfl
theorem hb_and (x y : Int32) (k : Nat) : hb (x &&& y) k = (hb x k && hb y k) := by simp [hb]
theorem hb_or (x y : Int32) (k : Nat) : hb (x ||| y) k = (hb x k || hb y k) := by simp [hb]
theorem hb_xor (x y : Int32) (k : Nat) : hb (x ^^^ y) k = (hb x k ^^ hb y k) := by simp [hb]
theorem hb_0 (k : Nat) : hb 0 k = false := by simp [hb]
theorem hb_big (x : Int32) {k : Nat} (h : 32 ≤ k) : hb x k = false := by
  rw [hb_tn]
  exact Nat.testBit_lt_two_pow (Nat.lt_of_lt_of_le x.toBitVec.isLt (Nat.pow_le_pow_right (by decide) h))
theorem hb_m1 (k : Nat) : hb (-1) k = decide (k < 32) := by
  by_cases h : k < 32
  · have : ∀ k, k < 32 → hb (-1) k = true := by decide +kernel
    rw [this k h, decide_eq_true h]
  · rw [hb_big _ (by omega), decide_eq_false h]
theorem hb_not (x : Int32) (k : Nat) : hb (x ^^^ (-1)) k = (!hb x k && decide (k < 32)) := by
  rw [hb_xor, hb_m1]
  by_cases h : k < 32
  · simp [h]
  · simp [h, hb_big x (show 32 ≤ k by omega)]
theorem hb_andn (x y : Int32) (k : Nat) : hb (x &&& (y ^^^ (-1))) k = (hb x k && !hb y k) := by
  rw [hb_and, hb_not]
  by_cases h : k < 32
  · simp [h]
  · simp [hb_big x (show 32 ≤ k by omega)]
theorem hb_ext {x y : Int32} (h : ∀ k, k < 32 → hb x k = hb y k) : x = y := by
  apply Int32.toBitVec_inj.mp
  apply BitVec.eq_of_getLsbD_eq
  intro i hi
  exact h i hi
theorem hb_nI {a : Nat} (ha : a < 2 ^ 32) (k : Nat) : hb (nI a) k = a.testBit k := by
  rw [hb_tn, pk_tn ha]
theorem hb_1 (k : Nat) : hb 1 k = decide (k = 0) := by
  rw [show (1 : Int32) = nI 1 from rfl, hb_nI (by decide)]
  cases k with
  | zero => rfl
  | succ k => simp [Nat.testBit_succ]
theorem and31 {k : Nat} (h : k < 32) : nI k &&& 31 = nI k := by
  have : ∀ k, k < 32 → nI k &&& 31 = nI k := by decide +kernel
  exact this k h
theorem hb_shl {k : Nat} (hk : k < 32) (i : Nat) : hb ((1 : Int32) <<< (nI k &&& 31)) i = decide (i = k) := by
  by_cases h : i < 32
  · have : ∀ k, k < 32 → ∀ i, i < 32 → hb ((1 : Int32) <<< (nI k &&& 31)) i = decide (i = k) := by decide +kernel
    exact this k hk i h
  · rw [hb_big _ (by omega), decide_eq_false (by omega)]
theorem hb_shr0 (x : Int32) {k : Nat} (hk : k < 32) : hb (x >>> (nI k &&& 31)) 0 = hb x k := by
  have h : ∀ k, k < 32 → ((nI k &&& 31).toBitVec.smod 32).toNat = k := by decide +kernel
  unfold hb
  rw [Int32.toBitVec_shiftRight, BitVec.sshiftRight', BitVec.getLsbD_sshiftRight, h k hk]
  simp [hk]
theorem bit_of (x : Int32) : x &&& 1 = if hb x 0 then 1 else 0 := by
  apply hb_ext
  intro i hi
  rw [hb_and, hb_1]
  by_cases h0 : i = 0
  · subst h0
    cases hb x 0 <;> simp [hb_0, hb_1]
  · cases hb x 0 <;> simp [hb_0, hb_1, h0]
/-- the test of bit k as both classes write it -/
theorem bit_test (x : Int32) {k : Nat} (hk : k < 32) : (x >>> (nI k &&& 31)) &&& 1 = if hb x k then 1 else 0 := by
  rw [bit_of, hb_shr0 x hk]
theorem bit_z (x : Int32) {k : Nat} (hk : k < 32) : ((x >>> (nI k &&& 31)) &&& 1 = 0) ↔ hb x k = false := by
  rw [bit_test x hk]
  cases hb x k <;> simp
theorem bit_o (x : Int32) {k : Nat} (hk : k < 32) : ((x >>> (nI k &&& 31)) &&& 1 = 1) ↔ hb x k = true := by
  rw [bit_test x hk]
  cases hb x k <;> simp
/-- no bit from n on -/
def lo (n : Nat) (x : Int32) : Prop := ∀ i, n ≤ i → hb x i = false
theorem lo_0 (n : Nat) : lo n 0 := fun i _ => hb_0 i
theorem lo_and {n : Nat} {x : Int32} (h : lo n x) (y : Int32) : lo n (x &&& y) := fun i hi => by rw [hb_and, h i hi, Bool.false_and]
theorem lo_and2 {n : Nat} (x : Int32) {y : Int32} (h : lo n y) : lo n (x &&& y) := fun i hi => by rw [hb_and, h i hi, Bool.and_false]
theorem lo_or {n : Nat} {x y : Int32} (h : lo n x) (h2 : lo n y) : lo n (x ||| y) := fun i hi => by rw [hb_or, h i hi, h2 i hi]; rfl
theorem lo_shl {n k : Nat} (h : k < n) (hn : n ≤ 32) : lo n ((1 : Int32) <<< (nI k &&& 31)) := fun i hi => by rw [hb_shl (by omega), decide_eq_false (by omega)]
theorem lo_mono {n m : Nat} {x : Int32} (h : lo n x) (hm : n ≤ m) : lo m x := fun i hi => h i (by omega)
theorem lo_lt {n : Nat} {x : Int32} (h : lo n x) : x.toBitVec.toNat < 2 ^ n := Nat.lt_pow_two_of_testBit _ (fun i hi => h i hi)
theorem nI_tn (x : Int32) : nI x.toBitVec.toNat = x := Int32.toBitVec_inj.mp (BitVec.eq_of_toNat_eq (pk_tn x.toBitVec.isLt))
theorem lo_nI {n : Nat} {x : Int32} (h : lo n x) : ∃ a, a < 2 ^ n ∧ x = nI a := ⟨x.toBitVec.toNat, lo_lt h, (nI_tn x).symm⟩
theorem nI_lo {n a : Nat} (h : a < 2 ^ n) (hn : n ≤ 32) : lo n (nI a) := fun i hi => by
  rw [hb_nI (Nat.lt_of_lt_of_le h (Nat.pow_le_pow_right (by decide) hn))]
  exact Nat.testBit_lt_two_pow (Nat.lt_of_lt_of_le h (Nat.pow_le_pow_right (by decide) hi))
theorem lo_in {n : Nat} {x : Int32} (h : lo n x) (hn : n ≤ 30) : vp_in x (2 ^ n) := by
  obtain ⟨a, ha, rfl⟩ := lo_nI h
  exact vp_in_nI ha (Nat.lt_of_le_of_lt (Nat.pow_le_pow_right (by decide) hn) (by decide))
theorem lo_9 {x : Int32} (h : lo 9 x) : vp_in x 512 := lo_in h (by decide)
theorem lo_10 {x : Int32} (h : lo 10 x) : vp_in x 1024 := lo_in h (by decide)
theorem in31 (x : Int32) : vp_in (x &&& 31) 32 := lo_in (n := 5) (lo_and2 x (nI_lo (a := 31) (by decide) (by decide))) (by decide)
theorem in_lt {x : Int32} {n : Nat} (h : vp_in x n) : x.toNatClampNeg < n := Nat.not_le.mp fun q => h (Or.inr q)
