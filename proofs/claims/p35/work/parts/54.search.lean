/-! searches of the class, exactly: squeeze, load, fillLeast -/
theorem cntB_mono (x : Int32) {a : Nat} : ∀ d, cntB x a ≤ cntB x (a + d) := by
  intro d
  induction d with
  | zero => exact Nat.le_refl _
  | succ d ih =>
    have h : cntB x (a + d) ≤ cntB x (a + d + 1) := by rw [cntB_s]; exact Nat.le_add_right _ _
    exact Nat.le_trans ih h
theorem cntB_lt {x : Int32} {a b : Nat} (h : a < b) (hb0 : hb x a = true) : cntB x a < cntB x b := by
  have h1 : cntB x (a + 1) = cntB x a + 1 := by rw [cntB_s, hb0]; rfl
  have h2 := cntB_mono x (a := a + 1) (b - (a + 1))
  rw [show a + 1 + (b - (a + 1)) = b by omega] at h2
  omega
theorem cntB_le (x : Int32) : ∀ k, cntB x k ≤ k := by
  intro k
  induction k with
  | zero => exact Nat.le_refl _
  | succ k ih => rw [cntB_s]; split <;> omega
theorem rank_inj {x : Int32} {v w : Nat} (hv : hb x v = true) (hw : hb x w = true) (e : cntB x v = cntB x w) : v = w := by
  rcases Nat.lt_trichotomy v w with t | t | t
  · have := cntB_lt t hv; omega
  · exact t
  · have := cntB_lt t hw; omega
theorem rank_sur {x : Int32} : ∀ n i, i < cntB x n → ∃ w, w < n ∧ hb x w = true ∧ cntB x w = i := by
  intro n
  induction n with
  | zero => intro i h; exact absurd h (Nat.not_lt_zero _)
  | succ k ih =>
    intro i h
    rw [cntB_s] at h
    cases q : hb x k
    · rw [q] at h
      have h : i < cntB x k + 0 := h
      obtain ⟨w, hw, c⟩ := ih i (by omega)
      exact ⟨w, by omega, c⟩
    · rw [q] at h
      have h : i < cntB x k + 1 := h
      by_cases e : i = cntB x k
      · exact ⟨k, by omega, q, e.symm⟩
      · obtain ⟨w, hw, c⟩ := ih i (by omega)
        exact ⟨w, by omega, c⟩
theorem shl0 {k : Nat} (h : k < 32) : (0 : Int32) <<< (nI k &&& 31) = 0 := by
  have : ∀ k, k < 32 → (0 : Int32) <<< (nI k &&& 31) = 0 := by decide +kernel
  exact this k h
/-- r is x, numbered anew by the bits of u -/
def SQ (u x : Int32) (j : Nat) (r : Int32) : Prop := ∀ i, hb r i = true ↔ ∃ v, v < j ∧ hb u v = true ∧ cntB u v = i ∧ hb x v = true
theorem eX_squeeze {c n : Nat} {x u : Int32} {μ : Mem} {post : Int32 → Mem → Prop} (hn : μ 13 4 = nI n) (h9 : n ≤ 9) (k : ∀ r, SQ u x n r → post r μ) : T_X6_squeeze c x u μ post := by
  intro P hP
  have H : ∀ j, j ≤ n → ∀ r, SQ u x j r → P x u r (nI (cntB u j)) (nI j) μ := by
    refine down_ind (fun r hr => hP _ _ _ _ _ _ (br_t (by rw [hn]; exact nI_self_le n) (k r hr))) (fun j hj ih r hr => hP _ _ _ _ _ _ (br_f (by rw [hn]; exact nI_ge hj (by omega)) ?_))
    have hle := cntB_le u j
    have e1 : nI j + 1 = nI (j + 1) := nI_1 _
    have e2 : nI (cntB u j) + 1 = nI (cntB u j + 1) := nI_1 _
    rw [e1, e2, bit_z u (show j < 32 by omega), bit_test x (show j < 32 by omega)]
    rw [cntB_s] at ih
    refine ⟨fun q => ?_, fun q => ?_⟩
    · rw [q] at ih
      refine ih r (fun i => ?_)
      rw [hr i]
      constructor
      · rintro ⟨v, hv, c⟩; exact ⟨v, by omega, c⟩
      · rintro ⟨v, hv, c1, c2⟩
        by_cases e : v = j
        · subst e; rw [q] at c1; exact absurd c1 (by decide)
        · exact ⟨v, by omega, c1, c2⟩
    · have q1 := hbt q
      rw [q1] at ih
      cases p : hb x j
      · have e0 : (if false = true then (1 : Int32) else 0) = 0 := rfl
        rw [e0, shl0 (by omega), or0]
        refine ih r (fun i => ?_)
        rw [hr i]
        constructor
        · rintro ⟨v, hv, c⟩; exact ⟨v, by omega, c⟩
        · rintro ⟨v, hv, c1, c2, c3⟩
          by_cases e : v = j
          · subst e; rw [p] at c3; exact absurd c3 (by decide)
          · exact ⟨v, by omega, c1, c2, c3⟩
      · have e0 : (if true = true then (1 : Int32) else 0) = 1 := rfl
        rw [e0]
        refine ih _ (fun i => ?_)
        rw [hb_or, Bool.or_eq_true, hb_shl (by omega), decide_eq_true_iff, hr i]
        constructor
        · rintro (⟨v, hv, c⟩ | e)
          · exact ⟨v, by omega, c⟩
          · exact ⟨j, by omega, q1, e.symm, p⟩
        · rintro ⟨v, hv, c1, c2, c3⟩
          by_cases e : v = j
          · subst e; exact Or.inr c2.symm
          · exact Or.inl ⟨v, by omega, c1, c2, c3⟩
  exact H 0 (Nat.zero_le _) 0 (fun i => ⟨fun q => by rw [hb_0] at q; exact absurd q (by decide), fun q => by obtain ⟨v, hv, _⟩ := q; omega⟩)
/-- needs and befores of the works of u, numbered anew -/
def LDx (c n : Nat) (u : Int32) (nd bf : Nat → Int32) (j : Nat) (μ : Mem) : Prop := ∀ w, w < j → hb u w = true → μ (c + 1) (cntB u w) = nd w ∧ SQ u (bf w) n (μ (c + 2) (cntB u w))
/-- the needs of the sets below S -/
def NDs (c a S : Nat) (μ : Mem) : Prop := ∀ t, t < S → ∀ b, hb (μ (c + 3) t) b = true ↔ ∃ k, k < a ∧ hb (nI t) k = true ∧ hb (μ (c + 1) k) b = true
theorem or_add {s w : Nat} (h : s < 2 ^ w) : s ||| 2 ^ w = 2 ^ w + s := by
  have := Nat.two_pow_add_eq_or_of_lt h 1
  rw [Nat.mul_one] at this
  rw [this, Nat.or_comm]
theorem eX_load2 {c a : Nat} {μ : Mem} {post : Mem → Prop} (hs : SRa c a μ) (h0 : μ (c + 3) 0 = 0) (k : ∀ μ', Fr (fun q => q = c + 3) μ μ' → NDs c a (2 ^ a) μ' → post μ') : T_X6_load_109 c post 0 μ := by
  have h9 := hs.1
  intro P hP
  have H : ∀ w, w ≤ a → ∀ μ2, Fr (fun q => q = c + 3) μ μ2 → NDs c a (2 ^ w) μ2 → P (nI w) μ2 := by
    refine down_ind (fun μ2 hf h2 => hP _ _ (br_t (by rw [hf c (by omega), hs.2.1]; exact nI_self_le a) (k μ2 hf h2))) (fun w hw ih μ2 hf h2 => hP _ _ (br_f (by rw [hf c (by omega), hs.2.1]; exact nI_ge hw (by omega)) ?_))
    rw [shl_nI (by omega)]
    have hpw : 2 ^ w ≤ 256 := Nat.le_trans (Nat.pow_le_pow_right (by decide) (show w ≤ 8 by omega)) (by decide)
    have hpw1 : 2 ^ (w + 1) = 2 ^ w + 2 ^ w := by rw [Nat.pow_succ]; omega
    intro P2 hP2
    have H2 : ∀ s, s ≤ 2 ^ w → ∀ μ3, Fr (fun q => q = c + 3) μ μ3 → NDs c a (2 ^ w + s) μ3 → P2 (nI w) (nI (2 ^ w)) (nI s) μ3 := by
      refine down_ind (fun μ3 hf h3 => hP2 _ _ _ _ (br_t (nI_self_le _) ?_)) (fun s hs2 ih2 μ3 hf h3 => hP2 _ _ _ _ (br_f (nI_ge hs2 (by omega)) ?_))
      · rw [nI_1]
        exact ih μ3 hf (by rw [hpw1]; exact h3)
      · have eo : nI s ||| nI (2 ^ w) = nI (2 ^ w + s) := by rw [nI_or (by omega) (by omega), or_add hs2]
        rw [nI_1, eo, cl9 (show 2 ^ w + s < 1000000 by omega), cl9 (show s < 1000000 by omega), cl9 (show w < 1000000 by omega)]
        refine ⟨in9 (by omega) (by omega), in9 (by omega) (by omega), in9 (by omega) (by omega), ih2 _ (Fr_p hf rfl) (fun t ht b => ?_)⟩
        have e1 : ∀ f, (mput μ3 (c + 3) f) (c + 1) = μ3 (c + 1) := fun f => mput_o (by omega)
        have e1' : (mset μ3 (c + 3) (2 ^ w + s) (μ3 (c + 3) s ||| μ3 (c + 1) w)) (c + 1) = μ3 (c + 1) := e1 _
        rw [m2, e1']
        by_cases e : t = 2 ^ w + s
        · subst e
          rw [pk_us, hb_or, Bool.or_eq_true, h3 s (by omega) b]
          have eb : ∀ k, hb (nI (2 ^ w + s)) k = (hb (nI s) k || decide (k = w)) := fun k => by
            rw [← or_add hs2, ← (set_or (show s < 512 by omega) (show w < 9 by omega)).1, hb_or, hb_shl (by omega)]
          constructor
          · rintro (⟨k, hk, c1, c2⟩ | c2)
            · exact ⟨k, hk, by rw [eb, c1]; rfl, c2⟩
            · exact ⟨w, hw, by rw [eb, decide_eq_true rfl, Bool.or_true], c2⟩
          · rintro ⟨k, hk, c1, c2⟩
            rw [eb, Bool.or_eq_true] at c1
            rcases c1 with c1 | c1
            · exact Or.inl ⟨k, hk, c1, c2⟩
            · have ek := of_decide_eq_true c1
              subst ek; exact Or.inr c2
        · rw [pk_un e]; exact h3 t (by omega) b
    exact H2 0 (Nat.zero_le _) μ2 hf h2
  refine H 0 (Nat.zero_le _) μ (Fr_rf _ _) (fun t ht b => ?_)
  have et : t = 0 := by have : 2 ^ 0 = 1 := rfl; omega
  subst et
  rw [h0, hb_0]
  exact ⟨fun q => absurd q (by decide), fun q => by obtain ⟨k, _, c1, _⟩ := q; rw [show (nI 0 : Int32) = 0 from rfl, hb_0] at c1; exact absurd c1 (by decide)⟩
/-- a search loaded with the works of u -/
def LOd (c n : Nat) (u : Int32) (nd bf : Nat → Int32) (μ : Mem) : Prop := SRa c (cntB u n) μ ∧ LDx c n u nd bf n μ ∧ NDs c (cntB u n) (2 ^ cntB u n) μ
theorem eX_load {c n : Nat} {u : Int32} {μ : Mem} {post : Mem → Prop} (hc : isSearch c) (h : WK n μ) (k : ∀ μ', Fr (sS c) μ μ' → LOd c n u (μ 14) (μ 15) μ' → μ' c 8 = -1 → μ' c 9 = μ c 9 → post μ') : T_X6_load c u μ post := by
  have hc' : c = 35 ∨ c = 41 := hc
  obtain ⟨hn, h9, -⟩ := h
  have q0 : sS c c := by unfold sS; omega
  have q1 : sS c (c + 1) := by unfold sS; omega
  have q2 : sS c (c + 2) := by unfold sS; omega
  have q3 : sS c (c + 3) := by unfold sS; omega
  intro P hP
  have H : ∀ j, j ≤ n → ∀ μ2, Fr (sS c) μ μ2 → μ2 c 6 = nI (cntB u j) → μ2 c 9 = μ c 9 → LDx c n u (μ 14) (μ 15) j μ2 → P u (nI j) μ2 := by
    refine down_ind (fun μ2 hf h6 h99 hL => ?_) (fun j hj ih μ2 hf h6 h99 hL => ?_)
    · have e : μ2 13 4 = nI n := by rw [hf 13 (by unfold sS; omega)]; exact hn
      have hle := cntB_le u n
      refine hP _ _ _ (br_t (by rw [e]; exact nI_self_le n) ⟨i512, ?_⟩)
      have e0 : (0 : Int32).toNatClampNeg = 0 := by decide
      rw [e0]
      have hS : SRa c (cntB u n) (mset (mset (mset μ2 c 7 (((1 : Int32) <<< ((μ2 c 6) &&& 31)) - 1)) c 8 (-1)) (c + 3) 0 0) := by
        refine SRa_p ⟨by omega, ?_, ?_⟩ (by omega)
        · rw [m2, pk_un (by decide), m2, pk_un (by decide)]; exact h6
        · rw [m2, pk_un (by decide), m2, pk_us, h6]; exact all_eq (by omega)
      refine eX_load2 hS (by rw [m2, pk_us]) (fun μ3 hf3 hN => ?_)
      have f3 : Fr (sS c) μ μ3 := Fr_tr (Fr_p (Fr_p (Fr_p hf q0) q0) q3) (Fr_mono hf3 (fun q hq => by rw [hq]; exact q3))
      have e1 : μ3 (c + 1) = μ2 (c + 1) := by rw [hf3 (c + 1) (by omega)]; unfold mset; rw [mput_o (by omega), mput_o (by omega), mput_o (by omega)]
      have e2 : μ3 (c + 2) = μ2 (c + 2) := by rw [hf3 (c + 2) (by omega)]; unfold mset; rw [mput_o (by omega), mput_o (by omega), mput_o (by omega)]
      have ec : ∀ s, s ≠ 7 → s ≠ 8 → μ3 c s = μ2 c s := fun s s7 s8 => by
        rw [hf3 c (by omega)]
        have ee : (mset (mset (mset μ2 c 7 (((1 : Int32) <<< ((μ2 c 6) &&& 31)) - 1)) c 8 (-1)) (c + 3) 0 0) c = (mset (mset μ2 c 7 (((1 : Int32) <<< ((μ2 c 6) &&& 31)) - 1)) c 8 (-1)) c := mput_o (by omega)
        rw [ee, m2, pk_un s8, m2, pk_un s7]
      refine k μ3 f3 ⟨SRa_of hS (hf3 c (by omega)), fun w hw hb0 => by rw [e1, e2]; exact hL w hw hb0, hN⟩ ?_ (by rw [ec 9 (by decide) (by decide)]; exact h99)
      rw [hf3 c (by omega)]
      have ee : (mset (mset (mset μ2 c 7 (((1 : Int32) <<< ((μ2 c 6) &&& 31)) - 1)) c 8 (-1)) (c + 3) 0 0) c = (mset (mset μ2 c 7 (((1 : Int32) <<< ((μ2 c 6) &&& 31)) - 1)) c 8 (-1)) c := mput_o (by omega)
      rw [ee, m2, pk_us]
    · have e : μ2 13 4 = nI n := by rw [hf 13 (by unfold sS; omega)]; exact hn
      have b1 := in9 (show j < 9 by omega) (show 9 < 1000000 by omega)
      have hle := cntB_le u j
      refine hP _ _ _ (br_f (by rw [e]; exact nI_ge hj (by omega)) ?_)
      rw [nI_1, bit_z u (show j < 32 by omega), h6, cl9 (show cntB u j < 1000000 by omega), cl9 (show j < 1000000 by omega)]
      rw [cntB_s] at ih
      refine ⟨fun q => ?_, fun q => ⟨b1, in9 (by omega) (by omega), b1, ?_⟩⟩
      · rw [q] at ih
        refine ih μ2 hf h6 h99 (fun w hw hb0 => ?_)
        by_cases ew : w = j
        · subst ew; rw [q] at hb0; exact absurd hb0 (by decide)
        · exact hL w (by omega) hb0
      · have qb := hbt q
        rw [qb] at ih
        have e6 : (mset μ2 (c + 1) (cntB u j) (μ 14 j)) c 6 = nI (cntB u j) := by
          unfold mset; rw [mput_o (by omega)]; exact h6
        have e15 : (mset μ2 (c + 1) (cntB u j) (μ2 14 j)) 15 j = μ 15 j := by
          unfold mset; rw [mput_o (by omega), hf 15 (by unfold sS; omega)]
        have e14 : μ2 14 j = μ 14 j := by rw [hf 14 (by unfold sS; omega)]
        rw [e15, e14]
        refine eX_squeeze (n := n) (by unfold mset; rw [mput_o (by omega)]; exact e) h9 (fun r hr => ⟨by rw [e6]; exact in9 (by omega) (by omega), ?_⟩)
        rw [e6, cl9 (show cntB u j < 1000000 by omega)]
        refine ih _ (Fr_p (Fr_p (Fr_p hf q1) q2) q0) ?_ ?_ (fun w hw hb0 => ?_)
        · rw [m2, pk_us]
          have e66 : (mset (mset μ2 (c + 1) (cntB u j) (μ 14 j)) (c + 2) (cntB u j) r) c 6 = nI (cntB u j) := by
            unfold mset; rw [mput_o (by omega), mput_o (by omega)]; exact h6
          rw [e66, nI_1]
          rfl
        · rw [m2, pk_un (by decide)]
          unfold mset; rw [mput_o (by omega), mput_o (by omega)]; exact h99
        · have g1 : ∀ f, (mput (mset (mset μ2 (c + 1) (cntB u j) (μ 14 j)) (c + 2) (cntB u j) r) c f) (c + 1) = upd (μ2 (c + 1)) (cntB u j) (μ 14 j) := fun f => by
            unfold mset; rw [mput_o (by omega), mput_o (by omega), mput_same]
          have g2 : ∀ f, (mput (mset (mset μ2 (c + 1) (cntB u j) (μ 14 j)) (c + 2) (cntB u j) r) c f) (c + 2) = upd (μ2 (c + 2)) (cntB u j) r := fun f => by
            unfold mset; rw [mput_o (by omega), mput_same, mput_o (by omega)]
          have hgoal : upd (μ2 (c + 1)) (cntB u j) (μ 14 j) (cntB u w) = μ 14 w ∧ SQ u (μ 15 w) n (upd (μ2 (c + 2)) (cntB u j) r (cntB u w)) := by
            by_cases ew : w = j
            · subst ew; rw [pk_us, pk_us]; exact ⟨rfl, hr⟩
            · have hlt : cntB u w ≠ cntB u j := fun ee => ew (rank_inj hb0 qb ee)
              rw [pk_un hlt, pk_un hlt]; exact hL w (by omega) hb0
          unfold mset at g1 g2 ⊢
          rw [g1, g2]
          exact hgoal
  refine H 0 (Nat.zero_le _) _ (Fr_p (Fr_rf _ _) q0) ?_ ?_ (fun w hw => absurd hw (by omega))
  · rw [m2, pk_us]; rfl
  · rw [m2, pk_un (by decide)]
