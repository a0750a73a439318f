/-! the class's methods: what they ask holds (safety), what they change -/
/-- only cells of S changed -/
def Fr (S : Nat → Prop) (μ μ' : Mem) : Prop := ∀ k, ¬ S k → μ' k = μ k
theorem Fr_rf (S : Nat → Prop) (μ : Mem) : Fr S μ μ := fun _ _ => rfl
theorem Fr_tr {S : Nat → Prop} {μ μ1 μ2 : Mem} (h1 : Fr S μ μ1) (h2 : Fr S μ1 μ2) : Fr S μ μ2 := fun k hk => (h2 k hk).trans (h1 k hk)
theorem Fr_put {S : Nat → Prop} (μ : Mem) {c : Nat} (f : Nat → Int32) (h : S c) : Fr S μ (mput μ c f) := fun k hk => mput_ne (fun e => hk (e ▸ h))
theorem Fr_mono {S S' : Nat → Prop} {μ μ1 : Mem} (h1 : Fr S μ μ1) (h : ∀ k, S k → S' k) : Fr S' μ μ1 := fun k hk => h1 k (fun q => hk (h k q))
theorem nI_self_le (n : Nat) : nI n ≤ nI n := Int32.le_refl _
theorem all_eq {n : Nat} (h : n ≤ 9) : ((1 : Int32) <<< (nI n &&& 31)) - 1 = nI (2 ^ n - 1) := by
  have : ∀ n, n < 10 → ((1 : Int32) <<< (nI n &&& 31)) - 1 = nI (2 ^ n - 1) := by decide +kernel
  exact this n (by omega)
theorem pow9 {n : Nat} (h : n ≤ 9) : 2 ^ n ≤ 512 := Nat.le_trans (Nat.pow_le_pow_right (by decide) h) (by decide)
theorem sX_all {μ : Mem} {n : Nat} {post : Int32 → Mem → Prop} (hn : μ 13 4 = nI n) (h9 : n ≤ 9) (h : post (nI (2 ^ n - 1)) μ) : T_X10_all μ post := by
  unfold T_X10_all
  rw [hn, all_eq h9]
  exact h
theorem sX_sum {μ : Mem} {c : Nat} {x : Int32} {post : Int32 → Mem → Prop} (h : post (μ (c + 1) (x &&& 31).toNatClampNeg + μ (c + 2) ((x >>> ((5 : Int32) &&& 31)) &&& 31).toNatClampNeg) μ) : T_X5_sum c x μ post := ⟨in31 _, in31 _, h⟩
theorem sX_sum' {μ : Mem} {c : Nat} {x : Int32} {post : Int32 → Mem → Prop} (h : ∀ r, post r μ) : T_X5_sum c x μ post := sX_sum (h _)
theorem sX_isClosed {μ : Mem} {n : Nat} {x : Int32} {post : Int32 → Mem → Prop} (hn : μ 13 4 = nI n) (h9 : n ≤ 9) (h0 : post 0 μ) (h1 : post 1 μ) : T_X10_isClosed x μ post := by
  intro P hP
  have H : ∀ k, k ≤ n → P x (nI k) μ := by
    refine down_ind (hP _ _ _ (br_t (by rw [hn]; exact nI_self_le n) h1)) (fun k hk ih => hP _ _ _ (br_f (by rw [hn]; exact nI_ge hk (by omega)) ?_))
    rw [nI_1]
    exact ⟨fun _ => ih, fun _ => ⟨vp_in_nI (by omega) (by omega), fun _ => ih, fun _ => h0⟩⟩
  exact H 0 (Nat.zero_le _)
theorem sX_neededBy {μ : Mem} {n : Nat} {x : Int32} {post : Int32 → Mem → Prop} (hn : μ 13 4 = nI n) (h9 : n ≤ 9) (hw : ∀ w, w < 9 → lo 10 (μ 14 w)) (h : ∀ r, lo 10 r → post r μ) : T_X10_neededBy x μ post := by
  intro P hP
  have H : ∀ k, k ≤ n → ∀ a, lo 10 a → P x a (nI k) μ := by
    refine down_ind (fun a ha => hP _ _ _ _ (br_t (by rw [hn]; exact nI_self_le n) (h a ha))) (fun k hk ih a ha => hP _ _ _ _ (br_f (by rw [hn]; exact nI_ge hk (by omega)) ?_))
    rw [nI_1, nI_clamp (show k < 2 ^ 31 by omega)]
    exact ⟨fun _ => ih a ha, fun _ => ⟨vp_in_nI (by omega) (by omega), ih _ (lo_or ha (hw k (by omega)))⟩⟩
  exact H 0 (Nat.zero_le _) 0 (lo_0 _)
/-- how many bits, as Integer.bitCount counts them -/
def ush (x k : Int32) : Int32 := (x.toUInt32 >>> (k.toUInt32 &&& Int32.toUInt32 31)).toInt32
def bc1 (x : Int32) : Int32 := x - (ush x 1 &&& 1431655765)
def bc2 (x : Int32) : Int32 := (x &&& 858993459) + (ush x 2 &&& 858993459)
def bc3 (x : Int32) : Int32 := (x + ush x 4) &&& 252645135
def bc4 (x : Int32) : Int32 := x + ush x 8
def bc5 (x : Int32) : Int32 := x + ush x 16
def bcF (x : Int32) : Int32 := bc5 (bc4 (bc3 (bc2 (bc1 x)))) &&& 63
theorem sX_bitCount {μ : Mem} {x : Int32} {post : Int32 → Mem → Prop} (h : post (bcF x) μ) : T_J6_bitCount_0f7a4 x μ post := h
theorem bcF_in {a : Nat} (h : a < 512) : vp_in (bcF (nI a)) 10 := by
  have : ∀ a, a < 512 → ¬ (bcF (nI a) < 0 ∨ 10 ≤ (bcF (nI a)).toNatClampNeg) := by decide +kernel
  exact this a h
theorem sX_greatestCross {μ : Mem} {n : Nat} {post : Int32 → Mem → Prop} (hn : μ 13 4 = nI n) (h9 : n ≤ 9) (h : ∀ r, post r μ) : T_X0_greatestCross μ post := by
  intro P hP
  have H : ∀ k, k ≤ n + 1 → ∀ a, P a (nI k) μ := by
    refine down_ind (fun a => hP _ _ _ (br_t (by rw [hn]; exact nI_lt (by omega) (by omega)) (h a))) (fun k hk ih a => hP _ _ _ (br_f (by rw [hn]; exact nI_nlt (by omega) (by omega)) ?_))
    rw [nI_1]
    exact ⟨vp_in_nI (by omega) (by omega), ih _⟩
  exact H 0 (Nat.zero_le _) 0
theorem sX_greatestNeed {μ : Mem} {n : Nat} {post : Int32 → Mem → Prop} (hn : μ 13 4 = nI n) (h9 : n ≤ 9) (h : ∀ r, post r μ) : T_X10_greatestNeed μ post := by
  intro P hP
  have H : ∀ k, k ≤ n → ∀ a, P a (nI k) μ := by
    refine down_ind (fun a => hP _ _ _ (br_t (by rw [hn]; exact nI_self_le n) (h a))) (fun k hk ih a => hP _ _ _ (br_f (by rw [hn]; exact nI_ge hk (by omega)) ?_))
    rw [nI_1]
    exact ⟨vp_in_nI (by omega) (by omega), sX_sum' (fun r => ih _)⟩
  exact H 0 (Nat.zero_le _) 0
theorem sX_isKnot {μ : Mem} {x : Int32} {post : Int32 → Mem → Prop} (h0 : post 0 μ) (h1 : post 1 μ) : T_X0_isKnot x μ post := by
  intro P hP
  have H : ∀ k, k ≤ 10 → P x (nI k) μ := by
    refine down_ind (hP _ _ _ (br_t (by decide) h1)) (fun k hk ih => hP _ _ _ (br_f (nI_ge hk (by decide)) ?_))
    rw [nI_1]
    exact ⟨fun _ => ih, fun _ => ⟨vp_in_nI (by omega) (by omega), fun _ => ih, fun _ => h0⟩⟩
  exact H 0 (Nat.zero_le _)
/-- the works as all methods find them -/
def WK (n : Nat) (μ : Mem) : Prop := μ 13 4 = nI n ∧ n ≤ 9 ∧ ∀ w, w < 9 → lo 10 (μ 14 w)
theorem WK_fr {n : Nat} {S : Nat → Prop} {μ μ' : Mem} (h : WK n μ) (f : Fr S μ μ') (h13 : ¬ S 13) (h14 : ¬ S 14) : WK n μ' := by
  obtain ⟨a, b, c⟩ := h
  refine ⟨by rw [f 13 h13]; exact a, b, fun w hw => ?_⟩
  rw [f 14 h14]
  exact c w hw
theorem cl9 {k : Nat} (h : k < 1000000) : (nI k).toNatClampNeg = k := nI_clamp (by omega)
theorem in9 {k n : Nat} (h : k < n) (hn : n < 1000000) : vp_in (nI k) n := vp_in_nI h (by omega)
def sB : Nat → Prop := fun k => k = 47 ∨ k = 48 ∨ k = 49
theorem sX_fillCrossings {μ : Mem} {n : Nat} {post : Mem → Prop} (h : WK n μ) (k : ∀ μ', Fr sB μ μ' → post μ') : T_X0_fillCrossings μ post := by
  have h9 := h.2.1
  have hp := pow9 h9
  have hp1 : 1 ≤ 2 ^ n := Nat.one_le_two_pow
  have inner : ∀ μ1, Fr sB μ μ1 → T_X0_fillCrossings_37 post (nI (2 ^ n - 1)) 0 μ1 := by
    intro μ1 hf1 P hP
    have H : ∀ j, j ≤ 2 ^ n → ∀ μ2, Fr sB μ μ2 → P (nI (2 ^ n - 1)) (nI j) μ2 := by
      refine down_ind (fun μ2 hf => hP _ _ _ (br_t (nI_lt (by omega) (by omega)) (k μ2 hf))) (fun j hj ih μ2 hf => hP _ _ _ (br_f (nI_nlt (by omega) (by omega)) ?_))
      have hw := WK_fr h hf (by unfold sB; omega) (by unfold sB; omega)
      rw [nI_1]
      refine sX_isClosed hw.1 h9 ⟨fun _ => ih μ2 hf, fun q => absurd rfl q⟩ ⟨fun q => absurd q (by decide), fun _ => ?_⟩
      refine sX_bitCount ?_
      have hb := bcF_in (show j < 512 by omega)
      exact sX_neededBy hw.1 h9 hw.2.2 (fun r _ => sX_neededBy hw.1 h9 hw.2.2 (fun r2 _ => ⟨hb, sX_sum' (fun r3 => ⟨hb, ih _ (Fr_tr hf (Fr_put _ _ (Or.inr (Or.inl rfl))))⟩)⟩))
    exact H 0 (Nat.zero_le _) μ1 hf1
  intro P hP
  have H : ∀ j, j ≤ n + 1 → ∀ μ2, Fr sB μ μ2 → P (nI j) μ2 := by
    refine down_ind (fun μ2 hf => ?_) (fun j hj ih μ2 hf => ?_)
    · have hw := WK_fr h hf (by unfold sB; omega) (by unfold sB; omega)
      exact hP _ _ (br_t (by rw [hw.1]; exact nI_lt (by omega) (by omega)) (sX_all hw.1 h9 (inner μ2 hf)))
    · have hw := WK_fr h hf (by unfold sB; omega) (by unfold sB; omega)
      refine hP _ _ (br_f (by rw [hw.1]; exact nI_nlt (by omega) (by omega)) ?_)
      rw [nI_1]
      exact ⟨in9 (by omega) (by omega), ih _ (Fr_tr hf (Fr_put _ _ (Or.inr (Or.inl rfl))))⟩
  exact H 0 (Nat.zero_le _) μ (Fr_rf _ _)
theorem sX_fillJoined {μ : Mem} {n : Nat} {post : Mem → Prop} (h : WK n μ) (k : ∀ μ', Fr sB μ μ' → post μ') : T_X0_fillJoined μ post := by
  have h9 := h.2.1
  intro P hP
  have H : ∀ j, j ≤ 10 → ∀ μ2, Fr sB μ μ2 → P (nI j) μ2 := by
    refine down_ind (fun μ2 hf => hP _ _ (br_t (by decide) (k μ2 hf))) (fun j hj ih μ2 hf => hP _ _ (br_f (nI_ge hj (by decide)) ⟨in9 hj (by omega), ?_⟩))
    intro P2 hP2
    have H2 : ∀ i, i ≤ n → ∀ μ3, Fr sB μ μ3 → P2 (nI j) (nI i) μ3 := by
      refine down_ind (fun μ3 hf => ?_) (fun i hi ih2 μ3 hf => ?_)
      · have hw := WK_fr h hf (by unfold sB; omega) (by unfold sB; omega)
        refine hP2 _ _ _ (br_t (by rw [hw.1]; exact nI_self_le n) ?_)
        rw [nI_1]
        exact ih μ3 hf
      · have hw := WK_fr h hf (by unfold sB; omega) (by unfold sB; omega)
        refine hP2 _ _ _ (br_f (by rw [hw.1]; exact nI_ge hi (by omega)) ?_)
        rw [nI_1]
        have a1 := in9 (show i < 9 by omega) (by omega)
        have a2 := in9 hj (by omega)
        exact ⟨a1, fun _ => ih2 _ hf, fun _ => ⟨a2, a1, a2, ih2 _ (Fr_tr hf (Fr_put _ _ (Or.inr (Or.inr rfl))))⟩⟩
    exact H2 0 (Nat.zero_le _) _ (Fr_tr hf (Fr_put _ _ (Or.inr (Or.inr rfl))))
  exact H 0 (Nat.zero_le _) μ (Fr_rf _ _)
theorem sX_findKnot {μ : Mem} {n : Nat} {post : Mem → Prop} (h : WK n μ) (k : ∀ μ', Fr sB μ μ' → post μ') : T_X0_findKnot μ post := by
  have h9 := h.2.1
  refine sX_fillJoined h (fun μ1 hf1 => ?_)
  have hw1 := WK_fr h hf1 (by unfold sB; omega) (by unfold sB; omega)
  refine sX_all hw1.1 h9 (sX_neededBy hw1.1 h9 hw1.2.2 (fun r hr => ?_))
  obtain ⟨a, ha, rfl⟩ := lo_nI hr
  have ha2 : a < 1024 := ha
  intro P hP
  have H : ∀ j, j ≤ a + 1 → ∀ μ2, Fr sB μ μ2 → P (nI a) (nI j) μ2 := by
    refine down_ind (fun μ2 hf => hP _ _ _ (br_t (nI_lt (by omega) (by omega)) (k μ2 hf))) (fun j hj ih μ2 hf => hP _ _ _ (br_f (nI_nlt (by omega) (by omega)) ?_))
    rw [nI_1]
    have p1 : ∀ (c : Mem) (f : Nat → Int32), Fr sB μ c → Fr sB μ (mput c 47 f) := fun c f hc => Fr_tr hc (Fr_put _ _ (Or.inl rfl))
    exact ⟨fun _ => ih _ hf, fun _ => sX_sum' (fun r => ⟨fun _ => ih _ hf, fun _ => sX_isKnot ⟨fun _ => ih _ hf, fun q => absurd rfl q⟩ ⟨fun q => absurd q (by decide), fun _ => sX_sum' (fun r2 => ih _ (p1 _ _ (p1 _ _ hf)))⟩⟩)⟩
  rcases Nat.lt_or_ge a 1 with q | q
  · have e : a = 0 := by omega
    subst e
    exact H 1 (by omega) _ (Fr_tr hf1 (Fr_tr (Fr_put _ _ (Or.inl rfl)) (Fr_put _ _ (Or.inl rfl))))
  · exact H 1 (by omega) _ (Fr_tr hf1 (Fr_tr (Fr_put _ _ (Or.inl rfl)) (Fr_put _ _ (Or.inl rfl))))
theorem sX_refresh0 {μ : Mem} {n : Nat} {post : Mem → Prop} (h : WK n μ) (k : ∀ μ', Fr sB μ μ' → post μ') : T_X0_refresh μ post := by
  refine ⟨fun _ => k μ (Fr_rf _ _), fun _ => sX_fillCrossings h (fun μ1 hf1 => ?_)⟩
  exact sX_findKnot (WK_fr h hf1 (by unfold sB; omega) (by unfold sB; omega)) (fun μ2 hf2 => k _ (Fr_tr hf1 (Fr_tr hf2 (Fr_put _ _ (Or.inl rfl)))))
theorem sX_leastOfPart {μ : Mem} {n w : Nat} {post : Int32 → Mem → Prop} (h : WK n μ) (hw : w < 9) (k : ∀ r, post r μ) : T_X0_leastOfPart (nI w) μ post := by
  obtain ⟨hn, h9, -⟩ := h
  refine ⟨in9 hw (by omega), ?_⟩
  intro P hP
  have H : ∀ j, j ≤ n → ∀ a b, P a b (nI j) μ := by
    refine down_ind (fun a b => hP _ _ _ _ (br_t (by rw [hn]; exact nI_self_le n) (k a))) (fun j hj ih a b => hP _ _ _ _ (br_f (by rw [hn]; exact nI_ge hj (by omega)) ?_))
    intro P2 hP2
    have H2 : ∀ i, i ≤ n → ∀ a b, P2 a b (nI j) (nI i) μ := by
      refine down_ind (fun a b => hP2 _ _ _ _ _ (br_t (by rw [hn]; exact nI_self_le n) ?_)) (fun i hi ih2 a b => hP2 _ _ _ _ _ (br_f (by rw [hn]; exact nI_ge hi (by omega)) ?_))
      · rw [nI_1]; exact ih a b
      · rw [nI_1]
        have a1 := in9 (show i < 9 by omega) (by omega)
        exact ⟨a1, fun _ => ih2 _ _, fun _ => ⟨a1, ih2 _ _⟩⟩
    exact H2 0 (Nat.zero_le _) a b
  exact H 0 (Nat.zero_le _) _ _
theorem sX_countParts {μ : Mem} {n : Nat} {post : Int32 → Mem → Prop} (h : WK n μ) (k : ∀ r, post r μ) : T_X0_countParts μ post := by
  have hn := h.1
  have h9 := h.2.1
  intro P hP
  have H : ∀ j, j ≤ n → ∀ a, P a (nI j) μ := by
    refine down_ind (fun a => hP _ _ _ (br_t (by rw [hn]; exact nI_self_le n) (k a))) (fun j hj ih a => hP _ _ _ (br_f (by rw [hn]; exact nI_ge hj (by omega)) ?_))
    refine sX_leastOfPart h (by omega) (fun r => ?_)
    rw [nI_1]
    exact ⟨fun _ => ih _, fun _ => ih _⟩
  exact H 0 (Nat.zero_le _) 0
theorem sX_isWithin {μ : Mem} {a b : Nat} {post : Int32 → Mem → Prop} (ha : a < 9) (hb : b < 9) (h0 : post 0 μ) (h1 : post 1 μ) : T_X0_isWithin (nI a) (nI b) μ post := by
  have a1 := in9 ha (by omega)
  have a2 := in9 hb (by omega)
  exact ⟨a1, a2, fun _ => ⟨a1, a2, fun _ => h0, fun _ => h1⟩, fun _ => ⟨fun _ => h0, fun _ => h1⟩⟩
theorem sX_allWithin {μ : Mem} {n : Nat} {post : Int32 → Mem → Prop} (h : WK n μ) (k : ∀ r, post r μ) : T_X0_allWithin μ post := by
  obtain ⟨hn, h9, -⟩ := h
  intro P hP
  have H : ∀ j, j ≤ n → ∀ a, P a (nI j) μ := by
    refine down_ind (fun a => hP _ _ _ (br_t (by rw [hn]; exact nI_self_le n) (k a))) (fun j hj ih a => hP _ _ _ (br_f (by rw [hn]; exact nI_ge hj (by omega)) ?_))
    intro P2 hP2
    have H2 : ∀ i, i ≤ n → ∀ a, P2 a (nI j) (nI i) μ := by
      refine down_ind (fun a => hP2 _ _ _ _ (br_t (by rw [hn]; exact nI_self_le n) ?_)) (fun i hi ih2 a => hP2 _ _ _ _ (br_f (by rw [hn]; exact nI_ge hi (by omega)) ?_))
      · rw [nI_1]; exact ih a
      · rw [nI_1]
        exact sX_isWithin (by omega) (by omega) ⟨fun _ => ih2 _, fun _ => ih2 _⟩ ⟨fun _ => ih2 _, fun _ => ih2 _⟩
    exact H2 0 (Nat.zero_le _) a
  exact H 0 (Nat.zero_le _) 0
