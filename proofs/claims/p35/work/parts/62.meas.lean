/-! a row measured, exactly, on both sides -/
def orF (f : Nat → Int32) : Nat → Int32 := foldN (fun k s => s ||| f k) 0
theorem orF_s (f : Nat → Int32) (k : Nat) : orF f (k + 1) = orF f k ||| f k := rfl
theorem orF_hb {f : Nat → Int32} {b : Nat} : ∀ n, hb (orF f n) b = true ↔ ∃ i, i < n ∧ hb (f i) b = true := by
  intro n
  induction n with
  | zero =>
    have e : orF f 0 = 0 := rfl
    rw [e, hb_0]
    exact ⟨fun q => absurd q (by decide), fun ⟨i, hi, _⟩ => absurd hi (by omega)⟩
  | succ n ih =>
    rw [orF_s, hb_or, Bool.or_eq_true, ih]
    constructor
    · rintro (⟨i, hi, q⟩ | q)
      · exact ⟨i, by omega, q⟩
      · exact ⟨n, by omega, q⟩
    · rintro ⟨i, hi, q⟩
      by_cases e : i = n
      · subst e; exact Or.inr q
      · exact Or.inl ⟨i, by omega, q⟩
theorem orF_cong {f g : Nat → Int32} : ∀ n, (∀ i, i < n → f i = g i) → orF f n = orF g n := by
  intro n
  induction n with
  | zero => intro _; rfl
  | succ n ih => intro h; rw [orF_s, orF_s, ih (fun i hi => h i (by omega)), h n (by omega)]
theorem hb_if {c d : Nat} {x : Int32} {b : Nat} : hb (if c ≤ d then x else 0) b = true ↔ c ≤ d ∧ hb x b = true := by
  by_cases q : c ≤ d
  · rw [if_pos q]; exact ⟨fun t => ⟨q, t⟩, fun t => t.2⟩
  · rw [if_neg q, hb_0]; exact ⟨fun t => absurd t (by decide), fun t => absurd t.1 q⟩
theorem aheadF_hb {nd row : Nat → Int32} {p n b : Nat} : hb (aheadF nd row p n) b = true ↔ ∃ i, i < n ∧ i ≤ p ∧ hb (nd (row i).toNatClampNeg) b = true := by
  have e : aheadF nd row p n = orF (fun k => if k ≤ p then nd (row k).toNatClampNeg else 0) n := rfl
  rw [e, orF_hb]
  constructor
  · rintro ⟨i, hi, q⟩
    have := hb_if.mp q
    exact ⟨i, hi, this.1, this.2⟩
  · rintro ⟨i, hi, q1, q2⟩
    exact ⟨i, hi, hb_if.mpr ⟨q1, q2⟩⟩
theorem behindF_hb {nd row : Nat → Int32} {p n b : Nat} : hb (behindF nd row p n) b = true ↔ ∃ i, i < n ∧ p ≤ i ∧ hb (nd (row i).toNatClampNeg) b = true := by
  have e : behindF nd row p n = orF (fun k => if p ≤ k then nd (row k).toNatClampNeg else 0) n := rfl
  rw [e, orF_hb]
  constructor
  · rintro ⟨i, hi, q⟩
    have := hb_if.mp q
    exact ⟨i, hi, this.1, this.2⟩
  · rintro ⟨i, hi, q1, q2⟩
    exact ⟨i, hi, hb_if.mpr ⟨q1, q2⟩⟩
theorem openF_cg {nd nd' row row' : Nat → Int32} {n : Nat} (he : ∀ k, k < n → row k = row' k) (hn : ∀ k, k < n → nd (row k).toNatClampNeg = nd' (row k).toNatClampNeg) (p : Nat) : openF nd row n p = openF nd' row' n p := by
  have a1 : aheadF nd row p n = aheadF nd' row' p n := orF_cong n (fun i hi => by show (if i ≤ p then nd (row i).toNatClampNeg else 0) = (if i ≤ p then nd' (row' i).toNatClampNeg else 0); rw [hn i hi, he i hi])
  have a2 : behindF nd row p n = behindF nd' row' p n := orF_cong n (fun i hi => by show (if p ≤ i then nd (row i).toNatClampNeg else 0) = (if p ≤ i then nd' (row' i).toNatClampNeg else 0); rw [hn i hi, he i hi])
  unfold openF
  rw [a1, a2]
/-- how wide a row is at place k -/
def wP (nd : Nat → Int32) (z : Nat → Nat) (row : Nat → Int32) (n k : Nat) : Nat := sum10 z (openF nd row n k)
def moN (nd : Nat → Int32) (z : Nat → Nat) (row : Nat → Int32) (n : Nat) : Nat := mx0 0 (wP nd z row n) n
def loN (nd : Nat → Int32) (z : Nat → Nat) (row : Nat → Int32) (n : Nat) : Nat := sumN (wP nd z row n) n
theorem wP_le {nd : Nat → Int32} {z : Nat → Nat} {row : Nat → Int32} {n k : Nat} (hz9 : ∀ t, z t ≤ 99) : wP nd z row n k ≤ 990 := sum10_le hz9 _
theorem wP_cong {nd nd' row row' : Nat → Int32} {z : Nat → Nat} {n : Nat} (he : ∀ k, k < n → row k = row' k) (hn : ∀ k, k < n → nd (row k).toNatClampNeg = nd' (row k).toNatClampNeg) (p : Nat) : wP nd z row n p = wP nd' z row' n p := by
  unfold wP
  rw [openF_cg he hn p]
theorem moN_cong {nd nd' row row' : Nat → Int32} {z : Nat → Nat} {n : Nat} (he : ∀ k, k < n → row k = row' k) (hn : ∀ k, k < n → nd (row k).toNatClampNeg = nd' (row k).toNatClampNeg) : moN nd z row n = moN nd' z row' n := mx0_cong n (fun i _ => wP_cong he hn i)
theorem loN_cong {nd nd' row row' : Nat → Int32} {z : Nat → Nat} {n : Nat} (he : ∀ k, k < n → row k = row' k) (hn : ∀ k, k < n → nd (row k).toNatClampNeg = nd' (row k).toNatClampNeg) : loN nd z row n = loN nd' z row' n := sumN_cl n (fun i _ => wP_cong he hn i)
theorem moN_le {nd : Nat → Int32} {z : Nat → Nat} {row : Nat → Int32} {n : Nat} (hz9 : ∀ t, z t ≤ 99) : moN nd z row n ≤ 990 := mx0_le (Nat.zero_le _) n (fun _ _ => wP_le hz9)
theorem sumN_le {f : Nat → Nat} {b : Nat} (h : ∀ i, f i ≤ b) : ∀ k, sumN f k ≤ b * k := by
  intro k
  induction k with
  | zero => exact Nat.le_refl _
  | succ k ih =>
    have := h k
    rw [sumN_s, Nat.mul_succ]; omega
theorem loN_le {nd : Nat → Int32} {z : Nat → Nat} {row : Nat → Int32} {n : Nat} (h9 : n ≤ 9) (hz9 : ∀ t, z t ≤ 99) : loN nd z row n ≤ 8910 := by
  have := sumN_le (f := wP nd z row n) (b := 990) (fun i => wP_le hz9) n
  unfold loN; omega
/-- the set of the first k works of a row -/
def dnF (row : Nat → Int32) : Nat → Int32 := orF (fun k => (1 : Int32) <<< (row k &&& 31))
theorem dnF_s (row : Nat → Int32) (k : Nat) : dnF row (k + 1) = dnF row k ||| ((1 : Int32) <<< (row k &&& 31)) := rfl
theorem dnF_cong {r1 r2 : Nat → Int32} (k : Nat) (h : ∀ i, i < k → r1 i = r2 i) : dnF r1 k = dnF r2 k := orF_cong k (fun i hi => by show (1 : Int32) <<< (r1 i &&& 31) = (1 : Int32) <<< (r2 i &&& 31); rw [h i hi])
/-- each of the first k works comes behind its befores -/
def LWk (bf row : Nat → Int32) (k : Nat) : Prop := ∀ i, i < k → bf (row i).toNatClampNeg &&& (dnF row i ^^^ (-1)) = 0
theorem LWk_cong {bf bf' row row' : Nat → Int32} {n : Nat} (he : ∀ k, k < n → row k = row' k) (hn : ∀ k, k < n → bf (row k).toNatClampNeg = bf' (row k).toNatClampNeg) (h : LWk bf row n) : LWk bf' row' n := fun i hi => by
  rw [← dnF_cong i (fun q hq => he q (by omega)), ← he i hi, ← hn i hi]
  exact h i hi
theorem LWk_s {bf row : Nat → Int32} {k : Nat} : LWk bf row (k + 1) ↔ LWk bf row k ∧ bf (row k).toNatClampNeg &&& (dnF row k ^^^ (-1)) = 0 := by
  constructor
  · intro h; exact ⟨fun i hi => h i (by omega), h k (by omega)⟩
  · rintro ⟨h1, h2⟩ i hi
    by_cases e : i = k
    · subst e; exact h2
    · exact h1 i (by omega)
def opN (nd row : Nat → Int32) : Nat → Int32 := orF (fun k => nd (row k).toNatClampNeg)
theorem opN_s (nd row : Nat → Int32) (k : Nat) : opN nd row (k + 1) = opN nd row k ||| nd (row k).toNatClampNeg := rfl
theorem eX_fillNeeded {μ : Mem} {n r : Nat} {post : Mem → Prop} (h : WK n μ) (ho : OP μ) (hr : shX r = .inl 9) (hrs : ¬ sG r) (hrow : RW n r μ) (k : ∀ μ', Fr (fun q => q = 34) μ μ' → OP μ' → (∀ k, k < n → ∀ b, hb (μ' 34 k) b = true ↔ ∃ i, i < n ∧ k ≤ i ∧ hb (μ 14 (μ r i).toNatClampNeg) b = true) → post μ') : T_X1_fillNeededFromHereOn r μ post := by
  obtain ⟨hn, h9, hw⟩ := h
  have r34 : ¬ r = 34 := fun e => hrs (Or.inr e)
  intro P hP
  have H : ∀ j, j ≤ n → ∀ (a : Int32) (μ2 : Mem), lo 10 a → Fr (fun q => q = 34) μ μ2 → OP μ2 → (∀ b, hb a b = true ↔ ∃ i, i < n ∧ j ≤ i ∧ hb (μ 14 (μ r i).toNatClampNeg) b = true) → (∀ k, j ≤ k → k < n → ∀ b, hb (μ2 34 k) b = true ↔ ∃ i, i < n ∧ k ≤ i ∧ hb (μ 14 (μ r i).toNatClampNeg) b = true) → P a (nI j - 1) μ2 := by
    intro j
    induction j with
    | zero =>
      intro _ a μ2 _ hf ho2 _ hb2
      exact hP _ _ _ (br_t (by decide) (k μ2 hf ho2 (fun k hk => hb2 k (Nat.zero_le _) hk)))
    | succ j ih =>
      intro hj a μ2 ha hf ho2 hba hb2
      rw [nI_pred]
      have b1 := in9 (show j < 9 by omega) (by omega)
      obtain ⟨v, hv, ev⟩ := hrow j (by omega)
      refine hP _ _ _ (br_f (nI_pos (by omega)) ⟨hr, b1, ?_⟩)
      rw [cl9 (show j < 1000000 by omega), hf r r34, ev, cl9 (show v < 1000000 by omega), hf 14 (by omega), sub_m1]
      have hnew : ∀ b, hb (a ||| μ 14 v) b = true ↔ ∃ i, i < n ∧ j ≤ i ∧ hb (μ 14 (μ r i).toNatClampNeg) b = true := fun b => by
        rw [hb_or, Bool.or_eq_true, hba b]
        constructor
        · rintro (⟨i, i1, i2, i3⟩ | q)
          · exact ⟨i, i1, by omega, i3⟩
          · exact ⟨j, by omega, Nat.le_refl _, by rw [ev, cl9 (show v < 1000000 by omega)]; exact q⟩
        · rintro ⟨i, i1, i2, i3⟩
          by_cases e : i = j
          · subst e
            rw [ev, cl9 (show v < 1000000 by omega)] at i3
            exact Or.inr i3
          · exact Or.inl ⟨i, i1, by omega, i3⟩
      refine ⟨in9 hv (by omega), b1, ih (by omega) _ _ (lo_or ha (hw v hv)) (Fr_p hf rfl) (OP_put ho2 (lo_or ha (hw v hv))) hnew (fun k hk1 hk2 b => ?_)⟩
      rw [m2]
      by_cases e : k = j
      · subst e; rw [pk_us]; exact hnew b
      · rw [pk_un e]; exact hb2 k (by omega) hk2 b
  rw [hn]
  refine H n (Nat.le_refl n) 0 μ (lo_0 _) (Fr_rf _ _) ho (fun b => ?_) (fun k h1 h2 => absurd h1 (by omega))
  rw [hb_0]
  exact ⟨fun q => absurd q (by decide), fun ⟨i, i1, i2, _⟩ => absurd i1 (by omega)⟩
/-- what the class's gauge holds of a row -/
def MS (n : Nat) (z : Nat → Nat) (nd bf row : Nat → Int32) (μ : Mem) : Prop := (∀ k, k < n → μ 34 k = openF nd row n k) ∧ μ 33 1 = nI (moN nd z row n) ∧ μ 33 2 = nI (loN nd z row n) ∧ ((μ 33 3 = 1 ∧ LWk bf row n) ∨ (μ 33 3 = 0 ∧ ¬ LWk bf row n))
theorem eX_measure {μ : Mem} {n r : Nat} {z : Nat → Nat} {post : Mem → Prop} (h : WK n μ) (hz : ScR 16 z μ) (ho : OP μ) (hr : shX r = .inl 9) (hrs : ¬ sG r) (hrow : RW n r μ) (k : ∀ μ', Fr sG μ μ' → OP μ' → MS n z (μ 14) (μ 15) (μ r) μ' → post μ') : T_X1_measure r μ post := by
  have h9 := h.2.1
  refine eX_fillNeeded h ho hr hrs hrow (fun μ1 hf1 ho1 hb1 => ?_)
  intro P hP
  have p33 : ∀ (c : Mem) (f : Nat → Int32), Fr sG μ c → Fr sG μ (mput c 33 f) := fun c f hc => Fr_tr hc (Fr_put _ _ (Or.inl rfl))
  have p34 : ∀ (c : Mem) (f : Nat → Int32), Fr sG μ c → Fr sG μ (mput c 34 f) := fun c f hc => Fr_tr hc (Fr_put _ _ (Or.inr rfl))
  have o33 : ∀ (c : Mem) (f : Nat → Int32), OP c → OP (mput c 33 f) := fun c f hc k hk => by rw [mput_ne (by decide)]; exact hc k hk
  have H : ∀ j, j ≤ n → ∀ μ2 : Mem, Fr sG μ μ2 → OP μ2 → (∀ k, k < j → μ2 34 k = openF (μ 14) (μ r) n k) → (∀ k, j ≤ k → k < n → ∀ b, hb (μ2 34 k) b = true ↔ ∃ i, i < n ∧ k ≤ i ∧ hb (μ 14 (μ r i).toNatClampNeg) b = true) → μ2 33 1 = nI (mx0 0 (wP (μ 14) z (μ r) n) j) → μ2 33 2 = nI (sumN (wP (μ 14) z (μ r) n) j) → ((μ2 33 3 = 1 ∧ LWk (μ 15) (μ r) j) ∨ (μ2 33 3 = 0 ∧ ¬ LWk (μ 15) (μ r) j)) → P (dnF (μ r) j) (opN (μ 14) (μ r) j) (nI j) μ2 := by
    refine down_ind (fun μ2 hf ho2 hA hB hm ht hl => ?_) (fun j hj ih μ2 hf ho2 hA hB hm ht hl => ?_)
    · have hw := WK_fr h hf (by unfold sG; omega) (by unfold sG; omega)
      exact hP _ _ _ _ (br_t (by rw [hw.1]; exact nI_self_le n) (k μ2 hf ho2 ⟨hA, hm, ht, hl⟩))
    · have hw := WK_fr h hf (by unfold sG; omega) (by unfold sG; omega)
      have b1 := in9 (show j < 9 by omega) (by omega)
      obtain ⟨v, hv, ev⟩ := hrow j hj
      have cv := cl9 (show v < 1000000 by omega)
      have cj := cl9 (show j < 1000000 by omega)
      have ev2 : μ2 r (nI j).toNatClampNeg = nI v := by rw [cj, hf r hrs, ev]
      have b2 := in9 hv (by omega)
      have e15 : μ2 15 = μ 15 := hf 15 (by unfold sG; omega)
      have j75 : ∀ s0 : Int32, ((s0 = 1 ∧ LWk (μ 15) (μ r) (j + 1)) ∨ (s0 = 0 ∧ ¬ LWk (μ 15) (μ r) (j + 1))) → T_X1_measure_75 r post P (dnF (μ r) j) (opN (μ 14) (μ r) j) (nI j) (nI v) s0 μ2 := by
        intro s0 hs0
        have hs01 : s0 = 0 ∨ s0 = 1 := by
          rcases hs0 with ⟨e, -⟩ | ⟨e, -⟩
          · exact Or.inr e
          · exact Or.inl e
        refine ⟨hs01, b2, b1, b1, b1, ?_⟩
        have e34 : (mset μ2 33 3 s0) 34 = μ2 34 := mput_o (by decide)
        have e14 : (mset μ2 33 3 s0) 14 = μ 14 := by
          have : (mset μ2 33 3 s0) 14 = μ2 14 := mput_o (by decide)
          rw [this]; exact hf 14 (by unfold sG; omega)
        have eop : μ2 34 j &&& (opN (μ 14) (μ r) j ||| μ 14 v) = openF (μ 14) (μ r) n j := by
          apply hb_ext
          intro b _
          apply Bool.eq_iff_iff.mpr
          unfold openF
          rw [hb_and, hb_and, Bool.and_eq_true, Bool.and_eq_true, hB j (Nat.le_refl _) hj b, aheadF_hb, behindF_hb, hb_or, Bool.or_eq_true]
          have eo : hb (opN (μ 14) (μ r) j) b = true ↔ ∃ i, i < j ∧ hb (μ 14 (μ r i).toNatClampNeg) b = true := orF_hb j
          rw [eo]
          constructor
          · rintro ⟨q1, q2⟩
            refine ⟨?_, q1⟩
            rcases q2 with ⟨i, hi, q⟩ | q
            · exact ⟨i, by omega, by omega, q⟩
            · exact ⟨j, hj, Nat.le_refl _, by rw [ev, cv]; exact q⟩
          · rintro ⟨⟨i, i1, i2, i3⟩, q1⟩
            refine ⟨q1, ?_⟩
            by_cases e : i = j
            · subst e; rw [ev, cv] at i3; exact Or.inr i3
            · exact Or.inl ⟨i, by omega, i3⟩
        rw [cj, cv, e34, e14, eop]
        have f3 : Fr sG μ (mset (mset μ2 33 3 s0) 34 j (openF (μ 14) (μ r) n j)) := p34 _ _ (p33 _ _ hf)
        have g33 : (mset (mset μ2 33 3 s0) 34 j (openF (μ 14) (μ r) n j)) 33 = upd (μ2 33) 3 s0 := by
          unfold mset; rw [mput_o (by decide), mput_same]
        have g34 : (mset (mset μ2 33 3 s0) 34 j (openF (μ 14) (μ r) n j)) 34 = upd (μ2 34) j (openF (μ 14) (μ r) n j) := by
          rw [m2, e34]
        have hlo : lo 10 (openF (μ 14) (μ r) n j) := by rw [← eop]; exact lo_and (ho2 j (by omega)) _
        have o3 : OP (mset (mset μ2 33 3 s0) 34 j (openF (μ 14) (μ r) n j)) := OP_put (o33 _ _ ho2) hlo
        generalize mset (mset μ2 33 3 s0) 34 j (openF (μ 14) (μ r) n j) = μ3 at f3 g33 g34 o3 ⊢
        refine sX_sumE (ScR_fr hz f3 (by unfold sG; omega) (by unfold sG; omega)) ?_
        have ew : sum10 z (μ3 34 j) = wP (μ 14) z (μ r) n j := by rw [g34, pk_us]; rfl
        have e1 : μ3 33 1 = nI (mx0 0 (wP (μ 14) z (μ r) n) j) := by rw [g33, pk_un (by decide)]; exact hm
        have e2 : ∀ x, (mset μ3 33 1 x) 33 2 = nI (sumN (wP (μ 14) z (μ r) n) j) := fun x => by rw [m2, pk_un (by decide), g33, pk_un (by decide)]; exact ht
        have ed : dnF (μ r) (j + 1) = dnF (μ r) j ||| ((1 : Int32) <<< (nI v &&& 31)) := by rw [dnF_s, ev]
        have eo : opN (μ 14) (μ r) (j + 1) = opN (μ 14) (μ r) j ||| μ 14 v := by rw [opN_s, ev, cv]
        have lw := wP_le (nd := μ 14) (row := μ r) (n := n) (k := j) hz.1
        have lm := mx0_le (b := 1000000) (s := 0) (f := wP (μ 14) z (μ r) n) (by omega) j (fun i hi => by have := wP_le (nd := μ 14) (row := μ r) (n := n) (k := i) hz.1; omega)
        rw [ew, e1, e2, nI_max lm (by omega), nI_add, nI_1, ← ed, ← eo]
        refine ih _ (p33 _ _ (p33 _ _ f3)) (o33 _ _ (o33 _ _ o3)) (fun k hk => ?_) (fun k hk1 hk2 => ?_) ?_ ?_ ?_
        · unfold mset
          rw [mput_o (by decide), mput_o (by decide), g34]
          by_cases e : k = j
          · subst e; rw [pk_us]
          · rw [pk_un e]; exact hA k (by omega)
        · unfold mset
          rw [mput_o (by decide), mput_o (by decide), g34, pk_un (by omega)]
          exact hB k (by omega) hk2
        · rw [m2, pk_un (by decide), m2, pk_us]; rfl
        · rw [m2, pk_us]; rfl
        · rw [m2, pk_un (by decide), m2, pk_un (by decide), g33, pk_us]
          exact hs0
      refine hP _ _ _ _ (br_f (by rw [hw.1]; exact nI_ge hj (by omega)) ⟨hr, b1, ?_⟩)
      rw [ev2, cv, e15]
      have key : μ 15 (μ r j).toNatClampNeg = μ 15 v := by rw [ev, cv]
      refine ⟨fun q => j75 0 (Or.inr ⟨rfl, fun t => ?_⟩), fun q => ⟨b2, fun q2 => j75 0 (Or.inr ⟨rfl, fun t => ?_⟩), fun q2 => j75 1 (Or.inl ⟨rfl, ?_⟩)⟩⟩
      · rcases hl with ⟨e, -⟩ | ⟨-, e⟩
        · rw [e] at q; exact absurd q (by decide)
        · exact e (LWk_s.mp t).1
      · have := (LWk_s.mp t).2
        rw [key] at this
        exact q2 this
      · rcases hl with ⟨-, e⟩ | ⟨e, -⟩
        · exact LWk_s.mpr ⟨e, by rw [key]; exact q2⟩
        · exact absurd e q
  have hf1' : Fr sG μ μ1 := Fr_mono hf1 (fun q hq => Or.inr hq)
  refine H 0 (Nat.zero_le _) _ (p33 _ _ (p33 _ _ (p33 _ _ hf1'))) (o33 _ _ (o33 _ _ (o33 _ _ ho1))) (fun k hk => absurd hk (by omega)) (fun k hk1 hk2 => ?_) ?_ ?_ (Or.inl ⟨?_, fun i hi => absurd hi (by omega)⟩)
  · unfold mset
    rw [mput_o (by decide), mput_o (by decide), mput_o (by decide)]
    exact hb1 k hk2
  · rw [m2, pk_un (by decide), m2, pk_un (by decide), m2, pk_us]; rfl
  · rw [m2, pk_un (by decide), m2, pk_us]; rfl
  · rw [m2, pk_us]
/-! the reference -/
theorem eM_lawful {n r : Nat} {μ : Mem} {post : Int32 → Mem → Prop} (h : WM n μ) (hr : shM r = .inl 9) (hrow : RWn n r μ) (k0 : ¬ LWk (μ 5) (μ r) n → post 0 μ) (k1 : LWk (μ 5) (μ r) n → post 1 μ) : T_X12_isLawful r μ post := by
  obtain ⟨hn, h9, -⟩ := h
  intro P hP
  have H : ∀ j, j ≤ n → LWk (μ 5) (μ r) j → P (dnF (μ r) j) (nI j) μ := by
    refine down_ind (fun hl => hP _ _ _ (br_t (by rw [hn]; exact nI_self_le n) (k1 hl))) (fun j hj ih hl => hP _ _ _ (br_f (by rw [hn]; exact nI_ge hj (by omega)) ?_))
    rw [nI_1, cl9 (show j < 1000000 by omega)]
    obtain ⟨a1, -⟩ := RWn_at h9 hrow hj
    have i1 := in9 (show j < 9 by omega) (by omega)
    exact ⟨hr, i1, a1, fun q => ⟨i1, ih (LWk_s.mpr ⟨hl, q⟩)⟩, fun q => k0 (fun t => q (t j hj))⟩
  exact H 0 (Nat.zero_le _) (fun i hi => absurd hi (by omega))
theorem wideF_N {nd sz row : Nat → Int32} {z : Nat → Nat} {n k : Nat} (hz : ∀ t, t < 10 → sz t = nI (z t)) : wideF nd sz row n k = nI (wP nd z row n k) := sizeF_sum hz
theorem mostF_N {nd sz row : Nat → Int32} {z : Nat → Nat} {n : Nat} (hz : ∀ t, t < 10 → sz t = nI (z t)) (hz9 : ∀ t, z t ≤ 99) : ∀ k, mostF nd sz row n k = nI (mx0 0 (wP nd z row n) k) := by
  intro k
  induction k with
  | zero => rfl
  | succ k ih =>
    have e1 : mostF nd sz row n (k + 1) = if wideF nd sz row n k ≤ mostF nd sz row n k then mostF nd sz row n k else wideF nd sz row n k := rfl
    have lw := wP_le (nd := nd) (row := row) (n := n) (k := k) hz9
    have lm := mx0_le (b := 1000000) (s := 0) (f := wP nd z row n) (by omega) k (fun i hi => by have := wP_le (nd := nd) (row := row) (n := n) (k := i) hz9; omega)
    rw [e1, ih, wideF_N hz, mx0_s]
    rcases Nat.lt_or_ge (mx0 0 (wP nd z row n) k) (wP nd z row n k) with q | q
    · rw [if_neg (nI_ge q (by omega)), Nat.max_eq_right (by omega)]
    · rw [if_pos (nI_le q (by omega)), Nat.max_eq_left q]
theorem longF_N {nd sz row : Nat → Int32} {z : Nat → Nat} {n : Nat} (hz : ∀ t, t < 10 → sz t = nI (z t)) : ∀ k, longF nd sz row n k = nI (sumN (wP nd z row n) k) := by
  intro k
  induction k with
  | zero => rfl
  | succ k ih =>
    have e1 : longF nd sz row n (k + 1) = longF nd sz row n k + wideF nd sz row n k := rfl
    rw [e1, ih, wideF_N hz, sumN_s, nI_add]
theorem eM_most {n r : Nat} {z : Nat → Nat} {μ : Mem} {post : Int32 → Mem → Prop} (h : WM n μ) (hz : ∀ t, t < 10 → μ 6 t = nI (z t)) (hz9 : ∀ t, z t ≤ 99) (hr : shM r = .inl 9) (hrow : RWn n r μ) (k : post (nI (moN (μ 4) z (μ r) n)) μ) : T_X12_mostOf r μ post := by
  refine sM_mostE h hr hrow ?_
  rw [mostF_N hz hz9]
  exact k
theorem eM_long {n r : Nat} {z : Nat → Nat} {μ : Mem} {post : Int32 → Mem → Prop} (h : WM n μ) (hz : ∀ t, t < 10 → μ 6 t = nI (z t)) (hr : shM r = .inl 9) (hrow : RWn n r μ) (k : post (nI (loN (μ 4) z (μ r) n)) μ) : T_X12_longOf r μ post := by
  refine sM_longE h hr hrow ?_
  rw [longF_N hz]
  exact k
/-! better -/
def LEX (n : Nat) (r1 r2 : Nat → Int32) : Prop := ∃ j, j < n ∧ (∀ i, i < j → r1 i = r2 i) ∧ r1 j < r2 j
def BET (n M1 L1 M2 L2 : Nat) (r1 r2 : Nat → Int32) : Prop := M1 < M2 ∨ (M1 = M2 ∧ (L1 < L2 ∨ (L1 = L2 ∧ LEX n r1 r2)))
theorem LEX_cong {n : Nat} {r1 r2 s1 s2 : Nat → Int32} (e1 : ∀ k, k < n → r1 k = s1 k) (e2 : ∀ k, k < n → r2 k = s2 k) (h : LEX n r1 r2) : LEX n s1 s2 := by
  obtain ⟨j, hj, a, b⟩ := h
  refine ⟨j, hj, fun i hi => ?_, ?_⟩
  · rw [← e1 i (by omega), ← e2 i (by omega)]; exact a i hi
  · rw [← e1 j hj, ← e2 j hj]; exact b
theorem BET_cong {n M1 L1 M2 L2 : Nat} {r1 r2 s1 s2 : Nat → Int32} (e1 : ∀ k, k < n → r1 k = s1 k) (e2 : ∀ k, k < n → r2 k = s2 k) (h : BET n M1 L1 M2 L2 r1 r2) : BET n M1 L1 M2 L2 s1 s2 := by
  rcases h with h | ⟨a, h | ⟨b, h⟩⟩
  · exact Or.inl h
  · exact Or.inr ⟨a, Or.inl h⟩
  · exact Or.inr ⟨a, Or.inr ⟨b, LEX_cong e1 e2 h⟩⟩
theorem lt_irr {x : Int32} : ¬ x < x := fun h => by
  rw [Int32.lt_iff_toInt_lt] at h; omega
theorem LEX_no {n : Nat} {r1 r2 : Nat → Int32} (h : ∀ i, i < n → r1 i = r2 i) : ¬ LEX n r1 r2 := fun ⟨j, hj, _, q⟩ => by
  rw [h j hj] at q; exact lt_irr q
theorem LEX_at {n j : Nat} {r1 r2 : Nat → Int32} (heq : ∀ i, i < j → r1 i = r2 i) (hne : ¬ r1 j = r2 j) (hj : j < n) : LEX n r1 r2 ↔ ¬ r2 j ≤ r1 j := by
  constructor
  · rintro ⟨i, hi, a, b⟩
    rcases Nat.lt_trichotomy i j with t | t | t
    · rw [heq i t] at b; exact absurd b lt_irr
    · subst t; exact fun q => absurd (Int32.lt_of_lt_of_le b q) lt_irr
    · exact absurd (a j t) hne
  · intro q
    exact ⟨j, hj, heq, Int32.not_le.mp q⟩
theorem eX_beats {μ : Mem} {n r3 r4 M1 L1 M2 L2 : Nat} {post : Int32 → Mem → Prop} (h : WK n μ) (h3 : shX r3 = .inl 9) (h4 : shX r4 = .inl 9) (e1 : μ 33 1 = nI M1) (e2 : μ 33 2 = nI L1) (m1 : M1 ≤ 1000000) (m2' : M2 ≤ 1000000) (l1 : L1 ≤ 1000000) (l2 : L2 ≤ 1000000) (k0 : ¬ BET n M1 L1 M2 L2 (μ r3) (μ r4) → post 0 μ) (k1 : BET n M1 L1 M2 L2 (μ r3) (μ r4) → post 1 μ) : T_X1_beats r3 r4 (nI M2) (nI L2) μ post := by
  obtain ⟨hn, h9, -⟩ := h
  unfold T_X1_beats
  rw [e1, e2]
  refine pk_eq M1 M2 (fun eM => pk_eq L1 L2 (fun eL => ?_) (fun nL => pk_le L2 L1 (fun q => k0 (fun t => ?_)) (fun q => k1 (Or.inr ⟨eM, Or.inl q⟩)))) (fun nM => pk_le M2 M1 (fun q => k0 (fun t => ?_)) (fun q => k1 (Or.inl q)))
  · intro P hP
    have H : ∀ j, j ≤ n → (∀ i, i < j → μ r3 i = μ r4 i) → P (nI j) μ := by
      refine down_ind (fun heq => hP _ _ (br_t (by rw [hn]; exact nI_self_le n) (k0 (fun t => ?_)))) (fun j hj ih heq => hP _ _ (br_f (by rw [hn]; exact nI_ge hj (by omega)) ?_))
      · rcases t with t | ⟨-, t | ⟨-, t⟩⟩
        · omega
        · omega
        · exact LEX_no heq t
      · have i1 := in9 (show j < 9 by omega) (by omega)
        rw [nI_1, cl9 (show j < 1000000 by omega)]
        refine ⟨h3, i1, h4, i1, fun q => ih (fun i hi => ?_), fun q => ⟨i1, i1, fun q2 => k0 (fun t => ?_), fun q2 => k1 (Or.inr ⟨eM, Or.inr ⟨eL, (LEX_at heq q hj).mpr q2⟩⟩)⟩⟩
        · by_cases e : i = j
          · subst e; exact q
          · exact heq i (by omega)
        · rcases t with t | ⟨-, t | ⟨-, t⟩⟩
          · omega
          · omega
          · exact (LEX_at heq q hj).mp t q2
    exact H 0 (Nat.zero_le _) (fun i hi => absurd hi (by omega))
  · rcases t with t | ⟨-, t | ⟨t, -⟩⟩
    · omega
    · omega
    · exact nL t
  · rcases t with t | ⟨t, -⟩
    · omega
    · exact nM t
theorem eM_isBetter {n r1 r2 : Nat} {z : Nat → Nat} {μ : Mem} {post : Int32 → Mem → Prop} (h : WM n μ) (hz : ∀ t, t < 10 → μ 6 t = nI (z t)) (hz9 : ∀ t, z t ≤ 99) (hr1 : shM r1 = .inl 9) (hr2 : shM r2 = .inl 9) (hw1 : RWn n r1 μ) (hw2 : RWn n r2 μ) (k0 : ¬ BET n (moN (μ 4) z (μ r1) n) (loN (μ 4) z (μ r1) n) (moN (μ 4) z (μ r2) n) (loN (μ 4) z (μ r2) n) (μ r1) (μ r2) → post 0 μ) (k1 : BET n (moN (μ 4) z (μ r1) n) (loN (μ 4) z (μ r1) n) (moN (μ 4) z (μ r2) n) (loN (μ 4) z (μ r2) n) (μ r1) (μ r2) → post 1 μ) : T_X12_isBetter r1 r2 μ post := by
  have hn := h.1
  have h9 := h.2.1
  have a1 := moN_le (nd := μ 4) (row := μ r1) (n := n) hz9
  have a2 := moN_le (nd := μ 4) (row := μ r2) (n := n) hz9
  have a3 := loN_le (nd := μ 4) (row := μ r1) (n := n) h9 hz9
  have a4 := loN_le (nd := μ 4) (row := μ r2) (n := n) h9 hz9
  refine eM_most h hz hz9 hr1 hw1 (eM_most h hz hz9 hr2 hw2 ?_)
  refine pk_eq (moN (μ 4) z (μ r1) n) (moN (μ 4) z (μ r2) n) (fun eM => eM_long h hz hr1 hw1 (eM_long h hz hr2 hw2 ?_)) (fun nM => pk_le (moN (μ 4) z (μ r2) n) (moN (μ 4) z (μ r1) n) (fun q => k0 (fun t => ?_)) (fun q => k1 (Or.inl q)))
  · refine pk_eq (loN (μ 4) z (μ r1) n) (loN (μ 4) z (μ r2) n) (fun eL => ?_) (fun nL => pk_le (loN (μ 4) z (μ r2) n) (loN (μ 4) z (μ r1) n) (fun q => k0 (fun t => ?_)) (fun q => k1 (Or.inr ⟨eM, Or.inl q⟩)))
    · intro P hP
      have H : ∀ j, j ≤ n → (∀ i, i < j → μ r1 i = μ r2 i) → P (nI j) μ := by
        refine down_ind (fun heq => hP _ _ (br_t (by rw [hn]; exact nI_self_le n) (k0 (fun t => ?_)))) (fun j hj ih heq => hP _ _ (br_f (by rw [hn]; exact nI_ge hj (by omega)) ?_))
        · rcases t with t | ⟨-, t | ⟨-, t⟩⟩
          · omega
          · omega
          · exact LEX_no heq t
        · have i1 := in9 (show j < 9 by omega) (by omega)
          rw [nI_1, cl9 (show j < 1000000 by omega)]
          refine ⟨hr1, i1, hr2, i1, fun q => ih (fun i hi => ?_), fun q => ⟨i1, i1, fun q2 => k0 (fun t => ?_), fun q2 => k1 (Or.inr ⟨eM, Or.inr ⟨eL, (LEX_at heq q hj).mpr q2⟩⟩)⟩⟩
          · by_cases e : i = j
            · subst e; exact q
            · exact heq i (by omega)
          · rcases t with t | ⟨-, t | ⟨-, t⟩⟩
            · omega
            · omega
            · exact (LEX_at heq q hj).mp t q2
      exact H 0 (Nat.zero_le _) (fun i hi => absurd hi (by omega))
    · rcases t with t | ⟨-, t | ⟨t, -⟩⟩
      · omega
      · omega
      · exact nL t
  · rcases t with t | ⟨t, -⟩
    · omega
    · exact nM t
