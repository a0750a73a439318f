/-! orders are alike; order of both sides -/
def RO (n m : Nat) (μX μM : Mem) : Prop := ∀ j, j < m → (∃ kd, kd < 3 ∧ μX 24 j = nI kd ∧ μM 11 j = nI kd) ∧ (∀ k, k < n → μX (25 + j) k = μM 12 (9 * j + k)) ∧ (∀ a b, a < n → b < n → μM 12 (9 * j + a) = μM 12 (9 * j + b) → a = b)
theorem RO_fr {n m : Nat} {SX SM : Nat → Prop} {μX μM μX' μM' : Mem} (h : RO n m μX μM) (h8 : m ≤ 8) (f : Fr SX μX μX') (g : Fr SM μM μM') (x24 : ¬ SX 24) (xr : ∀ q, 25 ≤ q → q ≤ 32 → ¬ SX q) (y11 : ¬ SM 11) (y12 : ¬ SM 12) : RO n m μX' μM' := fun j hj => by
  have e := f (25 + j) (xr _ (by omega) (by omega))
  rw [f 24 x24, g 11 y11, g 12 y12, e]
  exact h j hj
theorem RO_0 (n : Nat) (μX μM : Mem) : RO n 0 μX μM := fun j hj => absurd hj (by omega)
theorem RO_add {n m kd : Nat} {μX μM μX' μM' : Mem} (h : RO n m μX μM) (h9 : n ≤ 9) (hkd : kd < 3) (fX : Fr (fun q => q = 22 ∨ q = 24 ∨ q = 25 + m) μX μX') (e24 : μX' 24 = upd (μX 24) m (nI kd)) (e11 : μM' 11 = upd (μM 11) m (nI kd)) (e12 : ∀ i, i < 9 * m → μM' 12 i = μM 12 i) (er : ∀ k, k < n → μX' (25 + m) k = μM' 12 (9 * m + k)) (hNT : ∀ a b, a < n → b < n → μM' 12 (9 * m + a) = μM' 12 (9 * m + b) → a = b) : RO n (m + 1) μX' μM' := fun j hj => by
  by_cases e : j = m
  · subst e
    refine ⟨⟨kd, hkd, by rw [e24, pk_us], by rw [e11, pk_us]⟩, er, hNT⟩
  · obtain ⟨a, b, c⟩ := h j (by omega)
    have i1 : ∀ k, k < n → 9 * j + k < 9 * m := fun k hk => by omega
    refine ⟨by rw [e24, e11, pk_un e, pk_un e]; exact a, fun k hk => ?_, fun p q hp hq => ?_⟩
    · rw [fX (25 + j) (by omega), e12 _ (i1 k hk)]; exact b k hk
    · rw [e12 _ (i1 p hp), e12 _ (i1 q hq)]; exact c p q hp hq
def NT (row : Nat → Int32) (k : Nat) : Prop := ∀ a b, a < k → b < k → row a = row b → a = b
theorem NT_cong {r1 r2 : Nat → Int32} {k : Nat} (e : ∀ i, i < k → r1 i = r2 i) (h : NT r1 k) : NT r2 k := fun a b ha hb0 q => h a b ha hb0 (by rw [e a ha, e b hb0]; exact q)
theorem dnF_hb {row : Nat → Int32} {k b : Nat} (h : ∀ i, i < k → ∃ v, v < 9 ∧ row i = nI v) (hb0 : b < 1000) : hb (dnF row k) b = true ↔ ∃ i, i < k ∧ row i = nI b := by
  have e : dnF row k = orF (fun k => (1 : Int32) <<< (row k &&& 31)) k := rfl
  rw [e, orF_hb]
  constructor
  · rintro ⟨i, hi, q⟩
    obtain ⟨v, hv, ev⟩ := h i hi
    have q : hb ((1 : Int32) <<< (row i &&& 31)) b = true := q
    rw [ev, hb_shl (by omega)] at q
    have := of_decide_eq_true q
    exact ⟨i, hi, by rw [ev, this]⟩
  · rintro ⟨i, hi, q⟩
    obtain ⟨v, hv, ev⟩ := h i hi
    have e2 : v = b := (nI_eq (by omega) (by omega)).mp (ev.symm.trans q)
    refine ⟨i, hi, ?_⟩
    show hb ((1 : Int32) <<< (row i &&& 31)) b = true
    rw [ev, hb_shl (by omega)]
    exact decide_eq_true e2.symm
theorem cntB_lack {x : Int32} {i : Nat} (h : hb x i = false) : ∀ k, i < k → cntB x k < k := by
  intro k
  induction k with
  | zero => intro q; exact absurd q (by omega)
  | succ k ih =>
    intro q
    rw [cntB_s]
    by_cases e : i = k
    · subst e
      rw [h]
      have := cntB_le x i
      show cntB x i + 0 < i + 1
      omega
    · have := ih (by omega)
      split <;> omega
theorem or_same {x : Int32} {i : Nat} (hi : i < 32) (h : hb x i = true) : x ||| ((1 : Int32) <<< (nI i &&& 31)) = x := by
  apply hb_ext
  intro b _
  rw [hb_or, hb_shl hi]
  by_cases e : b = i
  · subst e; rw [h]; rfl
  · rw [decide_eq_false e, Bool.or_false]
theorem NT_cnt {row : Nat → Int32} {n : Nat} (h9 : n ≤ 9) (h : ∀ i, i < n → ∃ v, v < n ∧ row i = nI v) : ∀ k, k ≤ n → cntB (dnF row k) n ≤ k ∧ (cntB (dnF row k) n = k ↔ NT row k) := by
  intro k
  induction k with
  | zero =>
    intro _
    have e : ∀ m, cntB (dnF row 0) m = 0 := by
      intro m
      induction m with
      | zero => rfl
      | succ m ih =>
        have e0 : dnF row 0 = 0 := rfl
        rw [cntB_s, ih, e0, hb_0]; rfl
    rw [e]
    exact ⟨Nat.le_refl _, fun _ a b ha => absurd ha (by omega), fun _ => rfl⟩
  | succ k ih =>
    intro hk
    obtain ⟨i1, i2⟩ := ih (by omega)
    obtain ⟨v, hv, ev⟩ := h k (by omega)
    have h' : ∀ i, i < k → ∃ v, v < 9 ∧ row i = nI v := fun i hi => by
      obtain ⟨w, hw, ew⟩ := h i (by omega)
      exact ⟨w, by omega, ew⟩
    rw [dnF_s, ev]
    cases q : hb (dnF row k) v
    · rw [cntB_or (by omega) q, if_pos hv]
      have hno : ∀ i, i < k → row i ≠ nI v := fun i hi e => by
        rw [(dnF_hb h' (by omega)).mpr ⟨i, hi, e⟩] at q; exact absurd q (by decide)
      refine ⟨by omega, fun e a b ha hb0 eab => ?_, fun hN => ?_⟩
      · have hN := i2.mp (by omega)
        by_cases ea : a = k
        · by_cases eb : b = k
          · omega
          · subst ea; exact absurd (eab.symm.trans ev) (hno b (by omega))
        · by_cases eb : b = k
          · subst eb; exact absurd (eab.trans ev) (hno a (by omega))
          · exact hN a b (by omega) (by omega) eab
      · have := i2.mpr (fun a b ha hb0 e => hN a b (by omega) (by omega) e)
        omega
    · rw [or_same (by omega) q]
      refine ⟨by omega, fun e => by omega, fun hN => ?_⟩
      obtain ⟨i, hi, ei⟩ := (dnF_hb h' (by omega)).mp q
      have := hN i k (by omega) (by omega) (ei.trans ev.symm)
      omega
theorem dnF_lo {row : Nat → Int32} {n : Nat} (h9 : n ≤ 9) (h : ∀ i, i < n → ∃ v, v < n ∧ row i = nI v) : ∀ k, k ≤ n → lo n (dnF row k) := by
  intro k
  induction k with
  | zero => intro _; exact lo_0 n
  | succ k ih =>
    intro hk
    obtain ⟨v, hv, ev⟩ := h k (by omega)
    rw [dnF_s, ev]
    exact lo_or (ih (by omega)) (lo_shl hv (by omega))
theorem NT_all {row : Nat → Int32} {n : Nat} (h9 : n ≤ 9) (h : ∀ i, i < n → ∃ v, v < n ∧ row i = nI v) : NT row n ↔ dnF row n = nI (2 ^ n - 1) := by
  obtain ⟨-, i2⟩ := NT_cnt h9 h n (Nat.le_refl _)
  rw [← i2]
  constructor
  · intro e
    apply hb_ext
    intro i _
    rw [all_bits h9]
    rcases Nat.lt_or_ge i n with q | q
    · rw [decide_eq_true q]
      cases p : hb (dnF row n) i
      · have := cntB_lack p n q; omega
      · rfl
    · rw [decide_eq_false (by omega)]
      exact dnF_lo h9 h n (Nat.le_refl _) i q
  · intro e
    rw [e]; exact cntB_all h9 n (Nat.le_refl _)
theorem RWn_RW {n r : Nat} {μ : Mem} (h9 : n ≤ 9) (h : RWn n r μ) : RW n r μ := fun k hk => by
  obtain ⟨v, hv, e⟩ := h k hk
  exact ⟨v, by omega, e⟩
theorem eX_refusal {n m kd : Nat} {z1 z2 : Nat → Nat} {μ : Mem} {post : Int32 → Mem → Prop} (h : IX n m z1 z2 μ) (hkd : kd < 3) (k1 : (∃ i, i < n ∧ ∀ v, v < n → μ 57 i ≠ nI v) → post (-1) μ) (k3 : RWn n 57 μ → ¬ NT (μ 57) n → post (-3) μ) (k2 : ∀ r μ', RWn n 57 μ → NT (μ 57) n → Fr sG μ μ' → IX n m z1 z2 μ' → ((r = -3 ∧ kd ≠ 0 ∧ ¬ LWk (μ 15) (μ 57) n) ∨ ((kd = 0 ∨ LWk (μ 15) (μ 57) n) ∧ ((r = -4 ∧ m = 8) ∨ (r = 0 ∧ m < 8)))) → post r μ') : T_X11_refusalOfSpare (nI kd) μ post := by
  have h9 := xN h
  have h8 := xM8 h
  intro P hP
  have H : ∀ j, j ≤ n → ∀ b : Int32, (∀ i, i < j → ∃ v, v < n ∧ μ 57 i = nI v) → ((b = 0 ∧ NT (μ 57) j) ∨ (b = 1 ∧ ¬ NT (μ 57) j)) → P (nI kd) (dnF (μ 57) j) b (nI j) μ := by
    refine down_ind (fun b hr hb0 => hP _ _ _ _ _ (br_t (by rw [xW h]; exact nI_self_le n) ⟨fun q => ?_, fun q => ?_⟩)) (fun j hj ih b hr hb0 => hP _ _ _ _ _ (br_f (by rw [xW h]; exact nI_ge hj (by omega)) ⟨in9 (by omega) (by omega), ?_⟩))
    · have hN : NT (μ 57) n := by
        rcases hb0 with ⟨-, e⟩ | ⟨e, -⟩
        · exact e
        · rw [e] at q; exact absurd q (by decide)
      refine eX_measure h.1 h.2.1 h.2.2.2.1 rfl (by unfold sG; omega) (RWn_RW h9 hr) (fun μ2 hf2 ho2 hMS => ?_)
      have h2 := IX_G h hf2 ho2
      have h112 : (kd = 0 ∨ LWk (μ 15) (μ 57) n) → T_X11_refusalOfSpare_112 post μ2 := fun hl => by
        refine pk_lt m 8 (fun hlt => br_t rfl (k2 _ μ2 hr hN hf2 h2 (Or.inr ⟨hl, Or.inr ⟨rfl, hlt⟩⟩))) (fun hge => br_f (by decide) (k2 _ μ2 hr hN hf2 h2 (Or.inr ⟨hl, Or.inl ⟨rfl, by omega⟩⟩))) (xM h2)
      obtain ⟨-, -, -, hl⟩ := hMS
      refine ⟨fun q1 => h112 (Or.inl ((nI_eq (b := 0) (by omega) (by omega)).mp q1)), fun q1 => ⟨fun q2 => h112 (Or.inr ?_), fun q2 => k2 _ μ2 hr hN hf2 h2 (Or.inl ⟨rfl, fun e => q1 (by rw [e]; rfl), ?_⟩)⟩⟩
      · rcases hl with ⟨-, e⟩ | ⟨e, -⟩
        · exact e
        · exact absurd e q2
      · rcases hl with ⟨e, -⟩ | ⟨-, e⟩
        · rw [e] at q2; exact absurd q2 (by decide)
        · exact e
    · refine k3 hr ?_
      rcases hb0 with ⟨e, -⟩ | ⟨-, e⟩
      · exact absurd e q
      · exact e
    · rw [cl9 (show j < 1000000 by omega)]
      refine sX_wHas (xW h) h9 (fun hno => rb_f rfl (k1 ⟨j, hj, hno⟩)) (fun v hv e => rb_t n10 ⟨in9 (by omega) (by omega), ?_⟩)
      have hr' : ∀ i, i < j → ∃ v, v < 9 ∧ μ 57 i = nI v := fun i hi => by
        obtain ⟨w, hw, ew⟩ := hr i hi
        exact ⟨w, by omega, ew⟩
      have step : ∀ b : Int32, ((b = 0 ∧ NT (μ 57) (j + 1)) ∨ (b = 1 ∧ ¬ NT (μ 57) (j + 1))) → P (nI kd) (dnF (μ 57) j ||| ((1 : Int32) <<< (μ 57 j &&& 31))) b (nI j + 1) μ := fun b hb1 => by
        rw [nI_1, ← dnF_s]
        refine ih b (fun i hi => ?_) hb1
        by_cases e2 : i = j
        · subst e2; exact ⟨v, hv, e⟩
        · exact hr i (by omega)
      have and0 : dnF (μ 57) j &&& ((1 : Int32) <<< (μ 57 j &&& 31)) = 0 ↔ hb (dnF (μ 57) j) v = false := by
        rw [e]
        constructor
        · intro q
          have : hb (dnF (μ 57) j &&& ((1 : Int32) <<< (nI v &&& 31))) v = false := by rw [q, hb_0]
          rw [hb_and, hb_shl (by omega), decide_eq_true rfl, Bool.and_true] at this
          exact this
        · intro q
          apply hb_ext
          intro i _
          rw [hb_and, hb_shl (by omega), hb_0]
          by_cases ei : i = v
          · subst ei; rw [q]; rfl
          · rw [decide_eq_false ei, Bool.and_false]
      refine ⟨fun q => step 1 (Or.inr ⟨rfl, fun t => ?_⟩), fun q => ⟨fun q2 => step 0 (Or.inl ⟨rfl, ?_⟩), fun q2 => step 1 (Or.inr ⟨rfl, fun t => ?_⟩)⟩⟩
      · rcases hb0 with ⟨e0, -⟩ | ⟨-, e0⟩
        · exact q e0
        · exact e0 (fun a b ha hb2 eab => t a b (by omega) (by omega) eab)
      · have hN : NT (μ 57) j := by
          rcases hb0 with ⟨-, e0⟩ | ⟨e0, -⟩
          · exact e0
          · rw [e0] at q; exact absurd q (by decide)
        have q3 := and0.mp q2
        have hno : ∀ i, i < j → μ 57 i ≠ nI v := fun i hi ei => by
          rw [(dnF_hb hr' (by omega)).mpr ⟨i, hi, ei⟩] at q3; exact absurd q3 (by decide)
        intro a b ha hb2 eab
        by_cases ea : a = j
        · by_cases eb : b = j
          · omega
          · subst ea; exact absurd (eab.symm.trans e) (hno b (by omega))
        · by_cases eb : b = j
          · subst eb; exact absurd (eab.trans e) (hno a (by omega))
          · exact hN a b (by omega) (by omega) eab
      · have q3 : hb (dnF (μ 57) j) v = true := hbt (fun p => q2 (and0.mpr p))
        obtain ⟨i, hi, ei⟩ := (dnF_hb hr' (by omega)).mp q3
        have := t i j (by omega) (by omega) (ei.trans e.symm)
        omega
  exact H 0 (Nat.zero_le _) 0 (fun i hi => absurd hi (by omega)) (Or.inl ⟨rfl, fun a b ha => absurd ha (by omega)⟩)
theorem eM_order89 {n m kd s : Nat} {f : Nat → Int32} {μ : Mem} {post : Int32 → Mem → Prop} (h : IM n m μ) (hkd : kd < 3) (hs : s + n ≤ 240) (hf : ∀ i, i < n → μ 3 (s + i) = f i) (k1 : (∃ i, i < n ∧ ∀ v, v < n → f i ≠ nI v) → post (-1) μ) (k2 : ∀ μ2, Fr (fun q => q = 13) μ μ2 → (∀ i, i < n → μ2 13 i = f i) → RWn n 13 μ2 → IM n m μ2 → ((¬ NT f n → post (-3) μ2) ∧ (NT f n → kd ≠ 0 → ¬ LWk (μ 5) f n → post (-3) μ2) ∧ (NT f n → (kd = 0 ∨ LWk (μ 5) f n) → T_X12_comes (nI kd) μ2 post))) : T_X12_order_89 post (nI kd) (nI n) (nI s) 0 0 μ := by
  have h9 := mN h
  have H124 : (∀ i, i < n → ∃ v, v < n ∧ f i = nI v) → T_X12_order_124 post (nI kd) (nI n) (nI s) 0 0 μ := by
    intro hv P hP
    have H : ∀ i, i ≤ n → ∀ μ2, Fr (fun q => q = 13) μ μ2 → (∀ q, q < i → μ2 13 q = f q) → P (nI kd) (nI n) (nI s) (dnF f i) (nI i) μ2 := by
      refine down_ind (fun μ2 hf2 hr => ?_) (fun i hi ih μ2 hf2 hr => ?_)
      · have h2 := IM_free h (Fr_mono hf2 (fun q hq => by unfold freM; omega))
        have hrw : RWn n 13 μ2 := fun q hq => by rw [hr q hq]; exact hv q hq
        obtain ⟨c1, c2, c3⟩ := k2 μ2 hf2 hr hrw h2
        have e5 : μ2 5 = μ 5 := hf2 5 (by omega)
        refine hP _ _ _ _ _ _ (br_t (nI_self_le n) (sM_all h2.1 ⟨fun q => c1 (fun t => q ((NT_all h9 hv).mp t)), fun q => ?_⟩))
        have hN := (NT_all h9 hv).mpr q
        refine pk_le kd 0 (fun q0 => c3 hN (Or.inl (by omega))) (fun q0 => eM_lawful h2.1 rfl hrw (fun nl => rb_f rfl (c2 hN (by omega) (fun t => nl ?_))) (fun l => rb_t n10 (c3 hN (Or.inr ?_))))
        · rw [e5]; exact LWk_cong (fun k hk => (hr k hk).symm) (fun k hk => rfl) t
        · rw [e5] at l; exact LWk_cong hr (fun k hk => rfl) l
      · refine hP _ _ _ _ _ _ (br_f (nI_ge hi (by omega)) ?_)
        rw [nI_add, nI_1, cl9 (show i < 1000000 by omega), cl9 (show s + i < 1000000 by omega), hf2 3 (by omega), hf i hi]
        have i1 := in9 (show i < 9 by omega) (show 9 < 1000000 by omega)
        have e13 : (mset μ2 13 i (f i)) 13 i = f i := by rw [m2, pk_us]
        rw [e13, ← dnF_s]
        refine ⟨in9 (by omega) (by omega), i1, i1, ih _ (Fr_p hf2 rfl) (fun q hq => ?_)⟩
        rw [m2]
        by_cases e : q = i
        · subst e; rw [pk_us]
        · rw [pk_un e]; exact hr q (by omega)
    exact H 0 (Nat.zero_le _) μ (Fr_rf _ _) (fun q hq => absurd hq (by omega))
  intro P hP
  have H : ∀ i, i ≤ n → (∀ q, q < i → ∃ v, v < n ∧ f q = nI v) → P (nI kd) (nI n) (nI s) 0 (nI i) μ := by
    refine down_ind (fun hv => hP _ _ _ _ _ _ (br_t (nI_self_le n) (H124 hv))) (fun i hi ih hv => hP _ _ _ _ _ _ (br_f (nI_ge hi (by omega)) ?_))
    rw [nI_add, nI_1, cl9 (show s + i < 1000000 by omega), hf i hi]
    refine ⟨in9 (by omega) (by omega), sM_isWork h.1 (fun hno => rb_f rfl (k1 ⟨i, hi, hno⟩)) (fun v hvb e => rb_t n10 (ih (fun q hq => ?_)))⟩
    by_cases e2 : q = i
    · subst e2; exact ⟨v, hvb, e⟩
    · exact hv q (by omega)
  exact H 0 (Nat.zero_le _) (fun q hq => absurd hq (by omega))
def sOX : Nat → Prop := fun q => q = 0 ∨ (22 ≤ q ∧ q ≤ 34) ∨ q = 57
def sOM : Nat → Prop := fun q => q = 0 ∨ q = 11 ∨ q = 12 ∨ q = 13
theorem tw_order {n m : Nat} {z1 z2 : Nat → Nat} {μX μM : Mem} {x1 x2 x3 x4 x5 : Int32} {G : Prop → Prop} {Q : Int32 → Int32 → Mem → Mem → Prop} (hG : ∀ T, T → G T) (hX : IX n m z1 z2 μX) (hM : IM n m μM) (hR : RS μX μM) (hK : RK n z1 z2 μX μM) (hO : RO n m μX μM) (k : ∀ r r2 m1 μ1 μ2, r = r2 → IX n m1 z1 z2 μ1 → IM n m1 μ2 → RO n m1 μ1 μ2 → RF μ1 μ2 → μ1 0 12 = μX 0 12 → μ2 0 1 = μM 0 1 → Fr sOX μX μ1 → Fr sOM μM μ2 → Q r r2 μ1 μ2) : T_X11_order x1 x2 x3 x4 x5 μX (fun r μ1 => G (T_X12_order x1 x2 x3 x4 x5 μM (fun r2 μ2 => Q r r2 μ1 μ2))) := by
  have h9 := xN hX
  have h8 := xM8 hX
  obtain ⟨μM1, eM1⟩ : ∃ μ, μ = mset μM 0 0 0 := ⟨_, rfl⟩
  have hX1 : IX n m z1 z2 (mset μX 0 13 0) := IX_q hX fre0
  have hM1 : IM n m μM1 := by rw [eM1]; exact IM_0 hM (by decide) (by decide)
  have gM : Fr sOM μM μM1 := by rw [eM1]; exact Fr_put _ _ (Or.inl rfl)
  have hR1 : RS (mset μX 0 13 0) μM1 := by rw [eM1]; exact RS_00 hR
  have tX : (mset μX 0 13 0) 0 12 = μX 0 12 := by rw [m2, pk_un (by decide)]
  have tM : μM1 0 1 = μM 0 1 := by rw [eM1, m2, pk_un (by decide)]
  have fX : (mset μX 0 13 0) 0 13 = 0 := by rw [m2, pk_us]
  have fM : μM1 0 0 = 0 := by rw [eM1, m2, pk_us]
  have gX : Fr sOX μX (mset μX 0 13 0) := Fr_put _ _ (Or.inl rfl)
  have x0 : ∀ q, q ≠ 0 → (mset μX 0 13 0) q = μX q := fun q hq => mput_o (fun e => hq e.symm)
  have y0 : ∀ q, q ≠ 0 → μM1 q = μM q := fun q hq => by rw [eM1]; exact mput_o (fun e => hq e.symm)
  have hO1 : RO n m (mset μX 0 13 0) μM1 := RO_fr hO h8 (Fr_put (S := fun q => q = 0) _ _ rfl) (SM := fun q => q = 0) (fun q hq => y0 q hq) (by omega) (fun q h1 h2 => by omega) (by omega) (by omega)
  have hK1 : ∀ w, w < n → (mset μX 0 13 0) 15 w = μM1 5 w := fun w hw => by rw [x0 15 (by decide), y0 5 (by decide)]; exact (hK.1 w hw).2
  unfold T_X11_order
  generalize mset μX 0 13 0 = μX1 at hX1 hR1 tX fX gX x0 hO1 hK1 ⊢
  have k0 : ∀ r, Q r r μX1 μM1 := fun r => k r r m _ _ rfl hX1 hM1 hO1 (fX.trans fM.symm) tX tM gX gM
  rcases in_or x2 4 (by omega) with ho | ⟨j, hj, rfl⟩
  · refine sX_isSheet (fun _ => rb_f rfl (hG _ ?_)) (fun j hj e => absurd e (ho j hj))
    unfold T_X12_order
    rw [← eM1]
    exact sM_isSheet (fun _ => rb_f rfl (k0 _)) (fun j hj e => absurd e (ho j hj))
  refine sX_isSheet (fun q => absurd rfl (q j hj)) (fun _ _ _ => rb_t n10 ?_)
  rcases in_or x1 3 (by omega) with ho | ⟨kd, hkd, rfl⟩
  · refine sX_isKind (fun _ => br_t rfl (hG _ ?_)) (fun j hj e => absurd e (ho j hj))
    unfold T_X12_order
    rw [← eM1]
    exact sM_isSheet (fun q => absurd rfl (q j hj)) (fun _ _ _ => rb_t n10 (sM_in0 (L := 2) (by omega) (fun _ => br_t rfl (k0 _)) (fun j hj e => absurd e (ho j hj))))
  refine sX_isKind (fun q => absurd rfl (q kd hkd)) (fun _ _ _ => br_f n10 ?_)
  rcases in_or x3 3 (by omega) with ho | ⟨y, hy, rfl⟩
  · refine sX_isLane (fun _ => rb_f rfl (hG _ ?_)) (fun j hj e => absurd e (ho j hj))
    unfold T_X12_order
    rw [← eM1]
    exact sM_isSheet (fun q => absurd rfl (q j hj)) (fun _ _ _ => rb_t n10 (sM_in0 (L := 2) (by omega) (fun q => absurd rfl (q kd hkd)) (fun _ _ _ => br_f n10 (sM_isLane (fun _ => rb_f rfl (k0 _)) (fun j hj e => absurd e (ho j hj))))))
  refine sX_isLane (fun q => absurd rfl (q y hy)) (fun _ _ _ => rb_t n10 (sX_cellsFault hj ?_))
  obtain ⟨er, el⟩ := rf_rfm (x := nI y) (hR1 j hj)
  have ecs : csf (rfm (μM1 1 j) (nI y)) x4 x5 (μM1 2 j) = csf (rf (μX1 3 j) (nI y)) x4 x5 (μX1 4 j) := by rw [er]; exact (csf_cong el).symm
  have goM : ∀ (post2 : Int32 → Mem → Prop), ((csf (rf (μX1 3 j) (nI y)) x4 x5 (μX1 4 j) = 0 → ((¬ x5 = (μM1 0 5) → post2 (-2) μM1) ∧ (x5 = (μM1 0 5) → ((¬ x5 = 0 → T_X12_order_89 post2 (nI kd) x5 ((60 * nI j) + x4) 0 0 μM1) ∧ (x5 = 0 → post2 (-2) μM1))))) ∧ (¬ csf (rf (μX1 3 j) (nI y)) x4 x5 (μX1 4 j) = 0 → post2 ((-10) - csf (rf (μX1 3 j) (nI y)) x4 x5 (μX1 4 j)) (mset μM1 0 0 (csf (rf (μX1 3 j) (nI y)) x4 x5 (μX1 4 j))))) → T_X12_order (nI kd) (nI j) (nI y) x4 x5 μM post2 := by
    intro post2 hq
    unfold T_X12_order
    rw [← eM1]
    refine sM_isSheet (fun q => absurd rfl (q j hj)) (fun _ _ _ => rb_t n10 (sM_in0 (L := 2) (by omega) (fun q => absurd rfl (q kd hkd)) (fun _ _ _ => br_f n10 (sM_isLane (fun q => absurd rfl (q y hy)) (fun _ _ _ => rb_t n10 (sM_against hj ?_))))))
    rw [ecs]
    exact hq
  refine ⟨fun hc0 => ?_, fun hc0 => hG _ (goM _ (br_f hc0 ?_))⟩
  · obtain ⟨L, hL, eL⟩ := xSh hX1 hj
    have hc0' := hc0
    rw [eL] at hc0'
    obtain ⟨er0, a, b, rfl, rfl, hab⟩ := csf_0 hL hc0'
    have hcells : ∀ i, i < b → μM1 3 (60 * j + a + i) = μX1 (5 + j) (a + i) := fun i hi => by
      rcases hR1 j hj with ⟨a1, -⟩ | ⟨l, L', h1, h2, h3, h4, h5, h6, h7⟩
      · rw [a1, rf_1] at er0; exact absurd er0 n10
      · have eLL : L' = L := (nI_eq (by omega) (by omega)).mp (h5.symm.trans eL)
        subst eLL
        rw [h7 (a + i) (by omega)]
        congr 1
        omega
    have fin2 : (b = 0 ∨ b ≠ n) → G (T_X12_order (nI kd) (nI j) (nI y) (nI a) (nI b) μM (fun r2 μ2 => Q (-2) r2 μX1 μ2)) := fun hb0 => hG _ (goM _ (br_t hc0 ⟨fun _ => k0 _, fun q => ⟨fun q0 => by
      exfalso
      rw [hM1.1.1] at q
      have e := (nI_eq (by omega) (by omega)).mp q
      rcases hb0 with e2 | e2
      · subst e2; exact q0 rfl
      · exact e2 e, fun _ => k0 _⟩⟩))
    refine ⟨fun q => fin2 (Or.inl ((nI_eq (b := 0) (by omega) (by omega)).mp q)), fun q0 => ⟨fun q5 => ?_, fun q5 => fin2 (Or.inr (fun e => q5 (by rw [xW hX1, e])))⟩⟩
    rw [xW hX1] at q5
    have ebn := (nI_eq (by omega) (by omega)).mp q5
    subst ebn
    rw [cl9 (show j < 1000000 by omega), cl9 (show a < 1000000 by omega), cl9 (show b < 1000000 by omega)]
    have z0 : (0 : Int32).toNatClampNeg = 0 := by decide
    refine ⟨in9 hj (by omega), ⟨nI_pos (by omega), by decide, nI_pos (by omega), by omega, by rw [z0]; omega⟩, ?_⟩
    rw [z0]
    have e57 : ∀ i, i < b → (mput μX1 57 (va_cpy (μX1 (5 + j)) (μX1 57) a 0 b)) 57 i = μX1 (5 + j) (a + i) := fun i hi => by
      rw [mput_same, pk_cpy_in (Nat.zero_le _) (by omega)]
      congr 1
    have q57 : ∀ q, q ≠ 57 → (mput μX1 57 (va_cpy (μX1 (5 + j)) (μX1 57) a 0 b)) q = μX1 q := fun q hq => mput_o (fun e => hq e.symm)
    have hX2 : IX b m z1 z2 (mput μX1 57 (va_cpy (μX1 (5 + j)) (μX1 57) a 0 b)) := IX_q hX1 (by unfold fre; omega)
    have gX2 : Fr sOX μX (mput μX1 57 (va_cpy (μX1 (5 + j)) (μX1 57) a 0 b)) := Fr_p gX (Or.inr (Or.inr rfl))
    generalize mput μX1 57 (va_cpy (μX1 (5 + j)) (μX1 57) a 0 b) = μX2 at e57 q57 hX2 gX2 ⊢
    have fX2 : μX2 0 13 = 0 := by rw [q57 0 (by decide)]; exact fX
    have tX2 : μX2 0 12 = μX 0 12 := by rw [q57 0 (by decide)]; exact tX
    have e15 : ∀ w, w < b → μX2 15 w = μM1 5 w := fun w hw => by rw [q57 15 (by decide)]; exact hK1 w hw
    have hO2 : RO b m μX2 μM1 := RO_fr hO1 h8 (SX := fun q => q = 57) (fun q hq => q57 q hq) (Fr_rf (fun q => q = 57) μM1) (by omega) (fun q h1 h2 => by omega) (by omega) (by omega)
    have refM : ∀ post2 : Int32 → Mem → Prop, T_X12_order_89 post2 (nI kd) (nI b) (nI (60 * j + a)) 0 0 μM1 → T_X12_order (nI kd) (nI j) (nI y) (nI a) (nI b) μM post2 := fun post2 hq => goM _ (br_t hc0 ⟨fun q => absurd (by rw [hM1.1.1]) q, fun _ => ⟨fun _ => by rw [sixty_mul]; exact hq, fun q => absurd q q0⟩⟩)
    have hcells2 : ∀ i, i < b → μM1 3 (60 * j + a + i) = μX2 57 i := fun i hi => by rw [e57 i hi]; exact hcells i hi
    refine eX_refusal hX2 hkd (fun hno => ?_) (fun hrw hnt => ?_) (fun r μX3 hrw hnt hf3 hX3 hres => ?_)
    · refine br_f (by decide) (hG _ (refM _ (eM_order89 (f := μX2 57) hM1 hkd (by omega) hcells2 (fun _ => k _ _ m _ _ rfl hX2 hM1 hO2 (fX2.trans fM.symm) tX2 tM gX2 gM) (fun μ2 hf2 hr2 hrw2 h2 => ?_))))
      exfalso
      obtain ⟨i, hi, q⟩ := hno
      obtain ⟨v, hv, e⟩ := hrw2 i hi
      rw [hr2 i hi] at e
      exact q v hv e
    · refine br_f (by decide) (hG _ (refM _ (eM_order89 (f := μX2 57) hM1 hkd (by omega) hcells2 (fun hno => ?_) (fun μ2 hf2 hr2 hrw2 h2 => ⟨fun _ => ?_, fun q => absurd q hnt, fun q => absurd q hnt⟩))))
      · exfalso
        obtain ⟨i, hi, q⟩ := hno
        obtain ⟨v, hv, e⟩ := hrw i hi
        exact q v hv e
      · have fr0 : μ2 0 = μM1 0 := hf2 0 (by omega)
        exact k _ _ m _ _ rfl hX2 h2 (RO_fr hO2 h8 (Fr_rf (fun q => q = 57) _) hf2 (by omega) (fun q h1 h2 => by omega) (by omega) (by omega)) (by unfold RF; rw [fr0]; exact fX2.trans fM.symm) tX2 (by rw [fr0]; exact tM) gX2 (Fr_tr gM (Fr_mono hf2 (fun q hq => by unfold sOM; omega)))
    · have gX3 : Fr sOX μX μX3 := Fr_tr gX2 (Fr_mono hf3 (fun q hq => by unfold sG at hq; unfold sOX; omega))
      have fX3 : μX3 0 13 = 0 := by rw [hf3 0 (by unfold sG; omega)]; exact fX2
      have tX3 : μX3 0 12 = μX 0 12 := by rw [hf3 0 (by unfold sG; omega)]; exact tX2
      have hO3 : RO b m μX3 μM1 := RO_fr hO2 h8 hf3 (Fr_rf (fun q => q = 57) μM1) (by unfold sG; omega) (fun q h1 h2 => by unfold sG; omega) (by omega) (by omega)
      have r57 : μX3 57 = μX2 57 := hf3 57 (by unfold sG; omega)
      have lw : LWk (μX2 15) (μX2 57) b ↔ LWk (μM1 5) (μX2 57) b := by
        have e : ∀ k, k < b → μX2 15 (μX2 57 k).toNatClampNeg = μM1 5 (μX2 57 k).toNatClampNeg := fun k hk => by
          obtain ⟨v, hv, ev⟩ := hrw k hk
          rw [ev, cl9 (show v < 1000000 by omega)]; exact e15 v hv
        exact ⟨fun t => LWk_cong (fun _ _ => rfl) e t, fun t => LWk_cong (fun _ _ => rfl) (fun k hk => (e k hk).symm) t⟩
      have noM : ∀ T : Prop, (∃ i, i < b ∧ ∀ v, v < b → μX2 57 i ≠ nI v) → T := fun T hno => by
        exfalso
        obtain ⟨i, hi, q⟩ := hno
        obtain ⟨v, hv, e⟩ := hrw i hi
        exact q v hv e
      have kM : ∀ r μ2, Fr (fun q => q = 13) μM1 μ2 → IM b m μ2 → Q r r μX3 μ2 := fun r μ2 hf2 h2 => by
        have fr0 : μ2 0 = μM1 0 := hf2 0 (by omega)
        exact k _ _ m _ _ rfl hX3 h2 (RO_fr hO3 h8 (Fr_rf (fun q => q = 57) _) hf2 (by omega) (fun q h1 h2 => by omega) (by omega) (by omega)) (by unfold RF; rw [fr0]; exact fX3.trans fM.symm) tX3 (by rw [fr0]; exact tM) gX3 (Fr_tr gM (Fr_mono hf2 (fun q hq => by unfold sOM; omega)))
      rcases hres with ⟨er3, hk0, hnl⟩ | ⟨hl, ⟨er4, hm8⟩ | ⟨er5, hm8⟩⟩
      · subst er3
        refine br_f (by decide) (hG _ (refM _ (eM_order89 (f := μX2 57) hM1 hkd (by omega) hcells2 (noM _) (fun μ2 hf2 hr2 hrw2 h2 => ⟨fun q => absurd hnt q, fun _ _ _ => kM _ μ2 hf2 h2, fun _ q => ?_⟩))))
        rcases q with q | q
        · exact absurd q hk0
        · exact absurd (lw.mpr q) hnl
      · subst er4
        refine br_f (by decide) (hG _ (refM _ (eM_order89 (f := μX2 57) hM1 hkd (by omega) hcells2 (noM _) (fun μ2 hf2 hr2 hrw2 h2 => ⟨fun q => absurd hnt q, fun _ q1 q2 => ?_, fun _ q => sM_comes h2 hrw2 (fun _ => kM _ μ2 hf2 h2) (fun q => absurd q (by omega))⟩))))
        rcases hl with q | q
        · exact absurd q q1
        · exact absurd (lw.mp q) q2
      · subst er5
        refine br_t rfl (sX_add (xM hX3) hm8 rfl (fun μX4 hf4 e22 e24 er => hG _ (refM _ (eM_order89 (f := μX2 57) hM1 hkd (by omega) hcells2 (noM _) (fun μ2 hf2 hr2 hrw2 h2 => ⟨fun q => absurd hnt q, fun _ q1 q2 => ?_, fun _ q => sM_comes h2 hrw2 (fun q => absurd q (by omega)) (fun _ μ3 hg3 e0 e11 e12 e12' h3 => ?_)⟩)))))
        · rcases hl with q | q
          · exact absurd q q1
          · exact absurd (lw.mp q) q2
        · have hrw3 : RW b 57 μX3 := fun i hi => by rw [r57]; exact RWn_RW h9 hrw i hi
          have er' : ∀ i, i < b → μ3 12 (9 * m + i) = μX2 57 i := fun i hi => by rw [e12 i hi]; exact hr2 i hi
          have fr0 : μ2 0 = μM1 0 := hf2 0 (by omega)
          refine k _ _ (m + 1) _ _ rfl (IX_add hX3 hm8 hrw3 hf4 e22 er) h3 (RO_add (μX := μX3) (μM := μ2) (RO_fr hO3 h8 (Fr_rf (fun q => q = 57) _) hf2 (by omega) (fun q h1 h2 => by omega) (by omega) (by omega)) h9 hkd hf4 e24 e11 e12' (fun i hi => ?_) (fun a' b' ha hb0 e => ?_)) ?_ ?_ ?_ (Fr_tr gX3 (Fr_mono hf4 (fun q hq => by unfold sOX; omega))) (Fr_tr (Fr_tr gM (Fr_mono hf2 (fun q hq => by unfold sOM; omega))) (Fr_mono hg3 (fun q hq => by unfold sOM; omega)))
          · rw [er i (by omega), er' i hi, r57]
          · rw [er' a' ha, er' b' hb0] at e
            exact hnt a' b' ha hb0 e
          · unfold RF
            rw [hf4 0 (by omega), e0, pk_un (by decide), fr0]
            exact fX3.trans fM.symm
          · rw [hf4 0 (by omega)]; exact tX3
          · rw [e0, pk_un (by decide), fr0]; exact tM
  · generalize csf (rf (μX1 3 j) (nI y)) x4 x5 (μX1 4 j) = c
    refine k _ _ m _ _ rfl (IX_q hX1 fre0) (IM_0 hM1 (by decide) (by decide)) (RO_fr hO1 h8 (Fr_put (S := fun q => q = 0) _ _ rfl) (Fr_put (S := fun q => q = 0) _ _ rfl) (by omega) (fun q h1 h2 => by omega) (by omega) (by omega)) (by unfold RF; rw [m2, m2, pk_us, pk_us]) (by rw [m2, pk_un (by decide)]; exact tX) (by rw [m2, pk_un (by decide)]; exact tM) (Fr_p gX (Or.inl rfl)) (Fr_p gM (Or.inl rfl))
