/-! sheets of both sides: what they hold is alike, and calls of sheets answer alike -/
def RS1 (k : Nat) (μX μM : Mem) : Prop := (μX 3 k = -1 ∧ μM 1 k = -9) ∨ ∃ l L, l < 3 ∧ L ≤ 60 ∧ μX 3 k = nI l ∧ μM 1 k = nI l ∧ μX 4 k = nI L ∧ μM 2 k = nI L ∧ ∀ i, i < L → μX (5 + k) i = μM 3 (60 * k + i)
def RS (μX μM : Mem) : Prop := ∀ k, k < 4 → RS1 k μX μM
theorem RS1_of {k : Nat} {μX μM μX' μM' : Mem} (h : RS1 k μX μM) (e3 : μX' 3 k = μX 3 k) (e4 : μX' 4 k = μX 4 k) (e5 : μX' (5 + k) = μX (5 + k)) (m1 : μM' 1 k = μM 1 k) (m2' : μM' 2 k = μM 2 k) (m3 : ∀ i, i < 60 → μM' 3 (60 * k + i) = μM 3 (60 * k + i)) : RS1 k μX' μM' := by
  rcases h with ⟨a, b⟩ | ⟨l, L, h1, h2, h3, h4, h5, h6, h7⟩
  · exact Or.inl ⟨by rw [e3]; exact a, by rw [m1]; exact b⟩
  · exact Or.inr ⟨l, L, h1, h2, by rw [e3]; exact h3, by rw [m1]; exact h4, by rw [e4]; exact h5, by rw [m2']; exact h6, fun i hi => by rw [e5, m3 i (by omega)]; exact h7 i hi⟩
theorem RS_fr {SX SM : Nat → Prop} {μX μM μX' μM' : Mem} (h : RS μX μM) (f : Fr SX μX μX') (g : Fr SM μM μM') (hX : ∀ q, 1 ≤ q → q ≤ 8 → ¬ SX q) (hM : ∀ q, 1 ≤ q → q ≤ 3 → ¬ SM q) : RS μX' μM' := fun k hk =>
  RS1_of (h k hk) (by rw [f 3 (hX 3 (by omega) (by omega))]) (by rw [f 4 (hX 4 (by omega) (by omega))]) (f (5 + k) (hX _ (by omega) (by omega))) (by rw [g 1 (hM 1 (by omega) (by omega))]) (by rw [g 2 (hM 2 (by omega) (by omega))]) (fun i _ => by rw [g 3 (hM 3 (by omega) (by omega))])
theorem RS_NS {μX μM μX' μM' : Mem} (h : RS μX μM) (f : Fr sNS μX μX') (g : Fr sMN μM μM') : RS μX' μM' := RS_fr h f g (fun q h1 h2 => by unfold sNS; omega) (fun q h1 h2 => by unfold sMN; omega)
theorem in_or (x : Int32) (n : Nat) (hn : n < 2 ^ 31) : (∀ j, j < n → x ≠ nI j) ∨ ∃ j, j < n ∧ x = nI j := by
  by_cases h : ∃ j, j < n ∧ x = nI j
  · exact Or.inr h
  · exact Or.inl (fun j hj e => h ⟨j, hj, e⟩)
theorem nI_ne1 {l : Nat} (h : l < 100) : ¬ nI l = -1 := by
  have : ∀ l, l < 100 → ¬ nI l = -1 := by decide +kernel
  exact this l h
theorem nI_ne9 {l : Nat} (h : l < 100) : ¬ nI l = -9 := by
  have : ∀ l, l < 100 → ¬ nI l = -9 := by decide +kernel
  exact this l h
theorem rf_1 (x : Int32) : rf (-1) x = 1 := by unfold rf; rw [if_pos rfl]
theorem rf_s {l : Nat} (h : l < 3) : rf (nI l) (nI l) = 0 := by unfold rf; rw [if_neg (nI_ne1 (by omega)), if_pos rfl]
theorem rf_d {l : Nat} {x : Int32} (h : l < 3) (hx : ¬ nI l = x) : rf (nI l) x = 2 := by unfold rf; rw [if_neg (nI_ne1 (by omega)), if_neg hx]
theorem cf_1 (i L : Int32) : cf 1 i L = 1 := by unfold cf; rw [if_neg (by decide)]
theorem cf_2 (i L : Int32) : cf 2 i L = 2 := by unfold cf; rw [if_neg (by decide)]
theorem cf_in {i L : Nat} (hL : L ≤ 60) (h : i < L) : cf 0 (nI i) (nI L) = 0 := by
  unfold cf
  rw [if_pos rfl, if_neg (nI_pos (by omega)), if_pos (nI_lt h (by omega))]
theorem cf_out {x : Int32} {L : Nat} (hL : L ≤ 60) (h : ∀ j, j < L → x ≠ nI j) : cf 0 x (nI L) = 3 := by
  unfold cf
  rw [if_pos rfl]
  rcases ix_out (n := L) (by omega) h with q | q
  · rw [if_pos q]
  · by_cases q2 : x < 0
    · rw [if_pos q2]
    · rw [if_neg q2, if_neg (Int32.not_lt.mpr q)]
/-! sheet -/
def ShX (μ μ' : Mem) (x1 x2 x3 : Int32) : Prop := (rSheet x1 x2 x3 ≠ 1 ∧ Fr (fun q => q = 0) μ μ') ∨ ∃ j l L, j < 4 ∧ l < 3 ∧ L ≤ 60 ∧ x1 = nI j ∧ x2 = nI l ∧ x3 = nI L ∧ rSheet x1 x2 x3 = 1 ∧ Fr (fun q => q = 0 ∨ q = 3 ∨ q = 4 ∨ q = 5 + j) μ μ' ∧ μ' 3 = upd (μ 3) j (nI l) ∧ μ' 4 = upd (μ 4) j (nI L) ∧ ∀ i, i < L → μ' (5 + j) i = 0
def ShM (μ μ' : Mem) (x1 x2 x3 : Int32) : Prop := (rSheet x1 x2 x3 ≠ 1 ∧ Fr (fun q => q = 0) μ μ') ∨ ∃ j l L, j < 4 ∧ l < 3 ∧ L ≤ 60 ∧ x1 = nI j ∧ x2 = nI l ∧ x3 = nI L ∧ rSheet x1 x2 x3 = 1 ∧ Fr (fun q => q = 0 ∨ q = 1 ∨ q = 2 ∨ q = 3) μ μ' ∧ μ' 1 = upd (μ 1) j (nI l) ∧ μ' 2 = upd (μ 2) j (nI L) ∧ (∀ i, i < 60 → μ' 3 (60 * j + i) = 0) ∧ ∀ k, k < 4 → k ≠ j → ∀ i, i < 60 → μ' 3 (60 * k + i) = μ 3 (60 * k + i)
theorem qX_sheet {n m : Nat} {z1 z2 : Nat → Nat} {μ : Mem} {x1 x2 x3 : Int32} {post : Int32 → Mem → Prop} (h : IX n m z1 z2 μ) (k : ∀ μ', IX n m z1 z2 μ' → ShX μ μ' x1 x2 x3 → μ' 0 12 = μ 0 12 → (μ' 0 13 = if rSheet x1 x2 x3 = -14 then 4 else 0) → post (rSheet x1 x2 x3) μ') : T_X11_sheet x1 x2 x3 μ post := by
  have h1 : IX n m z1 z2 (mset μ 0 13 0) := IX_q h fre0
  have f1 : Fr (fun q => q = 0) μ (mset μ 0 13 0) := Fr_put _ _ rfl
  have t1 : (mset μ 0 13 0) 0 12 = μ 0 12 := by rw [m2, pk_un (by decide)]
  have t2 : (mset μ 0 13 0) 0 13 = 0 := by rw [m2, pk_us]
  unfold T_X11_sheet
  generalize mset μ 0 13 0 = μ1 at h1 f1 t1 t2 ⊢
  refine sX_isSheet (fun q => rb_f rfl ?_) (fun j hj e => rb_t n10 ?_)
  · have hc : x1 < 0 ∨ 4 ≤ x1 := ix_out (n := 4) (by omega) q
    have er : rSheet x1 x2 x3 = -1 := by unfold rSheet; rw [if_pos hc]
    rw [er] at k
    exact k μ1 h1 (Or.inl ⟨by rw [er]; decide, f1⟩) t1 (by rw [if_neg (by decide)]; exact t2)
  subst e
  have hc : ¬ (nI j < 0 ∨ 4 ≤ nI j) := ix_in (n := 4) (by omega) hj
  refine sX_isLane (fun q => br_t rfl ?_) (fun l hl e => br_f n10 ⟨fun q => ⟨fun q2 => ?_, fun q2 => ?_⟩, fun q => ?_⟩)
  · have hd : x2 < 0 ∨ 3 ≤ x2 ∨ 60 < x3 := (ix_out (n := 3) (by omega) q).elim Or.inl (fun t => Or.inr (Or.inl t))
    have er : rSheet (nI j) x2 x3 = -2 := by unfold rSheet; rw [if_neg hc, if_pos hd]
    rw [er] at k
    exact k μ1 h1 (Or.inl ⟨by rw [er]; decide, f1⟩) t1 (by rw [if_neg (by decide)]; exact t2)
  · subst e
    have q3 : ¬ (nI l < 0 ∨ 3 ≤ nI l ∨ 60 < x3) := fun t => t.elim (nI_pos (by omega)) (fun t => t.elim (nI_ge (b := 3) hl (by omega)) (fun t => Int32.not_lt.mpr q t))
    have q4 : ¬ x3 < 0 := Int32.not_lt.mpr q2
    have er : rSheet (nI j) (nI l) x3 = 1 := by unfold rSheet; rw [if_neg hc, if_neg q3, if_neg q4]
    rw [er] at k
    obtain ⟨L, hL, e3⟩ := rngI 0 60 (by omega) q4 (Int32.not_lt.mpr q) (by omega)
    rw [show 0 + L = L by omega] at e3
    subst e3
    refine sX_renew hj (by omega) (fun μ2 hf e3 e4 e5 => k μ2 (IX_sheet h1 (by omega) hf hj e4) (Or.inr ⟨j, l, L, hj, hl, by omega, rfl, rfl, rfl, er, Fr_tr (Fr_mono f1 (fun q hq => Or.inl hq)) (Fr_mono hf (fun q hq => Or.inr hq)), by rw [e3, f1 3 (by omega)], by rw [e4, f1 4 (by omega)], e5⟩) (by rw [hf 0 (by omega)]; exact t1) (by rw [if_neg (by decide), hf 0 (by omega)]; exact t2))
  · subst e
    have q3 : ¬ (nI l < 0 ∨ 3 ≤ nI l ∨ 60 < x3) := fun t => t.elim (nI_pos (by omega)) (fun t => t.elim (nI_ge (b := 3) hl (by omega)) (fun t => Int32.not_lt.mpr q t))
    have er : rSheet (nI j) (nI l) x3 = -14 := by unfold rSheet; rw [if_neg hc, if_neg q3, if_pos (Int32.not_le.mp q2)]
    rw [er] at k
    exact k _ (IX_q h1 fre0) (Or.inl ⟨by rw [er]; decide, Fr_p f1 rfl⟩) (by rw [m2, pk_un (by decide)]; exact t1) (by rw [if_pos rfl, m2, pk_us])
  · have er : rSheet (nI j) x2 x3 = -2 := by unfold rSheet; rw [if_neg hc, if_pos (Or.inr (Or.inr (Int32.not_le.mp q)))]
    rw [er] at k
    exact k μ1 h1 (Or.inl ⟨by rw [er]; decide, f1⟩) t1 (by rw [if_neg (by decide)]; exact t2)
theorem qM_sheet {n m : Nat} {μ : Mem} {x1 x2 x3 : Int32} {post : Int32 → Mem → Prop} (h : IM n m μ) (k : ∀ μ', IM n m μ' → ShM μ μ' x1 x2 x3 → μ' 0 1 = μ 0 1 → (μ' 0 0 = if rSheet x1 x2 x3 = -14 then 4 else 0) → post (rSheet x1 x2 x3) μ') : T_X12_sheet x1 x2 x3 μ post := by
  have h1 : IM n m (mset μ 0 0 0) := IM_0 h (by decide) (by decide)
  have f1 : Fr (fun q => q = 0) μ (mset μ 0 0 0) := Fr_put _ _ rfl
  have t1 : (mset μ 0 0 0) 0 1 = μ 0 1 := by rw [m2, pk_un (by decide)]
  have t2 : (mset μ 0 0 0) 0 0 = 0 := by rw [m2, pk_us]
  unfold T_X12_sheet
  generalize mset μ 0 0 0 = μ1 at h1 f1 t1 t2 ⊢
  refine sM_isSheet (fun q => rb_f rfl ?_) (fun j hj e => rb_t n10 ?_)
  · have hc : x1 < 0 ∨ 4 ≤ x1 := ix_out (n := 4) (by omega) q
    have er : rSheet x1 x2 x3 = -1 := by unfold rSheet; rw [if_pos hc]
    rw [er] at k
    exact k μ1 h1 (Or.inl ⟨by rw [er]; decide, f1⟩) t1 (by rw [if_neg (by decide)]; exact t2)
  subst e
  have hc : ¬ (nI j < 0 ∨ 4 ≤ nI j) := ix_in (n := 4) (by omega) hj
  refine sM_isLane (fun q => br_t rfl ?_) (fun l hl e => br_f n10 ⟨fun q => ⟨fun q2 => ?_, fun q2 => ?_⟩, fun q => ?_⟩)
  · have hd : x2 < 0 ∨ 3 ≤ x2 ∨ 60 < x3 := (ix_out (n := 3) (by omega) q).elim Or.inl (fun t => Or.inr (Or.inl t))
    have er : rSheet (nI j) x2 x3 = -2 := by unfold rSheet; rw [if_neg hc, if_pos hd]
    rw [er] at k
    exact k μ1 h1 (Or.inl ⟨by rw [er]; decide, f1⟩) t1 (by rw [if_neg (by decide)]; exact t2)
  · subst e
    have q3 : ¬ (nI l < 0 ∨ 3 ≤ nI l ∨ 60 < x3) := fun t => t.elim (nI_pos (by omega)) (fun t => t.elim (nI_ge (b := 3) hl (by omega)) (fun t => Int32.not_lt.mpr q t))
    have q4 : ¬ x3 < 0 := Int32.not_lt.mpr q2
    have er : rSheet (nI j) (nI l) x3 = 1 := by unfold rSheet; rw [if_neg hc, if_neg q3, if_neg q4]
    rw [er] at k
    obtain ⟨L, hL, e3⟩ := rngI 0 60 (by omega) q4 (Int32.not_lt.mpr q) (by omega)
    rw [show 0 + L = L by omega] at e3
    subst e3
    have i1 := in9 hj (show 4 < 1000000 by omega)
    refine ⟨i1, i1, ?_⟩
    rw [cl9 (show j < 1000000 by omega)]
    have h2 : IM n m (mset (mset μ1 1 j (nI l)) 2 j (nI L)) := by
      have hh := IM_free h1 (Fr_put μ1 (c := 1) (upd (μ1 1) j (nI l)) (show freM 1 by unfold freM; omega))
      obtain ⟨a1, a2, a3, a4, a5, a6, a7, a8, a9⟩ := hh
      have f : Fr (fun q => q = 2) (mset μ1 1 j (nI l)) (mset (mset μ1 1 j (nI l)) 2 j (nI L)) := Fr_put _ _ rfl
      refine ⟨WM_fr a1 f (by omega) (by omega) (by omega), ?_, UZ_fr a3 f (by omega) (by omega), fun i hi => ?_, ?_, ?_, a7, ?_, ?_⟩
      · rw [f 5 (by omega)]; exact a2
      · rw [m2]
        by_cases e : i = j
        · subst e; rw [pk_us]; exact ⟨L, by omega, rfl⟩
        · rw [pk_un e]; exact a4 i hi
      · rw [f 8 (by omega)]; exact a5
      · rw [f 10 (by omega)]; exact a6
      · rw [f 0 (by omega)]; exact a8
      · rw [f 12 (by omega)]; exact a9
    have e1 : (mset (mset μ1 1 j (nI l)) 2 j (nI L)) 1 = upd (μ 1) j (nI l) := by unfold mset; rw [mput_o (by decide), mput_same, f1 1 (by omega)]
    have e2 : (mset (mset μ1 1 j (nI l)) 2 j (nI L)) 2 = upd (μ 2) j (nI L) := by unfold mset; rw [mput_same, mput_o (by decide), f1 2 (by omega)]
    have e3 : (mset (mset μ1 1 j (nI l)) 2 j (nI L)) 3 = μ 3 := by unfold mset; rw [mput_o (by decide), mput_o (by decide), f1 3 (by omega)]
    have f2 : Fr (fun q => q = 0 ∨ q = 1 ∨ q = 2 ∨ q = 3) μ (mset (mset μ1 1 j (nI l)) 2 j (nI L)) := Fr_p (Fr_p (Fr_mono f1 (fun q hq => Or.inl hq)) (by omega)) (by omega)
    have e0 : (mset (mset μ1 1 j (nI l)) 2 j (nI L)) 0 = μ1 0 := by unfold mset; rw [mput_o (by decide), mput_o (by decide)]
    generalize mset (mset μ1 1 j (nI l)) 2 j (nI L) = μ2 at h2 e0 e1 e2 e3 f2 ⊢
    intro P hP
    have H : ∀ i, i ≤ 60 → ∀ μ3, IM n m μ3 → Fr (fun q => q = 3) μ2 μ3 → (∀ t, t < i → μ3 3 (60 * j + t) = 0) → (∀ k, k < 4 → k ≠ j → ∀ t, t < 60 → μ3 3 (60 * k + t) = μ 3 (60 * k + t)) → P (nI j) (nI i) μ3 := by
      refine down_ind (fun μ3 h3 g3 z3 o3 => hP _ _ _ (br_t (by decide) (k μ3 h3 (Or.inr ⟨j, l, L, hj, hl, by omega, rfl, rfl, rfl, er, Fr_tr f2 (Fr_mono g3 (fun q hq => by omega)), by rw [g3 1 (by omega)]; exact e1, by rw [g3 2 (by omega)]; exact e2, z3, o3⟩) (by rw [g3 0 (by omega), e0]; exact t1) (by rw [if_neg (by decide), g3 0 (by omega), e0]; exact t2)))) (fun i hi ih μ3 h3 g3 z3 o3 => hP _ _ _ (br_f (nI_ge (b := 60) hi (by decide)) ?_))
      rw [sixty_mul, nI_1, cl9 (show 60 * j + i < 1000000 by omega)]
      refine ⟨in9 (by omega) (by omega), ih _ (IM_free h3 (Fr_put _ _ (by unfold freM; omega))) (Fr_p g3 rfl) (fun t ht => ?_) (fun k hk hkj t ht => ?_)⟩
      · rw [m2]
        by_cases e : t = i
        · subst e; rw [pk_us]
        · rw [pk_un (by omega)]; exact z3 t (by omega)
      · rw [m2, pk_un (by omega)]; exact o3 k hk hkj t ht
    exact H 0 (Nat.zero_le _) μ2 h2 (Fr_rf _ _) (fun t ht => absurd ht (by omega)) (fun k hk hkj t ht => by rw [e3])
  · subst e
    have q3 : ¬ (nI l < 0 ∨ 3 ≤ nI l ∨ 60 < x3) := fun t => t.elim (nI_pos (by omega)) (fun t => t.elim (nI_ge (b := 3) hl (by omega)) (fun t => Int32.not_lt.mpr q t))
    have er : rSheet (nI j) (nI l) x3 = -14 := by unfold rSheet; rw [if_neg hc, if_neg q3, if_pos (Int32.not_le.mp q2)]
    rw [er] at k
    exact k _ (IM_0 h1 (by decide) (by decide)) (Or.inl ⟨by rw [er]; decide, Fr_p f1 rfl⟩) (by rw [m2, pk_un (by decide)]; exact t1) (by rw [if_pos rfl, m2, pk_us])
  · have er : rSheet (nI j) x2 x3 = -2 := by unfold rSheet; rw [if_neg hc, if_pos (Or.inr (Or.inr (Int32.not_le.mp q)))]
    rw [er] at k
    exact k μ1 h1 (Or.inl ⟨by rw [er]; decide, f1⟩) t1 (by rw [if_neg (by decide)]; exact t2)
theorem RS_sheet {μX μM μX' μM' : Mem} {x1 x2 x3 : Int32} (h : RS μX μM) (a : ShX μX μX' x1 x2 x3) (b : ShM μM μM' x1 x2 x3) : RS μX' μM' := by
  rcases a with ⟨ar, af⟩ | ⟨j, l, L, hj, hl, hL, e1, e2, e3, er, af, a3, a4, a5⟩
  · rcases b with ⟨br, bf⟩ | ⟨j, l, L, hj, hl, hL, e1, e2, e3, er, bf, b1, b2, b3, b4⟩
    · exact RS_fr h af bf (fun q h1 h2 => by omega) (fun q h1 h2 => by omega)
    · exact absurd er ar
  · rcases b with ⟨br, bf⟩ | ⟨j', l', L', hj', hl', hL', e1', e2', e3', er', bf, b1, b2, b3, b4⟩
    · exact absurd er br
    · have ej : j = j' := (nI_eq (by omega) (by omega)).mp (e1.symm.trans e1')
      have el : l = l' := (nI_eq (by omega) (by omega)).mp (e2.symm.trans e2')
      have eL : L = L' := (nI_eq (by omega) (by omega)).mp (e3.symm.trans e3')
      subst ej el eL
      intro k hk
      by_cases e : k = j
      · subst e
        exact Or.inr ⟨l, L, hl, hL, by rw [a3, pk_us], by rw [b1, pk_us], by rw [a4, pk_us], by rw [b2, pk_us], fun i hi => by rw [a5 i hi, b3 i (by omega)]⟩
      · exact RS1_of (h k hk) (by rw [a3, pk_un e]) (by rw [a4, pk_un e]) (af _ (by omega)) (by rw [b1, pk_un e]) (by rw [b2, pk_un e]) (fun i hi => b4 k hk e i hi)
/-! lose -/
theorem RS_lose {j : Nat} {μX μM : Mem} (h : RS μX μM) (hj : j < 4) : RS (mset (mset μX 3 j (-1)) 4 j 0) (mset μM 1 j (-9)) := by
  intro k hk
  have g3 : (mset (mset μX 3 j (-1)) 4 j 0) 3 = upd (μX 3) j (-1) := by unfold mset; rw [mput_o (by decide), mput_same]
  have g4 : (mset (mset μX 3 j (-1)) 4 j 0) 4 = upd (μX 4) j 0 := by unfold mset; rw [mput_same, mput_o (by decide)]
  by_cases e : k = j
  · subst e
    exact Or.inl ⟨by rw [g3, pk_us], by rw [m2, pk_us]⟩
  · exact RS1_of (h k hk) (by rw [g3, pk_un e]) (by rw [g4, pk_un e]) (by unfold mset; rw [mput_o (by omega), mput_o (by omega)]) (by rw [m2, pk_un e]) (by unfold mset; rw [mput_o (by decide)]) (fun i _ => by unfold mset; rw [mput_o (by decide)])
theorem tw_lose {n m n' m' : Nat} {z1 z2 : Nat → Nat} {μX μM : Mem} {x1 : Int32} {G : Prop → Prop} {Q : Int32 → Int32 → Mem → Mem → Prop} (hG : ∀ T, T → G T) (hX : IX n m z1 z2 μX) (hM : IM n' m' μM) (hR : RS μX μM) (k : ∀ r μ1 μ2, IX n m z1 z2 μ1 → IM n' m' μ2 → RS μ1 μ2 → μ1 0 = μX 0 → μ2 0 = μM 0 → Fr (fun q => q = 3 ∨ q = 4) μX μ1 → Fr (fun q => q = 1) μM μ2 → Q r r μ1 μ2) : T_X11_lose x1 μX (fun r μ1 => G (T_X12_lose x1 μM (fun r2 μ2 => Q r r2 μ1 μ2))) := by
  rcases in_or x1 4 (by omega) with ho | ⟨j, hj, rfl⟩
  · refine sX_isSheet (fun _ => rb_f rfl (hG _ ?_)) (fun j hj e => absurd e (ho j hj))
    exact sM_isSheet (fun _ => rb_f rfl (k _ _ _ hX hM hR rfl rfl (Fr_rf _ _) (Fr_rf _ _))) (fun j hj e => absurd e (ho j hj))
  · have h2 : IX n m z1 z2 (mset (mset μX 3 j (-1)) 4 j 0) := IX_sheet (L := 0) hX (by omega) (Fr_p (Fr_put _ _ (Or.inl rfl)) (Or.inr (Or.inl rfl))) hj (by rw [m2]; unfold mset; rw [mput_o (by decide)]; rfl)
    have e0 : (mset (mset μX 3 j (-1)) 4 j 0) 0 = μX 0 := by unfold mset; rw [mput_o (by decide), mput_o (by decide)]
    have i1 := in9 hj (show 4 < 1000000 by omega)
    refine sX_isSheet (fun q => absurd rfl (q j hj)) (fun _ _ _ => rb_t n10 (sX_drop hj ?_))
    have kk : ∀ r, Q r r (mset (mset μX 3 j (-1)) 4 j 0) (mset μM 1 j (-9)) := fun r => k r _ _ h2 (IM_1 hM) (RS_lose hR hj) e0 (mput_o (by decide)) (Fr_p (Fr_put _ _ (Or.inl rfl)) (Or.inr rfl)) (Fr_put _ _ rfl)
    rcases hR j hj with ⟨a, b⟩ | ⟨l, L, h1, h2', h3, h4, -⟩
    · rw [if_pos a]
      refine br_t rfl (hG _ (sM_isSheet (fun q => absurd rfl (q j hj)) (fun _ _ _ => rb_t n10 ⟨i1, ?_⟩)))
      unfold T_X12_lose_25
      rw [cl9 (show j < 1000000 by omega)]
      exact rb_f b ⟨i1, kk _⟩
    · rw [if_neg (by rw [h3]; exact nI_ne1 (by omega))]
      refine br_f n10 (hG _ (sM_isSheet (fun q => absurd rfl (q j hj)) (fun _ _ _ => rb_t n10 ⟨i1, ?_⟩)))
      unfold T_X12_lose_25
      rw [cl9 (show j < 1000000 by omega)]
      exact rb_t (by rw [h4]; exact nI_ne9 (by omega)) ⟨i1, kk _⟩
/-! put -/
theorem RS_put {j i l L : Nat} {v : Int32} {μX μM : Mem} (h : RS μX μM) (hj : j < 4) (hi : i < L) (hL : L ≤ 60) : RS (mset μX (5 + j) i v) (mset μM 3 (60 * j + i) v) := by
  intro k hk
  have gX : ∀ q, q ≠ 5 + j → (mset μX (5 + j) i v) q = μX q := fun q hq => mput_o (fun e => hq e.symm)
  have gM : ∀ q, q ≠ 3 → (mset μM 3 (60 * j + i) v) q = μM q := fun q hq => mput_o (fun e => hq e.symm)
  by_cases e : k = j
  · subst e
    rcases h k hk with ⟨a, b⟩ | ⟨l, L', h1, h2, h3, h4, h5, h6, h7⟩
    · exact Or.inl ⟨by rw [gX 3 (by omega)]; exact a, by rw [gM 1 (by omega)]; exact b⟩
    · refine Or.inr ⟨l, L', h1, h2, by rw [gX 3 (by omega)]; exact h3, by rw [gM 1 (by omega)]; exact h4, by rw [gX 4 (by omega)]; exact h5, by rw [gM 2 (by omega)]; exact h6, fun t ht => ?_⟩
      rw [m2, m2]
      by_cases e2 : t = i
      · subst e2; rw [pk_us, pk_us]
      · rw [pk_un e2, pk_un (by omega)]; exact h7 t ht
  · refine RS1_of (h k hk) (by rw [gX 3 (by omega)]) (by rw [gX 4 (by omega)]) (gX _ (by omega)) (by rw [gM 1 (by omega)]) (by rw [gM 2 (by omega)]) (fun t ht => ?_)
    rw [m2, pk_un (by omega)]
theorem RS_00 {μX μM : Mem} {f g : Nat → Int32} (h : RS μX μM) : RS (mput μX 0 f) (mput μM 0 g) := RS_fr h (Fr_put (S := fun q => q = 0) _ _ rfl) (Fr_put (S := fun q => q = 0) _ _ rfl) (fun q h1 h2 => by omega) (fun q h1 h2 => by omega)
/-- fault and trace of both sides -/
def RF (μX μM : Mem) : Prop := μX 0 13 = μM 0 0
def RT (μX μM : Mem) : Prop := μX 0 12 = μM 0 1
theorem tw_put {n m n' m' : Nat} {z1 z2 : Nat → Nat} {μX μM : Mem} {x1 x2 x3 : Int32} {G : Prop → Prop} {Q : Int32 → Int32 → Mem → Mem → Prop} (hG : ∀ T, T → G T) (hX : IX n m z1 z2 μX) (hM : IM n' m' μM) (hR : RS μX μM) (k : ∀ r μ1 μ2, IX n m z1 z2 μ1 → IM n' m' μ2 → RS μ1 μ2 → RF μ1 μ2 → μ1 0 12 = μX 0 12 → μ2 0 1 = μM 0 1 → Fr (fun q => q = 0 ∨ (5 ≤ q ∧ q ≤ 8)) μX μ1 → Fr (fun q => q = 0 ∨ q = 3) μM μ2 → Q r r μ1 μ2) : T_X11_put x1 x2 x3 μX (fun r μ1 => G (T_X12_put x1 x2 x3 μM (fun r2 μ2 => Q r r2 μ1 μ2))) := by
  have hX1 : IX n m z1 z2 (mset μX 0 13 0) := IX_q hX fre0
  have hM1 : IM n' m' (mset μM 0 0 0) := IM_0 hM (by decide) (by decide)
  have hR1 : RS (mset μX 0 13 0) (mset μM 0 0 0) := RS_00 hR
  have tX : (mset μX 0 13 0) 0 12 = μX 0 12 := by rw [m2, pk_un (by decide)]
  have tM : (mset μM 0 0 0) 0 1 = μM 0 1 := by rw [m2, pk_un (by decide)]
  have fX : (mset μX 0 13 0) 0 13 = 0 := by rw [m2, pk_us]
  have fM : (mset μM 0 0 0) 0 0 = 0 := by rw [m2, pk_us]
  have gX : Fr (fun q => q = 0 ∨ (5 ≤ q ∧ q ≤ 8)) μX (mset μX 0 13 0) := Fr_put _ _ (Or.inl rfl)
  have gM : Fr (fun q => q = 0 ∨ q = 3) μM (mset μM 0 0 0) := Fr_put _ _ (Or.inl rfl)
  unfold T_X11_put T_X12_put
  generalize mset μX 0 13 0 = μX1 at hX1 hR1 tX fX gX ⊢
  generalize mset μM 0 0 0 = μM1 at hM1 hR1 tM fM gM ⊢
  rcases in_or x1 4 (by omega) with ho | ⟨j, hj, rfl⟩
  · refine sX_isSheet (fun _ => rb_f rfl (hG _ ?_)) (fun j hj e => absurd e (ho j hj))
    exact sM_isSheet (fun _ => rb_f rfl (k _ _ _ hX1 hM1 hR1 (fX.trans fM.symm) tX tM gX gM)) (fun j hj e => absurd e (ho j hj))
  · have i1 := in9 hj (show 4 < 1000000 by omega)
    refine sX_isSheet (fun q => absurd rfl (q j hj)) (fun _ _ _ => rb_t n10 ⟨i1, sX_cellFault hj ?_⟩)
    have kf : ∀ c : Int32, Q ((-10) - c) ((-10) - c) (mset μX1 0 13 c) (mset μM1 0 0 c) := fun c => k _ _ _ (IX_q hX1 fre0) (IM_0 hM1 (by decide) (by decide)) (RS_00 hR1) (by unfold RF; rw [m2, m2, pk_us, pk_us]) (by rw [m2, pk_un (by decide)]; exact tX) (by rw [m2, pk_un (by decide)]; exact tM) (Fr_p gX (Or.inl rfl)) (Fr_p gM (Or.inl rfl))
    rw [cl9 (show j < 1000000 by omega)]
    rcases hR1 j hj with ⟨a, b⟩ | ⟨l, L, h1, h2, h3, h4, h5, h6, h7⟩
    · rw [a, rf_1, cf_1]
      refine br_f n10 (hG _ (sM_isSheet (fun q => absurd rfl (q j hj)) (fun _ _ _ => rb_t n10 ⟨i1, ?_⟩)))
      exact rb_f b (kf 1)
    · rw [h3, rf_s h1, h5]
      rcases in_or x2 L (by omega) with hi | ⟨i, hi, rfl⟩
      · rw [cf_out h2 hi]
        refine br_f (by decide) (hG _ (sM_isSheet (fun q => absurd rfl (q j hj)) (fun _ _ _ => rb_t n10 ⟨i1, ?_⟩)))
        rw [h6]
        exact rb_t (by rw [h4]; exact nI_ne9 (by omega)) ⟨i1, sM_isInL h2 (fun _ => rb_f rfl (kf 3)) (fun i2 hi2 e => absurd e (hi i2 hi2))⟩
      · rw [cf_in h2 hi]
        refine br_t rfl (sX_write hj (by omega) (hG _ (sM_isSheet (fun q => absurd rfl (q j hj)) (fun _ _ _ => rb_t n10 ⟨i1, ?_⟩))))
        have kw : ∀ v, v = cutv (μX1 3 j) x3 → Q 1 1 (mset μX1 (5 + j) i (cutv (μX1 3 j) x3)) (mset μM1 3 (60 * j + i) v) := fun v hv => by
          subst hv
          refine k _ _ _ (IX_q hX1 (by unfold fre; omega)) (IM_3 hM1) (RS_put (l := l) hR1 hj hi h2) ?_ ?_ ?_ (Fr_p gX (by omega)) (Fr_p gM (by omega))
          · unfold RF mset
            rw [mput_o (by omega), mput_o (by decide)]
            exact fX.trans fM.symm
          · unfold mset; rw [mput_o (by omega)]; exact tX
          · unfold mset; rw [mput_o (by decide)]; exact tM
        rw [h6, h4]
        refine rb_t (nI_ne9 (by omega)) ⟨i1, sM_isInL h2 (fun q => absurd rfl (q i hi)) (fun i2 hi2 e => rb_t n10 ⟨i1, ?_⟩)⟩
        unfold T_X12_put_93
        rw [sixty_mul, cl9 (show 60 * j + i < 1000000 by omega)]
        have i2' := in9 (show 60 * j + i < 240 by omega) (by omega)
        rw [h3] at kw
        refine ⟨fun q => ⟨i1, fun q2 => ⟨i2', ?_⟩, fun q2 => ⟨i2', ?_⟩⟩, fun q => ⟨i2', ?_⟩⟩
        · rw [h4] at q q2; have := kw x3 (by unfold cutv; rw [if_neg q, if_neg q2]); rw [h3]; exact this
        · rw [h4] at q q2; have := kw x3.toInt16.toInt32 (by unfold cutv; rw [if_neg q, if_pos q2]); rw [h3]; exact this
        · rw [h4] at q; have := kw x3.toInt8.toInt32 (by unfold cutv; rw [if_pos q]); rw [h3]; exact this
/-! cell -/
theorem tw_cell {n m n' m' : Nat} {z1 z2 : Nat → Nat} {μX μM : Mem} {x1 x2 x3 : Int32} {G : Prop → Prop} {Q : Int64 → Int64 → Mem → Mem → Prop} (hG : ∀ T, T → G T) (hX : IX n m z1 z2 μX) (hM : IM n' m' μM) (hR : RS μX μM) (k : ∀ r μ1 μ2, IX n m z1 z2 μ1 → IM n' m' μ2 → RS μ1 μ2 → RF μ1 μ2 → μ1 0 12 = μX 0 12 → μ2 0 1 = μM 0 1 → Fr (fun q => q = 0) μX μ1 → Fr (fun q => q = 0) μM μ2 → Q r r μ1 μ2) : T_X11_cell x1 x2 x3 μX (fun r μ1 => G (T_X12_cell x1 x2 x3 μM (fun r2 μ2 => Q r r2 μ1 μ2))) := by
  have hX1 : IX n m z1 z2 (mset μX 0 13 0) := IX_q hX fre0
  have hM1 : IM n' m' (mset μM 0 0 0) := IM_0 hM (by decide) (by decide)
  have hR1 : RS (mset μX 0 13 0) (mset μM 0 0 0) := RS_00 hR
  have tX : (mset μX 0 13 0) 0 12 = μX 0 12 := by rw [m2, pk_un (by decide)]
  have tM : (mset μM 0 0 0) 0 1 = μM 0 1 := by rw [m2, pk_un (by decide)]
  have fX : (mset μX 0 13 0) 0 13 = 0 := by rw [m2, pk_us]
  have fM : (mset μM 0 0 0) 0 0 = 0 := by rw [m2, pk_us]
  have gX : Fr (fun q => q = 0) μX (mset μX 0 13 0) := Fr_put _ _ rfl
  have gM : Fr (fun q => q = 0) μM (mset μM 0 0 0) := Fr_put _ _ rfl
  unfold T_X11_cell T_X12_cell
  generalize mset μX 0 13 0 = μX1 at hX1 hR1 tX fX gX ⊢
  generalize mset μM 0 0 0 = μM1 at hM1 hR1 tM fM gM ⊢
  have k0 : ∀ r, Q r r μX1 μM1 := fun r => k r _ _ hX1 hM1 hR1 (fX.trans fM.symm) tX tM gX gM
  rcases in_or x1 4 (by omega) with ho | ⟨j, hj, rfl⟩
  · refine sX_isSheet (fun _ => br_t rfl (hG _ ?_)) (fun j hj e => absurd e (ho j hj))
    exact sM_isSheet (fun _ => br_t rfl (k0 _)) (fun j hj e => absurd e (ho j hj))
  · have i1 := in9 hj (show 4 < 1000000 by omega)
    refine sX_isSheet (fun q => absurd rfl (q j hj)) (fun _ _ _ => br_f n10 ?_)
    rcases in_or x3 3 (by omega) with ho | ⟨y, hy, rfl⟩
    · refine sX_isLane (fun _ => rb_f rfl (hG _ ?_)) (fun j hj e => absurd e (ho j hj))
      exact sM_isSheet (fun q => absurd rfl (q j hj)) (fun _ _ _ => br_f n10 (sM_isLane (fun _ => rb_f rfl (k0 _)) (fun j hj e => absurd e (ho j hj))))
    · refine sX_isLane (fun q => absurd rfl (q y hy)) (fun _ _ _ => rb_t n10 (sX_cellFault hj ?_))
      have kf : ∀ c : Int32, Q (-9223372036854775808) (-9223372036854775808) (mset μX1 0 13 c) (mset μM1 0 0 c) := fun c => k _ _ _ (IX_q hX1 fre0) (IM_0 hM1 (by decide) (by decide)) (RS_00 hR1) (by unfold RF; rw [m2, m2, pk_us, pk_us]) (by rw [m2, pk_un (by decide)]; exact tX) (by rw [m2, pk_un (by decide)]; exact tM) (Fr_p gX rfl) (Fr_p gM rfl)
      have go : ∀ T, T → G (T_X12_isSheet (nI j) μM1 (fun (u1 : Int32) (μ2 : Mem) => ((u1 = 0 → T_X12_cell_19 (fun r2 μ2 => Q r2 r2 μX1 μ2) μ2) ∧ (¬ u1 = 0 → T)))) := fun T hT => hG _ (sM_isSheet (fun q => absurd rfl (q j hj)) (fun _ _ _ => br_f n10 hT))
      rw [m2, pk_us]
      rcases hR1 j hj with ⟨a, b⟩ | ⟨l, L, h1, h2, h3, h4, h5, h6, h7⟩
      · rw [a, rf_1, cf_1]
        refine br_f n10 (hG _ (sM_isSheet (fun q => absurd rfl (q j hj)) (fun _ _ _ => br_f n10 (sM_isLane (fun q => absurd rfl (q y hy)) (fun _ _ _ => rb_t n10 ⟨i1, ?_⟩)))))
        unfold T_X12_cell_50
        rw [cl9 (show j < 1000000 by omega)]
        exact br_t b ⟨i1, rb_f b (kf 1)⟩
      · by_cases hly : nI l = nI y
        · have h50 : ∀ Tp : Prop, Tp → (vp_in (nI j) 4 ∧ (((μM1 1 j) = (-9) → False) ∧ True) → True) := fun _ _ _ => trivial
          rw [h3, hly, rf_s hy, h5]
          rcases in_or x2 L (by omega) with hi | ⟨i, hi, rfl⟩
          · rw [cf_out h2 hi]
            refine br_f (by decide) (hG _ (sM_isSheet (fun q => absurd rfl (q j hj)) (fun _ _ _ => br_f n10 (sM_isLane (fun q => absurd rfl (q y hy)) (fun _ _ _ => rb_t n10 ⟨i1, ?_⟩)))))
            unfold T_X12_cell_50
            rw [cl9 (show j < 1000000 by omega), h4, h6]
            exact br_f (nI_ne9 (by omega)) ⟨i1, br_t hly ⟨i1, rb_t (nI_ne9 (by omega)) ⟨i1, sM_isInL h2 (fun _ => rb_f rfl (kf 3)) (fun i2 hi2 e => absurd e (hi i2 hi2))⟩⟩⟩
          · rw [cf_in h2 hi]
            refine br_t rfl ⟨i1, in9 (by omega) (by omega), hG _ (sM_isSheet (fun q => absurd rfl (q j hj)) (fun _ _ _ => br_f n10 (sM_isLane (fun q => absurd rfl (q y hy)) (fun _ _ _ => rb_t n10 ⟨i1, ?_⟩))))⟩
            unfold T_X12_cell_50
            rw [cl9 (show j < 1000000 by omega), cl9 (show i < 1000000 by omega), h4, h6]
            refine br_f (nI_ne9 (by omega)) ⟨i1, br_t hly ⟨i1, rb_t (nI_ne9 (by omega)) ⟨i1, sM_isInL h2 (fun q => absurd rfl (q i hi)) (fun i2 hi2 e => rb_t n10 ?_)⟩⟩⟩
            rw [sixty_mul, cl9 (show 60 * j + i < 1000000 by omega)]
            refine ⟨in9 (by omega) (by omega), ?_⟩
            have e5 : (mset μX1 0 13 0) (5 + j) i = μM1 3 (60 * j + i) := by unfold mset; rw [mput_o (by omega)]; exact h7 i hi
            rw [e5]
            refine k _ _ _ (IX_q hX1 fre0) hM1 ?_ ?_ ?_ tM (Fr_p gX rfl) gM
            · exact RS_fr hR1 (Fr_put (S := fun q => q = 0) _ _ rfl) (Fr_rf (fun q => q = 0) _) (fun q h1 h2 => by omega) (fun q h1 h2 => by omega)
            · unfold RF; rw [m2, pk_us]; exact fM.symm
            · rw [m2, pk_un (by decide)]; exact tX
        · rw [h3, rf_d h1 hly, cf_2]
          refine br_f (by decide) (hG _ (sM_isSheet (fun q => absurd rfl (q j hj)) (fun _ _ _ => br_f n10 (sM_isLane (fun q => absurd rfl (q y hy)) (fun _ _ _ => rb_t n10 ⟨i1, ?_⟩)))))
          rw [cl9 (show j < 1000000 by omega), h4]
          exact br_f (nI_ne9 (by omega)) ⟨i1, br_f hly (kf 2)⟩
