/-! best: the class's table of longs, the walk; both sides alike -/
def EQlx (c a : Nat) (z : Nat → Nat) (bar : Nat) (μ0 : Mem) (L : Nat → Nat) (t : Nat) : Prop := L t ≤ 1000000 ∧ (t = 2 ^ a - 1 → L t = 0) ∧ (t ≠ 2 ^ a - 1 → (∀ i, i < a → mcX c μ0 t i → wdX c a z μ0 t i ≤ bar → L t ≤ wdX c a z μ0 t i + L (t ||| 2 ^ i)) ∧ (L t = 1000000 ∨ ∃ i, i < a ∧ mcX c μ0 t i ∧ wdX c a z μ0 t i ≤ bar ∧ L t = wdX c a z μ0 t i + L (t ||| 2 ^ i)))
theorem EQx_of {c a lim t : Nat} {z T : Nat → Nat} {μ μ' : Mem} (e2 : μ' (c + 2) = μ (c + 2)) (e3 : μ' (c + 3) = μ (c + 3)) (h : EQx c a z lim μ T t) : EQx c a z lim μ' T t := by
  unfold EQx mcX wdX
  rw [e2, e3]
  exact h
theorem EQlx_of {c a bar t : Nat} {z T : Nat → Nat} {μ μ' : Mem} (e2 : μ' (c + 2) = μ (c + 2)) (e3 : μ' (c + 3) = μ (c + 3)) (h : EQlx c a z bar μ T t) : EQlx c a z bar μ' T t := by
  unfold EQlx mcX wdX
  rw [e2, e3]
  exact h
theorem EQlx_cong {c a bar t : Nat} {z : Nat → Nat} {μ0 : Mem} {T T' : Nat → Nat} (e : ∀ s, t ≤ s → T' s = T s) (h : EQlx c a z bar μ0 T t) : EQlx c a z bar μ0 T' t := by
  unfold EQlx
  rw [e t (Nat.le_refl _)]
  obtain ⟨h1, h2, h3⟩ := h
  refine ⟨h1, h2, fun q => ?_⟩
  obtain ⟨h4, h5⟩ := h3 q
  have ee : ∀ i, T' (t ||| 2 ^ i) = T (t ||| 2 ^ i) := fun i => e _ Nat.left_le_or
  refine ⟨fun i hi m hb0 => by rw [ee i]; exact h4 i hi m hb0, ?_⟩
  rcases h5 with h5 | ⟨i, hi, m, hb0, h5⟩
  · exact Or.inl h5
  · exact Or.inr ⟨i, hi, m, hb0, by rw [ee i]; exact h5⟩
theorem eX_leastLong {c a t bar : Nat} {z : Nat → Nat} {μ : Mem} {post : Int32 → Mem → Prop} (hs : SRa c a μ) (hz : ScR 16 z μ) (ht : t < 2 ^ a) (hbar : bar ≤ 1000000) (h8 : μ c 8 = nI bar) (hL : ∀ i, i < a → hb (nI t) i = false → μ (c + 5) (t ||| 2 ^ i) = nI (LT (c + 5) μ (t ||| 2 ^ i)) ∧ LT (c + 5) μ (t ||| 2 ^ i) ≤ 1000000) (k : ∀ v, v ≤ 1000000 → (∀ i, i < a → mcX c μ t i → wdX c a z μ t i ≤ bar → v ≤ wdX c a z μ t i + LT (c + 5) μ (t ||| 2 ^ i)) → (v = 1000000 ∨ ∃ i, i < a ∧ mcX c μ t i ∧ wdX c a z μ t i ≤ bar ∧ v = wdX c a z μ t i + LT (c + 5) μ (t ||| 2 ^ i)) → post (nI v) μ) : T_X6_leastLong c (nI t) μ post := by
  have h9 := hs.1
  have hp := pow9 h9
  intro P hP
  have H : ∀ j, j ≤ a → ∀ v, v ≤ 1000000 → (∀ i, i < j → mcX c μ t i → wdX c a z μ t i ≤ bar → v ≤ wdX c a z μ t i + LT (c + 5) μ (t ||| 2 ^ i)) → (v = 1000000 ∨ ∃ i, i < j ∧ mcX c μ t i ∧ wdX c a z μ t i ≤ bar ∧ v = wdX c a z μ t i + LT (c + 5) μ (t ||| 2 ^ i)) → P (nI t) (nI v) (nI j) μ := by
    refine down_ind (fun v hv h4 h5 => hP _ _ _ _ (br_t (by rw [hs.2.1]; exact nI_self_le a) (k v hv h4 h5))) (fun j hj ih v hv h4 h5 => hP _ _ _ _ (br_f (by rw [hs.2.1]; exact nI_ge hj (by omega)) ?_))
    obtain ⟨e1, e2⟩ := set_or (show t < 512 by omega) (show j < 9 by omega)
    have keep : (mcX c μ t j → wdX c a z μ t j ≤ bar → v ≤ wdX c a z μ t j + LT (c + 5) μ (t ||| 2 ^ j)) → P (nI t) (nI v) (nI (j + 1)) μ := fun hh => by
      refine ih v hv (fun i hi m hb0 => ?_) ?_
      · by_cases e : i = j
        · subst e; exact hh m hb0
        · exact h4 i (by omega) m hb0
      · rcases h5 with h5 | ⟨i, hi, h5⟩
        · exact Or.inl h5
        · exact Or.inr ⟨i, by omega, h5⟩
    rw [nI_1, e1, cl9 (show t ||| 2 ^ j < 1000000 by omega)]
    refine eX_mayCome (by omega) (fun m => br_t rfl (keep (fun m' => absurd m' m))) (fun m => br_f n10 ⟨in9 e2 (by omega), ?_⟩)
    obtain ⟨g1, g2⟩ := hL j hj m.1
    have hw9 : wdX c a z μ t j ≤ 990 := sum10_le hz.1 _
    rw [g1]
    refine pk_le v (LT (c + 5) μ (t ||| 2 ^ j)) (fun tt => keep (fun _ _ => by omega)) (fun tt => eX_wide h9 (by omega) (by omega) hs.2.2 hz ?_)
    rw [h8, g1, nI_add]
    refine pk_lt bar (wdX c a z μ t j) (fun q => keep (fun _ hb0 => by omega)) (fun q => ⟨in9 e2 (by omega), ?_⟩)
    rcases Nat.lt_or_ge (wdX c a z μ t j + LT (c + 5) μ (t ||| 2 ^ j)) v with t2 | t2
    · rw [if_pos (nI_lt t2 (by omega))]
      refine ih _ (by omega) (fun i hi mi hb0 => ?_) (Or.inr ⟨j, by omega, m, q, rfl⟩)
      by_cases e : i = j
      · subst e; exact Nat.le_refl _
      · have := h4 i (by omega) mi hb0; omega
    · rw [if_neg (nI_nlt t2 (by omega))]
      exact keep (fun _ _ => t2)
  exact H 0 (Nat.zero_le _) 1000000 (Nat.le_refl _) (fun i hi => absurd hi (by omega)) (Or.inl rfl)
def LGs (c a : Nat) (z : Nat → Nat) (bar : Nat) (μ : Mem) : Prop := ∀ t, t < 2 ^ a → μ (c + 5) t = nI (LT (c + 5) μ t) ∧ EQlx c a z bar μ (LT (c + 5) μ) t
theorem eX_fillLongs {c a bar : Nat} {z : Nat → Nat} {μ : Mem} {post : Mem → Prop} (hc : isSearch c) (hs : SRa c a μ) (hz : ScR 16 z μ) (hbar : bar ≤ 1000000) (hC : μ c 8 = nI bar → LGs c a z bar μ) (k : ∀ μ', Fr (fun q => q = c ∨ q = c + 5) μ μ' → (∀ s, s ≠ 8 → μ' c s = μ c s) → μ' c 8 = nI bar → LGs c a z bar μ' → post μ') : T_X6_fillLongs c (nI bar) μ post := by
  have hc' : c = 35 ∨ c = 41 := hc
  have h9 := hs.1
  have hp := pow9 h9
  have hp1 : 1 ≤ 2 ^ a := Nat.one_le_two_pow
  refine ⟨fun q => ?_, fun q => k μ (Fr_rf _ _) (fun _ _ => rfl) q (hC q)⟩
  have e7 : (mset μ c 8 (nI bar)) c 7 = nI (2 ^ a - 1) := by rw [m2, pk_un (by decide)]; exact hs.2.2
  have hf1 : Fr (fun q => q = c ∨ q = c + 5) μ (mset μ c 8 (nI bar)) := Fr_put _ _ (Or.inl rfl)
  have hs1 : SRa c a (mset μ c 8 (nI bar)) := ⟨h9, by rw [m2, pk_un (by decide)]; exact hs.2.1, e7⟩
  have h81 : (mset μ c 8 (nI bar)) c 8 = nI bar := by rw [m2, pk_us]
  have hk1 : ∀ s, s ≠ 8 → (mset μ c 8 (nI bar)) c s = μ c s := fun s hs => by rw [m2, pk_un hs]
  have hz1 : ScR 16 z (mset μ c 8 (nI bar)) := ScR_fr hz hf1 (by omega) (by omega)
  generalize mset μ c 8 (nI bar) = μ1 at e7 hf1 hs1 h81 hk1 hz1 ⊢
  rw [e7, cl9 (show 2 ^ a - 1 < 1000000 by omega)]
  have e7' : (mset μ1 (c + 5) (2 ^ a - 1) 0) c 7 = nI (2 ^ a - 1) := by unfold mset; rw [mput_o (by omega)]; exact e7
  rw [e7']
  refine ⟨in9 (by omega) (by omega), fun P hP => ?_⟩
  have H : ∀ d, d ≤ 2 ^ a - 1 → ∀ μ2, Fr (fun q => q = c + 5) μ1 μ2 → (∀ t, d ≤ t → t < 2 ^ a → μ2 (c + 5) t = nI (LT (c + 5) μ2 t) ∧ EQlx c a z bar μ1 (LT (c + 5) μ2) t) → P (nI d - 1) μ2 := by
    intro d
    induction d with
    | zero =>
      intro _ μ2 hf h2
      refine hP _ _ (br_t (by decide) (k μ2 (Fr_tr hf1 (Fr_mono hf (fun q hq => Or.inr hq))) (fun s hs => by rw [hf c (by omega)]; exact hk1 s hs) (by rw [hf c (by omega)]; exact h81) (fun t ht => ?_)))
      obtain ⟨g1, g2⟩ := h2 t (Nat.zero_le _) ht
      exact ⟨g1, EQlx_of (hf (c + 2) (by omega)) (hf (c + 3) (by omega)) g2⟩
    | succ d ih =>
      intro hd μ2 hf h2
      rw [nI_pred]
      have emc : ∀ i, mcX c μ2 d i ↔ mcX c μ1 d i := fun i => by unfold mcX; rw [hf (c + 2) (by omega)]
      have ewd : ∀ i, wdX c a z μ2 d i = wdX c a z μ1 d i := fun i => by unfold wdX; rw [hf (c + 3) (by omega)]
      refine hP _ _ (br_f (nI_pos (by omega)) (eX_leastLong (a := a) (z := z) (bar := bar) (SRa_of hs1 (hf c (by omega))) (ScR_fr hz1 hf (by omega) (by omega)) (by omega) hbar (by rw [hf c (by omega)]; exact h81) (fun i hi hb0 => ?_) (fun v hv h4 h5 => ⟨in9 (by omega) (by omega), ?_⟩)))
      · have hbt0 : d.testBit i = false := by rw [← hb_nI (by omega)]; exact hb0
        have hgt := or_gt hbt0
        have hlt : d ||| 2 ^ i < 2 ^ a := Nat.or_lt_two_pow (by omega) (Nat.pow_lt_pow_right (by decide) hi)
        exact ⟨(h2 _ (by omega) hlt).1, (h2 _ (by omega) hlt).2.1⟩
      · rw [sub_m1, cl9 (show d < 1000000 by omega)]
        have eT : ∀ s, s ≠ d → LT (c + 5) (mset μ2 (c + 5) d (nI v)) s = LT (c + 5) μ2 s := fun s hs => by unfold LT; rw [m2, pk_un hs]
        have eTd : LT (c + 5) (mset μ2 (c + 5) d (nI v)) d = v := by unfold LT; rw [m2, pk_us]; exact nI_clamp (by omega)
        refine ih (by omega) _ (Fr_p hf rfl) (fun t ht1 ht2 => ?_)
        by_cases e : t = d
        · subst e
          refine ⟨by rw [eTd, m2, pk_us], ?_⟩
          have eor : ∀ i, mcX c μ1 t i → LT (c + 5) (mset μ2 (c + 5) t (nI v)) (t ||| 2 ^ i) = LT (c + 5) μ2 (t ||| 2 ^ i) := fun i m => eT _ (fun e => by
            have hbt0 : t.testBit i = false := by rw [← hb_nI (by omega)]; exact m.1
            have := or_gt hbt0
            omega)
          unfold EQlx
          rw [eTd]
          refine ⟨hv, fun e => by omega, fun _ => ⟨fun i hi m hb0 => by rw [eor i m, ← ewd i]; exact h4 i hi ((emc i).mpr m) (by rw [ewd i]; exact hb0), ?_⟩⟩
          rcases h5 with h5 | ⟨i, hi, m, hb0, h5⟩
          · exact Or.inl h5
          · rw [ewd i] at hb0 h5
            have m1 := (emc i).mp m
            exact Or.inr ⟨i, hi, m1, hb0, by rw [eor i m1]; exact h5⟩
        · obtain ⟨g1, g2⟩ := h2 t (by omega) ht2
          refine ⟨by rw [eT t e, m2, pk_un e]; exact g1, EQlx_cong (fun s hs => eT s (by omega)) g2⟩
  refine H _ (Nat.le_refl _) _ (Fr_p (Fr_rf _ _) rfl) (fun t ht1 ht2 => ?_)
  have et : t = 2 ^ a - 1 := by omega
  subst et
  have eT : LT (c + 5) (mset μ1 (c + 5) (2 ^ a - 1) 0) (2 ^ a - 1) = 0 := by unfold LT; rw [m2, pk_us]; decide
  refine ⟨by rw [eT, m2, pk_us]; rfl, ?_⟩
  unfold EQlx
  rw [eT]
  exact ⟨Nat.zero_le _, fun _ => rfl, fun q => absurd rfl q⟩
def nxX (c a : Nat) (z : Nat → Nat) (bar : Nat) (μ : Mem) (t w : Nat) : Prop := mcX c μ t w ∧ wdX c a z μ t w ≤ bar ∧ wdX c a z μ t w + LT (c + 5) μ (t ||| 2 ^ w) = LT (c + 5) μ t
theorem eX_nextBehind {c a t bar : Nat} {z : Nat → Nat} {μ : Mem} {post : Int32 → Mem → Prop} (hs : SRa c a μ) (hz : ScR 16 z μ) (ht : t < 2 ^ a) (hbar : bar ≤ 1000000) (h8 : μ c 8 = nI bar) (hL : ∀ s, s < 2 ^ a → μ (c + 5) s = nI (LT (c + 5) μ s) ∧ LT (c + 5) μ s ≤ 1000000) (k9 : (∀ w, w < a → ¬ nxX c a z bar μ t w) → post (-9) μ) (k : ∀ w, w < a → nxX c a z bar μ t w → (∀ v, v < w → ¬ nxX c a z bar μ t v) → post (nI w) μ) : T_X6_nextBehind c (nI t) μ post := by
  have h9 := hs.1
  have hp := pow9 h9
  intro P hP
  have H : ∀ w, w ≤ a → (∀ v, v < w → ¬ nxX c a z bar μ t v) → P (nI t) (nI w) μ := by
    refine down_ind (fun hno => hP _ _ _ (br_t (by rw [hs.2.1]; exact nI_self_le a) (k9 hno))) (fun w hw ih hno => hP _ _ _ (br_f (by rw [hs.2.1]; exact nI_ge hw (by omega)) ?_))
    have go : ¬ nxX c a z bar μ t w → P (nI t) (nI w + 1) μ := fun q => by
      rw [nI_1]
      refine ih (fun v hv => ?_)
      by_cases e : v = w
      · subst e; exact q
      · exact hno v (by omega)
    refine eX_mayCome (by omega) (fun m => br_t rfl (go (fun q => m q.1))) (fun m => br_f n10 (eX_wide h9 (by omega) (by omega) hs.2.2 hz ?_))
    obtain ⟨eo, ho⟩ := set_or (show t < 512 by omega) (show w < 9 by omega)
    have hlt : t ||| 2 ^ w < 2 ^ a := Nat.or_lt_two_pow ht (Nat.pow_lt_pow_right (by decide) hw)
    obtain ⟨g1, g2⟩ := hL _ hlt
    obtain ⟨g3, g4⟩ := hL t ht
    have hw9 : wdX c a z μ t w ≤ 990 := sum10_le hz.1 _
    rw [h8, eo, cl9 (show t ||| 2 ^ w < 1000000 by omega), cl9 (show t < 1000000 by omega), g1, g3, nI_add]
    refine pk_lt bar (wdX c a z μ t w) (fun q => go (fun x => by have := x.2.1; omega)) (fun q => ⟨in9 ho (by omega), in9 (by omega) (by omega), fun q2 => go (fun x => q2 (by rw [x.2.2])), fun q2 => k w hw ⟨m, q, (nI_eq (by omega) (by omega)).mp q2⟩ hno⟩)
  exact H 0 (Nat.zero_le _) (fun v hv => absurd hv (by omega))
/-- s is the set after k steps of the walk -/
def Wk (NX : Nat → Nat → Prop) (n : Nat) : Nat → Nat → Prop
  | 0, s => s = 0
  | k + 1, s => ∃ s0 w, Wk NX n k s0 ∧ w < n ∧ NX s0 w ∧ (∀ v, v < w → ¬ NX s0 v) ∧ s = s0 ||| 2 ^ w
theorem Wk_u {NX : Nat → Nat → Prop} {n : Nat} : ∀ k s s', Wk NX n k s → Wk NX n k s' → s = s' := by
  intro k
  induction k with
  | zero => intro s s' h h'; exact Eq.trans h (Eq.symm h')
  | succ k ih =>
    intro s s' h h'
    obtain ⟨s0, w, a1, a2, a3, a4, a5⟩ := h
    obtain ⟨s0', w', b1, b2, b3, b4, b5⟩ := h'
    have e := ih _ _ a1 b1
    subst e
    rcases Nat.lt_trichotomy w w' with q | q | q
    · exact absurd a3 (b4 w q)
    · rw [a5, b5, q]
    · exact absurd b3 (a4 w' q)
theorem Wk_lt {NX : Nat → Nat → Prop} {n : Nat} : ∀ k s, Wk NX n k s → s < 2 ^ n := by
  intro k
  induction k with
  | zero => intro s h; have h : s = 0 := h; rw [h]; exact Nat.two_pow_pos n
  | succ k ih =>
    intro s h
    obtain ⟨s0, w, a1, a2, -, -, a5⟩ := h
    rw [a5]
    exact Nat.or_lt_two_pow (ih _ a1) (Nat.pow_lt_pow_right (by decide) a2)
theorem Wk_cong {NX NX' : Nat → Nat → Prop} {n : Nat} (e : ∀ s w, s < 2 ^ n → w < n → (NX s w ↔ NX' s w)) : ∀ k s, Wk NX n k s → Wk NX' n k s := by
  intro k
  induction k with
  | zero => intro s h; exact h
  | succ k ih =>
    intro s h
    obtain ⟨s0, w, a1, a2, a3, a4, a5⟩ := h
    have hl := Wk_lt k s0 a1
    exact ⟨s0, w, ih _ a1, a2, (e s0 w hl a2).mp a3, fun v hv q => a4 v hv ((e s0 v hl (by omega)).mpr q), a5⟩
theorem Wk_pre {NX : Nat → Nat → Prop} {n : Nat} : ∀ p s, Wk NX n p s → ∀ j, j < p → ∃ s0 w, Wk NX n j s0 ∧ w < n ∧ NX s0 w := by
  intro p
  induction p with
  | zero => intro s _ j hj; exact absurd hj (by omega)
  | succ p ih =>
    intro s h j hj
    obtain ⟨s0, w, a1, a2, a3, -, -⟩ := h
    by_cases e : j = p
    · subst e; exact ⟨s0, w, a1, a2, a3⟩
    · exact ih s0 a1 j (by omega)
def WR0 (NX : Nat → Nat → Prop) (n p : Nat) (r : Int32) : Prop := ∃ s w, Wk NX n p s ∧ w < n ∧ NX s w ∧ (∀ v, v < w → ¬ NX s v) ∧ r = nI w
def WRc (NX : Nat → Nat → Prop) (n p : Nat) (r : Int32) : Prop := WR0 NX n p r ∨ (r = -9 ∧ ∃ j s, j ≤ p ∧ Wk NX n j s ∧ ∀ w, w < n → ¬ NX s w)
theorem WR_eq {NX NX' : Nat → Nat → Prop} {n p : Nat} {r r2 : Int32} (e : ∀ s w, s < 2 ^ n → w < n → (NX s w ↔ NX' s w)) (h : WRc NX n p r) (h2 : WR0 NX' n p r2) : r = r2 := by
  obtain ⟨s', w', b1, b2, b3, b4, b5⟩ := h2
  rcases h with ⟨s, w, a1, a2, a3, a4, a5⟩ | ⟨-, j, s, hj, a1, a2⟩
  · have hl := Wk_lt p s a1
    have es := Wk_u p s s' (Wk_cong e p s a1) b1
    subst es
    rcases Nat.lt_trichotomy w w' with q | q | q
    · exact absurd ((e s w hl a2).mp a3) (b4 w q)
    · rw [a5, b5, q]
    · exact absurd ((e s w' hl b2).mpr b3) (a4 w' q)
  · exfalso
    have hl := Wk_lt j s a1
    have a1' := Wk_cong e j s a1
    by_cases ej : j = p
    · subst ej
      have es := Wk_u j s s' a1' b1
      subst es
      exact a2 w' b2 ((e s w' hl b2).mpr b3)
    · obtain ⟨s0, w, c1, c2, c3⟩ := Wk_pre p s' b1 j (by omega)
      have es := Wk_u j s s0 a1' c1
      subst es
      exact a2 w c2 ((e s w hl c2).mpr c3)
theorem eX_workAt14 {c a p bar : Nat} {z : Nat → Nat} {μ : Mem} {post : Int32 → Mem → Prop} (hs : SRa c a μ) (hz : ScR 16 z μ) (hbar : bar ≤ 1000000) (h8 : μ c 8 = nI bar) (hL : ∀ s, s < 2 ^ a → μ (c + 5) s = nI (LT (c + 5) μ s) ∧ LT (c + 5) μ s ≤ 1000000) (hp : p < 1000) (k : ∀ r, WRc (nxX c a z bar μ) a p r → post r μ) : T_X6_workAt_14 c post (nI p) 0 0 μ := by
  have h9 := hs.1
  have hp9 := pow9 h9
  intro P hP
  have H : ∀ j, j ≤ p → ∀ s, s < 2 ^ a → Wk (nxX c a z bar μ) a j s → P (nI p) (nI s) (nI j) μ := by
    refine down_ind (fun s hs2 hW => hP _ _ _ _ (br_t (nI_self_le p) (eX_nextBehind hs hz hs2 hbar h8 hL (fun hno => k _ (Or.inr ⟨rfl, p, s, Nat.le_refl _, hW, hno⟩)) (fun w hw hx hf => k _ (Or.inl ⟨s, w, hW, hw, hx, hf, rfl⟩))))) (fun j hj ih s hs2 hW => hP _ _ _ _ (br_f (nI_ge hj (by omega)) (eX_nextBehind hs hz hs2 hbar h8 hL (fun hno => rb_f rfl (k _ (Or.inr ⟨rfl, j, s, by omega, hW, hno⟩))) (fun w hw hx hf => rb_t (nI_ne9 (by omega)) ?_))))
    obtain ⟨eo, ho⟩ := set_or (show s < 512 by omega) (show w < 9 by omega)
    rw [eo, nI_1]
    exact ih _ (Nat.or_lt_two_pow hs2 (Nat.pow_lt_pow_right (by decide) hw)) ⟨s, w, hW, hw, hx, hf, rfl⟩
  exact H 0 (Nat.zero_le _) 0 (Nat.two_pow_pos a) rfl
/-- the class's search over all works is right -/
def GS (n : Nat) (z : Nat → Nat) (μ : Mem) : Prop := LOd 35 n (nI (2 ^ n - 1)) (μ 14) (μ 15) μ ∧ (∀ t, t < 2 ^ n → μ (35 + 4) t = nI (LT (35 + 4) μ t) ∧ EQx 35 n z 1000000 μ (LT (35 + 4) μ) t) ∧ (μ 35 8 = -1 ∨ ∃ bar, bar ≤ 1000000 ∧ μ 35 8 = nI bar ∧ LGs 35 n z bar μ)
def CS (n : Nat) (z : Nat → Nat) (V : Nat) (μ : Mem) : Prop := μ 35 9 = -1 ∨ ∃ v, v ≤ V ∧ μ 35 9 = nI v ∧ (v = V → GS n z μ)
theorem CS_fr {n V : Nat} {z : Nat → Nat} {S : Nat → Prop} {μ μ' : Mem} (h : CS n z V μ) (f : Fr S μ μ') (s14 : ¬ S 14) (s15 : ¬ S 15) (s35 : ∀ q, sS 35 q → ¬ S q) : CS n z V μ' := by
  have hq : ∀ q, q ≤ 5 → μ' (35 + q) = μ (35 + q) := fun q hq => f (35 + q) (s35 _ (by unfold sS; omega))
  have e0 : μ' 35 = μ 35 := hq 0 (by omega)
  unfold CS GS LOd SRa LDx NDs LGs EQx EQlx mcX wdX LT
  rw [f 14 s14, f 15 s15, e0, hq 1 (by omega), hq 2 (by omega), hq 3 (by omega), hq 4 (by omega), hq 5 (by omega)]
  exact h
theorem CS_up {n n' V : Nat} {z z' : Nat → Nat} {μ μ' : Mem} (h : CS n z V μ) (e35 : μ' 35 = μ 35) : CS n' z' (V + 1) μ' := by
  unfold CS
  rw [e35]
  rcases h with c | ⟨v, hv, e, -⟩
  · exact Or.inl c
  · exact Or.inr ⟨v, by omega, e, fun q => absurd q (by omega)⟩
theorem LOd_of {c n : Nat} {u : Int32} {nd bf : Nat → Int32} {μ μ' : Mem} (h : LOd c n u nd bf μ) (e6 : μ' c 6 = μ c 6) (e7 : μ' c 7 = μ c 7) (e1 : μ' (c + 1) = μ (c + 1)) (e2 : μ' (c + 2) = μ (c + 2)) (e3 : μ' (c + 3) = μ (c + 3)) : LOd c n u nd bf μ' := by
  unfold LOd SRa LDx NDs
  rw [e6, e7, e1, e2, e3]
  exact h
theorem GS_sr {n : Nat} {z : Nat → Nat} {μ : Mem} (h9 : n ≤ 9) (h : GS n z μ) : SRa 35 n μ := by
  have h1 := h.1.1
  rw [cntB_all h9 n (Nat.le_refl _)] at h1
  exact h1
theorem eX_refresh35 {n m V : Nat} {z1 z2 : Nat → Nat} {μ : Mem} {post : Mem → Prop} (h : IX n m z1 z2 μ) (hV : V < 2 ^ 30) (h5 : μ 13 5 = nI V) (hC : CS n z1 V μ) (k : ∀ μ', Fr (sS 35) μ μ' → IX n m z1 z2 μ' → GS n z1 μ' → μ' 35 9 = nI V → post μ') : T_X6_refresh 35 μ post := by
  have hc : isSearch 35 := Or.inl rfl
  have h9 := xN h
  have ec : cntB (nI (2 ^ n - 1)) n = n := cntB_all h9 n (Nat.le_refl _)
  refine ⟨fun q => ?_, fun q => sX_all (xW h) h9 (eX_load hc h.1 (fun μ1 hf1 hL h8 h99 => eX_fillLeast (lim := 1000000) hc hL.1 (ScR_fr h.2.1 hf1 (by unfold sS; omega) (by unfold sS; omega)) (by omega) (fun μ2 hf2 hT => ⟨i512, ?_⟩)))⟩
  · rcases hC with e | ⟨v, hv, e, hg⟩
    · exact absurd ((e.symm.trans (q.trans h5))).symm (nI_nm (by omega))
    · have ev : v = V := (nI_eq (by omega) (by omega)).mp (e.symm.trans (q.trans h5))
      exact k μ (Fr_rf _ _) h (hg ev) (by rw [e, ev])
  · have f2 : Fr (sS 35) μ μ2 := Fr_tr hf1 (Fr_mono hf2 (fun q hq => by unfold sS; omega))
    have f3 : Fr (sS 35) μ (mset μ2 35 9 (μ2 13 5)) := Fr_p f2 (by unfold sS; omega)
    have e5 : μ2 13 5 = nI V := by rw [f2 13 (by unfold sS; omega)]; exact h5
    have e35 : ∀ s, s ≠ 9 → (mset μ2 35 9 (μ2 13 5)) 35 s = μ1 35 s := fun s hs => by rw [m2, pk_un hs, hf2 35 (by omega)]
    have eq : ∀ q, q ≠ 35 → q ≠ 39 → (mset μ2 35 9 (μ2 13 5)) q = μ1 q := fun q q1 q2 => by
      have : (mset μ2 35 9 (μ2 13 5)) q = μ2 q := mput_o (fun e => q1 e.symm)
      rw [this, hf2 q (by omega)]
    have e39 : (mset μ2 35 9 (μ2 13 5)) (35 + 4) = μ2 (35 + 4) := mput_o (by decide)
    have hL' : LOd 35 n (nI (2 ^ n - 1)) (μ 14) (μ 15) (mset μ2 35 9 (μ2 13 5)) := LOd_of hL (e35 6 (by decide)) (e35 7 (by decide)) (eq _ (by decide) (by decide)) (eq _ (by decide) (by decide)) (eq _ (by decide) (by decide))
    have e9 : (mset μ2 35 9 (μ2 13 5)) 35 9 = nI V := by rw [m2, pk_us]; exact e5
    have e8 : (mset μ2 35 9 (μ2 13 5)) 35 8 = -1 := by rw [e35 8 (by decide)]; exact h8
    have eq2 := eq (35 + 2) (by decide) (by decide)
    have eq3 := eq (35 + 3) (by decide) (by decide)
    refine k _ f3 (IX_35 h f3 hL'.1) ⟨?_, fun t ht => ?_, Or.inl e8⟩ e9
    · rw [f3 14 (by unfold sS; omega), f3 15 (by unfold sS; omega)]; exact hL'
    · rw [ec] at hT
      obtain ⟨g1, g2⟩ := hT t ht
      have eL : LT (35 + 4) (mset μ2 35 9 (μ2 13 5)) = LT (35 + 4) μ2 := by funext s; unfold LT; rw [e39]
      rw [eL, e39]
      exact ⟨g1, EQx_of eq2 eq3 g2⟩
/-- the reference's tables: what is laid (μ1), least mosts of all works (μ2) -/
def RF0 (n : Nat) (nd bf : Nat → Int32) (z : Nat → Nat) (μ1 μ2 : Mem) : Prop := WM n μ1 ∧ UZ μ1 ∧ Acyc n (μ1 5) ∧ (∀ w, w < n → nd w = μ1 4 w) ∧ (∀ w, w < n → bf w = μ1 5 w) ∧ (∀ s, s < 2 ^ n → μ1 14 s = needF (μ1 4) (nI s) n) ∧ (∀ x, x < 1024 → μ1 17 x = nI (sum10 z (nI x))) ∧ (∀ s, s ≤ 2 ^ n - 1 → (∀ i, hb (nI s) i = true → hb (nI (2 ^ n - 1)) i = true) → EQm μ1 n (2 ^ n - 1) μ2 s)
theorem RF0_cong {n : Nat} {nd bf nd' bf' : Nat → Int32} {z : Nat → Nat} {μ1 μ2 : Mem} (e1 : ∀ w, w < n → nd' w = nd w) (e2 : ∀ w, w < n → bf' w = bf w) (h : RF0 n nd bf z μ1 μ2) : RF0 n nd' bf' z μ1 μ2 := by
  obtain ⟨a1, a2, a3, a4, a5, a6⟩ := h
  exact ⟨a1, a2, a3, fun w hw => (e1 w hw).trans (a4 w hw), fun w hw => (e2 w hw).trans (a5 w hw), a6⟩
theorem eM_leastOfT {n m : Nat} {z : Nat → Nat} {μ : Mem} {post : Int32 → Mem → Prop} (h : IM n m μ) (hz : ∀ t, t < 10 → μ 6 t = nI (z t)) (k : ∀ μ1 μ2, Fr sL15 μ μ2 → Fr (fun q => q = 15) μ1 μ2 → IM n m μ2 → RF0 n (μ 4) (μ 5) z μ1 μ2 → post (nI (LT 15 μ2 0)) μ2) : T_X12_leastOf (nI (2 ^ n - 1)) μ post := by
  have hp1 : 1 ≤ 2 ^ n := Nat.one_le_two_pow
  refine sM_leastOf h.1 h.2.2.1 (by omega) (fun μ1 μ2 hf hf1 hf2 hz1 e14 e17 hE => ?_)
  have e4 := hf1 4 (by unfold sU; omega)
  have e5 := hf1 5 (by unfold sU; omega)
  have h1 : WM n μ1 := WM_of h.1 (by rw [hf1 0 (by unfold sU; omega)]) e4 (hf1 6 (by unfold sU; omega))
  exact k μ1 μ2 hf hf2 (IM_fr h (fL_M hf) (UZ_fr hz1 hf2 (by omega) (by omega))) ⟨h1, hz1, by rw [e5]; exact h.2.1.1, fun w _ => by rw [e4], fun w _ => by rw [e5], fun s hs => by rw [e4]; exact e14 s hs, fun x hx => by rw [e17 x hx, sizeF_sum hz], hE⟩
theorem ES_all {n t : Nat} (h9 : n ≤ 9) (ht : t < 2 ^ n) : ES n (2 ^ n - 1) t t := by
  refine ⟨by rw [cntB_all h9 n (Nat.le_refl _)]; exact ht, ht, fun w => ?_⟩
  constructor
  · intro q
    rcases Nat.lt_or_ge w n with hw | hw
    · exact ⟨hw, by rw [all_bits h9]; exact decide_eq_true hw, by rw [cntB_all h9 w (by omega)]; exact q⟩
    · rw [nI_lo ht (by omega) w hw] at q; exact absurd q (by decide)
  · rintro ⟨a, -, b⟩
    rw [cntB_all h9 w (by omega)] at b
    exact b
section Rel35
variable {n bar : Nat} {z : Nat → Nat} {μ μ1 μ2 μ3 : Mem}
theorem gs_mc {t w : Nat} (h9 : n ≤ 9) (hG : GS n z μ) (hR : RF0 n (μ 14) (μ 15) z μ1 μ2) (ht : t < 2 ^ n) (hw : w < n) : mcX 35 μ t w ↔ mcN μ1 (2 ^ n - 1) t w = true := by
  have hwu : hb (nI (2 ^ n - 1)) w = true := by rw [all_bits h9]; exact decide_eq_true hw
  have := tab_mc (μ1 := μ1) h9 (show 2 ^ n - 1 < 2 ^ n by have : 1 ≤ 2 ^ n := Nat.one_le_two_pow; omega) hG.1 (ES_all h9 ht) hw hwu (hR.2.2.2.2.1 w hw)
  rw [cntB_all h9 w (by omega)] at this
  exact this
theorem gs_wd {t w : Nat} (h9 : n ≤ 9) (hz9 : ∀ t, z t ≤ 99) (hG : GS n z μ) (hR : RF0 n (μ 14) (μ 15) z μ1 μ2) (ht : t < 2 ^ n) (hw : w < n) (hws : hb (nI t) w = false) : wdX 35 n z μ t w = wdN μ1 (2 ^ n - 1) t w := by
  have hwu : hb (nI (2 ^ n - 1)) w = true := by rw [all_bits h9]; exact decide_eq_true hw
  obtain ⟨r1, r2, r3, r4, r5, r6, r7, r8⟩ := hR
  have := tab_wd (μ1 := μ1) h9 (show 2 ^ n - 1 < 2 ^ n by have : 1 ≤ 2 ^ n := Nat.one_le_two_pow; omega) hG.1 (ES_all h9 ht) hw hwu hws r1 r4 r6 r7 hz9
  rw [cntB_all h9 w (by omega), cntB_all h9 n (Nat.le_refl _)] at this
  exact this
theorem gs_least {t : Nat} (h9 : n ≤ 9) (hz9 : ∀ t, z t ≤ 99) (hG : GS n z μ) (hR : RF0 n (μ 14) (μ 15) z μ1 μ2) (ht : t < 2 ^ n) : LT (35 + 4) μ t = LT 15 μ2 t := by
  obtain ⟨r1, r2, r3, r4, r5, r6, r7, r8⟩ := hR
  have hp1 : 1 ≤ 2 ^ n := Nat.one_le_two_pow
  have ec := cntB_all h9 n (Nat.le_refl _)
  have := tab_eq (lim := 1000000) (T := LT (35 + 4) μ) h9 (show 2 ^ n - 1 < 2 ^ n by omega) hG.1 r1 r4 r5 r6 r7 hz9 (by omega) (fun t ht => by rw [ec] at ht ⊢; exact (hG.2.1 t ht).2) r8 (2 ^ n - 1 - t) t t (by rw [ec]; omega) (ES_all h9 ht)
  rw [this]
  have := (r8 t (by omega) (sub_all h9 ht)).2.1
  omega
theorem gs_long (h9 : n ≤ 9) (hz9 : ∀ t, z t ≤ 99) (hG : GS n z μ) (hL : LGs 35 n z bar μ) (hR : RF0 n (μ 14) (μ 15) z μ1 μ2) (hE : ∀ s, s < 2 ^ n → EQl μ1 n (2 ^ n - 1) bar μ3 s) : ∀ d t, t + d = 2 ^ n - 1 → LT (35 + 5) μ t = LT 16 μ3 t := by
  have hp := pow9 h9
  have hp1 : 1 ≤ 2 ^ n := Nat.one_le_two_pow
  intro d
  induction d using Nat.strongRecOn with
  | ind d ih =>
    intro t htd
    obtain ⟨-, l1, l2, l3⟩ := hL t (by omega)
    obtain ⟨-, m2', m3⟩ := hE t (by omega)
    by_cases e : t = 2 ^ n - 1
    · rw [if_pos e] at m3
      rw [l2 e, m3]
    · rw [if_neg e] at m3
      have l4 := (l3 e).1
      have step : ∀ w, w < n → mcX 35 μ t w → mcN μ1 (2 ^ n - 1) t w = true ∧ wdX 35 n z μ t w = wdN μ1 (2 ^ n - 1) t w ∧ LT (35 + 5) μ (t ||| 2 ^ w) = LT 16 μ3 (t ||| 2 ^ w) := by
        intro w hw mc
        clear l3 l4
        have hbt0 : t.testBit w = false := by rw [← hb_nI (by omega)]; exact mc.1
        have hgt := or_gt hbt0
        have hlt : t ||| 2 ^ w < 2 ^ n := Nat.or_lt_two_pow (by omega) (Nat.pow_lt_pow_right (by decide) hw)
        exact ⟨(gs_mc h9 hG hR (by omega) hw).mp mc, gs_wd h9 hz9 hG hR (by omega) hw mc.1, ih (2 ^ n - 1 - (t ||| 2 ^ w)) (by omega) _ (by omega)⟩
      have l5 := (l3 e).2
      have le1 : LT (35 + 5) μ t ≤ LT 16 μ3 t := by
        clear l3 l5
        rcases mnF_at (mcN μ1 (2 ^ n - 1) t) (itsN μ1 (2 ^ n - 1) bar t (LT 16 μ3)) 1000000 n with q | ⟨w, hw, q1, q2⟩
        · omega
        · have mc := (gs_mc h9 hG hR (by omega) hw).mpr q1
          obtain ⟨-, s2, s3⟩ := step w hw mc
          unfold itsN at q2
          by_cases hb0 : wdN μ1 (2 ^ n - 1) t w ≤ bar
          · rw [if_pos hb0] at q2
            have := l4 w hw mc (by omega)
            unfold itsN at m3
            omega
          · rw [if_neg hb0] at q2
            unfold itsN at m3
            omega
      have le2 : LT 16 μ3 t ≤ LT (35 + 5) μ t := by
        clear l3
        rcases l5 with q | ⟨w, hw, mc, hb0, q⟩
        · omega
        · obtain ⟨s1, s2, s3⟩ := step w hw mc
          have := mnF_le (v := itsN μ1 (2 ^ n - 1) bar t (LT 16 μ3)) (top := 1000000) s1 n hw
          have e3 : itsN μ1 (2 ^ n - 1) bar t (LT 16 μ3) w = wdN μ1 (2 ^ n - 1) t w + LT 16 μ3 (t ||| 2 ^ w) := by
            unfold itsN; rw [if_pos (by omega)]
          omega
      clear l3 l5
      omega
theorem gs_nx (h9 : n ≤ 9) (hz9 : ∀ t, z t ≤ 99) (hG : GS n z μ) (hL : LGs 35 n z bar μ) (hR : RF0 n (μ 14) (μ 15) z μ1 μ2) (hE : ∀ s, s < 2 ^ n → EQl μ1 n (2 ^ n - 1) bar μ3 s) : ∀ t w, t < 2 ^ n → w < n → (nxX 35 n z bar μ t w ↔ nxN μ1 n bar (LT 16 μ3) t w) := by
  intro t w ht hw
  have hlt : t ||| 2 ^ w < 2 ^ n := Nat.or_lt_two_pow ht (Nat.pow_lt_pow_right (by decide) hw)
  have e1 := gs_long h9 hz9 hG hL hR hE (2 ^ n - 1 - t) t (by omega)
  have e2 := gs_long h9 hz9 hG hL hR hE (2 ^ n - 1 - (t ||| 2 ^ w)) (t ||| 2 ^ w) (by omega)
  unfold nxX nxN
  rw [e1, e2]
  constructor
  · rintro ⟨a, b, c⟩
    have ew := gs_wd h9 hz9 hG hR ht hw a.1
    rw [ew] at b c
    exact ⟨(gs_mc h9 hG hR ht hw).mp a, b, c⟩
  · rintro ⟨a, b, c⟩
    have ew := gs_wd h9 hz9 hG hR ht hw (mcN_b a).2
    rw [ew]
    exact ⟨(gs_mc h9 hG hR ht hw).mpr a, b, c⟩
/-- the class lays its longs -/
theorem eX_long35 {m t : Nat} {z2 : Nat → Nat} {post : Mem → Prop} (h : IX n m z z2 μ) (hG : GS n z μ) (ht : t < 2 ^ n) (k : ∀ μ', Fr (sS 35) μ μ' → IX n m z z2 μ' → GS n z μ' → μ' 35 9 = μ 35 9 → μ' (35 + 4) = μ (35 + 4) → μ' 35 8 = nI (LT (35 + 4) μ t) → LGs 35 n z (LT (35 + 4) μ t) μ' → post μ') : T_X6_fillLongs 35 (μ (35 + 4) t) μ post := by
  have hc : isSearch 35 := Or.inl rfl
  have h9 := xN h
  obtain ⟨g1, g2, g3⟩ := hG
  have hs := GS_sr h9 ⟨g1, g2, g3⟩
  have hl := (g2 t ht).2.1
  rw [(g2 t ht).1]
  refine eX_fillLongs hc hs h.2.1 hl (fun q => ?_) (fun μ' hf hk h8 hL => ?_)
  · rcases g3 with e | ⟨b, hb0, e, hLG⟩
    · exact absurd (q.symm.trans e) (nI_nm (by omega))
    · have eb := (nI_eq (by omega) (by omega)).mp (e.symm.trans q)
      rw [← eb]; exact hLG
  · have f : Fr (sS 35) μ μ' := Fr_mono hf (fun q hq => by unfold sS; omega)
    have e1 := hf (35 + 1) (by omega)
    have e2 := hf (35 + 2) (by omega)
    have e3 := hf (35 + 3) (by omega)
    have e4 := hf (35 + 4) (by omega)
    have hs' : SRa 35 n μ' := ⟨h9, by rw [hk 6 (by decide)]; exact hs.2.1, by rw [hk 7 (by decide)]; exact hs.2.2⟩
    have eL : LT (35 + 4) μ' = LT (35 + 4) μ := by funext s; unfold LT; rw [e4]
    refine k μ' f (IX_35 h f hs') ⟨?_, fun s hs => ?_, Or.inr ⟨_, hl, h8, hL⟩⟩ (hk 9 (by decide)) e4 h8 hL
    · rw [hf 14 (by omega), hf 15 (by omega)]
      exact LOd_of g1 (hk 6 (by decide)) (hk 7 (by decide)) e1 e2 e3
    · rw [eL, e4]
      exact ⟨(g2 s hs).1, EQx_of e2 e3 (g2 s hs).2⟩
end Rel35
def sL16 : Nat → Prop := fun k => k = 14 ∨ k = 15 ∨ k = 16 ∨ k = 17
theorem EQl_1 {n u bar s : Nat} {μ1 μ2 μ3 : Mem} (f : Fr (fun q => q = 15) μ1 μ2) (h : EQl μ2 n u bar μ3 s) : EQl μ1 n u bar μ3 s := by
  obtain ⟨g1, g2, g3⟩ := h
  refine ⟨g1, g2, ?_⟩
  rw [g3]
  have e1 : mcN μ2 u s = mcN μ1 u s := funext (fun w => mcN_of (f 5 (by omega)) u s w)
  have e2 : itsN μ2 u bar s (LT 16 μ3) = itsN μ1 u bar s (LT 16 μ3) := funext (fun w => by unfold itsN; rw [wdN_of (f 4 (by omega)) (f 14 (by omega)) (f 17 (by omega))])
  rw [e1, e2]
theorem nxN_of {n bar s w : Nat} {L : Nat → Nat} {μ μ' : Mem} (e4 : μ' 4 = μ 4) (e5 : μ' 5 = μ 5) (e14 : μ' 14 = μ 14) (e17 : μ' 17 = μ 17) : nxN μ' n bar L s w ↔ nxN μ n bar L s w := by
  unfold nxN
  rw [mcN_of e5, wdN_of e4 e14 e17]
theorem eM_best38 {n m : Nat} {z : Nat → Nat} {x1 : Int32} {μ : Mem} {post : Int32 → Mem → Prop} (h : IM n m μ) (hz : ∀ t, t < 10 → μ 6 t = nI (z t)) (hx : x1 = 0 ∨ x1 = 1 ∨ ∃ p, p < n ∧ x1 = nI (10 + p)) (k0 : x1 = 0 → ∀ μ1 μ2, Fr sL16 μ μ2 → IM n m μ2 → RF0 n (μ 4) (μ 5) z μ1 μ2 → post (nI (LT 15 μ2 0)) μ2) (k1 : x1 = 1 → ∀ μ1 μ2 μ3, Fr sL16 μ μ3 → IM n m μ3 → RF0 n (μ 4) (μ 5) z μ1 μ2 → (∀ s, s < 2 ^ n → EQl μ1 n (2 ^ n - 1) (LT 15 μ2 0) μ3 s) → post (nI (LT 16 μ3 0)) μ3) (kp : ∀ p, p < n → x1 = nI (10 + p) → ∀ r μ1 μ2 μ3, Fr sL16 μ μ3 → IM n m μ3 → RF0 n (μ 4) (μ 5) z μ1 μ2 → (∀ s, s < 2 ^ n → EQl μ1 n (2 ^ n - 1) (LT 15 μ2 0) μ3 s) → WR0 (nxN μ1 n (LT 15 μ2 0) (LT 16 μ3)) n p r → post r μ3) : T_X12_best_38 post x1 μ := by
  have h9 := mN h
  have hp := pow9 h9
  have hp1 : 1 ≤ 2 ^ n := Nat.one_le_two_pow
  refine sM_all h.1 (eM_leastOfT h hz (fun μ1 μ2 hf2 hf15 h2 hR => ?_))
  have hR' := hR
  obtain ⟨hw1, hz1, hA1, -, -, -, -, hE⟩ := hR'
  have hbar : LT 15 μ2 0 ≤ 990 := least_990 hw1 hz1 hA1 hE (2 ^ n - 1) 0 (by omega)
  have f2 : Fr sL16 μ μ2 := Fr_mono hf2 (fun q hq => by unfold sL15 at hq; unfold sL16; omega)
  refine ⟨fun q0 => sM_layLong h2.1 h2.2.2.1 (by omega) (fun μ3 hf3 hL => ?_), fun q0 => k0 q0 μ1 μ2 f2 h2 hR⟩
  have hz3 : UZ μ3 := UZ_fr h2.2.2.1 hf3 (by omega) (by omega)
  have h3 := IM_fr h2 (f16_M hf3) hz3
  have f3 : Fr sL16 μ μ3 := Fr_tr f2 (Fr_mono hf3 (fun q hq => by unfold sL16; omega))
  have hL1 : ∀ s, s < 2 ^ n → EQl μ1 n (2 ^ n - 1) (LT 15 μ2 0) μ3 s := fun s hs => EQl_1 hf15 (hL s hs)
  refine ⟨fun q1 => ?_, fun q1 => ⟨i512, ?_⟩⟩
  · obtain ⟨p, hpn, ex⟩ : ∃ p, p < n ∧ x1 = nI (10 + p) := by
      rcases hx with e | e | e
      · exact absurd e q0
      · exact absurd e q1
      · exact e
    have kk := fun r => kp p hpn ex r μ1 μ2 μ3 f3 h3 hR hL1
    subst ex
    have hfin0 : LT 16 μ3 0 < 1000000 := by
      have := long_fin hw1 hz1 hE hL1 hbar (2 ^ n - 1) 0 (by omega) (Nat.le_refl _)
      omega
    have hE3 : ∀ s, s < 2 ^ n → μ3 16 s = nI (LT 16 μ3 s) ∧ LT 16 μ3 s ≤ 1000000 := fun s hs => ⟨(hL s hs).1, (hL s hs).2.1⟩
    have nx1 : ∀ s w, nxN μ3 n (LT 15 μ2 0) (LT 16 μ3) s w ↔ nxN μ1 n (LT 15 μ2 0) (LT 16 μ3) s w := fun s w => nxN_of (by rw [hf3 4 (by omega), hf15 4 (by omega)]) (by rw [hf3 5 (by omega), hf15 5 (by omega)]) (by rw [hf3 14 (by omega), hf15 14 (by omega)]) (by rw [hf3 17 (by omega), hf15 17 (by omega)])
    have step : ∀ s, s < 2 ^ n → s ≠ 2 ^ n - 1 → LT 16 μ3 s < 1000000 → ∀ post2 : Int32 → Mem → Prop, (∀ w, w < n → nxN μ1 n (LT 15 μ2 0) (LT 16 μ3) s w → (∀ v, v < w → ¬ nxN μ1 n (LT 15 μ2 0) (LT 16 μ3) s v) → post2 (nI w) μ3) → T_X12_nextFrom (nI s) (nI (LT 15 μ2 0)) μ3 post2 := by
      intro s hs hne hfin post2 k2
      refine sM_nextFrom h3.1 hz3 (by omega) hs hE3 (fun hno => ?_) (fun w hw hx hf => k2 w hw ((nx1 s w).mp hx) (fun v hv q => hf v hv ((nx1 s v).mpr q)))
      obtain ⟨w, hw, hx⟩ := next_some (hL1 s hs) hfin hne
      exact absurd ((nx1 s w).mpr hx) (hno w hw)
    have H : ∀ j, j ≤ p → ∀ s w, s < 2 ^ n → cntB (nI s) n = j → w < n → LT 16 μ3 s < 1000000 → Wk (nxN μ1 n (LT 15 μ2 0) (LT 16 μ3)) n j s → nxN μ1 n (LT 15 μ2 0) (LT 16 μ3) s w → (∀ v, v < w → ¬ nxN μ1 n (LT 15 μ2 0) (LT 16 μ3) s v) → T_X12_best_83 post (nI (10 + p)) (nI (LT 15 μ2 0)) (nI s) (nI w) (nI j) μ3 := by
      intro j hj s w hs hcnt hw hfin hW hx hf P hP
      revert s w
      refine down_ind (n := p) (Q := fun j => ∀ s w, s < 2 ^ n → cntB (nI s) n = j → w < n → LT 16 μ3 s < 1000000 → Wk (nxN μ1 n (LT 15 μ2 0) (LT 16 μ3)) n j s → nxN μ1 n (LT 15 μ2 0) (LT 16 μ3) s w → (∀ v, v < w → ¬ nxN μ1 n (LT 15 μ2 0) (LT 16 μ3) s v) → P (nI (10 + p)) (nI (LT 15 μ2 0)) (nI s) (nI w) (nI j) μ3) (fun s w hs hcnt hw hfin hW hx hf => ?_) (fun j hj ih s w hs hcnt hw hfin hW hx hf => ?_) j hj
      · refine hP _ _ _ _ _ _ (br_t ?_ (kk _ ⟨s, w, hW, hw, hx, hf, rfl⟩))
        rw [show nI (10 + p) - 10 = nI (10 + p - 10) from pk_sub (b := 10) (by omega), show 10 + p - 10 = p by omega]
        exact nI_self_le p
      · refine hP _ _ _ _ _ _ (br_f ?_ ?_)
        · rw [show nI (10 + p) - 10 = nI (10 + p - 10) from pk_sub (b := 10) (by omega), show 10 + p - 10 = p by omega]
          exact nI_ge hj (by omega)
        · have hbw := (mcN_b hx.1).2
          have hc := cntB_or (show w < 32 by omega) hbw n
          obtain ⟨eo, ho⟩ := set_or (show s < 512 by omega) (show w < 9 by omega)
          rw [eo] at hc ⊢
          rw [if_pos hw, hcnt] at hc
          have hlt : s ||| 2 ^ w < 2 ^ n := Nat.or_lt_two_pow hs (Nat.pow_lt_pow_right (by decide) hw)
          have hne : s ||| 2 ^ w ≠ 2 ^ n - 1 := fun e => by
            rw [e, cntB_all h9 n (Nat.le_refl _)] at hc
            omega
          have hfin2 : LT 16 μ3 (s ||| 2 ^ w) < 1000000 := by have := hx.2.2; omega
          refine step _ hlt hne hfin2 _ (fun w2 hw2 hx2 hf2 => ?_)
          rw [nI_1]
          exact ih _ w2 hlt hc hw2 hfin2 ⟨s, w, hW, hw, hx, hf, rfl⟩ hx2 hf2
    have hne0 : 0 ≠ 2 ^ n - 1 := by
      have : 2 ^ 1 ≤ 2 ^ n := Nat.pow_le_pow_right (by decide) (by omega)
      omega
    refine step 0 (by omega) hne0 hfin0 _ (fun w hw hx hf => H 0 (Nat.zero_le _) 0 w (by omega) ?_ hw hfin0 rfl hx hf)
    have : ∀ k, cntB (nI 0) k = 0 := by
      intro k
      induction k with
      | zero => rfl
      | succ k ih => rw [cntB_s, ih, show nI 0 = 0 from rfl, hb_0]; rfl
    exact this n
  · have := k1 q1 μ1 μ2 μ3 f3 h3 hR hL1
    rw [show (0 : Int32).toNatClampNeg = 0 by decide, (hL 0 (by omega)).1]
    exact this
theorem tw_best {n m m' V : Nat} {z1 z2 : Nat → Nat} {μX μM : Mem} {x1 : Int32} {G : Prop → Prop} {Q : Int32 → Int32 → Mem → Mem → Prop} (hG : ∀ T, T → G T) (hX : IX n m z1 z2 μX) (hM : IM n m' μM) (hK : RK n z1 z2 μX μM) (hV : V < 2 ^ 30) (h5 : μX 13 5 = nI V) (hC : CS n z1 V μX) (k : ∀ r r2 μ1 μ2, r = r2 → IX n m z1 z2 μ1 → IM n m' μ2 → Fr (sS 35) μX μ1 → Fr sL16 μM μ2 → CS n z1 V μ1 → Q r r2 μ1 μ2) : T_X11_best x1 μX (fun r μ1 => G (T_X12_best x1 μM (fun r2 μ2 => Q r r2 μ1 μ2))) := by
  have h9 := xN hX
  have hp1 : 1 ≤ 2 ^ n := Nat.one_le_two_pow
  have hz := fun t ht => (hK.2 t ht).1
  have hz9 := hX.2.1.1
  rcases Nat.eq_zero_or_pos n with en | hn
  · subst en
    exact rb_f (by rw [xW hX]; rfl) (hG _ (rb_f (by rw [hM.1.1]; rfl) (k _ _ μX μM rfl hX hM (Fr_rf _ _) (Fr_rf _ _) hC)))
  have n0 : ¬ nI n = 0 := fun q => by have := (nI_eq (a := n) (b := 0) (by omega) (by omega)).mp q; omega
  have m0 : ¬ μM 0 5 = 0 := by rw [hM.1.1]; exact n0
  refine rb_t (by rw [xW hX]; exact n0) (eX_refresh35 hX hV h5 hC (fun μ1 hf h1 hg h99 => ?_))
  have hc1 : CS n z1 V μ1 := Or.inr ⟨V, Nat.le_refl _, h99, fun _ => hg⟩
  have e14 := hf 14 (by unfold sS; omega)
  have e15 := hf 15 (by unfold sS; omega)
  have rf : ∀ {μa μb : Mem}, RF0 n (μM 4) (μM 5) z1 μa μb → RF0 n (μ1 14) (μ1 15) z1 μa μb := fun hR => by
    rw [e14, e15]
    exact RF0_cong (fun w hw => (hK.1 w hw).1) (fun w hw => (hK.1 w hw).2) hR
  have z0 : (0 : Int32).toNatClampNeg = 0 := by decide
  -- the class's longs of bar least[0]
  have lay : ∀ post2 : Mem → Prop, (∀ μ', Fr (sS 35) μX μ' → IX n m z1 z2 μ' → GS n z1 μ' → CS n z1 V μ' → (∀ {μa μb : Mem}, RF0 n (μM 4) (μM 5) z1 μa μb → RF0 n (μ' 14) (μ' 15) z1 μa μb ∧ LT (35 + 4) μ1 0 = LT 15 μb 0) → μ' 35 8 = nI (LT (35 + 4) μ1 0) → LGs 35 n z1 (LT (35 + 4) μ1 0) μ' → LT (35 + 4) μ1 0 ≤ 1000000 → post2 μ') → T_X6_fillLongs 35 (μ1 (35 + 4) (0 : Int32).toNatClampNeg) μ1 post2 := fun post2 hp2 => by
    rw [z0]
    refine eX_long35 h1 hg (t := 0) (by omega) (fun μ' f' h' g' e9 e4 h8 hL => hp2 μ' (Fr_tr hf f') h' g' (Or.inr ⟨V, Nat.le_refl _, by rw [e9]; exact h99, fun _ => g'⟩) (fun hR => ⟨?_, gs_least h9 hz9 hg (rf hR) (by omega)⟩) h8 hL (hg.2.1 0 (by omega)).2.1)
    rw [f' 14 (by unfold sS; omega), f' 15 (by unfold sS; omega)]
    exact rf hR
  by_cases x0 : x1 = 0
  · refine rb_f x0 ⟨i512, hG _ (rb_t m0 (br_t x0 (eM_best38 hM hz (Or.inl x0) (fun _ μa μb f2 h2 hR => k _ _ μ1 μb ?_ h1 h2 hf f2 hc1) (fun q => absurd (x0.symm.trans q) (by decide)) (fun p hpn q => absurd (x0.symm.trans q) (fun q2 => by have := (nI_eq (a := 0) (by omega) (by omega)).mp q2; omega)))))⟩
    rw [z0, (hg.2.1 0 (by omega)).1, gs_least h9 hz9 hg (rf hR) (by omega)]
  refine rb_t x0 ?_
  by_cases x1' : x1 = 1
  · refine rb_f x1' ⟨i512, lay _ (fun μ' f' h' g' c' rf' h8 hL hl => ⟨i512, hG _ (rb_t m0 (br_f x0 (br_t x1' (eM_best38 hM hz (Or.inr (Or.inl x1')) (fun q => absurd q x0) (fun _ μa μb μc f3 h3 hR hE => k _ _ μ' μc ?_ h' h3 f' f3 c') (fun p hpn q => absurd (x1'.symm.trans q) (fun q2 => by have := (nI_eq (a := 1) (by omega) (by omega)).mp q2; omega))))))⟩)⟩
    obtain ⟨r1, r2⟩ := rf' hR
    rw [← r2] at hE
    rw [z0, (hL 0 (by omega)).1, gs_long h9 hz9 g' hL r1 hE (2 ^ n - 1) 0 (by omega)]
  refine rb_t x1' ?_
  rcases Classical.em (∃ p, p < n ∧ x1 = nI (10 + p)) with ⟨p, hpn, ex⟩ | hno
  · have e10 : x1 - 10 = nI p := by
      rw [ex, show nI (10 + p) - 10 = nI (10 + p - 10) from pk_sub (b := 10) (by omega), show 10 + p - 10 = p by omega]
    have q10 : ¬ x1 < 10 := by rw [ex]; exact nI_nlt (a := 10 + p) (b := 10) (by omega) (by omega)
    refine br_f q10 (br_t (by rw [e10, xW h1]; exact nI_lt hpn (by omega)) ?_)
    rw [e10]
    refine ⟨i512, lay _ (fun μ' f' h' g' c' rf' h8 hL hl => eX_workAt14 (GS_sr h9 g') h'.2.1 hl h8 (fun s hs => ⟨(hL s hs).1, (hL s hs).2.1⟩) (by omega) (fun r hr => hG _ (rb_t m0 (br_f x0 (br_f x1' ?_)))))⟩
    have e9 : (9 : Int32) + μM 0 5 = nI (9 + n) := by rw [hM.1.1, show (9 : Int32) = nI 9 from rfl, nI_add]
    rw [e9]
    refine sM_isIn (fun q => ?_) (fun _ _ => rb_t n10 (eM_best38 hM hz (Or.inr (Or.inr ⟨p, hpn, ex⟩)) (fun q => absurd q x0) (fun q => absurd q x1') (fun p2 hp2 ex2 r2 μa μb μc f3 h3 hR hE hW => k _ _ μ' μc ?_ h' h3 f' f3 c')))
    · exfalso
      rcases q with q | q
      · exact q10 q
      · rw [ex] at q
        exact nI_nlt (a := 9 + n) (b := 10 + p) (by omega) (by omega) q
    · have ep : p2 = p := by
        have := (nI_eq (a := 10 + p2) (b := 10 + p) (by omega) (by omega)).mp (ex2.symm.trans ex)
        omega
      subst ep
      obtain ⟨r1, r2'⟩ := rf' hR
      rw [← r2'] at hE hW
      exact WR_eq (gs_nx h9 hz9 g' hL r1 hE) hr hW
  · have e9 : (9 : Int32) + μM 0 5 = nI (9 + n) := by rw [hM.1.1, show (9 : Int32) = nI 9 from rfl, nI_add]
    have fin : G (T_X12_best x1 μM (fun r2 μ2 => Q (-2) r2 μ1 μ2)) := hG _ (rb_t m0 (br_f x0 (br_f x1' (by
      rw [e9]
      refine sM_isIn (fun _ => rb_f rfl (k _ _ μ1 μM rfl h1 hM hf (Fr_rf _ _) hc1)) (fun q1 q2 => ?_)
      obtain ⟨t, ht, e⟩ := rngI 10 (9 + n) (by omega) q1 q2 (by omega)
      exact absurd ⟨t, by omega, e⟩ hno))))
    refine ⟨fun _ => fin, fun q1 => ⟨fun q3 => ?_, fun _ => fin⟩⟩
    exfalso
    have q0 : ¬ x1 < 0 := fun q => q1 (Int32.lt_trans q (by decide))
    obtain ⟨p, hp, rfl⟩ := nI_of q0
    have hp10 : 10 ≤ p := by
      rcases Nat.lt_or_ge p 10 with q | q
      · exact absurd (nI_lt (b := 10) q (by omega)) q1
      · exact q
    have e : nI p - 10 = nI (p - 10) := pk_sub (b := 10) hp10
    rw [e, xW h1, nI_ltI (by omega) (by omega)] at q3
    exact hno ⟨p - 10, q3, by rw [show 10 + (p - 10) = p by omega]⟩
