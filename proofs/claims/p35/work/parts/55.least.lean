/-! the class's fillLeast, exactly -/
def mcX (c : Nat) (μ : Mem) (t i : Nat) : Prop := hb (nI t) i = false ∧ μ (c + 2) i &&& (nI t ^^^ (-1)) = 0
def wdX (c a : Nat) (z : Nat → Nat) (μ : Mem) (t i : Nat) : Nat := sum10 z (μ (c + 3) (t ||| 2 ^ i) &&& μ (c + 3) (nI (2 ^ a - 1) &&& (nI t ^^^ (-1))).toNatClampNeg)
def EQx (c a : Nat) (z : Nat → Nat) (lim : Nat) (μ0 : Mem) (T : Nat → Nat) (t : Nat) : Prop := T t ≤ lim ∧ (t = 2 ^ a - 1 → T t = 0) ∧ (t ≠ 2 ^ a - 1 → (∀ i, i < a → mcX c μ0 t i → T t ≤ max (wdX c a z μ0 t i) (T (t ||| 2 ^ i))) ∧ (T t = lim ∨ ∃ i, i < a ∧ mcX c μ0 t i ∧ T t = max (wdX c a z μ0 t i) (T (t ||| 2 ^ i))))
theorem EQx_cong {c a lim t : Nat} {z : Nat → Nat} {μ0 : Mem} {T T' : Nat → Nat} (e : ∀ s, t ≤ s → T' s = T s) (h : EQx c a z lim μ0 T t) : EQx c a z lim μ0 T' t := by
  unfold EQx
  rw [e t (Nat.le_refl _)]
  obtain ⟨h1, h2, h3⟩ := h
  refine ⟨h1, h2, fun q => ?_⟩
  obtain ⟨h4, h5⟩ := h3 q
  have ee : ∀ i, T' (t ||| 2 ^ i) = T (t ||| 2 ^ i) := fun i => e _ Nat.left_le_or
  refine ⟨fun i hi m => by rw [ee i]; exact h4 i hi m, ?_⟩
  rcases h5 with h5 | ⟨i, hi, m, h5⟩
  · exact Or.inl h5
  · exact Or.inr ⟨i, hi, m, by rw [ee i]; exact h5⟩
theorem eX_mayCome {c i : Nat} {t : Nat} {μ : Mem} {post : Int32 → Mem → Prop} (hi : i < 9) (h0 : ¬ mcX c μ t i → post 0 μ) (h1 : mcX c μ t i → post 1 μ) : T_X6_mayCome c (nI i) (nI t) μ post := by
  unfold T_X6_mayCome
  rw [bit_z (nI t) (show i < 32 by omega), cl9 (show i < 1000000 by omega)]
  exact ⟨fun q => h0 (fun m => q m.1), fun q => ⟨in9 hi (by omega), fun q2 => h0 (fun m => q2 m.2), fun q2 => h1 ⟨q, q2⟩⟩⟩
theorem eX_wide {c a i t : Nat} {z : Nat → Nat} {μ : Mem} {post : Int32 → Mem → Prop} (ha : a ≤ 9) (hi : i < 9) (ht : t < 512) (h7 : μ c 7 = nI (2 ^ a - 1)) (hz : ScR 16 z μ) (k : post (nI (wdX c a z μ t i)) μ) : T_X6_wide c (nI i) (nI t) μ post := by
  have hp := pow9 ha
  have hp1 : 1 ≤ 2 ^ a := Nat.one_le_two_pow
  obtain ⟨e1, e2⟩ := set_or ht hi
  unfold T_X6_wide
  rw [h7, e1, cl9 (show t ||| 2 ^ i < 1000000 by omega)]
  exact ⟨in9 e2 (by omega), lo_9 (lo_and (lo9n (by omega)) _), sX_sumE hz k⟩
theorem eX_fillLeast {c a lim : Nat} {z : Nat → Nat} {μ : Mem} {post : Mem → Prop} (hc : isSearch c) (hs : SRa c a μ) (hz : ScR 16 z μ) (hlim : lim ≤ 1000000) (k : ∀ μ', Fr (fun q => q = c + 4) μ μ' → (∀ t, t < 2 ^ a → μ' (c + 4) t = nI (LT (c + 4) μ' t) ∧ EQx c a z lim μ (LT (c + 4) μ') t) → post μ') : T_X6_fillLeast c (nI lim) μ post := by
  have hc' : c = 35 ∨ c = 41 := hc
  have h9 := hs.1
  have hp := pow9 h9
  have hp1 : 1 ≤ 2 ^ a := Nat.one_le_two_pow
  have H : ∀ P17 : Int32 → Int32 → Mem → Prop, (∀ (x1 : Int32) (x2 : Int32) (μ : Mem), B_X6_fillLeast_17 c post P17 x1 x2 μ → P17 x1 x2 μ) → ∀ d, d ≤ 2 ^ a - 1 → ∀ μ2, Fr (fun q => q = c + 4) μ μ2 → (∀ t, d ≤ t → t < 2 ^ a → μ2 (c + 4) t = nI (LT (c + 4) μ2 t) ∧ EQx c a z lim μ (LT (c + 4) μ2) t) → P17 (nI lim) (nI d - 1) μ2 := by
    intro P17 hP17 d
    induction d with
    | zero => exact fun _ μ2 hf h2 => hP17 _ _ _ (br_t (by decide) (k μ2 hf (fun t ht => h2 t (Nat.zero_le _) ht)))
    | succ d ih =>
      intro hd μ2 hf h2
      rw [nI_pred]
      refine hP17 _ _ _ (br_f (nI_pos (by omega)) ?_)
      have hz2 : ScR 16 z μ2 := ScR_fr hz hf (by omega) (by omega)
      have h62 : μ2 c 6 = nI a := by rw [hf c (by omega)]; exact hs.2.1
      have h72 : μ2 c 7 = nI (2 ^ a - 1) := by rw [hf c (by omega)]; exact hs.2.2
      have emc : ∀ i, mcX c μ2 d i ↔ mcX c μ d i := fun i => by unfold mcX; rw [hf (c + 2) (by omega)]
      have ewd : ∀ i, wdX c a z μ2 d i = wdX c a z μ d i := fun i => by unfold wdX; rw [hf (c + 3) (by omega)]
      intro P26 hP26
      have H2 : ∀ j, j ≤ a → ∀ v, v ≤ lim → (∀ i, i < j → mcX c μ d i → v ≤ max (wdX c a z μ d i) (LT (c + 4) μ2 (d ||| 2 ^ i))) → (v = lim ∨ ∃ i, i < j ∧ mcX c μ d i ∧ v = max (wdX c a z μ d i) (LT (c + 4) μ2 (d ||| 2 ^ i))) → P26 (nI lim) (nI d) (nI v) (nI j) μ2 := by
        refine down_ind (fun v hv h4 h5 => hP26 _ _ _ _ _ (br_t (by rw [h62]; exact nI_self_le a) ⟨in9 (show d < 512 by omega) (by omega), ?_⟩)) (fun j hj ih2 v hv h4 h5 => hP26 _ _ _ _ _ (br_f (by rw [h62]; exact nI_ge hj (by omega)) ?_))
        · rw [sub_m1, cl9 (show d < 1000000 by omega)]
          have eT : ∀ s, s ≠ d → LT (c + 4) (mset μ2 (c + 4) d (nI v)) s = LT (c + 4) μ2 s := fun s hs => by unfold LT; rw [m2, pk_un hs]
          have eTd : LT (c + 4) (mset μ2 (c + 4) d (nI v)) d = v := by unfold LT; rw [m2, pk_us]; exact nI_clamp (by omega)
          refine ih (by omega) _ (Fr_p hf rfl) (fun t ht1 ht2 => ?_)
          by_cases e : t = d
          · subst e
            refine ⟨by rw [eTd, m2, pk_us], ?_⟩
            have eor : ∀ i, mcX c μ t i → LT (c + 4) (mset μ2 (c + 4) t (nI v)) (t ||| 2 ^ i) = LT (c + 4) μ2 (t ||| 2 ^ i) := fun i m => eT _ (fun e => by
              have hbt0 : t.testBit i = false := by rw [← hb_nI (by omega)]; exact m.1
              have := or_gt hbt0
              omega)
            unfold EQx
            rw [eTd]
            refine ⟨hv, fun e => by omega, fun _ => ⟨fun i hi m => by rw [eor i m]; exact h4 i hi m, ?_⟩⟩
            rcases h5 with h5 | ⟨i, hi, m, h5⟩
            · exact Or.inl h5
            · exact Or.inr ⟨i, hi, m, by rw [eor i m]; exact h5⟩
          · obtain ⟨g1, g2⟩ := h2 t (by omega) ht2
            refine ⟨by rw [eT t e, m2, pk_un e]; exact g1, EQx_cong (fun s hs => eT s (by omega)) g2⟩
        · obtain ⟨e1, e2⟩ := set_or (show d < 512 by omega) (show j < 9 by omega)
          rw [nI_1, e1, cl9 (show d ||| 2 ^ j < 1000000 by omega)]
          refine eX_mayCome (by omega) (fun m => br_t rfl (ih2 v hv (fun i hi mi => ?_) ?_)) (fun m => br_f n10 ⟨in9 e2 (by omega), ?_⟩)
          · by_cases e : i = j
            · subst e; exact absurd ((emc i).mpr mi) m
            · exact h4 i (by omega) mi
          · rcases h5 with h5 | ⟨i, hi, mi, h5⟩
            · exact Or.inl h5
            · exact Or.inr ⟨i, by omega, mi, h5⟩
          have mj := (emc j).mp m
          have hbt0 : d.testBit j = false := by rw [← hb_nI (by omega)]; exact m.1
          have hgt := or_gt hbt0
          have hlt : d ||| 2 ^ j < 2 ^ a := Nat.or_lt_two_pow (by omega) (Nat.pow_lt_pow_right (by decide) hj)
          obtain ⟨g1, g2⟩ := h2 (d ||| 2 ^ j) (by omega) hlt
          have gl := g2.1
          rw [g1]
          generalize hnx : LT (c + 4) μ2 (d ||| 2 ^ j) = nx at gl
          refine pk_le v nx (fun t => ih2 v hv (fun i hi mi => ?_) ?_) (fun t => ⟨in9 e2 (by omega), eX_wide h9 (by omega) (by omega) h72 hz2 ?_⟩)
          · by_cases e : i = j
            · subst e; rw [hnx]; omega
            · exact h4 i (by omega) mi
          · rcases h5 with h5 | ⟨i, hi, mi, h5⟩
            · exact Or.inl h5
            · exact Or.inr ⟨i, by omega, mi, h5⟩
          have hw9 : wdX c a z μ2 d j ≤ 990 := sum10_le hz.1 _
          rw [ewd] at hw9 ⊢
          rw [nI_max (by omega) (by omega)]
          generalize hmm : max nx (wdX c a z μ d j) = mm
          have emm : max (wdX c a z μ d j) (LT (c + 4) μ2 (d ||| 2 ^ j)) = mm := by rw [hnx]; omega
          rcases Nat.lt_or_ge mm v with t2 | t2
          · rw [if_pos (nI_lt t2 (by omega))]
            refine ih2 mm (by omega) (fun i hi mi => ?_) (Or.inr ⟨j, by omega, mj, emm.symm⟩)
            by_cases e : i = j
            · subst e; omega
            · have := h4 i (by omega) mi; omega
          · rw [if_neg (nI_nlt t2 (by omega))]
            refine ih2 v hv (fun i hi mi => ?_) ?_
            · by_cases e : i = j
              · subst e; omega
              · exact h4 i (by omega) mi
            · rcases h5 with h5 | ⟨i, hi, mi, h5⟩
              · exact Or.inl h5
              · exact Or.inr ⟨i, by omega, mi, h5⟩
      exact H2 0 (Nat.zero_le _) lim (Nat.le_refl _) (fun i hi => absurd hi (by omega)) (Or.inl rfl)
  refine ⟨by rw [hs.2.2]; exact in9 (by omega) (by omega), fun P17 hP17 => ?_⟩
  have e7 : (μ c 7).toNatClampNeg = 2 ^ a - 1 := by rw [hs.2.2]; exact cl9 (by omega)
  rw [e7]
  have e : (mset μ (c + 4) (2 ^ a - 1) 0) c 7 = nI (2 ^ a - 1) := by
    unfold mset
    rw [mput_o (by omega), hs.2.2]
  rw [e]
  refine H P17 hP17 _ (Nat.le_refl _) _ (Fr_p (Fr_rf _ _) rfl) (fun t ht1 ht2 => ?_)
  have et : t = 2 ^ a - 1 := by omega
  subst et
  have eT : LT (c + 4) (mset μ (c + 4) (2 ^ a - 1) 0) (2 ^ a - 1) = 0 := by unfold LT; rw [m2, pk_us]; decide
  refine ⟨by rw [eT, m2, pk_us]; rfl, ?_⟩
  unfold EQx
  rw [eT]
  exact ⟨Nat.zero_le _, fun _ => rfl, fun q => absurd rfl q⟩
