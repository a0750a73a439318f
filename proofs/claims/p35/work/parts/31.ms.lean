/-! the reference reads a text -/
def sRd : Nat → Prop := fun k => k = 0 ∨ k = 8 ∨ k = 9 ∨ k = 10
def CE (μ μ' : Mem) : Prop := ∀ s, s ≠ 10 → s ≠ 11 → s ≠ 12 → s ≠ 15 → μ' 0 s = μ 0 s
theorem CE_rf (μ : Mem) : CE μ μ := fun _ _ _ _ _ => rfl
theorem CE_tr {μ μ1 μ2 : Mem} (h1 : CE μ μ1) (h2 : CE μ1 μ2) : CE μ μ2 := fun s a b c d => (h2 s a b c d).trans (h1 s a b c d)
theorem CE_u {μ μ1 : Mem} {j : Nat} {v : Int32} (h1 : CE μ μ1) (hj : j = 10 ∨ j = 11 ∨ j = 12 ∨ j = 15) : CE μ (mset μ1 0 j v) := fun s a b c d => by rw [m2, pk_un (by omega)]; exact h1 s a b c d
theorem CE_p {μ μ1 : Mem} {q : Nat} {f : Nat → Int32} (h1 : CE μ μ1) (hq : q ≠ 0) : CE μ (mput μ1 q f) := fun s a b c d => by rw [mput_o hq]; exact h1 s a b c d
def RD (a e rw : Nat) (μ : Mem) : Prop := μ 0 10 = nI a ∧ μ 0 11 = nI e ∧ a ≤ e ∧ e ≤ 240 ∧ μ 0 12 = nI rw ∧ rw ≤ 9 ∧ (∀ w, w < 9 → lo 10 (μ 8 w)) ∧ (∀ w, w < rw → lo w (μ 9 w)) ∧ (∀ t, t < 10 → ∃ v, v ≤ 9 ∧ μ 10 t = nI v)
theorem RD_next {a e rw : Nat} {μ : Mem} (h : RD a e rw μ) (ha : a < e) : RD (a + 1) e rw (mset μ 0 10 ((μ 0 10) + 1)) := by
  obtain ⟨h1, h2, h3, h4, h5, h6, h7, h8, h9⟩ := h
  refine ⟨?_, ?_, by omega, h4, ?_, h6, fun w hw => ?_, fun w hw => ?_, fun t ht => ?_⟩
  · rw [m2, pk_us, h1, nI_1]
  · rw [m2, pk_un (by decide)]; exact h2
  · rw [m2, pk_un (by decide)]; exact h5
  · unfold mset; rw [mput_o (by decide)]; exact h7 w hw
  · unfold mset; rw [mput_o (by decide)]; exact h8 w hw
  · unfold mset; rw [mput_o (by decide)]; exact h9 t ht
theorem sM_codeAt {a e rw : Nat} {μ : Mem} {post : Int32 → Mem → Prop} (h : RD a e rw μ) (k9 : e ≤ a → post (-9) μ) (k : a < e → post (μ 3 a) μ) : T_X12_codeAt μ post := by
  obtain ⟨h1, h2, h3, h4, -⟩ := h
  unfold T_X12_codeAt
  rw [h1, h2, cl9 (show a < 1000000 by omega)]
  exact pk_le e a k9 (fun q => ⟨in9 (by omega) (by omega), k q⟩)
theorem RD_store {a e rw : Nat} {x1 x2 : Int32} {μ : Mem} (h : RD a e rw μ) (hrw : rw < 9) (hx : lo 10 x1) (hx2 : lo rw x2) : RD a e (rw + 1) (mset (mset (mset μ 8 rw x1) 9 rw x2) 0 12 (nI (rw + 1))) := by
  obtain ⟨h1, h2, h3, h4, h5, h6, h7, h8, h9⟩ := h
  have g0 : (mset (mset μ 8 rw x1) 9 rw x2) 0 = μ 0 := by unfold mset; rw [mput_o (by decide), mput_o (by decide)]
  refine ⟨?_, ?_, h3, h4, ?_, by omega, fun w hw => ?_, fun w hw => ?_, fun t ht => ?_⟩
  · rw [m2, pk_un (by decide), g0]; exact h1
  · rw [m2, pk_un (by decide), g0]; exact h2
  · rw [m2, pk_us]
  · unfold mset
    rw [mput_o (by decide), mput_o (by decide), mput_same]
    by_cases e : w = rw
    · subst e; rw [pk_us]; exact hx
    · rw [pk_un e]; exact h7 w hw
  · unfold mset
    rw [mput_o (by decide), mput_same, mput_o (by decide)]
    by_cases e : w = rw
    · subst e; rw [pk_us]; exact hx2
    · rw [pk_un e]; exact h8 w (by omega)
  · unfold mset
    rw [mput_o (by decide), mput_o (by decide), mput_o (by decide)]; exact h9 t ht
theorem sM_rw55 {a e rw : Nat} {x1 : Int32} {μ0 μ : Mem} {post : Int32 → Mem → Prop} (hx : lo 10 x1) (h : RD a e rw μ) (hrw : rw < 9) (hf : Fr sRd μ0 μ) (hc : CE μ0 μ) (k : ∀ u a' rw' μ', (u = 0 ∨ u = 1) → a ≤ a' → RD a' e rw' μ' → Fr sRd μ0 μ' → CE μ0 μ' → post u μ') : T_X12_readsWork_55 post x1 0 μ := by
  intro P hP
  have H : ∀ f a1 x2 μ1, e - a1 = f → a ≤ a1 → lo rw x2 → RD a1 e rw μ1 → Fr sRd μ0 μ1 → CE μ0 μ1 → P x1 x2 μ1 := by
    intro f
    induction f using Nat.strongRecOn with
    | ind f ih =>
      intro a1 x2 μ1 hfu ha hx2 h1 hf1 hc1
      have hst : vp_in (μ1 0 12) 9 ∧ vp_in ((mset μ1 8 (μ1 0 12).toNatClampNeg x1) 0 12) 9 ∧ post 1 (mset (mset (mset μ1 8 (μ1 0 12).toNatClampNeg x1) 9 ((mset μ1 8 (μ1 0 12).toNatClampNeg x1) 0 12).toNatClampNeg x2) 0 12 (((mset (mset μ1 8 (μ1 0 12).toNatClampNeg x1) 9 ((mset μ1 8 (μ1 0 12).toNatClampNeg x1) 0 12).toNatClampNeg x2) 0 12) + 1)) := by
        have e12 := h1.2.2.2.2.1
        have g1 : ∀ j v, (mset μ1 8 j v) 0 = μ1 0 := fun j v => mput_o (by decide)
        have g2 : ∀ j v i u, (mset (mset μ1 8 j v) 9 i u) 0 = μ1 0 := fun j v i u => by unfold mset; rw [mput_o (by decide), mput_o (by decide)]
        rw [g2, g1, e12, cl9 (show rw < 1000000 by omega), nI_1]
        exact ⟨in9 hrw (by omega), in9 hrw (by omega), k 1 a1 (rw + 1) _ (Or.inr rfl) ha (RD_store h1 hrw hx hx2) (Fr_p (Fr_p (Fr_p hf1 (by unfold sRd; omega)) (by unfold sRd; omega)) (by unfold sRd; omega)) (CE_u (CE_p (CE_p hc1 (by decide)) (by decide)) (by omega))⟩
      refine hP _ _ _ (sM_codeAt h1 (fun _ => rb_t (by decide) hst) (fun q => ⟨fun _ => hst, fun _ => ?_⟩))
      have h2 := RD_next h1 q
      have hf2 : Fr sRd μ0 (mset μ1 0 10 ((μ1 0 10) + 1)) := Fr_p hf1 (Or.inl rfl)
      have hc2 : CE μ0 (mset μ1 0 10 ((μ1 0 10) + 1)) := CE_u hc1 (by omega)
      generalize mset μ1 0 10 ((μ1 0 10) + 1) = μ2 at h2 hf2 hc2 ⊢
      have k0 : post 0 μ2 := k 0 (a1 + 1) rw μ2 (Or.inl rfl) (by omega) h2 hf2 hc2
      refine sM_codeAt h2 (fun _ => sM_isIn (fun _ => br_t rfl k0) (fun q1 _ => absurd (by decide) q1)) (fun q2 => sM_isIn (fun _ => br_t rfl k0) (fun q3 q4 => br_f n10 ?_))
      rw [h2.2.2.2.2.1] at q4
      rcases Nat.eq_zero_or_pos rw with e0 | e0
      · subst e0
        exfalso
        obtain ⟨j, hj, ej⟩ := nI_of q3
        rw [ej] at q4
        exact q4 (by rw [Int32.lt_iff_toInt_lt, nI_toInt hj, show (nI 0 - 1).toInt = -1 by decide]; omega)
      · obtain ⟨rw', rfl⟩ : ∃ r, rw = r + 1 := ⟨rw - 1, by omega⟩
        rw [nI_pred] at q4
        obtain ⟨t, ht, et⟩ := in_of (n := rw') (by omega) q3 q4
        rw [et]
        exact sM_has' (br_t rfl (ih (e - (a1 + 1 + 1)) (by omega) _ _ _ rfl (by omega) (lo_or hx2 (lo_shl ht (by omega))) (RD_next h2 q2) (Fr_p hf2 (Or.inl rfl)) (CE_u hc2 (by omega)))) (br_f n10 k0)
  exact H _ a 0 μ rfl (Nat.le_refl _) (lo_0 _) h hf hc
theorem sM_readsWork {a e rw : Nat} {μ0 μ : Mem} {post : Int32 → Mem → Prop} (h : RD a e rw μ) (hrw : rw < 9) (hf : Fr sRd μ0 μ) (hc : CE μ0 μ) (k : ∀ u a' rw' μ', (u = 0 ∨ u = 1) → a ≤ a' → RD a' e rw' μ' → Fr sRd μ0 μ' → CE μ0 μ' → post u μ') : T_X12_readsWork μ post := by
  intro P hP
  have H : ∀ f a1 x1 μ1, e - a1 = f → a ≤ a1 → lo 10 x1 → RD a1 e rw μ1 → Fr sRd μ0 μ1 → CE μ0 μ1 → P x1 μ1 := by
    intro f
    induction f using Nat.strongRecOn with
    | ind f ih =>
      intro a1 x1 μ1 hfu ha hx h1 hf1 hc1
      have h55 : T_X12_readsWork_55 post x1 0 μ1 := sM_rw55 hx h1 hrw hf1 hc1 (fun u a' rw' μ' hu ha' => k u a' rw' μ' hu (by omega))
      refine hP _ _ (sM_codeAt h1 (fun _ => sM_isIn (fun _ => br_t rfl h55) (fun q1 _ => absurd (by decide) q1)) (fun q => sM_isIn (fun _ => br_t rfl h55) (fun q1 q2 => br_f n10 (sM_codeAt h1 (fun q3 => absurd q3 (by omega)) (fun _ => ?_)))))
      obtain ⟨t, ht, et⟩ := rngS 97 106 (by omega) q1 q2 (by omega)
      rw [show μ1 3 a1 - 97 = nI t from et]
      exact sM_has' (br_t rfl (ih (e - (a1 + 1)) (by omega) _ _ _ rfl (by omega) (lo_or hx (lo_shl (by omega) (by omega))) (RD_next h1 q) (Fr_p hf1 (Or.inl rfl)) (CE_u hc1 (by omega)))) (br_f n10 (k 0 a1 rw μ1 (Or.inl rfl) ha h1 hf1 hc1))
  exact H _ a 0 μ rfl (Nat.le_refl _) (lo_0 _) h hf hc
theorem sM_readsSize {a e rw : Nat} {μ0 μ : Mem} {post : Int32 → Mem → Prop} (h : RD a e rw μ) (hf : Fr sRd μ0 μ) (hc : CE μ0 μ) (k : ∀ u a' rw' μ', (u = 0 ∨ u = 1) → a ≤ a' → RD a' e rw' μ' → Fr sRd μ0 μ' → CE μ0 μ' → post u μ') : T_X12_readsSize μ post := by
  have k0 : post 0 μ := k 0 a rw μ (Or.inl rfl) (Nat.le_refl _) h hf hc
  refine sM_codeAt h (fun _ => sM_isIn (fun _ => br_t rfl k0) (fun q1 _ => absurd (by decide) q1)) (fun q => sM_isIn (fun _ => br_t rfl k0) (fun q1 q2 => br_f n10 (sM_has' (br_t rfl ?_) (br_f n10 k0))))
  obtain ⟨t, ht, et⟩ := in_of (n := 9) (by omega) q1 q2
  rw [et]
  have h2 := RD_next h q
  have hf2 : Fr sRd μ0 (mset μ 0 10 ((μ 0 10) + 1)) := Fr_p hf (Or.inl rfl)
  have hc2 : CE μ0 (mset μ 0 10 ((μ 0 10) + 1)) := CE_u hc (by omega)
  generalize mset μ 0 10 ((μ 0 10) + 1) = μ2 at h2 hf2 hc2 ⊢
  have k02 : post 0 μ2 := k 0 (a + 1) rw μ2 (Or.inl rfl) (by omega) h2 hf2 hc2
  refine sM_codeAt h2 (fun _ => sM_isIn (fun _ => rb_f rfl k02) (fun q1 _ => absurd (by decide) q1)) (fun q3 => sM_isIn (fun _ => rb_f rfl k02) (fun q4 q5 => rb_t n10 ⟨in9 (by omega) (by omega), ?_⟩))
  obtain ⟨v, hv, ev⟩ := rngI 1 9 (by omega) q4 q5 (by omega)
  rw [ev, cl9 (show t < 1000000 by omega)]
  obtain ⟨g1, g2, g3, g4, g5, g6, g7, g8, g9⟩ := h2
  have hg : ∀ y, (mset (mset μ2 0 15 y) 10 t (nI (1 + v))) 0 = upd (μ2 0) 15 y := fun y => by unfold mset; rw [mput_o (by decide), mput_same]
  refine k 1 (a + 1 + 1) rw _ (Or.inr rfl) (by omega) ⟨?_, ?_, by omega, g4, ?_, g6, fun w hw => ?_, fun w hw => ?_, fun t2 ht2 => ?_⟩ (Fr_p (Fr_p (Fr_p hf2 (Or.inl rfl)) (by unfold sRd; omega)) (Or.inl rfl)) (CE_u (CE_p (CE_u hc2 (by omega)) (by decide)) (by omega))
  · rw [m2, pk_us, hg, pk_un (by decide), g1, nI_1]
  · rw [m2, pk_un (by decide), hg, pk_un (by decide)]; exact g2
  · rw [m2, pk_un (by decide), hg, pk_un (by decide)]; exact g5
  · unfold mset
    rw [mput_o (by decide), mput_o (by decide), mput_o (by decide)]; exact g7 w hw
  · unfold mset
    rw [mput_o (by decide), mput_o (by decide), mput_o (by decide)]; exact g8 w hw
  · unfold mset
    rw [mput_o (by decide), mput_same, mput_o (by decide)]
    by_cases e2 : t2 = t
    · subst e2; rw [pk_us]; exact ⟨1 + v, by omega, rfl⟩
    · rw [pk_un e2]; exact g9 t2 ht2
theorem sM_readsAll {a e rw0 : Nat} {μ0 μ : Mem} {post : Int32 → Mem → Prop} (h : RD a e rw0 μ) (hf : Fr sRd μ0 μ) (hc : CE μ0 μ) (k : ∀ u a' rw' μ', RD a' e rw' μ' → Fr sRd μ0 μ' → CE μ0 μ' → post u μ') : T_X12_readsAll μ post := by
  intro P hP
  have H : ∀ f a1 rw x1 μ1, e - a1 = f → RD a1 e rw μ1 → Fr sRd μ0 μ1 → CE μ0 μ1 → P x1 μ1 := by
    intro f
    induction f using Nat.strongRecOn with
    | ind f ih =>
      intro a1 rw x1 μ1 hfu h1 hf1 hc1
      have k0 : post 0 μ1 := k 0 a1 rw μ1 h1 hf1 hc1
      refine hP _ _ (sM_codeAt h1 (fun _ => rb_t (by decide) (rb_f rfl ⟨fun _ => k0, fun q => absurd q (by decide)⟩)) (fun q => ?_))
      have h2 := RD_next h1 q
      have hf2 : Fr sRd μ0 (mset μ1 0 10 ((μ1 0 10) + 1)) := Fr_p hf1 (Or.inl rfl)
      have hc2 : CE μ0 (mset μ1 0 10 ((μ1 0 10) + 1)) := CE_u hc1 (by omega)
      have h97 : ∀ a2 rw2 μ2, a1 + 1 ≤ a2 → RD a2 e rw2 μ2 → Fr sRd μ0 μ2 → CE μ0 μ2 → T_X12_readsAll_97 post P x1 μ2 := by
        intro a2 rw2 μ2 ha2 g2 gf gc
        have k02 : ∀ u, post u μ2 := fun u => k u a2 rw2 μ2 g2 gf gc
        exact ⟨fun _ => sM_codeAt g2 (fun _ => rb_t (by decide) (k02 _)) (fun q3 => ⟨fun _ => k02 _, fun _ => ⟨fun _ => ih (e - (a2 + 1)) (by omega) _ _ _ _ rfl (RD_next g2 q3) (Fr_p gf (Or.inl rfl)) (CE_u gc (by omega)), fun _ => k02 _⟩⟩), fun _ => k02 _⟩
      have h64 : ∀ s, (s ≠ 0 → rw < 9) → T_X12_readsAll_64 post P x1 s μ1 := fun s hs =>
        ⟨fun _ => sM_readsSize h2 hf2 hc2 (fun u a' rw' μ' hu ha' g gf gc => ⟨fun _ => h97 a' rw' μ' ha' g gf gc, fun _ => k _ a' rw' μ' g gf gc⟩), fun q3 => sM_readsWork h2 (hs q3) hf2 hc2 (fun u a' rw' μ' hu ha' g gf gc => ⟨fun _ => h97 a' rw' μ' ha' g gf gc, fun _ => k _ a' rw' μ' g gf gc⟩)⟩
      have h43 : T_X12_readsAll_43 post P x1 (μ1 3 a1) μ1 := rb_f rfl ⟨fun _ => k0, fun _ => ⟨fun _ => h64 0 (fun q3 => absurd rfl q3), fun _ => k0⟩⟩
      exact ⟨fun _ => h43, fun _ => ⟨fun _ => h43, fun _ => pk_le 9 rw (fun _ => h43) (fun hlt => ⟨fun _ => h64 1 (fun _ => hlt), fun q3 => absurd q3 n10⟩) rfl h1.2.2.2.2.1 (by omega) (by have := h1.2.2.2.2.2.1; omega)⟩⟩
  refine H _ a 0 _ _ rfl ?_ (Fr_p (Fr_p hf (Or.inl rfl)) (Or.inl rfl)) (CE_u (CE_u hc (by omega)) (by omega))
  obtain ⟨g1, g2, g3, g4, g5, g6, g7, g8, g9⟩ := h
  refine ⟨?_, ?_, g3, g4, ?_, by omega, fun w hw => ?_, fun w hw => absurd hw (by omega), fun t ht => ?_⟩
  · rw [m2, pk_un (by decide), m2, pk_un (by decide)]; exact g1
  · rw [m2, pk_un (by decide), m2, pk_un (by decide)]; exact g2
  · rw [m2, pk_un (by decide), m2, pk_us]; rfl
  · unfold mset; rw [mput_o (by decide), mput_o (by decide)]; exact g7 w hw
  · unfold mset; rw [mput_o (by decide), mput_o (by decide)]; exact g9 t ht
/-! no ring -/
def Acyc (n : Nat) (bf : Nat → Int32) : Prop := ∀ S : Nat → Prop, (∃ w, w < n ∧ S w) → ∃ w, w < n ∧ S w ∧ ∀ v, v < n → hb (bf w) v = true → ¬ S v
theorem Acyc_lo {n : Nat} {bf : Nat → Int32} (h : ∀ w, w < n → lo w (bf w)) : Acyc n bf := by
  intro S hS
  obtain ⟨w, ⟨hw, hSw⟩, hmin⟩ := pk_least (fun w => w < n ∧ S w) hS
  refine ⟨w, hw, hSw, fun v hv hbv hSv => ?_⟩
  by_cases e : v < w
  · exact hmin v e ⟨hv, hSv⟩
  · rw [h w hw v (by omega)] at hbv
    exact absurd hbv (by decide)
theorem Acyc_sub {n : Nat} {bf bf' : Nat → Int32} (h : Acyc n bf) (hs : ∀ w, w < n → ∀ v, v < n → hb (bf' w) v = true → hb (bf w) v = true) : Acyc n bf' := by
  intro S hS
  obtain ⟨w, hw, hSw, hm⟩ := h S hS
  exact ⟨w, hw, hSw, fun v hv hbv => hm v hv (hs w hw v hv hbv)⟩
/-- one more before, of w to o, where o isn't among what must come ahead of w -/
theorem Acyc_add {n w o : Nat} {bf bf' : Nat → Int32} {A : Nat → Prop} (h : Acyc n bf) (hw : w < n) (hA : ∀ v, v < n → hb (bf w) v = true → A v) (hcl : ∀ x, x < n → A x → ∀ v, v < n → hb (bf x) v = true → A v) (ho : ¬ A o) (hwo : w ≠ o) (hb' : ∀ x, x < n → ∀ v, v < n → hb (bf' x) v = true → hb (bf x) v = true ∨ (x = o ∧ v = w)) : Acyc n bf' := by
  intro S hS
  by_cases hC : ∃ x, x < n ∧ (S x ∧ (A x ∨ x = w))
  · obtain ⟨x, hx, ⟨hSx, hCx⟩, hm⟩ := h (fun x => S x ∧ (A x ∨ x = w)) hC
    refine ⟨x, hx, hSx, fun v hv hbv hSv => ?_⟩
    have hxo : x ≠ o := by
      intro e
      subst e
      rcases hCx with q | q
      · exact ho q
      · exact hwo q.symm
    rcases hb' x hx v hv hbv with q | q
    · refine hm v hv q ⟨hSv, Or.inl ?_⟩
      rcases hCx with q2 | q2
      · exact hcl x hx q2 v hv q
      · subst q2; exact hA v hv q
    · exact hxo q.1
  · obtain ⟨x, hx, hSx, hm⟩ := h S hS
    refine ⟨x, hx, hSx, fun v hv hbv hSv => ?_⟩
    rcases hb' x hx v hv hbv with q | q
    · exact hm v hv q hSv
    · exact hC ⟨v, hv, hSv, Or.inr q.2⟩
