/-! the reference as a whole: its invariant -/
def sM : Nat → Prop := fun k => 13 ≤ k
/-- not the sheets -/
def sMN : Nat → Prop := fun k => k = 0 ∨ 4 ≤ k
theorem M_MN {μ μ' : Mem} (f : Fr sM μ μ') : Fr sMN μ μ' := Fr_mono f (fun k q => by unfold sM at q; unfold sMN; omega)
theorem MN0 : sMN 0 := Or.inl rfl
/-- no ring, and no before of a work that isn't there -/
def AC (n : Nat) (bf : Nat → Int32) : Prop := Acyc n bf ∧ ∀ w, w < n → lo n (bf w)
def IM (n m : Nat) (μ : Mem) : Prop := WM n μ ∧ AC n (μ 5) ∧ UZ μ ∧ (∀ k, k < 4 → ∃ l, l ≤ 60 ∧ μ 2 k = nI l) ∧ (∀ w, w < 9 → lo 10 (μ 8 w)) ∧ (∀ t, t < 10 → ∃ v, v ≤ 9 ∧ μ 10 t = nI v) ∧ m ≤ 8 ∧ μ 0 17 = nI m ∧ (∀ j, j < m → ∀ k, k < n → ∃ v, v < n ∧ μ 12 (9 * j + k) = nI v)
theorem IM_fr {n m : Nat} {μ μ' : Mem} (h : IM n m μ) (f : Fr sM μ μ') (hz : UZ μ') : IM n m μ' := by
  obtain ⟨a1, a2, a3, a4, a5, a6, a7, a8, a9⟩ := h
  refine ⟨WM_fr a1 f (by unfold sM; omega) (by unfold sM; omega) (by unfold sM; omega), ?_, hz, ?_, ?_, ?_, a7, ?_, ?_⟩
  · rw [f 5 (by unfold sM; omega)]; exact a2
  · rw [f 2 (by unfold sM; omega)]; exact a4
  · rw [f 8 (by unfold sM; omega)]; exact a5
  · rw [f 10 (by unfold sM; omega)]; exact a6
  · rw [f 0 (by unfold sM; omega)]; exact a8
  · rw [f 12 (by unfold sM; omega)]; exact a9
def freM (q : Nat) : Prop := q = 1 ∨ q = 3 ∨ q = 7 ∨ q = 9 ∨ q = 11 ∨ q = 13 ∨ q = 15 ∨ q = 16 ∨ 18 ≤ q
theorem IM_free {n m : Nat} {μ μ' : Mem} (h : IM n m μ) (f : Fr freM μ μ') : IM n m μ' := by
  obtain ⟨a1, a2, a3, a4, a5, a6, a7, a8, a9⟩ := h
  refine ⟨WM_fr a1 f (by unfold freM; omega) (by unfold freM; omega) (by unfold freM; omega), ?_, UZ_fr a3 f (by unfold freM; omega) (by unfold freM; omega), ?_, ?_, ?_, a7, ?_, ?_⟩
  · rw [f 5 (by unfold freM; omega)]; exact a2
  · rw [f 2 (by unfold freM; omega)]; exact a4
  · rw [f 8 (by unfold freM; omega)]; exact a5
  · rw [f 10 (by unfold freM; omega)]; exact a6
  · rw [f 0 (by unfold freM; omega)]; exact a8
  · rw [f 12 (by unfold freM; omega)]; exact a9
theorem IM_0 {n m s : Nat} {v : Int32} {μ : Mem} (h : IM n m μ) (h5 : s ≠ 5) (h17 : s ≠ 17) : IM n m (mset μ 0 s v) := by
  obtain ⟨a1, a2, a3, a4, a5, a6, a7, a8, a9⟩ := h
  have f : Fr (fun q => q = 0) μ (mset μ 0 s v) := Fr_put _ _ rfl
  refine ⟨WM_of a1 (by rw [m2, pk_un (by omega)]) (f 4 (by omega)) (f 6 (by omega)), ?_, UZ_fr a3 f (by omega) (by omega), ?_, ?_, ?_, a7, ?_, ?_⟩
  · rw [f 5 (by omega)]; exact a2
  · rw [f 2 (by omega)]; exact a4
  · rw [f 8 (by omega)]; exact a5
  · rw [f 10 (by omega)]; exact a6
  · rw [m2, pk_un (by omega)]; exact a8
  · rw [f 12 (by omega)]; exact a9
theorem mRow {n m j : Nat} {μ μ' : Mem} (h : IM n m μ) (hj : j < m) (he : ∀ i, i < n → μ' 13 i = μ 12 (9 * j + i)) : RWn n 13 μ' := fun k hk => by
  rw [he k hk]
  exact h.2.2.2.2.2.2.2.2 j hj k hk
theorem f13_M {μ μ' : Mem} (f : Fr (fun q => q = 13) μ μ') : Fr sM μ μ' := Fr_mono f (fun k q => by unfold sM; omega)
theorem fL_M {μ μ' : Mem} (f : Fr sL15 μ μ') : Fr sM μ μ' := Fr_mono f (fun k q => by unfold sL15 at q; unfold sM; omega)
theorem f16_M {μ μ' : Mem} (f : Fr (fun q => q = 16) μ μ') : Fr sM μ μ' := Fr_mono f (fun k q => by unfold sM; omega)
theorem f18_M {μ μ' : Mem} (f : Fr (fun q => q = 18) μ μ') : Fr sM μ μ' := Fr_mono f (fun k q => by unfold sM; omega)
section MCalls
variable {n m : Nat} {μ : Mem} {post : Int32 → Mem → Prop} {x1 x2 x3 x4 x5 : Int32}
theorem mM (h : IM n m μ) : μ 0 17 = nI m := h.2.2.2.2.2.2.2.1
theorem mM8 (h : IM n m μ) : m ≤ 8 := h.2.2.2.2.2.2.1
theorem mN (h : IM n m μ) : n ≤ 9 := h.1.2.1
/-- an order of the reference is looked at -/
theorem sM_look {j : Nat} {post : Mem → Prop} (h : IM n m μ) (hj : j < m) (k : ∀ μ', Fr (fun q => q = 13) μ μ' → IM n m μ' → RWn n 13 μ' → (∀ i, i < n → μ' 13 i = μ 12 (9 * j + i)) → post μ') : T_X12_lookAt (nI j) μ post :=
  sM_lookAt h.1 (by have := mM8 h; omega) (fun μ' hf he => k μ' hf (IM_free h (Fr_mono hf (fun q hq => by unfold freM; omega))) (mRow h hj he) he)
theorem pM_ofWork (h : IM n m μ) (k : ∀ r, post r μ) : T_X12_ofWork x1 x2 μ post := by
  have h9 := mN h
  refine sM_isWork h.1 (fun _ => rb_f rfl (k _)) (fun j hj e => rb_t n10 ?_)
  subst e
  have i1 := in9 (show j < 9 by omega) (by omega)
  exact ⟨fun _ => ⟨fun _ => k _, fun _ => ⟨i1, k _⟩⟩, fun _ => ⟨i1, k _⟩⟩
theorem pM_ofOrder (h : IM n m μ) (k : ∀ r μ', Fr sM μ μ' → IM n m μ' → post r μ') : T_X12_ofOrder x1 x2 μ post := by
  have h9 := mN h
  have h8 := mM8 h
  refine sM_isOrder (mM h) h8 (fun _ => rb_f rfl (k _ μ (Fr_rf _ _) h)) (fun j hj e => rb_t n10 ?_)
  subst e
  refine sM_look h hj (fun μ2 hf h2 hr he => ?_)
  have k2 : ∀ r, post r μ2 := fun r => k r μ2 (f13_M hf) h2
  refine ⟨fun _ => ⟨in9 (by omega) (by omega), k2 _⟩, fun _ => sM_mostE h2.1 rfl hr (k2 _), fun _ => sM_longE h2.1 rfl hr (k2 _), fun _ => sM_lawful' h2.1 rfl hr ⟨fun _ => k2 _, fun _ => k2 _⟩ ⟨fun _ => k2 _, fun _ => k2 _⟩, fun _ _ _ _ => ⟨fun _ => k2 _, fun q1 => ⟨fun _ => k2 _, fun q2 => ⟨fun q3 => ?_, fun _ => k2 _⟩⟩⟩⟩
  obtain ⟨t, ht, rfl⟩ := rngI 10 38 (by omega) q1 q2 (by omega)
  have e : nI (10 + t) - nI (10 + t) / 10 * 10 = nI ((10 + t) % 10) := pk_rem (d := 10) (by omega) (by omega) (by omega)
  rw [e] at q3 ⊢
  rw [h2.1.1, nI_ltI (by omega) (by omega)] at q3
  exact ⟨fun _ => ⟨fun _ => sM_openE h2.1 rfl hr (by omega) (sM_sizeE (k2 _)), fun _ => sM_openE h2.1 rfl hr (by omega) (k2 _)⟩, fun _ => ⟨in9 (by omega) (by omega), k2 _⟩⟩
theorem pM_best (h : IM n m μ) (k : ∀ r μ', Fr sM μ μ' → IM n m μ' → post r μ') : T_X12_best x1 μ post := by
  have h9 := mN h
  have hp := pow9 h9
  have hp1 : 1 ≤ 2 ^ n := Nat.one_le_two_pow
  have h38 : (x1 ≠ 0 → x1 ≠ 1 → ∃ p, p < n ∧ x1 = nI (10 + p)) → T_X12_best_38 post x1 μ := by
    intro hx
    refine sM_all h.1 (sM_leastOf h.1 h.2.2.1 (by omega) (fun μ1 μ2 hf2 hfu hf15 hz1 _ _ hE => ?_))
    have hz2 : UZ μ2 := UZ_fr hz1 hf15 (by omega) (by omega)
    have h2 := IM_fr h (fL_M hf2) hz2
    have hw1 := WM_fr h.1 hfu (by unfold sU; omega) (by unfold sU; omega) (by unfold sU; omega)
    have hA1 : Acyc n (μ1 5) := by rw [hfu 5 (by unfold sU; omega)]; exact h.2.1.1
    have hbar : LT 15 μ2 0 ≤ 990 := least_990 hw1 hz1 hA1 hE (2 ^ n - 1) 0 (by omega)
    refine ⟨fun q0 => sM_layLong h2.1 hz2 (by omega) (fun μ3 hf3 hL => ?_), fun _ => k _ μ2 (fL_M hf2) h2⟩
    have hz3 : UZ μ3 := UZ_fr hz2 hf3 (by omega) (by omega)
    have h3 := IM_fr h2 (f16_M hf3) hz3
    have kk : ∀ r, post r μ3 := fun r => k r μ3 (Fr_tr (fL_M hf2) (f16_M hf3)) h3
    refine ⟨fun q1 => ?_, fun _ => ⟨i512, kk _⟩⟩
    obtain ⟨p, hpn, ex⟩ := hx q0 q1
    subst ex
    have cm : ∀ u s w, mcN μ3 u s w = mcN μ1 u s w := fun u s w => by rw [mcN_of (hf3 5 (by omega)), mcN_of (hf15 5 (by omega))]
    have cw : ∀ u s w, wdN μ3 u s w = wdN μ1 u s w := fun u s w => by rw [wdN_of (hf3 4 (by omega)) (hf3 14 (by omega)) (hf3 17 (by omega)), wdN_of (hf15 4 (by omega)) (hf15 14 (by omega)) (hf15 17 (by omega))]
    have cm2 : ∀ u s w, mcN μ2 u s w = mcN μ1 u s w := fun u s w => by rw [mcN_of (hf15 5 (by omega))]
    have cw2 : ∀ u s w, wdN μ2 u s w = wdN μ1 u s w := fun u s w => by rw [wdN_of (hf15 4 (by omega)) (hf15 14 (by omega)) (hf15 17 (by omega))]
    have hL1 : ∀ s, s < 2 ^ n → EQl μ1 n (2 ^ n - 1) (LT 15 μ2 0) μ3 s := fun s hs => by
      obtain ⟨g1, g2, g3⟩ := hL s hs
      refine ⟨g1, g2, ?_⟩
      rw [g3]
      have e1 : mcN μ2 (2 ^ n - 1) s = mcN μ1 (2 ^ n - 1) s := funext (cm2 _ s)
      have e2 : itsN μ2 (2 ^ n - 1) (LT 15 μ2 0) s (LT 16 μ3) = itsN μ1 (2 ^ n - 1) (LT 15 μ2 0) s (LT 16 μ3) := funext (fun w => by unfold itsN; rw [cw2])
      rw [e1, e2]
    have hfin0 : LT 16 μ3 0 < 1000000 := by
      have := long_fin hw1 hz1 hE hL1 hbar (2 ^ n - 1) 0 (by omega) (Nat.le_refl _)
      omega
    have hE3 : ∀ s, s < 2 ^ n → μ3 16 s = nI (LT 16 μ3 s) ∧ LT 16 μ3 s ≤ 1000000 := fun s hs => ⟨(hL s hs).1, (hL s hs).2.1⟩
    have nx1 : ∀ s w, nxN μ3 n (LT 15 μ2 0) (LT 16 μ3) s w ↔ nxN μ1 n (LT 15 μ2 0) (LT 16 μ3) s w := fun s w => by unfold nxN; rw [cm, cw]
    have step : ∀ s, s < 2 ^ n → s ≠ 2 ^ n - 1 → LT 16 μ3 s < 1000000 → ∀ post2 : Int32 → Mem → Prop, (∀ w, w < n → hb (nI s) w = false → LT 16 μ3 (s ||| 2 ^ w) < 1000000 → post2 (nI w) μ3) → T_X12_nextFrom (nI s) (nI (LT 15 μ2 0)) μ3 post2 := by
      intro s hs hne hfin post2 k2
      refine sM_nextFrom h3.1 hz3 (by omega) hs hE3 (fun hno => ?_) (fun w hw hx _ => k2 w hw (mcN_b hx.1).2 (by have := hx.2.2; omega))
      obtain ⟨w, hw, hx⟩ := next_some (hL1 s hs) hfin hne
      exact absurd ((nx1 s w).mpr hx) (hno w hw)
    have H : ∀ j, j ≤ p → ∀ s w, s < 2 ^ n → cntB (nI s) n = j → w < n → hb (nI s) w = false → LT 16 μ3 (s ||| 2 ^ w) < 1000000 → T_X12_best_83 post (nI (10 + p)) (nI (LT 15 μ2 0)) (nI s) (nI w) (nI j) μ3 := by
      intro j hj s w hs hcnt hw hbw hfin P hP
      revert s w
      refine down_ind (n := p) (Q := fun j => ∀ s w, s < 2 ^ n → cntB (nI s) n = j → w < n → hb (nI s) w = false → LT 16 μ3 (s ||| 2 ^ w) < 1000000 → P (nI (10 + p)) (nI (LT 15 μ2 0)) (nI s) (nI w) (nI j) μ3) (fun s w hs hcnt hw hbw hfin => ?_) (fun j hj ih s w hs hcnt hw hbw hfin => ?_) j hj
      · refine hP _ _ _ _ _ _ (br_t ?_ (kk _))
        rw [show nI (10 + p) - 10 = nI (10 + p - 10) from pk_sub (b := 10) (by omega), show 10 + p - 10 = p by omega]
        exact nI_self_le p
      · refine hP _ _ _ _ _ _ (br_f ?_ ?_)
        · rw [show nI (10 + p) - 10 = nI (10 + p - 10) from pk_sub (b := 10) (by omega), show 10 + p - 10 = p by omega]
          exact nI_ge hj (by omega)
        · have hc := cntB_or (show w < 32 by omega) hbw n
          obtain ⟨eo, ho⟩ := set_or (show s < 512 by omega) (show w < 9 by omega)
          rw [eo] at hc ⊢
          rw [if_pos hw, hcnt] at hc
          have hlt : s ||| 2 ^ w < 2 ^ n := Nat.or_lt_two_pow hs (Nat.pow_lt_pow_right (by decide) hw)
          have hne : s ||| 2 ^ w ≠ 2 ^ n - 1 := fun e => by
            rw [e, cntB_all h9 n (Nat.le_refl _)] at hc
            omega
          refine step _ hlt hne hfin _ (fun w2 hw2 hb2 hf2 => ?_)
          rw [nI_1]
          exact ih _ w2 hlt hc hw2 hb2 hf2
    have hne0 : 0 ≠ 2 ^ n - 1 := by
      have : 2 ^ 1 ≤ 2 ^ n := Nat.pow_le_pow_right (by decide) (by omega)
      omega
    refine step 0 (by omega) hne0 hfin0 _ (fun w hw hbw hfin => H 0 (Nat.zero_le _) 0 w (by omega) ?_ hw hbw hfin)
    have : ∀ k, cntB (nI 0) k = 0 := by
      intro k
      induction k with
      | zero => rfl
      | succ k ih => rw [cntB_s, ih, show nI 0 = 0 from rfl, hb_0]; rfl
    exact this n
  refine ⟨fun _ => ⟨fun q => h38 (fun q2 => absurd q q2), fun q => ⟨fun q1 => h38 (fun _ q2 => absurd q1 q2), fun q1 => sM_isIn (fun _ => rb_f rfl (k _ μ (Fr_rf _ _) h)) (fun q2 q3 => rb_t n10 (h38 (fun _ _ => ?_)))⟩⟩, fun _ => k _ μ (Fr_rf _ _) h⟩
  have e9 : (9 : Int32) + μ 0 5 = nI (9 + n) := by rw [h.1.1, show (9 : Int32) = nI 9 from rfl, nI_add]
  rw [e9] at q3
  rcases Nat.eq_zero_or_pos n with q4 | q4
  · exfalso
    rw [q4] at q3
    rw [Int32.lt_iff_toInt_lt] at q2 q3
    rw [show (10 : Int32).toInt = 10 by decide] at q2
    rw [nI_toInt (by omega)] at q3
    omega
  · obtain ⟨t, ht, e⟩ := rngI 10 (9 + n) (by omega) q2 q3 (by omega)
    exact ⟨t, by omega, e⟩
end MCalls
