/-! the reference's moves, room, tables -/
theorem foldN_cong {α : Type} {f g : Nat → α → α} {a : α} : ∀ k, (∀ i, i < k → f i = g i) → foldN f a k = foldN g a k := by
  intro k
  induction k with
  | zero => exact fun _ => rfl
  | succ k ih =>
    intro h
    show f k (foldN f a k) = g k (foldN g a k)
    rw [ih (fun i hi => h i (by omega)), h k (by omega)]
theorem openF_cong {nd r1 r2 : Nat → Int32} {n : Nat} (h : ∀ i, i < n → r1 i = r2 i) (p : Nat) : openF nd r1 n p = openF nd r2 n p := by
  have e1 : aheadF nd r1 p n = aheadF nd r2 p n := foldN_cong n (fun i hi => by rw [h i hi])
  have e2 : behindF nd r1 p n = behindF nd r2 p n := foldN_cong n (fun i hi => by rw [h i hi])
  unfold openF
  rw [e1, e2]
theorem wideF_cong {nd sz r1 r2 : Nat → Int32} {n : Nat} (h : ∀ i, i < n → r1 i = r2 i) (p : Nat) : wideF nd sz r1 n p = wideF nd sz r2 n p := by
  unfold wideF
  rw [openF_cong h]
theorem mostF_cong {nd sz r1 r2 : Nat → Int32} {n : Nat} (h : ∀ i, i < n → r1 i = r2 i) (k : Nat) : mostF nd sz r1 n k = mostF nd sz r2 n k := foldN_cong k (fun i _ => by rw [wideF_cong h])
theorem longF_cong {nd sz r1 r2 : Nat → Int32} {n : Nat} (h : ∀ i, i < n → r1 i = r2 i) (k : Nat) : longF nd sz r1 n k = longF nd sz r2 n k := foldN_cong k (fun i _ => by rw [wideF_cong h])
theorem worth_cong {nd sz r1 r2 : Nat → Int32} {n : Nat} (h : ∀ i, i < n → r1 i = r2 i) : worth nd sz r1 n = worth nd sz r2 n := by
  unfold worth
  rw [mostF_cong h, longF_cong h, rowV_cong n h]
section MCalls3
variable {n m : Nat} {μ : Mem} {post : Int32 → Mem → Prop} {x1 x2 x3 x4 x5 : Int32}
theorem sM_layMoved {a b : Nat} {post : Mem → Prop} (h : IM n m μ) (hr : RWn n 13 μ) (ha : a < n) (hb0 : b < n) (k : ∀ μ', Fr (fun q => q = 18) μ μ' → RWn n 18 μ' → post μ') : T_X12_layMoved (nI a) (nI b) μ post := by
  have h9 := mN h
  have up : ∀ {μ1 : Mem} {j : Nat} {v : Int32}, (∃ w, w < n ∧ v = nI w) → RWn n 18 μ1 → RWn n 18 (mset μ1 18 j v) := fun {μ1 j v} hv h1 i hi => by
    rw [m2]
    by_cases e : i = j
    · subst e; rw [pk_us]; exact hv
    · rw [pk_un e]; exact h1 i hi
  have H69 : ∀ d, d ≤ a → ∀ x μ1, (∃ w, w < n ∧ x = nI w) → Fr (fun q => q = 18) μ μ1 → RWn n 18 μ1 → T_X12_layMoved_69 post (nI b) x (nI d) μ1 := by
    intro d hd x μ1 hx hf1 hr1 P hP
    have H : ∀ d, d ≤ a → ∀ μ1, Fr (fun q => q = 18) μ μ1 → RWn n 18 μ1 → P (nI b) x (nI d) μ1 := by
      intro d
      induction d with
      | zero => exact fun _ μ1 hf1 hr1 => hP _ _ _ _ (br_t (nI_le (by omega) (by omega)) ⟨in9 (by omega) (by omega), k _ (Fr_p hf1 rfl) (up hx hr1)⟩)
      | succ d ih =>
        intro hd μ1 hf1 hr1
        refine hP _ _ _ _ (pk_le (d + 1) b (fun _ => ⟨in9 (by omega) (by omega), k _ (Fr_p hf1 rfl) (up hx hr1)⟩) (fun _ => ?_))
        rw [nI_pred, pk_m1, cl9 (show d < 1000000 by omega), hf1 13 (by omega)]
        exact ⟨in9 (by omega) (by omega), in9 (by omega) (by omega), ih (by omega) _ (Fr_p hf1 rfl) (up (hr d (by omega)) hr1)⟩
    exact H d hd μ1 hf1 hr1
  have H38 : ∀ x μ1, (∃ w, w < n ∧ x = nI w) → Fr (fun q => q = 18) μ μ1 → RWn n 18 μ1 → T_X12_layMoved_38 post (nI a) (nI b) x (nI a) μ1 := by
    intro x μ1 hx hf1 hr1 P hP
    have H : ∀ f i, b ≤ i + f → i < 20 → ∀ μ1, Fr (fun q => q = 18) μ μ1 → RWn n 18 μ1 → P (nI a) (nI b) x (nI i) μ1 := by
      intro f
      induction f with
      | zero => exact fun i hi hi2 μ1 hf1 hr1 => hP _ _ _ _ _ (br_t (nI_le (by omega) (by omega)) (H69 a (Nat.le_refl _) x μ1 hx hf1 hr1))
      | succ f ih =>
        intro i hi hi2 μ1 hf1 hr1
        refine hP _ _ _ _ _ (pk_le b i (fun _ => H69 a (Nat.le_refl _) x μ1 hx hf1 hr1) (fun hlt => ?_))
        rw [nI_1, cl9 (show i + 1 < 1000000 by omega), hf1 13 (by omega)]
        exact ⟨in9 (by omega) (by omega), in9 (by omega) (by omega), ih (i + 1) (by omega) (by omega) _ (Fr_p hf1 rfl) (up (hr (i + 1) (by omega)) hr1)⟩
    exact H 20 a (by omega) (by omega) μ1 hf1 hr1
  intro P hP
  have H : ∀ j, j ≤ n → ∀ μ1, Fr (fun q => q = 18) μ μ1 → (∀ i, i < j → ∃ v, v < n ∧ μ1 18 i = nI v) → P (nI a) (nI b) (nI j) μ1 := by
    refine down_ind (fun μ1 hf1 hr1 => ?_) (fun j hj ih μ1 hf1 hr1 => ?_)
    · refine hP _ _ _ _ (br_t (by rw [hf1 0 (by omega), h.1.1]; exact nI_self_le n) ⟨in9 (by omega) (by omega), ?_⟩)
      rw [cl9 (show a < 1000000 by omega), hf1 13 (by omega)]
      exact H38 _ μ1 (hr a ha) hf1 hr1
    · refine hP _ _ _ _ (br_f (by rw [hf1 0 (by omega), h.1.1]; exact nI_ge hj (by omega)) ?_)
      have i1 := in9 (show j < 9 by omega) (by omega)
      rw [nI_1, cl9 (show j < 1000000 by omega), hf1 13 (by omega)]
      refine ⟨i1, i1, ih _ (Fr_p hf1 rfl) (fun i hi => ?_)⟩
      rw [m2]
      by_cases e : i = j
      · subst e; rw [pk_us]; exact hr i hj
      · rw [pk_un e]; exact hr1 i (by omega)
  exact H 0 (Nat.zero_le _) μ (Fr_rf _ _) (fun i hi => absurd hi (by omega))
def s1318 : Nat → Prop := fun q => q = 13 ∨ q = 18
theorem sM_moveOnce (h : IM n m μ) (hr : RWn n 13 μ) (k : ∀ u μ', (u = 0 ∨ u = 1) → Fr s1318 μ μ' → RWn n 13 μ' → (u ≠ 0 → worth (μ 4) (μ 6) (μ' 13) n < worth (μ 4) (μ 6) (μ 13) n) → post u μ') : T_X12_moveOnce μ post := by
  have h9 := mN h
  have hI : ∀ μ1, Fr (fun q => q = 18) μ μ1 → IM n m μ1 := fun μ1 hf => IM_free h (Fr_mono hf (fun q hq => by unfold freM; omega))
  have H62 : ∀ μ1, Fr (fun q => q = 18) μ μ1 → RWn n 18 μ1 → worth (μ 4) (μ 6) (μ1 18) n < worth (μ 4) (μ 6) (μ 13) n → T_X12_moveOnce_62 post 0 μ1 := by
    intro μ1 hf1 hr1 hlt P hP
    have H : ∀ j, j ≤ n → ∀ μ2, Fr (fun q => q = 13) μ1 μ2 → (∀ i, i < j → μ2 13 i = μ1 18 i) → P (nI j) μ2 := by
      refine down_ind (fun μ2 hf2 he => ?_) (fun j hj ih μ2 hf2 he => ?_)
      · refine hP _ _ (br_t (by rw [hf2 0 (by omega), hf1 0 (by omega), h.1.1]; exact nI_self_le n) (k 1 μ2 (Or.inr rfl) (Fr_tr (Fr_mono hf1 (fun q hq => Or.inr hq)) (Fr_mono hf2 (fun q hq => Or.inl hq))) (fun i hi => by rw [he i hi]; exact hr1 i hi) (fun _ => ?_)))
        rw [worth_cong he]; exact hlt
      · refine hP _ _ (br_f (by rw [hf2 0 (by omega), hf1 0 (by omega), h.1.1]; exact nI_ge hj (by omega)) ?_)
        have i1 := in9 (show j < 9 by omega) (by omega)
        rw [nI_1, cl9 (show j < 1000000 by omega), hf2 18 (by omega)]
        refine ⟨i1, i1, ih _ (Fr_p hf2 rfl) (fun i hi => ?_)⟩
        rw [m2]
        by_cases e : i = j
        · subst e; rw [pk_us]
        · rw [pk_un e]; exact he i (by omega)
    exact H 0 (Nat.zero_le _) μ1 (Fr_rf _ _) (fun i hi => absurd hi (by omega))
  intro P hP
  have H : ∀ a, a ≤ n → ∀ μ1, Fr (fun q => q = 18) μ μ1 → P (nI a) μ1 := by
    refine down_ind (fun μ1 hf1 => ?_) (fun a ha ih μ1 hf1 => ?_)
    · exact hP _ _ (br_t (by rw [hf1 0 (by omega), h.1.1]; exact nI_self_le n) (k 0 μ1 (Or.inl rfl) (Fr_mono hf1 (fun q hq => Or.inr hq)) (RWn_fr hr hf1 (by omega)) (fun q => absurd rfl q)))
    · refine hP _ _ (br_f (by rw [hf1 0 (by omega), h.1.1]; exact nI_ge ha (by omega)) ?_)
      intro P2 hP2
      have H2 : ∀ b, b ≤ n → ∀ μ2, Fr (fun q => q = 18) μ μ2 → P2 (nI a) (nI b) μ2 := by
        refine down_ind (fun μ2 hf2 => ?_) (fun b hb0 ih2 μ2 hf2 => ?_)
        · refine hP2 _ _ _ (br_t (by rw [hf2 0 (by omega), h.1.1]; exact nI_self_le n) ?_)
          rw [nI_1]
          exact ih μ2 hf2
        · refine hP2 _ _ _ (br_f (by rw [hf2 0 (by omega), h.1.1]; exact nI_ge hb0 (by omega)) ?_)
          rw [nI_1]
          refine ⟨fun _ => sM_layMoved (hI μ2 hf2) (RWn_fr hr hf2 (by omega)) ha hb0 (fun μ3 hf3 hr3 => ?_), fun _ => ih2 μ2 hf2⟩
          have hf3' := Fr_tr hf2 hf3
          have h3 := hI μ3 hf3'
          refine sM_lawful' h3.1 rfl hr3 (br_t rfl (ih2 μ3 hf3')) (br_f n10 (sM_isBetter h3.1 rfl rfl hr3 (RWn_fr hr hf3' (by omega)) (br_t rfl (ih2 μ3 hf3')) (fun hlt => br_f n10 (H62 μ3 hf3' hr3 ?_))))
          rw [hf3' 4 (by omega), hf3' 6 (by omega), hf3' 13 (by omega)] at hlt
          exact hlt
      exact H2 0 (Nat.zero_le _) μ1 hf1
  exact H 0 (Nat.zero_le _) μ (Fr_rf _ _)
theorem f1318_M {μ μ' : Mem} (f : Fr s1318 μ μ') : Fr sM μ μ' := Fr_mono f (fun k q => by unfold s1318 at q; unfold sM; omega)
theorem pM_moves (h : IM n m μ) (k : ∀ r μ', Fr sM μ μ' → IM n m μ' → post r μ') : T_X12_moves x1 μ post := by
  have h8 := mM8 h
  refine sM_isOrder (mM h) h8 (fun _ => rb_f rfl (k _ μ (Fr_rf _ _) h)) (fun j hj e => rb_t n10 ?_)
  subst e
  refine sM_look h hj (fun μ2 hf2 h2 hr _ => sM_lawful' h2.1 rfl hr (rb_f rfl (k _ μ2 (f13_M hf2) h2)) (rb_t n10 ?_))
  intro P hP
  have H : ∀ f x μ3, worth (μ2 4) (μ2 6) (μ3 13) n = f → Fr s1318 μ2 μ3 → RWn n 13 μ3 → P x μ3 := by
    intro f
    induction f using Nat.strongRecOn with
    | ind f ih =>
      intro x μ3 hw hf3 hr3
      have h3 := IM_free h2 (Fr_mono hf3 (fun q hq => by unfold s1318 at hq; unfold freM; omega))
      refine hP _ _ (sM_moveOnce h3 hr3 (fun u μ4 hu hf4 hr4 hlt => ⟨fun _ => ?_, fun q => ?_⟩))
      · exact k _ μ4 (Fr_tr (f13_M hf2) (Fr_tr (f1318_M hf3) (f1318_M hf4))) (IM_free h3 (Fr_mono hf4 (fun q hq => by unfold s1318 at hq; unfold freM; omega)))
      · have hlt2 := hlt q
        rw [hf3 4 (by unfold s1318; omega), hf3 6 (by unfold s1318; omega)] at hlt2
        exact ih _ (by omega) _ μ4 rfl (Fr_tr hf3 hf4) hr4
  exact H _ 0 μ2 rfl (Fr_rf _ _) hr
theorem pM_move (h : IM n m μ) (k : ∀ r m' μ', Fr sMc μ μ' → (∀ s, s ≠ 17 → μ' 0 s = μ 0 s) → IM n m' μ' → post r μ') : T_X12_move x1 μ post := by
  have h8 := mM8 h
  have g1 : ∀ {μ μ' : Mem}, Fr sM μ μ' → Fr sMc μ μ' := fun f => Fr_mono f (fun k q => by unfold sM at q; unfold sMc; omega)
  have g0 : ∀ {μ μ' : Mem}, Fr sM μ μ' → ∀ s, s ≠ 17 → μ' 0 s = μ 0 s := fun f s _ => by rw [f 0 (by unfold sM; omega)]
  refine sM_isOrder (mM h) h8 (fun _ => rb_f rfl (k _ m μ (Fr_rf _ _) (fun _ _ => rfl) h)) (fun j hj e => rb_t n10 ?_)
  subst e
  refine sM_look h hj (fun μ2 hf2 h2 hr _ => sM_lawful' h2.1 rfl hr (rb_f rfl (k _ m μ2 (g1 (f13_M hf2)) (g0 (f13_M hf2)) h2)) (rb_t n10 ?_))
  intro P hP
  have H : ∀ f x μ3, worth (μ2 4) (μ2 6) (μ3 13) n = f → Fr s1318 μ2 μ3 → RWn n 13 μ3 → P x μ3 := by
    intro f
    induction f using Nat.strongRecOn with
    | ind f ih =>
      intro x μ3 hw hf3 hr3
      have h3 := IM_free h2 (Fr_mono hf3 (fun q hq => by unfold s1318 at hq; unfold freM; omega))
      have hfin : ∀ μ4, Fr s1318 μ2 μ4 → RWn n 13 μ4 → T_X12_comes 1 μ4 (fun (u1 : Int32) (μ2 : Mem) => post u1 μ2) := fun μ4 hf4 hr4 => by
        have h4 := IM_free h2 (Fr_mono hf4 (fun q hq => by unfold s1318 at hq; unfold freM; omega))
        have ff := Fr_tr (f13_M hf2) (f1318_M hf4)
        refine sM_comes h4 hr4 (fun _ => k _ m μ4 (g1 ff) (g0 ff) h4) (fun _ μ5 hf5 e0 _ _ _ h5 => k _ (m + 1) μ5 (Fr_tr (g1 ff) (Fr_mono hf5 (fun q hq => by unfold sMc; omega))) (fun s hs => ?_) h5)
        rw [e0, pk_un hs]; exact g0 ff s hs
      refine hP _ _ ⟨fun _ => hfin μ3 hf3 hr3, fun _ => sM_moveOnce h3 hr3 (fun u μ4 hu hf4 hr4 hlt => ?_)⟩
      by_cases q : u = 0
      · subst q
        exact hP _ _ (br_t rfl (hfin μ4 (Fr_tr hf3 hf4) hr4))
      · have hlt2 := hlt q
        rw [hf3 4 (by unfold s1318; omega), hf3 6 (by unfold s1318; omega)] at hlt2
        exact ih _ (by omega) _ μ4 rfl (Fr_tr hf3 hf4) hr4
  exact H _ 1 μ2 rfl (Fr_rf _ _) hr
theorem openF_lo {nd row : Nat → Int32} {n p : Nat} (h : ∀ i, i < n → lo 10 (nd (row i).toNatClampNeg)) : lo 10 (openF nd row n p) := by
  have : ∀ k, k ≤ n → lo 10 (aheadF nd row p k) := by
    intro k
    induction k with
    | zero => exact fun _ => lo_0 _
    | succ k ih =>
      intro hk
      have e : aheadF nd row p (k + 1) = aheadF nd row p k ||| (if k ≤ p then nd (row k).toNatClampNeg else 0) := rfl
      rw [e]
      refine lo_or (ih (by omega)) ?_
      split
      · exact h k (by omega)
      · exact lo_0 _
  exact lo_and (this n (Nat.le_refl _)) _
theorem nd_lo {r : Nat} (h : WM n μ) (hr : RWn n r μ) : ∀ i, i < n → lo 10 (μ 4 (μ r i).toNatClampNeg) := fun i hi => by
  have h9 := h.2.1
  obtain ⟨-, v, hv, -, e⟩ := RWn_at h9 hr hi
  rw [e]
  exact h.2.2.1 v (by omega)
def s2021 : Nat → Prop := fun q => q = 20 ∨ q = 21
theorem f2021_M {μ μ' : Mem} (f : Fr s2021 μ μ') : Fr sM μ μ' := Fr_mono f (fun k q => by unfold s2021 at q; unfold sM; omega)
theorem sM_cheapestWith (h : IM n m μ) (hr : RWn n 13 μ) (k : ∀ r μ', Fr s2021 μ μ' → post r μ') : T_X12_cheapestWith x1 μ post := by
  have h9 := mN h
  have hI : ∀ μ1, Fr s2021 μ μ1 → IM n m μ1 := fun μ1 hf => IM_free h (Fr_mono hf (fun q hq => by unfold s2021 at hq; unfold freM; omega))
  have hRow : ∀ μ1, Fr s2021 μ μ1 → RWn n 13 μ1 := fun μ1 hf => RWn_fr hr hf (by unfold s2021; omega)
  have q20 : s2021 20 := Or.inl rfl
  have q21 : s2021 21 := Or.inr rfl
  have H317 : ∀ μ1, Fr s2021 μ μ1 → T_X12_cheapestWith_317 post 1000000 0 μ1 := by
    intro μ1 hf1 P hP
    have H : ∀ s, s ≤ 1024 → ∀ y, P y (nI s) μ1 := by
      refine down_ind (fun y => hP _ _ _ (br_t (nI_self_le 1024) (k _ μ1 hf1))) (fun s hs ih y => hP _ _ _ (br_f (nI_ge (b := 1024) hs (by decide)) ?_))
      have i1 := in9 hs (show 1024 < 1000000 by omega)
      unfold T_X12_cheapestWith_347
      rw [nI_1]
      exact ⟨i1, fun _ => ih _, fun _ => ⟨i1, ih _⟩⟩
    exact H 0 (Nat.zero_le _) _
  have H35 : ∀ μ1, Fr s2021 μ μ1 → T_X12_cheapestWith_35 post x1 0 0 μ1 := by
    intro μ1 hf1 P35 hP35
    have H : ∀ j, j ≤ n → ∀ y μ2, Fr s2021 μ μ2 → P35 x1 y (nI j) μ2 := by
      refine down_ind (fun y μ2 hf2 => hP35 _ _ _ _ (br_t (by rw [(hI μ2 hf2).1.1]; exact nI_self_le n) (H317 μ2 hf2))) (fun j hj ih y μ2 hf2 => hP35 _ _ _ _ (br_f (by rw [(hI μ2 hf2).1.1]; exact nI_ge hj (by omega)) ?_))
      have h2 := hI μ2 hf2
      have hr2 := hRow μ2 hf2
      obtain ⟨a1, w, hw, ew, cw⟩ := RWn_at h9 hr2 hj
      have i1 := in9 (show j < 9 by omega) (by omega)
      rw [cl9 (show j < 1000000 by omega)]
      refine ⟨i1, a1, sM_sizeE ⟨fun _ => sM_openE h2.1 rfl hr2 (by omega) ⟨i1, ?_, ?_⟩, fun _ => k _ μ2 hf2⟩⟩
      · rw [cl9 (show j < 1000000 by omega)]; exact a1
      rw [cl9 (show j < 1000000 by omega), ew]
      have lo5 : lo 10 (openF (μ2 4) (μ2 13) n j &&& (μ2 4 (nI w).toNatClampNeg ^^^ (-1))) := lo_and (openF_lo (nd_lo h2.1 hr2)) _
      generalize openF (μ2 4) (μ2 13) n j &&& (μ2 4 (nI w).toNatClampNeg ^^^ (-1)) = bt at lo5 ⊢
      have iw := in9 (show w < 9 by omega) (show 9 < 1000000 by omega)
      have H267 : ∀ μ3, Fr s2021 μ μ3 → T_X12_cheapestWith_267 post P35 x1 y (nI j) (nI w) 0 μ3 := by
        intro μ3 hf3 P hP
        have H : ∀ s, s ≤ 1024 → ∀ μ4, Fr s2021 μ μ4 → P x1 y (nI j) (nI w) (nI s) μ4 := by
          refine down_ind (fun μ4 hf4 => hP _ _ _ _ _ _ (br_t (nI_self_le 1024) ⟨iw, ?_⟩)) (fun s hs ih2 μ4 hf4 => hP _ _ _ _ _ _ (br_f (nI_ge (b := 1024) hs (by decide)) ?_))
          · rw [nI_1]; exact ih _ μ4 hf4
          · have i2 := in9 hs (show 1024 < 1000000 by omega)
            rw [nI_1]
            exact ⟨i2, i2, ih2 _ (Fr_p hf4 q20)⟩
        exact H 0 (Nat.zero_le _) μ3 hf3
      have H105 : ∀ μ3, Fr s2021 μ μ3 → T_X12_cheapestWith_105 post P35 x1 y (nI j) (nI w) bt 0 μ3 := by
        intro μ3 hf3 P105 hP105
        have H : ∀ s, s ≤ 1024 → ∀ μ4, Fr s2021 μ μ4 → P105 x1 y (nI j) (nI w) bt (nI s) μ4 := by
          refine down_ind (fun μ4 hf4 => hP105 _ _ _ _ _ _ _ (br_t (nI_self_le 1024) (H267 μ4 hf4))) (fun s hs ih2 μ4 hf4 => hP105 _ _ _ _ _ _ _ (br_f (nI_ge (b := 1024) hs (by decide)) ?_))
          have i2 := in9 hs (show 1024 < 1000000 by omega)
          have h4 := hI μ4 hf4
          have hr4 := hRow μ4 hf4
          have H151 : ∀ s0, T_X12_cheapestWith_151 post P35 P105 x1 y (nI j) (nI w) bt (nI s) s0 (nI s) μ4 := by
            intro s0
            refine ⟨i2, iw, sM_price' (fun u => ?_)⟩
            have lm : lo 10 ((nI s ||| s0) &&& bt) := lo_and2 _ lo5
            generalize (nI s ||| s0) &&& bt = may at lm ⊢
            obtain ⟨q, hq, rfl⟩ := lo_nI lm
            have hq2 : q < 1024 := hq
            generalize μ4 20 (nI s).toNatClampNeg + u = cost
            intro P193 hP193
            have H193 : ∀ f kp, kp ≤ f → kp < 1024 → ∀ μ5, Fr s2021 μ μ5 → P193 x1 y (nI j) (nI w) bt (nI s) cost (nI q) (nI kp) μ5 := by
              intro f
              induction f using Nat.strongRecOn with
              | ind f ih3 =>
                intro kp hkf hk μ5 hf5
                have h5 := hI μ5 hf5
                have i3 := in9 hk (show 1024 < 1000000 by omega)
                have H237 : ∀ μ6, Fr s2021 μ μ6 → T_X12_cheapestWith_237 post P35 P105 P193 x1 y (nI j) (nI w) bt (nI s) cost (nI q) (nI kp) μ6 := by
                  intro μ6 hf6
                  unfold T_X12_cheapestWith_237 T_X12_cheapestWith_253
                  refine ⟨fun q0 => ?_, fun q0 => ?_⟩
                  · obtain ⟨kp', rfl⟩ : ∃ t, kp = t + 1 := by
                      rcases Nat.eq_zero_or_pos kp with e | e
                      · subst e; exact absurd rfl q0
                      · exact ⟨kp - 1, by omega⟩
                    rw [nI_pred, nI_and (by omega) (by omega)]
                    have hle : kp' &&& q ≤ kp' := Nat.and_le_left
                    exact ih3 (kp' &&& q) (by omega) (kp' &&& q) (Nat.le_refl _) (by omega) μ6 hf6
                  · refine hP193 _ _ _ _ _ _ _ _ _ _ (br_t (by decide) ?_)
                    rw [nI_1]
                    exact ih2 μ6 hf6
                refine hP193 _ _ _ _ _ _ _ _ _ _ (br_f (nI_pos (by omega)) ⟨iw, sM_sizeE ⟨fun _ => H237 μ5 hf5, fun _ => ⟨i3, fun _ => H237 μ5 hf5, fun _ => ⟨i3, H237 _ (Fr_p hf5 q21)⟩⟩⟩⟩)
            exact H193 q q (Nat.le_refl _) hq2 μ4 hf4
          refine ⟨i2, fun _ => ⟨fun q0 => ?_, fun _ => H151 _⟩, fun _ => ?_⟩
          · obtain ⟨j', rfl⟩ : ∃ t, j = t + 1 := by
              rcases Nat.eq_zero_or_pos j with e | e
              · subst e; exact absurd rfl q0
              · exact ⟨j - 1, by omega⟩
            rw [nI_pred, cl9 (show j' < 1000000 by omega)]
            obtain ⟨b1, -⟩ := RWn_at h9 hr4 (show j' < n by omega)
            exact ⟨in9 (by omega) (by omega), b1, H151 _⟩
          · rw [nI_1]
            exact ih2 μ4 hf4
        exact H 0 (Nat.zero_le _) μ3 hf3
      intro P79 hP79
      have H79 : ∀ s, s ≤ 1024 → ∀ μ3, Fr s2021 μ μ3 → P79 x1 y (nI j) (nI w) bt (nI s) μ3 := by
        refine down_ind (fun μ3 hf3 => hP79 _ _ _ _ _ _ _ (br_t (nI_self_le 1024) (H105 μ3 hf3))) (fun s hs ih2 μ3 hf3 => hP79 _ _ _ _ _ _ _ (br_f (nI_ge (b := 1024) hs (by decide)) ⟨in9 hs (by omega), ?_⟩))
        rw [nI_1]
        exact ih2 _ (Fr_p hf3 q21)
      exact H79 0 (Nat.zero_le _) μ2 hf2
    exact H 0 (Nat.zero_le _) _ μ1 hf1
  intro P hP
  have H : ∀ s, s ≤ 1024 → ∀ μ1, Fr s2021 μ μ1 → P x1 (nI s) μ1 := by
    refine down_ind (fun μ1 hf1 => hP _ _ _ (br_t (nI_self_le 1024) (H35 μ1 hf1))) (fun s hs ih μ1 hf1 => hP _ _ _ (br_f (nI_ge (b := 1024) hs (by decide)) ?_))
    unfold T_X12_cheapestWith_24
    rw [nI_1]
    exact ⟨fun _ => ⟨in9 hs (by omega), ih _ (Fr_p hf1 q20)⟩, fun _ => ⟨in9 hs (by omega), ih _ (Fr_p hf1 q20)⟩⟩
  exact H 0 (Nat.zero_le _) μ (Fr_rf _ _)
theorem IM_2021 {μ' : Mem} (h : IM n m μ) (f : Fr s2021 μ μ') : IM n m μ' := IM_free h (Fr_mono f (fun q hq => by unfold s2021 at hq; unfold freM; omega))
theorem pM_cheapest (h : IM n m μ) (k : ∀ r μ', Fr sM μ μ' → IM n m μ' → post r μ') : T_X12_cheapest x1 x2 μ post := by
  have h8 := mM8 h
  have k1 : ∀ r, post r μ := fun r => k r μ (Fr_rf _ _) h
  refine sM_isOrder (mM h) h8 (fun _ => rb_f rfl (k1 _)) (fun j hj e => rb_t n10 (sM_isIn (fun _ => rb_f rfl (k1 _)) (fun q1 q2 => rb_t n10 ?_)))
  subst e
  exact sM_look h hj (fun μ2 hf2 h2 hr _ => sM_cheapestWith h2 hr (fun r μ3 hf3 => k _ μ3 (Fr_tr (f13_M hf2) (f2021_M hf3)) (IM_2021 h2 hf3)))
theorem pM_room (h : IM n m μ) (k : ∀ r μ', Fr sM μ μ' → IM n m μ' → post r μ') : T_X12_room x1 x2 μ post := by
  have h8 := mM8 h
  have k1 : ∀ r, post r μ := fun r => k r μ (Fr_rf _ _) h
  refine sM_isOrder (mM h) h8 (fun _ => rb_f rfl (k1 _)) (fun j hj e => rb_t n10 (sM_isIn (fun _ => rb_f rfl (k1 _)) (fun q1 q2 => rb_t n10 ?_)))
  subst e
  refine sM_look h hj (fun μ2 hf2 h2 hr _ => ?_)
  intro P hP
  have H : ∀ f l b μ3, b ≤ l + f → l ≤ 100 → b ≤ 99 → Fr s2021 μ2 μ3 → P x2 (nI l) (nI b) μ3 := by
    intro f
    induction f with
    | zero => exact fun l b μ3 hlb hl hb0 hf3 => hP _ _ _ _ (br_t (nI_le (by omega) (by omega)) (k _ μ3 (Fr_tr (f13_M hf2) (f2021_M hf3)) (IM_2021 h2 hf3)))
    | succ f ih =>
      intro l b μ3 hlb hl hb0 hf3
      refine hP _ _ _ _ (pk_le b l (fun _ => k _ μ3 (Fr_tr (f13_M hf2) (f2021_M hf3)) (IM_2021 h2 hf3)) (fun hlt => ?_))
      have e : (nI l + nI b) / 2 = nI ((l + b) / 2) := by
        rw [nI_add]
        exact pk_div (d := 2) (by omega) (by omega) (by omega)
      rw [e]
      refine sM_cheapestWith (IM_2021 h2 hf3) (RWn_fr hr hf3 (by unfold s2021; omega)) (fun r μ4 hf4 => ?_)
      unfold T_X12_room_70
      rw [nI_1]
      have g := Fr_tr hf3 hf4
      exact ⟨fun _ => ih _ _ μ4 (by omega) (by omega) (by omega) g, fun _ => ⟨fun _ => ih _ _ μ4 (by omega) (by omega) (by omega) g, fun _ => ih _ _ μ4 (by omega) (by omega) (by omega) g⟩⟩
  exact H 99 0 99 μ2 (by omega) (by omega) (by omega) (Fr_rf _ _)
theorem nI_andn {u s : Nat} (h : u < 2 ^ n) (h9 : n ≤ 9) (y : Int32) : ∃ v, v < 2 ^ n ∧ nI u &&& y = nI v := by
  obtain ⟨v, hv, e⟩ := lo_nI (lo_and (nI_lo h (by omega) : lo n (nI u)) y)
  exact ⟨v, hv, e⟩
theorem pM_leastOf {u : Nat} (h : IM n m μ) (hu : u < 2 ^ n) (k : ∀ r μ', Fr sM μ μ' → IM n m μ' → post r μ') : T_X12_leastOf (nI u) μ post :=
  sM_leastOf h.1 h.2.2.1 hu (fun μ1 μ2 hf2 hfu hf15 hz1 _ _ hE => k _ μ2 (fL_M hf2) (IM_fr h (fL_M hf2) (UZ_fr hz1 hf15 (by omega) (by omega))))
theorem pM_leastBy {u : Nat} (h : IM n m μ) (hu : u < 2 ^ n) (k : ∀ r μ', Fr sM μ μ' → IM n m μ' → post r μ') : T_X12_leastBy (nI u) μ post :=
  sM_leastBy h.1 h.2.2.1 hu (fun μ2 hf2 hE => k _ μ2 (Fr_mono hf2 (fun q hq => by unfold sM; omega)) (IM_free h (Fr_mono hf2 (fun q hq => by unfold freM; omega))))
theorem pM_two (h : IM n m μ) (k : ∀ r μ', Fr sM μ μ' → IM n m μ' → post r μ') : T_X12_two x1 μ post := by
  have h9 := mN h
  have hp := pow9 h9
  have hp1 : 1 ≤ 2 ^ n := Nat.one_le_two_pow
  have k1 : ∀ r, post r μ := fun r => k r μ (Fr_rf _ _) h
  refine ⟨fun _ => sM_isIn (fun _ => rb_f rfl (k1 _)) (fun _ _ => rb_t n10 (sM_layUnions h.1 h.2.2.1 (fun μ1 hf1 hz1 _ _ => ?_))), fun _ => k1 _⟩
  have f1 : Fr sM μ μ1 := Fr_mono hf1 (fun q hq => by unfold sU at hq; unfold sM; omega)
  have h1 := IM_fr h f1 hz1
  intro P hP
  have H : ∀ f j, 2 ^ n ≤ j + 2 * f → j < 600 → ∀ b y μ2, b < 2 ^ n → Fr sM μ μ2 → IM n m μ2 → P x1 (nI b) y (nI j) μ2 := by
    intro f
    induction f with
    | zero =>
      intro j hj hj2 b y μ2 hb0 hf2 h2
      refine hP _ _ _ _ _ (sM_all h2.1 (br_t (nI_lt (by omega) (by omega)) ?_))
      obtain ⟨v, hv, ev⟩ := nI_andn (n := n) (u := 2 ^ n - 1) (s := 0) (by omega) h9 (nI b ^^^ (-1))
      exact ⟨fun _ => ⟨fun _ => ⟨fun _ => sM_all h2.1 (by rw [ev]; exact pM_leastOf h2 hv (fun r μ3 hf3 h3 => k _ μ3 (Fr_tr hf2 hf3) h3)), fun _ => pM_leastOf h2 hb0 (fun r μ3 hf3 h3 => k _ μ3 (Fr_tr hf2 hf3) h3)⟩, fun _ => k _ μ2 hf2 h2⟩, fun _ => k _ μ2 hf2 h2⟩
    | succ f ih =>
      intro j hj hj2 b y μ2 hb0 hf2 h2
      refine hP _ _ _ _ _ (sM_all h2.1 (pk_lt (2 ^ n - 1) j (fun _ => ?_) (fun hle => ?_)))
      · obtain ⟨v, hv, ev⟩ := nI_andn (n := n) (u := 2 ^ n - 1) (s := 0) (by omega) h9 (nI b ^^^ (-1))
        exact ⟨fun _ => ⟨fun _ => ⟨fun _ => sM_all h2.1 (by rw [ev]; exact pM_leastOf h2 hv (fun r μ3 hf3 h3 => k _ μ3 (Fr_tr hf2 hf3) h3)), fun _ => pM_leastOf h2 hb0 (fun r μ3 hf3 h3 => k _ μ3 (Fr_tr hf2 hf3) h3)⟩, fun _ => k _ μ2 hf2 h2⟩, fun _ => k _ μ2 hf2 h2⟩
      · refine pM_leastBy h2 (by omega) (fun r μ3 hf3 h3 => sM_all h3.1 ?_)
        obtain ⟨v, hv, ev⟩ := nI_andn (n := n) (u := 2 ^ n - 1) (s := 0) (by omega) h9 (nI j ^^^ (-1))
        rw [ev]
        refine pM_leastBy h3 hv (fun r2 μ4 hf4 h4 => ?_)
        have g := Fr_tr hf2 (Fr_tr hf3 hf4)
        unfold T_X12_two_80
        rw [show nI j + 2 = nI (j + 2) from nI_add j 2]
        exact ⟨fun _ => ⟨fun _ => ih _ (by omega) (by omega) _ _ μ4 hb0 g h4, fun _ => ih _ (by omega) (by omega) _ _ μ4 (by omega) g h4⟩, fun _ => ⟨fun _ => ih _ (by omega) (by omega) _ _ μ4 hb0 g h4, fun _ => ih _ (by omega) (by omega) _ _ μ4 (by omega) g h4⟩⟩
  exact H 512 1 (by omega) (by omega) 0 _ μ1 (by omega) f1 h1
theorem pM_without (h : IM n m μ) (k : ∀ r μ', Fr sM μ μ' → IM n m μ' → post r μ') : T_X12_without x1 μ post := by
  have h9 := mN h
  have hp1 : 1 ≤ 2 ^ n := Nat.one_le_two_pow
  refine sM_isWork h.1 (fun _ => br_t rfl (k _ μ (Fr_rf _ _) h)) (fun j hj e => br_f n10 (sM_all h.1 ?_))
  obtain ⟨v, hv, ev⟩ := nI_andn (n := n) (u := 2 ^ n - 1) (s := 0) (by omega) h9 (((1 : Int32) <<< (x1 &&& 31)) ^^^ (-1))
  rw [ev]
  exact pM_leastOf h hv k
theorem pM_widest (h : IM n m μ) (k : ∀ r μ', Fr sM μ μ' → IM n m μ' → post r μ') : T_X12_widest μ post := by
  have h9 := mN h
  have hp1 : 1 ≤ 2 ^ n := Nat.one_le_two_pow
  intro P hP
  have H : ∀ j, j ≤ n → ∀ a b μ2, Fr sM μ μ2 → IM n m μ2 → P a b (nI j) μ2 := by
    refine down_ind (fun a b μ2 hf h2 => hP _ _ _ _ (br_t (by rw [h2.1.1]; exact nI_self_le n) (k _ μ2 hf h2))) (fun j hj ih a b μ2 hf h2 => hP _ _ _ _ (br_f (by rw [h2.1.1]; exact nI_ge hj (by omega)) (sM_all h2.1 ?_)))
    obtain ⟨v, hv, ev⟩ := nI_andn (n := n) (u := 2 ^ n - 1) (s := 0) (by omega) h9 (((1 : Int32) <<< (nI j &&& 31)) ^^^ (-1))
    rw [ev, nI_1]
    exact pM_leastOf h2 hv (fun r μ3 hf3 h3 => ⟨fun _ => ih _ _ μ3 (Fr_tr hf hf3) h3, fun _ => ih _ _ μ3 (Fr_tr hf hf3) h3⟩)
  exact H 0 (Nat.zero_le _) _ _ μ (Fr_rf _ _) h
end MCalls3
