/-! the law's turn: sheets and works stay alike, and the class's Bounds right -/
def INR (i : Nat) (μX μM : Mem) : Prop := ∃ n m m' z1 z2 V, V ≤ i ∧ IX n m z1 z2 μX ∧ IM n m' μM ∧ RS μX μM ∧ RK n z1 z2 μX μM ∧ CB n z1 V μX
theorem RS_V {μX μM μ1 μ2 : Mem} (h : RS μX μM) (f : Fr sCS μX μ1) (g : Fr sMV μM μ2) : RS μ1 μ2 := RS_fr h f g (fun q h1 h2 => by unfold sCS; omega) (fun q h1 h2 => by unfold sMV; omega)
theorem RK_V {n : Nat} {z1 z2 : Nat → Nat} {μX μM μ1 μ2 : Mem} (h : RK n z1 z2 μX μM) (f : Fr sCS μX μ1) (g : Fr sMV μM μ2) : RK n z1 z2 μ1 μ2 := RK_fr h f g (by unfold sCS; omega) (by unfold sCS; omega) (by unfold sMV; omega) (by unfold sMV; omega) (by unfold sMV; omega) (by unfold sMV; omega)
theorem CB_V {n V : Nat} {z : Nat → Nat} {μ μ1 : Mem} (h : CB n z V μ) (f : Fr sCS μ μ1) : CB n z V μ1 := CB_fr h f (by unfold sCS; omega) (by unfold sCS; omega) (by unfold sCS; omega) (by unfold sCS; omega) (by unfold sCS; omega)
theorem RK_sh {n : Nat} {z1 z2 : Nat → Nat} {μX μM μ1 μ2 : Mem} (h : RK n z1 z2 μX μM) (f : Fr (fun q => q = 0 ∨ (3 ≤ q ∧ q ≤ 8)) μX μ1) (g : Fr (fun q => q ≤ 3) μM μ2) : RK n z1 z2 μ1 μ2 := RK_fr h f g (by omega) (by omega) (by omega) (by omega) (by omega) (by omega)
theorem CB_sh {n V : Nat} {z : Nat → Nat} {μ μ1 : Mem} (h : CB n z V μ) (f : Fr (fun q => q = 0 ∨ (3 ≤ q ∧ q ≤ 8)) μ μ1) : CB n z V μ1 := CB_fr h f (by omega) (by omega) (by omega) (by omega) (by omega)
theorem ShX_fr {μ μ' : Mem} {x1 x2 x3 : Int32} (h : ShX μ μ' x1 x2 x3) : Fr (fun q => q = 0 ∨ (3 ≤ q ∧ q ≤ 8)) μ μ' := by
  rcases h with ⟨-, f⟩ | ⟨j, l, L, hj, -, -, -, -, -, -, f, -⟩
  · exact Fr_mono f (fun q hq => by omega)
  · exact Fr_mono f (fun q hq => by omega)
theorem ShM_fr {μ μ' : Mem} {x1 x2 x3 : Int32} (h : ShM μ μ' x1 x2 x3) : Fr (fun q => q ≤ 3) μ μ' := by
  rcases h with ⟨-, f⟩ | ⟨j, l, L, hj, -, -, -, -, -, -, f, -⟩
  · exact Fr_mono f (fun q hq => by omega)
  · exact Fr_mono f (fun q hq => by omega)
section Us
variable {n m : Nat} {z1 z2 : Nat → Nat} {μ : Mem} {x1 x2 x3 x4 x5 : Int32}
theorem uX_order {post : Int32 → Mem → Prop} (h : IX n m z1 z2 μ) (k : ∀ r m1 μ1, IX n m1 z1 z2 μ1 → Fr sCS μ μ1 → post r μ1) : T_X11_order x1 x2 x3 x4 x5 μ post := wX_order h (fun r m1 μ1 f _ h1 => k r m1 μ1 h1 f)
theorem uM_order {post : Int32 → Mem → Prop} (h : IM n m μ) (k : ∀ r m1 μ1, IM n m1 μ1 → Fr sMV μ μ1 → post r μ1) : T_X12_order x1 x2 x3 x4 x5 μ post := vM_order h (fun r m1 μ1 f h1 => k r m1 μ1 h1 f)
theorem uX_ofOrder {post : Int32 → Mem → Prop} (h : IX n m z1 z2 μ) (k : ∀ r m1 μ1, IX n m1 z1 z2 μ1 → Fr sCS μ μ1 → post r μ1) : T_X11_ofOrder x1 x2 μ post := wX_ofOrder h (fun r μ1 f h1 => k r m μ1 h1 (C0_CS (Q_C0 f)))
theorem uM_ofOrder {post : Int32 → Mem → Prop} (h : IM n m μ) (k : ∀ r m1 μ1, IM n m1 μ1 → Fr sMV μ μ1 → post r μ1) : T_X12_ofOrder x1 x2 μ post := pM_ofOrder h (fun r μ1 f h1 => k r m μ1 h1 (M_MV f))
theorem uX_best {post : Int32 → Mem → Prop} (h : IX n m z1 z2 μ) (k : ∀ r m1 μ1, IX n m1 z1 z2 μ1 → Fr sCS μ μ1 → post r μ1) : T_X11_best x1 μ post := wX_best h (fun r μ1 f h1 => k r m μ1 h1 (C0_CS (Q_C0 f)))
theorem uM_best {post : Int32 → Mem → Prop} (h : IM n m μ) (k : ∀ r m1 μ1, IM n m1 μ1 → Fr sMV μ μ1 → post r μ1) : T_X12_best x1 μ post := pM_best h (fun r μ1 f h1 => k r m μ1 h1 (M_MV f))
theorem uX_from {post : Int32 → Mem → Prop} (h : IX n m z1 z2 μ) (k : ∀ r m1 μ1, IX n m1 z1 z2 μ1 → Fr sCS μ μ1 → post r μ1) : T_X11_from x1 x2 x3 μ post := wX_from h (fun r μ1 f h1 => k r m μ1 h1 (C0_CS (Q_C0 f)))
theorem uM_from {post : Int32 → Mem → Prop} (h : IM n m μ) (k : ∀ r m1 μ1, IM n m1 μ1 → Fr sMV μ μ1 → post r μ1) : T_X12_from x1 x2 x3 μ post := pM_from h (fun r μ1 f h1 => k r m μ1 h1 (M_MV f))
theorem uX_better {post : Int32 → Mem → Prop} (h : IX n m z1 z2 μ) (k : ∀ r m1 μ1, IX n m1 z1 z2 μ1 → Fr sCS μ μ1 → post r μ1) : T_X11_better x1 x2 μ post := wX_better h (fun r μ1 f h1 => k r m μ1 h1 (C0_CS (Q_C0 f)))
theorem uM_better {post : Int32 → Mem → Prop} (h : IM n m μ) (k : ∀ r m1 μ1, IM n m1 μ1 → Fr sMV μ μ1 → post r μ1) : T_X12_better x1 x2 μ post := pM_better h (fun r μ1 f h1 => k r m μ1 h1 (M_MV f))
theorem uX_part {post : Int32 → Mem → Prop} (h : IX n m z1 z2 μ) (k : ∀ r m1 μ1, IX n m1 z1 z2 μ1 → Fr sCS μ μ1 → post r μ1) : T_X11_part x1 μ post := pX_part h (fun r => k r m μ h (Fr_rf _ _))
theorem uM_part {post : Int32 → Mem → Prop} (h : IM n m μ) (k : ∀ r m1 μ1, IM n m1 μ1 → Fr sMV μ μ1 → post r μ1) : T_X12_part x1 μ post := pM_part h (fun r μ1 f h1 => k r m μ1 h1 (M_MV f))
theorem uX_within {post : Int32 → Mem → Prop} (h : IX n m z1 z2 μ) (k : ∀ r m1 μ1, IX n m1 z1 z2 μ1 → Fr sCS μ μ1 → post r μ1) : T_X11_within μ post := pX_within h (fun r => k r m μ h (Fr_rf _ _))
theorem uM_within {post : Int32 → Mem → Prop} (h : IM n m μ) (k : ∀ r m1 μ1, IM n m1 μ1 → Fr sMV μ μ1 → post r μ1) : T_X12_within μ post := pM_within h (fun r => k r m μ h (Fr_rf _ _))
theorem uX_build {post : Int32 → Mem → Prop} (h : IX n m z1 z2 μ) (k : ∀ r m1 μ1, IX n m1 z1 z2 μ1 → Fr sCS μ μ1 → post r μ1) : T_X11_build x1 x2 μ post := wX_build h (fun r m1 μ1 f h1 => k r m1 μ1 h1 (C0_CS f))
theorem uM_build {post : Int32 → Mem → Prop} (h : IM n m μ) (k : ∀ r m1 μ1, IM n m1 μ1 → Fr sMV μ μ1 → post r μ1) : T_X12_build x1 x2 μ post := pM_build h (fun r m1 μ1 f _ h1 => k r m1 μ1 h1 (Fr_mono f (fun q hq => by unfold sMc at hq; unfold sMV; omega)))
theorem uX_move {post : Int32 → Mem → Prop} (h : IX n m z1 z2 μ) (k : ∀ r m1 μ1, IX n m1 z1 z2 μ1 → Fr sCS μ μ1 → post r μ1) : T_X11_move x1 μ post := wX_move h (fun r m1 μ1 f h1 => k r m1 μ1 h1 (C0_CS f))
theorem uM_move {post : Int32 → Mem → Prop} (h : IM n m μ) (k : ∀ r m1 μ1, IM n m1 μ1 → Fr sMV μ μ1 → post r μ1) : T_X12_move x1 μ post := pM_move h (fun r m1 μ1 f _ h1 => k r m1 μ1 h1 (Fr_mono f (fun q hq => by unfold sMc at hq; unfold sMV; omega)))
theorem uX_moves {post : Int32 → Mem → Prop} (h : IX n m z1 z2 μ) (k : ∀ r m1 μ1, IX n m1 z1 z2 μ1 → Fr sCS μ μ1 → post r μ1) : T_X11_moves x1 μ post := wX_moves h (fun r μ1 f h1 => k r m μ1 h1 (C0_CS (Q_C0 f)))
theorem uM_moves {post : Int32 → Mem → Prop} (h : IM n m μ) (k : ∀ r m1 μ1, IM n m1 μ1 → Fr sMV μ μ1 → post r μ1) : T_X12_moves x1 μ post := pM_moves h (fun r μ1 f h1 => k r m μ1 h1 (M_MV f))
theorem uX_cheapest {post : Int32 → Mem → Prop} (h : IX n m z1 z2 μ) (k : ∀ r m1 μ1, IX n m1 z1 z2 μ1 → Fr sCS μ μ1 → post r μ1) : T_X11_cheapest x1 x2 μ post := wX_cheapest h (fun r μ1 f h1 => k r m μ1 h1 (C0_CS (Q_C0 f)))
theorem uM_cheapest {post : Int32 → Mem → Prop} (h : IM n m μ) (k : ∀ r m1 μ1, IM n m1 μ1 → Fr sMV μ μ1 → post r μ1) : T_X12_cheapest x1 x2 μ post := pM_cheapest h (fun r μ1 f h1 => k r m μ1 h1 (M_MV f))
theorem uX_room {post : Int32 → Mem → Prop} (h : IX n m z1 z2 μ) (k : ∀ r m1 μ1, IX n m1 z1 z2 μ1 → Fr sCS μ μ1 → post r μ1) : T_X11_room x1 x2 μ post := wX_room h (fun r μ1 f h1 => k r m μ1 h1 (C0_CS (Q_C0 f)))
theorem uM_room {post : Int32 → Mem → Prop} (h : IM n m μ) (k : ∀ r m1 μ1, IM n m1 μ1 → Fr sMV μ μ1 → post r μ1) : T_X12_room x1 x2 μ post := pM_room h (fun r μ1 f h1 => k r m μ1 h1 (M_MV f))
theorem uX_two {post : Int32 → Mem → Prop} (h : IX n m z1 z2 μ) (k : ∀ r m1 μ1, IX n m1 z1 z2 μ1 → Fr sCS μ μ1 → post r μ1) : T_X11_two x1 μ post := wX_two h (fun r μ1 f h1 => k r m μ1 h1 (C0_CS (Q_C0 f)))
theorem uM_two {post : Int32 → Mem → Prop} (h : IM n m μ) (k : ∀ r m1 μ1, IM n m1 μ1 → Fr sMV μ μ1 → post r μ1) : T_X12_two x1 μ post := pM_two h (fun r μ1 f h1 => k r m μ1 h1 (M_MV f))
theorem uX_without {post : Int32 → Mem → Prop} (h : IX n m z1 z2 μ) (k : ∀ r m1 μ1, IX n m1 z1 z2 μ1 → Fr sCS μ μ1 → post r μ1) : T_X11_without x1 μ post := wX_without h (fun r μ1 f h1 => k r m μ1 h1 (C0_CS (Q_C0 f)))
theorem uM_without {post : Int32 → Mem → Prop} (h : IM n m μ) (k : ∀ r m1 μ1, IM n m1 μ1 → Fr sMV μ μ1 → post r μ1) : T_X12_without x1 μ post := pM_without h (fun r μ1 f h1 => k r m μ1 h1 (M_MV f))
theorem uX_why {post : Int32 → Mem → Prop} (h : IX n m z1 z2 μ) (k : ∀ r m1 μ1, IX n m1 z1 z2 μ1 → Fr sCS μ μ1 → post r μ1) : T_X11_why x1 x2 μ post := wX_why h (fun r μ1 f h1 => k r m μ1 h1 (C0_CS (Q_C0 f)))
theorem uM_why {post : Int32 → Mem → Prop} (h : IM n m μ) (k : ∀ r m1 μ1, IM n m1 μ1 → Fr sMV μ μ1 → post r μ1) : T_X12_why x1 x2 μ post := pM_why h (fun r μ1 f h1 => k r m μ1 h1 (M_MV f))
theorem uX_widest {post : Int32 → Mem → Prop} (h : IX n m z1 z2 μ) (k : ∀ r m1 μ1, IX n m1 z1 z2 μ1 → Fr sCS μ μ1 → post r μ1) : T_X11_widest μ post := wX_widest h (fun r μ1 f h1 => k r m μ1 h1 (C0_CS (Q_C0 f)))
theorem uM_widest {post : Int32 → Mem → Prop} (h : IM n m μ) (k : ∀ r m1 μ1, IM n m1 μ1 → Fr sMV μ μ1 → post r μ1) : T_X12_widest μ post := pM_widest h (fun r μ1 f h1 => k r m μ1 h1 (M_MV f))
theorem uX_tell {post : Int32 → Mem → Prop} (h : IX n m z1 z2 μ) (k : ∀ r m1 μ1, IX n m1 z1 z2 μ1 → Fr sCS μ μ1 → post r μ1) : T_X11_tell x1 μ post := wX_tell h (fun r μ1 f h1 => k r m μ1 h1 f)
theorem uM_tell {post : Int32 → Mem → Prop} (h : IM n m μ) (k : ∀ r m1 μ1, IM n m1 μ1 → Fr sMV μ μ1 → post r μ1) : T_X12_tell x1 μ post := vM_tell h (fun r μ1 f h1 => k r m μ1 h1 f)
theorem uX_show {post : Int32 → Mem → Prop} (h : IX n m z1 z2 μ) (k : ∀ r m1 μ1, IX n m1 z1 z2 μ1 → Fr sCS μ μ1 → post r μ1) : T_X11_show x1 μ post := wX_show h (fun r μ1 f h1 => k r m μ1 h1 f)
theorem uM_show {post : Int32 → Mem → Prop} (h : IM n m μ) (k : ∀ r m1 μ1, IM n m1 μ1 → Fr sMV μ μ1 → post r μ1) : T_X12_show x1 μ post := vM_show h (fun r μ1 f h1 => k r m μ1 h1 f)
theorem uX_as {post : Int32 → Mem → Prop} (h : IX n m z1 z2 μ) (k : ∀ r m1 μ1, IX n m1 z1 z2 μ1 → Fr sCS μ μ1 → post r μ1) : T_X11_as x1 x2 μ post := wX_as h (fun r μ1 f h1 => k r m μ1 h1 f)
theorem uM_as {post : Int32 → Mem → Prop} (h : IM n m μ) (k : ∀ r m1 μ1, IM n m1 μ1 → Fr sMV μ μ1 → post r μ1) : T_X12_as x1 x2 μ post := vM_as h (fun r μ1 f h1 => k r m μ1 h1 f)
theorem uX_trace {post : Int32 → Mem → Prop} (h : IX n m z1 z2 μ) (k : ∀ r m1 μ1, IX n m1 z1 z2 μ1 → Fr sCS μ μ1 → post r μ1) : T_X11_trace μ post := k _ m μ h (Fr_rf _ _)
theorem uM_trace {post : Int32 → Mem → Prop} (h : IM n m μ) (k : ∀ r m1 μ1, IM n m1 μ1 → Fr sMV μ μ1 → post r μ1) : T_X12_trace μ post := k _ m μ h (Fr_rf _ _)
theorem uX_fault {post : Int32 → Mem → Prop} (h : IX n m z1 z2 μ) (k : ∀ r m1 μ1, IX n m1 z1 z2 μ1 → Fr sCS μ μ1 → post r μ1) : T_X11_fault μ post := k _ m μ h (Fr_rf _ _)
theorem uM_fault {post : Int32 → Mem → Prop} (h : IM n m μ) (k : ∀ r m1 μ1, IM n m1 μ1 → Fr sMV μ μ1 → post r μ1) : T_X12_fault μ post := k _ m μ h (Fr_rf _ _)
theorem uX_many {post : Int32 → Mem → Prop} (h : IX n m z1 z2 μ) (k : ∀ r m1 μ1, IX n m1 z1 z2 μ1 → Fr sCS μ μ1 → post r μ1) : T_X11_many x1 μ post := pX_many h (fun r => k r m μ h (Fr_rf _ _))
theorem uM_many {post : Int32 → Mem → Prop} (h : IM n m μ) (k : ∀ r m1 μ1, IM n m1 μ1 → Fr sMV μ μ1 → post r μ1) : T_X12_many x1 μ post := pM_many h (fun r => k r m μ h (Fr_rf _ _))
end Us
section Turn
variable {L i : Nat} {xs : Nat → Int32} {P : Int32 → Mem → Mem → Prop} {μX μM : Mem}
theorem tu_0 (hi4 : i < 4000) (hi : ∀ c, 0 < c → c < 6 → vp_in (nI i + nI c) L) (hR : INR i μX μM) (hp : ∀ μ1 μ2, INR (i + 6) μ1 μ2 → P (nI i + 6) μ1 μ2) : L_0 L xs P (nI i) μX μM := by
  obtain ⟨n, m, m', z1, z2, V, hV, hX, hM, hS, hK, hC⟩ := hR
  have hR0 : INR (i + 6) μX μM := ⟨n, m, m', z1, z2, V, by omega, hX, hM, hS, hK, hC⟩
  exact ⟨hi 1 (by omega) (by omega), hi 2 (by omega) (by omega), hi 3 (by omega) (by omega), hi 4 (by omega) (by omega), tw_shop (G := fun T => vp_in (nI i + 1) L ∧ vp_in (nI i + 2) L ∧ vp_in (nI i + 3) L ∧ vp_in (nI i + 4) L ∧ T) (Q := fun r r2 μ1 μ2 => P (nI i + 6) μ1 μ2) (fun _ t => ⟨hi 1 (by omega) (by omega), hi 2 (by omega) (by omega), hi 3 (by omega) (by omega), hi 4 (by omega) (by omega), t⟩) hX hM hS hK (fun r r2 μ1 μ2 h1 h2 s kk _ _ _ f1 _ => hp μ1 μ2 ⟨n, m, m', z1, z2, V, by omega, h1, h2, s, kk, CB_fr hC f1 (by unfold sC; omega) (by unfold sC; omega) (by unfold sC; omega) (by unfold sC; omega) (by unfold sC; omega)⟩) (fun rw z' μ1 μ2 h1 h2 s kk _ _ _ f1 _ ev => hp μ1 μ2 ⟨rw, 0, 0, z', z2, V + 1, by omega, h1, h2, s, kk, CB_up hC (by omega) ev (f1 47 (by unfold sTk; omega))⟩)⟩
theorem tu_1 (hi4 : i < 4000) (hi : ∀ c, 0 < c → c < 6 → vp_in (nI i + nI c) L) (hR : INR i μX μM) (hp : ∀ μ1 μ2, INR (i + 6) μ1 μ2 → P (nI i + 6) μ1 μ2) : L_1 L xs P (nI i) μX μM := by
  obtain ⟨n, m, m', z1, z2, V, hV, hX, hM, hS, hK, hC⟩ := hR
  have hR0 : INR (i + 6) μX μM := ⟨n, m, m', z1, z2, V, by omega, hX, hM, hS, hK, hC⟩
  exact ⟨hi 1 (by omega) (by omega), hi 2 (by omega) (by omega), tw_work (G := fun T => vp_in (nI i + 1) L ∧ vp_in (nI i + 2) L ∧ T) (Q := fun r r2 μ1 μ2 => P (nI i + 6) μ1 μ2) (fun _ t => ⟨hi 1 (by omega) (by omega), hi 2 (by omega) (by omega), t⟩) hX hM hK (fun r => hp μX μM hR0) (fun r r2 μ1 μ2 e h1 h2 kk f1 f2 _ ev => hp μ1 μ2 ⟨n + 1, 0, 0, z1, z2, V + 1, by omega, h1, h2, RS_fr hS f1 f2 (fun q h1 h2 => by unfold sWX; omega) (fun q h1 h2 => by omega), kk, CB_up hC (by omega) ev (f1 47 (by unfold sWX; omega))⟩)⟩
theorem tu_2 (hi4 : i < 4000) (hi : ∀ c, 0 < c → c < 6 → vp_in (nI i + nI c) L) (hR : INR i μX μM) (hp : ∀ μ1 μ2, INR (i + 6) μ1 μ2 → P (nI i + 6) μ1 μ2) : L_2 L xs P (nI i) μX μM := by
  obtain ⟨n, m, m', z1, z2, V, hV, hX, hM, hS, hK, hC⟩ := hR
  have hR0 : INR (i + 6) μX μM := ⟨n, m, m', z1, z2, V, by omega, hX, hM, hS, hK, hC⟩
  exact ⟨hi 1 (by omega) (by omega), hi 2 (by omega) (by omega), tw_ofWork (G := fun T => vp_in (nI i + 1) L ∧ vp_in (nI i + 2) L ∧ T) (Q := fun r r2 μ1 μ2 => P (nI i + 6) μ1 μ2) (fun _ t => ⟨hi 1 (by omega) (by omega), hi 2 (by omega) (by omega), t⟩) hX hM hK (fun r r2 e => hp μX μM hR0)⟩
theorem tu_3 (hi4 : i < 4000) (hi : ∀ c, 0 < c → c < 6 → vp_in (nI i + nI c) L) (hR : INR i μX μM) (hp : ∀ μ1 μ2, INR (i + 6) μ1 μ2 → P (nI i + 6) μ1 μ2) : L_3 L xs P (nI i) μX μM := by
  obtain ⟨n, m, m', z1, z2, V, hV, hX, hM, hS, hK, hC⟩ := hR
  have hR0 : INR (i + 6) μX μM := ⟨n, m, m', z1, z2, V, by omega, hX, hM, hS, hK, hC⟩
  exact ⟨hi 1 (by omega) (by omega), hi 2 (by omega) (by omega), hi 3 (by omega) (by omega), fun hc0 => tw_before (G := fun r μ1 T => vp_in (nI i + 1) L ∧ vp_in (nI i + 2) L ∧ vp_in (nI i + 3) L ∧ (((xs (nI i + 3).toNatClampNeg) = 0 → T) ∧ (¬ (xs (nI i + 3).toNatClampNeg) = 0 → T_X12_before (xs (nI i + 1).toNatClampNeg) (xs (nI i + 2).toNatClampNeg) 1 μM (fun r2 μ2 => P (nI i + 6) μ1 μ2)))) (Q := fun r r2 μ1 μ2 => P (nI i + 6) μ1 μ2) (fun _ _ _ t => ⟨hi 1 (by omega) (by omega), hi 2 (by omega) (by omega), hi 3 (by omega) (by omega), br_t hc0 t⟩) (Or.inl rfl) hX hM hK (fun r => hp μX μM hR0) (fun r μ1 μ2 h1 h2 kk f1 f2 ev => hp μ1 μ2 ⟨n, m, m', z1, z2, V + 1, by omega, h1, h2, RS_fr hS f1 f2 (fun q h1 h2 => by omega) (fun q h1 h2 => by omega), kk, CB_up hC (by omega) ev (f1 47 (by omega))⟩), fun hc0 => tw_before (G := fun r μ1 T => vp_in (nI i + 1) L ∧ vp_in (nI i + 2) L ∧ vp_in (nI i + 3) L ∧ (((xs (nI i + 3).toNatClampNeg) = 0 → T_X12_before (xs (nI i + 1).toNatClampNeg) (xs (nI i + 2).toNatClampNeg) 0 μM (fun r2 μ2 => P (nI i + 6) μ1 μ2)) ∧ (¬ (xs (nI i + 3).toNatClampNeg) = 0 → T))) (Q := fun r r2 μ1 μ2 => P (nI i + 6) μ1 μ2) (fun _ _ _ t => ⟨hi 1 (by omega) (by omega), hi 2 (by omega) (by omega), hi 3 (by omega) (by omega), br_f hc0 t⟩) (Or.inr rfl) hX hM hK (fun r => hp μX μM hR0) (fun r μ1 μ2 h1 h2 kk f1 f2 ev => hp μ1 μ2 ⟨n, m, m', z1, z2, V + 1, by omega, h1, h2, RS_fr hS f1 f2 (fun q h1 h2 => by omega) (fun q h1 h2 => by omega), kk, CB_up hC (by omega) ev (f1 47 (by omega))⟩)⟩
theorem tu_4 (hi4 : i < 4000) (hi : ∀ c, 0 < c → c < 6 → vp_in (nI i + nI c) L) (hR : INR i μX μM) (hp : ∀ μ1 μ2, INR (i + 6) μ1 μ2 → P (nI i + 6) μ1 μ2) : L_4 L xs P (nI i) μX μM := by
  obtain ⟨n, m, m', z1, z2, V, hV, hX, hM, hS, hK, hC⟩ := hR
  have hR0 : INR (i + 6) μX μM := ⟨n, m, m', z1, z2, V, by omega, hX, hM, hS, hK, hC⟩
  exact ⟨hi 1 (by omega) (by omega), hi 2 (by omega) (by omega), hi 3 (by omega) (by omega), tw_thing (G := fun T => vp_in (nI i + 1) L ∧ vp_in (nI i + 2) L ∧ vp_in (nI i + 3) L ∧ T) (Q := fun r r2 μ1 μ2 => P (nI i + 6) μ1 μ2) (fun _ t => ⟨hi 1 (by omega) (by omega), hi 2 (by omega) (by omega), hi 3 (by omega) (by omega), t⟩) hX hM hK (fun r => hp μX μM hR0) (fun r r2 z1' μ1 μ2 e h1 h2 kk f1 f2 ev => hp μ1 μ2 ⟨n, m, m', z1', z2, V + 1, by omega, h1, h2, RS_fr hS f1 f2 (fun q h1 h2 => by omega) (fun q h1 h2 => by omega), kk, CB_up hC (by omega) ev (f1 47 (by omega))⟩) (fun r r2 z2' μ1 μ2 e h1 h2 kk f1 f2 => hp μ1 μ2 ⟨n, m, m', z1, z2', V, by omega, h1, h2, RS_fr hS f1 f2 (fun q h1 h2 => by omega) (fun q h1 h2 => by omega), kk, CB_fr hC f1 (by omega) (by omega) (by omega) (by omega) (by omega)⟩)⟩
theorem tu_5 (hi4 : i < 4000) (hi : ∀ c, 0 < c → c < 6 → vp_in (nI i + nI c) L) (hR : INR i μX μM) (hp : ∀ μ1 μ2, INR (i + 6) μ1 μ2 → P (nI i + 6) μ1 μ2) : L_5 L xs P (nI i) μX μM := by
  obtain ⟨n, m, m', z1, z2, V, hV, hX, hM, hS, hK, hC⟩ := hR
  have hR0 : INR (i + 6) μX μM := ⟨n, m, m', z1, z2, V, by omega, hX, hM, hS, hK, hC⟩
  exact ⟨hi 1 (by omega) (by omega), hi 2 (by omega) (by omega), hi 3 (by omega) (by omega), hi 4 (by omega) (by omega), hi 5 (by omega) (by omega), uX_order hX (fun r m1 μ1 h1 f1 => ⟨hi 1 (by omega) (by omega), hi 2 (by omega) (by omega), hi 3 (by omega) (by omega), hi 4 (by omega) (by omega), hi 5 (by omega) (by omega), uM_order hM (fun r2 m1' μ2 h2 f2 => hp μ1 μ2 ⟨n, m1, m1', z1, z2, V, by omega, h1, h2, RS_V hS f1 f2, RK_V hK f1 f2, CB_V hC f1⟩)⟩)⟩
theorem tu_6 (hi4 : i < 4000) (hi : ∀ c, 0 < c → c < 6 → vp_in (nI i + nI c) L) (hR : INR i μX μM) (hp : ∀ μ1 μ2, INR (i + 6) μ1 μ2 → P (nI i + 6) μ1 μ2) : L_6 L xs P (nI i) μX μM := by
  obtain ⟨n, m, m', z1, z2, V, hV, hX, hM, hS, hK, hC⟩ := hR
  have hR0 : INR (i + 6) μX μM := ⟨n, m, m', z1, z2, V, by omega, hX, hM, hS, hK, hC⟩
  exact ⟨hi 1 (by omega) (by omega), hi 2 (by omega) (by omega), uX_ofOrder hX (fun r m1 μ1 h1 f1 => ⟨hi 1 (by omega) (by omega), hi 2 (by omega) (by omega), uM_ofOrder hM (fun r2 m1' μ2 h2 f2 => hp μ1 μ2 ⟨n, m1, m1', z1, z2, V, by omega, h1, h2, RS_V hS f1 f2, RK_V hK f1 f2, CB_V hC f1⟩)⟩)⟩
theorem tu_7 (hi4 : i < 4000) (hi : ∀ c, 0 < c → c < 6 → vp_in (nI i + nI c) L) (hR : INR i μX μM) (hp : ∀ μ1 μ2, INR (i + 6) μ1 μ2 → P (nI i + 6) μ1 μ2) : L_7 L xs P (nI i) μX μM := by
  obtain ⟨n, m, m', z1, z2, V, hV, hX, hM, hS, hK, hC⟩ := hR
  have hR0 : INR (i + 6) μX μM := ⟨n, m, m', z1, z2, V, by omega, hX, hM, hS, hK, hC⟩
  exact ⟨hi 1 (by omega) (by omega), uX_best hX (fun r m1 μ1 h1 f1 => ⟨hi 1 (by omega) (by omega), uM_best hM (fun r2 m1' μ2 h2 f2 => hp μ1 μ2 ⟨n, m1, m1', z1, z2, V, by omega, h1, h2, RS_V hS f1 f2, RK_V hK f1 f2, CB_V hC f1⟩)⟩)⟩
theorem tu_8 (hi4 : i < 4000) (hi : ∀ c, 0 < c → c < 6 → vp_in (nI i + nI c) L) (hR : INR i μX μM) (hp : ∀ μ1 μ2, INR (i + 6) μ1 μ2 → P (nI i + 6) μ1 μ2) : L_8 L xs P (nI i) μX μM := by
  obtain ⟨n, m, m', z1, z2, V, hV, hX, hM, hS, hK, hC⟩ := hR
  have hR0 : INR (i + 6) μX μM := ⟨n, m, m', z1, z2, V, by omega, hX, hM, hS, hK, hC⟩
  exact ⟨hi 1 (by omega) (by omega), hi 2 (by omega) (by omega), hi 3 (by omega) (by omega), uX_from hX (fun r m1 μ1 h1 f1 => ⟨hi 1 (by omega) (by omega), hi 2 (by omega) (by omega), hi 3 (by omega) (by omega), uM_from hM (fun r2 m1' μ2 h2 f2 => hp μ1 μ2 ⟨n, m1, m1', z1, z2, V, by omega, h1, h2, RS_V hS f1 f2, RK_V hK f1 f2, CB_V hC f1⟩)⟩)⟩
theorem tu_9 (hi4 : i < 4000) (hi : ∀ c, 0 < c → c < 6 → vp_in (nI i + nI c) L) (hR : INR i μX μM) (hp : ∀ μ1 μ2, INR (i + 6) μ1 μ2 → P (nI i + 6) μ1 μ2) : L_9 L xs P (nI i) μX μM := by
  obtain ⟨n, m, m', z1, z2, V, hV, hX, hM, hS, hK, hC⟩ := hR
  have hR0 : INR (i + 6) μX μM := ⟨n, m, m', z1, z2, V, by omega, hX, hM, hS, hK, hC⟩
  exact ⟨hi 1 (by omega) (by omega), hi 2 (by omega) (by omega), uX_better hX (fun r m1 μ1 h1 f1 => ⟨hi 1 (by omega) (by omega), hi 2 (by omega) (by omega), uM_better hM (fun r2 m1' μ2 h2 f2 => hp μ1 μ2 ⟨n, m1, m1', z1, z2, V, by omega, h1, h2, RS_V hS f1 f2, RK_V hK f1 f2, CB_V hC f1⟩)⟩)⟩
theorem tu_10 (hi4 : i < 4000) (hi : ∀ c, 0 < c → c < 6 → vp_in (nI i + nI c) L) (hR : INR i μX μM) (hp : ∀ μ1 μ2, INR (i + 6) μ1 μ2 → P (nI i + 6) μ1 μ2) : L_10 L xs P (nI i) μX μM := by
  obtain ⟨n, m, m', z1, z2, V, hV, hX, hM, hS, hK, hC⟩ := hR
  have hR0 : INR (i + 6) μX μM := ⟨n, m, m', z1, z2, V, by omega, hX, hM, hS, hK, hC⟩
  exact ⟨hi 1 (by omega) (by omega), tw_cross (G := fun T => vp_in (nI i + 1) L ∧ T) (Q := fun r r2 μ1 μ2 => P (nI i + 6) μ1 μ2) (fun _ t => ⟨hi 1 (by omega) (by omega), t⟩) hX hM hK hC (fun r r2 μ1 e h1 f1 hc => hp μ1 μM ⟨n, m, m', z1, z2, V, by omega, h1, hM, RS_fr hS f1 (Fr_rf (fun q => q = 13) _) (fun q h1 h2 => by unfold sB; omega) (fun q h1 h2 => by omega), RK_fr hK f1 (Fr_rf (fun q => q = 13) _) (by unfold sB; omega) (by unfold sB; omega) (by omega) (by omega) (by omega) (by omega), hc⟩)⟩
theorem tu_11 (hi4 : i < 4000) (hi : ∀ c, 0 < c → c < 6 → vp_in (nI i + nI c) L) (hR : INR i μX μM) (hp : ∀ μ1 μ2, INR (i + 6) μ1 μ2 → P (nI i + 6) μ1 μ2) : L_11 L xs P (nI i) μX μM := by
  obtain ⟨n, m, m', z1, z2, V, hV, hX, hM, hS, hK, hC⟩ := hR
  have hR0 : INR (i + 6) μX μM := ⟨n, m, m', z1, z2, V, by omega, hX, hM, hS, hK, hC⟩
  exact ⟨hi 1 (by omega) (by omega), tw_knot (G := fun T => vp_in (nI i + 1) L ∧ T) (Q := fun r r2 μ1 μ2 => P (nI i + 6) μ1 μ2) (fun _ t => ⟨hi 1 (by omega) (by omega), t⟩) hX hM hK hC (fun r r2 μ1 e h1 f1 hc => hp μ1 μM ⟨n, m, m', z1, z2, V, by omega, h1, hM, RS_fr hS f1 (Fr_rf (fun q => q = 13) _) (fun q h1 h2 => by unfold sB; omega) (fun q h1 h2 => by omega), RK_fr hK f1 (Fr_rf (fun q => q = 13) _) (by unfold sB; omega) (by unfold sB; omega) (by omega) (by omega) (by omega) (by omega), hc⟩)⟩
theorem tu_12 (hi4 : i < 4000) (hi : ∀ c, 0 < c → c < 6 → vp_in (nI i + nI c) L) (hR : INR i μX μM) (hp : ∀ μ1 μ2, INR (i + 6) μ1 μ2 → P (nI i + 6) μ1 μ2) : L_12 L xs P (nI i) μX μM := by
  obtain ⟨n, m, m', z1, z2, V, hV, hX, hM, hS, hK, hC⟩ := hR
  have hR0 : INR (i + 6) μX μM := ⟨n, m, m', z1, z2, V, by omega, hX, hM, hS, hK, hC⟩
  exact tw_bound (G := fun T => T) (Q := fun r r2 μ1 μ2 => P (nI i + 6) μ1 μ2) (fun _ t => t) hX hM hK hC (fun r r2 μ1 e h1 f1 hc => hp μ1 μM ⟨n, m, m', z1, z2, V, by omega, h1, hM, RS_fr hS f1 (Fr_rf (fun q => q = 13) _) (fun q h1 h2 => by unfold sB; omega) (fun q h1 h2 => by omega), RK_fr hK f1 (Fr_rf (fun q => q = 13) _) (by unfold sB; omega) (by unfold sB; omega) (by omega) (by omega) (by omega) (by omega), hc⟩)
theorem tu_13 (hi4 : i < 4000) (hi : ∀ c, 0 < c → c < 6 → vp_in (nI i + nI c) L) (hR : INR i μX μM) (hp : ∀ μ1 μ2, INR (i + 6) μ1 μ2 → P (nI i + 6) μ1 μ2) : L_13 L xs P (nI i) μX μM := by
  obtain ⟨n, m, m', z1, z2, V, hV, hX, hM, hS, hK, hC⟩ := hR
  have hR0 : INR (i + 6) μX μM := ⟨n, m, m', z1, z2, V, by omega, hX, hM, hS, hK, hC⟩
  exact ⟨hi 1 (by omega) (by omega), uX_part hX (fun r m1 μ1 h1 f1 => ⟨hi 1 (by omega) (by omega), uM_part hM (fun r2 m1' μ2 h2 f2 => hp μ1 μ2 ⟨n, m1, m1', z1, z2, V, by omega, h1, h2, RS_V hS f1 f2, RK_V hK f1 f2, CB_V hC f1⟩)⟩)⟩
theorem tu_14 (hi4 : i < 4000) (hi : ∀ c, 0 < c → c < 6 → vp_in (nI i + nI c) L) (hR : INR i μX μM) (hp : ∀ μ1 μ2, INR (i + 6) μ1 μ2 → P (nI i + 6) μ1 μ2) : L_14 L xs P (nI i) μX μM := by
  obtain ⟨n, m, m', z1, z2, V, hV, hX, hM, hS, hK, hC⟩ := hR
  have hR0 : INR (i + 6) μX μM := ⟨n, m, m', z1, z2, V, by omega, hX, hM, hS, hK, hC⟩
  exact uX_within hX (fun r m1 μ1 h1 f1 => uM_within hM (fun r2 m1' μ2 h2 f2 => hp μ1 μ2 ⟨n, m1, m1', z1, z2, V, by omega, h1, h2, RS_V hS f1 f2, RK_V hK f1 f2, CB_V hC f1⟩))
theorem tu_15 (hi4 : i < 4000) (hi : ∀ c, 0 < c → c < 6 → vp_in (nI i + nI c) L) (hR : INR i μX μM) (hp : ∀ μ1 μ2, INR (i + 6) μ1 μ2 → P (nI i + 6) μ1 μ2) : L_15 L xs P (nI i) μX μM := by
  obtain ⟨n, m, m', z1, z2, V, hV, hX, hM, hS, hK, hC⟩ := hR
  have hR0 : INR (i + 6) μX μM := ⟨n, m, m', z1, z2, V, by omega, hX, hM, hS, hK, hC⟩
  exact ⟨hi 1 (by omega) (by omega), hi 2 (by omega) (by omega), uX_build hX (fun r m1 μ1 h1 f1 => ⟨hi 1 (by omega) (by omega), hi 2 (by omega) (by omega), uM_build hM (fun r2 m1' μ2 h2 f2 => hp μ1 μ2 ⟨n, m1, m1', z1, z2, V, by omega, h1, h2, RS_V hS f1 f2, RK_V hK f1 f2, CB_V hC f1⟩)⟩)⟩
theorem tu_16 (hi4 : i < 4000) (hi : ∀ c, 0 < c → c < 6 → vp_in (nI i + nI c) L) (hR : INR i μX μM) (hp : ∀ μ1 μ2, INR (i + 6) μ1 μ2 → P (nI i + 6) μ1 μ2) : L_16 L xs P (nI i) μX μM := by
  obtain ⟨n, m, m', z1, z2, V, hV, hX, hM, hS, hK, hC⟩ := hR
  have hR0 : INR (i + 6) μX μM := ⟨n, m, m', z1, z2, V, by omega, hX, hM, hS, hK, hC⟩
  exact ⟨hi 1 (by omega) (by omega), uX_move hX (fun r m1 μ1 h1 f1 => ⟨hi 1 (by omega) (by omega), uM_move hM (fun r2 m1' μ2 h2 f2 => hp μ1 μ2 ⟨n, m1, m1', z1, z2, V, by omega, h1, h2, RS_V hS f1 f2, RK_V hK f1 f2, CB_V hC f1⟩)⟩)⟩
theorem tu_17 (hi4 : i < 4000) (hi : ∀ c, 0 < c → c < 6 → vp_in (nI i + nI c) L) (hR : INR i μX μM) (hp : ∀ μ1 μ2, INR (i + 6) μ1 μ2 → P (nI i + 6) μ1 μ2) : L_17 L xs P (nI i) μX μM := by
  obtain ⟨n, m, m', z1, z2, V, hV, hX, hM, hS, hK, hC⟩ := hR
  have hR0 : INR (i + 6) μX μM := ⟨n, m, m', z1, z2, V, by omega, hX, hM, hS, hK, hC⟩
  exact ⟨hi 1 (by omega) (by omega), uX_moves hX (fun r m1 μ1 h1 f1 => ⟨hi 1 (by omega) (by omega), uM_moves hM (fun r2 m1' μ2 h2 f2 => hp μ1 μ2 ⟨n, m1, m1', z1, z2, V, by omega, h1, h2, RS_V hS f1 f2, RK_V hK f1 f2, CB_V hC f1⟩)⟩)⟩
theorem tu_18 (hi4 : i < 4000) (hi : ∀ c, 0 < c → c < 6 → vp_in (nI i + nI c) L) (hR : INR i μX μM) (hp : ∀ μ1 μ2, INR (i + 6) μ1 μ2 → P (nI i + 6) μ1 μ2) : L_18 L xs P (nI i) μX μM := by
  obtain ⟨n, m, m', z1, z2, V, hV, hX, hM, hS, hK, hC⟩ := hR
  have hR0 : INR (i + 6) μX μM := ⟨n, m, m', z1, z2, V, by omega, hX, hM, hS, hK, hC⟩
  exact ⟨hi 1 (by omega) (by omega), hi 2 (by omega) (by omega), uX_cheapest hX (fun r m1 μ1 h1 f1 => ⟨hi 1 (by omega) (by omega), hi 2 (by omega) (by omega), uM_cheapest hM (fun r2 m1' μ2 h2 f2 => hp μ1 μ2 ⟨n, m1, m1', z1, z2, V, by omega, h1, h2, RS_V hS f1 f2, RK_V hK f1 f2, CB_V hC f1⟩)⟩)⟩
theorem tu_19 (hi4 : i < 4000) (hi : ∀ c, 0 < c → c < 6 → vp_in (nI i + nI c) L) (hR : INR i μX μM) (hp : ∀ μ1 μ2, INR (i + 6) μ1 μ2 → P (nI i + 6) μ1 μ2) : L_19 L xs P (nI i) μX μM := by
  obtain ⟨n, m, m', z1, z2, V, hV, hX, hM, hS, hK, hC⟩ := hR
  have hR0 : INR (i + 6) μX μM := ⟨n, m, m', z1, z2, V, by omega, hX, hM, hS, hK, hC⟩
  exact ⟨hi 1 (by omega) (by omega), hi 2 (by omega) (by omega), uX_room hX (fun r m1 μ1 h1 f1 => ⟨hi 1 (by omega) (by omega), hi 2 (by omega) (by omega), uM_room hM (fun r2 m1' μ2 h2 f2 => hp μ1 μ2 ⟨n, m1, m1', z1, z2, V, by omega, h1, h2, RS_V hS f1 f2, RK_V hK f1 f2, CB_V hC f1⟩)⟩)⟩
theorem tu_20 (hi4 : i < 4000) (hi : ∀ c, 0 < c → c < 6 → vp_in (nI i + nI c) L) (hR : INR i μX μM) (hp : ∀ μ1 μ2, INR (i + 6) μ1 μ2 → P (nI i + 6) μ1 μ2) : L_20 L xs P (nI i) μX μM := by
  obtain ⟨n, m, m', z1, z2, V, hV, hX, hM, hS, hK, hC⟩ := hR
  have hR0 : INR (i + 6) μX μM := ⟨n, m, m', z1, z2, V, by omega, hX, hM, hS, hK, hC⟩
  exact ⟨hi 1 (by omega) (by omega), uX_two hX (fun r m1 μ1 h1 f1 => ⟨hi 1 (by omega) (by omega), uM_two hM (fun r2 m1' μ2 h2 f2 => hp μ1 μ2 ⟨n, m1, m1', z1, z2, V, by omega, h1, h2, RS_V hS f1 f2, RK_V hK f1 f2, CB_V hC f1⟩)⟩)⟩
theorem tu_21 (hi4 : i < 4000) (hi : ∀ c, 0 < c → c < 6 → vp_in (nI i + nI c) L) (hR : INR i μX μM) (hp : ∀ μ1 μ2, INR (i + 6) μ1 μ2 → P (nI i + 6) μ1 μ2) : L_21 L xs P (nI i) μX μM := by
  obtain ⟨n, m, m', z1, z2, V, hV, hX, hM, hS, hK, hC⟩ := hR
  have hR0 : INR (i + 6) μX μM := ⟨n, m, m', z1, z2, V, by omega, hX, hM, hS, hK, hC⟩
  exact ⟨hi 1 (by omega) (by omega), uX_without hX (fun r m1 μ1 h1 f1 => ⟨hi 1 (by omega) (by omega), uM_without hM (fun r2 m1' μ2 h2 f2 => hp μ1 μ2 ⟨n, m1, m1', z1, z2, V, by omega, h1, h2, RS_V hS f1 f2, RK_V hK f1 f2, CB_V hC f1⟩)⟩)⟩
theorem tu_22 (hi4 : i < 4000) (hi : ∀ c, 0 < c → c < 6 → vp_in (nI i + nI c) L) (hR : INR i μX μM) (hp : ∀ μ1 μ2, INR (i + 6) μ1 μ2 → P (nI i + 6) μ1 μ2) : L_22 L xs P (nI i) μX μM := by
  obtain ⟨n, m, m', z1, z2, V, hV, hX, hM, hS, hK, hC⟩ := hR
  have hR0 : INR (i + 6) μX μM := ⟨n, m, m', z1, z2, V, by omega, hX, hM, hS, hK, hC⟩
  exact ⟨hi 1 (by omega) (by omega), hi 2 (by omega) (by omega), uX_why hX (fun r m1 μ1 h1 f1 => ⟨hi 1 (by omega) (by omega), hi 2 (by omega) (by omega), uM_why hM (fun r2 m1' μ2 h2 f2 => hp μ1 μ2 ⟨n, m1, m1', z1, z2, V, by omega, h1, h2, RS_V hS f1 f2, RK_V hK f1 f2, CB_V hC f1⟩)⟩)⟩
theorem tu_23 (hi4 : i < 4000) (hi : ∀ c, 0 < c → c < 6 → vp_in (nI i + nI c) L) (hR : INR i μX μM) (hp : ∀ μ1 μ2, INR (i + 6) μ1 μ2 → P (nI i + 6) μ1 μ2) : L_23 L xs P (nI i) μX μM := by
  obtain ⟨n, m, m', z1, z2, V, hV, hX, hM, hS, hK, hC⟩ := hR
  have hR0 : INR (i + 6) μX μM := ⟨n, m, m', z1, z2, V, by omega, hX, hM, hS, hK, hC⟩
  exact tw_widest (G := fun T => T) (Q := fun r r2 μ1 μ2 => ((r = r2 → P (nI i + 6) μ1 μ2) ∧ (¬ r = r2 → False))) (fun _ t => t) hX hM hK (fun r r2 m1 m1' μ1 μ2 e h1 h2 f1 f2 => br_t e (hp μ1 μ2 ⟨n, m1, m1', z1, z2, V, by omega, h1, h2, RS_V hS f1 f2, RK_V hK f1 f2, CB_V hC f1⟩))
theorem tu_24 (hi4 : i < 4000) (hi : ∀ c, 0 < c → c < 6 → vp_in (nI i + nI c) L) (hR : INR i μX μM) (hp : ∀ μ1 μ2, INR (i + 6) μ1 μ2 → P (nI i + 6) μ1 μ2) : L_24 L xs P (nI i) μX μM := by
  obtain ⟨n, m, m', z1, z2, V, hV, hX, hM, hS, hK, hC⟩ := hR
  have hR0 : INR (i + 6) μX μM := ⟨n, m, m', z1, z2, V, by omega, hX, hM, hS, hK, hC⟩
  exact ⟨hi 1 (by omega) (by omega), hi 2 (by omega) (by omega), hi 3 (by omega) (by omega), qX_sheet hX (fun μ1 h1 s1 _ _ => ⟨hi 1 (by omega) (by omega), hi 2 (by omega) (by omega), hi 3 (by omega) (by omega), qM_sheet hM (fun μ2 h2 s2 _ _ => hp μ1 μ2 ⟨n, m, m', z1, z2, V, by omega, h1, h2, RS_sheet hS s1 s2, RK_sh hK (ShX_fr s1) (ShM_fr s2), CB_sh hC (ShX_fr s1)⟩)⟩)⟩
theorem tu_25 (hi4 : i < 4000) (hi : ∀ c, 0 < c → c < 6 → vp_in (nI i + nI c) L) (hR : INR i μX μM) (hp : ∀ μ1 μ2, INR (i + 6) μ1 μ2 → P (nI i + 6) μ1 μ2) : L_25 L xs P (nI i) μX μM := by
  obtain ⟨n, m, m', z1, z2, V, hV, hX, hM, hS, hK, hC⟩ := hR
  have hR0 : INR (i + 6) μX μM := ⟨n, m, m', z1, z2, V, by omega, hX, hM, hS, hK, hC⟩
  exact ⟨hi 1 (by omega) (by omega), tw_lose (G := fun T => vp_in (nI i + 1) L ∧ T) (Q := fun r r2 μ1 μ2 => P (nI i + 6) μ1 μ2) (fun _ t => ⟨hi 1 (by omega) (by omega), t⟩) hX hM hS (fun r μ1 μ2 h1 h2 s _ _ f1 f2 => hp μ1 μ2 ⟨n, m, m', z1, z2, V, by omega, h1, h2, s, RK_sh hK (Fr_mono f1 (fun q hq => by omega)) (Fr_mono f2 (fun q hq => by omega)), CB_sh hC (Fr_mono f1 (fun q hq => by omega))⟩)⟩
theorem tu_26 (hi4 : i < 4000) (hi : ∀ c, 0 < c → c < 6 → vp_in (nI i + nI c) L) (hR : INR i μX μM) (hp : ∀ μ1 μ2, INR (i + 6) μ1 μ2 → P (nI i + 6) μ1 μ2) : L_26 L xs P (nI i) μX μM := by
  obtain ⟨n, m, m', z1, z2, V, hV, hX, hM, hS, hK, hC⟩ := hR
  have hR0 : INR (i + 6) μX μM := ⟨n, m, m', z1, z2, V, by omega, hX, hM, hS, hK, hC⟩
  exact ⟨hi 1 (by omega) (by omega), hi 2 (by omega) (by omega), hi 3 (by omega) (by omega), tw_put (G := fun T => vp_in (nI i + 1) L ∧ vp_in (nI i + 2) L ∧ vp_in (nI i + 3) L ∧ T) (Q := fun r r2 μ1 μ2 => P (nI i + 6) μ1 μ2) (fun _ t => ⟨hi 1 (by omega) (by omega), hi 2 (by omega) (by omega), hi 3 (by omega) (by omega), t⟩) hX hM hS (fun r μ1 μ2 h1 h2 s _ _ _ f1 f2 => hp μ1 μ2 ⟨n, m, m', z1, z2, V, by omega, h1, h2, s, RK_sh hK (Fr_mono f1 (fun q hq => by omega)) (Fr_mono f2 (fun q hq => by omega)), CB_sh hC (Fr_mono f1 (fun q hq => by omega))⟩)⟩
theorem tu_27 (hi4 : i < 4000) (hi : ∀ c, 0 < c → c < 6 → vp_in (nI i + nI c) L) (hR : INR i μX μM) (hp : ∀ μ1 μ2, INR (i + 6) μ1 μ2 → P (nI i + 6) μ1 μ2) : L_27 L xs P (nI i) μX μM := by
  obtain ⟨n, m, m', z1, z2, V, hV, hX, hM, hS, hK, hC⟩ := hR
  have hR0 : INR (i + 6) μX μM := ⟨n, m, m', z1, z2, V, by omega, hX, hM, hS, hK, hC⟩
  exact ⟨hi 1 (by omega) (by omega), hi 2 (by omega) (by omega), hi 3 (by omega) (by omega), tw_cell (G := fun T => vp_in (nI i + 1) L ∧ vp_in (nI i + 2) L ∧ vp_in (nI i + 3) L ∧ T) (Q := fun r r2 μ1 μ2 => P (nI i + 6) μ1 μ2) (fun _ t => ⟨hi 1 (by omega) (by omega), hi 2 (by omega) (by omega), hi 3 (by omega) (by omega), t⟩) hX hM hS (fun r μ1 μ2 h1 h2 s _ _ _ f1 f2 => hp μ1 μ2 ⟨n, m, m', z1, z2, V, by omega, h1, h2, s, RK_sh hK (Fr_mono f1 (fun q hq => by omega)) (Fr_mono f2 (fun q hq => by omega)), CB_sh hC (Fr_mono f1 (fun q hq => by omega))⟩)⟩
theorem tu_28 (hi4 : i < 4000) (hi : ∀ c, 0 < c → c < 6 → vp_in (nI i + nI c) L) (hR : INR i μX μM) (hp : ∀ μ1 μ2, INR (i + 6) μ1 μ2 → P (nI i + 6) μ1 μ2) : L_28 L xs P (nI i) μX μM := by
  obtain ⟨n, m, m', z1, z2, V, hV, hX, hM, hS, hK, hC⟩ := hR
  have hR0 : INR (i + 6) μX μM := ⟨n, m, m', z1, z2, V, by omega, hX, hM, hS, hK, hC⟩
  exact ⟨hi 1 (by omega) (by omega), uX_tell hX (fun r m1 μ1 h1 f1 => ⟨hi 1 (by omega) (by omega), uM_tell hM (fun r2 m1' μ2 h2 f2 => hp μ1 μ2 ⟨n, m1, m1', z1, z2, V, by omega, h1, h2, RS_V hS f1 f2, RK_V hK f1 f2, CB_V hC f1⟩)⟩)⟩
theorem tu_29 (hi4 : i < 4000) (hi : ∀ c, 0 < c → c < 6 → vp_in (nI i + nI c) L) (hR : INR i μX μM) (hp : ∀ μ1 μ2, INR (i + 6) μ1 μ2 → P (nI i + 6) μ1 μ2) : L_29 L xs P (nI i) μX μM := by
  obtain ⟨n, m, m', z1, z2, V, hV, hX, hM, hS, hK, hC⟩ := hR
  have hR0 : INR (i + 6) μX μM := ⟨n, m, m', z1, z2, V, by omega, hX, hM, hS, hK, hC⟩
  exact ⟨hi 1 (by omega) (by omega), uX_show hX (fun r m1 μ1 h1 f1 => ⟨hi 1 (by omega) (by omega), uM_show hM (fun r2 m1' μ2 h2 f2 => hp μ1 μ2 ⟨n, m1, m1', z1, z2, V, by omega, h1, h2, RS_V hS f1 f2, RK_V hK f1 f2, CB_V hC f1⟩)⟩)⟩
theorem tu_30 (hi4 : i < 4000) (hi : ∀ c, 0 < c → c < 6 → vp_in (nI i + nI c) L) (hR : INR i μX μM) (hp : ∀ μ1 μ2, INR (i + 6) μ1 μ2 → P (nI i + 6) μ1 μ2) : L_30 L xs P (nI i) μX μM := by
  obtain ⟨n, m, m', z1, z2, V, hV, hX, hM, hS, hK, hC⟩ := hR
  have hR0 : INR (i + 6) μX μM := ⟨n, m, m', z1, z2, V, by omega, hX, hM, hS, hK, hC⟩
  exact ⟨hi 1 (by omega) (by omega), hi 2 (by omega) (by omega), uX_as hX (fun r m1 μ1 h1 f1 => ⟨hi 1 (by omega) (by omega), hi 2 (by omega) (by omega), uM_as hM (fun r2 m1' μ2 h2 f2 => hp μ1 μ2 ⟨n, m1, m1', z1, z2, V, by omega, h1, h2, RS_V hS f1 f2, RK_V hK f1 f2, CB_V hC f1⟩)⟩)⟩
theorem tu_31 (hi4 : i < 4000) (hi : ∀ c, 0 < c → c < 6 → vp_in (nI i + nI c) L) (hR : INR i μX μM) (hp : ∀ μ1 μ2, INR (i + 6) μ1 μ2 → P (nI i + 6) μ1 μ2) : L_31 L xs P (nI i) μX μM := by
  obtain ⟨n, m, m', z1, z2, V, hV, hX, hM, hS, hK, hC⟩ := hR
  have hR0 : INR (i + 6) μX μM := ⟨n, m, m', z1, z2, V, by omega, hX, hM, hS, hK, hC⟩
  exact uX_trace hX (fun r m1 μ1 h1 f1 => uM_trace hM (fun r2 m1' μ2 h2 f2 => hp μ1 μ2 ⟨n, m1, m1', z1, z2, V, by omega, h1, h2, RS_V hS f1 f2, RK_V hK f1 f2, CB_V hC f1⟩))
theorem tu_32 (hi4 : i < 4000) (hi : ∀ c, 0 < c → c < 6 → vp_in (nI i + nI c) L) (hR : INR i μX μM) (hp : ∀ μ1 μ2, INR (i + 6) μ1 μ2 → P (nI i + 6) μ1 μ2) : L_32 L xs P (nI i) μX μM := by
  obtain ⟨n, m, m', z1, z2, V, hV, hX, hM, hS, hK, hC⟩ := hR
  have hR0 : INR (i + 6) μX μM := ⟨n, m, m', z1, z2, V, by omega, hX, hM, hS, hK, hC⟩
  exact uX_fault hX (fun r m1 μ1 h1 f1 => uM_fault hM (fun r2 m1' μ2 h2 f2 => hp μ1 μ2 ⟨n, m1, m1', z1, z2, V, by omega, h1, h2, RS_V hS f1 f2, RK_V hK f1 f2, CB_V hC f1⟩))
theorem tu_33 (hi4 : i < 4000) (hi : ∀ c, 0 < c → c < 6 → vp_in (nI i + nI c) L) (hR : INR i μX μM) (hp : ∀ μ1 μ2, INR (i + 6) μ1 μ2 → P (nI i + 6) μ1 μ2) : L_33 L xs P (nI i) μX μM := by
  obtain ⟨n, m, m', z1, z2, V, hV, hX, hM, hS, hK, hC⟩ := hR
  have hR0 : INR (i + 6) μX μM := ⟨n, m, m', z1, z2, V, by omega, hX, hM, hS, hK, hC⟩
  exact ⟨hi 1 (by omega) (by omega), uX_many hX (fun r m1 μ1 h1 f1 => ⟨hi 1 (by omega) (by omega), uM_many hM (fun r2 m1' μ2 h2 f2 => hp μ1 μ2 ⟨n, m1, m1', z1, z2, V, by omega, h1, h2, RS_V hS f1 f2, RK_V hK f1 f2, CB_V hC f1⟩)⟩)⟩
theorem tu_turn (hi4 : i < 4000) (hi : ∀ c, c < 6 → vp_in (nI i + nI c) L) (hR : INR i μX μM) (hp : ∀ μ1 μ2, INR (i + 6) μ1 μ2 → P (nI i + 6) μ1 μ2) : L_turn L xs P (nI i) μX μM := by
  have h0 : vp_in (nI i) L := by have := hi 0 (by omega); rw [nI_add] at this; exact this
  have h1 : ∀ c, 0 < c → c < 6 → vp_in (nI i + nI c) L := fun c _ h => hi c h
  have hR0 : INR (i + 6) μX μM := by
    obtain ⟨n, m, m', z1, z2, V, hV, h⟩ := hR
    exact ⟨n, m, m', z1, z2, V, by omega, h⟩
  exact ⟨h0, fun _ => tu_0 hi4 h1 hR hp, fun _ => tu_1 hi4 h1 hR hp, fun _ => tu_2 hi4 h1 hR hp, fun _ => tu_3 hi4 h1 hR hp, fun _ => tu_4 hi4 h1 hR hp, fun _ => tu_5 hi4 h1 hR hp, fun _ => tu_6 hi4 h1 hR hp, fun _ => tu_7 hi4 h1 hR hp, fun _ => tu_8 hi4 h1 hR hp, fun _ => tu_9 hi4 h1 hR hp, fun _ => tu_10 hi4 h1 hR hp, fun _ => tu_11 hi4 h1 hR hp, fun _ => tu_12 hi4 h1 hR hp, fun _ => tu_13 hi4 h1 hR hp, fun _ => tu_14 hi4 h1 hR hp, fun _ => tu_15 hi4 h1 hR hp, fun _ => tu_16 hi4 h1 hR hp, fun _ => tu_17 hi4 h1 hR hp, fun _ => tu_18 hi4 h1 hR hp, fun _ => tu_19 hi4 h1 hR hp, fun _ => tu_20 hi4 h1 hR hp, fun _ => tu_21 hi4 h1 hR hp, fun _ => tu_22 hi4 h1 hR hp, fun _ => tu_23 hi4 h1 hR hp, fun _ => tu_24 hi4 h1 hR hp, fun _ => tu_25 hi4 h1 hR hp, fun _ => tu_26 hi4 h1 hR hp, fun _ => tu_27 hi4 h1 hR hp, fun _ => tu_28 hi4 h1 hR hp, fun _ => tu_29 hi4 h1 hR hp, fun _ => tu_30 hi4 h1 hR hp, fun _ => tu_31 hi4 h1 hR hp, fun _ => tu_32 hi4 h1 hR hp, fun _ => tu_33 hi4 h1 hR hp, hp μX μM hR0⟩
end Turn
theorem INR_start {f17 f18 f20 f21 : Nat → Int32} (h : IX 0 0 (fun _ => 1) (fun _ => 1) (muX f17 f18 f20 f21)) (h2 : IM 0 0 muM) : INR 0 (muX f17 f18 f20 f21) muM := by
  have e1 : ∀ k, k < 4 → (upd (upd (upd (upd (fun _ => (0 : Int32)) (0 : Int32).toNatClampNeg (-1)) (1 : Int32).toNatClampNeg (-1)) (2 : Int32).toNatClampNeg (-1)) (3 : Int32).toNatClampNeg (-1)) k = -1 := by decide +kernel
  have e2 : ∀ k, k < 4 → (upd (upd (upd (upd (fun _ => (0 : Int32)) (0 : Int32).toNatClampNeg (-9)) (1 : Int32).toNatClampNeg (-9)) (2 : Int32).toNatClampNeg (-9)) (3 : Int32).toNatClampNeg (-9)) k = -9 := by decide +kernel
  have e3 : ∀ t, t < 10 → muM 6 t = nI 1 ∧ muM 7 t = nI 1 := by decide +kernel
  exact ⟨0, 0, 0, _, _, 0, Nat.le_refl _, h, h2, fun k hk => Or.inl ⟨e1 k hk, e2 k hk⟩, ⟨fun w hw => absurd hw (by omega), e3⟩, by omega, rfl, Or.inl rfl⟩
