/-! the law's turn: whatever is called, both sides go on, and their sheets stay alike -/
def INX (μ : Mem) : Prop := ∃ n m z1 z2, IX n m z1 z2 μ
def INM (μ : Mem) : Prop := ∃ n m, IM n m μ
def INR (μX μM : Mem) : Prop := INX μX ∧ INM μM ∧ RS μX μM
section Us
variable {μ : Mem} {x1 x2 x3 x4 x5 : Int32}
theorem uX_shop {post : Int32 → Mem → Prop} (h : INX μ) (k : ∀ r μ1, INX μ1 → Fr sNS μ μ1 → post r μ1) : T_X11_shop x1 x2 x3 x4 μ post := by
  obtain ⟨n, m, z1, z2, h⟩ := h
  exact pX_shop h (fun r n m z μ1 f _ h1 => k r μ1 ⟨n, m, z, z2, h1⟩ f)
theorem uM_shop {post : Int32 → Mem → Prop} (h : INM μ) (k : ∀ r μ1, INM μ1 → Fr sMN μ μ1 → post r μ1) : T_X12_shop x1 x2 x3 x4 μ post := by
  obtain ⟨n, m, h⟩ := h
  exact pM_shop h (fun r n m μ1 f h1 => k r μ1 ⟨n, m, h1⟩ f)
theorem uX_work {post : Int32 → Mem → Prop} (h : INX μ) (k : ∀ r μ1, INX μ1 → Fr sNS μ μ1 → post r μ1) : T_X11_work x1 x2 μ post := by
  obtain ⟨n, m, z1, z2, h⟩ := h
  exact pX_work h (fun r n m μ1 f h1 => k r μ1 ⟨n, m, z1, z2, h1⟩ (N0_NS f))
theorem uM_work {post : Int32 → Mem → Prop} (h : INM μ) (k : ∀ r μ1, INM μ1 → Fr sMN μ μ1 → post r μ1) : T_X12_work x1 x2 μ post := by
  obtain ⟨n, m, h⟩ := h
  exact pM_work h (fun r n m μ1 f h1 => k r μ1 ⟨n, m, h1⟩ f)
theorem uX_ofWork {post : Int32 → Mem → Prop} (h : INX μ) (k : ∀ r μ1, INX μ1 → Fr sNS μ μ1 → post r μ1) : T_X11_ofWork x1 x2 μ post := by
  obtain ⟨n, m, z1, z2, h⟩ := h
  exact pX_ofWork h (fun r => k r μ ⟨n, m, z1, z2, h⟩ (Fr_rf _ _))
theorem uM_ofWork {post : Int32 → Mem → Prop} (h : INM μ) (k : ∀ r μ1, INM μ1 → Fr sMN μ μ1 → post r μ1) : T_X12_ofWork x1 x2 μ post := by
  obtain ⟨n, m, h⟩ := h
  exact pM_ofWork h (fun r => k r μ ⟨n, m, h⟩ (Fr_rf _ _))
theorem uX_before {post : Int32 → Mem → Prop} (h : INX μ) (k : ∀ r μ1, INX μ1 → Fr sNS μ μ1 → post r μ1) : T_X11_before x1 x2 x3 μ post := by
  obtain ⟨n, m, z1, z2, h⟩ := h
  exact pX_before h (fun r μ1 f h1 => k r μ1 ⟨n, m, z1, z2, h1⟩ (N0_NS f))
theorem uM_before {post : Int32 → Mem → Prop} (h : INM μ) (k : ∀ r μ1, INM μ1 → Fr sMN μ μ1 → post r μ1) : T_X12_before x1 x2 x3 μ post := by
  obtain ⟨n, m, h⟩ := h
  exact pM_before h (fun r μ1 f h1 => k r μ1 ⟨n, m, h1⟩ (Fr_mono f (fun q hq => by unfold sMN; omega)))
theorem uX_thing {post : Int32 → Mem → Prop} (h : INX μ) (k : ∀ r μ1, INX μ1 → Fr sNS μ μ1 → post r μ1) : T_X11_thing x1 x2 x3 μ post := by
  obtain ⟨n, m, z1, z2, h⟩ := h
  exact pX_thing h (fun r z1 z2 μ1 f h1 => k r μ1 ⟨n, m, z1, z2, h1⟩ (N0_NS f))
theorem uM_thing {post : Int32 → Mem → Prop} (h : INM μ) (k : ∀ r μ1, INM μ1 → Fr sMN μ μ1 → post r μ1) : T_X12_thing x1 x2 x3 μ post := by
  obtain ⟨n, m, h⟩ := h
  exact pM_thing h (fun r μ1 f h1 => k r μ1 ⟨n, m, h1⟩ f)
theorem uX_order {post : Int32 → Mem → Prop} (h : INX μ) (k : ∀ r μ1, INX μ1 → Fr sNS μ μ1 → post r μ1) : T_X11_order x1 x2 x3 x4 x5 μ post := by
  obtain ⟨n, m, z1, z2, h⟩ := h
  exact pX_order h (fun r m μ1 f _ h1 => k r μ1 ⟨n, m, z1, z2, h1⟩ f)
theorem uM_order {post : Int32 → Mem → Prop} (h : INM μ) (k : ∀ r μ1, INM μ1 → Fr sMN μ μ1 → post r μ1) : T_X12_order x1 x2 x3 x4 x5 μ post := by
  obtain ⟨n, m, h⟩ := h
  exact pM_order h (fun r m μ1 f h1 => k r μ1 ⟨n, m, h1⟩ f)
theorem uX_ofOrder {post : Int32 → Mem → Prop} (h : INX μ) (k : ∀ r μ1, INX μ1 → Fr sNS μ μ1 → post r μ1) : T_X11_ofOrder x1 x2 μ post := by
  obtain ⟨n, m, z1, z2, h⟩ := h
  exact pX_ofOrder h (fun r μ1 f h1 => k r μ1 ⟨n, m, z1, z2, h1⟩ (N0_NS (Q_N0 f)))
theorem uM_ofOrder {post : Int32 → Mem → Prop} (h : INM μ) (k : ∀ r μ1, INM μ1 → Fr sMN μ μ1 → post r μ1) : T_X12_ofOrder x1 x2 μ post := by
  obtain ⟨n, m, h⟩ := h
  exact pM_ofOrder h (fun r μ1 f h1 => k r μ1 ⟨n, m, h1⟩ (M_MN f))
theorem uX_best {post : Int32 → Mem → Prop} (h : INX μ) (k : ∀ r μ1, INX μ1 → Fr sNS μ μ1 → post r μ1) : T_X11_best x1 μ post := by
  obtain ⟨n, m, z1, z2, h⟩ := h
  exact pX_best h (fun r μ1 f h1 => k r μ1 ⟨n, m, z1, z2, h1⟩ (N0_NS (Q_N0 f)))
theorem uM_best {post : Int32 → Mem → Prop} (h : INM μ) (k : ∀ r μ1, INM μ1 → Fr sMN μ μ1 → post r μ1) : T_X12_best x1 μ post := by
  obtain ⟨n, m, h⟩ := h
  exact pM_best h (fun r μ1 f h1 => k r μ1 ⟨n, m, h1⟩ (M_MN f))
theorem uX_from {post : Int32 → Mem → Prop} (h : INX μ) (k : ∀ r μ1, INX μ1 → Fr sNS μ μ1 → post r μ1) : T_X11_from x1 x2 x3 μ post := by
  obtain ⟨n, m, z1, z2, h⟩ := h
  exact pX_from h (fun r μ1 f h1 => k r μ1 ⟨n, m, z1, z2, h1⟩ (N0_NS (Q_N0 f)))
theorem uM_from {post : Int32 → Mem → Prop} (h : INM μ) (k : ∀ r μ1, INM μ1 → Fr sMN μ μ1 → post r μ1) : T_X12_from x1 x2 x3 μ post := by
  obtain ⟨n, m, h⟩ := h
  exact pM_from h (fun r μ1 f h1 => k r μ1 ⟨n, m, h1⟩ (M_MN f))
theorem uX_better {post : Int32 → Mem → Prop} (h : INX μ) (k : ∀ r μ1, INX μ1 → Fr sNS μ μ1 → post r μ1) : T_X11_better x1 x2 μ post := by
  obtain ⟨n, m, z1, z2, h⟩ := h
  exact pX_better h (fun r μ1 f h1 => k r μ1 ⟨n, m, z1, z2, h1⟩ (N0_NS (Q_N0 f)))
theorem uM_better {post : Int32 → Mem → Prop} (h : INM μ) (k : ∀ r μ1, INM μ1 → Fr sMN μ μ1 → post r μ1) : T_X12_better x1 x2 μ post := by
  obtain ⟨n, m, h⟩ := h
  exact pM_better h (fun r μ1 f h1 => k r μ1 ⟨n, m, h1⟩ (M_MN f))
theorem uX_cross {post : Int32 → Mem → Prop} (h : INX μ) (k : ∀ r μ1, INX μ1 → Fr sNS μ μ1 → post r μ1) : T_X11_cross x1 μ post := by
  obtain ⟨n, m, z1, z2, h⟩ := h
  exact pX_cross h (fun r μ1 f h1 => k r μ1 ⟨n, m, z1, z2, h1⟩ (N0_NS (Q_N0 f)))
theorem uM_cross {post : Int32 → Mem → Prop} (h : INM μ) (k : ∀ r μ1, INM μ1 → Fr sMN μ μ1 → post r μ1) : T_X12_cross x1 μ post := by
  obtain ⟨n, m, h⟩ := h
  exact pM_cross h (fun r => k r μ ⟨n, m, h⟩ (Fr_rf _ _))
theorem uX_knot {post : Int32 → Mem → Prop} (h : INX μ) (k : ∀ r μ1, INX μ1 → Fr sNS μ μ1 → post r μ1) : T_X11_knot x1 μ post := by
  obtain ⟨n, m, z1, z2, h⟩ := h
  exact pX_knot h (fun r μ1 f h1 => k r μ1 ⟨n, m, z1, z2, h1⟩ (N0_NS (Q_N0 f)))
theorem uM_knot {post : Int32 → Mem → Prop} (h : INM μ) (k : ∀ r μ1, INM μ1 → Fr sMN μ μ1 → post r μ1) : T_X12_knot x1 μ post := by
  obtain ⟨n, m, h⟩ := h
  exact pM_knot h (fun r => k r μ ⟨n, m, h⟩ (Fr_rf _ _))
theorem uX_bound {post : Int32 → Mem → Prop} (h : INX μ) (k : ∀ r μ1, INX μ1 → Fr sNS μ μ1 → post r μ1) : T_X11_bound μ post := by
  obtain ⟨n, m, z1, z2, h⟩ := h
  exact pX_bound h (fun r μ1 f h1 => k r μ1 ⟨n, m, z1, z2, h1⟩ (N0_NS (Q_N0 f)))
theorem uM_bound {post : Int32 → Mem → Prop} (h : INM μ) (k : ∀ r μ1, INM μ1 → Fr sMN μ μ1 → post r μ1) : T_X12_bound μ post := by
  obtain ⟨n, m, h⟩ := h
  exact pM_bound h (fun r => k r μ ⟨n, m, h⟩ (Fr_rf _ _))
theorem uX_part {post : Int32 → Mem → Prop} (h : INX μ) (k : ∀ r μ1, INX μ1 → Fr sNS μ μ1 → post r μ1) : T_X11_part x1 μ post := by
  obtain ⟨n, m, z1, z2, h⟩ := h
  exact pX_part h (fun r => k r μ ⟨n, m, z1, z2, h⟩ (Fr_rf _ _))
theorem uM_part {post : Int32 → Mem → Prop} (h : INM μ) (k : ∀ r μ1, INM μ1 → Fr sMN μ μ1 → post r μ1) : T_X12_part x1 μ post := by
  obtain ⟨n, m, h⟩ := h
  exact pM_part h (fun r μ1 f h1 => k r μ1 ⟨n, m, h1⟩ (M_MN f))
theorem uX_within {post : Int32 → Mem → Prop} (h : INX μ) (k : ∀ r μ1, INX μ1 → Fr sNS μ μ1 → post r μ1) : T_X11_within μ post := by
  obtain ⟨n, m, z1, z2, h⟩ := h
  exact pX_within h (fun r => k r μ ⟨n, m, z1, z2, h⟩ (Fr_rf _ _))
theorem uM_within {post : Int32 → Mem → Prop} (h : INM μ) (k : ∀ r μ1, INM μ1 → Fr sMN μ μ1 → post r μ1) : T_X12_within μ post := by
  obtain ⟨n, m, h⟩ := h
  exact pM_within h (fun r => k r μ ⟨n, m, h⟩ (Fr_rf _ _))
theorem uX_build {post : Int32 → Mem → Prop} (h : INX μ) (k : ∀ r μ1, INX μ1 → Fr sNS μ μ1 → post r μ1) : T_X11_build x1 x2 μ post := by
  obtain ⟨n, m, z1, z2, h⟩ := h
  exact pX_build h (fun r m μ1 f h1 => k r μ1 ⟨n, m, z1, z2, h1⟩ (N0_NS f))
theorem uM_build {post : Int32 → Mem → Prop} (h : INM μ) (k : ∀ r μ1, INM μ1 → Fr sMN μ μ1 → post r μ1) : T_X12_build x1 x2 μ post := by
  obtain ⟨n, m, h⟩ := h
  exact pM_build h (fun r m μ1 f _ h1 => k r μ1 ⟨n, m, h1⟩ (Fr_mono f (fun q hq => by unfold sMc at hq; unfold sMN; omega)))
theorem uX_move {post : Int32 → Mem → Prop} (h : INX μ) (k : ∀ r μ1, INX μ1 → Fr sNS μ μ1 → post r μ1) : T_X11_move x1 μ post := by
  obtain ⟨n, m, z1, z2, h⟩ := h
  exact pX_move h (fun r m μ1 f h1 => k r μ1 ⟨n, m, z1, z2, h1⟩ (N0_NS f))
theorem uM_move {post : Int32 → Mem → Prop} (h : INM μ) (k : ∀ r μ1, INM μ1 → Fr sMN μ μ1 → post r μ1) : T_X12_move x1 μ post := by
  obtain ⟨n, m, h⟩ := h
  exact pM_move h (fun r m μ1 f _ h1 => k r μ1 ⟨n, m, h1⟩ (Fr_mono f (fun q hq => by unfold sMc at hq; unfold sMN; omega)))
theorem uX_moves {post : Int32 → Mem → Prop} (h : INX μ) (k : ∀ r μ1, INX μ1 → Fr sNS μ μ1 → post r μ1) : T_X11_moves x1 μ post := by
  obtain ⟨n, m, z1, z2, h⟩ := h
  exact pX_moves h (fun r μ1 f h1 => k r μ1 ⟨n, m, z1, z2, h1⟩ (N0_NS (Q_N0 f)))
theorem uM_moves {post : Int32 → Mem → Prop} (h : INM μ) (k : ∀ r μ1, INM μ1 → Fr sMN μ μ1 → post r μ1) : T_X12_moves x1 μ post := by
  obtain ⟨n, m, h⟩ := h
  exact pM_moves h (fun r μ1 f h1 => k r μ1 ⟨n, m, h1⟩ (M_MN f))
theorem uX_cheapest {post : Int32 → Mem → Prop} (h : INX μ) (k : ∀ r μ1, INX μ1 → Fr sNS μ μ1 → post r μ1) : T_X11_cheapest x1 x2 μ post := by
  obtain ⟨n, m, z1, z2, h⟩ := h
  exact pX_cheapest h (fun r μ1 f h1 => k r μ1 ⟨n, m, z1, z2, h1⟩ (N0_NS (Q_N0 f)))
theorem uM_cheapest {post : Int32 → Mem → Prop} (h : INM μ) (k : ∀ r μ1, INM μ1 → Fr sMN μ μ1 → post r μ1) : T_X12_cheapest x1 x2 μ post := by
  obtain ⟨n, m, h⟩ := h
  exact pM_cheapest h (fun r μ1 f h1 => k r μ1 ⟨n, m, h1⟩ (M_MN f))
theorem uX_room {post : Int32 → Mem → Prop} (h : INX μ) (k : ∀ r μ1, INX μ1 → Fr sNS μ μ1 → post r μ1) : T_X11_room x1 x2 μ post := by
  obtain ⟨n, m, z1, z2, h⟩ := h
  exact pX_room h (fun r μ1 f h1 => k r μ1 ⟨n, m, z1, z2, h1⟩ (N0_NS (Q_N0 f)))
theorem uM_room {post : Int32 → Mem → Prop} (h : INM μ) (k : ∀ r μ1, INM μ1 → Fr sMN μ μ1 → post r μ1) : T_X12_room x1 x2 μ post := by
  obtain ⟨n, m, h⟩ := h
  exact pM_room h (fun r μ1 f h1 => k r μ1 ⟨n, m, h1⟩ (M_MN f))
theorem uX_two {post : Int32 → Mem → Prop} (h : INX μ) (k : ∀ r μ1, INX μ1 → Fr sNS μ μ1 → post r μ1) : T_X11_two x1 μ post := by
  obtain ⟨n, m, z1, z2, h⟩ := h
  exact pX_two h (fun r μ1 f h1 => k r μ1 ⟨n, m, z1, z2, h1⟩ (N0_NS (Q_N0 f)))
theorem uM_two {post : Int32 → Mem → Prop} (h : INM μ) (k : ∀ r μ1, INM μ1 → Fr sMN μ μ1 → post r μ1) : T_X12_two x1 μ post := by
  obtain ⟨n, m, h⟩ := h
  exact pM_two h (fun r μ1 f h1 => k r μ1 ⟨n, m, h1⟩ (M_MN f))
theorem uX_without {post : Int32 → Mem → Prop} (h : INX μ) (k : ∀ r μ1, INX μ1 → Fr sNS μ μ1 → post r μ1) : T_X11_without x1 μ post := by
  obtain ⟨n, m, z1, z2, h⟩ := h
  exact pX_without h (fun r μ1 f h1 => k r μ1 ⟨n, m, z1, z2, h1⟩ (N0_NS (Q_N0 f)))
theorem uM_without {post : Int32 → Mem → Prop} (h : INM μ) (k : ∀ r μ1, INM μ1 → Fr sMN μ μ1 → post r μ1) : T_X12_without x1 μ post := by
  obtain ⟨n, m, h⟩ := h
  exact pM_without h (fun r μ1 f h1 => k r μ1 ⟨n, m, h1⟩ (M_MN f))
theorem uX_why {post : Int32 → Mem → Prop} (h : INX μ) (k : ∀ r μ1, INX μ1 → Fr sNS μ μ1 → post r μ1) : T_X11_why x1 x2 μ post := by
  obtain ⟨n, m, z1, z2, h⟩ := h
  exact pX_why h (fun r μ1 f h1 => k r μ1 ⟨n, m, z1, z2, h1⟩ (N0_NS (Q_N0 f)))
theorem uM_why {post : Int32 → Mem → Prop} (h : INM μ) (k : ∀ r μ1, INM μ1 → Fr sMN μ μ1 → post r μ1) : T_X12_why x1 x2 μ post := by
  obtain ⟨n, m, h⟩ := h
  exact pM_why h (fun r μ1 f h1 => k r μ1 ⟨n, m, h1⟩ (M_MN f))
theorem uX_widest {post : Int32 → Mem → Prop} (h : INX μ) (k : ∀ r μ1, INX μ1 → Fr sNS μ μ1 → post r μ1) : T_X11_widest μ post := by
  obtain ⟨n, m, z1, z2, h⟩ := h
  exact pX_widest h (fun r μ1 f h1 => k r μ1 ⟨n, m, z1, z2, h1⟩ (N0_NS (Q_N0 f)))
theorem uM_widest {post : Int32 → Mem → Prop} (h : INM μ) (k : ∀ r μ1, INM μ1 → Fr sMN μ μ1 → post r μ1) : T_X12_widest μ post := by
  obtain ⟨n, m, h⟩ := h
  exact pM_widest h (fun r μ1 f h1 => k r μ1 ⟨n, m, h1⟩ (M_MN f))
theorem uX_tell {post : Int32 → Mem → Prop} (h : INX μ) (k : ∀ r μ1, INX μ1 → Fr sNS μ μ1 → post r μ1) : T_X11_tell x1 μ post := by
  obtain ⟨n, m, z1, z2, h⟩ := h
  exact pX_tell h (fun r μ1 f h1 => k r μ1 ⟨n, m, z1, z2, h1⟩ f)
theorem uM_tell {post : Int32 → Mem → Prop} (h : INM μ) (k : ∀ r μ1, INM μ1 → Fr sMN μ μ1 → post r μ1) : T_X12_tell x1 μ post := by
  obtain ⟨n, m, h⟩ := h
  exact pM_tell h (fun r μ1 f h1 => k r μ1 ⟨n, m, h1⟩ f)
theorem uX_show {post : Int32 → Mem → Prop} (h : INX μ) (k : ∀ r μ1, INX μ1 → Fr sNS μ μ1 → post r μ1) : T_X11_show x1 μ post := by
  obtain ⟨n, m, z1, z2, h⟩ := h
  exact pX_show h (fun r μ1 f h1 => k r μ1 ⟨n, m, z1, z2, h1⟩ f)
theorem uM_show {post : Int32 → Mem → Prop} (h : INM μ) (k : ∀ r μ1, INM μ1 → Fr sMN μ μ1 → post r μ1) : T_X12_show x1 μ post := by
  obtain ⟨n, m, h⟩ := h
  exact pM_show h (fun r μ1 f h1 => k r μ1 ⟨n, m, h1⟩ f)
theorem uX_as {post : Int32 → Mem → Prop} (h : INX μ) (k : ∀ r μ1, INX μ1 → Fr sNS μ μ1 → post r μ1) : T_X11_as x1 x2 μ post := by
  obtain ⟨n, m, z1, z2, h⟩ := h
  exact pX_as h (fun r μ1 f h1 => k r μ1 ⟨n, m, z1, z2, h1⟩ f)
theorem uM_as {post : Int32 → Mem → Prop} (h : INM μ) (k : ∀ r μ1, INM μ1 → Fr sMN μ μ1 → post r μ1) : T_X12_as x1 x2 μ post := by
  obtain ⟨n, m, h⟩ := h
  exact pM_as h (fun r μ1 f h1 => k r μ1 ⟨n, m, h1⟩ f)
theorem uX_trace {post : Int32 → Mem → Prop} (h : INX μ) (k : ∀ r μ1, INX μ1 → Fr sNS μ μ1 → post r μ1) : T_X11_trace μ post := k _ μ h (Fr_rf _ _)
theorem uM_trace {post : Int32 → Mem → Prop} (h : INM μ) (k : ∀ r μ1, INM μ1 → Fr sMN μ μ1 → post r μ1) : T_X12_trace μ post := k _ μ h (Fr_rf _ _)
theorem uX_fault {post : Int32 → Mem → Prop} (h : INX μ) (k : ∀ r μ1, INX μ1 → Fr sNS μ μ1 → post r μ1) : T_X11_fault μ post := k _ μ h (Fr_rf _ _)
theorem uM_fault {post : Int32 → Mem → Prop} (h : INM μ) (k : ∀ r μ1, INM μ1 → Fr sMN μ μ1 → post r μ1) : T_X12_fault μ post := k _ μ h (Fr_rf _ _)
theorem uX_many {post : Int32 → Mem → Prop} (h : INX μ) (k : ∀ r μ1, INX μ1 → Fr sNS μ μ1 → post r μ1) : T_X11_many x1 μ post := by
  obtain ⟨n, m, z1, z2, h⟩ := h
  exact pX_many h (fun r => k r μ ⟨n, m, z1, z2, h⟩ (Fr_rf _ _))
theorem uM_many {post : Int32 → Mem → Prop} (h : INM μ) (k : ∀ r μ1, INM μ1 → Fr sMN μ μ1 → post r μ1) : T_X12_many x1 μ post := by
  obtain ⟨n, m, h⟩ := h
  exact pM_many h (fun r => k r μ ⟨n, m, h⟩ (Fr_rf _ _))
end Us
section Turn
variable {L i : Nat} {xs : Nat → Int32} {P : Int32 → Mem → Mem → Prop} {μX μM : Mem}
theorem tu_0 (hi : ∀ c, 0 < c → c < 6 → vp_in (nI i + nI c) L) (hR : INR μX μM) (hp : ∀ μ1 μ2, INR μ1 μ2 → P (nI i + 6) μ1 μ2) : L_0 L xs P (nI i) μX μM := ⟨hi 1 (by omega) (by omega), hi 2 (by omega) (by omega), hi 3 (by omega) (by omega), hi 4 (by omega) (by omega), uX_shop hR.1 (fun r μ1 h1 f1 => ⟨hi 1 (by omega) (by omega), hi 2 (by omega) (by omega), hi 3 (by omega) (by omega), hi 4 (by omega) (by omega), uM_shop hR.2.1 (fun r2 μ2 h2 f2 => hp μ1 μ2 ⟨h1, h2, RS_NS hR.2.2 f1 f2⟩)⟩)⟩
theorem tu_1 (hi : ∀ c, 0 < c → c < 6 → vp_in (nI i + nI c) L) (hR : INR μX μM) (hp : ∀ μ1 μ2, INR μ1 μ2 → P (nI i + 6) μ1 μ2) : L_1 L xs P (nI i) μX μM := ⟨hi 1 (by omega) (by omega), hi 2 (by omega) (by omega), uX_work hR.1 (fun r μ1 h1 f1 => ⟨hi 1 (by omega) (by omega), hi 2 (by omega) (by omega), uM_work hR.2.1 (fun r2 μ2 h2 f2 => hp μ1 μ2 ⟨h1, h2, RS_NS hR.2.2 f1 f2⟩)⟩)⟩
theorem tu_2 (hi : ∀ c, 0 < c → c < 6 → vp_in (nI i + nI c) L) (hR : INR μX μM) (hp : ∀ μ1 μ2, INR μ1 μ2 → P (nI i + 6) μ1 μ2) : L_2 L xs P (nI i) μX μM := ⟨hi 1 (by omega) (by omega), hi 2 (by omega) (by omega), uX_ofWork hR.1 (fun r μ1 h1 f1 => ⟨hi 1 (by omega) (by omega), hi 2 (by omega) (by omega), uM_ofWork hR.2.1 (fun r2 μ2 h2 f2 => hp μ1 μ2 ⟨h1, h2, RS_NS hR.2.2 f1 f2⟩)⟩)⟩
theorem tu_3 (hi : ∀ c, 0 < c → c < 6 → vp_in (nI i + nI c) L) (hR : INR μX μM) (hp : ∀ μ1 μ2, INR μ1 μ2 → P (nI i + 6) μ1 μ2) : L_3 L xs P (nI i) μX μM := ⟨hi 1 (by omega) (by omega), hi 2 (by omega) (by omega), hi 3 (by omega) (by omega), fun _ => uX_before hR.1 (fun r μ1 h1 f1 => ⟨hi 1 (by omega) (by omega), hi 2 (by omega) (by omega), hi 3 (by omega) (by omega), fun _ => uM_before hR.2.1 (fun r2 μ2 h2 f2 => hp μ1 μ2 ⟨h1, h2, RS_NS hR.2.2 f1 f2⟩), fun _ => uM_before hR.2.1 (fun r2 μ2 h2 f2 => hp μ1 μ2 ⟨h1, h2, RS_NS hR.2.2 f1 f2⟩)⟩), fun _ => uX_before hR.1 (fun r μ1 h1 f1 => ⟨hi 1 (by omega) (by omega), hi 2 (by omega) (by omega), hi 3 (by omega) (by omega), fun _ => uM_before hR.2.1 (fun r2 μ2 h2 f2 => hp μ1 μ2 ⟨h1, h2, RS_NS hR.2.2 f1 f2⟩), fun _ => uM_before hR.2.1 (fun r2 μ2 h2 f2 => hp μ1 μ2 ⟨h1, h2, RS_NS hR.2.2 f1 f2⟩)⟩)⟩
theorem tu_4 (hi : ∀ c, 0 < c → c < 6 → vp_in (nI i + nI c) L) (hR : INR μX μM) (hp : ∀ μ1 μ2, INR μ1 μ2 → P (nI i + 6) μ1 μ2) : L_4 L xs P (nI i) μX μM := ⟨hi 1 (by omega) (by omega), hi 2 (by omega) (by omega), hi 3 (by omega) (by omega), uX_thing hR.1 (fun r μ1 h1 f1 => ⟨hi 1 (by omega) (by omega), hi 2 (by omega) (by omega), hi 3 (by omega) (by omega), uM_thing hR.2.1 (fun r2 μ2 h2 f2 => hp μ1 μ2 ⟨h1, h2, RS_NS hR.2.2 f1 f2⟩)⟩)⟩
theorem tu_5 (hi : ∀ c, 0 < c → c < 6 → vp_in (nI i + nI c) L) (hR : INR μX μM) (hp : ∀ μ1 μ2, INR μ1 μ2 → P (nI i + 6) μ1 μ2) : L_5 L xs P (nI i) μX μM := ⟨hi 1 (by omega) (by omega), hi 2 (by omega) (by omega), hi 3 (by omega) (by omega), hi 4 (by omega) (by omega), hi 5 (by omega) (by omega), uX_order hR.1 (fun r μ1 h1 f1 => ⟨hi 1 (by omega) (by omega), hi 2 (by omega) (by omega), hi 3 (by omega) (by omega), hi 4 (by omega) (by omega), hi 5 (by omega) (by omega), uM_order hR.2.1 (fun r2 μ2 h2 f2 => hp μ1 μ2 ⟨h1, h2, RS_NS hR.2.2 f1 f2⟩)⟩)⟩
theorem tu_6 (hi : ∀ c, 0 < c → c < 6 → vp_in (nI i + nI c) L) (hR : INR μX μM) (hp : ∀ μ1 μ2, INR μ1 μ2 → P (nI i + 6) μ1 μ2) : L_6 L xs P (nI i) μX μM := ⟨hi 1 (by omega) (by omega), hi 2 (by omega) (by omega), uX_ofOrder hR.1 (fun r μ1 h1 f1 => ⟨hi 1 (by omega) (by omega), hi 2 (by omega) (by omega), uM_ofOrder hR.2.1 (fun r2 μ2 h2 f2 => hp μ1 μ2 ⟨h1, h2, RS_NS hR.2.2 f1 f2⟩)⟩)⟩
theorem tu_7 (hi : ∀ c, 0 < c → c < 6 → vp_in (nI i + nI c) L) (hR : INR μX μM) (hp : ∀ μ1 μ2, INR μ1 μ2 → P (nI i + 6) μ1 μ2) : L_7 L xs P (nI i) μX μM := ⟨hi 1 (by omega) (by omega), uX_best hR.1 (fun r μ1 h1 f1 => ⟨hi 1 (by omega) (by omega), uM_best hR.2.1 (fun r2 μ2 h2 f2 => hp μ1 μ2 ⟨h1, h2, RS_NS hR.2.2 f1 f2⟩)⟩)⟩
theorem tu_8 (hi : ∀ c, 0 < c → c < 6 → vp_in (nI i + nI c) L) (hR : INR μX μM) (hp : ∀ μ1 μ2, INR μ1 μ2 → P (nI i + 6) μ1 μ2) : L_8 L xs P (nI i) μX μM := ⟨hi 1 (by omega) (by omega), hi 2 (by omega) (by omega), hi 3 (by omega) (by omega), uX_from hR.1 (fun r μ1 h1 f1 => ⟨hi 1 (by omega) (by omega), hi 2 (by omega) (by omega), hi 3 (by omega) (by omega), uM_from hR.2.1 (fun r2 μ2 h2 f2 => hp μ1 μ2 ⟨h1, h2, RS_NS hR.2.2 f1 f2⟩)⟩)⟩
theorem tu_9 (hi : ∀ c, 0 < c → c < 6 → vp_in (nI i + nI c) L) (hR : INR μX μM) (hp : ∀ μ1 μ2, INR μ1 μ2 → P (nI i + 6) μ1 μ2) : L_9 L xs P (nI i) μX μM := ⟨hi 1 (by omega) (by omega), hi 2 (by omega) (by omega), uX_better hR.1 (fun r μ1 h1 f1 => ⟨hi 1 (by omega) (by omega), hi 2 (by omega) (by omega), uM_better hR.2.1 (fun r2 μ2 h2 f2 => hp μ1 μ2 ⟨h1, h2, RS_NS hR.2.2 f1 f2⟩)⟩)⟩
theorem tu_10 (hi : ∀ c, 0 < c → c < 6 → vp_in (nI i + nI c) L) (hR : INR μX μM) (hp : ∀ μ1 μ2, INR μ1 μ2 → P (nI i + 6) μ1 μ2) : L_10 L xs P (nI i) μX μM := ⟨hi 1 (by omega) (by omega), uX_cross hR.1 (fun r μ1 h1 f1 => ⟨hi 1 (by omega) (by omega), uM_cross hR.2.1 (fun r2 μ2 h2 f2 => hp μ1 μ2 ⟨h1, h2, RS_NS hR.2.2 f1 f2⟩)⟩)⟩
theorem tu_11 (hi : ∀ c, 0 < c → c < 6 → vp_in (nI i + nI c) L) (hR : INR μX μM) (hp : ∀ μ1 μ2, INR μ1 μ2 → P (nI i + 6) μ1 μ2) : L_11 L xs P (nI i) μX μM := ⟨hi 1 (by omega) (by omega), uX_knot hR.1 (fun r μ1 h1 f1 => ⟨hi 1 (by omega) (by omega), uM_knot hR.2.1 (fun r2 μ2 h2 f2 => hp μ1 μ2 ⟨h1, h2, RS_NS hR.2.2 f1 f2⟩)⟩)⟩
theorem tu_12 (hi : ∀ c, 0 < c → c < 6 → vp_in (nI i + nI c) L) (hR : INR μX μM) (hp : ∀ μ1 μ2, INR μ1 μ2 → P (nI i + 6) μ1 μ2) : L_12 L xs P (nI i) μX μM := uX_bound hR.1 (fun r μ1 h1 f1 => uM_bound hR.2.1 (fun r2 μ2 h2 f2 => hp μ1 μ2 ⟨h1, h2, RS_NS hR.2.2 f1 f2⟩))
theorem tu_13 (hi : ∀ c, 0 < c → c < 6 → vp_in (nI i + nI c) L) (hR : INR μX μM) (hp : ∀ μ1 μ2, INR μ1 μ2 → P (nI i + 6) μ1 μ2) : L_13 L xs P (nI i) μX μM := ⟨hi 1 (by omega) (by omega), uX_part hR.1 (fun r μ1 h1 f1 => ⟨hi 1 (by omega) (by omega), uM_part hR.2.1 (fun r2 μ2 h2 f2 => hp μ1 μ2 ⟨h1, h2, RS_NS hR.2.2 f1 f2⟩)⟩)⟩
theorem tu_14 (hi : ∀ c, 0 < c → c < 6 → vp_in (nI i + nI c) L) (hR : INR μX μM) (hp : ∀ μ1 μ2, INR μ1 μ2 → P (nI i + 6) μ1 μ2) : L_14 L xs P (nI i) μX μM := uX_within hR.1 (fun r μ1 h1 f1 => uM_within hR.2.1 (fun r2 μ2 h2 f2 => hp μ1 μ2 ⟨h1, h2, RS_NS hR.2.2 f1 f2⟩))
theorem tu_15 (hi : ∀ c, 0 < c → c < 6 → vp_in (nI i + nI c) L) (hR : INR μX μM) (hp : ∀ μ1 μ2, INR μ1 μ2 → P (nI i + 6) μ1 μ2) : L_15 L xs P (nI i) μX μM := ⟨hi 1 (by omega) (by omega), hi 2 (by omega) (by omega), uX_build hR.1 (fun r μ1 h1 f1 => ⟨hi 1 (by omega) (by omega), hi 2 (by omega) (by omega), uM_build hR.2.1 (fun r2 μ2 h2 f2 => hp μ1 μ2 ⟨h1, h2, RS_NS hR.2.2 f1 f2⟩)⟩)⟩
theorem tu_16 (hi : ∀ c, 0 < c → c < 6 → vp_in (nI i + nI c) L) (hR : INR μX μM) (hp : ∀ μ1 μ2, INR μ1 μ2 → P (nI i + 6) μ1 μ2) : L_16 L xs P (nI i) μX μM := ⟨hi 1 (by omega) (by omega), uX_move hR.1 (fun r μ1 h1 f1 => ⟨hi 1 (by omega) (by omega), uM_move hR.2.1 (fun r2 μ2 h2 f2 => hp μ1 μ2 ⟨h1, h2, RS_NS hR.2.2 f1 f2⟩)⟩)⟩
theorem tu_17 (hi : ∀ c, 0 < c → c < 6 → vp_in (nI i + nI c) L) (hR : INR μX μM) (hp : ∀ μ1 μ2, INR μ1 μ2 → P (nI i + 6) μ1 μ2) : L_17 L xs P (nI i) μX μM := ⟨hi 1 (by omega) (by omega), uX_moves hR.1 (fun r μ1 h1 f1 => ⟨hi 1 (by omega) (by omega), uM_moves hR.2.1 (fun r2 μ2 h2 f2 => hp μ1 μ2 ⟨h1, h2, RS_NS hR.2.2 f1 f2⟩)⟩)⟩
theorem tu_18 (hi : ∀ c, 0 < c → c < 6 → vp_in (nI i + nI c) L) (hR : INR μX μM) (hp : ∀ μ1 μ2, INR μ1 μ2 → P (nI i + 6) μ1 μ2) : L_18 L xs P (nI i) μX μM := ⟨hi 1 (by omega) (by omega), hi 2 (by omega) (by omega), uX_cheapest hR.1 (fun r μ1 h1 f1 => ⟨hi 1 (by omega) (by omega), hi 2 (by omega) (by omega), uM_cheapest hR.2.1 (fun r2 μ2 h2 f2 => hp μ1 μ2 ⟨h1, h2, RS_NS hR.2.2 f1 f2⟩)⟩)⟩
theorem tu_19 (hi : ∀ c, 0 < c → c < 6 → vp_in (nI i + nI c) L) (hR : INR μX μM) (hp : ∀ μ1 μ2, INR μ1 μ2 → P (nI i + 6) μ1 μ2) : L_19 L xs P (nI i) μX μM := ⟨hi 1 (by omega) (by omega), hi 2 (by omega) (by omega), uX_room hR.1 (fun r μ1 h1 f1 => ⟨hi 1 (by omega) (by omega), hi 2 (by omega) (by omega), uM_room hR.2.1 (fun r2 μ2 h2 f2 => hp μ1 μ2 ⟨h1, h2, RS_NS hR.2.2 f1 f2⟩)⟩)⟩
theorem tu_20 (hi : ∀ c, 0 < c → c < 6 → vp_in (nI i + nI c) L) (hR : INR μX μM) (hp : ∀ μ1 μ2, INR μ1 μ2 → P (nI i + 6) μ1 μ2) : L_20 L xs P (nI i) μX μM := ⟨hi 1 (by omega) (by omega), uX_two hR.1 (fun r μ1 h1 f1 => ⟨hi 1 (by omega) (by omega), uM_two hR.2.1 (fun r2 μ2 h2 f2 => hp μ1 μ2 ⟨h1, h2, RS_NS hR.2.2 f1 f2⟩)⟩)⟩
theorem tu_21 (hi : ∀ c, 0 < c → c < 6 → vp_in (nI i + nI c) L) (hR : INR μX μM) (hp : ∀ μ1 μ2, INR μ1 μ2 → P (nI i + 6) μ1 μ2) : L_21 L xs P (nI i) μX μM := ⟨hi 1 (by omega) (by omega), uX_without hR.1 (fun r μ1 h1 f1 => ⟨hi 1 (by omega) (by omega), uM_without hR.2.1 (fun r2 μ2 h2 f2 => hp μ1 μ2 ⟨h1, h2, RS_NS hR.2.2 f1 f2⟩)⟩)⟩
theorem tu_22 (hi : ∀ c, 0 < c → c < 6 → vp_in (nI i + nI c) L) (hR : INR μX μM) (hp : ∀ μ1 μ2, INR μ1 μ2 → P (nI i + 6) μ1 μ2) : L_22 L xs P (nI i) μX μM := ⟨hi 1 (by omega) (by omega), hi 2 (by omega) (by omega), uX_why hR.1 (fun r μ1 h1 f1 => ⟨hi 1 (by omega) (by omega), hi 2 (by omega) (by omega), uM_why hR.2.1 (fun r2 μ2 h2 f2 => hp μ1 μ2 ⟨h1, h2, RS_NS hR.2.2 f1 f2⟩)⟩)⟩
theorem tu_23 (hi : ∀ c, 0 < c → c < 6 → vp_in (nI i + nI c) L) (hR : INR μX μM) (hp : ∀ μ1 μ2, INR μ1 μ2 → P (nI i + 6) μ1 μ2) : L_23 L xs P (nI i) μX μM := uX_widest hR.1 (fun r μ1 h1 f1 => uM_widest hR.2.1 (fun r2 μ2 h2 f2 => hp μ1 μ2 ⟨h1, h2, RS_NS hR.2.2 f1 f2⟩))
theorem tu_24 (hi : ∀ c, 0 < c → c < 6 → vp_in (nI i + nI c) L) (hR : INR μX μM) (hp : ∀ μ1 μ2, INR μ1 μ2 → P (nI i + 6) μ1 μ2) : L_24 L xs P (nI i) μX μM := by
  obtain ⟨⟨n, m, z1, z2, hX⟩, ⟨n', m', hM⟩, hS⟩ := hR
  exact ⟨hi 1 (by omega) (by omega), hi 2 (by omega) (by omega), hi 3 (by omega) (by omega), qX_sheet hX (fun μ1 h1 s1 _ _ => ⟨hi 1 (by omega) (by omega), hi 2 (by omega) (by omega), hi 3 (by omega) (by omega), qM_sheet hM (fun μ2 h2 s2 _ _ => hp μ1 μ2 ⟨⟨n, m, z1, z2, h1⟩, ⟨n', m', h2⟩, RS_sheet hS s1 s2⟩)⟩)⟩
theorem tu_25 (hi : ∀ c, 0 < c → c < 6 → vp_in (nI i + nI c) L) (hR : INR μX μM) (hp : ∀ μ1 μ2, INR μ1 μ2 → P (nI i + 6) μ1 μ2) : L_25 L xs P (nI i) μX μM := by
  obtain ⟨⟨n, m, z1, z2, hX⟩, ⟨n', m', hM⟩, hS⟩ := hR
  exact ⟨hi 1 (by omega) (by omega), tw_lose (G := fun T => vp_in (nI i + 1) L ∧ T) (Q := fun r r2 μ1 μ2 => P (nI i + 6) μ1 μ2) (fun _ t => ⟨hi 1 (by omega) (by omega), t⟩) hX hM hS (fun r μ1 μ2 h1 h2 s _ _ _ _ => hp μ1 μ2 ⟨⟨n, m, z1, z2, h1⟩, ⟨n', m', h2⟩, s⟩)⟩
theorem tu_26 (hi : ∀ c, 0 < c → c < 6 → vp_in (nI i + nI c) L) (hR : INR μX μM) (hp : ∀ μ1 μ2, INR μ1 μ2 → P (nI i + 6) μ1 μ2) : L_26 L xs P (nI i) μX μM := by
  obtain ⟨⟨n, m, z1, z2, hX⟩, ⟨n', m', hM⟩, hS⟩ := hR
  exact ⟨hi 1 (by omega) (by omega), hi 2 (by omega) (by omega), hi 3 (by omega) (by omega), tw_put (G := fun T => vp_in (nI i + 1) L ∧ vp_in (nI i + 2) L ∧ vp_in (nI i + 3) L ∧ T) (Q := fun r r2 μ1 μ2 => P (nI i + 6) μ1 μ2) (fun _ t => ⟨hi 1 (by omega) (by omega), hi 2 (by omega) (by omega), hi 3 (by omega) (by omega), t⟩) hX hM hS (fun r μ1 μ2 h1 h2 s _ _ _ _ _ => hp μ1 μ2 ⟨⟨n, m, z1, z2, h1⟩, ⟨n', m', h2⟩, s⟩)⟩
theorem tu_27 (hi : ∀ c, 0 < c → c < 6 → vp_in (nI i + nI c) L) (hR : INR μX μM) (hp : ∀ μ1 μ2, INR μ1 μ2 → P (nI i + 6) μ1 μ2) : L_27 L xs P (nI i) μX μM := by
  obtain ⟨⟨n, m, z1, z2, hX⟩, ⟨n', m', hM⟩, hS⟩ := hR
  exact ⟨hi 1 (by omega) (by omega), hi 2 (by omega) (by omega), hi 3 (by omega) (by omega), tw_cell (G := fun T => vp_in (nI i + 1) L ∧ vp_in (nI i + 2) L ∧ vp_in (nI i + 3) L ∧ T) (Q := fun r r2 μ1 μ2 => ((lg_cmp r r2 = 0 → P (nI i + 6) μ1 μ2) ∧ (¬ lg_cmp r r2 = 0 → False))) (fun _ t => ⟨hi 1 (by omega) (by omega), hi 2 (by omega) (by omega), hi 3 (by omega) (by omega), t⟩) hX hM hS (fun r μ1 μ2 h1 h2 s _ _ _ _ _ => br_t ((lg_cmp_eq _ _).mpr rfl) (hp μ1 μ2 ⟨⟨n, m, z1, z2, h1⟩, ⟨n', m', h2⟩, s⟩))⟩
theorem tu_28 (hi : ∀ c, 0 < c → c < 6 → vp_in (nI i + nI c) L) (hR : INR μX μM) (hp : ∀ μ1 μ2, INR μ1 μ2 → P (nI i + 6) μ1 μ2) : L_28 L xs P (nI i) μX μM := ⟨hi 1 (by omega) (by omega), uX_tell hR.1 (fun r μ1 h1 f1 => ⟨hi 1 (by omega) (by omega), uM_tell hR.2.1 (fun r2 μ2 h2 f2 => hp μ1 μ2 ⟨h1, h2, RS_NS hR.2.2 f1 f2⟩)⟩)⟩
theorem tu_29 (hi : ∀ c, 0 < c → c < 6 → vp_in (nI i + nI c) L) (hR : INR μX μM) (hp : ∀ μ1 μ2, INR μ1 μ2 → P (nI i + 6) μ1 μ2) : L_29 L xs P (nI i) μX μM := ⟨hi 1 (by omega) (by omega), uX_show hR.1 (fun r μ1 h1 f1 => ⟨hi 1 (by omega) (by omega), uM_show hR.2.1 (fun r2 μ2 h2 f2 => hp μ1 μ2 ⟨h1, h2, RS_NS hR.2.2 f1 f2⟩)⟩)⟩
theorem tu_30 (hi : ∀ c, 0 < c → c < 6 → vp_in (nI i + nI c) L) (hR : INR μX μM) (hp : ∀ μ1 μ2, INR μ1 μ2 → P (nI i + 6) μ1 μ2) : L_30 L xs P (nI i) μX μM := ⟨hi 1 (by omega) (by omega), hi 2 (by omega) (by omega), uX_as hR.1 (fun r μ1 h1 f1 => ⟨hi 1 (by omega) (by omega), hi 2 (by omega) (by omega), uM_as hR.2.1 (fun r2 μ2 h2 f2 => hp μ1 μ2 ⟨h1, h2, RS_NS hR.2.2 f1 f2⟩)⟩)⟩
theorem tu_31 (hi : ∀ c, 0 < c → c < 6 → vp_in (nI i + nI c) L) (hR : INR μX μM) (hp : ∀ μ1 μ2, INR μ1 μ2 → P (nI i + 6) μ1 μ2) : L_31 L xs P (nI i) μX μM := uX_trace hR.1 (fun r μ1 h1 f1 => uM_trace hR.2.1 (fun r2 μ2 h2 f2 => hp μ1 μ2 ⟨h1, h2, RS_NS hR.2.2 f1 f2⟩))
theorem tu_32 (hi : ∀ c, 0 < c → c < 6 → vp_in (nI i + nI c) L) (hR : INR μX μM) (hp : ∀ μ1 μ2, INR μ1 μ2 → P (nI i + 6) μ1 μ2) : L_32 L xs P (nI i) μX μM := uX_fault hR.1 (fun r μ1 h1 f1 => uM_fault hR.2.1 (fun r2 μ2 h2 f2 => hp μ1 μ2 ⟨h1, h2, RS_NS hR.2.2 f1 f2⟩))
theorem tu_33 (hi : ∀ c, 0 < c → c < 6 → vp_in (nI i + nI c) L) (hR : INR μX μM) (hp : ∀ μ1 μ2, INR μ1 μ2 → P (nI i + 6) μ1 μ2) : L_33 L xs P (nI i) μX μM := ⟨hi 1 (by omega) (by omega), uX_many hR.1 (fun r μ1 h1 f1 => ⟨hi 1 (by omega) (by omega), uM_many hR.2.1 (fun r2 μ2 h2 f2 => hp μ1 μ2 ⟨h1, h2, RS_NS hR.2.2 f1 f2⟩)⟩)⟩
theorem tu_turn (hi : ∀ c, c < 6 → vp_in (nI i + nI c) L) (hR : INR μX μM) (hp : ∀ μ1 μ2, INR μ1 μ2 → P (nI i + 6) μ1 μ2) : L_turn L xs P (nI i) μX μM := by
  have h0 : vp_in (nI i) L := by have := hi 0 (by omega); rw [nI_add] at this; exact this
  have h1 : ∀ c, 0 < c → c < 6 → vp_in (nI i + nI c) L := fun c _ h => hi c h
  exact ⟨h0, fun _ => tu_0 h1 hR hp, fun _ => tu_1 h1 hR hp, fun _ => tu_2 h1 hR hp, fun _ => tu_3 h1 hR hp, fun _ => tu_4 h1 hR hp, fun _ => tu_5 h1 hR hp, fun _ => tu_6 h1 hR hp, fun _ => tu_7 h1 hR hp, fun _ => tu_8 h1 hR hp, fun _ => tu_9 h1 hR hp, fun _ => tu_10 h1 hR hp, fun _ => tu_11 h1 hR hp, fun _ => tu_12 h1 hR hp, fun _ => tu_13 h1 hR hp, fun _ => tu_14 h1 hR hp, fun _ => tu_15 h1 hR hp, fun _ => tu_16 h1 hR hp, fun _ => tu_17 h1 hR hp, fun _ => tu_18 h1 hR hp, fun _ => tu_19 h1 hR hp, fun _ => tu_20 h1 hR hp, fun _ => tu_21 h1 hR hp, fun _ => tu_22 h1 hR hp, fun _ => tu_23 h1 hR hp, fun _ => tu_24 h1 hR hp, fun _ => tu_25 h1 hR hp, fun _ => tu_26 h1 hR hp, fun _ => tu_27 h1 hR hp, fun _ => tu_28 h1 hR hp, fun _ => tu_29 h1 hR hp, fun _ => tu_30 h1 hR hp, fun _ => tu_31 h1 hR hp, fun _ => tu_32 h1 hR hp, fun _ => tu_33 h1 hR hp, hp μX μM hR⟩
end Turn
theorem INR_start {f17 f18 f20 f21 : Nat → Int32} (h : IX 0 0 (fun _ => 1) (fun _ => 1) (muX f17 f18 f20 f21)) (h2 : IM 0 0 muM) : INR (muX f17 f18 f20 f21) muM := by
  have e1 : ∀ k, k < 4 → (upd (upd (upd (upd (fun _ => (0 : Int32)) (0 : Int32).toNatClampNeg (-1)) (1 : Int32).toNatClampNeg (-1)) (2 : Int32).toNatClampNeg (-1)) (3 : Int32).toNatClampNeg (-1)) k = -1 := by decide +kernel
  have e2 : ∀ k, k < 4 → (upd (upd (upd (upd (fun _ => (0 : Int32)) (0 : Int32).toNatClampNeg (-9)) (1 : Int32).toNatClampNeg (-9)) (2 : Int32).toNatClampNeg (-9)) (3 : Int32).toNatClampNeg (-9)) k = -9 := by decide +kernel
  exact ⟨⟨0, 0, _, _, h⟩, ⟨0, 0, h2⟩, fun k hk => Or.inl ⟨e1 k hk, e2 k hk⟩⟩
