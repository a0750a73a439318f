/-! the law's turn: whatever is called, both sides go on -/
def INX (μ : Mem) : Prop := ∃ n m z1 z2, IX n m z1 z2 μ
def INM (μ : Mem) : Prop := ∃ n m, IM n m μ
section Us
variable {μ : Mem} {x1 x2 x3 x4 x5 : Int32}
theorem uX_shop {post : Int32 → Mem → Prop} (h : INX μ) (k : ∀ r μ1, INX μ1 → post r μ1) : T_X11_shop x1 x2 x3 x4 μ post := by
  obtain ⟨n, m, z1, z2, h⟩ := h
  exact pX_shop h (fun r n m z μ1 _ _ h1 => k r μ1 ⟨n, m, z, z2, h1⟩)
theorem uM_shop {post : Int32 → Mem → Prop} (h : INM μ) (k : ∀ r μ1, INM μ1 → post r μ1) : T_X12_shop x1 x2 x3 x4 μ post := by
  obtain ⟨n, m, h⟩ := h
  exact pM_shop h (fun r n m μ1 h1 => k r μ1 ⟨n, m, h1⟩)
theorem uX_work {post : Int32 → Mem → Prop} (h : INX μ) (k : ∀ r μ1, INX μ1 → post r μ1) : T_X11_work x1 x2 μ post := by
  obtain ⟨n, m, z1, z2, h⟩ := h
  exact pX_work h (fun r n m μ1 _ h1 => k r μ1 ⟨n, m, z1, z2, h1⟩)
theorem uM_work {post : Int32 → Mem → Prop} (h : INM μ) (k : ∀ r μ1, INM μ1 → post r μ1) : T_X12_work x1 x2 μ post := by
  obtain ⟨n, m, h⟩ := h
  exact pM_work h (fun r n m μ1 h1 => k r μ1 ⟨n, m, h1⟩)
theorem uX_ofWork {post : Int32 → Mem → Prop} (h : INX μ) (k : ∀ r μ1, INX μ1 → post r μ1) : T_X11_ofWork x1 x2 μ post := by
  obtain ⟨n, m, z1, z2, h⟩ := h
  exact pX_ofWork h (fun r => k r μ ⟨n, m, z1, z2, h⟩)
theorem uM_ofWork {post : Int32 → Mem → Prop} (h : INM μ) (k : ∀ r μ1, INM μ1 → post r μ1) : T_X12_ofWork x1 x2 μ post := by
  obtain ⟨n, m, h⟩ := h
  exact pM_ofWork h (fun r => k r μ ⟨n, m, h⟩)
theorem uX_before {post : Int32 → Mem → Prop} (h : INX μ) (k : ∀ r μ1, INX μ1 → post r μ1) : T_X11_before x1 x2 x3 μ post := by
  obtain ⟨n, m, z1, z2, h⟩ := h
  exact pX_before h (fun r μ1 _ h1 => k r μ1 ⟨n, m, z1, z2, h1⟩)
theorem uM_before {post : Int32 → Mem → Prop} (h : INM μ) (k : ∀ r μ1, INM μ1 → post r μ1) : T_X12_before x1 x2 x3 μ post := by
  obtain ⟨n, m, h⟩ := h
  exact pM_before h (fun r μ1 _ h1 => k r μ1 ⟨n, m, h1⟩)
theorem uX_thing {post : Int32 → Mem → Prop} (h : INX μ) (k : ∀ r μ1, INX μ1 → post r μ1) : T_X11_thing x1 x2 x3 μ post := by
  obtain ⟨n, m, z1, z2, h⟩ := h
  exact pX_thing h (fun r z1 z2 μ1 _ h1 => k r μ1 ⟨n, m, z1, z2, h1⟩)
theorem uM_thing {post : Int32 → Mem → Prop} (h : INM μ) (k : ∀ r μ1, INM μ1 → post r μ1) : T_X12_thing x1 x2 x3 μ post := by
  obtain ⟨n, m, h⟩ := h
  exact pM_thing h (fun r μ1 h1 => k r μ1 ⟨n, m, h1⟩)
theorem uX_order {post : Int32 → Mem → Prop} (h : INX μ) (k : ∀ r μ1, INX μ1 → post r μ1) : T_X11_order x1 x2 x3 x4 x5 μ post := by
  obtain ⟨n, m, z1, z2, h⟩ := h
  exact pX_order h (fun r m μ1 _ _ h1 => k r μ1 ⟨n, m, z1, z2, h1⟩)
theorem uM_order {post : Int32 → Mem → Prop} (h : INM μ) (k : ∀ r μ1, INM μ1 → post r μ1) : T_X12_order x1 x2 x3 x4 x5 μ post := by
  obtain ⟨n, m, h⟩ := h
  exact pM_order h (fun r m μ1 h1 => k r μ1 ⟨n, m, h1⟩)
theorem uX_ofOrder {post : Int32 → Mem → Prop} (h : INX μ) (k : ∀ r μ1, INX μ1 → post r μ1) : T_X11_ofOrder x1 x2 μ post := by
  obtain ⟨n, m, z1, z2, h⟩ := h
  exact pX_ofOrder h (fun r μ1 _ h1 => k r μ1 ⟨n, m, z1, z2, h1⟩)
theorem uM_ofOrder {post : Int32 → Mem → Prop} (h : INM μ) (k : ∀ r μ1, INM μ1 → post r μ1) : T_X12_ofOrder x1 x2 μ post := by
  obtain ⟨n, m, h⟩ := h
  exact pM_ofOrder h (fun r μ1 _ h1 => k r μ1 ⟨n, m, h1⟩)
theorem uX_best {post : Int32 → Mem → Prop} (h : INX μ) (k : ∀ r μ1, INX μ1 → post r μ1) : T_X11_best x1 μ post := by
  obtain ⟨n, m, z1, z2, h⟩ := h
  exact pX_best h (fun r μ1 _ h1 => k r μ1 ⟨n, m, z1, z2, h1⟩)
theorem uM_best {post : Int32 → Mem → Prop} (h : INM μ) (k : ∀ r μ1, INM μ1 → post r μ1) : T_X12_best x1 μ post := by
  obtain ⟨n, m, h⟩ := h
  exact pM_best h (fun r μ1 _ h1 => k r μ1 ⟨n, m, h1⟩)
theorem uX_from {post : Int32 → Mem → Prop} (h : INX μ) (k : ∀ r μ1, INX μ1 → post r μ1) : T_X11_from x1 x2 x3 μ post := by
  obtain ⟨n, m, z1, z2, h⟩ := h
  exact pX_from h (fun r μ1 _ h1 => k r μ1 ⟨n, m, z1, z2, h1⟩)
theorem uM_from {post : Int32 → Mem → Prop} (h : INM μ) (k : ∀ r μ1, INM μ1 → post r μ1) : T_X12_from x1 x2 x3 μ post := by
  obtain ⟨n, m, h⟩ := h
  exact pM_from h (fun r μ1 _ h1 => k r μ1 ⟨n, m, h1⟩)
theorem uX_better {post : Int32 → Mem → Prop} (h : INX μ) (k : ∀ r μ1, INX μ1 → post r μ1) : T_X11_better x1 x2 μ post := by
  obtain ⟨n, m, z1, z2, h⟩ := h
  exact pX_better h (fun r μ1 _ h1 => k r μ1 ⟨n, m, z1, z2, h1⟩)
theorem uM_better {post : Int32 → Mem → Prop} (h : INM μ) (k : ∀ r μ1, INM μ1 → post r μ1) : T_X12_better x1 x2 μ post := by
  obtain ⟨n, m, h⟩ := h
  exact pM_better h (fun r μ1 _ h1 => k r μ1 ⟨n, m, h1⟩)
theorem uX_cross {post : Int32 → Mem → Prop} (h : INX μ) (k : ∀ r μ1, INX μ1 → post r μ1) : T_X11_cross x1 μ post := by
  obtain ⟨n, m, z1, z2, h⟩ := h
  exact pX_cross h (fun r μ1 _ h1 => k r μ1 ⟨n, m, z1, z2, h1⟩)
theorem uM_cross {post : Int32 → Mem → Prop} (h : INM μ) (k : ∀ r μ1, INM μ1 → post r μ1) : T_X12_cross x1 μ post := by
  obtain ⟨n, m, h⟩ := h
  exact pM_cross h (fun r => k r μ ⟨n, m, h⟩)
theorem uX_knot {post : Int32 → Mem → Prop} (h : INX μ) (k : ∀ r μ1, INX μ1 → post r μ1) : T_X11_knot x1 μ post := by
  obtain ⟨n, m, z1, z2, h⟩ := h
  exact pX_knot h (fun r μ1 _ h1 => k r μ1 ⟨n, m, z1, z2, h1⟩)
theorem uM_knot {post : Int32 → Mem → Prop} (h : INM μ) (k : ∀ r μ1, INM μ1 → post r μ1) : T_X12_knot x1 μ post := by
  obtain ⟨n, m, h⟩ := h
  exact pM_knot h (fun r => k r μ ⟨n, m, h⟩)
theorem uX_bound {post : Int32 → Mem → Prop} (h : INX μ) (k : ∀ r μ1, INX μ1 → post r μ1) : T_X11_bound μ post := by
  obtain ⟨n, m, z1, z2, h⟩ := h
  exact pX_bound h (fun r μ1 _ h1 => k r μ1 ⟨n, m, z1, z2, h1⟩)
theorem uM_bound {post : Int32 → Mem → Prop} (h : INM μ) (k : ∀ r μ1, INM μ1 → post r μ1) : T_X12_bound μ post := by
  obtain ⟨n, m, h⟩ := h
  exact pM_bound h (fun r => k r μ ⟨n, m, h⟩)
theorem uX_part {post : Int32 → Mem → Prop} (h : INX μ) (k : ∀ r μ1, INX μ1 → post r μ1) : T_X11_part x1 μ post := by
  obtain ⟨n, m, z1, z2, h⟩ := h
  exact pX_part h (fun r => k r μ ⟨n, m, z1, z2, h⟩)
theorem uM_part {post : Int32 → Mem → Prop} (h : INM μ) (k : ∀ r μ1, INM μ1 → post r μ1) : T_X12_part x1 μ post := by
  obtain ⟨n, m, h⟩ := h
  exact pM_part h (fun r μ1 _ h1 => k r μ1 ⟨n, m, h1⟩)
theorem uX_within {post : Int32 → Mem → Prop} (h : INX μ) (k : ∀ r μ1, INX μ1 → post r μ1) : T_X11_within μ post := by
  obtain ⟨n, m, z1, z2, h⟩ := h
  exact pX_within h (fun r => k r μ ⟨n, m, z1, z2, h⟩)
theorem uM_within {post : Int32 → Mem → Prop} (h : INM μ) (k : ∀ r μ1, INM μ1 → post r μ1) : T_X12_within μ post := by
  obtain ⟨n, m, h⟩ := h
  exact pM_within h (fun r => k r μ ⟨n, m, h⟩)
theorem uX_build {post : Int32 → Mem → Prop} (h : INX μ) (k : ∀ r μ1, INX μ1 → post r μ1) : T_X11_build x1 x2 μ post := by
  obtain ⟨n, m, z1, z2, h⟩ := h
  exact pX_build h (fun r m μ1 _ h1 => k r μ1 ⟨n, m, z1, z2, h1⟩)
theorem uM_build {post : Int32 → Mem → Prop} (h : INM μ) (k : ∀ r μ1, INM μ1 → post r μ1) : T_X12_build x1 x2 μ post := by
  obtain ⟨n, m, h⟩ := h
  exact pM_build h (fun r m μ1 _ _ h1 => k r μ1 ⟨n, m, h1⟩)
theorem uX_move {post : Int32 → Mem → Prop} (h : INX μ) (k : ∀ r μ1, INX μ1 → post r μ1) : T_X11_move x1 μ post := by
  obtain ⟨n, m, z1, z2, h⟩ := h
  exact pX_move h (fun r m μ1 _ h1 => k r μ1 ⟨n, m, z1, z2, h1⟩)
theorem uM_move {post : Int32 → Mem → Prop} (h : INM μ) (k : ∀ r μ1, INM μ1 → post r μ1) : T_X12_move x1 μ post := by
  obtain ⟨n, m, h⟩ := h
  exact pM_move h (fun r m μ1 _ _ h1 => k r μ1 ⟨n, m, h1⟩)
theorem uX_moves {post : Int32 → Mem → Prop} (h : INX μ) (k : ∀ r μ1, INX μ1 → post r μ1) : T_X11_moves x1 μ post := by
  obtain ⟨n, m, z1, z2, h⟩ := h
  exact pX_moves h (fun r μ1 _ h1 => k r μ1 ⟨n, m, z1, z2, h1⟩)
theorem uM_moves {post : Int32 → Mem → Prop} (h : INM μ) (k : ∀ r μ1, INM μ1 → post r μ1) : T_X12_moves x1 μ post := by
  obtain ⟨n, m, h⟩ := h
  exact pM_moves h (fun r μ1 _ h1 => k r μ1 ⟨n, m, h1⟩)
theorem uX_cheapest {post : Int32 → Mem → Prop} (h : INX μ) (k : ∀ r μ1, INX μ1 → post r μ1) : T_X11_cheapest x1 x2 μ post := by
  obtain ⟨n, m, z1, z2, h⟩ := h
  exact pX_cheapest h (fun r μ1 _ h1 => k r μ1 ⟨n, m, z1, z2, h1⟩)
theorem uM_cheapest {post : Int32 → Mem → Prop} (h : INM μ) (k : ∀ r μ1, INM μ1 → post r μ1) : T_X12_cheapest x1 x2 μ post := by
  obtain ⟨n, m, h⟩ := h
  exact pM_cheapest h (fun r μ1 _ h1 => k r μ1 ⟨n, m, h1⟩)
theorem uX_room {post : Int32 → Mem → Prop} (h : INX μ) (k : ∀ r μ1, INX μ1 → post r μ1) : T_X11_room x1 x2 μ post := by
  obtain ⟨n, m, z1, z2, h⟩ := h
  exact pX_room h (fun r μ1 _ h1 => k r μ1 ⟨n, m, z1, z2, h1⟩)
theorem uM_room {post : Int32 → Mem → Prop} (h : INM μ) (k : ∀ r μ1, INM μ1 → post r μ1) : T_X12_room x1 x2 μ post := by
  obtain ⟨n, m, h⟩ := h
  exact pM_room h (fun r μ1 _ h1 => k r μ1 ⟨n, m, h1⟩)
theorem uX_two {post : Int32 → Mem → Prop} (h : INX μ) (k : ∀ r μ1, INX μ1 → post r μ1) : T_X11_two x1 μ post := by
  obtain ⟨n, m, z1, z2, h⟩ := h
  exact pX_two h (fun r μ1 _ h1 => k r μ1 ⟨n, m, z1, z2, h1⟩)
theorem uM_two {post : Int32 → Mem → Prop} (h : INM μ) (k : ∀ r μ1, INM μ1 → post r μ1) : T_X12_two x1 μ post := by
  obtain ⟨n, m, h⟩ := h
  exact pM_two h (fun r μ1 _ h1 => k r μ1 ⟨n, m, h1⟩)
theorem uX_without {post : Int32 → Mem → Prop} (h : INX μ) (k : ∀ r μ1, INX μ1 → post r μ1) : T_X11_without x1 μ post := by
  obtain ⟨n, m, z1, z2, h⟩ := h
  exact pX_without h (fun r μ1 _ h1 => k r μ1 ⟨n, m, z1, z2, h1⟩)
theorem uM_without {post : Int32 → Mem → Prop} (h : INM μ) (k : ∀ r μ1, INM μ1 → post r μ1) : T_X12_without x1 μ post := by
  obtain ⟨n, m, h⟩ := h
  exact pM_without h (fun r μ1 _ h1 => k r μ1 ⟨n, m, h1⟩)
theorem uX_why {post : Int32 → Mem → Prop} (h : INX μ) (k : ∀ r μ1, INX μ1 → post r μ1) : T_X11_why x1 x2 μ post := by
  obtain ⟨n, m, z1, z2, h⟩ := h
  exact pX_why h (fun r μ1 _ h1 => k r μ1 ⟨n, m, z1, z2, h1⟩)
theorem uM_why {post : Int32 → Mem → Prop} (h : INM μ) (k : ∀ r μ1, INM μ1 → post r μ1) : T_X12_why x1 x2 μ post := by
  obtain ⟨n, m, h⟩ := h
  exact pM_why h (fun r μ1 _ h1 => k r μ1 ⟨n, m, h1⟩)
theorem uX_widest {post : Int32 → Mem → Prop} (h : INX μ) (k : ∀ r μ1, INX μ1 → post r μ1) : T_X11_widest μ post := by
  obtain ⟨n, m, z1, z2, h⟩ := h
  exact pX_widest h (fun r μ1 _ h1 => k r μ1 ⟨n, m, z1, z2, h1⟩)
theorem uM_widest {post : Int32 → Mem → Prop} (h : INM μ) (k : ∀ r μ1, INM μ1 → post r μ1) : T_X12_widest μ post := by
  obtain ⟨n, m, h⟩ := h
  exact pM_widest h (fun r μ1 _ h1 => k r μ1 ⟨n, m, h1⟩)
theorem uX_sheet {post : Int32 → Mem → Prop} (h : INX μ) (k : ∀ μ1, INX μ1 → post (rSheet x1 x2 x3) μ1) : T_X11_sheet x1 x2 x3 μ post := by
  obtain ⟨n, m, z1, z2, h⟩ := h
  exact pX_sheet h (fun μ1 h1 => k μ1 ⟨n, m, z1, z2, h1⟩)
theorem uM_sheet {post : Int32 → Mem → Prop} (h : INM μ) (k : ∀ μ1, INM μ1 → post (rSheet x1 x2 x3) μ1) : T_X12_sheet x1 x2 x3 μ post := by
  obtain ⟨n, m, h⟩ := h
  exact pM_sheet h (fun μ1 h1 => k μ1 ⟨n, m, h1⟩)
theorem uX_lose {post : Int32 → Mem → Prop} (h : INX μ) (k : ∀ r μ1, INX μ1 → post r μ1) : T_X11_lose x1 μ post := by
  obtain ⟨n, m, z1, z2, h⟩ := h
  exact pX_lose h (fun r μ1 h1 => k r μ1 ⟨n, m, z1, z2, h1⟩)
theorem uM_lose {post : Int32 → Mem → Prop} (h : INM μ) (k : ∀ r μ1, INM μ1 → post r μ1) : T_X12_lose x1 μ post := by
  obtain ⟨n, m, h⟩ := h
  exact pM_lose h (fun r μ1 h1 => k r μ1 ⟨n, m, h1⟩)
theorem uX_put {post : Int32 → Mem → Prop} (h : INX μ) (k : ∀ r μ1, INX μ1 → post r μ1) : T_X11_put x1 x2 x3 μ post := by
  obtain ⟨n, m, z1, z2, h⟩ := h
  exact pX_put h (fun r μ1 h1 => k r μ1 ⟨n, m, z1, z2, h1⟩)
theorem uM_put {post : Int32 → Mem → Prop} (h : INM μ) (k : ∀ r μ1, INM μ1 → post r μ1) : T_X12_put x1 x2 x3 μ post := by
  obtain ⟨n, m, h⟩ := h
  exact pM_put h (fun r μ1 h1 => k r μ1 ⟨n, m, h1⟩)
theorem uX_cell {post : Int64 → Mem → Prop} (h : INX μ) (k : ∀ r μ1, INX μ1 → post r μ1) : T_X11_cell x1 x2 x3 μ post := by
  obtain ⟨n, m, z1, z2, h⟩ := h
  exact pX_cell h (fun r μ1 h1 => k r μ1 ⟨n, m, z1, z2, h1⟩)
theorem uM_cell {post : Int64 → Mem → Prop} (h : INM μ) (k : ∀ r μ1, INM μ1 → post r μ1) : T_X12_cell x1 x2 x3 μ post := by
  obtain ⟨n, m, h⟩ := h
  exact pM_cell h (fun r μ1 h1 => k r μ1 ⟨n, m, h1⟩)
theorem uX_tell {post : Int32 → Mem → Prop} (h : INX μ) (k : ∀ r μ1, INX μ1 → post r μ1) : T_X11_tell x1 μ post := by
  obtain ⟨n, m, z1, z2, h⟩ := h
  exact pX_tell h (fun r μ1 _ h1 => k r μ1 ⟨n, m, z1, z2, h1⟩)
theorem uM_tell {post : Int32 → Mem → Prop} (h : INM μ) (k : ∀ r μ1, INM μ1 → post r μ1) : T_X12_tell x1 μ post := by
  obtain ⟨n, m, h⟩ := h
  exact pM_tell h (fun r μ1 h1 => k r μ1 ⟨n, m, h1⟩)
theorem uX_show {post : Int32 → Mem → Prop} (h : INX μ) (k : ∀ r μ1, INX μ1 → post r μ1) : T_X11_show x1 μ post := by
  obtain ⟨n, m, z1, z2, h⟩ := h
  exact pX_show h (fun r μ1 _ h1 => k r μ1 ⟨n, m, z1, z2, h1⟩)
theorem uM_show {post : Int32 → Mem → Prop} (h : INM μ) (k : ∀ r μ1, INM μ1 → post r μ1) : T_X12_show x1 μ post := by
  obtain ⟨n, m, h⟩ := h
  exact pM_show h (fun r μ1 h1 => k r μ1 ⟨n, m, h1⟩)
theorem uX_as {post : Int32 → Mem → Prop} (h : INX μ) (k : ∀ r μ1, INX μ1 → post r μ1) : T_X11_as x1 x2 μ post := by
  obtain ⟨n, m, z1, z2, h⟩ := h
  exact pX_as h (fun r μ1 _ h1 => k r μ1 ⟨n, m, z1, z2, h1⟩)
theorem uM_as {post : Int32 → Mem → Prop} (h : INM μ) (k : ∀ r μ1, INM μ1 → post r μ1) : T_X12_as x1 x2 μ post := by
  obtain ⟨n, m, h⟩ := h
  exact pM_as h (fun r μ1 h1 => k r μ1 ⟨n, m, h1⟩)
theorem uX_trace {post : Int32 → Mem → Prop} (h : INX μ) (k : ∀ r μ1, INX μ1 → post r μ1) : T_X11_trace μ post := k _ μ h
theorem uM_trace {post : Int32 → Mem → Prop} (h : INM μ) (k : ∀ r μ1, INM μ1 → post r μ1) : T_X12_trace μ post := k _ μ h
theorem uX_fault {post : Int32 → Mem → Prop} (h : INX μ) (k : ∀ r μ1, INX μ1 → post r μ1) : T_X11_fault μ post := k _ μ h
theorem uM_fault {post : Int32 → Mem → Prop} (h : INM μ) (k : ∀ r μ1, INM μ1 → post r μ1) : T_X12_fault μ post := k _ μ h
theorem uX_many {post : Int32 → Mem → Prop} (h : INX μ) (k : ∀ r μ1, INX μ1 → post r μ1) : T_X11_many x1 μ post := by
  obtain ⟨n, m, z1, z2, h⟩ := h
  exact pX_many h (fun r => k r μ ⟨n, m, z1, z2, h⟩)
theorem uM_many {post : Int32 → Mem → Prop} (h : INM μ) (k : ∀ r μ1, INM μ1 → post r μ1) : T_X12_many x1 μ post := by
  obtain ⟨n, m, h⟩ := h
  exact pM_many h (fun r => k r μ ⟨n, m, h⟩)
end Us
section Turn
variable {L i : Nat} {xs : Nat → Int32} {P : Int32 → Mem → Mem → Prop} {μX μM : Mem}
theorem tu_0 (hi : ∀ c, 0 < c → c < 6 → vp_in (nI i + nI c) L) (hX : INX μX) (hM : INM μM) (hp : ∀ μ1 μ2, INX μ1 → INM μ2 → P (nI i + 6) μ1 μ2) : L_0 L xs P (nI i) μX μM := ⟨hi 1 (by omega) (by omega), hi 2 (by omega) (by omega), hi 3 (by omega) (by omega), hi 4 (by omega) (by omega), uX_shop hX (fun r μ1 h1 => ⟨hi 1 (by omega) (by omega), hi 2 (by omega) (by omega), hi 3 (by omega) (by omega), hi 4 (by omega) (by omega), uM_shop hM (fun r2 μ2 h2 => hp μ1 μ2 h1 h2)⟩)⟩
theorem tu_1 (hi : ∀ c, 0 < c → c < 6 → vp_in (nI i + nI c) L) (hX : INX μX) (hM : INM μM) (hp : ∀ μ1 μ2, INX μ1 → INM μ2 → P (nI i + 6) μ1 μ2) : L_1 L xs P (nI i) μX μM := ⟨hi 1 (by omega) (by omega), hi 2 (by omega) (by omega), uX_work hX (fun r μ1 h1 => ⟨hi 1 (by omega) (by omega), hi 2 (by omega) (by omega), uM_work hM (fun r2 μ2 h2 => hp μ1 μ2 h1 h2)⟩)⟩
theorem tu_2 (hi : ∀ c, 0 < c → c < 6 → vp_in (nI i + nI c) L) (hX : INX μX) (hM : INM μM) (hp : ∀ μ1 μ2, INX μ1 → INM μ2 → P (nI i + 6) μ1 μ2) : L_2 L xs P (nI i) μX μM := ⟨hi 1 (by omega) (by omega), hi 2 (by omega) (by omega), uX_ofWork hX (fun r μ1 h1 => ⟨hi 1 (by omega) (by omega), hi 2 (by omega) (by omega), uM_ofWork hM (fun r2 μ2 h2 => hp μ1 μ2 h1 h2)⟩)⟩
theorem tu_3 (hi : ∀ c, 0 < c → c < 6 → vp_in (nI i + nI c) L) (hX : INX μX) (hM : INM μM) (hp : ∀ μ1 μ2, INX μ1 → INM μ2 → P (nI i + 6) μ1 μ2) : L_3 L xs P (nI i) μX μM := ⟨hi 1 (by omega) (by omega), hi 2 (by omega) (by omega), hi 3 (by omega) (by omega), fun _ => uX_before hX (fun r μ1 h1 => ⟨hi 1 (by omega) (by omega), hi 2 (by omega) (by omega), hi 3 (by omega) (by omega), fun _ => uM_before hM (fun r2 μ2 h2 => hp μ1 μ2 h1 h2), fun _ => uM_before hM (fun r2 μ2 h2 => hp μ1 μ2 h1 h2)⟩), fun _ => uX_before hX (fun r μ1 h1 => ⟨hi 1 (by omega) (by omega), hi 2 (by omega) (by omega), hi 3 (by omega) (by omega), fun _ => uM_before hM (fun r2 μ2 h2 => hp μ1 μ2 h1 h2), fun _ => uM_before hM (fun r2 μ2 h2 => hp μ1 μ2 h1 h2)⟩)⟩
theorem tu_4 (hi : ∀ c, 0 < c → c < 6 → vp_in (nI i + nI c) L) (hX : INX μX) (hM : INM μM) (hp : ∀ μ1 μ2, INX μ1 → INM μ2 → P (nI i + 6) μ1 μ2) : L_4 L xs P (nI i) μX μM := ⟨hi 1 (by omega) (by omega), hi 2 (by omega) (by omega), hi 3 (by omega) (by omega), uX_thing hX (fun r μ1 h1 => ⟨hi 1 (by omega) (by omega), hi 2 (by omega) (by omega), hi 3 (by omega) (by omega), uM_thing hM (fun r2 μ2 h2 => hp μ1 μ2 h1 h2)⟩)⟩
theorem tu_5 (hi : ∀ c, 0 < c → c < 6 → vp_in (nI i + nI c) L) (hX : INX μX) (hM : INM μM) (hp : ∀ μ1 μ2, INX μ1 → INM μ2 → P (nI i + 6) μ1 μ2) : L_5 L xs P (nI i) μX μM := ⟨hi 1 (by omega) (by omega), hi 2 (by omega) (by omega), hi 3 (by omega) (by omega), hi 4 (by omega) (by omega), hi 5 (by omega) (by omega), uX_order hX (fun r μ1 h1 => ⟨hi 1 (by omega) (by omega), hi 2 (by omega) (by omega), hi 3 (by omega) (by omega), hi 4 (by omega) (by omega), hi 5 (by omega) (by omega), uM_order hM (fun r2 μ2 h2 => hp μ1 μ2 h1 h2)⟩)⟩
theorem tu_6 (hi : ∀ c, 0 < c → c < 6 → vp_in (nI i + nI c) L) (hX : INX μX) (hM : INM μM) (hp : ∀ μ1 μ2, INX μ1 → INM μ2 → P (nI i + 6) μ1 μ2) : L_6 L xs P (nI i) μX μM := ⟨hi 1 (by omega) (by omega), hi 2 (by omega) (by omega), uX_ofOrder hX (fun r μ1 h1 => ⟨hi 1 (by omega) (by omega), hi 2 (by omega) (by omega), uM_ofOrder hM (fun r2 μ2 h2 => hp μ1 μ2 h1 h2)⟩)⟩
theorem tu_7 (hi : ∀ c, 0 < c → c < 6 → vp_in (nI i + nI c) L) (hX : INX μX) (hM : INM μM) (hp : ∀ μ1 μ2, INX μ1 → INM μ2 → P (nI i + 6) μ1 μ2) : L_7 L xs P (nI i) μX μM := ⟨hi 1 (by omega) (by omega), uX_best hX (fun r μ1 h1 => ⟨hi 1 (by omega) (by omega), uM_best hM (fun r2 μ2 h2 => hp μ1 μ2 h1 h2)⟩)⟩
theorem tu_8 (hi : ∀ c, 0 < c → c < 6 → vp_in (nI i + nI c) L) (hX : INX μX) (hM : INM μM) (hp : ∀ μ1 μ2, INX μ1 → INM μ2 → P (nI i + 6) μ1 μ2) : L_8 L xs P (nI i) μX μM := ⟨hi 1 (by omega) (by omega), hi 2 (by omega) (by omega), hi 3 (by omega) (by omega), uX_from hX (fun r μ1 h1 => ⟨hi 1 (by omega) (by omega), hi 2 (by omega) (by omega), hi 3 (by omega) (by omega), uM_from hM (fun r2 μ2 h2 => hp μ1 μ2 h1 h2)⟩)⟩
theorem tu_9 (hi : ∀ c, 0 < c → c < 6 → vp_in (nI i + nI c) L) (hX : INX μX) (hM : INM μM) (hp : ∀ μ1 μ2, INX μ1 → INM μ2 → P (nI i + 6) μ1 μ2) : L_9 L xs P (nI i) μX μM := ⟨hi 1 (by omega) (by omega), hi 2 (by omega) (by omega), uX_better hX (fun r μ1 h1 => ⟨hi 1 (by omega) (by omega), hi 2 (by omega) (by omega), uM_better hM (fun r2 μ2 h2 => hp μ1 μ2 h1 h2)⟩)⟩
theorem tu_10 (hi : ∀ c, 0 < c → c < 6 → vp_in (nI i + nI c) L) (hX : INX μX) (hM : INM μM) (hp : ∀ μ1 μ2, INX μ1 → INM μ2 → P (nI i + 6) μ1 μ2) : L_10 L xs P (nI i) μX μM := ⟨hi 1 (by omega) (by omega), uX_cross hX (fun r μ1 h1 => ⟨hi 1 (by omega) (by omega), uM_cross hM (fun r2 μ2 h2 => hp μ1 μ2 h1 h2)⟩)⟩
theorem tu_11 (hi : ∀ c, 0 < c → c < 6 → vp_in (nI i + nI c) L) (hX : INX μX) (hM : INM μM) (hp : ∀ μ1 μ2, INX μ1 → INM μ2 → P (nI i + 6) μ1 μ2) : L_11 L xs P (nI i) μX μM := ⟨hi 1 (by omega) (by omega), uX_knot hX (fun r μ1 h1 => ⟨hi 1 (by omega) (by omega), uM_knot hM (fun r2 μ2 h2 => hp μ1 μ2 h1 h2)⟩)⟩
theorem tu_12 (hi : ∀ c, 0 < c → c < 6 → vp_in (nI i + nI c) L) (hX : INX μX) (hM : INM μM) (hp : ∀ μ1 μ2, INX μ1 → INM μ2 → P (nI i + 6) μ1 μ2) : L_12 L xs P (nI i) μX μM := uX_bound hX (fun r μ1 h1 => uM_bound hM (fun r2 μ2 h2 => hp μ1 μ2 h1 h2))
theorem tu_13 (hi : ∀ c, 0 < c → c < 6 → vp_in (nI i + nI c) L) (hX : INX μX) (hM : INM μM) (hp : ∀ μ1 μ2, INX μ1 → INM μ2 → P (nI i + 6) μ1 μ2) : L_13 L xs P (nI i) μX μM := ⟨hi 1 (by omega) (by omega), uX_part hX (fun r μ1 h1 => ⟨hi 1 (by omega) (by omega), uM_part hM (fun r2 μ2 h2 => hp μ1 μ2 h1 h2)⟩)⟩
theorem tu_14 (hi : ∀ c, 0 < c → c < 6 → vp_in (nI i + nI c) L) (hX : INX μX) (hM : INM μM) (hp : ∀ μ1 μ2, INX μ1 → INM μ2 → P (nI i + 6) μ1 μ2) : L_14 L xs P (nI i) μX μM := uX_within hX (fun r μ1 h1 => uM_within hM (fun r2 μ2 h2 => hp μ1 μ2 h1 h2))
theorem tu_15 (hi : ∀ c, 0 < c → c < 6 → vp_in (nI i + nI c) L) (hX : INX μX) (hM : INM μM) (hp : ∀ μ1 μ2, INX μ1 → INM μ2 → P (nI i + 6) μ1 μ2) : L_15 L xs P (nI i) μX μM := ⟨hi 1 (by omega) (by omega), hi 2 (by omega) (by omega), uX_build hX (fun r μ1 h1 => ⟨hi 1 (by omega) (by omega), hi 2 (by omega) (by omega), uM_build hM (fun r2 μ2 h2 => hp μ1 μ2 h1 h2)⟩)⟩
theorem tu_16 (hi : ∀ c, 0 < c → c < 6 → vp_in (nI i + nI c) L) (hX : INX μX) (hM : INM μM) (hp : ∀ μ1 μ2, INX μ1 → INM μ2 → P (nI i + 6) μ1 μ2) : L_16 L xs P (nI i) μX μM := ⟨hi 1 (by omega) (by omega), uX_move hX (fun r μ1 h1 => ⟨hi 1 (by omega) (by omega), uM_move hM (fun r2 μ2 h2 => hp μ1 μ2 h1 h2)⟩)⟩
theorem tu_17 (hi : ∀ c, 0 < c → c < 6 → vp_in (nI i + nI c) L) (hX : INX μX) (hM : INM μM) (hp : ∀ μ1 μ2, INX μ1 → INM μ2 → P (nI i + 6) μ1 μ2) : L_17 L xs P (nI i) μX μM := ⟨hi 1 (by omega) (by omega), uX_moves hX (fun r μ1 h1 => ⟨hi 1 (by omega) (by omega), uM_moves hM (fun r2 μ2 h2 => hp μ1 μ2 h1 h2)⟩)⟩
theorem tu_18 (hi : ∀ c, 0 < c → c < 6 → vp_in (nI i + nI c) L) (hX : INX μX) (hM : INM μM) (hp : ∀ μ1 μ2, INX μ1 → INM μ2 → P (nI i + 6) μ1 μ2) : L_18 L xs P (nI i) μX μM := ⟨hi 1 (by omega) (by omega), hi 2 (by omega) (by omega), uX_cheapest hX (fun r μ1 h1 => ⟨hi 1 (by omega) (by omega), hi 2 (by omega) (by omega), uM_cheapest hM (fun r2 μ2 h2 => hp μ1 μ2 h1 h2)⟩)⟩
theorem tu_19 (hi : ∀ c, 0 < c → c < 6 → vp_in (nI i + nI c) L) (hX : INX μX) (hM : INM μM) (hp : ∀ μ1 μ2, INX μ1 → INM μ2 → P (nI i + 6) μ1 μ2) : L_19 L xs P (nI i) μX μM := ⟨hi 1 (by omega) (by omega), hi 2 (by omega) (by omega), uX_room hX (fun r μ1 h1 => ⟨hi 1 (by omega) (by omega), hi 2 (by omega) (by omega), uM_room hM (fun r2 μ2 h2 => hp μ1 μ2 h1 h2)⟩)⟩
theorem tu_20 (hi : ∀ c, 0 < c → c < 6 → vp_in (nI i + nI c) L) (hX : INX μX) (hM : INM μM) (hp : ∀ μ1 μ2, INX μ1 → INM μ2 → P (nI i + 6) μ1 μ2) : L_20 L xs P (nI i) μX μM := ⟨hi 1 (by omega) (by omega), uX_two hX (fun r μ1 h1 => ⟨hi 1 (by omega) (by omega), uM_two hM (fun r2 μ2 h2 => hp μ1 μ2 h1 h2)⟩)⟩
theorem tu_21 (hi : ∀ c, 0 < c → c < 6 → vp_in (nI i + nI c) L) (hX : INX μX) (hM : INM μM) (hp : ∀ μ1 μ2, INX μ1 → INM μ2 → P (nI i + 6) μ1 μ2) : L_21 L xs P (nI i) μX μM := ⟨hi 1 (by omega) (by omega), uX_without hX (fun r μ1 h1 => ⟨hi 1 (by omega) (by omega), uM_without hM (fun r2 μ2 h2 => hp μ1 μ2 h1 h2)⟩)⟩
theorem tu_22 (hi : ∀ c, 0 < c → c < 6 → vp_in (nI i + nI c) L) (hX : INX μX) (hM : INM μM) (hp : ∀ μ1 μ2, INX μ1 → INM μ2 → P (nI i + 6) μ1 μ2) : L_22 L xs P (nI i) μX μM := ⟨hi 1 (by omega) (by omega), hi 2 (by omega) (by omega), uX_why hX (fun r μ1 h1 => ⟨hi 1 (by omega) (by omega), hi 2 (by omega) (by omega), uM_why hM (fun r2 μ2 h2 => hp μ1 μ2 h1 h2)⟩)⟩
theorem tu_23 (hi : ∀ c, 0 < c → c < 6 → vp_in (nI i + nI c) L) (hX : INX μX) (hM : INM μM) (hp : ∀ μ1 μ2, INX μ1 → INM μ2 → P (nI i + 6) μ1 μ2) : L_23 L xs P (nI i) μX μM := uX_widest hX (fun r μ1 h1 => uM_widest hM (fun r2 μ2 h2 => hp μ1 μ2 h1 h2))
theorem tu_24 (hi : ∀ c, 0 < c → c < 6 → vp_in (nI i + nI c) L) (hX : INX μX) (hM : INM μM) (hp : ∀ μ1 μ2, INX μ1 → INM μ2 → P (nI i + 6) μ1 μ2) : L_24 L xs P (nI i) μX μM := ⟨hi 1 (by omega) (by omega), hi 2 (by omega) (by omega), hi 3 (by omega) (by omega), uX_sheet hX (fun μ1 h1 => ⟨hi 1 (by omega) (by omega), hi 2 (by omega) (by omega), hi 3 (by omega) (by omega), uM_sheet hM (fun μ2 h2 => br_t rfl (hp μ1 μ2 h1 h2))⟩)⟩
theorem tu_25 (hi : ∀ c, 0 < c → c < 6 → vp_in (nI i + nI c) L) (hX : INX μX) (hM : INM μM) (hp : ∀ μ1 μ2, INX μ1 → INM μ2 → P (nI i + 6) μ1 μ2) : L_25 L xs P (nI i) μX μM := ⟨hi 1 (by omega) (by omega), uX_lose hX (fun r μ1 h1 => ⟨hi 1 (by omega) (by omega), uM_lose hM (fun r2 μ2 h2 => hp μ1 μ2 h1 h2)⟩)⟩
theorem tu_26 (hi : ∀ c, 0 < c → c < 6 → vp_in (nI i + nI c) L) (hX : INX μX) (hM : INM μM) (hp : ∀ μ1 μ2, INX μ1 → INM μ2 → P (nI i + 6) μ1 μ2) : L_26 L xs P (nI i) μX μM := ⟨hi 1 (by omega) (by omega), hi 2 (by omega) (by omega), hi 3 (by omega) (by omega), uX_put hX (fun r μ1 h1 => ⟨hi 1 (by omega) (by omega), hi 2 (by omega) (by omega), hi 3 (by omega) (by omega), uM_put hM (fun r2 μ2 h2 => hp μ1 μ2 h1 h2)⟩)⟩
theorem tu_27 (hi : ∀ c, 0 < c → c < 6 → vp_in (nI i + nI c) L) (hX : INX μX) (hM : INM μM) (hp : ∀ μ1 μ2, INX μ1 → INM μ2 → P (nI i + 6) μ1 μ2) : L_27 L xs P (nI i) μX μM := ⟨hi 1 (by omega) (by omega), hi 2 (by omega) (by omega), hi 3 (by omega) (by omega), uX_cell hX (fun r μ1 h1 => ⟨hi 1 (by omega) (by omega), hi 2 (by omega) (by omega), hi 3 (by omega) (by omega), uM_cell hM (fun r2 μ2 h2 => hp μ1 μ2 h1 h2)⟩)⟩
theorem tu_28 (hi : ∀ c, 0 < c → c < 6 → vp_in (nI i + nI c) L) (hX : INX μX) (hM : INM μM) (hp : ∀ μ1 μ2, INX μ1 → INM μ2 → P (nI i + 6) μ1 μ2) : L_28 L xs P (nI i) μX μM := ⟨hi 1 (by omega) (by omega), uX_tell hX (fun r μ1 h1 => ⟨hi 1 (by omega) (by omega), uM_tell hM (fun r2 μ2 h2 => hp μ1 μ2 h1 h2)⟩)⟩
theorem tu_29 (hi : ∀ c, 0 < c → c < 6 → vp_in (nI i + nI c) L) (hX : INX μX) (hM : INM μM) (hp : ∀ μ1 μ2, INX μ1 → INM μ2 → P (nI i + 6) μ1 μ2) : L_29 L xs P (nI i) μX μM := ⟨hi 1 (by omega) (by omega), uX_show hX (fun r μ1 h1 => ⟨hi 1 (by omega) (by omega), uM_show hM (fun r2 μ2 h2 => hp μ1 μ2 h1 h2)⟩)⟩
theorem tu_30 (hi : ∀ c, 0 < c → c < 6 → vp_in (nI i + nI c) L) (hX : INX μX) (hM : INM μM) (hp : ∀ μ1 μ2, INX μ1 → INM μ2 → P (nI i + 6) μ1 μ2) : L_30 L xs P (nI i) μX μM := ⟨hi 1 (by omega) (by omega), hi 2 (by omega) (by omega), uX_as hX (fun r μ1 h1 => ⟨hi 1 (by omega) (by omega), hi 2 (by omega) (by omega), uM_as hM (fun r2 μ2 h2 => hp μ1 μ2 h1 h2)⟩)⟩
theorem tu_31 (hi : ∀ c, 0 < c → c < 6 → vp_in (nI i + nI c) L) (hX : INX μX) (hM : INM μM) (hp : ∀ μ1 μ2, INX μ1 → INM μ2 → P (nI i + 6) μ1 μ2) : L_31 L xs P (nI i) μX μM := uX_trace hX (fun r μ1 h1 => uM_trace hM (fun r2 μ2 h2 => hp μ1 μ2 h1 h2))
theorem tu_32 (hi : ∀ c, 0 < c → c < 6 → vp_in (nI i + nI c) L) (hX : INX μX) (hM : INM μM) (hp : ∀ μ1 μ2, INX μ1 → INM μ2 → P (nI i + 6) μ1 μ2) : L_32 L xs P (nI i) μX μM := uX_fault hX (fun r μ1 h1 => uM_fault hM (fun r2 μ2 h2 => hp μ1 μ2 h1 h2))
theorem tu_33 (hi : ∀ c, 0 < c → c < 6 → vp_in (nI i + nI c) L) (hX : INX μX) (hM : INM μM) (hp : ∀ μ1 μ2, INX μ1 → INM μ2 → P (nI i + 6) μ1 μ2) : L_33 L xs P (nI i) μX μM := ⟨hi 1 (by omega) (by omega), uX_many hX (fun r μ1 h1 => ⟨hi 1 (by omega) (by omega), uM_many hM (fun r2 μ2 h2 => hp μ1 μ2 h1 h2)⟩)⟩
theorem tu_turn (hi : ∀ c, c < 6 → vp_in (nI i + nI c) L) (hX : INX μX) (hM : INM μM) (hp : ∀ μ1 μ2, INX μ1 → INM μ2 → P (nI i + 6) μ1 μ2) : L_turn L xs P (nI i) μX μM := by
  have h0 : vp_in (nI i) L := by have := hi 0 (by omega); rw [nI_add] at this; exact this
  have h1 : ∀ c, 0 < c → c < 6 → vp_in (nI i + nI c) L := fun c _ h => hi c h
  exact ⟨h0, fun _ => tu_0 h1 hX hM hp, fun _ => tu_1 h1 hX hM hp, fun _ => tu_2 h1 hX hM hp, fun _ => tu_3 h1 hX hM hp, fun _ => tu_4 h1 hX hM hp, fun _ => tu_5 h1 hX hM hp, fun _ => tu_6 h1 hX hM hp, fun _ => tu_7 h1 hX hM hp, fun _ => tu_8 h1 hX hM hp, fun _ => tu_9 h1 hX hM hp, fun _ => tu_10 h1 hX hM hp, fun _ => tu_11 h1 hX hM hp, fun _ => tu_12 h1 hX hM hp, fun _ => tu_13 h1 hX hM hp, fun _ => tu_14 h1 hX hM hp, fun _ => tu_15 h1 hX hM hp, fun _ => tu_16 h1 hX hM hp, fun _ => tu_17 h1 hX hM hp, fun _ => tu_18 h1 hX hM hp, fun _ => tu_19 h1 hX hM hp, fun _ => tu_20 h1 hX hM hp, fun _ => tu_21 h1 hX hM hp, fun _ => tu_22 h1 hX hM hp, fun _ => tu_23 h1 hX hM hp, fun _ => tu_24 h1 hX hM hp, fun _ => tu_25 h1 hX hM hp, fun _ => tu_26 h1 hX hM hp, fun _ => tu_27 h1 hX hM hp, fun _ => tu_28 h1 hX hM hp, fun _ => tu_29 h1 hX hM hp, fun _ => tu_30 h1 hX hM hp, fun _ => tu_31 h1 hX hM hp, fun _ => tu_32 h1 hX hM hp, fun _ => tu_33 h1 hX hM hp, hp μX μM hX hM⟩
end Turn
