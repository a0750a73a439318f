theorem tb_1 {w : Cond} (h : w ∈ tables_1_1) : w ∈ lw_tbl := List.mem_append_right _ (tm_1 h)
theorem tb_2 {w : Cond} (h : w ∈ tables_1_2) : w ∈ lw_tbl := List.mem_append_right _ (tm_2 h)
theorem tb_3 {w : Cond} (h : w ∈ tables_1_3) : w ∈ lw_tbl := List.mem_append_right _ (tm_3 h)
theorem tb_4 {w : Cond} (h : w ∈ tables_1_4) : w ∈ lw_tbl := List.mem_append_right _ (tm_4 h)
theorem tb_5 {w : Cond} (h : w ∈ tables_1_5) : w ∈ lw_tbl := List.mem_append_right _ (tm_5 h)
theorem tb_6 {w : Cond} (h : w ∈ tables_1_6) : w ∈ lw_tbl := List.mem_append_right _ (tm_6 h)
/-! shapes of the two worlds, words of the tables, by program (gen.py) -/
def shXl : List Shp := [.inr (.inr (11, [some (some 1), some (some 9), some (some 13), some (some 22), some (some 33), some (some 35), some (some 41), some (some 47), some (some 50), some (some 53), some (some 56), some (some 57), none, none])), .inr (.inr (7, [some (some 2), some (some 3), some (some 4)])), .inr (.inl (4, 5)), .inl 4, .inl 4, .inl 60, .inl 60, .inl 60, .inl 60, .inr (.inr (9, [some (some 10), some (some 11), some (some 12), none, none, none, none])), .inl 9, .inl 9, .inl 10, .inr (.inr (10, [some (some 14), some (some 15), some (some 16), some (some 19), none, none])), .inl 9, .inl 9, .inr (.inr (5, [some (some 17), some (some 18)])), .inl 32, .inl 32, .inr (.inr (5, [some (some 20), some (some 21)])), .inl 32, .inl 32, .inr (.inr (3, [some (some 23), some (some 24), none])), .inr (.inl (8, 25)), .inl 8, .inl 9, .inl 9, .inl 9, .inl 9, .inl 9, .inl 9, .inl 9, .inl 9, .inr (.inr (1, [some (some 34), none, none, none, some (some 13)])), .inl 9, .inr (.inr (6, [some (some 13), some (some 36), some (some 37), some (some 38), some (some 39), some (some 40), none, none, none, none])), .inl 9, .inl 9, .inl 512, .inl 512, .inl 512, .inr (.inr (6, [some (some 13), some (some 42), some (some 43), some (some 44), some (some 45), some (some 46), none, none, none, none])), .inl 9, .inl 9, .inl 512, .inl 512, .inl 512, .inr (.inr (0, [some (some 48), none, none, some (some 13), some (some 49), none])), .inl 10, .inl 10, .inr (.inr (2, [some (some 51), some (some 52), some (some 13), some (some 33), none, none])), .inl 9, .inl 9, .inr (.inr (4, [some (some 13), some (some 33), some none, some none])), .inl 1024, .inl 1024, .inr (.inr (8, [none, none, none, some (some 13), some (some 41), none])), .inl 9]
def shX (k : Nat) : Shp := shXl.getD k nosh
theorem shX_out : shOut shX 58 := fun k h => by
  show shXl.getD k nosh = nosh
  rw [List.getD_eq_getElem?_getD, List.getElem?_eq_none (by show 58 ≤ k; exact h)]
  rfl
theorem sX_0 : shX 0 = .inr (.inr (11, [some (some 1), some (some 9), some (some 13), some (some 22), some (some 33), some (some 35), some (some 41), some (some 47), some (some 50), some (some 53), some (some 56), some (some 57), none, none])) := rfl
theorem sX_1 : shX 1 = .inr (.inr (7, [some (some 2), some (some 3), some (some 4)])) := rfl
theorem sX_2 : shX 2 = .inr (.inl (4, 5)) := rfl
theorem sX_3 : shX 3 = .inl 4 := rfl
theorem sX_4 : shX 4 = .inl 4 := rfl
theorem sX_5 : shX 5 = .inl 60 := rfl
theorem sX_6 : shX 6 = .inl 60 := rfl
theorem sX_7 : shX 7 = .inl 60 := rfl
theorem sX_8 : shX 8 = .inl 60 := rfl
theorem sX_9 : shX 9 = .inr (.inr (9, [some (some 10), some (some 11), some (some 12), none, none, none, none])) := rfl
theorem sX_10 : shX 10 = .inl 9 := rfl
theorem sX_11 : shX 11 = .inl 9 := rfl
theorem sX_12 : shX 12 = .inl 10 := rfl
theorem sX_13 : shX 13 = .inr (.inr (10, [some (some 14), some (some 15), some (some 16), some (some 19), none, none])) := rfl
theorem sX_14 : shX 14 = .inl 9 := rfl
theorem sX_15 : shX 15 = .inl 9 := rfl
theorem sX_16 : shX 16 = .inr (.inr (5, [some (some 17), some (some 18)])) := rfl
theorem sX_17 : shX 17 = .inl 32 := rfl
theorem sX_18 : shX 18 = .inl 32 := rfl
theorem sX_19 : shX 19 = .inr (.inr (5, [some (some 20), some (some 21)])) := rfl
theorem sX_20 : shX 20 = .inl 32 := rfl
theorem sX_21 : shX 21 = .inl 32 := rfl
theorem sX_22 : shX 22 = .inr (.inr (3, [some (some 23), some (some 24), none])) := rfl
theorem sX_23 : shX 23 = .inr (.inl (8, 25)) := rfl
theorem sX_24 : shX 24 = .inl 8 := rfl
theorem sX_25 : shX 25 = .inl 9 := rfl
theorem sX_26 : shX 26 = .inl 9 := rfl
theorem sX_27 : shX 27 = .inl 9 := rfl
theorem sX_28 : shX 28 = .inl 9 := rfl
theorem sX_29 : shX 29 = .inl 9 := rfl
theorem sX_30 : shX 30 = .inl 9 := rfl
theorem sX_31 : shX 31 = .inl 9 := rfl
theorem sX_32 : shX 32 = .inl 9 := rfl
theorem sX_33 : shX 33 = .inr (.inr (1, [some (some 34), none, none, none, some (some 13)])) := rfl
theorem sX_34 : shX 34 = .inl 9 := rfl
theorem sX_35 : shX 35 = .inr (.inr (6, [some (some 13), some (some 36), some (some 37), some (some 38), some (some 39), some (some 40), none, none, none, none])) := rfl
theorem sX_36 : shX 36 = .inl 9 := rfl
theorem sX_37 : shX 37 = .inl 9 := rfl
theorem sX_38 : shX 38 = .inl 512 := rfl
theorem sX_39 : shX 39 = .inl 512 := rfl
theorem sX_40 : shX 40 = .inl 512 := rfl
theorem sX_41 : shX 41 = .inr (.inr (6, [some (some 13), some (some 42), some (some 43), some (some 44), some (some 45), some (some 46), none, none, none, none])) := rfl
theorem sX_42 : shX 42 = .inl 9 := rfl
theorem sX_43 : shX 43 = .inl 9 := rfl
theorem sX_44 : shX 44 = .inl 512 := rfl
theorem sX_45 : shX 45 = .inl 512 := rfl
theorem sX_46 : shX 46 = .inl 512 := rfl
theorem sX_47 : shX 47 = .inr (.inr (0, [some (some 48), none, none, some (some 13), some (some 49), none])) := rfl
theorem sX_48 : shX 48 = .inl 10 := rfl
theorem sX_49 : shX 49 = .inl 10 := rfl
theorem sX_50 : shX 50 = .inr (.inr (2, [some (some 51), some (some 52), some (some 13), some (some 33), none, none])) := rfl
theorem sX_51 : shX 51 = .inl 9 := rfl
theorem sX_52 : shX 52 = .inl 9 := rfl
theorem sX_53 : shX 53 = .inr (.inr (4, [some (some 13), some (some 33), some none, some none])) := rfl
theorem sX_54 : shX 54 = .inl 1024 := rfl
theorem sX_55 : shX 55 = .inl 1024 := rfl
theorem sX_56 : shX 56 = .inr (.inr (8, [none, none, none, some (some 13), some (some 41), none])) := rfl
theorem sX_57 : shX 57 = .inl 9 := rfl
def shMl : List Shp := [.inr (.inr (12, [none, none, some (some 1), some (some 2), some (some 3), none, some (some 4), some (some 5), some (some 6), some (some 7), none, none, none, some (some 8), some (some 9), none, some (some 10), none, some (some 11), some (some 12), some (some 13), some (some 14), some (some 15), some (some 16), some (some 17), some (some 18), some (some 19), some (some 20), some (some 21)])), .inl 4, .inl 4, .inl 240, .inl 9, .inl 9, .inl 10, .inl 10, .inl 9, .inl 9, .inl 10, .inl 8, .inl 72, .inl 9, .inl 512, .inl 512, .inl 512, .inl 1024, .inl 9, .inl 9, .inl 1024, .inl 1024]
def shM (k : Nat) : Shp := shMl.getD k nosh
theorem shM_out : shOut shM 22 := fun k h => by
  show shMl.getD k nosh = nosh
  rw [List.getD_eq_getElem?_getD, List.getElem?_eq_none (by show 22 ≤ k; exact h)]
  rfl
theorem sM_0 : shM 0 = .inr (.inr (12, [none, none, some (some 1), some (some 2), some (some 3), none, some (some 4), some (some 5), some (some 6), some (some 7), none, none, none, some (some 8), some (some 9), none, some (some 10), none, some (some 11), some (some 12), some (some 13), some (some 14), some (some 15), some (some 16), some (some 17), some (some 18), some (some 19), some (some 20), some (some 21)])) := rfl
theorem sM_1 : shM 1 = .inl 4 := rfl
theorem sM_2 : shM 2 = .inl 4 := rfl
theorem sM_3 : shM 3 = .inl 240 := rfl
theorem sM_4 : shM 4 = .inl 9 := rfl
theorem sM_5 : shM 5 = .inl 9 := rfl
theorem sM_6 : shM 6 = .inl 10 := rfl
theorem sM_7 : shM 7 = .inl 10 := rfl
theorem sM_8 : shM 8 = .inl 9 := rfl
theorem sM_9 : shM 9 = .inl 9 := rfl
theorem sM_10 : shM 10 = .inl 10 := rfl
theorem sM_11 : shM 11 = .inl 8 := rfl
theorem sM_12 : shM 12 = .inl 72 := rfl
theorem sM_13 : shM 13 = .inl 9 := rfl
theorem sM_14 : shM 14 = .inl 512 := rfl
theorem sM_15 : shM 15 = .inl 512 := rfl
theorem sM_16 : shM 16 = .inl 512 := rfl
theorem sM_17 : shM 17 = .inl 1024 := rfl
theorem sM_18 : shM 18 = .inl 9 := rfl
theorem sM_19 : shM 19 = .inl 9 := rfl
theorem sM_20 : shM 20 = .inl 1024 := rfl
theorem sM_21 : shM 21 = .inl 1024 := rfl
theorem shX_rows5 {i : Int32} (h : vp_in i 4) : shX (5 + i.toNatClampNeg) = .inl 60 := by
  have : i.toNatClampNeg < 4 := Nat.not_le.mp fun q => h (Or.inr q)
  generalize i.toNatClampNeg = k at this
  rcases (show k = 0 ∨ k = 1 ∨ k = 2 ∨ k = 3 by omega) with rfl | rfl | rfl | rfl <;> rfl
theorem shX_rows25 {i : Int32} (h : vp_in i 8) : shX (25 + i.toNatClampNeg) = .inl 9 := by
  have : i.toNatClampNeg < 8 := Nat.not_le.mp fun q => h (Or.inr q)
  generalize i.toNatClampNeg = k at this
  rcases (show k = 0 ∨ k = 1 ∨ k = 2 ∨ k = 3 ∨ k = 4 ∨ k = 5 ∨ k = 6 ∨ k = 7 by omega) with rfl | rfl | rfl | rfl | rfl | rfl | rfl | rfl <;> rfl
theorem ne_toInt {x v : Int32} {w : Int} (h : ¬ x = v) (e : v.toInt = w) : x.toInt ≠ w := fun q => h (Int32.toInt_inj.mp (q.trans e.symm))
def isScale (c : Nat) : Prop := c = 16 ∨ c = 19
theorem sc_0 {c : Nat} (h : isScale c) : shX c = .inr (.inr (5, [some (some (c + 1)), some (some (c + 2))])) := by rcases h with rfl | rfl <;> rfl
theorem sc_1 {c : Nat} (h : isScale c) : shX (c + 1) = .inl 32 := by rcases h with rfl | rfl <;> rfl
theorem sc_2 {c : Nat} (h : isScale c) : shX (c + 2) = .inl 32 := by rcases h with rfl | rfl <;> rfl
def isSearch (c : Nat) : Prop := c = 35 ∨ c = 41
theorem sr_0 {c : Nat} (h : isSearch c) : shX c = .inr (.inr (6, [some (some 13), some (some (c + 1)), some (some (c + 2)), some (some (c + 3)), some (some (c + 4)), some (some (c + 5)), none, none, none, none])) := by rcases h with rfl | rfl <;> rfl
theorem sr_1 {c : Nat} (h : isSearch c) : shX (c + 1) = .inl 9 := by rcases h with rfl | rfl <;> rfl
theorem sr_2 {c : Nat} (h : isSearch c) : shX (c + 2) = .inl 9 := by rcases h with rfl | rfl <;> rfl
theorem sr_3 {c : Nat} (h : isSearch c) : shX (c + 3) = .inl 512 := by rcases h with rfl | rfl <;> rfl
theorem sr_4 {c : Nat} (h : isSearch c) : shX (c + 4) = .inl 512 := by rcases h with rfl | rfl <;> rfl
theorem sr_5 {c : Nat} (h : isSearch c) : shX (c + 5) = .inl 512 := by rcases h with rfl | rfl <;> rfl
theorem cb_10 : (Int8.ofInt 10).toInt32 = 10 := by decide
theorem cb_106 : (Int8.ofInt 106).toInt32 = 106 := by decide
theorem cb_115 : (Int8.ofInt 115).toInt32 = 115 := by decide
theorem cb_119 : (Int8.ofInt 119).toInt32 = 119 := by decide
theorem cb_12 : (Int8.ofInt 12).toInt32 = 12 := by decide
theorem cb_16 : (Int8.ofInt 16).toInt32 = 16 := by decide
theorem cb_20 : (Int8.ofInt 20).toInt32 = 20 := by decide
theorem cb_30 : (Int8.ofInt 30).toInt32 = 30 := by decide
theorem cb_31 : (Int8.ofInt 31).toInt32 = 31 := by decide
theorem cb_32 : (Int8.ofInt 32).toInt32 = 32 := by decide
theorem cb_38 : (Int8.ofInt 38).toInt32 = 38 := by decide
theorem cb_48 : (Int8.ofInt 48).toInt32 = 48 := by decide
theorem cb_49 : (Int8.ofInt 49).toInt32 = 49 := by decide
theorem cb_57 : (Int8.ofInt 57).toInt32 = 57 := by decide
theorem cb_59 : (Int8.ofInt 59).toInt32 = 59 := by decide
theorem cb_6 : (Int8.ofInt 6).toInt32 = 6 := by decide
theorem cb_60 : (Int8.ofInt 60).toInt32 = 60 := by decide
theorem cb_63 : (Int8.ofInt 63).toInt32 = 63 := by decide
theorem cb_7 : (Int8.ofInt 7).toInt32 = 7 := by decide
theorem cb_8 : (Int8.ofInt 8).toInt32 = 8 := by decide
theorem cb_80 : (Int8.ofInt 80).toInt32 = 80 := by decide
theorem cb_9 : (Int8.ofInt 9).toInt32 = 9 := by decide
theorem cb_97 : (Int8.ofInt 97).toInt32 = 97 := by decide
theorem cb_99 : (Int8.ofInt 99).toInt32 = 99 := by decide
theorem cb_m10 : (Int8.ofInt (-10)).toInt32 = (-10) := by decide
theorem cb_m100 : (Int8.ofInt (-100)).toInt32 = (-100) := by decide
theorem cb_m2 : (Int8.ofInt (-2)).toInt32 = (-2) := by decide
theorem cb_m3 : (Int8.ofInt (-3)).toInt32 = (-3) := by decide
theorem cb_m4 : (Int8.ofInt (-4)).toInt32 = (-4) := by decide
theorem cb_m9 : (Int8.ofInt (-9)).toInt32 = (-9) := by decide
theorem ci_0 : Int32.ofInt 0 = 0 := by decide
theorem ci_1 : Int32.ofInt 1 = 1 := by decide
theorem ci_2 : Int32.ofInt 2 = 2 := by decide
theorem ci_3 : Int32.ofInt 3 = 3 := by decide
theorem ci_4 : Int32.ofInt 4 = 4 := by decide
theorem ci_5 : Int32.ofInt 5 = 5 := by decide
theorem ci_6 : Int32.ofInt 6 = 6 := by decide
theorem ci_m1 : Int32.ofInt (-1) = (-1) := by decide
theorem cs_1000 : (Int16.ofInt 1000).toInt32 = 1000 := by decide
theorem cs_1023 : (Int16.ofInt 1023).toInt32 = 1023 := by decide
theorem cs_1024 : (Int16.ofInt 1024).toInt32 = 1024 := by decide
theorem cs_9999 : (Int16.ofInt 9999).toInt32 = 9999 := by decide
theorem k_0 : Cond.selects "OpenPots$Sheets" ⟨"OpenPots$Sheets", "rowFault", "(II)I"⟩ ⟨"OpenPots$Sheets", "rowFault", "(II)I"⟩ ∈ lw_t2 := t2_in (List.mem_of_getElem? (i := 0) (by decide +kernel)) rfl
theorem k_1 : Cond.selects "OpenPots" ⟨"OpenPots", "faulted", "(I)I"⟩ ⟨"OpenPots", "faulted", "(I)I"⟩ ∈ lw_t2 := t2_in (List.mem_of_getElem? (i := 1) (by decide +kernel)) rfl
theorem k_2 : Cond.selects "OpenPots$Text" ⟨"OpenPots$Text", "forget", "()V"⟩ ⟨"OpenPots$Text", "forget", "()V"⟩ ∈ lw_t2 := t2_in (List.mem_of_getElem? (i := 2) (by decide +kernel)) rfl
theorem k_3 : Cond.selects "OpenPots$Text" ⟨"OpenPots$Text", "step", "(II)I"⟩ ⟨"OpenPots$Text", "step", "(II)I"⟩ ∈ lw_t2 := t2_in (List.mem_of_getElem? (i := 3) (by decide +kernel)) rfl
theorem k_4 : Cond.selects "OpenPots$Text" ⟨"OpenPots$Text", "beginItem", "(I)I"⟩ ⟨"OpenPots$Text", "beginItem", "(I)I"⟩ ∈ lw_t2 := t2_in (List.mem_of_getElem? (i := 4) (by decide +kernel)) rfl
theorem k_5 : Cond.selects "OpenPots$Text" ⟨"OpenPots$Text", "takeNeed", "(I)I"⟩ ⟨"OpenPots$Text", "takeNeed", "(I)I"⟩ ∈ lw_t2 := t2_in (List.mem_of_getElem? (i := 5) (by decide +kernel)) rfl
theorem k_6 : Cond.selects "OpenPots$Text" ⟨"OpenPots$Text", "goOnInWork", "(I)I"⟩ ⟨"OpenPots$Text", "goOnInWork", "(I)I"⟩ ∈ lw_t2 := t2_in (List.mem_of_getElem? (i := 6) (by decide +kernel)) rfl
theorem k_7 : Cond.selects "OpenPots$Text" ⟨"OpenPots$Text", "endItem", "(I)I"⟩ ⟨"OpenPots$Text", "endItem", "(I)I"⟩ ∈ lw_t2 := t2_in (List.mem_of_getElem? (i := 7) (by decide +kernel)) rfl
theorem k_8 : Cond.selects "OpenPots$Text" ⟨"OpenPots$Text", "takeBefore", "(I)I"⟩ ⟨"OpenPots$Text", "takeBefore", "(I)I"⟩ ∈ lw_t2 := t2_in (List.mem_of_getElem? (i := 8) (by decide +kernel)) rfl
theorem k_9 : Cond.selects "OpenPots$Text" ⟨"OpenPots$Text", "takeSized", "(I)I"⟩ ⟨"OpenPots$Text", "takeSized", "(I)I"⟩ ∈ lw_t2 := t2_in (List.mem_of_getElem? (i := 9) (by decide +kernel)) rfl
theorem k_10 : Cond.selects "OpenPots$Text" ⟨"OpenPots$Text", "takeSize", "(I)I"⟩ ⟨"OpenPots$Text", "takeSize", "(I)I"⟩ ∈ lw_t2 := t2_in (List.mem_of_getElem? (i := 10) (by decide +kernel)) rfl
theorem k_11 : Cond.selects "OpenPots" ⟨"OpenPots", "refusalOfSpare", "(I)I"⟩ ⟨"OpenPots", "refusalOfSpare", "(I)I"⟩ ∈ lw_t2 := t2_in (List.mem_of_getElem? (i := 11) (by decide +kernel)) rfl
theorem k_12 : Cond.selects "OpenPots$Gauge" ⟨"OpenPots$Gauge", "fillNeededFromHereOn", "([I)V"⟩ ⟨"OpenPots$Gauge", "fillNeededFromHereOn", "([I)V"⟩ ∈ lw_t2 := t2_in (List.mem_of_getElem? (i := 12) (by decide +kernel)) rfl
theorem k_13 : Cond.selects "OpenPots" ⟨"OpenPots", "atPlace", "(II)I"⟩ ⟨"OpenPots", "atPlace", "(II)I"⟩ ∈ lw_t2 := t2_in (List.mem_of_getElem? (i := 13) (by decide +kernel)) rfl
theorem k_14 : Cond.selects "OpenPots$Search" ⟨"OpenPots$Search", "load", "(I)V"⟩ ⟨"OpenPots$Search", "load", "(I)V"⟩ ∈ lw_t2 := t2_in (List.mem_of_getElem? (i := 14) (by decide +kernel)) rfl
theorem k_15 : Cond.selects "OpenPots$Search" ⟨"OpenPots$Search", "squeeze", "(II)I"⟩ ⟨"OpenPots$Search", "squeeze", "(II)I"⟩ ∈ lw_t2 := t2_in (List.mem_of_getElem? (i := 15) (by decide +kernel)) rfl
theorem k_16 : Cond.selects "OpenPots$Search" ⟨"OpenPots$Search", "fillLeast", "(I)V"⟩ ⟨"OpenPots$Search", "fillLeast", "(I)V"⟩ ∈ lw_t2 := t2_in (List.mem_of_getElem? (i := 16) (by decide +kernel)) rfl
theorem k_17 : Cond.selects "OpenPots$Search" ⟨"OpenPots$Search", "mayCome", "(II)Z"⟩ ⟨"OpenPots$Search", "mayCome", "(II)Z"⟩ ∈ lw_t2 := t2_in (List.mem_of_getElem? (i := 17) (by decide +kernel)) rfl
theorem k_18 : Cond.selects "OpenPots$Search" ⟨"OpenPots$Search", "wide", "(II)I"⟩ ⟨"OpenPots$Search", "wide", "(II)I"⟩ ∈ lw_t2 := t2_in (List.mem_of_getElem? (i := 18) (by decide +kernel)) rfl
theorem k_19 : Cond.selects "OpenPots$Search" ⟨"OpenPots$Search", "fillLongs", "(I)V"⟩ ⟨"OpenPots$Search", "fillLongs", "(I)V"⟩ ∈ lw_t2 := t2_in (List.mem_of_getElem? (i := 19) (by decide +kernel)) rfl
theorem k_20 : Cond.selects "OpenPots$Search" ⟨"OpenPots$Search", "leastLong", "(I)I"⟩ ⟨"OpenPots$Search", "leastLong", "(I)I"⟩ ∈ lw_t2 := t2_in (List.mem_of_getElem? (i := 20) (by decide +kernel)) rfl
theorem k_21 : Cond.selects "OpenPots$Search" ⟨"OpenPots$Search", "nextBehind", "(I)I"⟩ ⟨"OpenPots$Search", "nextBehind", "(I)I"⟩ ∈ lw_t2 := t2_in (List.mem_of_getElem? (i := 21) (by decide +kernel)) rfl
theorem k_22 : Cond.selects "OpenPots$Bounds" ⟨"OpenPots$Bounds", "fillCrossings", "()V"⟩ ⟨"OpenPots$Bounds", "fillCrossings", "()V"⟩ ∈ lw_t2 := t2_in (List.mem_of_getElem? (i := 22) (by decide +kernel)) rfl
theorem k_23 : Cond.selects "OpenPots$Bounds" ⟨"OpenPots$Bounds", "findKnot", "()V"⟩ ⟨"OpenPots$Bounds", "findKnot", "()V"⟩ ∈ lw_t2 := t2_in (List.mem_of_getElem? (i := 23) (by decide +kernel)) rfl
theorem k_24 : Cond.selects "OpenPots$Bounds" ⟨"OpenPots$Bounds", "fillJoined", "()V"⟩ ⟨"OpenPots$Bounds", "fillJoined", "()V"⟩ ∈ lw_t2 := t2_in (List.mem_of_getElem? (i := 24) (by decide +kernel)) rfl
theorem k_25 : Cond.selects "OpenPots$Bounds" ⟨"OpenPots$Bounds", "isKnot", "(I)Z"⟩ ⟨"OpenPots$Bounds", "isKnot", "(I)Z"⟩ ∈ lw_t2 := t2_in (List.mem_of_getElem? (i := 25) (by decide +kernel)) rfl
theorem k_26 : Cond.selects "OpenPots$Bounds" ⟨"OpenPots$Bounds", "isWithin", "(II)Z"⟩ ⟨"OpenPots$Bounds", "isWithin", "(II)Z"⟩ ∈ lw_t2 := t2_in (List.mem_of_getElem? (i := 26) (by decide +kernel)) rfl
theorem k_27 : Cond.selects "OpenPots$Works" ⟨"OpenPots$Works", "score", "(III)I"⟩ ⟨"OpenPots$Works", "score", "(III)I"⟩ ∈ lw_t2 := t2_in (List.mem_of_getElem? (i := 27) (by decide +kernel)) rfl
theorem k_28 : Cond.selects "OpenPots" ⟨"OpenPots", "isLawful", "(I)Z"⟩ ⟨"OpenPots", "isLawful", "(I)Z"⟩ ∈ lw_t2 := t2_in (List.mem_of_getElem? (i := 28) (by decide +kernel)) rfl
theorem k_29 : Cond.selects "OpenPots$Mover" ⟨"OpenPots$Mover", "doFirstMove", "()Z"⟩ ⟨"OpenPots$Mover", "doFirstMove", "()Z"⟩ ∈ lw_t2 := t2_in (List.mem_of_getElem? (i := 29) (by decide +kernel)) rfl
theorem k_30 : Cond.selects "OpenPots$Mover" ⟨"OpenPots$Mover", "isGood", "(II)Z"⟩ ⟨"OpenPots$Mover", "isGood", "(II)Z"⟩ ∈ lw_t2 := t2_in (List.mem_of_getElem? (i := 30) (by decide +kernel)) rfl
theorem k_31 : Cond.selects "OpenPots$Room" ⟨"OpenPots$Room", "goOn", "([III)V"⟩ ⟨"OpenPots$Room", "goOn", "([III)V"⟩ ∈ lw_t2 := t2_in (List.mem_of_getElem? (i := 31) (by decide +kernel)) rfl
theorem k_32 : Cond.selects "OpenPots$Room" ⟨"OpenPots$Room", "fillFar", "(I)V"⟩ ⟨"OpenPots$Room", "fillFar", "(I)V"⟩ ∈ lw_t2 := t2_in (List.mem_of_getElem? (i := 32) (by decide +kernel)) rfl
theorem k_33 : Cond.selects "OpenPots$Room" ⟨"OpenPots$Room", "closeSome", "(II)V"⟩ ⟨"OpenPots$Room", "closeSome", "(II)V"⟩ ∈ lw_t2 := t2_in (List.mem_of_getElem? (i := 33) (by decide +kernel)) rfl
theorem k_34 : Cond.selects "OpenPots$Room" ⟨"OpenPots$Room", "closeOne", "(I)V"⟩ ⟨"OpenPots$Room", "closeOne", "(I)V"⟩ ∈ lw_t2 := t2_in (List.mem_of_getElem? (i := 34) (by decide +kernel)) rfl
theorem k_35 : Cond.selects "OpenPots$Tables" ⟨"OpenPots$Tables", "divide", "()V"⟩ ⟨"OpenPots$Tables", "divide", "()V"⟩ ∈ lw_t2 := t2_in (List.mem_of_getElem? (i := 35) (by decide +kernel)) rfl
theorem k_36 : Cond.selects "OpenPots" ⟨"OpenPots", "mostWithout", "(II)I"⟩ ⟨"OpenPots", "mostWithout", "(II)I"⟩ ∈ lw_t2 := t2_in (List.mem_of_getElem? (i := 36) (by decide +kernel)) rfl
theorem k_37 : Cond.selects "OpenPots" ⟨"OpenPots", "tellAgain", "(I)I"⟩ ⟨"OpenPots", "tellAgain", "(I)I"⟩ ∈ lw_t2 := t2_in (List.mem_of_getElem? (i := 37) (by decide +kernel)) rfl
theorem k_38 : Cond.selects "OpenPots" ⟨"OpenPots", "leave", "(I)V"⟩ ⟨"OpenPots", "leave", "(I)V"⟩ ∈ lw_t2 := t2_in (List.mem_of_getElem? (i := 38) (by decide +kernel)) rfl
theorem k_39 : Cond.selects "OpenPots" ⟨"OpenPots", "tellBefore", "(I)I"⟩ ⟨"OpenPots", "tellBefore", "(I)I"⟩ ∈ lw_t2 := t2_in (List.mem_of_getElem? (i := 39) (by decide +kernel)) rfl
theorem k_40 : Cond.selects "OpenPots" ⟨"OpenPots", "tellRow", "(I)I"⟩ ⟨"OpenPots", "tellRow", "(I)I"⟩ ∈ lw_t2 := t2_in (List.mem_of_getElem? (i := 40) (by decide +kernel)) rfl
theorem k_41 : Cond.selects "OpenPotsModel" ⟨"OpenPotsModel", "against", "(IIII)I"⟩ ⟨"OpenPotsModel", "against", "(IIII)I"⟩ ∈ lw_t2 := t2_in (List.mem_of_getElem? (i := 41) (by decide +kernel)) rfl
theorem k_42 : Cond.selects "OpenPotsModel" ⟨"OpenPotsModel", "fails", "(I)I"⟩ ⟨"OpenPotsModel", "fails", "(I)I"⟩ ∈ lw_t2 := t2_in (List.mem_of_getElem? (i := 42) (by decide +kernel)) rfl
theorem k_43 : Cond.selects "OpenPotsModel" ⟨"OpenPotsModel", "readsAll", "()Z"⟩ ⟨"OpenPotsModel", "readsAll", "()Z"⟩ ∈ lw_t2 := t2_in (List.mem_of_getElem? (i := 43) (by decide +kernel)) rfl
theorem k_44 : Cond.selects "OpenPotsModel" ⟨"OpenPotsModel", "codeAt", "()I"⟩ ⟨"OpenPotsModel", "codeAt", "()I"⟩ ∈ lw_t2 := t2_in (List.mem_of_getElem? (i := 44) (by decide +kernel)) rfl
theorem k_45 : Cond.selects "OpenPotsModel" ⟨"OpenPotsModel", "readsWork", "()Z"⟩ ⟨"OpenPotsModel", "readsWork", "()Z"⟩ ∈ lw_t2 := t2_in (List.mem_of_getElem? (i := 45) (by decide +kernel)) rfl
theorem k_46 : Cond.selects "OpenPotsModel" ⟨"OpenPotsModel", "readsSize", "()Z"⟩ ⟨"OpenPotsModel", "readsSize", "()Z"⟩ ∈ lw_t2 := t2_in (List.mem_of_getElem? (i := 46) (by decide +kernel)) rfl
theorem k_47 : Cond.selects "OpenPotsModel" ⟨"OpenPotsModel", "all", "()I"⟩ ⟨"OpenPotsModel", "all", "()I"⟩ ∈ lw_t2 := t2_in (List.mem_of_getElem? (i := 47) (by decide +kernel)) rfl
theorem k_48 : Cond.selects "OpenPotsModel" ⟨"OpenPotsModel", "isWork", "(I)Z"⟩ ⟨"OpenPotsModel", "isWork", "(I)Z"⟩ ∈ lw_t2 := t2_in (List.mem_of_getElem? (i := 48) (by decide +kernel)) rfl
theorem k_49 : Cond.selects "OpenPotsModel" ⟨"OpenPotsModel", "aheadOf", "(I)I"⟩ ⟨"OpenPotsModel", "aheadOf", "(I)I"⟩ ∈ lw_t2 := t2_in (List.mem_of_getElem? (i := 49) (by decide +kernel)) rfl
theorem k_50 : Cond.selects "OpenPotsModel" ⟨"OpenPotsModel", "isLawful", "([I)Z"⟩ ⟨"OpenPotsModel", "isLawful", "([I)Z"⟩ ∈ lw_t2 := t2_in (List.mem_of_getElem? (i := 50) (by decide +kernel)) rfl
theorem k_51 : Cond.selects "OpenPotsModel" ⟨"OpenPotsModel", "comes", "(I)I"⟩ ⟨"OpenPotsModel", "comes", "(I)I"⟩ ∈ lw_t2 := t2_in (List.mem_of_getElem? (i := 51) (by decide +kernel)) rfl
theorem k_52 : Cond.selects "OpenPotsModel" ⟨"OpenPotsModel", "isOrder", "(I)Z"⟩ ⟨"OpenPotsModel", "isOrder", "(I)Z"⟩ ∈ lw_t2 := t2_in (List.mem_of_getElem? (i := 52) (by decide +kernel)) rfl
theorem k_53 : Cond.selects "OpenPotsModel" ⟨"OpenPotsModel", "lookAt", "(I)V"⟩ ⟨"OpenPotsModel", "lookAt", "(I)V"⟩ ∈ lw_t2 := t2_in (List.mem_of_getElem? (i := 53) (by decide +kernel)) rfl
theorem k_54 : Cond.selects "OpenPotsModel" ⟨"OpenPotsModel", "mostOf", "([I)I"⟩ ⟨"OpenPotsModel", "mostOf", "([I)I"⟩ ∈ lw_t2 := t2_in (List.mem_of_getElem? (i := 54) (by decide +kernel)) rfl
theorem k_55 : Cond.selects "OpenPotsModel" ⟨"OpenPotsModel", "openAt", "([II)I"⟩ ⟨"OpenPotsModel", "openAt", "([II)I"⟩ ∈ lw_t2 := t2_in (List.mem_of_getElem? (i := 55) (by decide +kernel)) rfl
theorem k_56 : Cond.selects "OpenPotsModel" ⟨"OpenPotsModel", "sizeOf", "(I)I"⟩ ⟨"OpenPotsModel", "sizeOf", "(I)I"⟩ ∈ lw_t2 := t2_in (List.mem_of_getElem? (i := 56) (by decide +kernel)) rfl
theorem k_57 : Cond.selects "OpenPotsModel" ⟨"OpenPotsModel", "longOf", "([I)I"⟩ ⟨"OpenPotsModel", "longOf", "([I)I"⟩ ∈ lw_t2 := t2_in (List.mem_of_getElem? (i := 57) (by decide +kernel)) rfl
theorem k_58 : Cond.selects "OpenPotsModel" ⟨"OpenPotsModel", "leastOf", "(I)I"⟩ ⟨"OpenPotsModel", "leastOf", "(I)I"⟩ ∈ lw_t2 := t2_in (List.mem_of_getElem? (i := 58) (by decide +kernel)) rfl
theorem k_59 : Cond.selects "OpenPotsModel" ⟨"OpenPotsModel", "layUnions", "()V"⟩ ⟨"OpenPotsModel", "layUnions", "()V"⟩ ∈ lw_t2 := t2_in (List.mem_of_getElem? (i := 59) (by decide +kernel)) rfl
theorem k_60 : Cond.selects "OpenPotsModel" ⟨"OpenPotsModel", "needsOf", "(I)I"⟩ ⟨"OpenPotsModel", "needsOf", "(I)I"⟩ ∈ lw_t2 := t2_in (List.mem_of_getElem? (i := 60) (by decide +kernel)) rfl
theorem k_61 : Cond.selects "OpenPotsModel" ⟨"OpenPotsModel", "leastBy", "(I)I"⟩ ⟨"OpenPotsModel", "leastBy", "(I)I"⟩ ∈ lw_t2 := t2_in (List.mem_of_getElem? (i := 61) (by decide +kernel)) rfl
theorem k_62 : Cond.selects "OpenPotsModel" ⟨"OpenPotsModel", "layMost", "(I)V"⟩ ⟨"OpenPotsModel", "layMost", "(I)V"⟩ ∈ lw_t2 := t2_in (List.mem_of_getElem? (i := 62) (by decide +kernel)) rfl
theorem k_63 : Cond.selects "OpenPotsModel" ⟨"OpenPotsModel", "mayCome", "(III)Z"⟩ ⟨"OpenPotsModel", "mayCome", "(III)Z"⟩ ∈ lw_t2 := t2_in (List.mem_of_getElem? (i := 63) (by decide +kernel)) rfl
theorem k_64 : Cond.selects "OpenPotsModel" ⟨"OpenPotsModel", "wideBy", "(III)I"⟩ ⟨"OpenPotsModel", "wideBy", "(III)I"⟩ ∈ lw_t2 := t2_in (List.mem_of_getElem? (i := 64) (by decide +kernel)) rfl
theorem k_65 : Cond.selects "OpenPotsModel" ⟨"OpenPotsModel", "layLong", "(I)V"⟩ ⟨"OpenPotsModel", "layLong", "(I)V"⟩ ∈ lw_t2 := t2_in (List.mem_of_getElem? (i := 65) (by decide +kernel)) rfl
theorem k_66 : Cond.selects "OpenPotsModel" ⟨"OpenPotsModel", "nextFrom", "(II)I"⟩ ⟨"OpenPotsModel", "nextFrom", "(II)I"⟩ ∈ lw_t2 := t2_in (List.mem_of_getElem? (i := 66) (by decide +kernel)) rfl
theorem k_67 : Cond.selects "OpenPotsModel" ⟨"OpenPotsModel", "isBetter", "([I[I)Z"⟩ ⟨"OpenPotsModel", "isBetter", "([I[I)Z"⟩ ∈ lw_t2 := t2_in (List.mem_of_getElem? (i := 67) (by decide +kernel)) rfl
theorem k_68 : Cond.selects "OpenPotsModel" ⟨"OpenPotsModel", "crossOf", "(I)I"⟩ ⟨"OpenPotsModel", "crossOf", "(I)I"⟩ ∈ lw_t2 := t2_in (List.mem_of_getElem? (i := 68) (by decide +kernel)) rfl
theorem k_69 : Cond.selects "OpenPotsModel" ⟨"OpenPotsModel", "isClosed", "(I)Z"⟩ ⟨"OpenPotsModel", "isClosed", "(I)Z"⟩ ∈ lw_t2 := t2_in (List.mem_of_getElem? (i := 69) (by decide +kernel)) rfl
theorem k_70 : Cond.selects "OpenPotsModel" ⟨"OpenPotsModel", "knotOf", "()I"⟩ ⟨"OpenPotsModel", "knotOf", "()I"⟩ ∈ lw_t2 := t2_in (List.mem_of_getElem? (i := 70) (by decide +kernel)) rfl
theorem k_71 : Cond.selects "OpenPotsModel" ⟨"OpenPotsModel", "isKnot", "(I)Z"⟩ ⟨"OpenPotsModel", "isKnot", "(I)Z"⟩ ∈ lw_t2 := t2_in (List.mem_of_getElem? (i := 71) (by decide +kernel)) rfl
theorem k_72 : Cond.selects "OpenPotsModel" ⟨"OpenPotsModel", "share", "(II)Z"⟩ ⟨"OpenPotsModel", "share", "(II)Z"⟩ ∈ lw_t2 := t2_in (List.mem_of_getElem? (i := 72) (by decide +kernel)) rfl
theorem k_73 : Cond.selects "OpenPotsModel" ⟨"OpenPotsModel", "layParts", "()V"⟩ ⟨"OpenPotsModel", "layParts", "()V"⟩ ∈ lw_t2 := t2_in (List.mem_of_getElem? (i := 73) (by decide +kernel)) rfl
theorem k_74 : Cond.selects "OpenPotsModel" ⟨"OpenPotsModel", "chosen", "(III)I"⟩ ⟨"OpenPotsModel", "chosen", "(III)I"⟩ ∈ lw_t2 := t2_in (List.mem_of_getElem? (i := 74) (by decide +kernel)) rfl
theorem k_75 : Cond.selects "OpenPotsModel" ⟨"OpenPotsModel", "dislikes", "(III)I"⟩ ⟨"OpenPotsModel", "dislikes", "(III)I"⟩ ∈ lw_t2 := t2_in (List.mem_of_getElem? (i := 75) (by decide +kernel)) rfl
theorem k_76 : Cond.selects "OpenPotsModel" ⟨"OpenPotsModel", "moveOnce", "()Z"⟩ ⟨"OpenPotsModel", "moveOnce", "()Z"⟩ ∈ lw_t2 := t2_in (List.mem_of_getElem? (i := 76) (by decide +kernel)) rfl
theorem k_77 : Cond.selects "OpenPotsModel" ⟨"OpenPotsModel", "layMoved", "(II)V"⟩ ⟨"OpenPotsModel", "layMoved", "(II)V"⟩ ∈ lw_t2 := t2_in (List.mem_of_getElem? (i := 77) (by decide +kernel)) rfl
theorem k_78 : Cond.selects "OpenPotsModel" ⟨"OpenPotsModel", "cheapestWith", "(I)I"⟩ ⟨"OpenPotsModel", "cheapestWith", "(I)I"⟩ ∈ lw_t2 := t2_in (List.mem_of_getElem? (i := 78) (by decide +kernel)) rfl
theorem k_79 : Cond.selects "OpenPotsModel" ⟨"OpenPotsModel", "betweenAt", "(I)I"⟩ ⟨"OpenPotsModel", "betweenAt", "(I)I"⟩ ∈ lw_t2 := t2_in (List.mem_of_getElem? (i := 79) (by decide +kernel)) rfl
theorem k_80 : Cond.selects "OpenPotsModel" ⟨"OpenPotsModel", "priceOf", "(I)I"⟩ ⟨"OpenPotsModel", "priceOf", "(I)I"⟩ ∈ lw_t2 := t2_in (List.mem_of_getElem? (i := 80) (by decide +kernel)) rfl
theorem k_81 : Cond.selects "OpenPotsModel" ⟨"OpenPotsModel", "lost", "(I)J"⟩ ⟨"OpenPotsModel", "lost", "(I)J"⟩ ∈ lw_t2 := t2_in (List.mem_of_getElem? (i := 81) (by decide +kernel)) rfl
theorem k_82 : Cond.selects "OpenPotsModel" ⟨"OpenPotsModel", "begins", "(I)V"⟩ ⟨"OpenPotsModel", "begins", "(I)V"⟩ ∈ lw_t2 := t2_in (List.mem_of_getElem? (i := 82) (by decide +kernel)) rfl
set_option maxRecDepth 100000 in
theorem k_84 : Cond.initialized "OpenPots" ∈ lw_t2 := t2_in (tb_1 (List.mem_of_getElem? (i := 1) rfl)) rfl
set_option maxRecDepth 100000 in
theorem k_85 : Cond.initialized "OpenPots$Sheets" ∈ lw_t2 := t2_in (tb_1 (List.mem_of_getElem? (i := 2) rfl)) rfl
set_option maxRecDepth 100000 in
theorem k_86 : Cond.initialized "OpenPots$Text" ∈ lw_t2 := t2_in (tb_1 (List.mem_of_getElem? (i := 3) rfl)) rfl
set_option maxRecDepth 100000 in
theorem k_87 : Cond.initialized "OpenPots$Works" ∈ lw_t2 := t2_in (tb_1 (List.mem_of_getElem? (i := 4) rfl)) rfl
set_option maxRecDepth 100000 in
theorem k_88 : Cond.initialized "OpenPots$Scale" ∈ lw_t2 := t2_in (tb_1 (List.mem_of_getElem? (i := 5) rfl)) rfl
set_option maxRecDepth 100000 in
theorem k_89 : Cond.initialized "java/lang/Integer" ∈ lw_t2 := t2_in (tb_1 (List.mem_of_getElem? (i := 6) rfl)) rfl
set_option maxRecDepth 100000 in
theorem k_90 : Cond.initialized "OpenPots$Orders" ∈ lw_t2 := t2_in (tb_1 (List.mem_of_getElem? (i := 7) rfl)) rfl
set_option maxRecDepth 100000 in
theorem k_91 : Cond.initialized "OpenPots$Gauge" ∈ lw_t2 := t2_in (tb_1 (List.mem_of_getElem? (i := 8) rfl)) rfl
set_option maxRecDepth 100000 in
theorem k_92 : Cond.initialized "OpenPots$Search" ∈ lw_t2 := t2_in (tb_1 (List.mem_of_getElem? (i := 9) rfl)) rfl
set_option maxRecDepth 100000 in
theorem k_93 : Cond.initialized "OpenPots$Bounds" ∈ lw_t2 := t2_in (tb_1 (List.mem_of_getElem? (i := 10) rfl)) rfl
set_option maxRecDepth 100000 in
theorem k_94 : Cond.initialized "OpenPots$Mover" ∈ lw_t2 := t2_in (tb_1 (List.mem_of_getElem? (i := 11) rfl)) rfl
set_option maxRecDepth 100000 in
theorem k_95 : Cond.initialized "OpenPots$Room" ∈ lw_t2 := t2_in (tb_1 (List.mem_of_getElem? (i := 12) rfl)) rfl
set_option maxRecDepth 100000 in
theorem k_96 : Cond.initialized "OpenPots$Tables" ∈ lw_t2 := t2_in (tb_1 (List.mem_of_getElem? (i := 13) rfl)) rfl
set_option maxRecDepth 100000 in
theorem k_97 : Cond.initialized "OpenPotsModel" ∈ lw_t2 := t2_in (tb_1 (List.mem_of_getElem? (i := 14) rfl)) rfl
set_option maxRecDepth 100000 in
theorem k_98 : Cond.initialized "java/lang/System" ∈ lw_t2 := t2_in (tb_1 (List.mem_of_getElem? (i := 15) rfl)) rfl
set_option maxRecDepth 100000 in
theorem k_99 : Cond.initialized "java/lang/Math" ∈ lw_t2 := t2_in (tb_1 (List.mem_of_getElem? (i := 16) rfl)) rfl
set_option maxRecDepth 100000 in
theorem k_116 : Cond.fieldLink "OpenPots$Sheets" 11 "OpenPots$Sheets" "cells" "[[I" ∈ lw_t2 := t2_in (tb_1 (List.mem_of_getElem? (i := 33) rfl)) rfl
set_option maxRecDepth 100000 in
theorem k_117 : Cond.fieldLink "OpenPots" 113 "OpenPots$Sheets" "cells" "[[I" ∈ lw_t2 := t2_in (tb_1 (List.mem_of_getElem? (i := 34) rfl)) rfl
set_option maxRecDepth 100000 in
theorem k_118 : Cond.fieldLink "OpenPots$Sheets" 16 "OpenPots$Sheets" "lanes" "[I" ∈ lw_t2 := t2_in (tb_1 (List.mem_of_getElem? (i := 35) rfl)) rfl
set_option maxRecDepth 100000 in
theorem k_119 : Cond.fieldLink "OpenPots" 324 "OpenPots$Sheets" "lanes" "[I" ∈ lw_t2 := t2_in (tb_1 (List.mem_of_getElem? (i := 36) rfl)) rfl
set_option maxRecDepth 100000 in
theorem k_120 : Cond.fieldLink "OpenPots$Sheets" 20 "OpenPots$Sheets" "lengths" "[I" ∈ lw_t2 := t2_in (tb_1 (List.mem_of_getElem? (i := 37) rfl)) rfl
set_option maxRecDepth 100000 in
theorem k_135 : Cond.fieldLink "OpenPots$Text" 9 "OpenPots$Text" "needs" "[I" ∈ lw_t2 := t2_in (tb_1 (List.mem_of_getElem? (i := 52) rfl)) rfl
set_option maxRecDepth 100000 in
theorem k_136 : Cond.fieldLink "OpenPots$Works" 35 "OpenPots$Text" "needs" "[I" ∈ lw_t2 := t2_in (tb_1 (List.mem_of_getElem? (i := 53) rfl)) rfl
set_option maxRecDepth 100000 in
theorem k_137 : Cond.fieldLink "OpenPots$Text" 15 "OpenPots$Text" "befores" "[I" ∈ lw_t2 := t2_in (tb_1 (List.mem_of_getElem? (i := 54) rfl)) rfl
set_option maxRecDepth 100000 in
theorem k_138 : Cond.fieldLink "OpenPots$Works" 36 "OpenPots$Text" "befores" "[I" ∈ lw_t2 := t2_in (tb_1 (List.mem_of_getElem? (i := 55) rfl)) rfl
set_option maxRecDepth 100000 in
theorem k_139 : Cond.fieldLink "OpenPots$Text" 18 "OpenPots$Text" "sizes" "[I" ∈ lw_t2 := t2_in (tb_1 (List.mem_of_getElem? (i := 56) rfl)) rfl
set_option maxRecDepth 100000 in
theorem k_140 : Cond.fieldLink "OpenPots$Works" 37 "OpenPots$Text" "sizes" "[I" ∈ lw_t2 := t2_in (tb_1 (List.mem_of_getElem? (i := 57) rfl)) rfl
set_option maxRecDepth 100000 in
theorem k_141 : Cond.fieldLink "OpenPots$Text" 28 "OpenPots$Text" "count" "I" ∈ lw_t2 := t2_in (tb_1 (List.mem_of_getElem? (i := 58) rfl)) rfl
set_option maxRecDepth 100000 in
theorem k_142 : Cond.fieldLink "OpenPots$Works" 32 "OpenPots$Text" "count" "I" ∈ lw_t2 := t2_in (tb_1 (List.mem_of_getElem? (i := 59) rfl)) rfl
set_option maxRecDepth 100000 in
theorem k_143 : Cond.fieldLink "OpenPots$Text" 32 "OpenPots$Text" "items" "I" ∈ lw_t2 := t2_in (tb_1 (List.mem_of_getElem? (i := 60) rfl)) rfl
set_option maxRecDepth 100000 in
theorem k_144 : Cond.fieldLink "OpenPots$Text" 35 "OpenPots$Text" "told" "I" ∈ lw_t2 := t2_in (tb_1 (List.mem_of_getElem? (i := 61) rfl)) rfl
set_option maxRecDepth 100000 in
theorem k_145 : Cond.fieldLink "OpenPots$Text" 60 "OpenPots$Text" "toldLast" "I" ∈ lw_t2 := t2_in (tb_1 (List.mem_of_getElem? (i := 62) rfl)) rfl
set_option maxRecDepth 100000 in
theorem k_174 : Cond.static ⟨"java/lang/Integer", "bitCount", "(I)I"⟩ ∈ lw_t2 := t2_in (tb_1 (List.mem_of_getElem? (i := 91) rfl)) rfl
set_option maxRecDepth 100000 in
theorem k_175 : Cond.code ⟨"java/lang/Integer", "bitCount", "(I)I"⟩ prog_15_method_49_code 1 (some .int) ∈ lw_t2 := t2_in (tb_1 (List.mem_of_getElem? (i := 92) rfl)) rfl
set_option maxRecDepth 100000 in
theorem k_176 : Cond.constant "java/lang/Integer" 265 1431655765 ∈ lw_t2 := t2_in (tb_1 (List.mem_of_getElem? (i := 93) rfl)) rfl
set_option maxRecDepth 100000 in
theorem k_177 : Cond.constant "java/lang/Integer" 266 858993459 ∈ lw_t2 := t2_in (tb_1 (List.mem_of_getElem? (i := 94) rfl)) rfl
set_option maxRecDepth 100000 in
theorem k_178 : Cond.constant "java/lang/Integer" 267 252645135 ∈ lw_t2 := t2_in (tb_1 (List.mem_of_getElem? (i := 95) rfl)) rfl
set_option maxRecDepth 100000 in
theorem k_179 : Cond.fieldLink "OpenPots$Scale" 9 "OpenPots$Scale" "low" "[I" ∈ lw_t2 := t2_in (tb_1 (List.mem_of_getElem? (i := 96) rfl)) rfl
set_option maxRecDepth 100000 in
theorem k_180 : Cond.fieldLink "OpenPots$Scale" 13 "OpenPots$Scale" "high" "[I" ∈ lw_t2 := t2_in (tb_1 (List.mem_of_getElem? (i := 97) rfl)) rfl
set_option maxRecDepth 100000 in
theorem k_186 : Cond.fieldLink "OpenPots$Works" 9 "OpenPots$Works" "needs" "[I" ∈ lw_t2 := t2_in (tb_1 (List.mem_of_getElem? (i := 103) rfl)) rfl
set_option maxRecDepth 100000 in
theorem k_187 : Cond.fieldLink "OpenPots$Gauge" 42 "OpenPots$Works" "needs" "[I" ∈ lw_t2 := t2_in (tb_1 (List.mem_of_getElem? (i := 104) rfl)) rfl
set_option maxRecDepth 100000 in
theorem k_188 : Cond.fieldLink "OpenPots$Room" 54 "OpenPots$Works" "needs" "[I" ∈ lw_t2 := t2_in (tb_1 (List.mem_of_getElem? (i := 105) rfl)) rfl
set_option maxRecDepth 100000 in
theorem k_189 : Cond.fieldLink "OpenPots" 140 "OpenPots$Works" "needs" "[I" ∈ lw_t2 := t2_in (tb_1 (List.mem_of_getElem? (i := 106) rfl)) rfl
set_option maxRecDepth 100000 in
theorem k_190 : Cond.fieldLink "OpenPots$Bounds" 86 "OpenPots$Works" "needs" "[I" ∈ lw_t2 := t2_in (tb_1 (List.mem_of_getElem? (i := 107) rfl)) rfl
set_option maxRecDepth 100000 in
theorem k_191 : Cond.fieldLink "OpenPots$Search" 65 "OpenPots$Works" "needs" "[I" ∈ lw_t2 := t2_in (tb_1 (List.mem_of_getElem? (i := 108) rfl)) rfl
set_option maxRecDepth 100000 in
theorem k_192 : Cond.fieldLink "OpenPots$Works" 15 "OpenPots$Works" "befores" "[I" ∈ lw_t2 := t2_in (tb_1 (List.mem_of_getElem? (i := 109) rfl)) rfl
set_option maxRecDepth 100000 in
theorem k_193 : Cond.fieldLink "OpenPots$Gauge" 39 "OpenPots$Works" "befores" "[I" ∈ lw_t2 := t2_in (tb_1 (List.mem_of_getElem? (i := 110) rfl)) rfl
set_option maxRecDepth 100000 in
theorem k_194 : Cond.fieldLink "OpenPots" 143 "OpenPots$Works" "befores" "[I" ∈ lw_t2 := t2_in (tb_1 (List.mem_of_getElem? (i := 111) rfl)) rfl
set_option maxRecDepth 100000 in
theorem k_195 : Cond.fieldLink "OpenPots$Search" 66 "OpenPots$Works" "befores" "[I" ∈ lw_t2 := t2_in (tb_1 (List.mem_of_getElem? (i := 112) rfl)) rfl
set_option maxRecDepth 100000 in
theorem k_196 : Cond.fieldLink "OpenPots$Works" 21 "OpenPots$Works" "sizes" "LOpenPots$Scale;" ∈ lw_t2 := t2_in (tb_1 (List.mem_of_getElem? (i := 113) rfl)) rfl
set_option maxRecDepth 100000 in
theorem k_197 : Cond.fieldLink "OpenPots$Gauge" 45 "OpenPots$Works" "sizes" "LOpenPots$Scale;" ∈ lw_t2 := t2_in (tb_1 (List.mem_of_getElem? (i := 114) rfl)) rfl
set_option maxRecDepth 100000 in
theorem k_198 : Cond.fieldLink "OpenPots$Room" 61 "OpenPots$Works" "sizes" "LOpenPots$Scale;" ∈ lw_t2 := t2_in (tb_1 (List.mem_of_getElem? (i := 115) rfl)) rfl
set_option maxRecDepth 100000 in
theorem k_199 : Cond.fieldLink "OpenPots$Bounds" 62 "OpenPots$Works" "sizes" "LOpenPots$Scale;" ∈ lw_t2 := t2_in (tb_1 (List.mem_of_getElem? (i := 116) rfl)) rfl
set_option maxRecDepth 100000 in
theorem k_200 : Cond.fieldLink "OpenPots" 215 "OpenPots$Works" "sizes" "LOpenPots$Scale;" ∈ lw_t2 := t2_in (tb_1 (List.mem_of_getElem? (i := 117) rfl)) rfl
set_option maxRecDepth 100000 in
theorem k_201 : Cond.fieldLink "OpenPots$Search" 76 "OpenPots$Works" "sizes" "LOpenPots$Scale;" ∈ lw_t2 := t2_in (tb_1 (List.mem_of_getElem? (i := 118) rfl)) rfl
set_option maxRecDepth 100000 in
theorem k_203 : Cond.fieldLink "OpenPots$Room" 85 "OpenPots$Works" "prices" "LOpenPots$Scale;" ∈ lw_t2 := t2_in (tb_1 (List.mem_of_getElem? (i := 120) rfl)) rfl
set_option maxRecDepth 100000 in
theorem k_204 : Cond.fieldLink "OpenPots" 160 "OpenPots$Works" "prices" "LOpenPots$Scale;" ∈ lw_t2 := t2_in (tb_1 (List.mem_of_getElem? (i := 121) rfl)) rfl
set_option maxRecDepth 100000 in
theorem k_205 : Cond.fieldLink "OpenPots$Works" 28 "OpenPots$Works" "count" "I" ∈ lw_t2 := t2_in (tb_1 (List.mem_of_getElem? (i := 122) rfl)) rfl
set_option maxRecDepth 100000 in
theorem k_206 : Cond.fieldLink "OpenPots$Gauge" 34 "OpenPots$Works" "count" "I" ∈ lw_t2 := t2_in (tb_1 (List.mem_of_getElem? (i := 123) rfl)) rfl
set_option maxRecDepth 100000 in
theorem k_207 : Cond.fieldLink "OpenPots" 128 "OpenPots$Works" "count" "I" ∈ lw_t2 := t2_in (tb_1 (List.mem_of_getElem? (i := 124) rfl)) rfl
set_option maxRecDepth 100000 in
theorem k_208 : Cond.fieldLink "OpenPots$Mover" 52 "OpenPots$Works" "count" "I" ∈ lw_t2 := t2_in (tb_1 (List.mem_of_getElem? (i := 125) rfl)) rfl
set_option maxRecDepth 100000 in
theorem k_209 : Cond.fieldLink "OpenPots$Bounds" 35 "OpenPots$Works" "count" "I" ∈ lw_t2 := t2_in (tb_1 (List.mem_of_getElem? (i := 126) rfl)) rfl
set_option maxRecDepth 100000 in
theorem k_210 : Cond.fieldLink "OpenPots$Room" 48 "OpenPots$Works" "count" "I" ∈ lw_t2 := t2_in (tb_1 (List.mem_of_getElem? (i := 127) rfl)) rfl
set_option maxRecDepth 100000 in
theorem k_211 : Cond.fieldLink "OpenPots$Search" 64 "OpenPots$Works" "count" "I" ∈ lw_t2 := t2_in (tb_1 (List.mem_of_getElem? (i := 128) rfl)) rfl
set_option maxRecDepth 100000 in
theorem k_212 : Cond.fieldLink "OpenPots$Search" 35 "OpenPots$Works" "version" "I" ∈ lw_t2 := t2_in (tb_1 (List.mem_of_getElem? (i := 129) rfl)) rfl
set_option maxRecDepth 100000 in
theorem k_213 : Cond.fieldLink "OpenPots$Bounds" 26 "OpenPots$Works" "version" "I" ∈ lw_t2 := t2_in (tb_1 (List.mem_of_getElem? (i := 130) rfl)) rfl
set_option maxRecDepth 100000 in
theorem k_214 : Cond.fieldLink "OpenPots$Tables" 23 "OpenPots$Works" "version" "I" ∈ lw_t2 := t2_in (tb_1 (List.mem_of_getElem? (i := 131) rfl)) rfl
set_option maxRecDepth 100000 in
theorem k_215 : Cond.fieldLink "OpenPots$Works" 43 "OpenPots$Works" "version" "I" ∈ lw_t2 := t2_in (tb_1 (List.mem_of_getElem? (i := 132) rfl)) rfl
set_option maxRecDepth 100000 in
theorem k_236 : Cond.fieldLink "OpenPots$Orders" 11 "OpenPots$Orders" "rows" "[[I" ∈ lw_t2 := t2_in (tb_1 (List.mem_of_getElem? (i := 153) rfl)) rfl
set_option maxRecDepth 100000 in
theorem k_237 : Cond.fieldLink "OpenPots" 197 "OpenPots$Orders" "rows" "[[I" ∈ lw_t2 := t2_in (tb_1 (List.mem_of_getElem? (i := 154) rfl)) rfl
set_option maxRecDepth 100000 in
theorem k_238 : Cond.fieldLink "OpenPots$Orders" 16 "OpenPots$Orders" "kinds" "[I" ∈ lw_t2 := t2_in (tb_1 (List.mem_of_getElem? (i := 155) rfl)) rfl
set_option maxRecDepth 100000 in
theorem k_239 : Cond.fieldLink "OpenPots" 200 "OpenPots$Orders" "kinds" "[I" ∈ lw_t2 := t2_in (tb_1 (List.mem_of_getElem? (i := 156) rfl)) rfl
set_option maxRecDepth 100000 in
theorem k_240 : Cond.fieldLink "OpenPots$Orders" 20 "OpenPots$Orders" "count" "I" ∈ lw_t2 := t2_in (tb_1 (List.mem_of_getElem? (i := 157) rfl)) rfl
set_option maxRecDepth 100000 in
theorem k_241 : Cond.fieldLink "OpenPots" 125 "OpenPots$Orders" "count" "I" ∈ lw_t2 := t2_in (tb_1 (List.mem_of_getElem? (i := 158) rfl)) rfl
set_option maxRecDepth 100000 in
theorem k_255 : Cond.fieldLink "OpenPots$Gauge" 9 "OpenPots$Gauge" "open" "[I" ∈ lw_t2 := t2_in (tb_1 (List.mem_of_getElem? (i := 172) rfl)) rfl
set_option maxRecDepth 100000 in
theorem k_256 : Cond.fieldLink "OpenPots$Room" 51 "OpenPots$Gauge" "open" "[I" ∈ lw_t2 := t2_in (tb_1 (List.mem_of_getElem? (i := 173) rfl)) rfl
set_option maxRecDepth 100000 in
theorem k_257 : Cond.fieldLink "OpenPots" 212 "OpenPots$Gauge" "open" "[I" ∈ lw_t2 := t2_in (tb_1 (List.mem_of_getElem? (i := 174) rfl)) rfl
set_option maxRecDepth 100000 in
theorem k_258 : Cond.fieldLink "OpenPots$Gauge" 23 "OpenPots$Gauge" "most" "I" ∈ lw_t2 := t2_in (tb_1 (List.mem_of_getElem? (i := 175) rfl)) rfl
set_option maxRecDepth 100000 in
theorem k_259 : Cond.fieldLink "OpenPots$Room" 32 "OpenPots$Gauge" "most" "I" ∈ lw_t2 := t2_in (tb_1 (List.mem_of_getElem? (i := 176) rfl)) rfl
set_option maxRecDepth 100000 in
theorem k_260 : Cond.fieldLink "OpenPots$Mover" 38 "OpenPots$Gauge" "most" "I" ∈ lw_t2 := t2_in (tb_1 (List.mem_of_getElem? (i := 177) rfl)) rfl
set_option maxRecDepth 100000 in
theorem k_261 : Cond.fieldLink "OpenPots" 203 "OpenPots$Gauge" "most" "I" ∈ lw_t2 := t2_in (tb_1 (List.mem_of_getElem? (i := 178) rfl)) rfl
set_option maxRecDepth 100000 in
theorem k_262 : Cond.fieldLink "OpenPots$Gauge" 27 "OpenPots$Gauge" "total" "I" ∈ lw_t2 := t2_in (tb_1 (List.mem_of_getElem? (i := 179) rfl)) rfl
set_option maxRecDepth 100000 in
theorem k_263 : Cond.fieldLink "OpenPots$Mover" 43 "OpenPots$Gauge" "total" "I" ∈ lw_t2 := t2_in (tb_1 (List.mem_of_getElem? (i := 180) rfl)) rfl
set_option maxRecDepth 100000 in
theorem k_264 : Cond.fieldLink "OpenPots" 206 "OpenPots$Gauge" "total" "I" ∈ lw_t2 := t2_in (tb_1 (List.mem_of_getElem? (i := 181) rfl)) rfl
set_option maxRecDepth 100000 in
theorem k_265 : Cond.fieldLink "OpenPots$Gauge" 30 "OpenPots$Gauge" "lawful" "Z" ∈ lw_t2 := t2_in (tb_1 (List.mem_of_getElem? (i := 182) rfl)) rfl
set_option maxRecDepth 100000 in
theorem k_266 : Cond.fieldLink "OpenPots$Mover" 61 "OpenPots$Gauge" "lawful" "Z" ∈ lw_t2 := t2_in (tb_1 (List.mem_of_getElem? (i := 183) rfl)) rfl
set_option maxRecDepth 100000 in
theorem k_267 : Cond.fieldLink "OpenPots" 188 "OpenPots$Gauge" "lawful" "Z" ∈ lw_t2 := t2_in (tb_1 (List.mem_of_getElem? (i := 184) rfl)) rfl
set_option maxRecDepth 100000 in
theorem k_268 : Cond.fieldLink "OpenPots$Gauge" 15 "OpenPots$Gauge" "works" "LOpenPots$Works;" ∈ lw_t2 := t2_in (tb_1 (List.mem_of_getElem? (i := 185) rfl)) rfl
set_option maxRecDepth 100000 in
theorem k_286 : Cond.fieldLink "OpenPots$Search" 31 "OpenPots$Search" "works" "LOpenPots$Works;" ∈ lw_t2 := t2_in (tb_1 (List.mem_of_getElem? (i := 203) rfl)) rfl
set_option maxRecDepth 100000 in
theorem k_287 : Cond.fieldLink "OpenPots$Search" 9 "OpenPots$Search" "needs" "[I" ∈ lw_t2 := t2_in (tb_1 (List.mem_of_getElem? (i := 204) rfl)) rfl
set_option maxRecDepth 100000 in
theorem k_288 : Cond.fieldLink "OpenPots$Search" 15 "OpenPots$Search" "befores" "[I" ∈ lw_t2 := t2_in (tb_1 (List.mem_of_getElem? (i := 205) rfl)) rfl
set_option maxRecDepth 100000 in
theorem k_289 : Cond.fieldLink "OpenPots$Search" 18 "OpenPots$Search" "needed" "[I" ∈ lw_t2 := t2_in (tb_1 (List.mem_of_getElem? (i := 206) rfl)) rfl
set_option maxRecDepth 100000 in
theorem k_290 : Cond.fieldLink "OpenPots$Search" 21 "OpenPots$Search" "least" "[I" ∈ lw_t2 := t2_in (tb_1 (List.mem_of_getElem? (i := 207) rfl)) rfl
set_option maxRecDepth 100000 in
theorem k_291 : Cond.fieldLink "OpenPots$Search" 24 "OpenPots$Search" "longs" "[I" ∈ lw_t2 := t2_in (tb_1 (List.mem_of_getElem? (i := 208) rfl)) rfl
set_option maxRecDepth 100000 in
theorem k_292 : Cond.fieldLink "OpenPots$Search" 61 "OpenPots$Search" "count" "I" ∈ lw_t2 := t2_in (tb_1 (List.mem_of_getElem? (i := 209) rfl)) rfl
set_option maxRecDepth 100000 in
theorem k_293 : Cond.fieldLink "OpenPots$Search" 70 "OpenPots$Search" "full" "I" ∈ lw_t2 := t2_in (tb_1 (List.mem_of_getElem? (i := 210) rfl)) rfl
set_option maxRecDepth 100000 in
theorem k_294 : Cond.fieldLink "OpenPots$Search" 73 "OpenPots$Search" "longsCap" "I" ∈ lw_t2 := t2_in (tb_1 (List.mem_of_getElem? (i := 211) rfl)) rfl
set_option maxRecDepth 100000 in
theorem k_295 : Cond.fieldLink "OpenPots$Search" 27 "OpenPots$Search" "version" "I" ∈ lw_t2 := t2_in (tb_1 (List.mem_of_getElem? (i := 212) rfl)) rfl
set_option maxRecDepth 100000 in
theorem k_323 : Cond.fieldLink "OpenPots$Bounds" 9 "OpenPots$Bounds" "crossings" "[I" ∈ lw_t2 := t2_in (tb_2 (List.mem_of_getElem? (i := 0) rfl)) rfl
set_option maxRecDepth 100000 in
theorem k_324 : Cond.fieldLink "OpenPots" 247 "OpenPots$Bounds" "crossings" "[I" ∈ lw_t2 := t2_in (tb_2 (List.mem_of_getElem? (i := 1) rfl)) rfl
set_option maxRecDepth 100000 in
theorem k_325 : Cond.fieldLink "OpenPots$Bounds" 77 "OpenPots$Bounds" "knotted" "I" ∈ lw_t2 := t2_in (tb_2 (List.mem_of_getElem? (i := 2) rfl)) rfl
set_option maxRecDepth 100000 in
theorem k_326 : Cond.fieldLink "OpenPots" 250 "OpenPots$Bounds" "knotted" "I" ∈ lw_t2 := t2_in (tb_2 (List.mem_of_getElem? (i := 3) rfl)) rfl
set_option maxRecDepth 100000 in
theorem k_327 : Cond.fieldLink "OpenPots$Bounds" 80 "OpenPots$Bounds" "knottedSize" "I" ∈ lw_t2 := t2_in (tb_2 (List.mem_of_getElem? (i := 4) rfl)) rfl
set_option maxRecDepth 100000 in
theorem k_328 : Cond.fieldLink "OpenPots" 253 "OpenPots$Bounds" "knottedSize" "I" ∈ lw_t2 := t2_in (tb_2 (List.mem_of_getElem? (i := 5) rfl)) rfl
set_option maxRecDepth 100000 in
theorem k_329 : Cond.fieldLink "OpenPots$Bounds" 22 "OpenPots$Bounds" "works" "LOpenPots$Works;" ∈ lw_t2 := t2_in (tb_2 (List.mem_of_getElem? (i := 6) rfl)) rfl
set_option maxRecDepth 100000 in
theorem k_330 : Cond.fieldLink "OpenPots$Bounds" 15 "OpenPots$Bounds" "joined" "[I" ∈ lw_t2 := t2_in (tb_2 (List.mem_of_getElem? (i := 7) rfl)) rfl
set_option maxRecDepth 100000 in
theorem k_331 : Cond.fieldLink "OpenPots$Bounds" 18 "OpenPots$Bounds" "version" "I" ∈ lw_t2 := t2_in (tb_2 (List.mem_of_getElem? (i := 8) rfl)) rfl
set_option maxRecDepth 100000 in
theorem k_351 : Cond.fieldLink "OpenPots$Mover" 9 "OpenPots$Mover" "row" "[I" ∈ lw_t2 := t2_in (tb_2 (List.mem_of_getElem? (i := 28) rfl)) rfl
set_option maxRecDepth 100000 in
theorem k_352 : Cond.fieldLink "OpenPots" 287 "OpenPots$Mover" "row" "[I" ∈ lw_t2 := t2_in (tb_2 (List.mem_of_getElem? (i := 29) rfl)) rfl
set_option maxRecDepth 100000 in
theorem k_353 : Cond.fieldLink "OpenPots$Mover" 15 "OpenPots$Mover" "tried" "[I" ∈ lw_t2 := t2_in (tb_2 (List.mem_of_getElem? (i := 30) rfl)) rfl
set_option maxRecDepth 100000 in
theorem k_354 : Cond.fieldLink "OpenPots$Mover" 18 "OpenPots$Mover" "works" "LOpenPots$Works;" ∈ lw_t2 := t2_in (tb_2 (List.mem_of_getElem? (i := 31) rfl)) rfl
set_option maxRecDepth 100000 in
theorem k_355 : Cond.fieldLink "OpenPots$Mover" 22 "OpenPots$Mover" "gauge" "LOpenPots$Gauge;" ∈ lw_t2 := t2_in (tb_2 (List.mem_of_getElem? (i := 32) rfl)) rfl
set_option maxRecDepth 100000 in
theorem k_356 : Cond.fieldLink "OpenPots$Mover" 42 "OpenPots$Mover" "most" "I" ∈ lw_t2 := t2_in (tb_2 (List.mem_of_getElem? (i := 33) rfl)) rfl
set_option maxRecDepth 100000 in
theorem k_357 : Cond.fieldLink "OpenPots$Mover" 46 "OpenPots$Mover" "total" "I" ∈ lw_t2 := t2_in (tb_2 (List.mem_of_getElem? (i := 34) rfl)) rfl
set_option maxRecDepth 100000 in
theorem k_377 : Cond.fieldLink "OpenPots$Room" 18 "OpenPots$Room" "works" "LOpenPots$Works;" ∈ lw_t2 := t2_in (tb_2 (List.mem_of_getElem? (i := 54) rfl)) rfl
set_option maxRecDepth 100000 in
theorem k_378 : Cond.fieldLink "OpenPots$Room" 22 "OpenPots$Room" "gauge" "LOpenPots$Gauge;" ∈ lw_t2 := t2_in (tb_2 (List.mem_of_getElem? (i := 55) rfl)) rfl
set_option maxRecDepth 100000 in
theorem k_379 : Cond.fieldLink "OpenPots$Room" 9 "OpenPots$Room" "cost" "[I" ∈ lw_t2 := t2_in (tb_2 (List.mem_of_getElem? (i := 56) rfl)) rfl
set_option maxRecDepth 100000 in
theorem k_380 : Cond.fieldLink "OpenPots$Room" 15 "OpenPots$Room" "next" "[I" ∈ lw_t2 := t2_in (tb_2 (List.mem_of_getElem? (i := 57) rfl)) rfl
set_option maxRecDepth 100000 in
theorem k_396 : Cond.fieldLink "OpenPots$Tables" 48 "OpenPots$Tables" "first" "I" ∈ lw_t2 := t2_in (tb_2 (List.mem_of_getElem? (i := 73) rfl)) rfl
set_option maxRecDepth 100000 in
theorem k_397 : Cond.fieldLink "OpenPots" 304 "OpenPots$Tables" "first" "I" ∈ lw_t2 := t2_in (tb_2 (List.mem_of_getElem? (i := 74) rfl)) rfl
set_option maxRecDepth 100000 in
theorem k_398 : Cond.fieldLink "OpenPots$Tables" 51 "OpenPots$Tables" "firstMost" "I" ∈ lw_t2 := t2_in (tb_2 (List.mem_of_getElem? (i := 75) rfl)) rfl
set_option maxRecDepth 100000 in
theorem k_399 : Cond.fieldLink "OpenPots" 298 "OpenPots$Tables" "firstMost" "I" ∈ lw_t2 := t2_in (tb_2 (List.mem_of_getElem? (i := 76) rfl)) rfl
set_option maxRecDepth 100000 in
theorem k_400 : Cond.fieldLink "OpenPots$Tables" 54 "OpenPots$Tables" "secondMost" "I" ∈ lw_t2 := t2_in (tb_2 (List.mem_of_getElem? (i := 77) rfl)) rfl
set_option maxRecDepth 100000 in
theorem k_401 : Cond.fieldLink "OpenPots" 301 "OpenPots$Tables" "secondMost" "I" ∈ lw_t2 := t2_in (tb_2 (List.mem_of_getElem? (i := 78) rfl)) rfl
set_option maxRecDepth 100000 in
theorem k_402 : Cond.fieldLink "OpenPots$Tables" 15 "OpenPots$Tables" "works" "LOpenPots$Works;" ∈ lw_t2 := t2_in (tb_2 (List.mem_of_getElem? (i := 79) rfl)) rfl
set_option maxRecDepth 100000 in
theorem k_403 : Cond.fieldLink "OpenPots$Tables" 19 "OpenPots$Tables" "search" "LOpenPots$Search;" ∈ lw_t2 := t2_in (tb_2 (List.mem_of_getElem? (i := 80) rfl)) rfl
set_option maxRecDepth 100000 in
theorem k_404 : Cond.fieldLink "OpenPots$Tables" 9 "OpenPots$Tables" "version" "I" ∈ lw_t2 := t2_in (tb_2 (List.mem_of_getElem? (i := 81) rfl)) rfl
set_option maxRecDepth 100000 in
theorem k_418 : Cond.fieldLink "OpenPots" 14 "OpenPots" "sheets" "LOpenPots$Sheets;" ∈ lw_t2 := t2_in (tb_2 (List.mem_of_getElem? (i := 95) rfl)) rfl
set_option maxRecDepth 100000 in
theorem k_419 : Cond.fieldLink "OpenPots" 21 "OpenPots" "text" "LOpenPots$Text;" ∈ lw_t2 := t2_in (tb_2 (List.mem_of_getElem? (i := 96) rfl)) rfl
set_option maxRecDepth 100000 in
theorem k_420 : Cond.fieldLink "OpenPots" 28 "OpenPots" "works" "LOpenPots$Works;" ∈ lw_t2 := t2_in (tb_2 (List.mem_of_getElem? (i := 97) rfl)) rfl
set_option maxRecDepth 100000 in
theorem k_421 : Cond.fieldLink "OpenPots" 35 "OpenPots" "orders" "LOpenPots$Orders;" ∈ lw_t2 := t2_in (tb_2 (List.mem_of_getElem? (i := 98) rfl)) rfl
set_option maxRecDepth 100000 in
theorem k_422 : Cond.fieldLink "OpenPots" 44 "OpenPots" "gauge" "LOpenPots$Gauge;" ∈ lw_t2 := t2_in (tb_2 (List.mem_of_getElem? (i := 99) rfl)) rfl
set_option maxRecDepth 100000 in
theorem k_423 : Cond.fieldLink "OpenPots" 51 "OpenPots" "whole" "LOpenPots$Search;" ∈ lw_t2 := t2_in (tb_2 (List.mem_of_getElem? (i := 100) rfl)) rfl
set_option maxRecDepth 100000 in
theorem k_424 : Cond.fieldLink "OpenPots" 55 "OpenPots" "aside" "LOpenPots$Search;" ∈ lw_t2 := t2_in (tb_2 (List.mem_of_getElem? (i := 101) rfl)) rfl
set_option maxRecDepth 100000 in
theorem k_425 : Cond.fieldLink "OpenPots" 61 "OpenPots" "bounds" "LOpenPots$Bounds;" ∈ lw_t2 := t2_in (tb_2 (List.mem_of_getElem? (i := 102) rfl)) rfl
set_option maxRecDepth 100000 in
theorem k_426 : Cond.fieldLink "OpenPots" 70 "OpenPots" "mover" "LOpenPots$Mover;" ∈ lw_t2 := t2_in (tb_2 (List.mem_of_getElem? (i := 103) rfl)) rfl
set_option maxRecDepth 100000 in
theorem k_427 : Cond.fieldLink "OpenPots" 77 "OpenPots" "rooms" "LOpenPots$Room;" ∈ lw_t2 := t2_in (tb_2 (List.mem_of_getElem? (i := 104) rfl)) rfl
set_option maxRecDepth 100000 in
theorem k_428 : Cond.fieldLink "OpenPots" 86 "OpenPots" "tables" "LOpenPots$Tables;" ∈ lw_t2 := t2_in (tb_2 (List.mem_of_getElem? (i := 105) rfl)) rfl
set_option maxRecDepth 100000 in
theorem k_429 : Cond.fieldLink "OpenPots" 90 "OpenPots" "spare" "[I" ∈ lw_t2 := t2_in (tb_2 (List.mem_of_getElem? (i := 106) rfl)) rfl
set_option maxRecDepth 100000 in
theorem k_430 : Cond.fieldLink "OpenPots" 348 "OpenPots" "traced" "I" ∈ lw_t2 := t2_in (tb_2 (List.mem_of_getElem? (i := 107) rfl)) rfl
set_option maxRecDepth 100000 in
theorem k_431 : Cond.fieldLink "OpenPots" 94 "OpenPots" "latestFault" "I" ∈ lw_t2 := t2_in (tb_2 (List.mem_of_getElem? (i := 108) rfl)) rfl
set_option maxRecDepth 100000 in
theorem k_461 : Cond.methodLink "OpenPotsLaw" 13 ⟨"OpenPots", "shop", "(IIII)I"⟩ ∈ lw_t2 := t2_in (tb_2 (List.mem_of_getElem? (i := 138) rfl)) rfl
set_option maxRecDepth 100000 in
theorem k_462 : Cond.instanceMethod ⟨"OpenPots", "shop", "(IIII)I"⟩ ∈ lw_t2 := t2_in (tb_2 (List.mem_of_getElem? (i := 139) rfl)) rfl
set_option maxRecDepth 100000 in
theorem k_463 : Cond.selects "OpenPots" ⟨"OpenPots", "shop", "(IIII)I"⟩ ⟨"OpenPots", "shop", "(IIII)I"⟩ ∈ lw_t2 := t2_in (tb_2 (List.mem_of_getElem? (i := 140) rfl)) rfl
set_option maxRecDepth 100000 in
theorem k_464 : Cond.code ⟨"OpenPots", "shop", "(IIII)I"⟩ prog_1_method_2_code 7 (some .int) ∈ lw_t2 := t2_in (tb_2 (List.mem_of_getElem? (i := 141) rfl)) rfl
set_option maxRecDepth 100000 in
theorem k_465 : Cond.methodLink "OpenPots" 98 ⟨"OpenPots", "isSheet", "(I)Z"⟩ ∈ lw_t2 := t2_in (tb_2 (List.mem_of_getElem? (i := 142) rfl)) rfl
set_option maxRecDepth 100000 in
theorem k_466 : Cond.static ⟨"OpenPots", "isSheet", "(I)Z"⟩ ∈ lw_t2 := t2_in (tb_2 (List.mem_of_getElem? (i := 143) rfl)) rfl
set_option maxRecDepth 100000 in
theorem k_467 : Cond.code ⟨"OpenPots", "isSheet", "(I)Z"⟩ prog_1_method_45_code 1 (some .boolean) ∈ lw_t2 := t2_in (tb_2 (List.mem_of_getElem? (i := 144) rfl)) rfl
set_option maxRecDepth 100000 in
theorem k_468 : Cond.methodLink "OpenPots" 102 ⟨"OpenPots", "isLane", "(I)Z"⟩ ∈ lw_t2 := t2_in (tb_2 (List.mem_of_getElem? (i := 145) rfl)) rfl
set_option maxRecDepth 100000 in
theorem k_469 : Cond.static ⟨"OpenPots", "isLane", "(I)Z"⟩ ∈ lw_t2 := t2_in (tb_2 (List.mem_of_getElem? (i := 146) rfl)) rfl
set_option maxRecDepth 100000 in
theorem k_470 : Cond.code ⟨"OpenPots", "isLane", "(I)Z"⟩ prog_1_method_46_code 1 (some .boolean) ∈ lw_t2 := t2_in (tb_2 (List.mem_of_getElem? (i := 147) rfl)) rfl
set_option maxRecDepth 100000 in
theorem k_471 : Cond.methodLink "OpenPots" 105 ⟨"OpenPots$Sheets", "cellsFault", "(IIII)I"⟩ ∈ lw_t2 := t2_in (tb_2 (List.mem_of_getElem? (i := 148) rfl)) rfl
set_option maxRecDepth 100000 in
theorem k_472 : Cond.instanceMethod ⟨"OpenPots$Sheets", "cellsFault", "(IIII)I"⟩ ∈ lw_t2 := t2_in (tb_2 (List.mem_of_getElem? (i := 149) rfl)) rfl
set_option maxRecDepth 100000 in
theorem k_473 : Cond.selects "OpenPots$Sheets" ⟨"OpenPots$Sheets", "cellsFault", "(IIII)I"⟩ ⟨"OpenPots$Sheets", "cellsFault", "(IIII)I"⟩ ∈ lw_t2 := t2_in (tb_2 (List.mem_of_getElem? (i := 150) rfl)) rfl
set_option maxRecDepth 100000 in
theorem k_474 : Cond.code ⟨"OpenPots$Sheets", "cellsFault", "(IIII)I"⟩ prog_9_method_6_code 6 (some .int) ∈ lw_t2 := t2_in (tb_2 (List.mem_of_getElem? (i := 151) rfl)) rfl
set_option maxRecDepth 100000 in
theorem k_475 : Cond.methodLink "OpenPots$Sheets" 23 ⟨"OpenPots$Sheets", "rowFault", "(II)I"⟩ ∈ lw_t2 := t2_in (tb_2 (List.mem_of_getElem? (i := 152) rfl)) rfl
set_option maxRecDepth 100000 in
theorem k_477 : Cond.instanceMethod ⟨"OpenPots$Sheets", "rowFault", "(II)I"⟩ ∈ lw_t2 := t2_in (tb_2 (List.mem_of_getElem? (i := 154) rfl)) rfl
set_option maxRecDepth 100000 in
theorem k_478 : Cond.code ⟨"OpenPots$Sheets", "rowFault", "(II)I"⟩ prog_9_method_7_code 3 (some .int) ∈ lw_t2 := t2_in (tb_2 (List.mem_of_getElem? (i := 155) rfl)) rfl
set_option maxRecDepth 100000 in
theorem k_479 : Cond.methodLink "OpenPots" 109 ⟨"OpenPots", "faulted", "(I)I"⟩ ∈ lw_t2 := t2_in (tb_2 (List.mem_of_getElem? (i := 156) rfl)) rfl
set_option maxRecDepth 100000 in
theorem k_481 : Cond.instanceMethod ⟨"OpenPots", "faulted", "(I)I"⟩ ∈ lw_t2 := t2_in (tb_2 (List.mem_of_getElem? (i := 158) rfl)) rfl
set_option maxRecDepth 100000 in
theorem k_482 : Cond.code ⟨"OpenPots", "faulted", "(I)I"⟩ prog_1_method_44_code 2 (some .int) ∈ lw_t2 := t2_in (tb_2 (List.mem_of_getElem? (i := 159) rfl)) rfl
set_option maxRecDepth 100000 in
theorem k_483 : Cond.methodLink "OpenPots" 117 ⟨"OpenPots$Text", "firstFault", "([III)I"⟩ ∈ lw_t2 := t2_in (tb_2 (List.mem_of_getElem? (i := 160) rfl)) rfl
set_option maxRecDepth 100000 in
theorem k_484 : Cond.instanceMethod ⟨"OpenPots$Text", "firstFault", "([III)I"⟩ ∈ lw_t2 := t2_in (tb_2 (List.mem_of_getElem? (i := 161) rfl)) rfl
set_option maxRecDepth 100000 in
theorem k_485 : Cond.selects "OpenPots$Text" ⟨"OpenPots$Text", "firstFault", "([III)I"⟩ ⟨"OpenPots$Text", "firstFault", "([III)I"⟩ ∈ lw_t2 := t2_in (tb_2 (List.mem_of_getElem? (i := 162) rfl)) rfl
set_option maxRecDepth 100000 in
theorem k_486 : Cond.code ⟨"OpenPots$Text", "firstFault", "([III)I"⟩ prog_11_method_2_code 6 (some .int) ∈ lw_t2 := t2_in (tb_2 (List.mem_of_getElem? (i := 163) rfl)) rfl
set_option maxRecDepth 100000 in
theorem k_487 : Cond.methodLink "OpenPots$Text" 21 ⟨"OpenPots$Text", "forget", "()V"⟩ ∈ lw_t2 := t2_in (tb_2 (List.mem_of_getElem? (i := 164) rfl)) rfl
set_option maxRecDepth 100000 in
theorem k_489 : Cond.instanceMethod ⟨"OpenPots$Text", "forget", "()V"⟩ ∈ lw_t2 := t2_in (tb_2 (List.mem_of_getElem? (i := 166) rfl)) rfl
set_option maxRecDepth 100000 in
theorem k_490 : Cond.code ⟨"OpenPots$Text", "forget", "()V"⟩ prog_11_method_3_code 2 none ∈ lw_t2 := t2_in (tb_2 (List.mem_of_getElem? (i := 167) rfl)) rfl
set_option maxRecDepth 100000 in
theorem k_491 : Cond.methodLink "OpenPots$Text" 24 ⟨"OpenPots$Text", "step", "(II)I"⟩ ∈ lw_t2 := t2_in (tb_2 (List.mem_of_getElem? (i := 168) rfl)) rfl
set_option maxRecDepth 100000 in
theorem k_493 : Cond.instanceMethod ⟨"OpenPots$Text", "step", "(II)I"⟩ ∈ lw_t2 := t2_in (tb_2 (List.mem_of_getElem? (i := 170) rfl)) rfl
set_option maxRecDepth 100000 in
theorem k_494 : Cond.code ⟨"OpenPots$Text", "step", "(II)I"⟩ prog_11_method_4_code 3 (some .int) ∈ lw_t2 := t2_in (tb_2 (List.mem_of_getElem? (i := 171) rfl)) rfl
set_option maxRecDepth 100000 in
theorem k_495 : Cond.methodLink "OpenPots$Text" 38 ⟨"OpenPots$Text", "beginItem", "(I)I"⟩ ∈ lw_t2 := t2_in (tb_2 (List.mem_of_getElem? (i := 172) rfl)) rfl
set_option maxRecDepth 100000 in
theorem k_497 : Cond.instanceMethod ⟨"OpenPots$Text", "beginItem", "(I)I"⟩ ∈ lw_t2 := t2_in (tb_2 (List.mem_of_getElem? (i := 174) rfl)) rfl
set_option maxRecDepth 100000 in
theorem k_498 : Cond.code ⟨"OpenPots$Text", "beginItem", "(I)I"⟩ prog_11_method_5_code 2 (some .int) ∈ lw_t2 := t2_in (tb_2 (List.mem_of_getElem? (i := 175) rfl)) rfl
set_option maxRecDepth 100000 in
theorem k_499 : Cond.methodLink "OpenPots$Text" 42 ⟨"OpenPots$Text", "takeNeed", "(I)I"⟩ ∈ lw_t2 := t2_in (tb_2 (List.mem_of_getElem? (i := 176) rfl)) rfl
set_option maxRecDepth 100000 in
theorem k_501 : Cond.instanceMethod ⟨"OpenPots$Text", "takeNeed", "(I)I"⟩ ∈ lw_t2 := t2_in (tb_2 (List.mem_of_getElem? (i := 178) rfl)) rfl
set_option maxRecDepth 100000 in
theorem k_502 : Cond.code ⟨"OpenPots$Text", "takeNeed", "(I)I"⟩ prog_11_method_6_code 3 (some .int) ∈ lw_t2 := t2_in (tb_2 (List.mem_of_getElem? (i := 179) rfl)) rfl
set_option maxRecDepth 100000 in
theorem k_503 : Cond.methodLink "OpenPots$Text" 45 ⟨"OpenPots$Text", "goOnInWork", "(I)I"⟩ ∈ lw_t2 := t2_in (tb_2 (List.mem_of_getElem? (i := 180) rfl)) rfl
set_option maxRecDepth 100000 in
theorem k_505 : Cond.instanceMethod ⟨"OpenPots$Text", "goOnInWork", "(I)I"⟩ ∈ lw_t2 := t2_in (tb_2 (List.mem_of_getElem? (i := 182) rfl)) rfl
set_option maxRecDepth 100000 in
theorem k_506 : Cond.code ⟨"OpenPots$Text", "goOnInWork", "(I)I"⟩ prog_11_method_7_code 2 (some .int) ∈ lw_t2 := t2_in (tb_2 (List.mem_of_getElem? (i := 183) rfl)) rfl
set_option maxRecDepth 100000 in
theorem k_507 : Cond.methodLink "OpenPots$Text" 57 ⟨"OpenPots$Text", "endItem", "(I)I"⟩ ∈ lw_t2 := t2_in (tb_2 (List.mem_of_getElem? (i := 184) rfl)) rfl
set_option maxRecDepth 100000 in
theorem k_509 : Cond.instanceMethod ⟨"OpenPots$Text", "endItem", "(I)I"⟩ ∈ lw_t2 := t2_in (tb_2 (List.mem_of_getElem? (i := 186) rfl)) rfl
set_option maxRecDepth 100000 in
theorem k_510 : Cond.code ⟨"OpenPots$Text", "endItem", "(I)I"⟩ prog_11_method_8_code 2 (some .int) ∈ lw_t2 := t2_in (tb_2 (List.mem_of_getElem? (i := 187) rfl)) rfl
set_option maxRecDepth 100000 in
theorem k_511 : Cond.methodLink "OpenPots$Text" 48 ⟨"OpenPots$Text", "takeBefore", "(I)I"⟩ ∈ lw_t2 := t2_in (tb_2 (List.mem_of_getElem? (i := 188) rfl)) rfl
set_option maxRecDepth 100000 in
theorem k_513 : Cond.instanceMethod ⟨"OpenPots$Text", "takeBefore", "(I)I"⟩ ∈ lw_t2 := t2_in (tb_2 (List.mem_of_getElem? (i := 190) rfl)) rfl
set_option maxRecDepth 100000 in
theorem k_514 : Cond.code ⟨"OpenPots$Text", "takeBefore", "(I)I"⟩ prog_11_method_9_code 3 (some .int) ∈ lw_t2 := t2_in (tb_2 (List.mem_of_getElem? (i := 191) rfl)) rfl
set_option maxRecDepth 100000 in
theorem k_515 : Cond.methodLink "OpenPots$Text" 51 ⟨"OpenPots$Text", "takeSized", "(I)I"⟩ ∈ lw_t2 := t2_in (tb_2 (List.mem_of_getElem? (i := 192) rfl)) rfl
set_option maxRecDepth 100000 in
theorem k_517 : Cond.instanceMethod ⟨"OpenPots$Text", "takeSized", "(I)I"⟩ ∈ lw_t2 := t2_in (tb_2 (List.mem_of_getElem? (i := 194) rfl)) rfl
set_option maxRecDepth 100000 in
theorem k_518 : Cond.code ⟨"OpenPots$Text", "takeSized", "(I)I"⟩ prog_11_method_10_code 3 (some .int) ∈ lw_t2 := t2_in (tb_2 (List.mem_of_getElem? (i := 195) rfl)) rfl
set_option maxRecDepth 100000 in
theorem k_519 : Cond.methodLink "OpenPots$Text" 54 ⟨"OpenPots$Text", "takeSize", "(I)I"⟩ ∈ lw_t2 := t2_in (tb_2 (List.mem_of_getElem? (i := 196) rfl)) rfl
set_option maxRecDepth 100000 in
theorem k_521 : Cond.instanceMethod ⟨"OpenPots$Text", "takeSize", "(I)I"⟩ ∈ lw_t2 := t2_in (tb_2 (List.mem_of_getElem? (i := 198) rfl)) rfl
set_option maxRecDepth 100000 in
theorem k_522 : Cond.code ⟨"OpenPots$Text", "takeSize", "(I)I"⟩ prog_11_method_11_code 2 (some .int) ∈ lw_t2 := t2_in (tb_2 (List.mem_of_getElem? (i := 199) rfl)) rfl
set_option maxRecDepth 100000 in
theorem k_523 : Cond.methodLink "OpenPots" 121 ⟨"OpenPots$Works", "takeOver", "(LOpenPots$Text;)V"⟩ ∈ lw_t2 := t2_in (tb_2 (List.mem_of_getElem? (i := 200) rfl)) rfl
set_option maxRecDepth 100000 in
theorem k_524 : Cond.instanceMethod ⟨"OpenPots$Works", "takeOver", "(LOpenPots$Text;)V"⟩ ∈ lw_t2 := t2_in (tb_2 (List.mem_of_getElem? (i := 201) rfl)) rfl
set_option maxRecDepth 100000 in
theorem k_525 : Cond.selects "OpenPots$Works" ⟨"OpenPots$Works", "takeOver", "(LOpenPots$Text;)V"⟩ ⟨"OpenPots$Works", "takeOver", "(LOpenPots$Text;)V"⟩ ∈ lw_t2 := t2_in (tb_2 (List.mem_of_getElem? (i := 202) rfl)) rfl
set_option maxRecDepth 100000 in
theorem k_526 : Cond.code ⟨"OpenPots$Works", "takeOver", "(LOpenPots$Text;)V"⟩ prog_12_method_4_code 3 none ∈ lw_t2 := t2_in (tb_2 (List.mem_of_getElem? (i := 203) rfl)) rfl
set_option maxRecDepth 100000 in
theorem k_527 : Cond.methodLink "OpenPots$Works" 39 ⟨"OpenPots$Scale", "change", "(II)I"⟩ ∈ lw_t2 := t2_in (tb_2 (List.mem_of_getElem? (i := 204) rfl)) rfl
set_option maxRecDepth 100000 in
theorem k_528 : Cond.instanceMethod ⟨"OpenPots$Scale", "change", "(II)I"⟩ ∈ lw_t2 := t2_in (tb_2 (List.mem_of_getElem? (i := 205) rfl)) rfl
set_option maxRecDepth 100000 in
theorem k_529 : Cond.selects "OpenPots$Scale" ⟨"OpenPots$Scale", "change", "(II)I"⟩ ⟨"OpenPots$Scale", "change", "(II)I"⟩ ∈ lw_t2 := t2_in (tb_2 (List.mem_of_getElem? (i := 206) rfl)) rfl
set_option maxRecDepth 100000 in
theorem k_530 : Cond.code ⟨"OpenPots$Scale", "change", "(II)I"⟩ prog_7_method_3_code 7 (some .int) ∈ lw_t2 := t2_in (tb_2 (List.mem_of_getElem? (i := 207) rfl)) rfl
set_option maxRecDepth 100000 in
theorem k_531 : Cond.methodLink "OpenPots$Scale" 22 ⟨"OpenPots$Scale", "sum", "(I)I"⟩ ∈ lw_t2 := t2_in (tb_2 (List.mem_of_getElem? (i := 208) rfl)) rfl
set_option maxRecDepth 100000 in
theorem k_532 : Cond.instanceMethod ⟨"OpenPots$Scale", "sum", "(I)I"⟩ ∈ lw_t2 := t2_in (tb_2 (List.mem_of_getElem? (i := 209) rfl)) rfl
set_option maxRecDepth 100000 in
theorem k_533 : Cond.selects "OpenPots$Scale" ⟨"OpenPots$Scale", "sum", "(I)I"⟩ ⟨"OpenPots$Scale", "sum", "(I)I"⟩ ∈ lw_t2 := t2_in (tb_2 (List.mem_of_getElem? (i := 210) rfl)) rfl
set_option maxRecDepth 100000 in
theorem k_534 : Cond.code ⟨"OpenPots$Scale", "sum", "(I)I"⟩ prog_7_method_2_code 2 (some .int) ∈ lw_t2 := t2_in (tb_2 (List.mem_of_getElem? (i := 211) rfl)) rfl
set_option maxRecDepth 100000 in
theorem k_535 : Cond.methodLink "OpenPotsLaw" 18 ⟨"OpenPots", "work", "(II)I"⟩ ∈ lw_t2 := t2_in (tb_2 (List.mem_of_getElem? (i := 212) rfl)) rfl
set_option maxRecDepth 100000 in
theorem k_536 : Cond.instanceMethod ⟨"OpenPots", "work", "(II)I"⟩ ∈ lw_t2 := t2_in (tb_2 (List.mem_of_getElem? (i := 213) rfl)) rfl
set_option maxRecDepth 100000 in
theorem k_537 : Cond.selects "OpenPots" ⟨"OpenPots", "work", "(II)I"⟩ ⟨"OpenPots", "work", "(II)I"⟩ ∈ lw_t2 := t2_in (tb_2 (List.mem_of_getElem? (i := 214) rfl)) rfl
set_option maxRecDepth 100000 in
theorem k_538 : Cond.code ⟨"OpenPots", "work", "(II)I"⟩ prog_1_method_3_code 3 (some .int) ∈ lw_t2 := t2_in (tb_2 (List.mem_of_getElem? (i := 215) rfl)) rfl
set_option maxRecDepth 100000 in
theorem k_539 : Cond.methodLink "OpenPots" 129 ⟨"OpenPots$Works", "all", "()I"⟩ ∈ lw_t2 := t2_in (tb_2 (List.mem_of_getElem? (i := 216) rfl)) rfl
set_option maxRecDepth 100000 in
theorem k_540 : Cond.instanceMethod ⟨"OpenPots$Works", "all", "()I"⟩ ∈ lw_t2 := t2_in (tb_2 (List.mem_of_getElem? (i := 217) rfl)) rfl
set_option maxRecDepth 100000 in
theorem k_541 : Cond.selects "OpenPots$Works" ⟨"OpenPots$Works", "all", "()I"⟩ ⟨"OpenPots$Works", "all", "()I"⟩ ∈ lw_t2 := t2_in (tb_2 (List.mem_of_getElem? (i := 218) rfl)) rfl
set_option maxRecDepth 100000 in
theorem k_542 : Cond.code ⟨"OpenPots$Works", "all", "()I"⟩ prog_12_method_3_code 1 (some .int) ∈ lw_t2 := t2_in (tb_2 (List.mem_of_getElem? (i := 219) rfl)) rfl
set_option maxRecDepth 100000 in
theorem k_543 : Cond.methodLink "OpenPots" 133 ⟨"OpenPots$Works", "add", "(II)V"⟩ ∈ lw_t2 := t2_in (tb_2 (List.mem_of_getElem? (i := 220) rfl)) rfl
set_option maxRecDepth 100000 in
theorem k_544 : Cond.instanceMethod ⟨"OpenPots$Works", "add", "(II)V"⟩ ∈ lw_t2 := t2_in (tb_2 (List.mem_of_getElem? (i := 221) rfl)) rfl
set_option maxRecDepth 100000 in
theorem k_545 : Cond.selects "OpenPots$Works" ⟨"OpenPots$Works", "add", "(II)V"⟩ ⟨"OpenPots$Works", "add", "(II)V"⟩ ∈ lw_t2 := t2_in (tb_2 (List.mem_of_getElem? (i := 222) rfl)) rfl
set_option maxRecDepth 100000 in
theorem k_546 : Cond.code ⟨"OpenPots$Works", "add", "(II)V"⟩ prog_12_method_5_code 3 none ∈ lw_t2 := t2_in (tb_2 (List.mem_of_getElem? (i := 223) rfl)) rfl
set_option maxRecDepth 100000 in
theorem k_547 : Cond.methodLink "OpenPotsLaw" 23 ⟨"OpenPots", "ofWork", "(II)I"⟩ ∈ lw_t2 := t2_in (tb_2 (List.mem_of_getElem? (i := 224) rfl)) rfl
set_option maxRecDepth 100000 in
theorem k_548 : Cond.instanceMethod ⟨"OpenPots", "ofWork", "(II)I"⟩ ∈ lw_t2 := t2_in (tb_2 (List.mem_of_getElem? (i := 225) rfl)) rfl
set_option maxRecDepth 100000 in
theorem k_549 : Cond.selects "OpenPots" ⟨"OpenPots", "ofWork", "(II)I"⟩ ⟨"OpenPots", "ofWork", "(II)I"⟩ ∈ lw_t2 := t2_in (tb_2 (List.mem_of_getElem? (i := 226) rfl)) rfl
set_option maxRecDepth 100000 in
theorem k_550 : Cond.code ⟨"OpenPots", "ofWork", "(II)I"⟩ prog_1_method_4_code 3 (some .int) ∈ lw_t2 := t2_in (tb_2 (List.mem_of_getElem? (i := 227) rfl)) rfl
set_option maxRecDepth 100000 in
theorem k_551 : Cond.methodLink "OpenPots" 137 ⟨"OpenPots$Works", "has", "(I)Z"⟩ ∈ lw_t2 := t2_in (tb_2 (List.mem_of_getElem? (i := 228) rfl)) rfl
set_option maxRecDepth 100000 in
theorem k_552 : Cond.instanceMethod ⟨"OpenPots$Works", "has", "(I)Z"⟩ ∈ lw_t2 := t2_in (tb_2 (List.mem_of_getElem? (i := 229) rfl)) rfl
set_option maxRecDepth 100000 in
theorem k_553 : Cond.selects "OpenPots$Works" ⟨"OpenPots$Works", "has", "(I)Z"⟩ ⟨"OpenPots$Works", "has", "(I)Z"⟩ ∈ lw_t2 := t2_in (tb_2 (List.mem_of_getElem? (i := 230) rfl)) rfl
set_option maxRecDepth 100000 in
theorem k_554 : Cond.code ⟨"OpenPots$Works", "has", "(I)Z"⟩ prog_12_method_2_code 2 (some .boolean) ∈ lw_t2 := t2_in (tb_2 (List.mem_of_getElem? (i := 231) rfl)) rfl
set_option maxRecDepth 100000 in
theorem k_555 : Cond.methodLink "OpenPotsLaw" 27 ⟨"OpenPots", "before", "(IIZ)I"⟩ ∈ lw_t2 := t2_in (tb_2 (List.mem_of_getElem? (i := 232) rfl)) rfl
set_option maxRecDepth 100000 in
theorem k_556 : Cond.instanceMethod ⟨"OpenPots", "before", "(IIZ)I"⟩ ∈ lw_t2 := t2_in (tb_2 (List.mem_of_getElem? (i := 233) rfl)) rfl
set_option maxRecDepth 100000 in
theorem k_557 : Cond.selects "OpenPots" ⟨"OpenPots", "before", "(IIZ)I"⟩ ⟨"OpenPots", "before", "(IIZ)I"⟩ ∈ lw_t2 := t2_in (tb_2 (List.mem_of_getElem? (i := 234) rfl)) rfl
set_option maxRecDepth 100000 in
theorem k_558 : Cond.code ⟨"OpenPots", "before", "(IIZ)I"⟩ prog_1_method_5_code 4 (some .int) ∈ lw_t2 := t2_in (tb_2 (List.mem_of_getElem? (i := 235) rfl)) rfl
set_option maxRecDepth 100000 in
theorem k_559 : Cond.methodLink "OpenPots" 146 ⟨"OpenPots$Works", "isBefore", "(II)Z"⟩ ∈ lw_t2 := t2_in (tb_2 (List.mem_of_getElem? (i := 236) rfl)) rfl
set_option maxRecDepth 100000 in
theorem k_560 : Cond.instanceMethod ⟨"OpenPots$Works", "isBefore", "(II)Z"⟩ ∈ lw_t2 := t2_in (tb_2 (List.mem_of_getElem? (i := 237) rfl)) rfl
set_option maxRecDepth 100000 in
theorem k_561 : Cond.selects "OpenPots$Works" ⟨"OpenPots$Works", "isBefore", "(II)Z"⟩ ⟨"OpenPots$Works", "isBefore", "(II)Z"⟩ ∈ lw_t2 := t2_in (tb_2 (List.mem_of_getElem? (i := 238) rfl)) rfl
set_option maxRecDepth 100000 in
theorem k_562 : Cond.code ⟨"OpenPots$Works", "isBefore", "(II)Z"⟩ prog_12_method_7_code 3 (some .boolean) ∈ lw_t2 := t2_in (tb_2 (List.mem_of_getElem? (i := 239) rfl)) rfl
set_option maxRecDepth 100000 in
theorem k_563 : Cond.methodLink "OpenPots" 150 ⟨"OpenPots$Works", "comesAhead", "(II)Z"⟩ ∈ lw_t2 := t2_in (tb_3 (List.mem_of_getElem? (i := 0) rfl)) rfl
set_option maxRecDepth 100000 in
theorem k_564 : Cond.instanceMethod ⟨"OpenPots$Works", "comesAhead", "(II)Z"⟩ ∈ lw_t2 := t2_in (tb_3 (List.mem_of_getElem? (i := 1) rfl)) rfl
set_option maxRecDepth 100000 in
theorem k_565 : Cond.selects "OpenPots$Works" ⟨"OpenPots$Works", "comesAhead", "(II)Z"⟩ ⟨"OpenPots$Works", "comesAhead", "(II)Z"⟩ ∈ lw_t2 := t2_in (tb_3 (List.mem_of_getElem? (i := 2) rfl)) rfl
set_option maxRecDepth 100000 in
theorem k_566 : Cond.code ⟨"OpenPots$Works", "comesAhead", "(II)Z"⟩ prog_12_method_9_code 6 (some .boolean) ∈ lw_t2 := t2_in (tb_3 (List.mem_of_getElem? (i := 3) rfl)) rfl
set_option maxRecDepth 100000 in
theorem k_567 : Cond.methodLink "OpenPots" 153 ⟨"OpenPots$Works", "turnBefore", "(II)V"⟩ ∈ lw_t2 := t2_in (tb_3 (List.mem_of_getElem? (i := 4) rfl)) rfl
set_option maxRecDepth 100000 in
theorem k_568 : Cond.instanceMethod ⟨"OpenPots$Works", "turnBefore", "(II)V"⟩ ∈ lw_t2 := t2_in (tb_3 (List.mem_of_getElem? (i := 5) rfl)) rfl
set_option maxRecDepth 100000 in
theorem k_569 : Cond.selects "OpenPots$Works" ⟨"OpenPots$Works", "turnBefore", "(II)V"⟩ ⟨"OpenPots$Works", "turnBefore", "(II)V"⟩ ∈ lw_t2 := t2_in (tb_3 (List.mem_of_getElem? (i := 6) rfl)) rfl
set_option maxRecDepth 100000 in
theorem k_570 : Cond.code ⟨"OpenPots$Works", "turnBefore", "(II)V"⟩ prog_12_method_8_code 3 none ∈ lw_t2 := t2_in (tb_3 (List.mem_of_getElem? (i := 7) rfl)) rfl
set_option maxRecDepth 100000 in
theorem k_571 : Cond.methodLink "OpenPotsLaw" 32 ⟨"OpenPots", "thing", "(III)I"⟩ ∈ lw_t2 := t2_in (tb_3 (List.mem_of_getElem? (i := 8) rfl)) rfl
set_option maxRecDepth 100000 in
theorem k_572 : Cond.instanceMethod ⟨"OpenPots", "thing", "(III)I"⟩ ∈ lw_t2 := t2_in (tb_3 (List.mem_of_getElem? (i := 9) rfl)) rfl
set_option maxRecDepth 100000 in
theorem k_573 : Cond.selects "OpenPots" ⟨"OpenPots", "thing", "(III)I"⟩ ⟨"OpenPots", "thing", "(III)I"⟩ ∈ lw_t2 := t2_in (tb_3 (List.mem_of_getElem? (i := 10) rfl)) rfl
set_option maxRecDepth 100000 in
theorem k_574 : Cond.code ⟨"OpenPots", "thing", "(III)I"⟩ prog_1_method_6_code 4 (some .int) ∈ lw_t2 := t2_in (tb_3 (List.mem_of_getElem? (i := 11) rfl)) rfl
set_option maxRecDepth 100000 in
theorem k_575 : Cond.methodLink "OpenPots" 156 ⟨"OpenPots$Works", "changeSize", "(II)I"⟩ ∈ lw_t2 := t2_in (tb_3 (List.mem_of_getElem? (i := 12) rfl)) rfl
set_option maxRecDepth 100000 in
theorem k_576 : Cond.instanceMethod ⟨"OpenPots$Works", "changeSize", "(II)I"⟩ ∈ lw_t2 := t2_in (tb_3 (List.mem_of_getElem? (i := 13) rfl)) rfl
set_option maxRecDepth 100000 in
theorem k_577 : Cond.selects "OpenPots$Works" ⟨"OpenPots$Works", "changeSize", "(II)I"⟩ ⟨"OpenPots$Works", "changeSize", "(II)I"⟩ ∈ lw_t2 := t2_in (tb_3 (List.mem_of_getElem? (i := 14) rfl)) rfl
set_option maxRecDepth 100000 in
theorem k_578 : Cond.code ⟨"OpenPots$Works", "changeSize", "(II)I"⟩ prog_12_method_6_code 3 (some .int) ∈ lw_t2 := t2_in (tb_3 (List.mem_of_getElem? (i := 15) rfl)) rfl
set_option maxRecDepth 100000 in
theorem k_579 : Cond.methodLink "OpenPots" 164 ⟨"OpenPots$Scale", "change", "(II)I"⟩ ∈ lw_t2 := t2_in (tb_3 (List.mem_of_getElem? (i := 16) rfl)) rfl
set_option maxRecDepth 100000 in
theorem k_580 : Cond.methodLink "OpenPotsLaw" 37 ⟨"OpenPots", "order", "(IIIII)I"⟩ ∈ lw_t2 := t2_in (tb_3 (List.mem_of_getElem? (i := 17) rfl)) rfl
set_option maxRecDepth 100000 in
theorem k_581 : Cond.instanceMethod ⟨"OpenPots", "order", "(IIIII)I"⟩ ∈ lw_t2 := t2_in (tb_3 (List.mem_of_getElem? (i := 18) rfl)) rfl
set_option maxRecDepth 100000 in
theorem k_582 : Cond.selects "OpenPots" ⟨"OpenPots", "order", "(IIIII)I"⟩ ⟨"OpenPots", "order", "(IIIII)I"⟩ ∈ lw_t2 := t2_in (tb_3 (List.mem_of_getElem? (i := 19) rfl)) rfl
set_option maxRecDepth 100000 in
theorem k_583 : Cond.code ⟨"OpenPots", "order", "(IIIII)I"⟩ prog_1_method_7_code 8 (some .int) ∈ lw_t2 := t2_in (tb_3 (List.mem_of_getElem? (i := 20) rfl)) rfl
set_option maxRecDepth 100000 in
theorem k_584 : Cond.methodLink "OpenPots" 169 ⟨"OpenPots", "isKind", "(I)Z"⟩ ∈ lw_t2 := t2_in (tb_3 (List.mem_of_getElem? (i := 21) rfl)) rfl
set_option maxRecDepth 100000 in
theorem k_585 : Cond.static ⟨"OpenPots", "isKind", "(I)Z"⟩ ∈ lw_t2 := t2_in (tb_3 (List.mem_of_getElem? (i := 22) rfl)) rfl
set_option maxRecDepth 100000 in
theorem k_586 : Cond.code ⟨"OpenPots", "isKind", "(I)Z"⟩ prog_1_method_47_code 1 (some .boolean) ∈ lw_t2 := t2_in (tb_3 (List.mem_of_getElem? (i := 23) rfl)) rfl
set_option maxRecDepth 100000 in
theorem k_587 : Cond.methodLink "OpenPots" 172 ⟨"java/lang/System", "arraycopy", "(Ljava/lang/Object;ILjava/lang/Object;II)V"⟩ ∈ lw_t2 := t2_in (tb_3 (List.mem_of_getElem? (i := 24) rfl)) rfl
set_option maxRecDepth 100000 in
theorem k_588 : Cond.static ⟨"java/lang/System", "arraycopy", "(Ljava/lang/Object;ILjava/lang/Object;II)V"⟩ ∈ lw_t2 := t2_in (tb_3 (List.mem_of_getElem? (i := 25) rfl)) rfl
set_option maxRecDepth 100000 in
theorem k_589 : Cond.native ⟨"java/lang/System", "arraycopy", "(Ljava/lang/Object;ILjava/lang/Object;II)V"⟩ ∈ lw_t2 := t2_in (tb_3 (List.mem_of_getElem? (i := 26) rfl)) rfl
set_option maxRecDepth 100000 in
theorem k_590 : Cond.methodLink "OpenPots" 178 ⟨"OpenPots", "refusalOfSpare", "(I)I"⟩ ∈ lw_t2 := t2_in (tb_3 (List.mem_of_getElem? (i := 27) rfl)) rfl
set_option maxRecDepth 100000 in
theorem k_592 : Cond.instanceMethod ⟨"OpenPots", "refusalOfSpare", "(I)I"⟩ ∈ lw_t2 := t2_in (tb_3 (List.mem_of_getElem? (i := 29) rfl)) rfl
set_option maxRecDepth 100000 in
theorem k_593 : Cond.code ⟨"OpenPots", "refusalOfSpare", "(I)I"⟩ prog_1_method_8_code 6 (some .int) ∈ lw_t2 := t2_in (tb_3 (List.mem_of_getElem? (i := 30) rfl)) rfl
set_option maxRecDepth 100000 in
theorem k_594 : Cond.methodLink "OpenPots" 184 ⟨"OpenPots$Gauge", "measure", "([I)V"⟩ ∈ lw_t2 := t2_in (tb_3 (List.mem_of_getElem? (i := 31) rfl)) rfl
set_option maxRecDepth 100000 in
theorem k_595 : Cond.instanceMethod ⟨"OpenPots$Gauge", "measure", "([I)V"⟩ ∈ lw_t2 := t2_in (tb_3 (List.mem_of_getElem? (i := 32) rfl)) rfl
set_option maxRecDepth 100000 in
theorem k_596 : Cond.selects "OpenPots$Gauge" ⟨"OpenPots$Gauge", "measure", "([I)V"⟩ ⟨"OpenPots$Gauge", "measure", "([I)V"⟩ ∈ lw_t2 := t2_in (tb_3 (List.mem_of_getElem? (i := 33) rfl)) rfl
set_option maxRecDepth 100000 in
theorem k_597 : Cond.code ⟨"OpenPots$Gauge", "measure", "([I)V"⟩ prog_3_method_2_code 7 none ∈ lw_t2 := t2_in (tb_3 (List.mem_of_getElem? (i := 34) rfl)) rfl
set_option maxRecDepth 100000 in
theorem k_598 : Cond.methodLink "OpenPots$Gauge" 19 ⟨"OpenPots$Gauge", "fillNeededFromHereOn", "([I)V"⟩ ∈ lw_t2 := t2_in (tb_3 (List.mem_of_getElem? (i := 35) rfl)) rfl
set_option maxRecDepth 100000 in
theorem k_600 : Cond.instanceMethod ⟨"OpenPots$Gauge", "fillNeededFromHereOn", "([I)V"⟩ ∈ lw_t2 := t2_in (tb_3 (List.mem_of_getElem? (i := 37) rfl)) rfl
set_option maxRecDepth 100000 in
theorem k_601 : Cond.code ⟨"OpenPots$Gauge", "fillNeededFromHereOn", "([I)V"⟩ prog_3_method_3_code 4 none ∈ lw_t2 := t2_in (tb_3 (List.mem_of_getElem? (i := 38) rfl)) rfl
set_option maxRecDepth 100000 in
theorem k_602 : Cond.methodLink "OpenPots$Gauge" 49 ⟨"OpenPots$Scale", "sum", "(I)I"⟩ ∈ lw_t2 := t2_in (tb_3 (List.mem_of_getElem? (i := 39) rfl)) rfl
set_option maxRecDepth 100000 in
theorem k_603 : Cond.methodLink "OpenPots$Gauge" 55 ⟨"java/lang/Math", "max", "(II)I"⟩ ∈ lw_t2 := t2_in (tb_3 (List.mem_of_getElem? (i := 40) rfl)) rfl
set_option maxRecDepth 100000 in
theorem k_604 : Cond.static ⟨"java/lang/Math", "max", "(II)I"⟩ ∈ lw_t2 := t2_in (tb_3 (List.mem_of_getElem? (i := 41) rfl)) rfl
set_option maxRecDepth 100000 in
theorem k_605 : Cond.code ⟨"java/lang/Math", "max", "(II)I"⟩ prog_16_method_65_code 2 (some .int) ∈ lw_t2 := t2_in (tb_3 (List.mem_of_getElem? (i := 42) rfl)) rfl
set_option maxRecDepth 100000 in
theorem k_606 : Cond.methodLink "OpenPots" 192 ⟨"OpenPots$Orders", "isFull", "()Z"⟩ ∈ lw_t2 := t2_in (tb_3 (List.mem_of_getElem? (i := 43) rfl)) rfl
set_option maxRecDepth 100000 in
theorem k_607 : Cond.instanceMethod ⟨"OpenPots$Orders", "isFull", "()Z"⟩ ∈ lw_t2 := t2_in (tb_3 (List.mem_of_getElem? (i := 44) rfl)) rfl
set_option maxRecDepth 100000 in
theorem k_608 : Cond.selects "OpenPots$Orders" ⟨"OpenPots$Orders", "isFull", "()Z"⟩ ⟨"OpenPots$Orders", "isFull", "()Z"⟩ ∈ lw_t2 := t2_in (tb_3 (List.mem_of_getElem? (i := 45) rfl)) rfl
set_option maxRecDepth 100000 in
theorem k_609 : Cond.code ⟨"OpenPots$Orders", "isFull", "()Z"⟩ prog_5_method_3_code 1 (some .boolean) ∈ lw_t2 := t2_in (tb_3 (List.mem_of_getElem? (i := 46) rfl)) rfl
set_option maxRecDepth 100000 in
theorem k_610 : Cond.methodLink "OpenPots" 181 ⟨"OpenPots$Orders", "add", "(I[I)I"⟩ ∈ lw_t2 := t2_in (tb_3 (List.mem_of_getElem? (i := 47) rfl)) rfl
set_option maxRecDepth 100000 in
theorem k_611 : Cond.instanceMethod ⟨"OpenPots$Orders", "add", "(I[I)I"⟩ ∈ lw_t2 := t2_in (tb_3 (List.mem_of_getElem? (i := 48) rfl)) rfl
set_option maxRecDepth 100000 in
theorem k_612 : Cond.selects "OpenPots$Orders" ⟨"OpenPots$Orders", "add", "(I[I)I"⟩ ⟨"OpenPots$Orders", "add", "(I[I)I"⟩ ∈ lw_t2 := t2_in (tb_3 (List.mem_of_getElem? (i := 49) rfl)) rfl
set_option maxRecDepth 100000 in
theorem k_613 : Cond.code ⟨"OpenPots$Orders", "add", "(I[I)I"⟩ prog_5_method_4_code 3 (some .int) ∈ lw_t2 := t2_in (tb_3 (List.mem_of_getElem? (i := 50) rfl)) rfl
set_option maxRecDepth 100000 in
theorem k_614 : Cond.methodLink "OpenPots$Orders" 24 ⟨"java/lang/System", "arraycopy", "(Ljava/lang/Object;ILjava/lang/Object;II)V"⟩ ∈ lw_t2 := t2_in (tb_3 (List.mem_of_getElem? (i := 51) rfl)) rfl
set_option maxRecDepth 100000 in
theorem k_615 : Cond.methodLink "OpenPotsLaw" 42 ⟨"OpenPots", "ofOrder", "(II)I"⟩ ∈ lw_t2 := t2_in (tb_3 (List.mem_of_getElem? (i := 52) rfl)) rfl
set_option maxRecDepth 100000 in
theorem k_616 : Cond.instanceMethod ⟨"OpenPots", "ofOrder", "(II)I"⟩ ∈ lw_t2 := t2_in (tb_3 (List.mem_of_getElem? (i := 53) rfl)) rfl
set_option maxRecDepth 100000 in
theorem k_617 : Cond.selects "OpenPots" ⟨"OpenPots", "ofOrder", "(II)I"⟩ ⟨"OpenPots", "ofOrder", "(II)I"⟩ ∈ lw_t2 := t2_in (tb_3 (List.mem_of_getElem? (i := 54) rfl)) rfl
set_option maxRecDepth 100000 in
theorem k_618 : Cond.code ⟨"OpenPots", "ofOrder", "(II)I"⟩ prog_1_method_9_code 3 (some .int) ∈ lw_t2 := t2_in (tb_3 (List.mem_of_getElem? (i := 55) rfl)) rfl
set_option maxRecDepth 100000 in
theorem k_619 : Cond.methodLink "OpenPots" 196 ⟨"OpenPots$Orders", "has", "(I)Z"⟩ ∈ lw_t2 := t2_in (tb_3 (List.mem_of_getElem? (i := 56) rfl)) rfl
set_option maxRecDepth 100000 in
theorem k_620 : Cond.instanceMethod ⟨"OpenPots$Orders", "has", "(I)Z"⟩ ∈ lw_t2 := t2_in (tb_3 (List.mem_of_getElem? (i := 57) rfl)) rfl
set_option maxRecDepth 100000 in
theorem k_621 : Cond.selects "OpenPots$Orders" ⟨"OpenPots$Orders", "has", "(I)Z"⟩ ⟨"OpenPots$Orders", "has", "(I)Z"⟩ ∈ lw_t2 := t2_in (tb_3 (List.mem_of_getElem? (i := 58) rfl)) rfl
set_option maxRecDepth 100000 in
theorem k_622 : Cond.code ⟨"OpenPots$Orders", "has", "(I)Z"⟩ prog_5_method_2_code 2 (some .boolean) ∈ lw_t2 := t2_in (tb_3 (List.mem_of_getElem? (i := 59) rfl)) rfl
set_option maxRecDepth 100000 in
theorem k_623 : Cond.methodLink "OpenPots" 209 ⟨"OpenPots", "atPlace", "(II)I"⟩ ∈ lw_t2 := t2_in (tb_3 (List.mem_of_getElem? (i := 60) rfl)) rfl
set_option maxRecDepth 100000 in
theorem k_625 : Cond.instanceMethod ⟨"OpenPots", "atPlace", "(II)I"⟩ ∈ lw_t2 := t2_in (tb_3 (List.mem_of_getElem? (i := 62) rfl)) rfl
set_option maxRecDepth 100000 in
theorem k_626 : Cond.code ⟨"OpenPots", "atPlace", "(II)I"⟩ prog_1_method_10_code 5 (some .int) ∈ lw_t2 := t2_in (tb_3 (List.mem_of_getElem? (i := 63) rfl)) rfl
set_option maxRecDepth 100000 in
theorem k_627 : Cond.methodLink "OpenPots" 218 ⟨"OpenPots$Scale", "sum", "(I)I"⟩ ∈ lw_t2 := t2_in (tb_3 (List.mem_of_getElem? (i := 64) rfl)) rfl
set_option maxRecDepth 100000 in
theorem k_628 : Cond.methodLink "OpenPotsLaw" 46 ⟨"OpenPots", "best", "(I)I"⟩ ∈ lw_t2 := t2_in (tb_3 (List.mem_of_getElem? (i := 65) rfl)) rfl
set_option maxRecDepth 100000 in
theorem k_629 : Cond.instanceMethod ⟨"OpenPots", "best", "(I)I"⟩ ∈ lw_t2 := t2_in (tb_3 (List.mem_of_getElem? (i := 66) rfl)) rfl
set_option maxRecDepth 100000 in
theorem k_630 : Cond.selects "OpenPots" ⟨"OpenPots", "best", "(I)I"⟩ ⟨"OpenPots", "best", "(I)I"⟩ ∈ lw_t2 := t2_in (tb_3 (List.mem_of_getElem? (i := 67) rfl)) rfl
set_option maxRecDepth 100000 in
theorem k_631 : Cond.code ⟨"OpenPots", "best", "(I)I"⟩ prog_1_method_11_code 2 (some .int) ∈ lw_t2 := t2_in (tb_3 (List.mem_of_getElem? (i := 68) rfl)) rfl
set_option maxRecDepth 100000 in
theorem k_632 : Cond.methodLink "OpenPots" 221 ⟨"OpenPots$Search", "refresh", "()V"⟩ ∈ lw_t2 := t2_in (tb_3 (List.mem_of_getElem? (i := 69) rfl)) rfl
set_option maxRecDepth 100000 in
theorem k_633 : Cond.instanceMethod ⟨"OpenPots$Search", "refresh", "()V"⟩ ∈ lw_t2 := t2_in (tb_3 (List.mem_of_getElem? (i := 70) rfl)) rfl
set_option maxRecDepth 100000 in
theorem k_634 : Cond.selects "OpenPots$Search" ⟨"OpenPots$Search", "refresh", "()V"⟩ ⟨"OpenPots$Search", "refresh", "()V"⟩ ∈ lw_t2 := t2_in (tb_3 (List.mem_of_getElem? (i := 71) rfl)) rfl
set_option maxRecDepth 100000 in
theorem k_635 : Cond.code ⟨"OpenPots$Search", "refresh", "()V"⟩ prog_8_method_2_code 1 none ∈ lw_t2 := t2_in (tb_3 (List.mem_of_getElem? (i := 72) rfl)) rfl
set_option maxRecDepth 100000 in
theorem k_636 : Cond.methodLink "OpenPots$Search" 38 ⟨"OpenPots$Works", "all", "()I"⟩ ∈ lw_t2 := t2_in (tb_3 (List.mem_of_getElem? (i := 73) rfl)) rfl
set_option maxRecDepth 100000 in
theorem k_637 : Cond.constant "OpenPots$Search" 42 1000000 ∈ lw_t2 := t2_in (tb_3 (List.mem_of_getElem? (i := 74) rfl)) rfl
set_option maxRecDepth 100000 in
theorem k_638 : Cond.methodLink "OpenPots$Search" 43 ⟨"OpenPots$Search", "leastMost", "(II)I"⟩ ∈ lw_t2 := t2_in (tb_3 (List.mem_of_getElem? (i := 75) rfl)) rfl
set_option maxRecDepth 100000 in
theorem k_639 : Cond.instanceMethod ⟨"OpenPots$Search", "leastMost", "(II)I"⟩ ∈ lw_t2 := t2_in (tb_3 (List.mem_of_getElem? (i := 76) rfl)) rfl
set_option maxRecDepth 100000 in
theorem k_640 : Cond.selects "OpenPots$Search" ⟨"OpenPots$Search", "leastMost", "(II)I"⟩ ⟨"OpenPots$Search", "leastMost", "(II)I"⟩ ∈ lw_t2 := t2_in (tb_3 (List.mem_of_getElem? (i := 77) rfl)) rfl
set_option maxRecDepth 100000 in
theorem k_641 : Cond.code ⟨"OpenPots$Search", "leastMost", "(II)I"⟩ prog_8_method_3_code 3 (some .int) ∈ lw_t2 := t2_in (tb_3 (List.mem_of_getElem? (i := 78) rfl)) rfl
set_option maxRecDepth 100000 in
theorem k_642 : Cond.methodLink "OpenPots$Search" 47 ⟨"OpenPots$Search", "load", "(I)V"⟩ ∈ lw_t2 := t2_in (tb_3 (List.mem_of_getElem? (i := 79) rfl)) rfl
set_option maxRecDepth 100000 in
theorem k_644 : Cond.instanceMethod ⟨"OpenPots$Search", "load", "(I)V"⟩ ∈ lw_t2 := t2_in (tb_3 (List.mem_of_getElem? (i := 81) rfl)) rfl
set_option maxRecDepth 100000 in
theorem k_645 : Cond.code ⟨"OpenPots$Search", "load", "(I)V"⟩ prog_8_method_9_code 5 none ∈ lw_t2 := t2_in (tb_3 (List.mem_of_getElem? (i := 82) rfl)) rfl
set_option maxRecDepth 100000 in
theorem k_646 : Cond.methodLink "OpenPots$Search" 67 ⟨"OpenPots$Search", "squeeze", "(II)I"⟩ ∈ lw_t2 := t2_in (tb_3 (List.mem_of_getElem? (i := 83) rfl)) rfl
set_option maxRecDepth 100000 in
theorem k_648 : Cond.instanceMethod ⟨"OpenPots$Search", "squeeze", "(II)I"⟩ ∈ lw_t2 := t2_in (tb_3 (List.mem_of_getElem? (i := 85) rfl)) rfl
set_option maxRecDepth 100000 in
theorem k_649 : Cond.code ⟨"OpenPots$Search", "squeeze", "(II)I"⟩ prog_8_method_10_code 6 (some .int) ∈ lw_t2 := t2_in (tb_3 (List.mem_of_getElem? (i := 86) rfl)) rfl
set_option maxRecDepth 100000 in
theorem k_650 : Cond.methodLink "OpenPots$Search" 51 ⟨"OpenPots$Search", "fillLeast", "(I)V"⟩ ∈ lw_t2 := t2_in (tb_3 (List.mem_of_getElem? (i := 87) rfl)) rfl
set_option maxRecDepth 100000 in
theorem k_652 : Cond.instanceMethod ⟨"OpenPots$Search", "fillLeast", "(I)V"⟩ ∈ lw_t2 := t2_in (tb_3 (List.mem_of_getElem? (i := 89) rfl)) rfl
set_option maxRecDepth 100000 in
theorem k_653 : Cond.code ⟨"OpenPots$Search", "fillLeast", "(I)V"⟩ prog_8_method_13_code 5 none ∈ lw_t2 := t2_in (tb_3 (List.mem_of_getElem? (i := 90) rfl)) rfl
set_option maxRecDepth 100000 in
theorem k_654 : Cond.methodLink "OpenPots$Search" 85 ⟨"OpenPots$Search", "mayCome", "(II)Z"⟩ ∈ lw_t2 := t2_in (tb_3 (List.mem_of_getElem? (i := 91) rfl)) rfl
set_option maxRecDepth 100000 in
theorem k_656 : Cond.instanceMethod ⟨"OpenPots$Search", "mayCome", "(II)Z"⟩ ∈ lw_t2 := t2_in (tb_3 (List.mem_of_getElem? (i := 93) rfl)) rfl
set_option maxRecDepth 100000 in
theorem k_657 : Cond.code ⟨"OpenPots$Search", "mayCome", "(II)Z"⟩ prog_8_method_11_code 3 (some .boolean) ∈ lw_t2 := t2_in (tb_3 (List.mem_of_getElem? (i := 94) rfl)) rfl
set_option maxRecDepth 100000 in
theorem k_658 : Cond.methodLink "OpenPots$Search" 89 ⟨"OpenPots$Search", "wide", "(II)I"⟩ ∈ lw_t2 := t2_in (tb_3 (List.mem_of_getElem? (i := 95) rfl)) rfl
set_option maxRecDepth 100000 in
theorem k_660 : Cond.instanceMethod ⟨"OpenPots$Search", "wide", "(II)I"⟩ ∈ lw_t2 := t2_in (tb_3 (List.mem_of_getElem? (i := 97) rfl)) rfl
set_option maxRecDepth 100000 in
theorem k_661 : Cond.code ⟨"OpenPots$Search", "wide", "(II)I"⟩ prog_8_method_12_code 3 (some .int) ∈ lw_t2 := t2_in (tb_3 (List.mem_of_getElem? (i := 98) rfl)) rfl
set_option maxRecDepth 100000 in
theorem k_662 : Cond.methodLink "OpenPots$Search" 80 ⟨"OpenPots$Scale", "sum", "(I)I"⟩ ∈ lw_t2 := t2_in (tb_3 (List.mem_of_getElem? (i := 99) rfl)) rfl
set_option maxRecDepth 100000 in
theorem k_663 : Cond.methodLink "OpenPots$Search" 92 ⟨"java/lang/Math", "max", "(II)I"⟩ ∈ lw_t2 := t2_in (tb_3 (List.mem_of_getElem? (i := 100) rfl)) rfl
set_option maxRecDepth 100000 in
theorem k_664 : Cond.methodLink "OpenPots$Search" 97 ⟨"java/lang/Math", "min", "(II)I"⟩ ∈ lw_t2 := t2_in (tb_3 (List.mem_of_getElem? (i := 101) rfl)) rfl
set_option maxRecDepth 100000 in
theorem k_665 : Cond.static ⟨"java/lang/Math", "min", "(II)I"⟩ ∈ lw_t2 := t2_in (tb_3 (List.mem_of_getElem? (i := 102) rfl)) rfl
set_option maxRecDepth 100000 in
theorem k_666 : Cond.code ⟨"java/lang/Math", "min", "(II)I"⟩ prog_16_method_69_code 2 (some .int) ∈ lw_t2 := t2_in (tb_3 (List.mem_of_getElem? (i := 103) rfl)) rfl
set_option maxRecDepth 100000 in
theorem k_667 : Cond.methodLink "OpenPots" 224 ⟨"OpenPots$Search", "leastFrom", "(I)I"⟩ ∈ lw_t2 := t2_in (tb_3 (List.mem_of_getElem? (i := 104) rfl)) rfl
set_option maxRecDepth 100000 in
theorem k_668 : Cond.instanceMethod ⟨"OpenPots$Search", "leastFrom", "(I)I"⟩ ∈ lw_t2 := t2_in (tb_3 (List.mem_of_getElem? (i := 105) rfl)) rfl
set_option maxRecDepth 100000 in
theorem k_669 : Cond.selects "OpenPots$Search" ⟨"OpenPots$Search", "leastFrom", "(I)I"⟩ ⟨"OpenPots$Search", "leastFrom", "(I)I"⟩ ∈ lw_t2 := t2_in (tb_3 (List.mem_of_getElem? (i := 106) rfl)) rfl
set_option maxRecDepth 100000 in
theorem k_670 : Cond.code ⟨"OpenPots$Search", "leastFrom", "(I)I"⟩ prog_8_method_5_code 2 (some .int) ∈ lw_t2 := t2_in (tb_3 (List.mem_of_getElem? (i := 107) rfl)) rfl
set_option maxRecDepth 100000 in
theorem k_671 : Cond.methodLink "OpenPots" 227 ⟨"OpenPots$Search", "longFrom", "(I)I"⟩ ∈ lw_t2 := t2_in (tb_3 (List.mem_of_getElem? (i := 108) rfl)) rfl
set_option maxRecDepth 100000 in
theorem k_672 : Cond.instanceMethod ⟨"OpenPots$Search", "longFrom", "(I)I"⟩ ∈ lw_t2 := t2_in (tb_3 (List.mem_of_getElem? (i := 109) rfl)) rfl
set_option maxRecDepth 100000 in
theorem k_673 : Cond.selects "OpenPots$Search" ⟨"OpenPots$Search", "longFrom", "(I)I"⟩ ⟨"OpenPots$Search", "longFrom", "(I)I"⟩ ∈ lw_t2 := t2_in (tb_3 (List.mem_of_getElem? (i := 110) rfl)) rfl
set_option maxRecDepth 100000 in
theorem k_674 : Cond.code ⟨"OpenPots$Search", "longFrom", "(I)I"⟩ prog_8_method_6_code 2 (some .int) ∈ lw_t2 := t2_in (tb_3 (List.mem_of_getElem? (i := 111) rfl)) rfl
set_option maxRecDepth 100000 in
theorem k_675 : Cond.methodLink "OpenPots$Search" 54 ⟨"OpenPots$Search", "fillLongs", "(I)V"⟩ ∈ lw_t2 := t2_in (tb_3 (List.mem_of_getElem? (i := 112) rfl)) rfl
set_option maxRecDepth 100000 in
theorem k_677 : Cond.instanceMethod ⟨"OpenPots$Search", "fillLongs", "(I)V"⟩ ∈ lw_t2 := t2_in (tb_3 (List.mem_of_getElem? (i := 114) rfl)) rfl
set_option maxRecDepth 100000 in
theorem k_678 : Cond.code ⟨"OpenPots$Search", "fillLongs", "(I)V"⟩ prog_8_method_14_code 3 none ∈ lw_t2 := t2_in (tb_3 (List.mem_of_getElem? (i := 115) rfl)) rfl
set_option maxRecDepth 100000 in
theorem k_679 : Cond.methodLink "OpenPots$Search" 100 ⟨"OpenPots$Search", "leastLong", "(I)I"⟩ ∈ lw_t2 := t2_in (tb_3 (List.mem_of_getElem? (i := 116) rfl)) rfl
set_option maxRecDepth 100000 in
theorem k_681 : Cond.instanceMethod ⟨"OpenPots$Search", "leastLong", "(I)I"⟩ ∈ lw_t2 := t2_in (tb_3 (List.mem_of_getElem? (i := 118) rfl)) rfl
set_option maxRecDepth 100000 in
theorem k_682 : Cond.code ⟨"OpenPots$Search", "leastLong", "(I)I"⟩ prog_8_method_15_code 5 (some .int) ∈ lw_t2 := t2_in (tb_3 (List.mem_of_getElem? (i := 119) rfl)) rfl
set_option maxRecDepth 100000 in
theorem k_683 : Cond.methodLink "OpenPots" 230 ⟨"OpenPots$Search", "workAt", "(I)I"⟩ ∈ lw_t2 := t2_in (tb_3 (List.mem_of_getElem? (i := 120) rfl)) rfl
set_option maxRecDepth 100000 in
theorem k_684 : Cond.instanceMethod ⟨"OpenPots$Search", "workAt", "(I)I"⟩ ∈ lw_t2 := t2_in (tb_3 (List.mem_of_getElem? (i := 121) rfl)) rfl
set_option maxRecDepth 100000 in
theorem k_685 : Cond.selects "OpenPots$Search" ⟨"OpenPots$Search", "workAt", "(I)I"⟩ ⟨"OpenPots$Search", "workAt", "(I)I"⟩ ∈ lw_t2 := t2_in (tb_3 (List.mem_of_getElem? (i := 122) rfl)) rfl
set_option maxRecDepth 100000 in
theorem k_686 : Cond.code ⟨"OpenPots$Search", "workAt", "(I)I"⟩ prog_8_method_8_code 5 (some .int) ∈ lw_t2 := t2_in (tb_3 (List.mem_of_getElem? (i := 123) rfl)) rfl
set_option maxRecDepth 100000 in
theorem k_687 : Cond.methodLink "OpenPots$Search" 57 ⟨"OpenPots$Search", "nextBehind", "(I)I"⟩ ∈ lw_t2 := t2_in (tb_3 (List.mem_of_getElem? (i := 124) rfl)) rfl
set_option maxRecDepth 100000 in
theorem k_689 : Cond.instanceMethod ⟨"OpenPots$Search", "nextBehind", "(I)I"⟩ ∈ lw_t2 := t2_in (tb_3 (List.mem_of_getElem? (i := 126) rfl)) rfl
set_option maxRecDepth 100000 in
theorem k_690 : Cond.code ⟨"OpenPots$Search", "nextBehind", "(I)I"⟩ prog_8_method_16_code 4 (some .int) ∈ lw_t2 := t2_in (tb_3 (List.mem_of_getElem? (i := 127) rfl)) rfl
set_option maxRecDepth 100000 in
theorem k_691 : Cond.methodLink "OpenPotsLaw" 51 ⟨"OpenPots", "from", "(III)I"⟩ ∈ lw_t2 := t2_in (tb_3 (List.mem_of_getElem? (i := 128) rfl)) rfl
set_option maxRecDepth 100000 in
theorem k_692 : Cond.instanceMethod ⟨"OpenPots", "from", "(III)I"⟩ ∈ lw_t2 := t2_in (tb_3 (List.mem_of_getElem? (i := 129) rfl)) rfl
set_option maxRecDepth 100000 in
theorem k_693 : Cond.selects "OpenPots" ⟨"OpenPots", "from", "(III)I"⟩ ⟨"OpenPots", "from", "(III)I"⟩ ∈ lw_t2 := t2_in (tb_3 (List.mem_of_getElem? (i := 130) rfl)) rfl
set_option maxRecDepth 100000 in
theorem k_694 : Cond.code ⟨"OpenPots", "from", "(III)I"⟩ prog_1_method_12_code 5 (some .int) ∈ lw_t2 := t2_in (tb_3 (List.mem_of_getElem? (i := 131) rfl)) rfl
set_option maxRecDepth 100000 in
theorem k_695 : Cond.methodLink "OpenPots" 233 ⟨"OpenPots$Orders", "setOfFirst", "(II)I"⟩ ∈ lw_t2 := t2_in (tb_3 (List.mem_of_getElem? (i := 132) rfl)) rfl
set_option maxRecDepth 100000 in
theorem k_696 : Cond.instanceMethod ⟨"OpenPots$Orders", "setOfFirst", "(II)I"⟩ ∈ lw_t2 := t2_in (tb_3 (List.mem_of_getElem? (i := 133) rfl)) rfl
set_option maxRecDepth 100000 in
theorem k_697 : Cond.selects "OpenPots$Orders" ⟨"OpenPots$Orders", "setOfFirst", "(II)I"⟩ ⟨"OpenPots$Orders", "setOfFirst", "(II)I"⟩ ∈ lw_t2 := t2_in (tb_3 (List.mem_of_getElem? (i := 134) rfl)) rfl
set_option maxRecDepth 100000 in
theorem k_698 : Cond.code ⟨"OpenPots$Orders", "setOfFirst", "(II)I"⟩ prog_5_method_5_code 5 (some .int) ∈ lw_t2 := t2_in (tb_3 (List.mem_of_getElem? (i := 135) rfl)) rfl
set_option maxRecDepth 100000 in
theorem k_699 : Cond.methodLink "OpenPots" 236 ⟨"OpenPots$Works", "isClosed", "(I)Z"⟩ ∈ lw_t2 := t2_in (tb_3 (List.mem_of_getElem? (i := 136) rfl)) rfl
set_option maxRecDepth 100000 in
theorem k_700 : Cond.instanceMethod ⟨"OpenPots$Works", "isClosed", "(I)Z"⟩ ∈ lw_t2 := t2_in (tb_3 (List.mem_of_getElem? (i := 137) rfl)) rfl
set_option maxRecDepth 100000 in
theorem k_701 : Cond.selects "OpenPots$Works" ⟨"OpenPots$Works", "isClosed", "(I)Z"⟩ ⟨"OpenPots$Works", "isClosed", "(I)Z"⟩ ∈ lw_t2 := t2_in (tb_3 (List.mem_of_getElem? (i := 138) rfl)) rfl
set_option maxRecDepth 100000 in
theorem k_702 : Cond.code ⟨"OpenPots$Works", "isClosed", "(I)Z"⟩ prog_12_method_10_code 3 (some .boolean) ∈ lw_t2 := t2_in (tb_3 (List.mem_of_getElem? (i := 139) rfl)) rfl
set_option maxRecDepth 100000 in
theorem k_703 : Cond.methodLink "OpenPots" 239 ⟨"OpenPots$Search", "nextFrom", "(I)I"⟩ ∈ lw_t2 := t2_in (tb_3 (List.mem_of_getElem? (i := 140) rfl)) rfl
set_option maxRecDepth 100000 in
theorem k_704 : Cond.instanceMethod ⟨"OpenPots$Search", "nextFrom", "(I)I"⟩ ∈ lw_t2 := t2_in (tb_3 (List.mem_of_getElem? (i := 141) rfl)) rfl
set_option maxRecDepth 100000 in
theorem k_705 : Cond.selects "OpenPots$Search" ⟨"OpenPots$Search", "nextFrom", "(I)I"⟩ ⟨"OpenPots$Search", "nextFrom", "(I)I"⟩ ∈ lw_t2 := t2_in (tb_3 (List.mem_of_getElem? (i := 142) rfl)) rfl
set_option maxRecDepth 100000 in
theorem k_706 : Cond.code ⟨"OpenPots$Search", "nextFrom", "(I)I"⟩ prog_8_method_7_code 2 (some .int) ∈ lw_t2 := t2_in (tb_3 (List.mem_of_getElem? (i := 143) rfl)) rfl
set_option maxRecDepth 100000 in
theorem k_707 : Cond.methodLink "OpenPotsLaw" 55 ⟨"OpenPots", "better", "(II)I"⟩ ∈ lw_t2 := t2_in (tb_3 (List.mem_of_getElem? (i := 144) rfl)) rfl
set_option maxRecDepth 100000 in
theorem k_708 : Cond.instanceMethod ⟨"OpenPots", "better", "(II)I"⟩ ∈ lw_t2 := t2_in (tb_3 (List.mem_of_getElem? (i := 145) rfl)) rfl
set_option maxRecDepth 100000 in
theorem k_709 : Cond.selects "OpenPots" ⟨"OpenPots", "better", "(II)I"⟩ ⟨"OpenPots", "better", "(II)I"⟩ ∈ lw_t2 := t2_in (tb_3 (List.mem_of_getElem? (i := 146) rfl)) rfl
set_option maxRecDepth 100000 in
theorem k_710 : Cond.code ⟨"OpenPots", "better", "(II)I"⟩ prog_1_method_13_code 5 (some .int) ∈ lw_t2 := t2_in (tb_3 (List.mem_of_getElem? (i := 147) rfl)) rfl
set_option maxRecDepth 100000 in
theorem k_711 : Cond.methodLink "OpenPots" 242 ⟨"OpenPots$Gauge", "beats", "(II[I[I)Z"⟩ ∈ lw_t2 := t2_in (tb_3 (List.mem_of_getElem? (i := 148) rfl)) rfl
set_option maxRecDepth 100000 in
theorem k_712 : Cond.instanceMethod ⟨"OpenPots$Gauge", "beats", "(II[I[I)Z"⟩ ∈ lw_t2 := t2_in (tb_3 (List.mem_of_getElem? (i := 149) rfl)) rfl
set_option maxRecDepth 100000 in
theorem k_713 : Cond.selects "OpenPots$Gauge" ⟨"OpenPots$Gauge", "beats", "(II[I[I)Z"⟩ ⟨"OpenPots$Gauge", "beats", "(II[I[I)Z"⟩ ∈ lw_t2 := t2_in (tb_3 (List.mem_of_getElem? (i := 150) rfl)) rfl
set_option maxRecDepth 100000 in
theorem k_714 : Cond.code ⟨"OpenPots$Gauge", "beats", "(II[I[I)Z"⟩ prog_3_method_4_code 6 (some .boolean) ∈ lw_t2 := t2_in (tb_3 (List.mem_of_getElem? (i := 151) rfl)) rfl
set_option maxRecDepth 100000 in
theorem k_715 : Cond.methodLink "OpenPotsLaw" 59 ⟨"OpenPots", "cross", "(I)I"⟩ ∈ lw_t2 := t2_in (tb_3 (List.mem_of_getElem? (i := 152) rfl)) rfl
set_option maxRecDepth 100000 in
theorem k_716 : Cond.instanceMethod ⟨"OpenPots", "cross", "(I)I"⟩ ∈ lw_t2 := t2_in (tb_3 (List.mem_of_getElem? (i := 153) rfl)) rfl
set_option maxRecDepth 100000 in
theorem k_717 : Cond.selects "OpenPots" ⟨"OpenPots", "cross", "(I)I"⟩ ⟨"OpenPots", "cross", "(I)I"⟩ ∈ lw_t2 := t2_in (tb_3 (List.mem_of_getElem? (i := 154) rfl)) rfl
set_option maxRecDepth 100000 in
theorem k_718 : Cond.code ⟨"OpenPots", "cross", "(I)I"⟩ prog_1_method_14_code 2 (some .int) ∈ lw_t2 := t2_in (tb_3 (List.mem_of_getElem? (i := 155) rfl)) rfl
set_option maxRecDepth 100000 in
theorem k_719 : Cond.methodLink "OpenPots" 246 ⟨"OpenPots$Bounds", "refresh", "()V"⟩ ∈ lw_t2 := t2_in (tb_3 (List.mem_of_getElem? (i := 156) rfl)) rfl
set_option maxRecDepth 100000 in
theorem k_720 : Cond.instanceMethod ⟨"OpenPots$Bounds", "refresh", "()V"⟩ ∈ lw_t2 := t2_in (tb_3 (List.mem_of_getElem? (i := 157) rfl)) rfl
set_option maxRecDepth 100000 in
theorem k_721 : Cond.selects "OpenPots$Bounds" ⟨"OpenPots$Bounds", "refresh", "()V"⟩ ⟨"OpenPots$Bounds", "refresh", "()V"⟩ ∈ lw_t2 := t2_in (tb_3 (List.mem_of_getElem? (i := 158) rfl)) rfl
set_option maxRecDepth 100000 in
theorem k_722 : Cond.code ⟨"OpenPots$Bounds", "refresh", "()V"⟩ prog_2_method_2_code 1 none ∈ lw_t2 := t2_in (tb_3 (List.mem_of_getElem? (i := 159) rfl)) rfl
set_option maxRecDepth 100000 in
theorem k_723 : Cond.methodLink "OpenPots$Bounds" 29 ⟨"OpenPots$Bounds", "fillCrossings", "()V"⟩ ∈ lw_t2 := t2_in (tb_3 (List.mem_of_getElem? (i := 160) rfl)) rfl
set_option maxRecDepth 100000 in
theorem k_725 : Cond.instanceMethod ⟨"OpenPots$Bounds", "fillCrossings", "()V"⟩ ∈ lw_t2 := t2_in (tb_3 (List.mem_of_getElem? (i := 162) rfl)) rfl
set_option maxRecDepth 100000 in
theorem k_726 : Cond.code ⟨"OpenPots$Bounds", "fillCrossings", "()V"⟩ prog_2_method_4_code 5 none ∈ lw_t2 := t2_in (tb_3 (List.mem_of_getElem? (i := 163) rfl)) rfl
set_option maxRecDepth 100000 in
theorem k_727 : Cond.constant "OpenPots$Bounds" 44 1000000 ∈ lw_t2 := t2_in (tb_3 (List.mem_of_getElem? (i := 164) rfl)) rfl
set_option maxRecDepth 100000 in
theorem k_728 : Cond.methodLink "OpenPots$Bounds" 45 ⟨"OpenPots$Works", "all", "()I"⟩ ∈ lw_t2 := t2_in (tb_3 (List.mem_of_getElem? (i := 165) rfl)) rfl
set_option maxRecDepth 100000 in
theorem k_729 : Cond.methodLink "OpenPots$Bounds" 49 ⟨"OpenPots$Works", "isClosed", "(I)Z"⟩ ∈ lw_t2 := t2_in (tb_3 (List.mem_of_getElem? (i := 166) rfl)) rfl
set_option maxRecDepth 100000 in
theorem k_730 : Cond.methodLink "OpenPots$Bounds" 53 ⟨"java/lang/Integer", "bitCount", "(I)I"⟩ ∈ lw_t2 := t2_in (tb_3 (List.mem_of_getElem? (i := 167) rfl)) rfl
set_option maxRecDepth 100000 in
theorem k_731 : Cond.methodLink "OpenPots$Bounds" 59 ⟨"OpenPots$Works", "neededBy", "(I)I"⟩ ∈ lw_t2 := t2_in (tb_3 (List.mem_of_getElem? (i := 168) rfl)) rfl
set_option maxRecDepth 100000 in
theorem k_732 : Cond.instanceMethod ⟨"OpenPots$Works", "neededBy", "(I)I"⟩ ∈ lw_t2 := t2_in (tb_3 (List.mem_of_getElem? (i := 169) rfl)) rfl
set_option maxRecDepth 100000 in
theorem k_733 : Cond.selects "OpenPots$Works" ⟨"OpenPots$Works", "neededBy", "(I)I"⟩ ⟨"OpenPots$Works", "neededBy", "(I)I"⟩ ∈ lw_t2 := t2_in (tb_3 (List.mem_of_getElem? (i := 170) rfl)) rfl
set_option maxRecDepth 100000 in
theorem k_734 : Cond.code ⟨"OpenPots$Works", "neededBy", "(I)I"⟩ prog_12_method_11_code 4 (some .int) ∈ lw_t2 := t2_in (tb_3 (List.mem_of_getElem? (i := 171) rfl)) rfl
set_option maxRecDepth 100000 in
theorem k_735 : Cond.methodLink "OpenPots$Bounds" 66 ⟨"OpenPots$Scale", "sum", "(I)I"⟩ ∈ lw_t2 := t2_in (tb_3 (List.mem_of_getElem? (i := 172) rfl)) rfl
set_option maxRecDepth 100000 in
theorem k_736 : Cond.methodLink "OpenPots$Bounds" 71 ⟨"java/lang/Math", "min", "(II)I"⟩ ∈ lw_t2 := t2_in (tb_3 (List.mem_of_getElem? (i := 173) rfl)) rfl
set_option maxRecDepth 100000 in
theorem k_737 : Cond.methodLink "OpenPots$Bounds" 32 ⟨"OpenPots$Bounds", "findKnot", "()V"⟩ ∈ lw_t2 := t2_in (tb_3 (List.mem_of_getElem? (i := 174) rfl)) rfl
set_option maxRecDepth 100000 in
theorem k_739 : Cond.instanceMethod ⟨"OpenPots$Bounds", "findKnot", "()V"⟩ ∈ lw_t2 := t2_in (tb_3 (List.mem_of_getElem? (i := 176) rfl)) rfl
set_option maxRecDepth 100000 in
theorem k_740 : Cond.code ⟨"OpenPots$Bounds", "findKnot", "()V"⟩ prog_2_method_5_code 3 none ∈ lw_t2 := t2_in (tb_3 (List.mem_of_getElem? (i := 177) rfl)) rfl
set_option maxRecDepth 100000 in
theorem k_741 : Cond.methodLink "OpenPots$Bounds" 74 ⟨"OpenPots$Bounds", "fillJoined", "()V"⟩ ∈ lw_t2 := t2_in (tb_3 (List.mem_of_getElem? (i := 178) rfl)) rfl
set_option maxRecDepth 100000 in
theorem k_743 : Cond.instanceMethod ⟨"OpenPots$Bounds", "fillJoined", "()V"⟩ ∈ lw_t2 := t2_in (tb_3 (List.mem_of_getElem? (i := 180) rfl)) rfl
set_option maxRecDepth 100000 in
theorem k_744 : Cond.code ⟨"OpenPots$Bounds", "fillJoined", "()V"⟩ prog_2_method_6_code 3 none ∈ lw_t2 := t2_in (tb_3 (List.mem_of_getElem? (i := 181) rfl)) rfl
set_option maxRecDepth 100000 in
theorem k_745 : Cond.methodLink "OpenPots$Bounds" 83 ⟨"OpenPots$Bounds", "isKnot", "(I)Z"⟩ ∈ lw_t2 := t2_in (tb_3 (List.mem_of_getElem? (i := 182) rfl)) rfl
set_option maxRecDepth 100000 in
theorem k_747 : Cond.instanceMethod ⟨"OpenPots$Bounds", "isKnot", "(I)Z"⟩ ∈ lw_t2 := t2_in (tb_3 (List.mem_of_getElem? (i := 184) rfl)) rfl
set_option maxRecDepth 100000 in
theorem k_748 : Cond.code ⟨"OpenPots$Bounds", "isKnot", "(I)Z"⟩ prog_2_method_7_code 3 (some .boolean) ∈ lw_t2 := t2_in (tb_3 (List.mem_of_getElem? (i := 185) rfl)) rfl
set_option maxRecDepth 100000 in
theorem k_749 : Cond.methodLink "OpenPotsLaw" 63 ⟨"OpenPots", "knot", "(I)I"⟩ ∈ lw_t2 := t2_in (tb_3 (List.mem_of_getElem? (i := 186) rfl)) rfl
set_option maxRecDepth 100000 in
theorem k_750 : Cond.instanceMethod ⟨"OpenPots", "knot", "(I)I"⟩ ∈ lw_t2 := t2_in (tb_3 (List.mem_of_getElem? (i := 187) rfl)) rfl
set_option maxRecDepth 100000 in
theorem k_751 : Cond.selects "OpenPots" ⟨"OpenPots", "knot", "(I)I"⟩ ⟨"OpenPots", "knot", "(I)I"⟩ ∈ lw_t2 := t2_in (tb_3 (List.mem_of_getElem? (i := 188) rfl)) rfl
set_option maxRecDepth 100000 in
theorem k_752 : Cond.code ⟨"OpenPots", "knot", "(I)I"⟩ prog_1_method_15_code 2 (some .int) ∈ lw_t2 := t2_in (tb_3 (List.mem_of_getElem? (i := 189) rfl)) rfl
set_option maxRecDepth 100000 in
theorem k_753 : Cond.methodLink "OpenPotsLaw" 67 ⟨"OpenPots", "bound", "()I"⟩ ∈ lw_t2 := t2_in (tb_3 (List.mem_of_getElem? (i := 190) rfl)) rfl
set_option maxRecDepth 100000 in
theorem k_754 : Cond.instanceMethod ⟨"OpenPots", "bound", "()I"⟩ ∈ lw_t2 := t2_in (tb_3 (List.mem_of_getElem? (i := 191) rfl)) rfl
set_option maxRecDepth 100000 in
theorem k_755 : Cond.selects "OpenPots" ⟨"OpenPots", "bound", "()I"⟩ ⟨"OpenPots", "bound", "()I"⟩ ∈ lw_t2 := t2_in (tb_3 (List.mem_of_getElem? (i := 192) rfl)) rfl
set_option maxRecDepth 100000 in
theorem k_756 : Cond.code ⟨"OpenPots", "bound", "()I"⟩ prog_1_method_16_code 1 (some .int) ∈ lw_t2 := t2_in (tb_3 (List.mem_of_getElem? (i := 193) rfl)) rfl
set_option maxRecDepth 100000 in
theorem k_757 : Cond.methodLink "OpenPots" 256 ⟨"OpenPots$Bounds", "greatestCross", "()I"⟩ ∈ lw_t2 := t2_in (tb_3 (List.mem_of_getElem? (i := 194) rfl)) rfl
set_option maxRecDepth 100000 in
theorem k_758 : Cond.instanceMethod ⟨"OpenPots$Bounds", "greatestCross", "()I"⟩ ∈ lw_t2 := t2_in (tb_3 (List.mem_of_getElem? (i := 195) rfl)) rfl
set_option maxRecDepth 100000 in
theorem k_759 : Cond.selects "OpenPots$Bounds" ⟨"OpenPots$Bounds", "greatestCross", "()I"⟩ ⟨"OpenPots$Bounds", "greatestCross", "()I"⟩ ∈ lw_t2 := t2_in (tb_3 (List.mem_of_getElem? (i := 196) rfl)) rfl
set_option maxRecDepth 100000 in
theorem k_760 : Cond.code ⟨"OpenPots$Bounds", "greatestCross", "()I"⟩ prog_2_method_3_code 3 (some .int) ∈ lw_t2 := t2_in (tb_3 (List.mem_of_getElem? (i := 197) rfl)) rfl
set_option maxRecDepth 100000 in
theorem k_761 : Cond.methodLink "OpenPots$Bounds" 38 ⟨"java/lang/Math", "max", "(II)I"⟩ ∈ lw_t2 := t2_in (tb_3 (List.mem_of_getElem? (i := 198) rfl)) rfl
set_option maxRecDepth 100000 in
theorem k_762 : Cond.methodLink "OpenPots" 259 ⟨"OpenPots$Works", "greatestNeed", "()I"⟩ ∈ lw_t2 := t2_in (tb_3 (List.mem_of_getElem? (i := 199) rfl)) rfl
set_option maxRecDepth 100000 in
theorem k_763 : Cond.instanceMethod ⟨"OpenPots$Works", "greatestNeed", "()I"⟩ ∈ lw_t2 := t2_in (tb_3 (List.mem_of_getElem? (i := 200) rfl)) rfl
set_option maxRecDepth 100000 in
theorem k_764 : Cond.selects "OpenPots$Works" ⟨"OpenPots$Works", "greatestNeed", "()I"⟩ ⟨"OpenPots$Works", "greatestNeed", "()I"⟩ ∈ lw_t2 := t2_in (tb_3 (List.mem_of_getElem? (i := 201) rfl)) rfl
set_option maxRecDepth 100000 in
theorem k_765 : Cond.code ⟨"OpenPots$Works", "greatestNeed", "()I"⟩ prog_12_method_12_code 3 (some .int) ∈ lw_t2 := t2_in (tb_3 (List.mem_of_getElem? (i := 202) rfl)) rfl
set_option maxRecDepth 100000 in
theorem k_766 : Cond.methodLink "OpenPots$Works" 46 ⟨"OpenPots$Scale", "sum", "(I)I"⟩ ∈ lw_t2 := t2_in (tb_3 (List.mem_of_getElem? (i := 203) rfl)) rfl
set_option maxRecDepth 100000 in
theorem k_767 : Cond.methodLink "OpenPots$Works" 50 ⟨"java/lang/Math", "max", "(II)I"⟩ ∈ lw_t2 := t2_in (tb_3 (List.mem_of_getElem? (i := 204) rfl)) rfl
set_option maxRecDepth 100000 in
theorem k_768 : Cond.methodLink "OpenPots" 262 ⟨"java/lang/Math", "max", "(II)I"⟩ ∈ lw_t2 := t2_in (tb_3 (List.mem_of_getElem? (i := 205) rfl)) rfl
set_option maxRecDepth 100000 in
theorem k_769 : Cond.methodLink "OpenPotsLaw" 72 ⟨"OpenPots", "part", "(I)I"⟩ ∈ lw_t2 := t2_in (tb_3 (List.mem_of_getElem? (i := 206) rfl)) rfl
set_option maxRecDepth 100000 in
theorem k_770 : Cond.instanceMethod ⟨"OpenPots", "part", "(I)I"⟩ ∈ lw_t2 := t2_in (tb_3 (List.mem_of_getElem? (i := 207) rfl)) rfl
set_option maxRecDepth 100000 in
theorem k_771 : Cond.selects "OpenPots" ⟨"OpenPots", "part", "(I)I"⟩ ⟨"OpenPots", "part", "(I)I"⟩ ∈ lw_t2 := t2_in (tb_3 (List.mem_of_getElem? (i := 208) rfl)) rfl
set_option maxRecDepth 100000 in
theorem k_772 : Cond.code ⟨"OpenPots", "part", "(I)I"⟩ prog_1_method_17_code 2 (some .int) ∈ lw_t2 := t2_in (tb_3 (List.mem_of_getElem? (i := 209) rfl)) rfl
set_option maxRecDepth 100000 in
theorem k_773 : Cond.methodLink "OpenPots" 267 ⟨"OpenPots$Bounds", "countParts", "()I"⟩ ∈ lw_t2 := t2_in (tb_3 (List.mem_of_getElem? (i := 210) rfl)) rfl
set_option maxRecDepth 100000 in
theorem k_774 : Cond.instanceMethod ⟨"OpenPots$Bounds", "countParts", "()I"⟩ ∈ lw_t2 := t2_in (tb_3 (List.mem_of_getElem? (i := 211) rfl)) rfl
set_option maxRecDepth 100000 in
theorem k_775 : Cond.selects "OpenPots$Bounds" ⟨"OpenPots$Bounds", "countParts", "()I"⟩ ⟨"OpenPots$Bounds", "countParts", "()I"⟩ ∈ lw_t2 := t2_in (tb_3 (List.mem_of_getElem? (i := 212) rfl)) rfl
set_option maxRecDepth 100000 in
theorem k_776 : Cond.code ⟨"OpenPots$Bounds", "countParts", "()I"⟩ prog_2_method_8_code 3 (some .int) ∈ lw_t2 := t2_in (tb_3 (List.mem_of_getElem? (i := 213) rfl)) rfl
set_option maxRecDepth 100000 in
theorem k_777 : Cond.methodLink "OpenPots$Bounds" 89 ⟨"OpenPots$Bounds", "leastOfPart", "(I)I"⟩ ∈ lw_t2 := t2_in (tb_3 (List.mem_of_getElem? (i := 214) rfl)) rfl
set_option maxRecDepth 100000 in
theorem k_778 : Cond.instanceMethod ⟨"OpenPots$Bounds", "leastOfPart", "(I)I"⟩ ∈ lw_t2 := t2_in (tb_3 (List.mem_of_getElem? (i := 215) rfl)) rfl
set_option maxRecDepth 100000 in
theorem k_779 : Cond.selects "OpenPots$Bounds" ⟨"OpenPots$Bounds", "leastOfPart", "(I)I"⟩ ⟨"OpenPots$Bounds", "leastOfPart", "(I)I"⟩ ∈ lw_t2 := t2_in (tb_3 (List.mem_of_getElem? (i := 216) rfl)) rfl
set_option maxRecDepth 100000 in
theorem k_780 : Cond.code ⟨"OpenPots$Bounds", "leastOfPart", "(I)I"⟩ prog_2_method_9_code 6 (some .int) ∈ lw_t2 := t2_in (tb_3 (List.mem_of_getElem? (i := 217) rfl)) rfl
set_option maxRecDepth 100000 in
theorem k_781 : Cond.methodLink "OpenPots" 270 ⟨"OpenPots$Bounds", "leastOfPart", "(I)I"⟩ ∈ lw_t2 := t2_in (tb_3 (List.mem_of_getElem? (i := 218) rfl)) rfl
set_option maxRecDepth 100000 in
theorem k_782 : Cond.methodLink "OpenPotsLaw" 76 ⟨"OpenPots", "within", "()I"⟩ ∈ lw_t2 := t2_in (tb_3 (List.mem_of_getElem? (i := 219) rfl)) rfl
set_option maxRecDepth 100000 in
theorem k_783 : Cond.instanceMethod ⟨"OpenPots", "within", "()I"⟩ ∈ lw_t2 := t2_in (tb_3 (List.mem_of_getElem? (i := 220) rfl)) rfl
set_option maxRecDepth 100000 in
theorem k_784 : Cond.selects "OpenPots" ⟨"OpenPots", "within", "()I"⟩ ⟨"OpenPots", "within", "()I"⟩ ∈ lw_t2 := t2_in (tb_3 (List.mem_of_getElem? (i := 221) rfl)) rfl
set_option maxRecDepth 100000 in
theorem k_785 : Cond.code ⟨"OpenPots", "within", "()I"⟩ prog_1_method_18_code 1 (some .int) ∈ lw_t2 := t2_in (tb_3 (List.mem_of_getElem? (i := 222) rfl)) rfl
set_option maxRecDepth 100000 in
theorem k_786 : Cond.methodLink "OpenPots" 273 ⟨"OpenPots$Bounds", "allWithin", "()I"⟩ ∈ lw_t2 := t2_in (tb_3 (List.mem_of_getElem? (i := 223) rfl)) rfl
set_option maxRecDepth 100000 in
theorem k_787 : Cond.instanceMethod ⟨"OpenPots$Bounds", "allWithin", "()I"⟩ ∈ lw_t2 := t2_in (tb_3 (List.mem_of_getElem? (i := 224) rfl)) rfl
set_option maxRecDepth 100000 in
theorem k_788 : Cond.selects "OpenPots$Bounds" ⟨"OpenPots$Bounds", "allWithin", "()I"⟩ ⟨"OpenPots$Bounds", "allWithin", "()I"⟩ ∈ lw_t2 := t2_in (tb_3 (List.mem_of_getElem? (i := 225) rfl)) rfl
set_option maxRecDepth 100000 in
theorem k_789 : Cond.code ⟨"OpenPots$Bounds", "allWithin", "()I"⟩ prog_2_method_10_code 4 (some .int) ∈ lw_t2 := t2_in (tb_3 (List.mem_of_getElem? (i := 226) rfl)) rfl
set_option maxRecDepth 100000 in
theorem k_790 : Cond.methodLink "OpenPots$Bounds" 92 ⟨"OpenPots$Bounds", "isWithin", "(II)Z"⟩ ∈ lw_t2 := t2_in (tb_3 (List.mem_of_getElem? (i := 227) rfl)) rfl
set_option maxRecDepth 100000 in
theorem k_792 : Cond.instanceMethod ⟨"OpenPots$Bounds", "isWithin", "(II)Z"⟩ ∈ lw_t2 := t2_in (tb_3 (List.mem_of_getElem? (i := 229) rfl)) rfl
set_option maxRecDepth 100000 in
theorem k_793 : Cond.code ⟨"OpenPots$Bounds", "isWithin", "(II)Z"⟩ prog_2_method_11_code 3 (some .boolean) ∈ lw_t2 := t2_in (tb_3 (List.mem_of_getElem? (i := 230) rfl)) rfl
set_option maxRecDepth 100000 in
theorem k_794 : Cond.methodLink "OpenPotsLaw" 80 ⟨"OpenPots", "build", "(II)I"⟩ ∈ lw_t2 := t2_in (tb_3 (List.mem_of_getElem? (i := 231) rfl)) rfl
set_option maxRecDepth 100000 in
theorem k_795 : Cond.instanceMethod ⟨"OpenPots", "build", "(II)I"⟩ ∈ lw_t2 := t2_in (tb_3 (List.mem_of_getElem? (i := 232) rfl)) rfl
set_option maxRecDepth 100000 in
theorem k_796 : Cond.selects "OpenPots" ⟨"OpenPots", "build", "(II)I"⟩ ⟨"OpenPots", "build", "(II)I"⟩ ∈ lw_t2 := t2_in (tb_3 (List.mem_of_getElem? (i := 233) rfl)) rfl
set_option maxRecDepth 100000 in
theorem k_797 : Cond.code ⟨"OpenPots", "build", "(II)I"⟩ prog_1_method_19_code 5 (some .int) ∈ lw_t2 := t2_in (tb_3 (List.mem_of_getElem? (i := 234) rfl)) rfl
set_option maxRecDepth 100000 in
theorem k_798 : Cond.methodLink "OpenPots" 276 ⟨"OpenPots$Works", "choose", "(III)I"⟩ ∈ lw_t2 := t2_in (tb_3 (List.mem_of_getElem? (i := 235) rfl)) rfl
set_option maxRecDepth 100000 in
theorem k_799 : Cond.instanceMethod ⟨"OpenPots$Works", "choose", "(III)I"⟩ ∈ lw_t2 := t2_in (tb_3 (List.mem_of_getElem? (i := 236) rfl)) rfl
set_option maxRecDepth 100000 in
theorem k_800 : Cond.selects "OpenPots$Works" ⟨"OpenPots$Works", "choose", "(III)I"⟩ ⟨"OpenPots$Works", "choose", "(III)I"⟩ ∈ lw_t2 := t2_in (tb_3 (List.mem_of_getElem? (i := 237) rfl)) rfl
set_option maxRecDepth 100000 in
theorem k_801 : Cond.code ⟨"OpenPots$Works", "choose", "(III)I"⟩ prog_12_method_14_code 9 (some .int) ∈ lw_t2 := t2_in (tb_3 (List.mem_of_getElem? (i := 238) rfl)) rfl
set_option maxRecDepth 100000 in
theorem k_802 : Cond.constant "OpenPots$Works" 60 1000000 ∈ lw_t2 := t2_in (tb_3 (List.mem_of_getElem? (i := 239) rfl)) rfl
set_option maxRecDepth 100000 in
theorem k_803 : Cond.methodLink "OpenPots$Works" 61 ⟨"OpenPots$Works", "score", "(III)I"⟩ ∈ lw_t2 := t2_in (tb_4 (List.mem_of_getElem? (i := 0) rfl)) rfl
set_option maxRecDepth 100000 in
theorem k_805 : Cond.instanceMethod ⟨"OpenPots$Works", "score", "(III)I"⟩ ∈ lw_t2 := t2_in (tb_4 (List.mem_of_getElem? (i := 2) rfl)) rfl
set_option maxRecDepth 100000 in
theorem k_806 : Cond.code ⟨"OpenPots$Works", "score", "(III)I"⟩ prog_12_method_15_code 7 (some .int) ∈ lw_t2 := t2_in (tb_4 (List.mem_of_getElem? (i := 3) rfl)) rfl
set_option maxRecDepth 100000 in
theorem k_807 : Cond.methodLink "OpenPots$Works" 65 ⟨"OpenPots$Works", "all", "()I"⟩ ∈ lw_t2 := t2_in (tb_4 (List.mem_of_getElem? (i := 4) rfl)) rfl
set_option maxRecDepth 100000 in
theorem k_808 : Cond.methodLink "OpenPots$Works" 69 ⟨"OpenPots$Works", "neededBy", "(I)I"⟩ ∈ lw_t2 := t2_in (tb_4 (List.mem_of_getElem? (i := 5) rfl)) rfl
set_option maxRecDepth 100000 in
theorem k_809 : Cond.methodLink "OpenPotsLaw" 84 ⟨"OpenPots", "move", "(I)I"⟩ ∈ lw_t2 := t2_in (tb_4 (List.mem_of_getElem? (i := 6) rfl)) rfl
set_option maxRecDepth 100000 in
theorem k_810 : Cond.instanceMethod ⟨"OpenPots", "move", "(I)I"⟩ ∈ lw_t2 := t2_in (tb_4 (List.mem_of_getElem? (i := 7) rfl)) rfl
set_option maxRecDepth 100000 in
theorem k_811 : Cond.selects "OpenPots" ⟨"OpenPots", "move", "(I)I"⟩ ⟨"OpenPots", "move", "(I)I"⟩ ∈ lw_t2 := t2_in (tb_4 (List.mem_of_getElem? (i := 8) rfl)) rfl
set_option maxRecDepth 100000 in
theorem k_812 : Cond.code ⟨"OpenPots", "move", "(I)I"⟩ prog_1_method_20_code 2 (some .int) ∈ lw_t2 := t2_in (tb_4 (List.mem_of_getElem? (i := 9) rfl)) rfl
set_option maxRecDepth 100000 in
theorem k_813 : Cond.methodLink "OpenPots" 280 ⟨"OpenPots", "isLawful", "(I)Z"⟩ ∈ lw_t2 := t2_in (tb_4 (List.mem_of_getElem? (i := 10) rfl)) rfl
set_option maxRecDepth 100000 in
theorem k_815 : Cond.instanceMethod ⟨"OpenPots", "isLawful", "(I)Z"⟩ ∈ lw_t2 := t2_in (tb_4 (List.mem_of_getElem? (i := 12) rfl)) rfl
set_option maxRecDepth 100000 in
theorem k_816 : Cond.code ⟨"OpenPots", "isLawful", "(I)Z"⟩ prog_1_method_22_code 2 (some .boolean) ∈ lw_t2 := t2_in (tb_4 (List.mem_of_getElem? (i := 13) rfl)) rfl
set_option maxRecDepth 100000 in
theorem k_817 : Cond.methodLink "OpenPots" 283 ⟨"OpenPots$Mover", "improve", "([I)I"⟩ ∈ lw_t2 := t2_in (tb_4 (List.mem_of_getElem? (i := 14) rfl)) rfl
set_option maxRecDepth 100000 in
theorem k_818 : Cond.instanceMethod ⟨"OpenPots$Mover", "improve", "([I)I"⟩ ∈ lw_t2 := t2_in (tb_4 (List.mem_of_getElem? (i := 15) rfl)) rfl
set_option maxRecDepth 100000 in
theorem k_819 : Cond.selects "OpenPots$Mover" ⟨"OpenPots$Mover", "improve", "([I)I"⟩ ⟨"OpenPots$Mover", "improve", "([I)I"⟩ ∈ lw_t2 := t2_in (tb_4 (List.mem_of_getElem? (i := 16) rfl)) rfl
set_option maxRecDepth 100000 in
theorem k_820 : Cond.code ⟨"OpenPots$Mover", "improve", "([I)I"⟩ prog_4_method_2_code 3 (some .int) ∈ lw_t2 := t2_in (tb_4 (List.mem_of_getElem? (i := 17) rfl)) rfl
set_option maxRecDepth 100000 in
theorem k_821 : Cond.methodLink "OpenPots$Mover" 26 ⟨"java/lang/System", "arraycopy", "(Ljava/lang/Object;ILjava/lang/Object;II)V"⟩ ∈ lw_t2 := t2_in (tb_4 (List.mem_of_getElem? (i := 18) rfl)) rfl
set_option maxRecDepth 100000 in
theorem k_822 : Cond.methodLink "OpenPots$Mover" 32 ⟨"OpenPots$Gauge", "measure", "([I)V"⟩ ∈ lw_t2 := t2_in (tb_4 (List.mem_of_getElem? (i := 19) rfl)) rfl
set_option maxRecDepth 100000 in
theorem k_823 : Cond.constant "OpenPots$Mover" 47 1000000 ∈ lw_t2 := t2_in (tb_4 (List.mem_of_getElem? (i := 20) rfl)) rfl
set_option maxRecDepth 100000 in
theorem k_824 : Cond.methodLink "OpenPots$Mover" 48 ⟨"OpenPots$Mover", "doFirstMove", "()Z"⟩ ∈ lw_t2 := t2_in (tb_4 (List.mem_of_getElem? (i := 21) rfl)) rfl
set_option maxRecDepth 100000 in
theorem k_826 : Cond.instanceMethod ⟨"OpenPots$Mover", "doFirstMove", "()Z"⟩ ∈ lw_t2 := t2_in (tb_4 (List.mem_of_getElem? (i := 23) rfl)) rfl
set_option maxRecDepth 100000 in
theorem k_827 : Cond.code ⟨"OpenPots$Mover", "doFirstMove", "()Z"⟩ prog_4_method_3_code 3 (some .boolean) ∈ lw_t2 := t2_in (tb_4 (List.mem_of_getElem? (i := 24) rfl)) rfl
set_option maxRecDepth 100000 in
theorem k_828 : Cond.methodLink "OpenPots$Mover" 57 ⟨"OpenPots$Mover", "isGood", "(II)Z"⟩ ∈ lw_t2 := t2_in (tb_4 (List.mem_of_getElem? (i := 25) rfl)) rfl
set_option maxRecDepth 100000 in
theorem k_830 : Cond.instanceMethod ⟨"OpenPots$Mover", "isGood", "(II)Z"⟩ ∈ lw_t2 := t2_in (tb_4 (List.mem_of_getElem? (i := 27) rfl)) rfl
set_option maxRecDepth 100000 in
theorem k_831 : Cond.code ⟨"OpenPots$Mover", "isGood", "(II)Z"⟩ prog_4_method_4_code 3 (some .boolean) ∈ lw_t2 := t2_in (tb_4 (List.mem_of_getElem? (i := 28) rfl)) rfl
set_option maxRecDepth 100000 in
theorem k_832 : Cond.methodLink "OpenPots$Mover" 65 ⟨"OpenPots$Gauge", "beats", "(II[I[I)Z"⟩ ∈ lw_t2 := t2_in (tb_4 (List.mem_of_getElem? (i := 29) rfl)) rfl
set_option maxRecDepth 100000 in
theorem k_833 : Cond.methodLink "OpenPotsLaw" 88 ⟨"OpenPots", "moves", "(I)I"⟩ ∈ lw_t2 := t2_in (tb_4 (List.mem_of_getElem? (i := 30) rfl)) rfl
set_option maxRecDepth 100000 in
theorem k_834 : Cond.instanceMethod ⟨"OpenPots", "moves", "(I)I"⟩ ∈ lw_t2 := t2_in (tb_4 (List.mem_of_getElem? (i := 31) rfl)) rfl
set_option maxRecDepth 100000 in
theorem k_835 : Cond.selects "OpenPots" ⟨"OpenPots", "moves", "(I)I"⟩ ⟨"OpenPots", "moves", "(I)I"⟩ ∈ lw_t2 := t2_in (tb_4 (List.mem_of_getElem? (i := 32) rfl)) rfl
set_option maxRecDepth 100000 in
theorem k_836 : Cond.code ⟨"OpenPots", "moves", "(I)I"⟩ prog_1_method_21_code 2 (some .int) ∈ lw_t2 := t2_in (tb_4 (List.mem_of_getElem? (i := 33) rfl)) rfl
set_option maxRecDepth 100000 in
theorem k_837 : Cond.methodLink "OpenPotsLaw" 92 ⟨"OpenPots", "cheapest", "(II)I"⟩ ∈ lw_t2 := t2_in (tb_4 (List.mem_of_getElem? (i := 34) rfl)) rfl
set_option maxRecDepth 100000 in
theorem k_838 : Cond.instanceMethod ⟨"OpenPots", "cheapest", "(II)I"⟩ ∈ lw_t2 := t2_in (tb_4 (List.mem_of_getElem? (i := 35) rfl)) rfl
set_option maxRecDepth 100000 in
theorem k_839 : Cond.selects "OpenPots" ⟨"OpenPots", "cheapest", "(II)I"⟩ ⟨"OpenPots", "cheapest", "(II)I"⟩ ∈ lw_t2 := t2_in (tb_4 (List.mem_of_getElem? (i := 36) rfl)) rfl
set_option maxRecDepth 100000 in
theorem k_840 : Cond.code ⟨"OpenPots", "cheapest", "(II)I"⟩ prog_1_method_23_code 3 (some .int) ∈ lw_t2 := t2_in (tb_4 (List.mem_of_getElem? (i := 37) rfl)) rfl
set_option maxRecDepth 100000 in
theorem k_841 : Cond.methodLink "OpenPots" 290 ⟨"OpenPots$Room", "leastPrice", "([II)I"⟩ ∈ lw_t2 := t2_in (tb_4 (List.mem_of_getElem? (i := 38) rfl)) rfl
set_option maxRecDepth 100000 in
theorem k_842 : Cond.instanceMethod ⟨"OpenPots$Room", "leastPrice", "([II)I"⟩ ∈ lw_t2 := t2_in (tb_4 (List.mem_of_getElem? (i := 39) rfl)) rfl
set_option maxRecDepth 100000 in
theorem k_843 : Cond.selects "OpenPots$Room" ⟨"OpenPots$Room", "leastPrice", "([II)I"⟩ ⟨"OpenPots$Room", "leastPrice", "([II)I"⟩ ∈ lw_t2 := t2_in (tb_4 (List.mem_of_getElem? (i := 40) rfl)) rfl
set_option maxRecDepth 100000 in
theorem k_844 : Cond.code ⟨"OpenPots$Room", "leastPrice", "([II)I"⟩ prog_6_method_3_code 6 (some .int) ∈ lw_t2 := t2_in (tb_4 (List.mem_of_getElem? (i := 41) rfl)) rfl
set_option maxRecDepth 100000 in
theorem k_845 : Cond.methodLink "OpenPots$Room" 57 ⟨"OpenPots$Room", "goOn", "([III)V"⟩ ∈ lw_t2 := t2_in (tb_4 (List.mem_of_getElem? (i := 42) rfl)) rfl
set_option maxRecDepth 100000 in
theorem k_847 : Cond.instanceMethod ⟨"OpenPots$Room", "goOn", "([III)V"⟩ ∈ lw_t2 := t2_in (tb_4 (List.mem_of_getElem? (i := 44) rfl)) rfl
set_option maxRecDepth 100000 in
theorem k_848 : Cond.code ⟨"OpenPots$Room", "goOn", "([III)V"⟩ prog_6_method_4_code 10 none ∈ lw_t2 := t2_in (tb_4 (List.mem_of_getElem? (i := 45) rfl)) rfl
set_option maxRecDepth 100000 in
theorem k_849 : Cond.methodLink "OpenPots$Room" 75 ⟨"OpenPots$Room", "fillFar", "(I)V"⟩ ∈ lw_t2 := t2_in (tb_4 (List.mem_of_getElem? (i := 46) rfl)) rfl
set_option maxRecDepth 100000 in
theorem k_851 : Cond.instanceMethod ⟨"OpenPots$Room", "fillFar", "(I)V"⟩ ∈ lw_t2 := t2_in (tb_4 (List.mem_of_getElem? (i := 48) rfl)) rfl
set_option maxRecDepth 100000 in
theorem k_852 : Cond.code ⟨"OpenPots$Room", "fillFar", "(I)V"⟩ prog_6_method_5_code 4 none ∈ lw_t2 := t2_in (tb_4 (List.mem_of_getElem? (i := 49) rfl)) rfl
set_option maxRecDepth 100000 in
theorem k_853 : Cond.methodLink "OpenPots$Room" 79 ⟨"java/lang/Integer", "bitCount", "(I)I"⟩ ∈ lw_t2 := t2_in (tb_4 (List.mem_of_getElem? (i := 50) rfl)) rfl
set_option maxRecDepth 100000 in
theorem k_854 : Cond.constant "OpenPots$Room" 84 1000000 ∈ lw_t2 := t2_in (tb_4 (List.mem_of_getElem? (i := 51) rfl)) rfl
set_option maxRecDepth 100000 in
theorem k_855 : Cond.methodLink "OpenPots$Room" 65 ⟨"OpenPots$Scale", "sum", "(I)I"⟩ ∈ lw_t2 := t2_in (tb_4 (List.mem_of_getElem? (i := 52) rfl)) rfl
set_option maxRecDepth 100000 in
theorem k_856 : Cond.methodLink "OpenPots$Room" 88 ⟨"java/lang/Math", "min", "(II)I"⟩ ∈ lw_t2 := t2_in (tb_4 (List.mem_of_getElem? (i := 53) rfl)) rfl
set_option maxRecDepth 100000 in
theorem k_857 : Cond.methodLink "OpenPots$Room" 71 ⟨"OpenPots$Room", "closeSome", "(II)V"⟩ ∈ lw_t2 := t2_in (tb_4 (List.mem_of_getElem? (i := 54) rfl)) rfl
set_option maxRecDepth 100000 in
theorem k_859 : Cond.instanceMethod ⟨"OpenPots$Room", "closeSome", "(II)V"⟩ ∈ lw_t2 := t2_in (tb_4 (List.mem_of_getElem? (i := 56) rfl)) rfl
set_option maxRecDepth 100000 in
theorem k_860 : Cond.code ⟨"OpenPots$Room", "closeSome", "(II)V"⟩ prog_6_method_6_code 5 none ∈ lw_t2 := t2_in (tb_4 (List.mem_of_getElem? (i := 57) rfl)) rfl
set_option maxRecDepth 100000 in
theorem k_861 : Cond.methodLink "OpenPots$Room" 91 ⟨"OpenPots$Room", "closeOne", "(I)V"⟩ ∈ lw_t2 := t2_in (tb_4 (List.mem_of_getElem? (i := 58) rfl)) rfl
set_option maxRecDepth 100000 in
theorem k_863 : Cond.instanceMethod ⟨"OpenPots$Room", "closeOne", "(I)V"⟩ ∈ lw_t2 := t2_in (tb_4 (List.mem_of_getElem? (i := 60) rfl)) rfl
set_option maxRecDepth 100000 in
theorem k_864 : Cond.code ⟨"OpenPots$Room", "closeOne", "(I)V"⟩ prog_6_method_7_code 4 none ∈ lw_t2 := t2_in (tb_4 (List.mem_of_getElem? (i := 61) rfl)) rfl
set_option maxRecDepth 100000 in
theorem k_865 : Cond.methodLink "OpenPotsLaw" 96 ⟨"OpenPots", "room", "(II)I"⟩ ∈ lw_t2 := t2_in (tb_4 (List.mem_of_getElem? (i := 62) rfl)) rfl
set_option maxRecDepth 100000 in
theorem k_866 : Cond.instanceMethod ⟨"OpenPots", "room", "(II)I"⟩ ∈ lw_t2 := t2_in (tb_4 (List.mem_of_getElem? (i := 63) rfl)) rfl
set_option maxRecDepth 100000 in
theorem k_867 : Cond.selects "OpenPots" ⟨"OpenPots", "room", "(II)I"⟩ ⟨"OpenPots", "room", "(II)I"⟩ ∈ lw_t2 := t2_in (tb_4 (List.mem_of_getElem? (i := 64) rfl)) rfl
set_option maxRecDepth 100000 in
theorem k_868 : Cond.code ⟨"OpenPots", "room", "(II)I"⟩ prog_1_method_24_code 3 (some .int) ∈ lw_t2 := t2_in (tb_4 (List.mem_of_getElem? (i := 65) rfl)) rfl
set_option maxRecDepth 100000 in
theorem k_869 : Cond.methodLink "OpenPots" 294 ⟨"OpenPots$Room", "leastRoom", "([II)I"⟩ ∈ lw_t2 := t2_in (tb_4 (List.mem_of_getElem? (i := 66) rfl)) rfl
set_option maxRecDepth 100000 in
theorem k_870 : Cond.instanceMethod ⟨"OpenPots$Room", "leastRoom", "([II)I"⟩ ∈ lw_t2 := t2_in (tb_4 (List.mem_of_getElem? (i := 67) rfl)) rfl
set_option maxRecDepth 100000 in
theorem k_871 : Cond.selects "OpenPots$Room" ⟨"OpenPots$Room", "leastRoom", "([II)I"⟩ ⟨"OpenPots$Room", "leastRoom", "([II)I"⟩ ∈ lw_t2 := t2_in (tb_4 (List.mem_of_getElem? (i := 68) rfl)) rfl
set_option maxRecDepth 100000 in
theorem k_872 : Cond.code ⟨"OpenPots$Room", "leastRoom", "([II)I"⟩ prog_6_method_2_code 6 (some .int) ∈ lw_t2 := t2_in (tb_4 (List.mem_of_getElem? (i := 69) rfl)) rfl
set_option maxRecDepth 100000 in
theorem k_873 : Cond.methodLink "OpenPots$Room" 26 ⟨"OpenPots$Works", "greatestNeed", "()I"⟩ ∈ lw_t2 := t2_in (tb_4 (List.mem_of_getElem? (i := 70) rfl)) rfl
set_option maxRecDepth 100000 in
theorem k_874 : Cond.methodLink "OpenPots$Room" 38 ⟨"java/lang/Math", "max", "(II)I"⟩ ∈ lw_t2 := t2_in (tb_4 (List.mem_of_getElem? (i := 71) rfl)) rfl
set_option maxRecDepth 100000 in
theorem k_875 : Cond.methodLink "OpenPots$Room" 44 ⟨"OpenPots$Room", "leastPrice", "([II)I"⟩ ∈ lw_t2 := t2_in (tb_4 (List.mem_of_getElem? (i := 72) rfl)) rfl
set_option maxRecDepth 100000 in
theorem k_876 : Cond.methodLink "OpenPotsLaw" 100 ⟨"OpenPots", "two", "(I)I"⟩ ∈ lw_t2 := t2_in (tb_4 (List.mem_of_getElem? (i := 73) rfl)) rfl
set_option maxRecDepth 100000 in
theorem k_877 : Cond.instanceMethod ⟨"OpenPots", "two", "(I)I"⟩ ∈ lw_t2 := t2_in (tb_4 (List.mem_of_getElem? (i := 74) rfl)) rfl
set_option maxRecDepth 100000 in
theorem k_878 : Cond.selects "OpenPots" ⟨"OpenPots", "two", "(I)I"⟩ ⟨"OpenPots", "two", "(I)I"⟩ ∈ lw_t2 := t2_in (tb_4 (List.mem_of_getElem? (i := 75) rfl)) rfl
set_option maxRecDepth 100000 in
theorem k_879 : Cond.code ⟨"OpenPots", "two", "(I)I"⟩ prog_1_method_25_code 2 (some .int) ∈ lw_t2 := t2_in (tb_4 (List.mem_of_getElem? (i := 76) rfl)) rfl
set_option maxRecDepth 100000 in
theorem k_880 : Cond.methodLink "OpenPots" 297 ⟨"OpenPots$Tables", "refresh", "()V"⟩ ∈ lw_t2 := t2_in (tb_4 (List.mem_of_getElem? (i := 77) rfl)) rfl
set_option maxRecDepth 100000 in
theorem k_881 : Cond.instanceMethod ⟨"OpenPots$Tables", "refresh", "()V"⟩ ∈ lw_t2 := t2_in (tb_4 (List.mem_of_getElem? (i := 78) rfl)) rfl
set_option maxRecDepth 100000 in
theorem k_882 : Cond.selects "OpenPots$Tables" ⟨"OpenPots$Tables", "refresh", "()V"⟩ ⟨"OpenPots$Tables", "refresh", "()V"⟩ ∈ lw_t2 := t2_in (tb_4 (List.mem_of_getElem? (i := 79) rfl)) rfl
set_option maxRecDepth 100000 in
theorem k_883 : Cond.code ⟨"OpenPots$Tables", "refresh", "()V"⟩ prog_10_method_2_code 1 none ∈ lw_t2 := t2_in (tb_4 (List.mem_of_getElem? (i := 80) rfl)) rfl
set_option maxRecDepth 100000 in
theorem k_884 : Cond.methodLink "OpenPots$Tables" 26 ⟨"OpenPots$Tables", "divide", "()V"⟩ ∈ lw_t2 := t2_in (tb_4 (List.mem_of_getElem? (i := 81) rfl)) rfl
set_option maxRecDepth 100000 in
theorem k_886 : Cond.instanceMethod ⟨"OpenPots$Tables", "divide", "()V"⟩ ∈ lw_t2 := t2_in (tb_4 (List.mem_of_getElem? (i := 83) rfl)) rfl
set_option maxRecDepth 100000 in
theorem k_887 : Cond.code ⟨"OpenPots$Tables", "divide", "()V"⟩ prog_10_method_3_code 7 none ∈ lw_t2 := t2_in (tb_4 (List.mem_of_getElem? (i := 84) rfl)) rfl
set_option maxRecDepth 100000 in
theorem k_888 : Cond.methodLink "OpenPots$Tables" 29 ⟨"OpenPots$Works", "all", "()I"⟩ ∈ lw_t2 := t2_in (tb_4 (List.mem_of_getElem? (i := 85) rfl)) rfl
set_option maxRecDepth 100000 in
theorem k_889 : Cond.methodLink "OpenPots$Tables" 33 ⟨"OpenPots$Works", "greatestNeed", "()I"⟩ ∈ lw_t2 := t2_in (tb_4 (List.mem_of_getElem? (i := 86) rfl)) rfl
set_option maxRecDepth 100000 in
theorem k_890 : Cond.constant "OpenPots$Tables" 36 1000000 ∈ lw_t2 := t2_in (tb_4 (List.mem_of_getElem? (i := 87) rfl)) rfl
set_option maxRecDepth 100000 in
theorem k_891 : Cond.methodLink "OpenPots$Tables" 37 ⟨"OpenPots$Search", "leastMost", "(II)I"⟩ ∈ lw_t2 := t2_in (tb_4 (List.mem_of_getElem? (i := 88) rfl)) rfl
set_option maxRecDepth 100000 in
theorem k_892 : Cond.methodLink "OpenPots$Tables" 43 ⟨"java/lang/Math", "max", "(II)I"⟩ ∈ lw_t2 := t2_in (tb_4 (List.mem_of_getElem? (i := 89) rfl)) rfl
set_option maxRecDepth 100000 in
theorem k_893 : Cond.methodLink "OpenPotsLaw" 104 ⟨"OpenPots", "without", "(I)I"⟩ ∈ lw_t2 := t2_in (tb_4 (List.mem_of_getElem? (i := 90) rfl)) rfl
set_option maxRecDepth 100000 in
theorem k_894 : Cond.instanceMethod ⟨"OpenPots", "without", "(I)I"⟩ ∈ lw_t2 := t2_in (tb_4 (List.mem_of_getElem? (i := 91) rfl)) rfl
set_option maxRecDepth 100000 in
theorem k_895 : Cond.selects "OpenPots" ⟨"OpenPots", "without", "(I)I"⟩ ⟨"OpenPots", "without", "(I)I"⟩ ∈ lw_t2 := t2_in (tb_4 (List.mem_of_getElem? (i := 92) rfl)) rfl
set_option maxRecDepth 100000 in
theorem k_896 : Cond.code ⟨"OpenPots", "without", "(I)I"⟩ prog_1_method_26_code 2 (some .int) ∈ lw_t2 := t2_in (tb_4 (List.mem_of_getElem? (i := 93) rfl)) rfl
set_option maxRecDepth 100000 in
theorem k_897 : Cond.constant "OpenPots" 307 1000000 ∈ lw_t2 := t2_in (tb_4 (List.mem_of_getElem? (i := 94) rfl)) rfl
set_option maxRecDepth 100000 in
theorem k_898 : Cond.methodLink "OpenPots" 308 ⟨"OpenPots", "mostWithout", "(II)I"⟩ ∈ lw_t2 := t2_in (tb_4 (List.mem_of_getElem? (i := 95) rfl)) rfl
set_option maxRecDepth 100000 in
theorem k_900 : Cond.instanceMethod ⟨"OpenPots", "mostWithout", "(II)I"⟩ ∈ lw_t2 := t2_in (tb_4 (List.mem_of_getElem? (i := 97) rfl)) rfl
set_option maxRecDepth 100000 in
theorem k_901 : Cond.code ⟨"OpenPots", "mostWithout", "(II)I"⟩ prog_1_method_27_code 3 (some .int) ∈ lw_t2 := t2_in (tb_4 (List.mem_of_getElem? (i := 98) rfl)) rfl
set_option maxRecDepth 100000 in
theorem k_902 : Cond.methodLink "OpenPots" 311 ⟨"OpenPots$Search", "leastMost", "(II)I"⟩ ∈ lw_t2 := t2_in (tb_4 (List.mem_of_getElem? (i := 99) rfl)) rfl
set_option maxRecDepth 100000 in
theorem k_903 : Cond.methodLink "OpenPotsLaw" 108 ⟨"OpenPots", "why", "(II)I"⟩ ∈ lw_t2 := t2_in (tb_4 (List.mem_of_getElem? (i := 100) rfl)) rfl
set_option maxRecDepth 100000 in
theorem k_904 : Cond.instanceMethod ⟨"OpenPots", "why", "(II)I"⟩ ∈ lw_t2 := t2_in (tb_4 (List.mem_of_getElem? (i := 101) rfl)) rfl
set_option maxRecDepth 100000 in
theorem k_905 : Cond.selects "OpenPots" ⟨"OpenPots", "why", "(II)I"⟩ ⟨"OpenPots", "why", "(II)I"⟩ ∈ lw_t2 := t2_in (tb_4 (List.mem_of_getElem? (i := 102) rfl)) rfl
set_option maxRecDepth 100000 in
theorem k_906 : Cond.code ⟨"OpenPots", "why", "(II)I"⟩ prog_1_method_28_code 3 (some .int) ∈ lw_t2 := t2_in (tb_4 (List.mem_of_getElem? (i := 103) rfl)) rfl
set_option maxRecDepth 100000 in
theorem k_907 : Cond.methodLink "OpenPots" 314 ⟨"OpenPots$Search", "leastMostUnbound", "(II)I"⟩ ∈ lw_t2 := t2_in (tb_4 (List.mem_of_getElem? (i := 104) rfl)) rfl
set_option maxRecDepth 100000 in
theorem k_908 : Cond.instanceMethod ⟨"OpenPots$Search", "leastMostUnbound", "(II)I"⟩ ∈ lw_t2 := t2_in (tb_4 (List.mem_of_getElem? (i := 105) rfl)) rfl
set_option maxRecDepth 100000 in
theorem k_909 : Cond.selects "OpenPots$Search" ⟨"OpenPots$Search", "leastMostUnbound", "(II)I"⟩ ⟨"OpenPots$Search", "leastMostUnbound", "(II)I"⟩ ∈ lw_t2 := t2_in (tb_4 (List.mem_of_getElem? (i := 106) rfl)) rfl
set_option maxRecDepth 100000 in
theorem k_910 : Cond.code ⟨"OpenPots$Search", "leastMostUnbound", "(II)I"⟩ prog_8_method_4_code 3 (some .int) ∈ lw_t2 := t2_in (tb_4 (List.mem_of_getElem? (i := 107) rfl)) rfl
set_option maxRecDepth 100000 in
theorem k_911 : Cond.methodLink "OpenPotsLaw" 112 ⟨"OpenPots", "widest", "()I"⟩ ∈ lw_t2 := t2_in (tb_4 (List.mem_of_getElem? (i := 108) rfl)) rfl
set_option maxRecDepth 100000 in
theorem k_912 : Cond.instanceMethod ⟨"OpenPots", "widest", "()I"⟩ ∈ lw_t2 := t2_in (tb_4 (List.mem_of_getElem? (i := 109) rfl)) rfl
set_option maxRecDepth 100000 in
theorem k_913 : Cond.selects "OpenPots" ⟨"OpenPots", "widest", "()I"⟩ ⟨"OpenPots", "widest", "()I"⟩ ∈ lw_t2 := t2_in (tb_4 (List.mem_of_getElem? (i := 110) rfl)) rfl
set_option maxRecDepth 100000 in
theorem k_914 : Cond.code ⟨"OpenPots", "widest", "()I"⟩ prog_1_method_29_code 5 (some .int) ∈ lw_t2 := t2_in (tb_4 (List.mem_of_getElem? (i := 111) rfl)) rfl
set_option maxRecDepth 100000 in
theorem k_915 : Cond.methodLink "OpenPotsLaw" 116 ⟨"OpenPots", "sheet", "(III)I"⟩ ∈ lw_t2 := t2_in (tb_4 (List.mem_of_getElem? (i := 112) rfl)) rfl
set_option maxRecDepth 100000 in
theorem k_916 : Cond.instanceMethod ⟨"OpenPots", "sheet", "(III)I"⟩ ∈ lw_t2 := t2_in (tb_4 (List.mem_of_getElem? (i := 113) rfl)) rfl
set_option maxRecDepth 100000 in
theorem k_917 : Cond.selects "OpenPots" ⟨"OpenPots", "sheet", "(III)I"⟩ ⟨"OpenPots", "sheet", "(III)I"⟩ ∈ lw_t2 := t2_in (tb_4 (List.mem_of_getElem? (i := 114) rfl)) rfl
set_option maxRecDepth 100000 in
theorem k_918 : Cond.code ⟨"OpenPots", "sheet", "(III)I"⟩ prog_1_method_30_code 4 (some .int) ∈ lw_t2 := t2_in (tb_4 (List.mem_of_getElem? (i := 115) rfl)) rfl
set_option maxRecDepth 100000 in
theorem k_919 : Cond.methodLink "OpenPots" 317 ⟨"OpenPots$Sheets", "renew", "(III)V"⟩ ∈ lw_t2 := t2_in (tb_4 (List.mem_of_getElem? (i := 116) rfl)) rfl
set_option maxRecDepth 100000 in
theorem k_920 : Cond.instanceMethod ⟨"OpenPots$Sheets", "renew", "(III)V"⟩ ∈ lw_t2 := t2_in (tb_4 (List.mem_of_getElem? (i := 117) rfl)) rfl
set_option maxRecDepth 100000 in
theorem k_921 : Cond.selects "OpenPots$Sheets" ⟨"OpenPots$Sheets", "renew", "(III)V"⟩ ⟨"OpenPots$Sheets", "renew", "(III)V"⟩ ∈ lw_t2 := t2_in (tb_4 (List.mem_of_getElem? (i := 118) rfl)) rfl
set_option maxRecDepth 100000 in
theorem k_922 : Cond.code ⟨"OpenPots$Sheets", "renew", "(III)V"⟩ prog_9_method_2_code 5 none ∈ lw_t2 := t2_in (tb_4 (List.mem_of_getElem? (i := 119) rfl)) rfl
set_option maxRecDepth 100000 in
theorem k_923 : Cond.methodLink "OpenPotsLaw" 120 ⟨"OpenPots", "lose", "(I)I"⟩ ∈ lw_t2 := t2_in (tb_4 (List.mem_of_getElem? (i := 120) rfl)) rfl
set_option maxRecDepth 100000 in
theorem k_924 : Cond.instanceMethod ⟨"OpenPots", "lose", "(I)I"⟩ ∈ lw_t2 := t2_in (tb_4 (List.mem_of_getElem? (i := 121) rfl)) rfl
set_option maxRecDepth 100000 in
theorem k_925 : Cond.selects "OpenPots" ⟨"OpenPots", "lose", "(I)I"⟩ ⟨"OpenPots", "lose", "(I)I"⟩ ∈ lw_t2 := t2_in (tb_4 (List.mem_of_getElem? (i := 122) rfl)) rfl
set_option maxRecDepth 100000 in
theorem k_926 : Cond.code ⟨"OpenPots", "lose", "(I)I"⟩ prog_1_method_31_code 2 (some .int) ∈ lw_t2 := t2_in (tb_4 (List.mem_of_getElem? (i := 123) rfl)) rfl
set_option maxRecDepth 100000 in
theorem k_927 : Cond.methodLink "OpenPots" 321 ⟨"OpenPots$Sheets", "drop", "(I)Z"⟩ ∈ lw_t2 := t2_in (tb_4 (List.mem_of_getElem? (i := 124) rfl)) rfl
set_option maxRecDepth 100000 in
theorem k_928 : Cond.instanceMethod ⟨"OpenPots$Sheets", "drop", "(I)Z"⟩ ∈ lw_t2 := t2_in (tb_4 (List.mem_of_getElem? (i := 125) rfl)) rfl
set_option maxRecDepth 100000 in
theorem k_929 : Cond.selects "OpenPots$Sheets" ⟨"OpenPots$Sheets", "drop", "(I)Z"⟩ ⟨"OpenPots$Sheets", "drop", "(I)Z"⟩ ∈ lw_t2 := t2_in (tb_4 (List.mem_of_getElem? (i := 126) rfl)) rfl
set_option maxRecDepth 100000 in
theorem k_930 : Cond.code ⟨"OpenPots$Sheets", "drop", "(I)Z"⟩ prog_9_method_3_code 3 (some .boolean) ∈ lw_t2 := t2_in (tb_4 (List.mem_of_getElem? (i := 127) rfl)) rfl
set_option maxRecDepth 100000 in
theorem k_931 : Cond.methodLink "OpenPotsLaw" 124 ⟨"OpenPots", "put", "(III)I"⟩ ∈ lw_t2 := t2_in (tb_4 (List.mem_of_getElem? (i := 128) rfl)) rfl
set_option maxRecDepth 100000 in
theorem k_932 : Cond.instanceMethod ⟨"OpenPots", "put", "(III)I"⟩ ∈ lw_t2 := t2_in (tb_4 (List.mem_of_getElem? (i := 129) rfl)) rfl
set_option maxRecDepth 100000 in
theorem k_933 : Cond.selects "OpenPots" ⟨"OpenPots", "put", "(III)I"⟩ ⟨"OpenPots", "put", "(III)I"⟩ ∈ lw_t2 := t2_in (tb_4 (List.mem_of_getElem? (i := 130) rfl)) rfl
set_option maxRecDepth 100000 in
theorem k_934 : Cond.code ⟨"OpenPots", "put", "(III)I"⟩ prog_1_method_32_code 5 (some .int) ∈ lw_t2 := t2_in (tb_4 (List.mem_of_getElem? (i := 131) rfl)) rfl
set_option maxRecDepth 100000 in
theorem k_935 : Cond.methodLink "OpenPots" 327 ⟨"OpenPots$Sheets", "cellFault", "(III)I"⟩ ∈ lw_t2 := t2_in (tb_4 (List.mem_of_getElem? (i := 132) rfl)) rfl
set_option maxRecDepth 100000 in
theorem k_936 : Cond.instanceMethod ⟨"OpenPots$Sheets", "cellFault", "(III)I"⟩ ∈ lw_t2 := t2_in (tb_4 (List.mem_of_getElem? (i := 133) rfl)) rfl
set_option maxRecDepth 100000 in
theorem k_937 : Cond.selects "OpenPots$Sheets" ⟨"OpenPots$Sheets", "cellFault", "(III)I"⟩ ⟨"OpenPots$Sheets", "cellFault", "(III)I"⟩ ∈ lw_t2 := t2_in (tb_4 (List.mem_of_getElem? (i := 134) rfl)) rfl
set_option maxRecDepth 100000 in
theorem k_938 : Cond.code ⟨"OpenPots$Sheets", "cellFault", "(III)I"⟩ prog_9_method_5_code 5 (some .int) ∈ lw_t2 := t2_in (tb_4 (List.mem_of_getElem? (i := 135) rfl)) rfl
set_option maxRecDepth 100000 in
theorem k_939 : Cond.methodLink "OpenPots" 330 ⟨"OpenPots$Sheets", "write", "(III)V"⟩ ∈ lw_t2 := t2_in (tb_4 (List.mem_of_getElem? (i := 136) rfl)) rfl
set_option maxRecDepth 100000 in
theorem k_940 : Cond.instanceMethod ⟨"OpenPots$Sheets", "write", "(III)V"⟩ ∈ lw_t2 := t2_in (tb_4 (List.mem_of_getElem? (i := 137) rfl)) rfl
set_option maxRecDepth 100000 in
theorem k_941 : Cond.selects "OpenPots$Sheets" ⟨"OpenPots$Sheets", "write", "(III)V"⟩ ⟨"OpenPots$Sheets", "write", "(III)V"⟩ ∈ lw_t2 := t2_in (tb_4 (List.mem_of_getElem? (i := 138) rfl)) rfl
set_option maxRecDepth 100000 in
theorem k_942 : Cond.code ⟨"OpenPots$Sheets", "write", "(III)V"⟩ prog_9_method_4_code 5 none ∈ lw_t2 := t2_in (tb_4 (List.mem_of_getElem? (i := 139) rfl)) rfl
set_option maxRecDepth 100000 in
theorem k_943 : Cond.methodLink "OpenPotsLaw" 128 ⟨"OpenPots", "cell", "(III)J"⟩ ∈ lw_t2 := t2_in (tb_4 (List.mem_of_getElem? (i := 140) rfl)) rfl
set_option maxRecDepth 100000 in
theorem k_944 : Cond.instanceMethod ⟨"OpenPots", "cell", "(III)J"⟩ ∈ lw_t2 := t2_in (tb_4 (List.mem_of_getElem? (i := 141) rfl)) rfl
set_option maxRecDepth 100000 in
theorem k_945 : Cond.selects "OpenPots" ⟨"OpenPots", "cell", "(III)J"⟩ ⟨"OpenPots", "cell", "(III)J"⟩ ∈ lw_t2 := t2_in (tb_4 (List.mem_of_getElem? (i := 142) rfl)) rfl
set_option maxRecDepth 100000 in
theorem k_946 : Cond.code ⟨"OpenPots", "cell", "(III)J"⟩ prog_1_method_33_code 4 (some .long) ∈ lw_t2 := t2_in (tb_4 (List.mem_of_getElem? (i := 143) rfl)) rfl
set_option maxRecDepth 100000 in
theorem k_947 : Cond.constantLong "OpenPots" 333 (-9223372036854775808) ∈ lw_t2 := t2_in (tb_4 (List.mem_of_getElem? (i := 144) rfl)) rfl
set_option maxRecDepth 100000 in
theorem k_948 : Cond.methodLink "OpenPotsLaw" 133 ⟨"OpenPots", "tell", "(I)I"⟩ ∈ lw_t2 := t2_in (tb_4 (List.mem_of_getElem? (i := 145) rfl)) rfl
set_option maxRecDepth 100000 in
theorem k_949 : Cond.instanceMethod ⟨"OpenPots", "tell", "(I)I"⟩ ∈ lw_t2 := t2_in (tb_4 (List.mem_of_getElem? (i := 146) rfl)) rfl
set_option maxRecDepth 100000 in
theorem k_950 : Cond.selects "OpenPots" ⟨"OpenPots", "tell", "(I)I"⟩ ⟨"OpenPots", "tell", "(I)I"⟩ ∈ lw_t2 := t2_in (tb_4 (List.mem_of_getElem? (i := 147) rfl)) rfl
set_option maxRecDepth 100000 in
theorem k_951 : Cond.code ⟨"OpenPots", "tell", "(I)I"⟩ prog_1_method_34_code 2 (some .int) ∈ lw_t2 := t2_in (tb_4 (List.mem_of_getElem? (i := 148) rfl)) rfl
set_option maxRecDepth 100000 in
theorem k_952 : Cond.methodLink "OpenPots" 335 ⟨"OpenPots", "tellAgain", "(I)I"⟩ ∈ lw_t2 := t2_in (tb_4 (List.mem_of_getElem? (i := 149) rfl)) rfl
set_option maxRecDepth 100000 in
theorem k_954 : Cond.instanceMethod ⟨"OpenPots", "tellAgain", "(I)I"⟩ ∈ lw_t2 := t2_in (tb_4 (List.mem_of_getElem? (i := 151) rfl)) rfl
set_option maxRecDepth 100000 in
theorem k_955 : Cond.code ⟨"OpenPots", "tellAgain", "(I)I"⟩ prog_1_method_37_code 3 (some .int) ∈ lw_t2 := t2_in (tb_4 (List.mem_of_getElem? (i := 152) rfl)) rfl
set_option maxRecDepth 100000 in
theorem k_956 : Cond.methodLink "OpenPots" 344 ⟨"OpenPots", "leave", "(I)V"⟩ ∈ lw_t2 := t2_in (tb_4 (List.mem_of_getElem? (i := 153) rfl)) rfl
set_option maxRecDepth 100000 in
theorem k_958 : Cond.instanceMethod ⟨"OpenPots", "leave", "(I)V"⟩ ∈ lw_t2 := t2_in (tb_4 (List.mem_of_getElem? (i := 155) rfl)) rfl
set_option maxRecDepth 100000 in
theorem k_959 : Cond.code ⟨"OpenPots", "leave", "(I)V"⟩ prog_1_method_43_code 2 none ∈ lw_t2 := t2_in (tb_4 (List.mem_of_getElem? (i := 156) rfl)) rfl
set_option maxRecDepth 100000 in
theorem k_960 : Cond.methodLink "OpenPots" 338 ⟨"OpenPots", "tellBefore", "(I)I"⟩ ∈ lw_t2 := t2_in (tb_4 (List.mem_of_getElem? (i := 157) rfl)) rfl
set_option maxRecDepth 100000 in
theorem k_962 : Cond.instanceMethod ⟨"OpenPots", "tellBefore", "(I)I"⟩ ∈ lw_t2 := t2_in (tb_4 (List.mem_of_getElem? (i := 159) rfl)) rfl
set_option maxRecDepth 100000 in
theorem k_963 : Cond.code ⟨"OpenPots", "tellBefore", "(I)I"⟩ prog_1_method_36_code 2 (some .int) ∈ lw_t2 := t2_in (tb_4 (List.mem_of_getElem? (i := 160) rfl)) rfl
set_option maxRecDepth 100000 in
theorem k_964 : Cond.methodLink "OpenPots" 341 ⟨"OpenPots", "tellRow", "(I)I"⟩ ∈ lw_t2 := t2_in (tb_4 (List.mem_of_getElem? (i := 161) rfl)) rfl
set_option maxRecDepth 100000 in
theorem k_966 : Cond.instanceMethod ⟨"OpenPots", "tellRow", "(I)I"⟩ ∈ lw_t2 := t2_in (tb_4 (List.mem_of_getElem? (i := 163) rfl)) rfl
set_option maxRecDepth 100000 in
theorem k_967 : Cond.code ⟨"OpenPots", "tellRow", "(I)I"⟩ prog_1_method_35_code 2 (some .int) ∈ lw_t2 := t2_in (tb_4 (List.mem_of_getElem? (i := 164) rfl)) rfl
set_option maxRecDepth 100000 in
theorem k_968 : Cond.methodLink "OpenPotsLaw" 137 ⟨"OpenPots", "show", "(I)I"⟩ ∈ lw_t2 := t2_in (tb_4 (List.mem_of_getElem? (i := 165) rfl)) rfl
set_option maxRecDepth 100000 in
theorem k_969 : Cond.instanceMethod ⟨"OpenPots", "show", "(I)I"⟩ ∈ lw_t2 := t2_in (tb_4 (List.mem_of_getElem? (i := 166) rfl)) rfl
set_option maxRecDepth 100000 in
theorem k_970 : Cond.selects "OpenPots" ⟨"OpenPots", "show", "(I)I"⟩ ⟨"OpenPots", "show", "(I)I"⟩ ∈ lw_t2 := t2_in (tb_4 (List.mem_of_getElem? (i := 167) rfl)) rfl
set_option maxRecDepth 100000 in
theorem k_971 : Cond.code ⟨"OpenPots", "show", "(I)I"⟩ prog_1_method_38_code 3 (some .int) ∈ lw_t2 := t2_in (tb_4 (List.mem_of_getElem? (i := 168) rfl)) rfl
set_option maxRecDepth 100000 in
theorem k_972 : Cond.methodLink "OpenPotsLaw" 141 ⟨"OpenPots", "as", "(II)I"⟩ ∈ lw_t2 := t2_in (tb_4 (List.mem_of_getElem? (i := 169) rfl)) rfl
set_option maxRecDepth 100000 in
theorem k_973 : Cond.instanceMethod ⟨"OpenPots", "as", "(II)I"⟩ ∈ lw_t2 := t2_in (tb_4 (List.mem_of_getElem? (i := 170) rfl)) rfl
set_option maxRecDepth 100000 in
theorem k_974 : Cond.selects "OpenPots" ⟨"OpenPots", "as", "(II)I"⟩ ⟨"OpenPots", "as", "(II)I"⟩ ∈ lw_t2 := t2_in (tb_4 (List.mem_of_getElem? (i := 171) rfl)) rfl
set_option maxRecDepth 100000 in
theorem k_975 : Cond.code ⟨"OpenPots", "as", "(II)I"⟩ prog_1_method_39_code 3 (some .int) ∈ lw_t2 := t2_in (tb_4 (List.mem_of_getElem? (i := 172) rfl)) rfl
set_option maxRecDepth 100000 in
theorem k_976 : Cond.methodLink "OpenPotsLaw" 145 ⟨"OpenPots", "trace", "()I"⟩ ∈ lw_t2 := t2_in (tb_4 (List.mem_of_getElem? (i := 173) rfl)) rfl
set_option maxRecDepth 100000 in
theorem k_977 : Cond.instanceMethod ⟨"OpenPots", "trace", "()I"⟩ ∈ lw_t2 := t2_in (tb_4 (List.mem_of_getElem? (i := 174) rfl)) rfl
set_option maxRecDepth 100000 in
theorem k_978 : Cond.selects "OpenPots" ⟨"OpenPots", "trace", "()I"⟩ ⟨"OpenPots", "trace", "()I"⟩ ∈ lw_t2 := t2_in (tb_4 (List.mem_of_getElem? (i := 175) rfl)) rfl
set_option maxRecDepth 100000 in
theorem k_979 : Cond.code ⟨"OpenPots", "trace", "()I"⟩ prog_1_method_40_code 1 (some .int) ∈ lw_t2 := t2_in (tb_4 (List.mem_of_getElem? (i := 176) rfl)) rfl
set_option maxRecDepth 100000 in
theorem k_980 : Cond.methodLink "OpenPotsLaw" 149 ⟨"OpenPots", "fault", "()I"⟩ ∈ lw_t2 := t2_in (tb_4 (List.mem_of_getElem? (i := 177) rfl)) rfl
set_option maxRecDepth 100000 in
theorem k_981 : Cond.instanceMethod ⟨"OpenPots", "fault", "()I"⟩ ∈ lw_t2 := t2_in (tb_4 (List.mem_of_getElem? (i := 178) rfl)) rfl
set_option maxRecDepth 100000 in
theorem k_982 : Cond.selects "OpenPots" ⟨"OpenPots", "fault", "()I"⟩ ⟨"OpenPots", "fault", "()I"⟩ ∈ lw_t2 := t2_in (tb_4 (List.mem_of_getElem? (i := 179) rfl)) rfl
set_option maxRecDepth 100000 in
theorem k_983 : Cond.code ⟨"OpenPots", "fault", "()I"⟩ prog_1_method_41_code 1 (some .int) ∈ lw_t2 := t2_in (tb_4 (List.mem_of_getElem? (i := 180) rfl)) rfl
set_option maxRecDepth 100000 in
theorem k_984 : Cond.methodLink "OpenPotsLaw" 153 ⟨"OpenPots", "many", "(I)I"⟩ ∈ lw_t2 := t2_in (tb_4 (List.mem_of_getElem? (i := 181) rfl)) rfl
set_option maxRecDepth 100000 in
theorem k_985 : Cond.instanceMethod ⟨"OpenPots", "many", "(I)I"⟩ ∈ lw_t2 := t2_in (tb_4 (List.mem_of_getElem? (i := 182) rfl)) rfl
set_option maxRecDepth 100000 in
theorem k_986 : Cond.selects "OpenPots" ⟨"OpenPots", "many", "(I)I"⟩ ⟨"OpenPots", "many", "(I)I"⟩ ∈ lw_t2 := t2_in (tb_4 (List.mem_of_getElem? (i := 183) rfl)) rfl
set_option maxRecDepth 100000 in
theorem k_987 : Cond.code ⟨"OpenPots", "many", "(I)I"⟩ prog_1_method_42_code 2 (some .int) ∈ lw_t2 := t2_in (tb_4 (List.mem_of_getElem? (i := 184) rfl)) rfl
set_option maxRecDepth 100000 in
theorem k_988 : Cond.methodLink "OpenPots" 351 ⟨"OpenPots$Works", "countBefores", "()I"⟩ ∈ lw_t2 := t2_in (tb_4 (List.mem_of_getElem? (i := 185) rfl)) rfl
set_option maxRecDepth 100000 in
theorem k_989 : Cond.instanceMethod ⟨"OpenPots$Works", "countBefores", "()I"⟩ ∈ lw_t2 := t2_in (tb_4 (List.mem_of_getElem? (i := 186) rfl)) rfl
set_option maxRecDepth 100000 in
theorem k_990 : Cond.selects "OpenPots$Works" ⟨"OpenPots$Works", "countBefores", "()I"⟩ ⟨"OpenPots$Works", "countBefores", "()I"⟩ ∈ lw_t2 := t2_in (tb_4 (List.mem_of_getElem? (i := 187) rfl)) rfl
set_option maxRecDepth 100000 in
theorem k_991 : Cond.code ⟨"OpenPots$Works", "countBefores", "()I"⟩ prog_12_method_13_code 3 (some .int) ∈ lw_t2 := t2_in (tb_4 (List.mem_of_getElem? (i := 188) rfl)) rfl
set_option maxRecDepth 100000 in
theorem k_992 : Cond.methodLink "OpenPots$Works" 55 ⟨"java/lang/Integer", "bitCount", "(I)I"⟩ ∈ lw_t2 := t2_in (tb_4 (List.mem_of_getElem? (i := 189) rfl)) rfl
set_option maxRecDepth 100000 in
theorem k_993 : Cond.methodLink "OpenPots" 354 ⟨"OpenPots$Works", "neededBy", "(I)I"⟩ ∈ lw_t2 := t2_in (tb_4 (List.mem_of_getElem? (i := 190) rfl)) rfl
set_option maxRecDepth 100000 in
theorem k_994 : Cond.methodLink "OpenPots" 357 ⟨"java/lang/Integer", "bitCount", "(I)I"⟩ ∈ lw_t2 := t2_in (tb_4 (List.mem_of_getElem? (i := 191) rfl)) rfl
set_option maxRecDepth 100000 in
theorem k_1001 : Cond.fieldLink "OpenPotsModel" 73 "OpenPotsModel" "fault" "I" ∈ lw_t2 := t2_in (tb_4 (List.mem_of_getElem? (i := 198) rfl)) rfl
set_option maxRecDepth 100000 in
theorem k_1002 : Cond.fieldLink "OpenPotsModel" 252 "OpenPotsModel" "trace" "I" ∈ lw_t2 := t2_in (tb_4 (List.mem_of_getElem? (i := 199) rfl)) rfl
set_option maxRecDepth 100000 in
theorem k_1003 : Cond.fieldLink "OpenPotsModel" 9 "OpenPotsModel" "lanes" "[I" ∈ lw_t2 := t2_in (tb_4 (List.mem_of_getElem? (i := 200) rfl)) rfl
set_option maxRecDepth 100000 in
theorem k_1004 : Cond.fieldLink "OpenPotsModel" 13 "OpenPotsModel" "sheetLong" "[I" ∈ lw_t2 := t2_in (tb_4 (List.mem_of_getElem? (i := 201) rfl)) rfl
set_option maxRecDepth 100000 in
theorem k_1005 : Cond.fieldLink "OpenPotsModel" 16 "OpenPotsModel" "cells" "[I" ∈ lw_t2 := t2_in (tb_4 (List.mem_of_getElem? (i := 202) rfl)) rfl
set_option maxRecDepth 100000 in
theorem k_1006 : Cond.fieldLink "OpenPotsModel" 83 "OpenPotsModel" "works" "I" ∈ lw_t2 := t2_in (tb_4 (List.mem_of_getElem? (i := 203) rfl)) rfl
set_option maxRecDepth 100000 in
theorem k_1007 : Cond.fieldLink "OpenPotsModel" 19 "OpenPotsModel" "needs" "[I" ∈ lw_t2 := t2_in (tb_4 (List.mem_of_getElem? (i := 204) rfl)) rfl
set_option maxRecDepth 100000 in
theorem k_1008 : Cond.fieldLink "OpenPotsModel" 22 "OpenPotsModel" "befores" "[I" ∈ lw_t2 := t2_in (tb_4 (List.mem_of_getElem? (i := 205) rfl)) rfl
set_option maxRecDepth 100000 in
theorem k_1009 : Cond.fieldLink "OpenPotsModel" 25 "OpenPotsModel" "sizes" "[I" ∈ lw_t2 := t2_in (tb_4 (List.mem_of_getElem? (i := 206) rfl)) rfl
set_option maxRecDepth 100000 in
theorem k_1010 : Cond.fieldLink "OpenPotsModel" 28 "OpenPotsModel" "prices" "[I" ∈ lw_t2 := t2_in (tb_4 (List.mem_of_getElem? (i := 207) rfl)) rfl
set_option maxRecDepth 100000 in
theorem k_1011 : Cond.fieldLink "OpenPotsModel" 86 "OpenPotsModel" "at" "I" ∈ lw_t2 := t2_in (tb_4 (List.mem_of_getElem? (i := 208) rfl)) rfl
set_option maxRecDepth 100000 in
theorem k_1012 : Cond.fieldLink "OpenPotsModel" 89 "OpenPotsModel" "end" "I" ∈ lw_t2 := t2_in (tb_4 (List.mem_of_getElem? (i := 209) rfl)) rfl
set_option maxRecDepth 100000 in
theorem k_1013 : Cond.fieldLink "OpenPotsModel" 100 "OpenPotsModel" "readWorks" "I" ∈ lw_t2 := t2_in (tb_4 (List.mem_of_getElem? (i := 210) rfl)) rfl
set_option maxRecDepth 100000 in
theorem k_1014 : Cond.fieldLink "OpenPotsModel" 31 "OpenPotsModel" "readNeeds" "[I" ∈ lw_t2 := t2_in (tb_4 (List.mem_of_getElem? (i := 211) rfl)) rfl
set_option maxRecDepth 100000 in
theorem k_1015 : Cond.fieldLink "OpenPotsModel" 34 "OpenPotsModel" "readBefores" "[I" ∈ lw_t2 := t2_in (tb_4 (List.mem_of_getElem? (i := 212) rfl)) rfl
set_option maxRecDepth 100000 in
theorem k_1016 : Cond.fieldLink "OpenPotsModel" 103 "OpenPotsModel" "readSizes" "I" ∈ lw_t2 := t2_in (tb_4 (List.mem_of_getElem? (i := 213) rfl)) rfl
set_option maxRecDepth 100000 in
theorem k_1017 : Cond.fieldLink "OpenPotsModel" 37 "OpenPotsModel" "readSize" "[I" ∈ lw_t2 := t2_in (tb_4 (List.mem_of_getElem? (i := 214) rfl)) rfl
set_option maxRecDepth 100000 in
theorem k_1018 : Cond.fieldLink "OpenPotsModel" 131 "OpenPotsModel" "orders" "I" ∈ lw_t2 := t2_in (tb_4 (List.mem_of_getElem? (i := 215) rfl)) rfl
set_option maxRecDepth 100000 in
theorem k_1019 : Cond.fieldLink "OpenPotsModel" 40 "OpenPotsModel" "kinds" "[I" ∈ lw_t2 := t2_in (tb_4 (List.mem_of_getElem? (i := 216) rfl)) rfl
set_option maxRecDepth 100000 in
theorem k_1020 : Cond.fieldLink "OpenPotsModel" 43 "OpenPotsModel" "rows" "[I" ∈ lw_t2 := t2_in (tb_4 (List.mem_of_getElem? (i := 217) rfl)) rfl
set_option maxRecDepth 100000 in
theorem k_1021 : Cond.fieldLink "OpenPotsModel" 46 "OpenPotsModel" "row" "[I" ∈ lw_t2 := t2_in (tb_4 (List.mem_of_getElem? (i := 218) rfl)) rfl
set_option maxRecDepth 100000 in
theorem k_1022 : Cond.fieldLink "OpenPotsModel" 49 "OpenPotsModel" "unions" "[I" ∈ lw_t2 := t2_in (tb_4 (List.mem_of_getElem? (i := 219) rfl)) rfl
set_option maxRecDepth 100000 in
theorem k_1023 : Cond.fieldLink "OpenPotsModel" 52 "OpenPotsModel" "leastMost" "[I" ∈ lw_t2 := t2_in (tb_4 (List.mem_of_getElem? (i := 220) rfl)) rfl
set_option maxRecDepth 100000 in
theorem k_1024 : Cond.fieldLink "OpenPotsModel" 55 "OpenPotsModel" "leastLong" "[I" ∈ lw_t2 := t2_in (tb_4 (List.mem_of_getElem? (i := 221) rfl)) rfl
set_option maxRecDepth 100000 in
theorem k_1025 : Cond.fieldLink "OpenPotsModel" 58 "OpenPotsModel" "sizeBy" "[I" ∈ lw_t2 := t2_in (tb_4 (List.mem_of_getElem? (i := 222) rfl)) rfl
set_option maxRecDepth 100000 in
theorem k_1026 : Cond.fieldLink "OpenPotsModel" 61 "OpenPotsModel" "other" "[I" ∈ lw_t2 := t2_in (tb_4 (List.mem_of_getElem? (i := 223) rfl)) rfl
set_option maxRecDepth 100000 in
theorem k_1027 : Cond.fieldLink "OpenPotsModel" 64 "OpenPotsModel" "parts" "[I" ∈ lw_t2 := t2_in (tb_4 (List.mem_of_getElem? (i := 224) rfl)) rfl
set_option maxRecDepth 100000 in
theorem k_1028 : Cond.fieldLink "OpenPotsModel" 67 "OpenPotsModel" "now" "[I" ∈ lw_t2 := t2_in (tb_4 (List.mem_of_getElem? (i := 225) rfl)) rfl
set_option maxRecDepth 100000 in
theorem k_1029 : Cond.fieldLink "OpenPotsModel" 70 "OpenPotsModel" "next" "[I" ∈ lw_t2 := t2_in (tb_4 (List.mem_of_getElem? (i := 226) rfl)) rfl
set_option maxRecDepth 100000 in
theorem k_1089 : Cond.methodLink "OpenPotsLaw" 17 ⟨"OpenPotsModel", "shop", "(IIII)I"⟩ ∈ lw_t2 := t2_in (tb_5 (List.mem_of_getElem? (i := 46) rfl)) rfl
set_option maxRecDepth 100000 in
theorem k_1090 : Cond.instanceMethod ⟨"OpenPotsModel", "shop", "(IIII)I"⟩ ∈ lw_t2 := t2_in (tb_5 (List.mem_of_getElem? (i := 47) rfl)) rfl
set_option maxRecDepth 100000 in
theorem k_1091 : Cond.selects "OpenPotsModel" ⟨"OpenPotsModel", "shop", "(IIII)I"⟩ ⟨"OpenPotsModel", "shop", "(IIII)I"⟩ ∈ lw_t2 := t2_in (tb_5 (List.mem_of_getElem? (i := 48) rfl)) rfl
set_option maxRecDepth 100000 in
theorem k_1092 : Cond.code ⟨"OpenPotsModel", "shop", "(IIII)I"⟩ prog_14_method_17_code 8 (some .int) ∈ lw_t2 := t2_in (tb_5 (List.mem_of_getElem? (i := 49) rfl)) rfl
set_option maxRecDepth 100000 in
theorem k_1093 : Cond.methodLink "OpenPotsModel" 113 ⟨"OpenPotsModel", "isSheet", "(I)Z"⟩ ∈ lw_t2 := t2_in (tb_5 (List.mem_of_getElem? (i := 50) rfl)) rfl
set_option maxRecDepth 100000 in
theorem k_1094 : Cond.static ⟨"OpenPotsModel", "isSheet", "(I)Z"⟩ ∈ lw_t2 := t2_in (tb_5 (List.mem_of_getElem? (i := 51) rfl)) rfl
set_option maxRecDepth 100000 in
theorem k_1095 : Cond.code ⟨"OpenPotsModel", "isSheet", "(I)Z"⟩ prog_14_method_8_code 1 (some .boolean) ∈ lw_t2 := t2_in (tb_5 (List.mem_of_getElem? (i := 52) rfl)) rfl
set_option maxRecDepth 100000 in
theorem k_1096 : Cond.methodLink "OpenPotsModel" 79 ⟨"OpenPotsModel", "isIn", "(III)Z"⟩ ∈ lw_t2 := t2_in (tb_5 (List.mem_of_getElem? (i := 53) rfl)) rfl
set_option maxRecDepth 100000 in
theorem k_1097 : Cond.static ⟨"OpenPotsModel", "isIn", "(III)Z"⟩ ∈ lw_t2 := t2_in (tb_5 (List.mem_of_getElem? (i := 54) rfl)) rfl
set_option maxRecDepth 100000 in
theorem k_1098 : Cond.code ⟨"OpenPotsModel", "isIn", "(III)Z"⟩ prog_14_method_5_code 3 (some .boolean) ∈ lw_t2 := t2_in (tb_5 (List.mem_of_getElem? (i := 55) rfl)) rfl
set_option maxRecDepth 100000 in
theorem k_1099 : Cond.methodLink "OpenPotsModel" 117 ⟨"OpenPotsModel", "isLane", "(I)Z"⟩ ∈ lw_t2 := t2_in (tb_5 (List.mem_of_getElem? (i := 56) rfl)) rfl
set_option maxRecDepth 100000 in
theorem k_1100 : Cond.static ⟨"OpenPotsModel", "isLane", "(I)Z"⟩ ∈ lw_t2 := t2_in (tb_5 (List.mem_of_getElem? (i := 57) rfl)) rfl
set_option maxRecDepth 100000 in
theorem k_1101 : Cond.code ⟨"OpenPotsModel", "isLane", "(I)Z"⟩ prog_14_method_9_code 1 (some .boolean) ∈ lw_t2 := t2_in (tb_5 (List.mem_of_getElem? (i := 58) rfl)) rfl
set_option maxRecDepth 100000 in
theorem k_1102 : Cond.methodLink "OpenPotsModel" 120 ⟨"OpenPotsModel", "against", "(IIII)I"⟩ ∈ lw_t2 := t2_in (tb_5 (List.mem_of_getElem? (i := 59) rfl)) rfl
set_option maxRecDepth 100000 in
theorem k_1104 : Cond.instanceMethod ⟨"OpenPotsModel", "against", "(IIII)I"⟩ ∈ lw_t2 := t2_in (tb_5 (List.mem_of_getElem? (i := 61) rfl)) rfl
set_option maxRecDepth 100000 in
theorem k_1105 : Cond.code ⟨"OpenPotsModel", "against", "(IIII)I"⟩ prog_14_method_10_code 5 (some .int) ∈ lw_t2 := t2_in (tb_5 (List.mem_of_getElem? (i := 62) rfl)) rfl
set_option maxRecDepth 100000 in
theorem k_1106 : Cond.methodLink "OpenPotsModel" 124 ⟨"OpenPotsModel", "fails", "(I)I"⟩ ∈ lw_t2 := t2_in (tb_5 (List.mem_of_getElem? (i := 63) rfl)) rfl
set_option maxRecDepth 100000 in
theorem k_1108 : Cond.instanceMethod ⟨"OpenPotsModel", "fails", "(I)I"⟩ ∈ lw_t2 := t2_in (tb_5 (List.mem_of_getElem? (i := 65) rfl)) rfl
set_option maxRecDepth 100000 in
theorem k_1109 : Cond.code ⟨"OpenPotsModel", "fails", "(I)I"⟩ prog_14_method_3_code 2 (some .int) ∈ lw_t2 := t2_in (tb_5 (List.mem_of_getElem? (i := 66) rfl)) rfl
set_option maxRecDepth 100000 in
theorem k_1110 : Cond.methodLink "OpenPotsModel" 128 ⟨"OpenPotsModel", "readsAll", "()Z"⟩ ∈ lw_t2 := t2_in (tb_5 (List.mem_of_getElem? (i := 67) rfl)) rfl
set_option maxRecDepth 100000 in
theorem k_1112 : Cond.instanceMethod ⟨"OpenPotsModel", "readsAll", "()Z"⟩ ∈ lw_t2 := t2_in (tb_5 (List.mem_of_getElem? (i := 69) rfl)) rfl
set_option maxRecDepth 100000 in
theorem k_1113 : Cond.code ⟨"OpenPotsModel", "readsAll", "()Z"⟩ prog_14_method_16_code 4 (some .boolean) ∈ lw_t2 := t2_in (tb_5 (List.mem_of_getElem? (i := 70) rfl)) rfl
set_option maxRecDepth 100000 in
theorem k_1114 : Cond.methodLink "OpenPotsModel" 92 ⟨"OpenPotsModel", "codeAt", "()I"⟩ ∈ lw_t2 := t2_in (tb_5 (List.mem_of_getElem? (i := 71) rfl)) rfl
set_option maxRecDepth 100000 in
theorem k_1116 : Cond.instanceMethod ⟨"OpenPotsModel", "codeAt", "()I"⟩ ∈ lw_t2 := t2_in (tb_5 (List.mem_of_getElem? (i := 73) rfl)) rfl
set_option maxRecDepth 100000 in
theorem k_1117 : Cond.code ⟨"OpenPotsModel", "codeAt", "()I"⟩ prog_14_method_13_code 1 (some .int) ∈ lw_t2 := t2_in (tb_5 (List.mem_of_getElem? (i := 74) rfl)) rfl
set_option maxRecDepth 100000 in
theorem k_1118 : Cond.methodLink "OpenPotsModel" 106 ⟨"OpenPotsModel", "readsWork", "()Z"⟩ ∈ lw_t2 := t2_in (tb_5 (List.mem_of_getElem? (i := 75) rfl)) rfl
set_option maxRecDepth 100000 in
theorem k_1120 : Cond.instanceMethod ⟨"OpenPotsModel", "readsWork", "()Z"⟩ ∈ lw_t2 := t2_in (tb_5 (List.mem_of_getElem? (i := 77) rfl)) rfl
set_option maxRecDepth 100000 in
theorem k_1121 : Cond.code ⟨"OpenPotsModel", "readsWork", "()Z"⟩ prog_14_method_14_code 4 (some .boolean) ∈ lw_t2 := t2_in (tb_5 (List.mem_of_getElem? (i := 78) rfl)) rfl
set_option maxRecDepth 100000 in
theorem k_1122 : Cond.methodLink "OpenPotsModel" 96 ⟨"OpenPotsModel", "has", "(II)Z"⟩ ∈ lw_t2 := t2_in (tb_5 (List.mem_of_getElem? (i := 79) rfl)) rfl
set_option maxRecDepth 100000 in
theorem k_1123 : Cond.static ⟨"OpenPotsModel", "has", "(II)Z"⟩ ∈ lw_t2 := t2_in (tb_5 (List.mem_of_getElem? (i := 80) rfl)) rfl
set_option maxRecDepth 100000 in
theorem k_1124 : Cond.code ⟨"OpenPotsModel", "has", "(II)Z"⟩ prog_14_method_6_code 2 (some .boolean) ∈ lw_t2 := t2_in (tb_5 (List.mem_of_getElem? (i := 81) rfl)) rfl
set_option maxRecDepth 100000 in
theorem k_1125 : Cond.methodLink "OpenPotsModel" 110 ⟨"OpenPotsModel", "readsSize", "()Z"⟩ ∈ lw_t2 := t2_in (tb_5 (List.mem_of_getElem? (i := 82) rfl)) rfl
set_option maxRecDepth 100000 in
theorem k_1127 : Cond.instanceMethod ⟨"OpenPotsModel", "readsSize", "()Z"⟩ ∈ lw_t2 := t2_in (tb_5 (List.mem_of_getElem? (i := 84) rfl)) rfl
set_option maxRecDepth 100000 in
theorem k_1128 : Cond.code ⟨"OpenPotsModel", "readsSize", "()Z"⟩ prog_14_method_15_code 3 (some .boolean) ∈ lw_t2 := t2_in (tb_5 (List.mem_of_getElem? (i := 85) rfl)) rfl
set_option maxRecDepth 100000 in
theorem k_1129 : Cond.methodLink "OpenPotsLaw" 22 ⟨"OpenPotsModel", "work", "(II)I"⟩ ∈ lw_t2 := t2_in (tb_5 (List.mem_of_getElem? (i := 86) rfl)) rfl
set_option maxRecDepth 100000 in
theorem k_1130 : Cond.instanceMethod ⟨"OpenPotsModel", "work", "(II)I"⟩ ∈ lw_t2 := t2_in (tb_5 (List.mem_of_getElem? (i := 87) rfl)) rfl
set_option maxRecDepth 100000 in
theorem k_1131 : Cond.selects "OpenPotsModel" ⟨"OpenPotsModel", "work", "(II)I"⟩ ⟨"OpenPotsModel", "work", "(II)I"⟩ ∈ lw_t2 := t2_in (tb_5 (List.mem_of_getElem? (i := 88) rfl)) rfl
set_option maxRecDepth 100000 in
theorem k_1132 : Cond.code ⟨"OpenPotsModel", "work", "(II)I"⟩ prog_14_method_18_code 3 (some .int) ∈ lw_t2 := t2_in (tb_5 (List.mem_of_getElem? (i := 89) rfl)) rfl
set_option maxRecDepth 100000 in
theorem k_1133 : Cond.methodLink "OpenPotsModel" 134 ⟨"OpenPotsModel", "all", "()I"⟩ ∈ lw_t2 := t2_in (tb_5 (List.mem_of_getElem? (i := 90) rfl)) rfl
set_option maxRecDepth 100000 in
theorem k_1135 : Cond.instanceMethod ⟨"OpenPotsModel", "all", "()I"⟩ ∈ lw_t2 := t2_in (tb_5 (List.mem_of_getElem? (i := 92) rfl)) rfl
set_option maxRecDepth 100000 in
theorem k_1136 : Cond.code ⟨"OpenPotsModel", "all", "()I"⟩ prog_14_method_12_code 1 (some .int) ∈ lw_t2 := t2_in (tb_5 (List.mem_of_getElem? (i := 93) rfl)) rfl
set_option maxRecDepth 100000 in
theorem k_1137 : Cond.methodLink "OpenPotsLaw" 26 ⟨"OpenPotsModel", "ofWork", "(II)I"⟩ ∈ lw_t2 := t2_in (tb_5 (List.mem_of_getElem? (i := 94) rfl)) rfl
set_option maxRecDepth 100000 in
theorem k_1138 : Cond.instanceMethod ⟨"OpenPotsModel", "ofWork", "(II)I"⟩ ∈ lw_t2 := t2_in (tb_5 (List.mem_of_getElem? (i := 95) rfl)) rfl
set_option maxRecDepth 100000 in
theorem k_1139 : Cond.selects "OpenPotsModel" ⟨"OpenPotsModel", "ofWork", "(II)I"⟩ ⟨"OpenPotsModel", "ofWork", "(II)I"⟩ ∈ lw_t2 := t2_in (tb_5 (List.mem_of_getElem? (i := 96) rfl)) rfl
set_option maxRecDepth 100000 in
theorem k_1140 : Cond.code ⟨"OpenPotsModel", "ofWork", "(II)I"⟩ prog_14_method_19_code 3 (some .int) ∈ lw_t2 := t2_in (tb_5 (List.mem_of_getElem? (i := 97) rfl)) rfl
set_option maxRecDepth 100000 in
theorem k_1141 : Cond.methodLink "OpenPotsModel" 137 ⟨"OpenPotsModel", "isWork", "(I)Z"⟩ ∈ lw_t2 := t2_in (tb_5 (List.mem_of_getElem? (i := 98) rfl)) rfl
set_option maxRecDepth 100000 in
theorem k_1143 : Cond.instanceMethod ⟨"OpenPotsModel", "isWork", "(I)Z"⟩ ∈ lw_t2 := t2_in (tb_5 (List.mem_of_getElem? (i := 100) rfl)) rfl
set_option maxRecDepth 100000 in
theorem k_1144 : Cond.code ⟨"OpenPotsModel", "isWork", "(I)Z"⟩ prog_14_method_11_code 2 (some .boolean) ∈ lw_t2 := t2_in (tb_5 (List.mem_of_getElem? (i := 101) rfl)) rfl
set_option maxRecDepth 100000 in
theorem k_1145 : Cond.methodLink "OpenPotsLaw" 31 ⟨"OpenPotsModel", "before", "(IIZ)I"⟩ ∈ lw_t2 := t2_in (tb_5 (List.mem_of_getElem? (i := 102) rfl)) rfl
set_option maxRecDepth 100000 in
theorem k_1146 : Cond.instanceMethod ⟨"OpenPotsModel", "before", "(IIZ)I"⟩ ∈ lw_t2 := t2_in (tb_5 (List.mem_of_getElem? (i := 103) rfl)) rfl
set_option maxRecDepth 100000 in
theorem k_1147 : Cond.selects "OpenPotsModel" ⟨"OpenPotsModel", "before", "(IIZ)I"⟩ ⟨"OpenPotsModel", "before", "(IIZ)I"⟩ ∈ lw_t2 := t2_in (tb_5 (List.mem_of_getElem? (i := 104) rfl)) rfl
set_option maxRecDepth 100000 in
theorem k_1148 : Cond.code ⟨"OpenPotsModel", "before", "(IIZ)I"⟩ prog_14_method_21_code 4 (some .int) ∈ lw_t2 := t2_in (tb_5 (List.mem_of_getElem? (i := 105) rfl)) rfl
set_option maxRecDepth 100000 in
theorem k_1149 : Cond.methodLink "OpenPotsModel" 140 ⟨"OpenPotsModel", "aheadOf", "(I)I"⟩ ∈ lw_t2 := t2_in (tb_5 (List.mem_of_getElem? (i := 106) rfl)) rfl
set_option maxRecDepth 100000 in
theorem k_1151 : Cond.instanceMethod ⟨"OpenPotsModel", "aheadOf", "(I)I"⟩ ∈ lw_t2 := t2_in (tb_5 (List.mem_of_getElem? (i := 108) rfl)) rfl
set_option maxRecDepth 100000 in
theorem k_1152 : Cond.code ⟨"OpenPotsModel", "aheadOf", "(I)I"⟩ prog_14_method_20_code 6 (some .int) ∈ lw_t2 := t2_in (tb_5 (List.mem_of_getElem? (i := 109) rfl)) rfl
set_option maxRecDepth 100000 in
theorem k_1153 : Cond.methodLink "OpenPotsLaw" 36 ⟨"OpenPotsModel", "thing", "(III)I"⟩ ∈ lw_t2 := t2_in (tb_5 (List.mem_of_getElem? (i := 110) rfl)) rfl
set_option maxRecDepth 100000 in
theorem k_1154 : Cond.instanceMethod ⟨"OpenPotsModel", "thing", "(III)I"⟩ ∈ lw_t2 := t2_in (tb_5 (List.mem_of_getElem? (i := 111) rfl)) rfl
set_option maxRecDepth 100000 in
theorem k_1155 : Cond.selects "OpenPotsModel" ⟨"OpenPotsModel", "thing", "(III)I"⟩ ⟨"OpenPotsModel", "thing", "(III)I"⟩ ∈ lw_t2 := t2_in (tb_5 (List.mem_of_getElem? (i := 112) rfl)) rfl
set_option maxRecDepth 100000 in
theorem k_1156 : Cond.code ⟨"OpenPotsModel", "thing", "(III)I"⟩ prog_14_method_22_code 5 (some .int) ∈ lw_t2 := t2_in (tb_5 (List.mem_of_getElem? (i := 113) rfl)) rfl
set_option maxRecDepth 100000 in
theorem k_1157 : Cond.methodLink "OpenPotsLaw" 41 ⟨"OpenPotsModel", "order", "(IIIII)I"⟩ ∈ lw_t2 := t2_in (tb_5 (List.mem_of_getElem? (i := 114) rfl)) rfl
set_option maxRecDepth 100000 in
theorem k_1158 : Cond.instanceMethod ⟨"OpenPotsModel", "order", "(IIIII)I"⟩ ∈ lw_t2 := t2_in (tb_5 (List.mem_of_getElem? (i := 115) rfl)) rfl
set_option maxRecDepth 100000 in
theorem k_1159 : Cond.selects "OpenPotsModel" ⟨"OpenPotsModel", "order", "(IIIII)I"⟩ ⟨"OpenPotsModel", "order", "(IIIII)I"⟩ ∈ lw_t2 := t2_in (tb_5 (List.mem_of_getElem? (i := 116) rfl)) rfl
set_option maxRecDepth 100000 in
theorem k_1160 : Cond.code ⟨"OpenPotsModel", "order", "(IIIII)I"⟩ prog_14_method_32_code 10 (some .int) ∈ lw_t2 := t2_in (tb_5 (List.mem_of_getElem? (i := 117) rfl)) rfl
set_option maxRecDepth 100000 in
theorem k_1161 : Cond.methodLink "OpenPotsModel" 150 ⟨"OpenPotsModel", "isLawful", "([I)Z"⟩ ∈ lw_t2 := t2_in (tb_5 (List.mem_of_getElem? (i := 118) rfl)) rfl
set_option maxRecDepth 100000 in
theorem k_1163 : Cond.instanceMethod ⟨"OpenPotsModel", "isLawful", "([I)Z"⟩ ∈ lw_t2 := t2_in (tb_5 (List.mem_of_getElem? (i := 120) rfl)) rfl
set_option maxRecDepth 100000 in
theorem k_1164 : Cond.code ⟨"OpenPotsModel", "isLawful", "([I)Z"⟩ prog_14_method_27_code 4 (some .boolean) ∈ lw_t2 := t2_in (tb_5 (List.mem_of_getElem? (i := 121) rfl)) rfl
set_option maxRecDepth 100000 in
theorem k_1165 : Cond.methodLink "OpenPotsModel" 154 ⟨"OpenPotsModel", "comes", "(I)I"⟩ ∈ lw_t2 := t2_in (tb_5 (List.mem_of_getElem? (i := 122) rfl)) rfl
set_option maxRecDepth 100000 in
theorem k_1167 : Cond.instanceMethod ⟨"OpenPotsModel", "comes", "(I)I"⟩ ∈ lw_t2 := t2_in (tb_5 (List.mem_of_getElem? (i := 124) rfl)) rfl
set_option maxRecDepth 100000 in
theorem k_1168 : Cond.code ⟨"OpenPotsModel", "comes", "(I)I"⟩ prog_14_method_31_code 3 (some .int) ∈ lw_t2 := t2_in (tb_5 (List.mem_of_getElem? (i := 125) rfl)) rfl
set_option maxRecDepth 100000 in
theorem k_1169 : Cond.methodLink "OpenPotsLaw" 45 ⟨"OpenPotsModel", "ofOrder", "(II)I"⟩ ∈ lw_t2 := t2_in (tb_5 (List.mem_of_getElem? (i := 126) rfl)) rfl
set_option maxRecDepth 100000 in
theorem k_1170 : Cond.instanceMethod ⟨"OpenPotsModel", "ofOrder", "(II)I"⟩ ∈ lw_t2 := t2_in (tb_5 (List.mem_of_getElem? (i := 127) rfl)) rfl
set_option maxRecDepth 100000 in
theorem k_1171 : Cond.selects "OpenPotsModel" ⟨"OpenPotsModel", "ofOrder", "(II)I"⟩ ⟨"OpenPotsModel", "ofOrder", "(II)I"⟩ ∈ lw_t2 := t2_in (tb_5 (List.mem_of_getElem? (i := 128) rfl)) rfl
set_option maxRecDepth 100000 in
theorem k_1172 : Cond.code ⟨"OpenPotsModel", "ofOrder", "(II)I"⟩ prog_14_method_33_code 4 (some .int) ∈ lw_t2 := t2_in (tb_5 (List.mem_of_getElem? (i := 129) rfl)) rfl
set_option maxRecDepth 100000 in
theorem k_1173 : Cond.methodLink "OpenPotsModel" 157 ⟨"OpenPotsModel", "isOrder", "(I)Z"⟩ ∈ lw_t2 := t2_in (tb_5 (List.mem_of_getElem? (i := 130) rfl)) rfl
set_option maxRecDepth 100000 in
theorem k_1175 : Cond.instanceMethod ⟨"OpenPotsModel", "isOrder", "(I)Z"⟩ ∈ lw_t2 := t2_in (tb_5 (List.mem_of_getElem? (i := 132) rfl)) rfl
set_option maxRecDepth 100000 in
theorem k_1176 : Cond.code ⟨"OpenPotsModel", "isOrder", "(I)Z"⟩ prog_14_method_25_code 2 (some .boolean) ∈ lw_t2 := t2_in (tb_5 (List.mem_of_getElem? (i := 133) rfl)) rfl
set_option maxRecDepth 100000 in
theorem k_1177 : Cond.methodLink "OpenPotsModel" 160 ⟨"OpenPotsModel", "lookAt", "(I)V"⟩ ∈ lw_t2 := t2_in (tb_5 (List.mem_of_getElem? (i := 134) rfl)) rfl
set_option maxRecDepth 100000 in
theorem k_1179 : Cond.instanceMethod ⟨"OpenPotsModel", "lookAt", "(I)V"⟩ ∈ lw_t2 := t2_in (tb_5 (List.mem_of_getElem? (i := 136) rfl)) rfl
set_option maxRecDepth 100000 in
theorem k_1180 : Cond.code ⟨"OpenPotsModel", "lookAt", "(I)V"⟩ prog_14_method_26_code 3 none ∈ lw_t2 := t2_in (tb_5 (List.mem_of_getElem? (i := 137) rfl)) rfl
set_option maxRecDepth 100000 in
theorem k_1181 : Cond.methodLink "OpenPotsModel" 164 ⟨"OpenPotsModel", "mostOf", "([I)I"⟩ ∈ lw_t2 := t2_in (tb_5 (List.mem_of_getElem? (i := 138) rfl)) rfl
set_option maxRecDepth 100000 in
theorem k_1183 : Cond.instanceMethod ⟨"OpenPotsModel", "mostOf", "([I)I"⟩ ∈ lw_t2 := t2_in (tb_5 (List.mem_of_getElem? (i := 140) rfl)) rfl
set_option maxRecDepth 100000 in
theorem k_1184 : Cond.code ⟨"OpenPotsModel", "mostOf", "([I)I"⟩ prog_14_method_29_code 5 (some .int) ∈ lw_t2 := t2_in (tb_5 (List.mem_of_getElem? (i := 141) rfl)) rfl
set_option maxRecDepth 100000 in
theorem k_1185 : Cond.methodLink "OpenPotsModel" 143 ⟨"OpenPotsModel", "openAt", "([II)I"⟩ ∈ lw_t2 := t2_in (tb_5 (List.mem_of_getElem? (i := 142) rfl)) rfl
set_option maxRecDepth 100000 in
theorem k_1187 : Cond.instanceMethod ⟨"OpenPotsModel", "openAt", "([II)I"⟩ ∈ lw_t2 := t2_in (tb_5 (List.mem_of_getElem? (i := 144) rfl)) rfl
set_option maxRecDepth 100000 in
theorem k_1188 : Cond.code ⟨"OpenPotsModel", "openAt", "([II)I"⟩ prog_14_method_28_code 6 (some .int) ∈ lw_t2 := t2_in (tb_5 (List.mem_of_getElem? (i := 145) rfl)) rfl
set_option maxRecDepth 100000 in
theorem k_1189 : Cond.methodLink "OpenPotsModel" 147 ⟨"OpenPotsModel", "sizeOf", "(I)I"⟩ ∈ lw_t2 := t2_in (tb_5 (List.mem_of_getElem? (i := 146) rfl)) rfl
set_option maxRecDepth 100000 in
theorem k_1191 : Cond.instanceMethod ⟨"OpenPotsModel", "sizeOf", "(I)I"⟩ ∈ lw_t2 := t2_in (tb_5 (List.mem_of_getElem? (i := 148) rfl)) rfl
set_option maxRecDepth 100000 in
theorem k_1192 : Cond.code ⟨"OpenPotsModel", "sizeOf", "(I)I"⟩ prog_14_method_23_code 4 (some .int) ∈ lw_t2 := t2_in (tb_5 (List.mem_of_getElem? (i := 149) rfl)) rfl
set_option maxRecDepth 100000 in
theorem k_1193 : Cond.methodLink "OpenPotsModel" 168 ⟨"OpenPotsModel", "longOf", "([I)I"⟩ ∈ lw_t2 := t2_in (tb_5 (List.mem_of_getElem? (i := 150) rfl)) rfl
set_option maxRecDepth 100000 in
theorem k_1195 : Cond.instanceMethod ⟨"OpenPotsModel", "longOf", "([I)I"⟩ ∈ lw_t2 := t2_in (tb_5 (List.mem_of_getElem? (i := 152) rfl)) rfl
set_option maxRecDepth 100000 in
theorem k_1196 : Cond.code ⟨"OpenPotsModel", "longOf", "([I)I"⟩ prog_14_method_30_code 4 (some .int) ∈ lw_t2 := t2_in (tb_5 (List.mem_of_getElem? (i := 153) rfl)) rfl
set_option maxRecDepth 100000 in
theorem k_1197 : Cond.methodLink "OpenPotsLaw" 50 ⟨"OpenPotsModel", "best", "(I)I"⟩ ∈ lw_t2 := t2_in (tb_5 (List.mem_of_getElem? (i := 154) rfl)) rfl
set_option maxRecDepth 100000 in
theorem k_1198 : Cond.instanceMethod ⟨"OpenPotsModel", "best", "(I)I"⟩ ∈ lw_t2 := t2_in (tb_5 (List.mem_of_getElem? (i := 155) rfl)) rfl
set_option maxRecDepth 100000 in
theorem k_1199 : Cond.selects "OpenPotsModel" ⟨"OpenPotsModel", "best", "(I)I"⟩ ⟨"OpenPotsModel", "best", "(I)I"⟩ ∈ lw_t2 := t2_in (tb_5 (List.mem_of_getElem? (i := 156) rfl)) rfl
set_option maxRecDepth 100000 in
theorem k_1200 : Cond.code ⟨"OpenPotsModel", "best", "(I)I"⟩ prog_14_method_42_code 6 (some .int) ∈ lw_t2 := t2_in (tb_5 (List.mem_of_getElem? (i := 157) rfl)) rfl
set_option maxRecDepth 100000 in
theorem k_1201 : Cond.methodLink "OpenPotsModel" 191 ⟨"OpenPotsModel", "leastOf", "(I)I"⟩ ∈ lw_t2 := t2_in (tb_5 (List.mem_of_getElem? (i := 158) rfl)) rfl
set_option maxRecDepth 100000 in
theorem k_1203 : Cond.instanceMethod ⟨"OpenPotsModel", "leastOf", "(I)I"⟩ ∈ lw_t2 := t2_in (tb_5 (List.mem_of_getElem? (i := 160) rfl)) rfl
set_option maxRecDepth 100000 in
theorem k_1204 : Cond.code ⟨"OpenPotsModel", "leastOf", "(I)I"⟩ prog_14_method_41_code 2 (some .int) ∈ lw_t2 := t2_in (tb_5 (List.mem_of_getElem? (i := 161) rfl)) rfl
set_option maxRecDepth 100000 in
theorem k_1205 : Cond.methodLink "OpenPotsModel" 185 ⟨"OpenPotsModel", "layUnions", "()V"⟩ ∈ lw_t2 := t2_in (tb_5 (List.mem_of_getElem? (i := 162) rfl)) rfl
set_option maxRecDepth 100000 in
theorem k_1207 : Cond.instanceMethod ⟨"OpenPotsModel", "layUnions", "()V"⟩ ∈ lw_t2 := t2_in (tb_5 (List.mem_of_getElem? (i := 164) rfl)) rfl
set_option maxRecDepth 100000 in
theorem k_1208 : Cond.code ⟨"OpenPotsModel", "layUnions", "()V"⟩ prog_14_method_34_code 2 none ∈ lw_t2 := t2_in (tb_5 (List.mem_of_getElem? (i := 165) rfl)) rfl
set_option maxRecDepth 100000 in
theorem k_1209 : Cond.methodLink "OpenPotsModel" 171 ⟨"OpenPotsModel", "needsOf", "(I)I"⟩ ∈ lw_t2 := t2_in (tb_5 (List.mem_of_getElem? (i := 166) rfl)) rfl
set_option maxRecDepth 100000 in
theorem k_1211 : Cond.instanceMethod ⟨"OpenPotsModel", "needsOf", "(I)I"⟩ ∈ lw_t2 := t2_in (tb_5 (List.mem_of_getElem? (i := 168) rfl)) rfl
set_option maxRecDepth 100000 in
theorem k_1212 : Cond.code ⟨"OpenPotsModel", "needsOf", "(I)I"⟩ prog_14_method_24_code 4 (some .int) ∈ lw_t2 := t2_in (tb_5 (List.mem_of_getElem? (i := 169) rfl)) rfl
set_option maxRecDepth 100000 in
theorem k_1213 : Cond.methodLink "OpenPotsModel" 188 ⟨"OpenPotsModel", "leastBy", "(I)I"⟩ ∈ lw_t2 := t2_in (tb_5 (List.mem_of_getElem? (i := 170) rfl)) rfl
set_option maxRecDepth 100000 in
theorem k_1215 : Cond.instanceMethod ⟨"OpenPotsModel", "leastBy", "(I)I"⟩ ∈ lw_t2 := t2_in (tb_5 (List.mem_of_getElem? (i := 172) rfl)) rfl
set_option maxRecDepth 100000 in
theorem k_1216 : Cond.code ⟨"OpenPotsModel", "leastBy", "(I)I"⟩ prog_14_method_40_code 2 (some .int) ∈ lw_t2 := t2_in (tb_5 (List.mem_of_getElem? (i := 173) rfl)) rfl
set_option maxRecDepth 100000 in
theorem k_1217 : Cond.methodLink "OpenPotsModel" 182 ⟨"OpenPotsModel", "layMost", "(I)V"⟩ ∈ lw_t2 := t2_in (tb_5 (List.mem_of_getElem? (i := 174) rfl)) rfl
set_option maxRecDepth 100000 in
theorem k_1219 : Cond.instanceMethod ⟨"OpenPotsModel", "layMost", "(I)V"⟩ ∈ lw_t2 := t2_in (tb_5 (List.mem_of_getElem? (i := 176) rfl)) rfl
set_option maxRecDepth 100000 in
theorem k_1220 : Cond.code ⟨"OpenPotsModel", "layMost", "(I)V"⟩ prog_14_method_37_code 8 none ∈ lw_t2 := t2_in (tb_5 (List.mem_of_getElem? (i := 177) rfl)) rfl
set_option maxRecDepth 100000 in
theorem k_1221 : Cond.constant "OpenPotsModel" 174 1000000 ∈ lw_t2 := t2_in (tb_5 (List.mem_of_getElem? (i := 178) rfl)) rfl
set_option maxRecDepth 100000 in
theorem k_1222 : Cond.methodLink "OpenPotsModel" 175 ⟨"OpenPotsModel", "mayCome", "(III)Z"⟩ ∈ lw_t2 := t2_in (tb_5 (List.mem_of_getElem? (i := 179) rfl)) rfl
set_option maxRecDepth 100000 in
theorem k_1224 : Cond.instanceMethod ⟨"OpenPotsModel", "mayCome", "(III)Z"⟩ ∈ lw_t2 := t2_in (tb_5 (List.mem_of_getElem? (i := 181) rfl)) rfl
set_option maxRecDepth 100000 in
theorem k_1225 : Cond.code ⟨"OpenPotsModel", "mayCome", "(III)Z"⟩ prog_14_method_36_code 4 (some .boolean) ∈ lw_t2 := t2_in (tb_5 (List.mem_of_getElem? (i := 182) rfl)) rfl
set_option maxRecDepth 100000 in
theorem k_1226 : Cond.methodLink "OpenPotsModel" 178 ⟨"OpenPotsModel", "wideBy", "(III)I"⟩ ∈ lw_t2 := t2_in (tb_5 (List.mem_of_getElem? (i := 183) rfl)) rfl
set_option maxRecDepth 100000 in
theorem k_1228 : Cond.instanceMethod ⟨"OpenPotsModel", "wideBy", "(III)I"⟩ ∈ lw_t2 := t2_in (tb_5 (List.mem_of_getElem? (i := 185) rfl)) rfl
set_option maxRecDepth 100000 in
theorem k_1229 : Cond.code ⟨"OpenPotsModel", "wideBy", "(III)I"⟩ prog_14_method_35_code 5 (some .int) ∈ lw_t2 := t2_in (tb_5 (List.mem_of_getElem? (i := 186) rfl)) rfl
set_option maxRecDepth 100000 in
theorem k_1230 : Cond.methodLink "OpenPotsModel" 194 ⟨"OpenPotsModel", "layLong", "(I)V"⟩ ∈ lw_t2 := t2_in (tb_5 (List.mem_of_getElem? (i := 187) rfl)) rfl
set_option maxRecDepth 100000 in
theorem k_1232 : Cond.instanceMethod ⟨"OpenPotsModel", "layLong", "(I)V"⟩ ∈ lw_t2 := t2_in (tb_5 (List.mem_of_getElem? (i := 189) rfl)) rfl
set_option maxRecDepth 100000 in
theorem k_1233 : Cond.code ⟨"OpenPotsModel", "layLong", "(I)V"⟩ prog_14_method_38_code 8 none ∈ lw_t2 := t2_in (tb_5 (List.mem_of_getElem? (i := 190) rfl)) rfl
set_option maxRecDepth 100000 in
theorem k_1234 : Cond.methodLink "OpenPotsModel" 197 ⟨"OpenPotsModel", "nextFrom", "(II)I"⟩ ∈ lw_t2 := t2_in (tb_5 (List.mem_of_getElem? (i := 191) rfl)) rfl
set_option maxRecDepth 100000 in
theorem k_1236 : Cond.instanceMethod ⟨"OpenPotsModel", "nextFrom", "(II)I"⟩ ∈ lw_t2 := t2_in (tb_5 (List.mem_of_getElem? (i := 193) rfl)) rfl
set_option maxRecDepth 100000 in
theorem k_1237 : Cond.code ⟨"OpenPotsModel", "nextFrom", "(II)I"⟩ prog_14_method_39_code 5 (some .int) ∈ lw_t2 := t2_in (tb_5 (List.mem_of_getElem? (i := 194) rfl)) rfl
set_option maxRecDepth 100000 in
theorem k_1238 : Cond.methodLink "OpenPotsLaw" 54 ⟨"OpenPotsModel", "from", "(III)I"⟩ ∈ lw_t2 := t2_in (tb_5 (List.mem_of_getElem? (i := 195) rfl)) rfl
set_option maxRecDepth 100000 in
theorem k_1239 : Cond.instanceMethod ⟨"OpenPotsModel", "from", "(III)I"⟩ ∈ lw_t2 := t2_in (tb_5 (List.mem_of_getElem? (i := 196) rfl)) rfl
set_option maxRecDepth 100000 in
theorem k_1240 : Cond.selects "OpenPotsModel" ⟨"OpenPotsModel", "from", "(III)I"⟩ ⟨"OpenPotsModel", "from", "(III)I"⟩ ∈ lw_t2 := t2_in (tb_5 (List.mem_of_getElem? (i := 197) rfl)) rfl
set_option maxRecDepth 100000 in
theorem k_1241 : Cond.code ⟨"OpenPotsModel", "from", "(III)I"⟩ prog_14_method_43_code 6 (some .int) ∈ lw_t2 := t2_in (tb_5 (List.mem_of_getElem? (i := 198) rfl)) rfl
set_option maxRecDepth 100000 in
theorem k_1242 : Cond.methodLink "OpenPotsLaw" 58 ⟨"OpenPotsModel", "better", "(II)I"⟩ ∈ lw_t2 := t2_in (tb_5 (List.mem_of_getElem? (i := 199) rfl)) rfl
set_option maxRecDepth 100000 in
theorem k_1243 : Cond.instanceMethod ⟨"OpenPotsModel", "better", "(II)I"⟩ ∈ lw_t2 := t2_in (tb_5 (List.mem_of_getElem? (i := 200) rfl)) rfl
set_option maxRecDepth 100000 in
theorem k_1244 : Cond.selects "OpenPotsModel" ⟨"OpenPotsModel", "better", "(II)I"⟩ ⟨"OpenPotsModel", "better", "(II)I"⟩ ∈ lw_t2 := t2_in (tb_5 (List.mem_of_getElem? (i := 201) rfl)) rfl
set_option maxRecDepth 100000 in
theorem k_1245 : Cond.code ⟨"OpenPotsModel", "better", "(II)I"⟩ prog_14_method_45_code 4 (some .int) ∈ lw_t2 := t2_in (tb_5 (List.mem_of_getElem? (i := 202) rfl)) rfl
set_option maxRecDepth 100000 in
theorem k_1246 : Cond.methodLink "OpenPotsModel" 201 ⟨"OpenPotsModel", "isBetter", "([I[I)Z"⟩ ∈ lw_t2 := t2_in (tb_5 (List.mem_of_getElem? (i := 203) rfl)) rfl
set_option maxRecDepth 100000 in
theorem k_1248 : Cond.instanceMethod ⟨"OpenPotsModel", "isBetter", "([I[I)Z"⟩ ∈ lw_t2 := t2_in (tb_5 (List.mem_of_getElem? (i := 205) rfl)) rfl
set_option maxRecDepth 100000 in
theorem k_1249 : Cond.code ⟨"OpenPotsModel", "isBetter", "([I[I)Z"⟩ prog_14_method_44_code 6 (some .boolean) ∈ lw_t2 := t2_in (tb_5 (List.mem_of_getElem? (i := 206) rfl)) rfl
set_option maxRecDepth 100000 in
theorem k_1250 : Cond.methodLink "OpenPotsLaw" 62 ⟨"OpenPotsModel", "cross", "(I)I"⟩ ∈ lw_t2 := t2_in (tb_5 (List.mem_of_getElem? (i := 207) rfl)) rfl
set_option maxRecDepth 100000 in
theorem k_1251 : Cond.instanceMethod ⟨"OpenPotsModel", "cross", "(I)I"⟩ ∈ lw_t2 := t2_in (tb_5 (List.mem_of_getElem? (i := 208) rfl)) rfl
set_option maxRecDepth 100000 in
theorem k_1252 : Cond.selects "OpenPotsModel" ⟨"OpenPotsModel", "cross", "(I)I"⟩ ⟨"OpenPotsModel", "cross", "(I)I"⟩ ∈ lw_t2 := t2_in (tb_5 (List.mem_of_getElem? (i := 209) rfl)) rfl
set_option maxRecDepth 100000 in
theorem k_1253 : Cond.code ⟨"OpenPotsModel", "cross", "(I)I"⟩ prog_14_method_48_code 2 (some .int) ∈ lw_t2 := t2_in (tb_5 (List.mem_of_getElem? (i := 210) rfl)) rfl
set_option maxRecDepth 100000 in
theorem k_1254 : Cond.methodLink "OpenPotsModel" 211 ⟨"OpenPotsModel", "crossOf", "(I)I"⟩ ∈ lw_t2 := t2_in (tb_5 (List.mem_of_getElem? (i := 211) rfl)) rfl
set_option maxRecDepth 100000 in
theorem k_1256 : Cond.instanceMethod ⟨"OpenPotsModel", "crossOf", "(I)I"⟩ ∈ lw_t2 := t2_in (tb_5 (List.mem_of_getElem? (i := 213) rfl)) rfl
set_option maxRecDepth 100000 in
theorem k_1257 : Cond.code ⟨"OpenPotsModel", "crossOf", "(I)I"⟩ prog_14_method_47_code 5 (some .int) ∈ lw_t2 := t2_in (tb_5 (List.mem_of_getElem? (i := 214) rfl)) rfl
set_option maxRecDepth 100000 in
theorem k_1258 : Cond.methodLink "OpenPotsModel" 205 ⟨"OpenPotsModel", "bitsOf", "(I)I"⟩ ∈ lw_t2 := t2_in (tb_5 (List.mem_of_getElem? (i := 215) rfl)) rfl
set_option maxRecDepth 100000 in
theorem k_1259 : Cond.static ⟨"OpenPotsModel", "bitsOf", "(I)I"⟩ ∈ lw_t2 := t2_in (tb_5 (List.mem_of_getElem? (i := 216) rfl)) rfl
set_option maxRecDepth 100000 in
theorem k_1260 : Cond.code ⟨"OpenPotsModel", "bitsOf", "(I)I"⟩ prog_14_method_7_code 3 (some .int) ∈ lw_t2 := t2_in (tb_5 (List.mem_of_getElem? (i := 217) rfl)) rfl
set_option maxRecDepth 100000 in
theorem k_1261 : Cond.methodLink "OpenPotsModel" 208 ⟨"OpenPotsModel", "isClosed", "(I)Z"⟩ ∈ lw_t2 := t2_in (tb_5 (List.mem_of_getElem? (i := 218) rfl)) rfl
set_option maxRecDepth 100000 in
theorem k_1263 : Cond.instanceMethod ⟨"OpenPotsModel", "isClosed", "(I)Z"⟩ ∈ lw_t2 := t2_in (tb_5 (List.mem_of_getElem? (i := 220) rfl)) rfl
set_option maxRecDepth 100000 in
theorem k_1264 : Cond.code ⟨"OpenPotsModel", "isClosed", "(I)Z"⟩ prog_14_method_46_code 3 (some .boolean) ∈ lw_t2 := t2_in (tb_5 (List.mem_of_getElem? (i := 221) rfl)) rfl
set_option maxRecDepth 100000 in
theorem k_1265 : Cond.methodLink "OpenPotsLaw" 66 ⟨"OpenPotsModel", "knot", "(I)I"⟩ ∈ lw_t2 := t2_in (tb_5 (List.mem_of_getElem? (i := 222) rfl)) rfl
set_option maxRecDepth 100000 in
theorem k_1266 : Cond.instanceMethod ⟨"OpenPotsModel", "knot", "(I)I"⟩ ∈ lw_t2 := t2_in (tb_5 (List.mem_of_getElem? (i := 223) rfl)) rfl
set_option maxRecDepth 100000 in
theorem k_1267 : Cond.selects "OpenPotsModel" ⟨"OpenPotsModel", "knot", "(I)I"⟩ ⟨"OpenPotsModel", "knot", "(I)I"⟩ ∈ lw_t2 := t2_in (tb_5 (List.mem_of_getElem? (i := 224) rfl)) rfl
set_option maxRecDepth 100000 in
theorem k_1268 : Cond.code ⟨"OpenPotsModel", "knot", "(I)I"⟩ prog_14_method_52_code 3 (some .int) ∈ lw_t2 := t2_in (tb_5 (List.mem_of_getElem? (i := 225) rfl)) rfl
set_option maxRecDepth 100000 in
theorem k_1269 : Cond.methodLink "OpenPotsModel" 220 ⟨"OpenPotsModel", "knotOf", "()I"⟩ ∈ lw_t2 := t2_in (tb_5 (List.mem_of_getElem? (i := 226) rfl)) rfl
set_option maxRecDepth 100000 in
theorem k_1271 : Cond.instanceMethod ⟨"OpenPotsModel", "knotOf", "()I"⟩ ∈ lw_t2 := t2_in (tb_5 (List.mem_of_getElem? (i := 228) rfl)) rfl
set_option maxRecDepth 100000 in
theorem k_1272 : Cond.code ⟨"OpenPotsModel", "knotOf", "()I"⟩ prog_14_method_51_code 5 (some .int) ∈ lw_t2 := t2_in (tb_5 (List.mem_of_getElem? (i := 229) rfl)) rfl
set_option maxRecDepth 100000 in
theorem k_1273 : Cond.methodLink "OpenPotsModel" 217 ⟨"OpenPotsModel", "isKnot", "(I)Z"⟩ ∈ lw_t2 := t2_in (tb_5 (List.mem_of_getElem? (i := 230) rfl)) rfl
set_option maxRecDepth 100000 in
theorem k_1275 : Cond.instanceMethod ⟨"OpenPotsModel", "isKnot", "(I)Z"⟩ ∈ lw_t2 := t2_in (tb_5 (List.mem_of_getElem? (i := 232) rfl)) rfl
set_option maxRecDepth 100000 in
theorem k_1276 : Cond.code ⟨"OpenPotsModel", "isKnot", "(I)Z"⟩ prog_14_method_50_code 4 (some .boolean) ∈ lw_t2 := t2_in (tb_5 (List.mem_of_getElem? (i := 233) rfl)) rfl
set_option maxRecDepth 100000 in
theorem k_1277 : Cond.methodLink "OpenPotsModel" 214 ⟨"OpenPotsModel", "share", "(II)Z"⟩ ∈ lw_t2 := t2_in (tb_5 (List.mem_of_getElem? (i := 234) rfl)) rfl
set_option maxRecDepth 100000 in
theorem k_1279 : Cond.instanceMethod ⟨"OpenPotsModel", "share", "(II)Z"⟩ ∈ lw_t2 := t2_in (tb_5 (List.mem_of_getElem? (i := 236) rfl)) rfl
set_option maxRecDepth 100000 in
theorem k_1280 : Cond.code ⟨"OpenPotsModel", "share", "(II)Z"⟩ prog_14_method_49_code 4 (some .boolean) ∈ lw_t2 := t2_in (tb_5 (List.mem_of_getElem? (i := 237) rfl)) rfl
set_option maxRecDepth 100000 in
theorem k_1281 : Cond.methodLink "OpenPotsLaw" 71 ⟨"OpenPotsModel", "bound", "()I"⟩ ∈ lw_t2 := t2_in (tb_5 (List.mem_of_getElem? (i := 238) rfl)) rfl
set_option maxRecDepth 100000 in
theorem k_1282 : Cond.instanceMethod ⟨"OpenPotsModel", "bound", "()I"⟩ ∈ lw_t2 := t2_in (tb_5 (List.mem_of_getElem? (i := 239) rfl)) rfl
set_option maxRecDepth 100000 in
theorem k_1283 : Cond.selects "OpenPotsModel" ⟨"OpenPotsModel", "bound", "()I"⟩ ⟨"OpenPotsModel", "bound", "()I"⟩ ∈ lw_t2 := t2_in (tb_6 (List.mem_of_getElem? (i := 0) rfl)) rfl
set_option maxRecDepth 100000 in
theorem k_1284 : Cond.code ⟨"OpenPotsModel", "bound", "()I"⟩ prog_14_method_53_code 4 (some .int) ∈ lw_t2 := t2_in (tb_6 (List.mem_of_getElem? (i := 1) rfl)) rfl
set_option maxRecDepth 100000 in
theorem k_1285 : Cond.methodLink "OpenPotsLaw" 75 ⟨"OpenPotsModel", "part", "(I)I"⟩ ∈ lw_t2 := t2_in (tb_6 (List.mem_of_getElem? (i := 2) rfl)) rfl
set_option maxRecDepth 100000 in
theorem k_1286 : Cond.instanceMethod ⟨"OpenPotsModel", "part", "(I)I"⟩ ∈ lw_t2 := t2_in (tb_6 (List.mem_of_getElem? (i := 3) rfl)) rfl
set_option maxRecDepth 100000 in
theorem k_1287 : Cond.selects "OpenPotsModel" ⟨"OpenPotsModel", "part", "(I)I"⟩ ⟨"OpenPotsModel", "part", "(I)I"⟩ ∈ lw_t2 := t2_in (tb_6 (List.mem_of_getElem? (i := 4) rfl)) rfl
set_option maxRecDepth 100000 in
theorem k_1288 : Cond.code ⟨"OpenPotsModel", "part", "(I)I"⟩ prog_14_method_55_code 4 (some .int) ∈ lw_t2 := t2_in (tb_6 (List.mem_of_getElem? (i := 5) rfl)) rfl
set_option maxRecDepth 100000 in
theorem k_1289 : Cond.methodLink "OpenPotsModel" 223 ⟨"OpenPotsModel", "layParts", "()V"⟩ ∈ lw_t2 := t2_in (tb_6 (List.mem_of_getElem? (i := 6) rfl)) rfl
set_option maxRecDepth 100000 in
theorem k_1291 : Cond.instanceMethod ⟨"OpenPotsModel", "layParts", "()V"⟩ ∈ lw_t2 := t2_in (tb_6 (List.mem_of_getElem? (i := 8) rfl)) rfl
set_option maxRecDepth 100000 in
theorem k_1292 : Cond.code ⟨"OpenPotsModel", "layParts", "()V"⟩ prog_14_method_54_code 4 none ∈ lw_t2 := t2_in (tb_6 (List.mem_of_getElem? (i := 9) rfl)) rfl
set_option maxRecDepth 100000 in
theorem k_1293 : Cond.methodLink "OpenPotsLaw" 79 ⟨"OpenPotsModel", "within", "()I"⟩ ∈ lw_t2 := t2_in (tb_6 (List.mem_of_getElem? (i := 10) rfl)) rfl
set_option maxRecDepth 100000 in
theorem k_1294 : Cond.instanceMethod ⟨"OpenPotsModel", "within", "()I"⟩ ∈ lw_t2 := t2_in (tb_6 (List.mem_of_getElem? (i := 11) rfl)) rfl
set_option maxRecDepth 100000 in
theorem k_1295 : Cond.selects "OpenPotsModel" ⟨"OpenPotsModel", "within", "()I"⟩ ⟨"OpenPotsModel", "within", "()I"⟩ ∈ lw_t2 := t2_in (tb_6 (List.mem_of_getElem? (i := 12) rfl)) rfl
set_option maxRecDepth 100000 in
theorem k_1296 : Cond.code ⟨"OpenPotsModel", "within", "()I"⟩ prog_14_method_56_code 5 (some .int) ∈ lw_t2 := t2_in (tb_6 (List.mem_of_getElem? (i := 13) rfl)) rfl
set_option maxRecDepth 100000 in
theorem k_1297 : Cond.methodLink "OpenPotsLaw" 83 ⟨"OpenPotsModel", "build", "(II)I"⟩ ∈ lw_t2 := t2_in (tb_6 (List.mem_of_getElem? (i := 14) rfl)) rfl
set_option maxRecDepth 100000 in
theorem k_1298 : Cond.instanceMethod ⟨"OpenPotsModel", "build", "(II)I"⟩ ∈ lw_t2 := t2_in (tb_6 (List.mem_of_getElem? (i := 15) rfl)) rfl
set_option maxRecDepth 100000 in
theorem k_1299 : Cond.selects "OpenPotsModel" ⟨"OpenPotsModel", "build", "(II)I"⟩ ⟨"OpenPotsModel", "build", "(II)I"⟩ ∈ lw_t2 := t2_in (tb_6 (List.mem_of_getElem? (i := 16) rfl)) rfl
set_option maxRecDepth 100000 in
theorem k_1300 : Cond.code ⟨"OpenPotsModel", "build", "(II)I"⟩ prog_14_method_59_code 5 (some .int) ∈ lw_t2 := t2_in (tb_6 (List.mem_of_getElem? (i := 17) rfl)) rfl
set_option maxRecDepth 100000 in
theorem k_1301 : Cond.methodLink "OpenPotsModel" 229 ⟨"OpenPotsModel", "chosen", "(III)I"⟩ ∈ lw_t2 := t2_in (tb_6 (List.mem_of_getElem? (i := 18) rfl)) rfl
set_option maxRecDepth 100000 in
theorem k_1303 : Cond.instanceMethod ⟨"OpenPotsModel", "chosen", "(III)I"⟩ ∈ lw_t2 := t2_in (tb_6 (List.mem_of_getElem? (i := 20) rfl)) rfl
set_option maxRecDepth 100000 in
theorem k_1304 : Cond.code ⟨"OpenPotsModel", "chosen", "(III)I"⟩ prog_14_method_58_code 7 (some .int) ∈ lw_t2 := t2_in (tb_6 (List.mem_of_getElem? (i := 21) rfl)) rfl
set_option maxRecDepth 100000 in
theorem k_1305 : Cond.methodLink "OpenPotsModel" 226 ⟨"OpenPotsModel", "dislikes", "(III)I"⟩ ∈ lw_t2 := t2_in (tb_6 (List.mem_of_getElem? (i := 22) rfl)) rfl
set_option maxRecDepth 100000 in
theorem k_1307 : Cond.instanceMethod ⟨"OpenPotsModel", "dislikes", "(III)I"⟩ ∈ lw_t2 := t2_in (tb_6 (List.mem_of_getElem? (i := 24) rfl)) rfl
set_option maxRecDepth 100000 in
theorem k_1308 : Cond.code ⟨"OpenPotsModel", "dislikes", "(III)I"⟩ prog_14_method_57_code 6 (some .int) ∈ lw_t2 := t2_in (tb_6 (List.mem_of_getElem? (i := 25) rfl)) rfl
set_option maxRecDepth 100000 in
theorem k_1309 : Cond.methodLink "OpenPotsLaw" 87 ⟨"OpenPotsModel", "move", "(I)I"⟩ ∈ lw_t2 := t2_in (tb_6 (List.mem_of_getElem? (i := 26) rfl)) rfl
set_option maxRecDepth 100000 in
theorem k_1310 : Cond.instanceMethod ⟨"OpenPotsModel", "move", "(I)I"⟩ ∈ lw_t2 := t2_in (tb_6 (List.mem_of_getElem? (i := 27) rfl)) rfl
set_option maxRecDepth 100000 in
theorem k_1311 : Cond.selects "OpenPotsModel" ⟨"OpenPotsModel", "move", "(I)I"⟩ ⟨"OpenPotsModel", "move", "(I)I"⟩ ∈ lw_t2 := t2_in (tb_6 (List.mem_of_getElem? (i := 28) rfl)) rfl
set_option maxRecDepth 100000 in
theorem k_1312 : Cond.code ⟨"OpenPotsModel", "move", "(I)I"⟩ prog_14_method_62_code 3 (some .int) ∈ lw_t2 := t2_in (tb_6 (List.mem_of_getElem? (i := 29) rfl)) rfl
set_option maxRecDepth 100000 in
theorem k_1313 : Cond.methodLink "OpenPotsModel" 236 ⟨"OpenPotsModel", "moveOnce", "()Z"⟩ ∈ lw_t2 := t2_in (tb_6 (List.mem_of_getElem? (i := 30) rfl)) rfl
set_option maxRecDepth 100000 in
theorem k_1315 : Cond.instanceMethod ⟨"OpenPotsModel", "moveOnce", "()Z"⟩ ∈ lw_t2 := t2_in (tb_6 (List.mem_of_getElem? (i := 32) rfl)) rfl
set_option maxRecDepth 100000 in
theorem k_1316 : Cond.code ⟨"OpenPotsModel", "moveOnce", "()Z"⟩ prog_14_method_61_code 4 (some .boolean) ∈ lw_t2 := t2_in (tb_6 (List.mem_of_getElem? (i := 33) rfl)) rfl
set_option maxRecDepth 100000 in
theorem k_1317 : Cond.methodLink "OpenPotsModel" 232 ⟨"OpenPotsModel", "layMoved", "(II)V"⟩ ∈ lw_t2 := t2_in (tb_6 (List.mem_of_getElem? (i := 34) rfl)) rfl
set_option maxRecDepth 100000 in
theorem k_1319 : Cond.instanceMethod ⟨"OpenPotsModel", "layMoved", "(II)V"⟩ ∈ lw_t2 := t2_in (tb_6 (List.mem_of_getElem? (i := 36) rfl)) rfl
set_option maxRecDepth 100000 in
theorem k_1320 : Cond.code ⟨"OpenPotsModel", "layMoved", "(II)V"⟩ prog_14_method_60_code 5 none ∈ lw_t2 := t2_in (tb_6 (List.mem_of_getElem? (i := 37) rfl)) rfl
set_option maxRecDepth 100000 in
theorem k_1321 : Cond.methodLink "OpenPotsLaw" 91 ⟨"OpenPotsModel", "moves", "(I)I"⟩ ∈ lw_t2 := t2_in (tb_6 (List.mem_of_getElem? (i := 38) rfl)) rfl
set_option maxRecDepth 100000 in
theorem k_1322 : Cond.instanceMethod ⟨"OpenPotsModel", "moves", "(I)I"⟩ ∈ lw_t2 := t2_in (tb_6 (List.mem_of_getElem? (i := 39) rfl)) rfl
set_option maxRecDepth 100000 in
theorem k_1323 : Cond.selects "OpenPotsModel" ⟨"OpenPotsModel", "moves", "(I)I"⟩ ⟨"OpenPotsModel", "moves", "(I)I"⟩ ∈ lw_t2 := t2_in (tb_6 (List.mem_of_getElem? (i := 40) rfl)) rfl
set_option maxRecDepth 100000 in
theorem k_1324 : Cond.code ⟨"OpenPotsModel", "moves", "(I)I"⟩ prog_14_method_63_code 3 (some .int) ∈ lw_t2 := t2_in (tb_6 (List.mem_of_getElem? (i := 41) rfl)) rfl
set_option maxRecDepth 100000 in
theorem k_1325 : Cond.methodLink "OpenPotsLaw" 95 ⟨"OpenPotsModel", "cheapest", "(II)I"⟩ ∈ lw_t2 := t2_in (tb_6 (List.mem_of_getElem? (i := 42) rfl)) rfl
set_option maxRecDepth 100000 in
theorem k_1326 : Cond.instanceMethod ⟨"OpenPotsModel", "cheapest", "(II)I"⟩ ∈ lw_t2 := t2_in (tb_6 (List.mem_of_getElem? (i := 43) rfl)) rfl
set_option maxRecDepth 100000 in
theorem k_1327 : Cond.selects "OpenPotsModel" ⟨"OpenPotsModel", "cheapest", "(II)I"⟩ ⟨"OpenPotsModel", "cheapest", "(II)I"⟩ ∈ lw_t2 := t2_in (tb_6 (List.mem_of_getElem? (i := 44) rfl)) rfl
set_option maxRecDepth 100000 in
theorem k_1328 : Cond.code ⟨"OpenPotsModel", "cheapest", "(II)I"⟩ prog_14_method_67_code 3 (some .int) ∈ lw_t2 := t2_in (tb_6 (List.mem_of_getElem? (i := 45) rfl)) rfl
set_option maxRecDepth 100000 in
theorem k_1329 : Cond.methodLink "OpenPotsModel" 245 ⟨"OpenPotsModel", "cheapestWith", "(I)I"⟩ ∈ lw_t2 := t2_in (tb_6 (List.mem_of_getElem? (i := 46) rfl)) rfl
set_option maxRecDepth 100000 in
theorem k_1331 : Cond.instanceMethod ⟨"OpenPotsModel", "cheapestWith", "(I)I"⟩ ∈ lw_t2 := t2_in (tb_6 (List.mem_of_getElem? (i := 48) rfl)) rfl
set_option maxRecDepth 100000 in
theorem k_1332 : Cond.code ⟨"OpenPotsModel", "cheapestWith", "(I)I"⟩ prog_14_method_66_code 11 (some .int) ∈ lw_t2 := t2_in (tb_6 (List.mem_of_getElem? (i := 49) rfl)) rfl
set_option maxRecDepth 100000 in
theorem k_1333 : Cond.methodLink "OpenPotsModel" 239 ⟨"OpenPotsModel", "betweenAt", "(I)I"⟩ ∈ lw_t2 := t2_in (tb_6 (List.mem_of_getElem? (i := 50) rfl)) rfl
set_option maxRecDepth 100000 in
theorem k_1335 : Cond.instanceMethod ⟨"OpenPotsModel", "betweenAt", "(I)I"⟩ ∈ lw_t2 := t2_in (tb_6 (List.mem_of_getElem? (i := 52) rfl)) rfl
set_option maxRecDepth 100000 in
theorem k_1336 : Cond.code ⟨"OpenPotsModel", "betweenAt", "(I)I"⟩ prog_14_method_64_code 2 (some .int) ∈ lw_t2 := t2_in (tb_6 (List.mem_of_getElem? (i := 53) rfl)) rfl
set_option maxRecDepth 100000 in
theorem k_1337 : Cond.methodLink "OpenPotsModel" 242 ⟨"OpenPotsModel", "priceOf", "(I)I"⟩ ∈ lw_t2 := t2_in (tb_6 (List.mem_of_getElem? (i := 54) rfl)) rfl
set_option maxRecDepth 100000 in
theorem k_1339 : Cond.instanceMethod ⟨"OpenPotsModel", "priceOf", "(I)I"⟩ ∈ lw_t2 := t2_in (tb_6 (List.mem_of_getElem? (i := 56) rfl)) rfl
set_option maxRecDepth 100000 in
theorem k_1340 : Cond.code ⟨"OpenPotsModel", "priceOf", "(I)I"⟩ prog_14_method_65_code 4 (some .int) ∈ lw_t2 := t2_in (tb_6 (List.mem_of_getElem? (i := 57) rfl)) rfl
set_option maxRecDepth 100000 in
theorem k_1341 : Cond.methodLink "OpenPotsLaw" 99 ⟨"OpenPotsModel", "room", "(II)I"⟩ ∈ lw_t2 := t2_in (tb_6 (List.mem_of_getElem? (i := 58) rfl)) rfl
set_option maxRecDepth 100000 in
theorem k_1342 : Cond.instanceMethod ⟨"OpenPotsModel", "room", "(II)I"⟩ ∈ lw_t2 := t2_in (tb_6 (List.mem_of_getElem? (i := 59) rfl)) rfl
set_option maxRecDepth 100000 in
theorem k_1343 : Cond.selects "OpenPotsModel" ⟨"OpenPotsModel", "room", "(II)I"⟩ ⟨"OpenPotsModel", "room", "(II)I"⟩ ∈ lw_t2 := t2_in (tb_6 (List.mem_of_getElem? (i := 60) rfl)) rfl
set_option maxRecDepth 100000 in
theorem k_1344 : Cond.code ⟨"OpenPotsModel", "room", "(II)I"⟩ prog_14_method_68_code 7 (some .int) ∈ lw_t2 := t2_in (tb_6 (List.mem_of_getElem? (i := 61) rfl)) rfl
set_option maxRecDepth 100000 in
theorem k_1345 : Cond.methodLink "OpenPotsLaw" 103 ⟨"OpenPotsModel", "two", "(I)I"⟩ ∈ lw_t2 := t2_in (tb_6 (List.mem_of_getElem? (i := 62) rfl)) rfl
set_option maxRecDepth 100000 in
theorem k_1346 : Cond.instanceMethod ⟨"OpenPotsModel", "two", "(I)I"⟩ ∈ lw_t2 := t2_in (tb_6 (List.mem_of_getElem? (i := 63) rfl)) rfl
set_option maxRecDepth 100000 in
theorem k_1347 : Cond.selects "OpenPotsModel" ⟨"OpenPotsModel", "two", "(I)I"⟩ ⟨"OpenPotsModel", "two", "(I)I"⟩ ∈ lw_t2 := t2_in (tb_6 (List.mem_of_getElem? (i := 64) rfl)) rfl
set_option maxRecDepth 100000 in
theorem k_1348 : Cond.code ⟨"OpenPotsModel", "two", "(I)I"⟩ prog_14_method_69_code 8 (some .int) ∈ lw_t2 := t2_in (tb_6 (List.mem_of_getElem? (i := 65) rfl)) rfl
set_option maxRecDepth 100000 in
theorem k_1349 : Cond.methodLink "OpenPotsLaw" 107 ⟨"OpenPotsModel", "without", "(I)I"⟩ ∈ lw_t2 := t2_in (tb_6 (List.mem_of_getElem? (i := 66) rfl)) rfl
set_option maxRecDepth 100000 in
theorem k_1350 : Cond.instanceMethod ⟨"OpenPotsModel", "without", "(I)I"⟩ ∈ lw_t2 := t2_in (tb_6 (List.mem_of_getElem? (i := 67) rfl)) rfl
set_option maxRecDepth 100000 in
theorem k_1351 : Cond.selects "OpenPotsModel" ⟨"OpenPotsModel", "without", "(I)I"⟩ ⟨"OpenPotsModel", "without", "(I)I"⟩ ∈ lw_t2 := t2_in (tb_6 (List.mem_of_getElem? (i := 68) rfl)) rfl
set_option maxRecDepth 100000 in
theorem k_1352 : Cond.code ⟨"OpenPotsModel", "without", "(I)I"⟩ prog_14_method_70_code 2 (some .int) ∈ lw_t2 := t2_in (tb_6 (List.mem_of_getElem? (i := 69) rfl)) rfl
set_option maxRecDepth 100000 in
theorem k_1353 : Cond.methodLink "OpenPotsLaw" 111 ⟨"OpenPotsModel", "why", "(II)I"⟩ ∈ lw_t2 := t2_in (tb_6 (List.mem_of_getElem? (i := 70) rfl)) rfl
set_option maxRecDepth 100000 in
theorem k_1354 : Cond.instanceMethod ⟨"OpenPotsModel", "why", "(II)I"⟩ ∈ lw_t2 := t2_in (tb_6 (List.mem_of_getElem? (i := 71) rfl)) rfl
set_option maxRecDepth 100000 in
theorem k_1355 : Cond.selects "OpenPotsModel" ⟨"OpenPotsModel", "why", "(II)I"⟩ ⟨"OpenPotsModel", "why", "(II)I"⟩ ∈ lw_t2 := t2_in (tb_6 (List.mem_of_getElem? (i := 72) rfl)) rfl
set_option maxRecDepth 100000 in
theorem k_1356 : Cond.code ⟨"OpenPotsModel", "why", "(II)I"⟩ prog_14_method_71_code 4 (some .int) ∈ lw_t2 := t2_in (tb_6 (List.mem_of_getElem? (i := 73) rfl)) rfl
set_option maxRecDepth 100000 in
theorem k_1357 : Cond.methodLink "OpenPotsLaw" 115 ⟨"OpenPotsModel", "widest", "()I"⟩ ∈ lw_t2 := t2_in (tb_6 (List.mem_of_getElem? (i := 74) rfl)) rfl
set_option maxRecDepth 100000 in
theorem k_1358 : Cond.instanceMethod ⟨"OpenPotsModel", "widest", "()I"⟩ ∈ lw_t2 := t2_in (tb_6 (List.mem_of_getElem? (i := 75) rfl)) rfl
set_option maxRecDepth 100000 in
theorem k_1359 : Cond.selects "OpenPotsModel" ⟨"OpenPotsModel", "widest", "()I"⟩ ⟨"OpenPotsModel", "widest", "()I"⟩ ∈ lw_t2 := t2_in (tb_6 (List.mem_of_getElem? (i := 76) rfl)) rfl
set_option maxRecDepth 100000 in
theorem k_1360 : Cond.code ⟨"OpenPotsModel", "widest", "()I"⟩ prog_14_method_72_code 5 (some .int) ∈ lw_t2 := t2_in (tb_6 (List.mem_of_getElem? (i := 77) rfl)) rfl
set_option maxRecDepth 100000 in
theorem k_1361 : Cond.methodLink "OpenPotsLaw" 119 ⟨"OpenPotsModel", "sheet", "(III)I"⟩ ∈ lw_t2 := t2_in (tb_6 (List.mem_of_getElem? (i := 78) rfl)) rfl
set_option maxRecDepth 100000 in
theorem k_1362 : Cond.instanceMethod ⟨"OpenPotsModel", "sheet", "(III)I"⟩ ∈ lw_t2 := t2_in (tb_6 (List.mem_of_getElem? (i := 79) rfl)) rfl
set_option maxRecDepth 100000 in
theorem k_1363 : Cond.selects "OpenPotsModel" ⟨"OpenPotsModel", "sheet", "(III)I"⟩ ⟨"OpenPotsModel", "sheet", "(III)I"⟩ ∈ lw_t2 := t2_in (tb_6 (List.mem_of_getElem? (i := 80) rfl)) rfl
set_option maxRecDepth 100000 in
theorem k_1364 : Cond.code ⟨"OpenPotsModel", "sheet", "(III)I"⟩ prog_14_method_73_code 5 (some .int) ∈ lw_t2 := t2_in (tb_6 (List.mem_of_getElem? (i := 81) rfl)) rfl
set_option maxRecDepth 100000 in
theorem k_1365 : Cond.methodLink "OpenPotsLaw" 123 ⟨"OpenPotsModel", "lose", "(I)I"⟩ ∈ lw_t2 := t2_in (tb_6 (List.mem_of_getElem? (i := 82) rfl)) rfl
set_option maxRecDepth 100000 in
theorem k_1366 : Cond.instanceMethod ⟨"OpenPotsModel", "lose", "(I)I"⟩ ∈ lw_t2 := t2_in (tb_6 (List.mem_of_getElem? (i := 83) rfl)) rfl
set_option maxRecDepth 100000 in
theorem k_1367 : Cond.selects "OpenPotsModel" ⟨"OpenPotsModel", "lose", "(I)I"⟩ ⟨"OpenPotsModel", "lose", "(I)I"⟩ ∈ lw_t2 := t2_in (tb_6 (List.mem_of_getElem? (i := 84) rfl)) rfl
set_option maxRecDepth 100000 in
theorem k_1368 : Cond.code ⟨"OpenPotsModel", "lose", "(I)I"⟩ prog_14_method_74_code 3 (some .int) ∈ lw_t2 := t2_in (tb_6 (List.mem_of_getElem? (i := 85) rfl)) rfl
set_option maxRecDepth 100000 in
theorem k_1369 : Cond.methodLink "OpenPotsLaw" 127 ⟨"OpenPotsModel", "put", "(III)I"⟩ ∈ lw_t2 := t2_in (tb_6 (List.mem_of_getElem? (i := 86) rfl)) rfl
set_option maxRecDepth 100000 in
theorem k_1370 : Cond.instanceMethod ⟨"OpenPotsModel", "put", "(III)I"⟩ ∈ lw_t2 := t2_in (tb_6 (List.mem_of_getElem? (i := 87) rfl)) rfl
set_option maxRecDepth 100000 in
theorem k_1371 : Cond.selects "OpenPotsModel" ⟨"OpenPotsModel", "put", "(III)I"⟩ ⟨"OpenPotsModel", "put", "(III)I"⟩ ∈ lw_t2 := t2_in (tb_6 (List.mem_of_getElem? (i := 88) rfl)) rfl
set_option maxRecDepth 100000 in
theorem k_1372 : Cond.code ⟨"OpenPotsModel", "put", "(III)I"⟩ prog_14_method_75_code 4 (some .int) ∈ lw_t2 := t2_in (tb_6 (List.mem_of_getElem? (i := 89) rfl)) rfl
set_option maxRecDepth 100000 in
theorem k_1373 : Cond.methodLink "OpenPotsLaw" 132 ⟨"OpenPotsModel", "cell", "(III)J"⟩ ∈ lw_t2 := t2_in (tb_6 (List.mem_of_getElem? (i := 90) rfl)) rfl
set_option maxRecDepth 100000 in
theorem k_1374 : Cond.instanceMethod ⟨"OpenPotsModel", "cell", "(III)J"⟩ ∈ lw_t2 := t2_in (tb_6 (List.mem_of_getElem? (i := 91) rfl)) rfl
set_option maxRecDepth 100000 in
theorem k_1375 : Cond.selects "OpenPotsModel" ⟨"OpenPotsModel", "cell", "(III)J"⟩ ⟨"OpenPotsModel", "cell", "(III)J"⟩ ∈ lw_t2 := t2_in (tb_6 (List.mem_of_getElem? (i := 92) rfl)) rfl
set_option maxRecDepth 100000 in
theorem k_1376 : Cond.code ⟨"OpenPotsModel", "cell", "(III)J"⟩ prog_14_method_76_code 4 (some .long) ∈ lw_t2 := t2_in (tb_6 (List.mem_of_getElem? (i := 93) rfl)) rfl
set_option maxRecDepth 100000 in
theorem k_1377 : Cond.constantLong "OpenPotsModel" 77 (-9223372036854775808) ∈ lw_t2 := t2_in (tb_6 (List.mem_of_getElem? (i := 94) rfl)) rfl
set_option maxRecDepth 100000 in
theorem k_1378 : Cond.methodLink "OpenPotsModel" 248 ⟨"OpenPotsModel", "lost", "(I)J"⟩ ∈ lw_t2 := t2_in (tb_6 (List.mem_of_getElem? (i := 95) rfl)) rfl
set_option maxRecDepth 100000 in
theorem k_1380 : Cond.instanceMethod ⟨"OpenPotsModel", "lost", "(I)J"⟩ ∈ lw_t2 := t2_in (tb_6 (List.mem_of_getElem? (i := 97) rfl)) rfl
set_option maxRecDepth 100000 in
theorem k_1381 : Cond.code ⟨"OpenPotsModel", "lost", "(I)J"⟩ prog_14_method_4_code 2 (some .long) ∈ lw_t2 := t2_in (tb_6 (List.mem_of_getElem? (i := 98) rfl)) rfl
set_option maxRecDepth 100000 in
theorem k_1382 : Cond.methodLink "OpenPotsLaw" 136 ⟨"OpenPotsModel", "tell", "(I)I"⟩ ∈ lw_t2 := t2_in (tb_6 (List.mem_of_getElem? (i := 99) rfl)) rfl
set_option maxRecDepth 100000 in
theorem k_1383 : Cond.instanceMethod ⟨"OpenPotsModel", "tell", "(I)I"⟩ ∈ lw_t2 := t2_in (tb_6 (List.mem_of_getElem? (i := 100) rfl)) rfl
set_option maxRecDepth 100000 in
theorem k_1384 : Cond.selects "OpenPotsModel" ⟨"OpenPotsModel", "tell", "(I)I"⟩ ⟨"OpenPotsModel", "tell", "(I)I"⟩ ∈ lw_t2 := t2_in (tb_6 (List.mem_of_getElem? (i := 101) rfl)) rfl
set_option maxRecDepth 100000 in
theorem k_1385 : Cond.code ⟨"OpenPotsModel", "tell", "(I)I"⟩ prog_14_method_78_code 3 (some .int) ∈ lw_t2 := t2_in (tb_6 (List.mem_of_getElem? (i := 102) rfl)) rfl
set_option maxRecDepth 100000 in
theorem k_1386 : Cond.methodLink "OpenPotsModel" 255 ⟨"OpenPotsModel", "begins", "(I)V"⟩ ∈ lw_t2 := t2_in (tb_6 (List.mem_of_getElem? (i := 103) rfl)) rfl
set_option maxRecDepth 100000 in
theorem k_1388 : Cond.instanceMethod ⟨"OpenPotsModel", "begins", "(I)V"⟩ ∈ lw_t2 := t2_in (tb_6 (List.mem_of_getElem? (i := 105) rfl)) rfl
set_option maxRecDepth 100000 in
theorem k_1389 : Cond.code ⟨"OpenPotsModel", "begins", "(I)V"⟩ prog_14_method_77_code 2 none ∈ lw_t2 := t2_in (tb_6 (List.mem_of_getElem? (i := 106) rfl)) rfl
set_option maxRecDepth 100000 in
theorem k_1390 : Cond.methodLink "OpenPotsLaw" 140 ⟨"OpenPotsModel", "show", "(I)I"⟩ ∈ lw_t2 := t2_in (tb_6 (List.mem_of_getElem? (i := 107) rfl)) rfl
set_option maxRecDepth 100000 in
theorem k_1391 : Cond.instanceMethod ⟨"OpenPotsModel", "show", "(I)I"⟩ ∈ lw_t2 := t2_in (tb_6 (List.mem_of_getElem? (i := 108) rfl)) rfl
set_option maxRecDepth 100000 in
theorem k_1392 : Cond.selects "OpenPotsModel" ⟨"OpenPotsModel", "show", "(I)I"⟩ ⟨"OpenPotsModel", "show", "(I)I"⟩ ∈ lw_t2 := t2_in (tb_6 (List.mem_of_getElem? (i := 109) rfl)) rfl
set_option maxRecDepth 100000 in
theorem k_1393 : Cond.code ⟨"OpenPotsModel", "show", "(I)I"⟩ prog_14_method_79_code 2 (some .int) ∈ lw_t2 := t2_in (tb_6 (List.mem_of_getElem? (i := 110) rfl)) rfl
set_option maxRecDepth 100000 in
theorem k_1394 : Cond.methodLink "OpenPotsLaw" 144 ⟨"OpenPotsModel", "as", "(II)I"⟩ ∈ lw_t2 := t2_in (tb_6 (List.mem_of_getElem? (i := 111) rfl)) rfl
set_option maxRecDepth 100000 in
theorem k_1395 : Cond.instanceMethod ⟨"OpenPotsModel", "as", "(II)I"⟩ ∈ lw_t2 := t2_in (tb_6 (List.mem_of_getElem? (i := 112) rfl)) rfl
set_option maxRecDepth 100000 in
theorem k_1396 : Cond.selects "OpenPotsModel" ⟨"OpenPotsModel", "as", "(II)I"⟩ ⟨"OpenPotsModel", "as", "(II)I"⟩ ∈ lw_t2 := t2_in (tb_6 (List.mem_of_getElem? (i := 113) rfl)) rfl
set_option maxRecDepth 100000 in
theorem k_1397 : Cond.code ⟨"OpenPotsModel", "as", "(II)I"⟩ prog_14_method_80_code 3 (some .int) ∈ lw_t2 := t2_in (tb_6 (List.mem_of_getElem? (i := 114) rfl)) rfl
set_option maxRecDepth 100000 in
theorem k_1398 : Cond.methodLink "OpenPotsLaw" 148 ⟨"OpenPotsModel", "trace", "()I"⟩ ∈ lw_t2 := t2_in (tb_6 (List.mem_of_getElem? (i := 115) rfl)) rfl
set_option maxRecDepth 100000 in
theorem k_1399 : Cond.instanceMethod ⟨"OpenPotsModel", "trace", "()I"⟩ ∈ lw_t2 := t2_in (tb_6 (List.mem_of_getElem? (i := 116) rfl)) rfl
set_option maxRecDepth 100000 in
theorem k_1400 : Cond.selects "OpenPotsModel" ⟨"OpenPotsModel", "trace", "()I"⟩ ⟨"OpenPotsModel", "trace", "()I"⟩ ∈ lw_t2 := t2_in (tb_6 (List.mem_of_getElem? (i := 117) rfl)) rfl
set_option maxRecDepth 100000 in
theorem k_1401 : Cond.code ⟨"OpenPotsModel", "trace", "()I"⟩ prog_14_method_81_code 1 (some .int) ∈ lw_t2 := t2_in (tb_6 (List.mem_of_getElem? (i := 118) rfl)) rfl
set_option maxRecDepth 100000 in
theorem k_1402 : Cond.methodLink "OpenPotsLaw" 152 ⟨"OpenPotsModel", "fault", "()I"⟩ ∈ lw_t2 := t2_in (tb_6 (List.mem_of_getElem? (i := 119) rfl)) rfl
set_option maxRecDepth 100000 in
theorem k_1403 : Cond.instanceMethod ⟨"OpenPotsModel", "fault", "()I"⟩ ∈ lw_t2 := t2_in (tb_6 (List.mem_of_getElem? (i := 120) rfl)) rfl
set_option maxRecDepth 100000 in
theorem k_1404 : Cond.selects "OpenPotsModel" ⟨"OpenPotsModel", "fault", "()I"⟩ ⟨"OpenPotsModel", "fault", "()I"⟩ ∈ lw_t2 := t2_in (tb_6 (List.mem_of_getElem? (i := 121) rfl)) rfl
set_option maxRecDepth 100000 in
theorem k_1405 : Cond.code ⟨"OpenPotsModel", "fault", "()I"⟩ prog_14_method_82_code 1 (some .int) ∈ lw_t2 := t2_in (tb_6 (List.mem_of_getElem? (i := 122) rfl)) rfl
set_option maxRecDepth 100000 in
theorem k_1406 : Cond.methodLink "OpenPotsLaw" 156 ⟨"OpenPotsModel", "many", "(I)I"⟩ ∈ lw_t2 := t2_in (tb_6 (List.mem_of_getElem? (i := 123) rfl)) rfl
set_option maxRecDepth 100000 in
theorem k_1407 : Cond.instanceMethod ⟨"OpenPotsModel", "many", "(I)I"⟩ ∈ lw_t2 := t2_in (tb_6 (List.mem_of_getElem? (i := 124) rfl)) rfl
set_option maxRecDepth 100000 in
theorem k_1408 : Cond.selects "OpenPotsModel" ⟨"OpenPotsModel", "many", "(I)I"⟩ ⟨"OpenPotsModel", "many", "(I)I"⟩ ∈ lw_t2 := t2_in (tb_6 (List.mem_of_getElem? (i := 125) rfl)) rfl
set_option maxRecDepth 100000 in
theorem k_1409 : Cond.code ⟨"OpenPotsModel", "many", "(I)I"⟩ prog_14_method_83_code 4 (some .int) ∈ lw_t2 := t2_in (tb_6 (List.mem_of_getElem? (i := 126) rfl)) rfl
theorem iw_X0 : ∀ q ∈ u_ws RX0 TX0 6, q ∈ lw_t2 := by
  have h1 : ∀ q ∈ u_ws RX0 TX0 6, q ∈ lw_tbl := by decide +kernel
  have h2 : ∀ q ∈ u_ws RX0 TX0 6, goodWord q = true := by decide +kernel
  exact fun q h => t2_in (h1 q h) (h2 q h)
theorem iw_X1 : ∀ q ∈ u_ws RX1 TX1 5, q ∈ lw_t2 := by
  have h1 : ∀ q ∈ u_ws RX1 TX1 5, q ∈ lw_tbl := by decide +kernel
  have h2 : ∀ q ∈ u_ws RX1 TX1 5, goodWord q = true := by decide +kernel
  exact fun q h => t2_in (h1 q h) (h2 q h)
theorem iw_X2 : ∀ q ∈ u_ws RX2 TX2 6, q ∈ lw_t2 := by
  have h1 : ∀ q ∈ u_ws RX2 TX2 6, q ∈ lw_tbl := by decide +kernel
  have h2 : ∀ q ∈ u_ws RX2 TX2 6, goodWord q = true := by decide +kernel
  exact fun q h => t2_in (h1 q h) (h2 q h)
theorem iw_X3 : ∀ q ∈ u_ws RX3 TX3 3, q ∈ lw_t2 := by
  have h1 : ∀ q ∈ u_ws RX3 TX3 3, q ∈ lw_tbl := by decide +kernel
  have h2 : ∀ q ∈ u_ws RX3 TX3 3, goodWord q = true := by decide +kernel
  exact fun q h => t2_in (h1 q h) (h2 q h)
theorem iw_X4 : ∀ q ∈ u_ws RX4 TX4 4, q ∈ lw_t2 := by
  have h1 : ∀ q ∈ u_ws RX4 TX4 4, q ∈ lw_tbl := by decide +kernel
  have h2 : ∀ q ∈ u_ws RX4 TX4 4, goodWord q = true := by decide +kernel
  exact fun q h => t2_in (h1 q h) (h2 q h)
theorem iw_X5 : ∀ q ∈ u_ws RX5 TX5 2, q ∈ lw_t2 := by
  have h1 : ∀ q ∈ u_ws RX5 TX5 2, q ∈ lw_tbl := by decide +kernel
  have h2 : ∀ q ∈ u_ws RX5 TX5 2, goodWord q = true := by decide +kernel
  exact fun q h => t2_in (h1 q h) (h2 q h)
theorem iw_X6 : ∀ q ∈ u_ws RX6 TX6 10, q ∈ lw_t2 := by
  have h1 : ∀ q ∈ u_ws RX6 TX6 10, q ∈ lw_tbl := by decide +kernel
  have h2 : ∀ q ∈ u_ws RX6 TX6 10, goodWord q = true := by decide +kernel
  exact fun q h => t2_in (h1 q h) (h2 q h)
theorem iw_X7 : ∀ q ∈ u_ws RX7 TX7 3, q ∈ lw_t2 := by
  have h1 : ∀ q ∈ u_ws RX7 TX7 3, q ∈ lw_tbl := by decide +kernel
  have h2 : ∀ q ∈ u_ws RX7 TX7 3, goodWord q = true := by decide +kernel
  exact fun q h => t2_in (h1 q h) (h2 q h)
theorem iw_X8 : ∀ q ∈ u_ws RX8 TX8 6, q ∈ lw_t2 := by
  have h1 : ∀ q ∈ u_ws RX8 TX8 6, q ∈ lw_tbl := by decide +kernel
  have h2 : ∀ q ∈ u_ws RX8 TX8 6, goodWord q = true := by decide +kernel
  exact fun q h => t2_in (h1 q h) (h2 q h)
theorem iw_X9 : ∀ q ∈ u_ws RX9 TX9 7, q ∈ lw_t2 := by
  have h1 : ∀ q ∈ u_ws RX9 TX9 7, q ∈ lw_tbl := by decide +kernel
  have h2 : ∀ q ∈ u_ws RX9 TX9 7, goodWord q = true := by decide +kernel
  exact fun q h => t2_in (h1 q h) (h2 q h)
theorem iw_X10 : ∀ q ∈ u_ws RX10 TX10 6, q ∈ lw_t2 := by
  have h1 : ∀ q ∈ u_ws RX10 TX10 6, q ∈ lw_tbl := by decide +kernel
  have h2 : ∀ q ∈ u_ws RX10 TX10 6, goodWord q = true := by decide +kernel
  exact fun q h => t2_in (h1 q h) (h2 q h)
theorem iw_X11 : ∀ q ∈ u_ws RX11 TX11 14, q ∈ lw_t2 := by
  have h1 : ∀ q ∈ u_ws RX11 TX11 14, q ∈ lw_tbl := by decide +kernel
  have h2 : ∀ q ∈ u_ws RX11 TX11 14, goodWord q = true := by decide +kernel
  exact fun q h => t2_in (h1 q h) (h2 q h)
theorem iw_X12 : ∀ q ∈ u_ws RX12 TX12 29, q ∈ lw_t2 := by
  have h1 : ∀ q ∈ u_ws RX12 TX12 29, q ∈ lw_tbl := by decide +kernel
  have h2 : ∀ q ∈ u_ws RX12 TX12 29, goodWord q = true := by decide +kernel
  exact fun q h => t2_in (h1 q h) (h2 q h)
theorem fa_RX0_15 : FAt RX0 15 0 4 := ⟨RX0, TX0, 6, rfl, iw_X0, by decide, k_330⟩
theorem fa_RX0_18 : FAt RX0 18 0 5 := ⟨RX0, TX0, 6, rfl, iw_X0, by decide, k_331⟩
theorem fa_RX0_22 : FAt RX0 22 0 3 := ⟨RX0, TX0, 6, rfl, iw_X0, by decide, k_329⟩
theorem fa_RX0_26 : FAt RX0 26 10 5 := ⟨RX10, TX10, 6, rfl, iw_X10, by decide, k_213⟩
theorem fa_RX0_35 : FAt RX0 35 10 4 := ⟨RX10, TX10, 6, rfl, iw_X10, by decide, k_209⟩
theorem fa_RX0_62 : FAt RX0 62 10 2 := ⟨RX10, TX10, 6, rfl, iw_X10, by decide, k_199⟩
theorem fa_RX0_80 : FAt RX0 80 0 2 := ⟨RX0, TX0, 6, rfl, iw_X0, by decide, k_327⟩
theorem fa_RX0_86 : FAt RX0 86 10 0 := ⟨RX10, TX10, 6, rfl, iw_X10, by decide, k_190⟩
theorem fa_RX0_9 : FAt RX0 9 0 0 := ⟨RX0, TX0, 6, rfl, iw_X0, by decide, k_323⟩
theorem fa_RX10_15 : FAt RX10 15 10 1 := ⟨RX10, TX10, 6, rfl, iw_X10, by decide, k_192⟩
theorem fa_RX10_21 : FAt RX10 21 10 2 := ⟨RX10, TX10, 6, rfl, iw_X10, by decide, k_196⟩
theorem fa_RX10_28 : FAt RX10 28 10 4 := ⟨RX10, TX10, 6, rfl, iw_X10, by decide, k_205⟩
theorem fa_RX10_32 : FAt RX10 32 9 3 := ⟨RX9, TX9, 7, rfl, iw_X9, by decide, k_142⟩
theorem fa_RX10_35 : FAt RX10 35 9 0 := ⟨RX9, TX9, 7, rfl, iw_X9, by decide, k_136⟩
theorem fa_RX10_36 : FAt RX10 36 9 1 := ⟨RX9, TX9, 7, rfl, iw_X9, by decide, k_138⟩
theorem fa_RX10_37 : FAt RX10 37 9 2 := ⟨RX9, TX9, 7, rfl, iw_X9, by decide, k_140⟩
theorem fa_RX10_43 : FAt RX10 43 10 5 := ⟨RX10, TX10, 6, rfl, iw_X10, by decide, k_215⟩
theorem fa_RX10_9 : FAt RX10 9 10 0 := ⟨RX10, TX10, 6, rfl, iw_X10, by decide, k_186⟩
theorem fa_RX11_113 : FAt RX11 113 7 0 := ⟨RX7, TX7, 3, rfl, iw_X7, by decide, k_117⟩
theorem fa_RX11_125 : FAt RX11 125 3 2 := ⟨RX3, TX3, 3, rfl, iw_X3, by decide, k_241⟩
theorem fa_RX11_128 : FAt RX11 128 10 4 := ⟨RX10, TX10, 6, rfl, iw_X10, by decide, k_207⟩
theorem fa_RX11_14 : FAt RX11 14 11 0 := ⟨RX11, TX11, 14, rfl, iw_X11, by decide, k_418⟩
theorem fa_RX11_140 : FAt RX11 140 10 0 := ⟨RX10, TX10, 6, rfl, iw_X10, by decide, k_189⟩
theorem fa_RX11_143 : FAt RX11 143 10 1 := ⟨RX10, TX10, 6, rfl, iw_X10, by decide, k_194⟩
theorem fa_RX11_160 : FAt RX11 160 10 3 := ⟨RX10, TX10, 6, rfl, iw_X10, by decide, k_204⟩
theorem fa_RX11_188 : FAt RX11 188 1 3 := ⟨RX1, TX1, 5, rfl, iw_X1, by decide, k_267⟩
theorem fa_RX11_197 : FAt RX11 197 3 0 := ⟨RX3, TX3, 3, rfl, iw_X3, by decide, k_237⟩
theorem fa_RX11_200 : FAt RX11 200 3 1 := ⟨RX3, TX3, 3, rfl, iw_X3, by decide, k_239⟩
theorem fa_RX11_203 : FAt RX11 203 1 1 := ⟨RX1, TX1, 5, rfl, iw_X1, by decide, k_261⟩
theorem fa_RX11_206 : FAt RX11 206 1 2 := ⟨RX1, TX1, 5, rfl, iw_X1, by decide, k_264⟩
theorem fa_RX11_21 : FAt RX11 21 11 1 := ⟨RX11, TX11, 14, rfl, iw_X11, by decide, k_419⟩
theorem fa_RX11_212 : FAt RX11 212 1 0 := ⟨RX1, TX1, 5, rfl, iw_X1, by decide, k_257⟩
theorem fa_RX11_215 : FAt RX11 215 10 2 := ⟨RX10, TX10, 6, rfl, iw_X10, by decide, k_200⟩
theorem fa_RX11_247 : FAt RX11 247 0 0 := ⟨RX0, TX0, 6, rfl, iw_X0, by decide, k_324⟩
theorem fa_RX11_250 : FAt RX11 250 0 1 := ⟨RX0, TX0, 6, rfl, iw_X0, by decide, k_326⟩
theorem fa_RX11_253 : FAt RX11 253 0 2 := ⟨RX0, TX0, 6, rfl, iw_X0, by decide, k_328⟩
theorem fa_RX11_28 : FAt RX11 28 11 2 := ⟨RX11, TX11, 14, rfl, iw_X11, by decide, k_420⟩
theorem fa_RX11_287 : FAt RX11 287 2 0 := ⟨RX2, TX2, 6, rfl, iw_X2, by decide, k_352⟩
theorem fa_RX11_298 : FAt RX11 298 8 1 := ⟨RX8, TX8, 6, rfl, iw_X8, by decide, k_399⟩
theorem fa_RX11_301 : FAt RX11 301 8 2 := ⟨RX8, TX8, 6, rfl, iw_X8, by decide, k_401⟩
theorem fa_RX11_304 : FAt RX11 304 8 0 := ⟨RX8, TX8, 6, rfl, iw_X8, by decide, k_397⟩
theorem fa_RX11_324 : FAt RX11 324 7 1 := ⟨RX7, TX7, 3, rfl, iw_X7, by decide, k_119⟩
theorem fa_RX11_348 : FAt RX11 348 11 12 := ⟨RX11, TX11, 14, rfl, iw_X11, by decide, k_430⟩
theorem fa_RX11_35 : FAt RX11 35 11 3 := ⟨RX11, TX11, 14, rfl, iw_X11, by decide, k_421⟩
theorem fa_RX11_44 : FAt RX11 44 11 4 := ⟨RX11, TX11, 14, rfl, iw_X11, by decide, k_422⟩
theorem fa_RX11_51 : FAt RX11 51 11 5 := ⟨RX11, TX11, 14, rfl, iw_X11, by decide, k_423⟩
theorem fa_RX11_55 : FAt RX11 55 11 6 := ⟨RX11, TX11, 14, rfl, iw_X11, by decide, k_424⟩
theorem fa_RX11_61 : FAt RX11 61 11 7 := ⟨RX11, TX11, 14, rfl, iw_X11, by decide, k_425⟩
theorem fa_RX11_70 : FAt RX11 70 11 8 := ⟨RX11, TX11, 14, rfl, iw_X11, by decide, k_426⟩
theorem fa_RX11_77 : FAt RX11 77 11 9 := ⟨RX11, TX11, 14, rfl, iw_X11, by decide, k_427⟩
theorem fa_RX11_86 : FAt RX11 86 11 10 := ⟨RX11, TX11, 14, rfl, iw_X11, by decide, k_428⟩
theorem fa_RX11_90 : FAt RX11 90 11 11 := ⟨RX11, TX11, 14, rfl, iw_X11, by decide, k_429⟩
theorem fa_RX11_94 : FAt RX11 94 11 13 := ⟨RX11, TX11, 14, rfl, iw_X11, by decide, k_431⟩
theorem fa_RX12_100 : FAt RX12 100 12 12 := ⟨RX12, TX12, 29, rfl, iw_X12, by decide, k_1013⟩
theorem fa_RX12_103 : FAt RX12 103 12 15 := ⟨RX12, TX12, 29, rfl, iw_X12, by decide, k_1016⟩
theorem fa_RX12_13 : FAt RX12 13 12 3 := ⟨RX12, TX12, 29, rfl, iw_X12, by decide, k_1004⟩
theorem fa_RX12_131 : FAt RX12 131 12 17 := ⟨RX12, TX12, 29, rfl, iw_X12, by decide, k_1018⟩
theorem fa_RX12_16 : FAt RX12 16 12 4 := ⟨RX12, TX12, 29, rfl, iw_X12, by decide, k_1005⟩
theorem fa_RX12_19 : FAt RX12 19 12 6 := ⟨RX12, TX12, 29, rfl, iw_X12, by decide, k_1007⟩
theorem fa_RX12_22 : FAt RX12 22 12 7 := ⟨RX12, TX12, 29, rfl, iw_X12, by decide, k_1008⟩
theorem fa_RX12_25 : FAt RX12 25 12 8 := ⟨RX12, TX12, 29, rfl, iw_X12, by decide, k_1009⟩
theorem fa_RX12_252 : FAt RX12 252 12 1 := ⟨RX12, TX12, 29, rfl, iw_X12, by decide, k_1002⟩
theorem fa_RX12_28 : FAt RX12 28 12 9 := ⟨RX12, TX12, 29, rfl, iw_X12, by decide, k_1010⟩
theorem fa_RX12_31 : FAt RX12 31 12 13 := ⟨RX12, TX12, 29, rfl, iw_X12, by decide, k_1014⟩
theorem fa_RX12_34 : FAt RX12 34 12 14 := ⟨RX12, TX12, 29, rfl, iw_X12, by decide, k_1015⟩
theorem fa_RX12_37 : FAt RX12 37 12 16 := ⟨RX12, TX12, 29, rfl, iw_X12, by decide, k_1017⟩
theorem fa_RX12_40 : FAt RX12 40 12 18 := ⟨RX12, TX12, 29, rfl, iw_X12, by decide, k_1019⟩
theorem fa_RX12_43 : FAt RX12 43 12 19 := ⟨RX12, TX12, 29, rfl, iw_X12, by decide, k_1020⟩
theorem fa_RX12_46 : FAt RX12 46 12 20 := ⟨RX12, TX12, 29, rfl, iw_X12, by decide, k_1021⟩
theorem fa_RX12_49 : FAt RX12 49 12 21 := ⟨RX12, TX12, 29, rfl, iw_X12, by decide, k_1022⟩
theorem fa_RX12_52 : FAt RX12 52 12 22 := ⟨RX12, TX12, 29, rfl, iw_X12, by decide, k_1023⟩
theorem fa_RX12_55 : FAt RX12 55 12 23 := ⟨RX12, TX12, 29, rfl, iw_X12, by decide, k_1024⟩
theorem fa_RX12_58 : FAt RX12 58 12 24 := ⟨RX12, TX12, 29, rfl, iw_X12, by decide, k_1025⟩
theorem fa_RX12_61 : FAt RX12 61 12 25 := ⟨RX12, TX12, 29, rfl, iw_X12, by decide, k_1026⟩
theorem fa_RX12_64 : FAt RX12 64 12 26 := ⟨RX12, TX12, 29, rfl, iw_X12, by decide, k_1027⟩
theorem fa_RX12_67 : FAt RX12 67 12 27 := ⟨RX12, TX12, 29, rfl, iw_X12, by decide, k_1028⟩
theorem fa_RX12_70 : FAt RX12 70 12 28 := ⟨RX12, TX12, 29, rfl, iw_X12, by decide, k_1029⟩
theorem fa_RX12_73 : FAt RX12 73 12 0 := ⟨RX12, TX12, 29, rfl, iw_X12, by decide, k_1001⟩
theorem fa_RX12_83 : FAt RX12 83 12 5 := ⟨RX12, TX12, 29, rfl, iw_X12, by decide, k_1006⟩
theorem fa_RX12_86 : FAt RX12 86 12 10 := ⟨RX12, TX12, 29, rfl, iw_X12, by decide, k_1011⟩
theorem fa_RX12_89 : FAt RX12 89 12 11 := ⟨RX12, TX12, 29, rfl, iw_X12, by decide, k_1012⟩
theorem fa_RX12_9 : FAt RX12 9 12 2 := ⟨RX12, TX12, 29, rfl, iw_X12, by decide, k_1003⟩
theorem fa_RX1_15 : FAt RX1 15 1 4 := ⟨RX1, TX1, 5, rfl, iw_X1, by decide, k_268⟩
theorem fa_RX1_23 : FAt RX1 23 1 1 := ⟨RX1, TX1, 5, rfl, iw_X1, by decide, k_258⟩
theorem fa_RX1_27 : FAt RX1 27 1 2 := ⟨RX1, TX1, 5, rfl, iw_X1, by decide, k_262⟩
theorem fa_RX1_30 : FAt RX1 30 1 3 := ⟨RX1, TX1, 5, rfl, iw_X1, by decide, k_265⟩
theorem fa_RX1_34 : FAt RX1 34 10 4 := ⟨RX10, TX10, 6, rfl, iw_X10, by decide, k_206⟩
theorem fa_RX1_39 : FAt RX1 39 10 1 := ⟨RX10, TX10, 6, rfl, iw_X10, by decide, k_193⟩
theorem fa_RX1_42 : FAt RX1 42 10 0 := ⟨RX10, TX10, 6, rfl, iw_X10, by decide, k_187⟩
theorem fa_RX1_45 : FAt RX1 45 10 2 := ⟨RX10, TX10, 6, rfl, iw_X10, by decide, k_197⟩
theorem fa_RX1_9 : FAt RX1 9 1 0 := ⟨RX1, TX1, 5, rfl, iw_X1, by decide, k_255⟩
theorem fa_RX2_15 : FAt RX2 15 2 1 := ⟨RX2, TX2, 6, rfl, iw_X2, by decide, k_353⟩
theorem fa_RX2_18 : FAt RX2 18 2 2 := ⟨RX2, TX2, 6, rfl, iw_X2, by decide, k_354⟩
theorem fa_RX2_22 : FAt RX2 22 2 3 := ⟨RX2, TX2, 6, rfl, iw_X2, by decide, k_355⟩
theorem fa_RX2_38 : FAt RX2 38 1 1 := ⟨RX1, TX1, 5, rfl, iw_X1, by decide, k_260⟩
theorem fa_RX2_42 : FAt RX2 42 2 4 := ⟨RX2, TX2, 6, rfl, iw_X2, by decide, k_356⟩
theorem fa_RX2_43 : FAt RX2 43 1 2 := ⟨RX1, TX1, 5, rfl, iw_X1, by decide, k_263⟩
theorem fa_RX2_46 : FAt RX2 46 2 5 := ⟨RX2, TX2, 6, rfl, iw_X2, by decide, k_357⟩
theorem fa_RX2_52 : FAt RX2 52 10 4 := ⟨RX10, TX10, 6, rfl, iw_X10, by decide, k_208⟩
theorem fa_RX2_61 : FAt RX2 61 1 3 := ⟨RX1, TX1, 5, rfl, iw_X1, by decide, k_266⟩
theorem fa_RX2_9 : FAt RX2 9 2 0 := ⟨RX2, TX2, 6, rfl, iw_X2, by decide, k_351⟩
theorem fa_RX3_11 : FAt RX3 11 3 0 := ⟨RX3, TX3, 3, rfl, iw_X3, by decide, k_236⟩
theorem fa_RX3_16 : FAt RX3 16 3 1 := ⟨RX3, TX3, 3, rfl, iw_X3, by decide, k_238⟩
theorem fa_RX3_20 : FAt RX3 20 3 2 := ⟨RX3, TX3, 3, rfl, iw_X3, by decide, k_240⟩
theorem fa_RX4_15 : FAt RX4 15 4 3 := ⟨RX4, TX4, 4, rfl, iw_X4, by decide, k_380⟩
theorem fa_RX4_18 : FAt RX4 18 4 0 := ⟨RX4, TX4, 4, rfl, iw_X4, by decide, k_377⟩
theorem fa_RX4_22 : FAt RX4 22 4 1 := ⟨RX4, TX4, 4, rfl, iw_X4, by decide, k_378⟩
theorem fa_RX4_32 : FAt RX4 32 1 1 := ⟨RX1, TX1, 5, rfl, iw_X1, by decide, k_259⟩
theorem fa_RX4_48 : FAt RX4 48 10 4 := ⟨RX10, TX10, 6, rfl, iw_X10, by decide, k_210⟩
theorem fa_RX4_51 : FAt RX4 51 1 0 := ⟨RX1, TX1, 5, rfl, iw_X1, by decide, k_256⟩
theorem fa_RX4_54 : FAt RX4 54 10 0 := ⟨RX10, TX10, 6, rfl, iw_X10, by decide, k_188⟩
theorem fa_RX4_61 : FAt RX4 61 10 2 := ⟨RX10, TX10, 6, rfl, iw_X10, by decide, k_198⟩
theorem fa_RX4_85 : FAt RX4 85 10 3 := ⟨RX10, TX10, 6, rfl, iw_X10, by decide, k_203⟩
theorem fa_RX4_9 : FAt RX4 9 4 2 := ⟨RX4, TX4, 4, rfl, iw_X4, by decide, k_379⟩
theorem fa_RX5_13 : FAt RX5 13 5 1 := ⟨RX5, TX5, 2, rfl, iw_X5, by decide, k_180⟩
theorem fa_RX5_9 : FAt RX5 9 5 0 := ⟨RX5, TX5, 2, rfl, iw_X5, by decide, k_179⟩
theorem fa_RX6_15 : FAt RX6 15 6 2 := ⟨RX6, TX6, 10, rfl, iw_X6, by decide, k_288⟩
theorem fa_RX6_18 : FAt RX6 18 6 3 := ⟨RX6, TX6, 10, rfl, iw_X6, by decide, k_289⟩
theorem fa_RX6_21 : FAt RX6 21 6 4 := ⟨RX6, TX6, 10, rfl, iw_X6, by decide, k_290⟩
theorem fa_RX6_24 : FAt RX6 24 6 5 := ⟨RX6, TX6, 10, rfl, iw_X6, by decide, k_291⟩
theorem fa_RX6_27 : FAt RX6 27 6 9 := ⟨RX6, TX6, 10, rfl, iw_X6, by decide, k_295⟩
theorem fa_RX6_31 : FAt RX6 31 6 0 := ⟨RX6, TX6, 10, rfl, iw_X6, by decide, k_286⟩
theorem fa_RX6_35 : FAt RX6 35 10 5 := ⟨RX10, TX10, 6, rfl, iw_X10, by decide, k_212⟩
theorem fa_RX6_61 : FAt RX6 61 6 6 := ⟨RX6, TX6, 10, rfl, iw_X6, by decide, k_292⟩
theorem fa_RX6_64 : FAt RX6 64 10 4 := ⟨RX10, TX10, 6, rfl, iw_X10, by decide, k_211⟩
theorem fa_RX6_65 : FAt RX6 65 10 0 := ⟨RX10, TX10, 6, rfl, iw_X10, by decide, k_191⟩
theorem fa_RX6_66 : FAt RX6 66 10 1 := ⟨RX10, TX10, 6, rfl, iw_X10, by decide, k_195⟩
theorem fa_RX6_70 : FAt RX6 70 6 7 := ⟨RX6, TX6, 10, rfl, iw_X6, by decide, k_293⟩
theorem fa_RX6_73 : FAt RX6 73 6 8 := ⟨RX6, TX6, 10, rfl, iw_X6, by decide, k_294⟩
theorem fa_RX6_76 : FAt RX6 76 10 2 := ⟨RX10, TX10, 6, rfl, iw_X10, by decide, k_201⟩
theorem fa_RX6_9 : FAt RX6 9 6 1 := ⟨RX6, TX6, 10, rfl, iw_X6, by decide, k_287⟩
theorem fa_RX7_11 : FAt RX7 11 7 0 := ⟨RX7, TX7, 3, rfl, iw_X7, by decide, k_116⟩
theorem fa_RX7_16 : FAt RX7 16 7 1 := ⟨RX7, TX7, 3, rfl, iw_X7, by decide, k_118⟩
theorem fa_RX7_20 : FAt RX7 20 7 2 := ⟨RX7, TX7, 3, rfl, iw_X7, by decide, k_120⟩
theorem fa_RX8_15 : FAt RX8 15 8 3 := ⟨RX8, TX8, 6, rfl, iw_X8, by decide, k_402⟩
theorem fa_RX8_19 : FAt RX8 19 8 4 := ⟨RX8, TX8, 6, rfl, iw_X8, by decide, k_403⟩
theorem fa_RX8_23 : FAt RX8 23 10 5 := ⟨RX10, TX10, 6, rfl, iw_X10, by decide, k_214⟩
theorem fa_RX8_9 : FAt RX8 9 8 5 := ⟨RX8, TX8, 6, rfl, iw_X8, by decide, k_404⟩
theorem fa_RX9_15 : FAt RX9 15 9 1 := ⟨RX9, TX9, 7, rfl, iw_X9, by decide, k_137⟩
theorem fa_RX9_18 : FAt RX9 18 9 2 := ⟨RX9, TX9, 7, rfl, iw_X9, by decide, k_139⟩
theorem fa_RX9_28 : FAt RX9 28 9 3 := ⟨RX9, TX9, 7, rfl, iw_X9, by decide, k_141⟩
theorem fa_RX9_32 : FAt RX9 32 9 4 := ⟨RX9, TX9, 7, rfl, iw_X9, by decide, k_143⟩
theorem fa_RX9_35 : FAt RX9 35 9 5 := ⟨RX9, TX9, 7, rfl, iw_X9, by decide, k_144⟩
theorem fa_RX9_60 : FAt RX9 60 9 6 := ⟨RX9, TX9, 7, rfl, iw_X9, by decide, k_145⟩
theorem fa_RX9_9 : FAt RX9 9 9 0 := ⟨RX9, TX9, 7, rfl, iw_X9, by decide, k_135⟩
theorem fp_RX0_18 : FPut RX0 18 0 5 .int := ⟨RX0, TX0, 6, tyX0, rfl, iw_X0, by decide, k_331, tyX0_ok, nmX0, rfl, by decide +kernel⟩
theorem fp_RX0_77 : FPut RX0 77 0 1 .int := ⟨RX0, TX0, 6, tyX0, rfl, iw_X0, by decide, k_325, tyX0_ok, nmX0, rfl, by decide +kernel⟩
theorem fp_RX0_80 : FPut RX0 80 0 2 .int := ⟨RX0, TX0, 6, tyX0, rfl, iw_X0, by decide, k_327, tyX0_ok, nmX0, rfl, by decide +kernel⟩
theorem fp_RX10_28 : FPut RX10 28 10 4 .int := ⟨RX10, TX10, 6, tyX10, rfl, iw_X10, by decide, k_205, tyX10_ok, nmX10, rfl, by decide +kernel⟩
theorem fp_RX10_43 : FPut RX10 43 10 5 .int := ⟨RX10, TX10, 6, tyX10, rfl, iw_X10, by decide, k_215, tyX10_ok, nmX10, rfl, by decide +kernel⟩
theorem fp_RX11_125 : FPut RX11 125 3 2 .int := ⟨RX3, TX3, 3, tyX3, rfl, iw_X3, by decide, k_241, tyX3_ok, nmX3, rfl, by decide +kernel⟩
theorem fp_RX11_348 : FPut RX11 348 11 12 .int := ⟨RX11, TX11, 14, tyX11, rfl, iw_X11, by decide, k_430, tyX11_ok, nmX11, rfl, by decide +kernel⟩
theorem fp_RX11_94 : FPut RX11 94 11 13 .int := ⟨RX11, TX11, 14, tyX11, rfl, iw_X11, by decide, k_431, tyX11_ok, nmX11, rfl, by decide +kernel⟩
theorem fp_RX12_100 : FPut RX12 100 12 12 .int := ⟨RX12, TX12, 29, tyX12, rfl, iw_X12, by decide, k_1013, tyX12_ok, nmX12, rfl, by decide +kernel⟩
theorem fp_RX12_103 : FPut RX12 103 12 15 .int := ⟨RX12, TX12, 29, tyX12, rfl, iw_X12, by decide, k_1016, tyX12_ok, nmX12, rfl, by decide +kernel⟩
theorem fp_RX12_131 : FPut RX12 131 12 17 .int := ⟨RX12, TX12, 29, tyX12, rfl, iw_X12, by decide, k_1018, tyX12_ok, nmX12, rfl, by decide +kernel⟩
theorem fp_RX12_252 : FPut RX12 252 12 1 .int := ⟨RX12, TX12, 29, tyX12, rfl, iw_X12, by decide, k_1002, tyX12_ok, nmX12, rfl, by decide +kernel⟩
theorem fp_RX12_73 : FPut RX12 73 12 0 .int := ⟨RX12, TX12, 29, tyX12, rfl, iw_X12, by decide, k_1001, tyX12_ok, nmX12, rfl, by decide +kernel⟩
theorem fp_RX12_83 : FPut RX12 83 12 5 .int := ⟨RX12, TX12, 29, tyX12, rfl, iw_X12, by decide, k_1006, tyX12_ok, nmX12, rfl, by decide +kernel⟩
theorem fp_RX12_86 : FPut RX12 86 12 10 .int := ⟨RX12, TX12, 29, tyX12, rfl, iw_X12, by decide, k_1011, tyX12_ok, nmX12, rfl, by decide +kernel⟩
theorem fp_RX12_89 : FPut RX12 89 12 11 .int := ⟨RX12, TX12, 29, tyX12, rfl, iw_X12, by decide, k_1012, tyX12_ok, nmX12, rfl, by decide +kernel⟩
theorem fp_RX1_23 : FPut RX1 23 1 1 .int := ⟨RX1, TX1, 5, tyX1, rfl, iw_X1, by decide, k_258, tyX1_ok, nmX1, rfl, by decide +kernel⟩
theorem fp_RX1_27 : FPut RX1 27 1 2 .int := ⟨RX1, TX1, 5, tyX1, rfl, iw_X1, by decide, k_262, tyX1_ok, nmX1, rfl, by decide +kernel⟩
theorem fp_RX1_30 : FPut RX1 30 1 3 .boolean := ⟨RX1, TX1, 5, tyX1, rfl, iw_X1, by decide, k_265, tyX1_ok, nmX1, rfl, by decide +kernel⟩
theorem fp_RX2_42 : FPut RX2 42 2 4 .int := ⟨RX2, TX2, 6, tyX2, rfl, iw_X2, by decide, k_356, tyX2_ok, nmX2, rfl, by decide +kernel⟩
theorem fp_RX2_46 : FPut RX2 46 2 5 .int := ⟨RX2, TX2, 6, tyX2, rfl, iw_X2, by decide, k_357, tyX2_ok, nmX2, rfl, by decide +kernel⟩
theorem fp_RX3_20 : FPut RX3 20 3 2 .int := ⟨RX3, TX3, 3, tyX3, rfl, iw_X3, by decide, k_240, tyX3_ok, nmX3, rfl, by decide +kernel⟩
theorem fp_RX4_15 : FPut RX4 15 4 3 (.array .int) := ⟨RX4, TX4, 4, tyX4, rfl, iw_X4, by decide, k_380, tyX4_ok, nmX4, rfl, by decide +kernel⟩
theorem fp_RX4_9 : FPut RX4 9 4 2 (.array .int) := ⟨RX4, TX4, 4, tyX4, rfl, iw_X4, by decide, k_379, tyX4_ok, nmX4, rfl, by decide +kernel⟩
theorem fp_RX6_27 : FPut RX6 27 6 9 .int := ⟨RX6, TX6, 10, tyX6, rfl, iw_X6, by decide, k_295, tyX6_ok, nmX6, rfl, by decide +kernel⟩
theorem fp_RX6_61 : FPut RX6 61 6 6 .int := ⟨RX6, TX6, 10, tyX6, rfl, iw_X6, by decide, k_292, tyX6_ok, nmX6, rfl, by decide +kernel⟩
theorem fp_RX6_70 : FPut RX6 70 6 7 .int := ⟨RX6, TX6, 10, tyX6, rfl, iw_X6, by decide, k_293, tyX6_ok, nmX6, rfl, by decide +kernel⟩
theorem fp_RX6_73 : FPut RX6 73 6 8 .int := ⟨RX6, TX6, 10, tyX6, rfl, iw_X6, by decide, k_294, tyX6_ok, nmX6, rfl, by decide +kernel⟩
theorem fp_RX8_48 : FPut RX8 48 8 0 .int := ⟨RX8, TX8, 6, tyX8, rfl, iw_X8, by decide, k_396, tyX8_ok, nmX8, rfl, by decide +kernel⟩
theorem fp_RX8_51 : FPut RX8 51 8 1 .int := ⟨RX8, TX8, 6, tyX8, rfl, iw_X8, by decide, k_398, tyX8_ok, nmX8, rfl, by decide +kernel⟩
theorem fp_RX8_54 : FPut RX8 54 8 2 .int := ⟨RX8, TX8, 6, tyX8, rfl, iw_X8, by decide, k_400, tyX8_ok, nmX8, rfl, by decide +kernel⟩
theorem fp_RX8_9 : FPut RX8 9 8 5 .int := ⟨RX8, TX8, 6, tyX8, rfl, iw_X8, by decide, k_404, tyX8_ok, nmX8, rfl, by decide +kernel⟩
theorem fp_RX9_28 : FPut RX9 28 9 3 .int := ⟨RX9, TX9, 7, tyX9, rfl, iw_X9, by decide, k_141, tyX9_ok, nmX9, rfl, by decide +kernel⟩
theorem fp_RX9_32 : FPut RX9 32 9 4 .int := ⟨RX9, TX9, 7, tyX9, rfl, iw_X9, by decide, k_143, tyX9_ok, nmX9, rfl, by decide +kernel⟩
theorem fp_RX9_35 : FPut RX9 35 9 5 .int := ⟨RX9, TX9, 7, tyX9, rfl, iw_X9, by decide, k_144, tyX9_ok, nmX9, rfl, by decide +kernel⟩
theorem fp_RX9_60 : FPut RX9 60 9 6 .int := ⟨RX9, TX9, 7, tyX9, rfl, iw_X9, by decide, k_145, tyX9_ok, nmX9, rfl, by decide +kernel⟩
theorem kb_RL_100 : KB RL 100 yX11_two cX11_two 2 (some .int) 1 := ⟨k_876, k_84, k_879, by decide +kernel⟩
theorem kb_RL_103 : KB RL 103 yX12_two cX12_two 8 (some .int) 1 := ⟨k_1345, k_97, k_1348, by decide +kernel⟩
theorem kb_RL_104 : KB RL 104 yX11_without cX11_without 2 (some .int) 1 := ⟨k_893, k_84, k_896, by decide +kernel⟩
theorem kb_RL_107 : KB RL 107 yX12_without cX12_without 2 (some .int) 1 := ⟨k_1349, k_97, k_1352, by decide +kernel⟩
theorem kb_RL_108 : KB RL 108 yX11_why cX11_why 3 (some .int) 2 := ⟨k_903, k_84, k_906, by decide +kernel⟩
theorem kb_RL_111 : KB RL 111 yX12_why cX12_why 4 (some .int) 2 := ⟨k_1353, k_97, k_1356, by decide +kernel⟩
theorem kb_RL_112 : KB RL 112 yX11_widest cX11_widest 5 (some .int) 0 := ⟨k_911, k_84, k_914, by decide +kernel⟩
theorem kb_RL_115 : KB RL 115 yX12_widest cX12_widest 5 (some .int) 0 := ⟨k_1357, k_97, k_1360, by decide +kernel⟩
theorem kb_RL_116 : KB RL 116 yX11_sheet cX11_sheet 4 (some .int) 3 := ⟨k_915, k_84, k_918, by decide +kernel⟩
theorem kb_RL_119 : KB RL 119 yX12_sheet cX12_sheet 5 (some .int) 3 := ⟨k_1361, k_97, k_1364, by decide +kernel⟩
theorem kb_RL_120 : KB RL 120 yX11_lose cX11_lose 2 (some .int) 1 := ⟨k_923, k_84, k_926, by decide +kernel⟩
theorem kb_RL_123 : KB RL 123 yX12_lose cX12_lose 3 (some .int) 1 := ⟨k_1365, k_97, k_1368, by decide +kernel⟩
theorem kb_RL_124 : KB RL 124 yX11_put cX11_put 5 (some .int) 3 := ⟨k_931, k_84, k_934, by decide +kernel⟩
theorem kb_RL_127 : KB RL 127 yX12_put cX12_put 4 (some .int) 3 := ⟨k_1369, k_97, k_1372, by decide +kernel⟩
theorem kb_RL_128 : KB RL 128 yX11_cell cX11_cell 4 (some .long) 3 := ⟨k_943, k_84, k_946, by decide +kernel⟩
theorem kb_RL_13 : KB RL 13 yX11_shop cX11_shop 7 (some .int) 4 := ⟨k_461, k_84, k_464, by decide +kernel⟩
theorem kb_RL_132 : KB RL 132 yX12_cell cX12_cell 4 (some .long) 3 := ⟨k_1373, k_97, k_1376, by decide +kernel⟩
theorem kb_RL_133 : KB RL 133 yX11_tell cX11_tell 2 (some .int) 1 := ⟨k_948, k_84, k_951, by decide +kernel⟩
theorem kb_RL_136 : KB RL 136 yX12_tell cX12_tell 3 (some .int) 1 := ⟨k_1382, k_97, k_1385, by decide +kernel⟩
theorem kb_RL_137 : KB RL 137 yX11_show cX11_show 3 (some .int) 1 := ⟨k_968, k_84, k_971, by decide +kernel⟩
theorem kb_RL_140 : KB RL 140 yX12_show cX12_show 2 (some .int) 1 := ⟨k_1390, k_97, k_1393, by decide +kernel⟩
theorem kb_RL_141 : KB RL 141 yX11_as cX11_as 3 (some .int) 2 := ⟨k_972, k_84, k_975, by decide +kernel⟩
theorem kb_RL_144 : KB RL 144 yX12_as cX12_as 3 (some .int) 2 := ⟨k_1394, k_97, k_1397, by decide +kernel⟩
theorem kb_RL_145 : KB RL 145 yX11_trace cX11_trace 1 (some .int) 0 := ⟨k_976, k_84, k_979, by decide +kernel⟩
theorem kb_RL_148 : KB RL 148 yX12_trace cX12_trace 1 (some .int) 0 := ⟨k_1398, k_97, k_1401, by decide +kernel⟩
theorem kb_RL_149 : KB RL 149 yX11_fault cX11_fault 1 (some .int) 0 := ⟨k_980, k_84, k_983, by decide +kernel⟩
theorem kb_RL_152 : KB RL 152 yX12_fault cX12_fault 1 (some .int) 0 := ⟨k_1402, k_97, k_1405, by decide +kernel⟩
theorem kb_RL_153 : KB RL 153 yX11_many cX11_many 2 (some .int) 1 := ⟨k_984, k_84, k_987, by decide +kernel⟩
theorem kb_RL_156 : KB RL 156 yX12_many cX12_many 4 (some .int) 1 := ⟨k_1406, k_97, k_1409, by decide +kernel⟩
theorem kb_RL_17 : KB RL 17 yX12_shop cX12_shop 8 (some .int) 4 := ⟨k_1089, k_97, k_1092, by decide +kernel⟩
theorem kb_RL_18 : KB RL 18 yX11_work cX11_work 3 (some .int) 2 := ⟨k_535, k_84, k_538, by decide +kernel⟩
theorem kb_RL_22 : KB RL 22 yX12_work cX12_work 3 (some .int) 2 := ⟨k_1129, k_97, k_1132, by decide +kernel⟩
theorem kb_RL_23 : KB RL 23 yX11_ofWork cX11_ofWork 3 (some .int) 2 := ⟨k_547, k_84, k_550, by decide +kernel⟩
theorem kb_RL_26 : KB RL 26 yX12_ofWork cX12_ofWork 3 (some .int) 2 := ⟨k_1137, k_97, k_1140, by decide +kernel⟩
theorem kb_RL_27 : KB RL 27 yX11_before cX11_before 4 (some .int) 3 := ⟨k_555, k_84, k_558, by decide +kernel⟩
theorem kb_RL_31 : KB RL 31 yX12_before cX12_before 4 (some .int) 3 := ⟨k_1145, k_97, k_1148, by decide +kernel⟩
theorem kb_RL_32 : KB RL 32 yX11_thing cX11_thing 4 (some .int) 3 := ⟨k_571, k_84, k_574, by decide +kernel⟩
theorem kb_RL_36 : KB RL 36 yX12_thing cX12_thing 5 (some .int) 3 := ⟨k_1153, k_97, k_1156, by decide +kernel⟩
theorem kb_RL_37 : KB RL 37 yX11_order cX11_order 8 (some .int) 5 := ⟨k_580, k_84, k_583, by decide +kernel⟩
theorem kb_RL_41 : KB RL 41 yX12_order cX12_order 10 (some .int) 5 := ⟨k_1157, k_97, k_1160, by decide +kernel⟩
theorem kb_RL_42 : KB RL 42 yX11_ofOrder cX11_ofOrder 3 (some .int) 2 := ⟨k_615, k_84, k_618, by decide +kernel⟩
theorem kb_RL_45 : KB RL 45 yX12_ofOrder cX12_ofOrder 4 (some .int) 2 := ⟨k_1169, k_97, k_1172, by decide +kernel⟩
theorem kb_RL_46 : KB RL 46 yX11_best cX11_best 2 (some .int) 1 := ⟨k_628, k_84, k_631, by decide +kernel⟩
theorem kb_RL_50 : KB RL 50 yX12_best cX12_best 6 (some .int) 1 := ⟨k_1197, k_97, k_1200, by decide +kernel⟩
theorem kb_RL_51 : KB RL 51 yX11_from cX11_from 5 (some .int) 3 := ⟨k_691, k_84, k_694, by decide +kernel⟩
theorem kb_RL_54 : KB RL 54 yX12_from cX12_from 6 (some .int) 3 := ⟨k_1238, k_97, k_1241, by decide +kernel⟩
theorem kb_RL_55 : KB RL 55 yX11_better cX11_better 5 (some .int) 2 := ⟨k_707, k_84, k_710, by decide +kernel⟩
theorem kb_RL_58 : KB RL 58 yX12_better cX12_better 4 (some .int) 2 := ⟨k_1242, k_97, k_1245, by decide +kernel⟩
theorem kb_RL_59 : KB RL 59 yX11_cross cX11_cross 2 (some .int) 1 := ⟨k_715, k_84, k_718, by decide +kernel⟩
theorem kb_RL_62 : KB RL 62 yX12_cross cX12_cross 2 (some .int) 1 := ⟨k_1250, k_97, k_1253, by decide +kernel⟩
theorem kb_RL_63 : KB RL 63 yX11_knot cX11_knot 2 (some .int) 1 := ⟨k_749, k_84, k_752, by decide +kernel⟩
theorem kb_RL_66 : KB RL 66 yX12_knot cX12_knot 3 (some .int) 1 := ⟨k_1265, k_97, k_1268, by decide +kernel⟩
theorem kb_RL_67 : KB RL 67 yX11_bound cX11_bound 1 (some .int) 0 := ⟨k_753, k_84, k_756, by decide +kernel⟩
theorem kb_RL_71 : KB RL 71 yX12_bound cX12_bound 4 (some .int) 0 := ⟨k_1281, k_97, k_1284, by decide +kernel⟩
theorem kb_RL_72 : KB RL 72 yX11_part cX11_part 2 (some .int) 1 := ⟨k_769, k_84, k_772, by decide +kernel⟩
theorem kb_RL_75 : KB RL 75 yX12_part cX12_part 4 (some .int) 1 := ⟨k_1285, k_97, k_1288, by decide +kernel⟩
theorem kb_RL_76 : KB RL 76 yX11_within cX11_within 1 (some .int) 0 := ⟨k_782, k_84, k_785, by decide +kernel⟩
theorem kb_RL_79 : KB RL 79 yX12_within cX12_within 5 (some .int) 0 := ⟨k_1293, k_97, k_1296, by decide +kernel⟩
theorem kb_RL_80 : KB RL 80 yX11_build cX11_build 5 (some .int) 2 := ⟨k_794, k_84, k_797, by decide +kernel⟩
theorem kb_RL_83 : KB RL 83 yX12_build cX12_build 5 (some .int) 2 := ⟨k_1297, k_97, k_1300, by decide +kernel⟩
theorem kb_RL_84 : KB RL 84 yX11_move cX11_move 2 (some .int) 1 := ⟨k_809, k_84, k_812, by decide +kernel⟩
theorem kb_RL_87 : KB RL 87 yX12_move cX12_move 3 (some .int) 1 := ⟨k_1309, k_97, k_1312, by decide +kernel⟩
theorem kb_RL_88 : KB RL 88 yX11_moves cX11_moves 2 (some .int) 1 := ⟨k_833, k_84, k_836, by decide +kernel⟩
theorem kb_RL_91 : KB RL 91 yX12_moves cX12_moves 3 (some .int) 1 := ⟨k_1321, k_97, k_1324, by decide +kernel⟩
theorem kb_RL_92 : KB RL 92 yX11_cheapest cX11_cheapest 3 (some .int) 2 := ⟨k_837, k_84, k_840, by decide +kernel⟩
theorem kb_RL_95 : KB RL 95 yX12_cheapest cX12_cheapest 3 (some .int) 2 := ⟨k_1325, k_97, k_1328, by decide +kernel⟩
theorem kb_RL_96 : KB RL 96 yX11_room cX11_room 3 (some .int) 2 := ⟨k_865, k_84, k_868, by decide +kernel⟩
theorem kb_RL_99 : KB RL 99 yX12_room cX12_room 7 (some .int) 2 := ⟨k_1341, k_97, k_1344, by decide +kernel⟩
theorem kb_RX0_29 : KB RX0 29 yX0_fillCrossings cX0_fillCrossings 5 none 0 := ⟨k_723, k_93, k_726, by decide +kernel⟩
theorem kb_RX0_32 : KB RX0 32 yX0_findKnot cX0_findKnot 3 none 0 := ⟨k_737, k_93, k_740, by decide +kernel⟩
theorem kb_RX0_45 : KB RX0 45 yX10_all cX10_all 1 (some .int) 0 := ⟨k_728, k_87, k_542, by decide +kernel⟩
theorem kb_RX0_49 : KB RX0 49 yX10_isClosed cX10_isClosed 3 (some .boolean) 1 := ⟨k_729, k_87, k_702, by decide +kernel⟩
theorem kb_RX0_53 : KB RX0 53 yJ6_bitCount_0f7a4 cJ6_bitCount_0f7a4 1 (some .int) 1 := ⟨k_730, k_89, k_175, by decide +kernel⟩
theorem kb_RX0_59 : KB RX0 59 yX10_neededBy cX10_neededBy 4 (some .int) 1 := ⟨k_731, k_87, k_734, by decide +kernel⟩
theorem kb_RX0_66 : KB RX0 66 yX5_sum cX5_sum 2 (some .int) 1 := ⟨k_735, k_88, k_534, by decide +kernel⟩
theorem kb_RX0_74 : KB RX0 74 yX0_fillJoined cX0_fillJoined 3 none 0 := ⟨k_741, k_93, k_744, by decide +kernel⟩
theorem kb_RX0_83 : KB RX0 83 yX0_isKnot cX0_isKnot 3 (some .boolean) 1 := ⟨k_745, k_93, k_748, by decide +kernel⟩
theorem kb_RX0_89 : KB RX0 89 yX0_leastOfPart cX0_leastOfPart 6 (some .int) 1 := ⟨k_777, k_93, k_780, by decide +kernel⟩
theorem kb_RX0_92 : KB RX0 92 yX0_isWithin cX0_isWithin 3 (some .boolean) 2 := ⟨k_790, k_93, k_793, by decide +kernel⟩
theorem kb_RX10_39 : KB RX10 39 yX5_change cX5_change 7 (some .int) 2 := ⟨k_527, k_88, k_530, by decide +kernel⟩
theorem kb_RX10_46 : KB RX10 46 yX5_sum cX5_sum 2 (some .int) 1 := ⟨k_766, k_88, k_534, by decide +kernel⟩
theorem kb_RX10_55 : KB RX10 55 yJ6_bitCount_0f7a4 cJ6_bitCount_0f7a4 1 (some .int) 1 := ⟨k_992, k_89, k_175, by decide +kernel⟩
theorem kb_RX10_61 : KB RX10 61 yX10_score cX10_score 7 (some .int) 3 := ⟨k_803, k_87, k_806, by decide +kernel⟩
theorem kb_RX10_65 : KB RX10 65 yX10_all cX10_all 1 (some .int) 0 := ⟨k_807, k_87, k_542, by decide +kernel⟩
theorem kb_RX10_69 : KB RX10 69 yX10_neededBy cX10_neededBy 4 (some .int) 1 := ⟨k_808, k_87, k_734, by decide +kernel⟩
theorem kb_RX11_102 : KB RX11 102 yX11_isLane cX11_isLane 1 (some .boolean) 1 := ⟨k_468, k_84, k_470, by decide +kernel⟩
theorem kb_RX11_105 : KB RX11 105 yX7_cellsFault cX7_cellsFault 6 (some .int) 4 := ⟨k_471, k_85, k_474, by decide +kernel⟩
theorem kb_RX11_109 : KB RX11 109 yX11_faulted cX11_faulted 2 (some .int) 1 := ⟨k_479, k_84, k_482, by decide +kernel⟩
theorem kb_RX11_117 : KB RX11 117 yX9_firstFault cX9_firstFault 6 (some .int) 3 := ⟨k_483, k_86, k_486, by decide +kernel⟩
theorem kb_RX11_121 : KB RX11 121 yX10_takeOver cX10_takeOver 3 none 1 := ⟨k_523, k_87, k_526, by decide +kernel⟩
theorem kb_RX11_129 : KB RX11 129 yX10_all cX10_all 1 (some .int) 0 := ⟨k_539, k_87, k_542, by decide +kernel⟩
theorem kb_RX11_133 : KB RX11 133 yX10_add cX10_add 3 none 2 := ⟨k_543, k_87, k_546, by decide +kernel⟩
theorem kb_RX11_137 : KB RX11 137 yX10_has cX10_has 2 (some .boolean) 1 := ⟨k_551, k_87, k_554, by decide +kernel⟩
theorem kb_RX11_146 : KB RX11 146 yX10_isBefore cX10_isBefore 3 (some .boolean) 2 := ⟨k_559, k_87, k_562, by decide +kernel⟩
theorem kb_RX11_150 : KB RX11 150 yX10_comesAhead cX10_comesAhead 6 (some .boolean) 2 := ⟨k_563, k_87, k_566, by decide +kernel⟩
theorem kb_RX11_153 : KB RX11 153 yX10_turnBefore cX10_turnBefore 3 none 2 := ⟨k_567, k_87, k_570, by decide +kernel⟩
theorem kb_RX11_156 : KB RX11 156 yX10_changeSize cX10_changeSize 3 (some .int) 2 := ⟨k_575, k_87, k_578, by decide +kernel⟩
theorem kb_RX11_164 : KB RX11 164 yX5_change cX5_change 7 (some .int) 2 := ⟨k_579, k_88, k_530, by decide +kernel⟩
theorem kb_RX11_169 : KB RX11 169 yX11_isKind cX11_isKind 1 (some .boolean) 1 := ⟨k_584, k_84, k_586, by decide +kernel⟩
theorem kb_RX11_178 : KB RX11 178 yX11_refusalOfSpare cX11_refusalOfSpare 6 (some .int) 1 := ⟨k_590, k_84, k_593, by decide +kernel⟩
theorem kb_RX11_181 : KB RX11 181 yX3_add cX3_add 3 (some .int) 2 := ⟨k_610, k_90, k_613, by decide +kernel⟩
theorem kb_RX11_184 : KB RX11 184 yX1_measure cX1_measure 7 none 1 := ⟨k_594, k_91, k_597, by decide +kernel⟩
theorem kb_RX11_192 : KB RX11 192 yX3_isFull cX3_isFull 1 (some .boolean) 0 := ⟨k_606, k_90, k_609, by decide +kernel⟩
theorem kb_RX11_196 : KB RX11 196 yX3_has cX3_has 2 (some .boolean) 1 := ⟨k_619, k_90, k_622, by decide +kernel⟩
theorem kb_RX11_209 : KB RX11 209 yX11_atPlace cX11_atPlace 5 (some .int) 2 := ⟨k_623, k_84, k_626, by decide +kernel⟩
theorem kb_RX11_218 : KB RX11 218 yX5_sum cX5_sum 2 (some .int) 1 := ⟨k_627, k_88, k_534, by decide +kernel⟩
theorem kb_RX11_221 : KB RX11 221 yX6_refresh cX6_refresh 1 none 0 := ⟨k_632, k_92, k_635, by decide +kernel⟩
theorem kb_RX11_224 : KB RX11 224 yX6_leastFrom cX6_leastFrom 2 (some .int) 1 := ⟨k_667, k_92, k_670, by decide +kernel⟩
theorem kb_RX11_227 : KB RX11 227 yX6_longFrom cX6_longFrom 2 (some .int) 1 := ⟨k_671, k_92, k_674, by decide +kernel⟩
theorem kb_RX11_230 : KB RX11 230 yX6_workAt cX6_workAt 5 (some .int) 1 := ⟨k_683, k_92, k_686, by decide +kernel⟩
theorem kb_RX11_233 : KB RX11 233 yX3_setOfFirst cX3_setOfFirst 5 (some .int) 2 := ⟨k_695, k_90, k_698, by decide +kernel⟩
theorem kb_RX11_236 : KB RX11 236 yX10_isClosed cX10_isClosed 3 (some .boolean) 1 := ⟨k_699, k_87, k_702, by decide +kernel⟩
theorem kb_RX11_239 : KB RX11 239 yX6_nextFrom cX6_nextFrom 2 (some .int) 1 := ⟨k_703, k_92, k_706, by decide +kernel⟩
theorem kb_RX11_242 : KB RX11 242 yX1_beats cX1_beats 6 (some .boolean) 4 := ⟨k_711, k_91, k_714, by decide +kernel⟩
theorem kb_RX11_246 : KB RX11 246 yX0_refresh cX0_refresh 1 none 0 := ⟨k_719, k_93, k_722, by decide +kernel⟩
theorem kb_RX11_256 : KB RX11 256 yX0_greatestCross cX0_greatestCross 3 (some .int) 0 := ⟨k_757, k_93, k_760, by decide +kernel⟩
theorem kb_RX11_259 : KB RX11 259 yX10_greatestNeed cX10_greatestNeed 3 (some .int) 0 := ⟨k_762, k_87, k_765, by decide +kernel⟩
theorem kb_RX11_267 : KB RX11 267 yX0_countParts cX0_countParts 3 (some .int) 0 := ⟨k_773, k_93, k_776, by decide +kernel⟩
theorem kb_RX11_270 : KB RX11 270 yX0_leastOfPart cX0_leastOfPart 6 (some .int) 1 := ⟨k_781, k_93, k_780, by decide +kernel⟩
theorem kb_RX11_273 : KB RX11 273 yX0_allWithin cX0_allWithin 4 (some .int) 0 := ⟨k_786, k_93, k_789, by decide +kernel⟩
theorem kb_RX11_276 : KB RX11 276 yX10_choose cX10_choose 9 (some .int) 3 := ⟨k_798, k_87, k_801, by decide +kernel⟩
theorem kb_RX11_280 : KB RX11 280 yX11_isLawful cX11_isLawful 2 (some .boolean) 1 := ⟨k_813, k_84, k_816, by decide +kernel⟩
theorem kb_RX11_283 : KB RX11 283 yX2_improve cX2_improve 3 (some .int) 1 := ⟨k_817, k_94, k_820, by decide +kernel⟩
theorem kb_RX11_290 : KB RX11 290 yX4_leastPrice cX4_leastPrice 6 (some .int) 2 := ⟨k_841, k_95, k_844, by decide +kernel⟩
theorem kb_RX11_294 : KB RX11 294 yX4_leastRoom cX4_leastRoom 6 (some .int) 2 := ⟨k_869, k_95, k_872, by decide +kernel⟩
theorem kb_RX11_297 : KB RX11 297 yX8_refresh cX8_refresh 1 none 0 := ⟨k_880, k_96, k_883, by decide +kernel⟩
theorem kb_RX11_308 : KB RX11 308 yX11_mostWithout cX11_mostWithout 3 (some .int) 2 := ⟨k_898, k_84, k_901, by decide +kernel⟩
theorem kb_RX11_311 : KB RX11 311 yX6_leastMost cX6_leastMost 3 (some .int) 2 := ⟨k_902, k_92, k_641, by decide +kernel⟩
theorem kb_RX11_314 : KB RX11 314 yX6_leastMostUnbound cX6_leastMostUnbound 3 (some .int) 2 := ⟨k_907, k_92, k_910, by decide +kernel⟩
theorem kb_RX11_317 : KB RX11 317 yX7_renew cX7_renew 5 none 3 := ⟨k_919, k_85, k_922, by decide +kernel⟩
theorem kb_RX11_321 : KB RX11 321 yX7_drop cX7_drop 3 (some .boolean) 1 := ⟨k_927, k_85, k_930, by decide +kernel⟩
theorem kb_RX11_327 : KB RX11 327 yX7_cellFault cX7_cellFault 5 (some .int) 3 := ⟨k_935, k_85, k_938, by decide +kernel⟩
theorem kb_RX11_330 : KB RX11 330 yX7_write cX7_write 5 none 3 := ⟨k_939, k_85, k_942, by decide +kernel⟩
theorem kb_RX11_335 : KB RX11 335 yX11_tellAgain cX11_tellAgain 3 (some .int) 1 := ⟨k_952, k_84, k_955, by decide +kernel⟩
theorem kb_RX11_338 : KB RX11 338 yX11_tellBefore cX11_tellBefore 2 (some .int) 1 := ⟨k_960, k_84, k_963, by decide +kernel⟩
theorem kb_RX11_341 : KB RX11 341 yX11_tellRow cX11_tellRow 2 (some .int) 1 := ⟨k_964, k_84, k_967, by decide +kernel⟩
theorem kb_RX11_344 : KB RX11 344 yX11_leave cX11_leave 2 none 1 := ⟨k_956, k_84, k_959, by decide +kernel⟩
theorem kb_RX11_351 : KB RX11 351 yX10_countBefores cX10_countBefores 3 (some .int) 0 := ⟨k_988, k_87, k_991, by decide +kernel⟩
theorem kb_RX11_354 : KB RX11 354 yX10_neededBy cX10_neededBy 4 (some .int) 1 := ⟨k_993, k_87, k_734, by decide +kernel⟩
theorem kb_RX11_357 : KB RX11 357 yJ6_bitCount_0f7a4 cJ6_bitCount_0f7a4 1 (some .int) 1 := ⟨k_994, k_89, k_175, by decide +kernel⟩
theorem kb_RX11_98 : KB RX11 98 yX11_isSheet cX11_isSheet 1 (some .boolean) 1 := ⟨k_465, k_84, k_467, by decide +kernel⟩
theorem kb_RX12_106 : KB RX12 106 yX12_readsWork cX12_readsWork 4 (some .boolean) 0 := ⟨k_1118, k_97, k_1121, by decide +kernel⟩
theorem kb_RX12_110 : KB RX12 110 yX12_readsSize cX12_readsSize 3 (some .boolean) 0 := ⟨k_1125, k_97, k_1128, by decide +kernel⟩
theorem kb_RX12_113 : KB RX12 113 yX12_isSheet cX12_isSheet 1 (some .boolean) 1 := ⟨k_1093, k_97, k_1095, by decide +kernel⟩
theorem kb_RX12_117 : KB RX12 117 yX12_isLane cX12_isLane 1 (some .boolean) 1 := ⟨k_1099, k_97, k_1101, by decide +kernel⟩
theorem kb_RX12_120 : KB RX12 120 yX12_against cX12_against 5 (some .int) 4 := ⟨k_1102, k_97, k_1105, by decide +kernel⟩
theorem kb_RX12_124 : KB RX12 124 yX12_fails cX12_fails 2 (some .int) 1 := ⟨k_1106, k_97, k_1109, by decide +kernel⟩
theorem kb_RX12_128 : KB RX12 128 yX12_readsAll cX12_readsAll 4 (some .boolean) 0 := ⟨k_1110, k_97, k_1113, by decide +kernel⟩
theorem kb_RX12_134 : KB RX12 134 yX12_all cX12_all 1 (some .int) 0 := ⟨k_1133, k_97, k_1136, by decide +kernel⟩
theorem kb_RX12_137 : KB RX12 137 yX12_isWork cX12_isWork 2 (some .boolean) 1 := ⟨k_1141, k_97, k_1144, by decide +kernel⟩
theorem kb_RX12_140 : KB RX12 140 yX12_aheadOf cX12_aheadOf 6 (some .int) 1 := ⟨k_1149, k_97, k_1152, by decide +kernel⟩
theorem kb_RX12_143 : KB RX12 143 yX12_openAt cX12_openAt 6 (some .int) 2 := ⟨k_1185, k_97, k_1188, by decide +kernel⟩
theorem kb_RX12_147 : KB RX12 147 yX12_sizeOf cX12_sizeOf 4 (some .int) 1 := ⟨k_1189, k_97, k_1192, by decide +kernel⟩
theorem kb_RX12_150 : KB RX12 150 yX12_isLawful cX12_isLawful 4 (some .boolean) 1 := ⟨k_1161, k_97, k_1164, by decide +kernel⟩
theorem kb_RX12_154 : KB RX12 154 yX12_comes cX12_comes 3 (some .int) 1 := ⟨k_1165, k_97, k_1168, by decide +kernel⟩
theorem kb_RX12_157 : KB RX12 157 yX12_isOrder cX12_isOrder 2 (some .boolean) 1 := ⟨k_1173, k_97, k_1176, by decide +kernel⟩
theorem kb_RX12_160 : KB RX12 160 yX12_lookAt cX12_lookAt 3 none 1 := ⟨k_1177, k_97, k_1180, by decide +kernel⟩
theorem kb_RX12_164 : KB RX12 164 yX12_mostOf cX12_mostOf 5 (some .int) 1 := ⟨k_1181, k_97, k_1184, by decide +kernel⟩
theorem kb_RX12_168 : KB RX12 168 yX12_longOf cX12_longOf 4 (some .int) 1 := ⟨k_1193, k_97, k_1196, by decide +kernel⟩
theorem kb_RX12_171 : KB RX12 171 yX12_needsOf cX12_needsOf 4 (some .int) 1 := ⟨k_1209, k_97, k_1212, by decide +kernel⟩
theorem kb_RX12_175 : KB RX12 175 yX12_mayCome cX12_mayCome 4 (some .boolean) 3 := ⟨k_1222, k_97, k_1225, by decide +kernel⟩
theorem kb_RX12_178 : KB RX12 178 yX12_wideBy cX12_wideBy 5 (some .int) 3 := ⟨k_1226, k_97, k_1229, by decide +kernel⟩
theorem kb_RX12_182 : KB RX12 182 yX12_layMost cX12_layMost 8 none 1 := ⟨k_1217, k_97, k_1220, by decide +kernel⟩
theorem kb_RX12_185 : KB RX12 185 yX12_layUnions cX12_layUnions 2 none 0 := ⟨k_1205, k_97, k_1208, by decide +kernel⟩
theorem kb_RX12_188 : KB RX12 188 yX12_leastBy cX12_leastBy 2 (some .int) 1 := ⟨k_1213, k_97, k_1216, by decide +kernel⟩
theorem kb_RX12_191 : KB RX12 191 yX12_leastOf cX12_leastOf 2 (some .int) 1 := ⟨k_1201, k_97, k_1204, by decide +kernel⟩
theorem kb_RX12_194 : KB RX12 194 yX12_layLong cX12_layLong 8 none 1 := ⟨k_1230, k_97, k_1233, by decide +kernel⟩
theorem kb_RX12_197 : KB RX12 197 yX12_nextFrom cX12_nextFrom 5 (some .int) 2 := ⟨k_1234, k_97, k_1237, by decide +kernel⟩
theorem kb_RX12_201 : KB RX12 201 yX12_isBetter cX12_isBetter 6 (some .boolean) 2 := ⟨k_1246, k_97, k_1249, by decide +kernel⟩
theorem kb_RX12_205 : KB RX12 205 yX12_bitsOf cX12_bitsOf 3 (some .int) 1 := ⟨k_1258, k_97, k_1260, by decide +kernel⟩
theorem kb_RX12_208 : KB RX12 208 yX12_isClosed cX12_isClosed 3 (some .boolean) 1 := ⟨k_1261, k_97, k_1264, by decide +kernel⟩
theorem kb_RX12_211 : KB RX12 211 yX12_crossOf cX12_crossOf 5 (some .int) 1 := ⟨k_1254, k_97, k_1257, by decide +kernel⟩
theorem kb_RX12_214 : KB RX12 214 yX12_share cX12_share 4 (some .boolean) 2 := ⟨k_1277, k_97, k_1280, by decide +kernel⟩
theorem kb_RX12_217 : KB RX12 217 yX12_isKnot cX12_isKnot 4 (some .boolean) 1 := ⟨k_1273, k_97, k_1276, by decide +kernel⟩
theorem kb_RX12_220 : KB RX12 220 yX12_knotOf cX12_knotOf 5 (some .int) 0 := ⟨k_1269, k_97, k_1272, by decide +kernel⟩
theorem kb_RX12_223 : KB RX12 223 yX12_layParts cX12_layParts 4 none 0 := ⟨k_1289, k_97, k_1292, by decide +kernel⟩
theorem kb_RX12_226 : KB RX12 226 yX12_dislikes cX12_dislikes 6 (some .int) 3 := ⟨k_1305, k_97, k_1308, by decide +kernel⟩
theorem kb_RX12_229 : KB RX12 229 yX12_chosen cX12_chosen 7 (some .int) 3 := ⟨k_1301, k_97, k_1304, by decide +kernel⟩
theorem kb_RX12_232 : KB RX12 232 yX12_layMoved cX12_layMoved 5 none 2 := ⟨k_1317, k_97, k_1320, by decide +kernel⟩
theorem kb_RX12_236 : KB RX12 236 yX12_moveOnce cX12_moveOnce 4 (some .boolean) 0 := ⟨k_1313, k_97, k_1316, by decide +kernel⟩
theorem kb_RX12_239 : KB RX12 239 yX12_betweenAt cX12_betweenAt 2 (some .int) 1 := ⟨k_1333, k_97, k_1336, by decide +kernel⟩
theorem kb_RX12_242 : KB RX12 242 yX12_priceOf cX12_priceOf 4 (some .int) 1 := ⟨k_1337, k_97, k_1340, by decide +kernel⟩
theorem kb_RX12_245 : KB RX12 245 yX12_cheapestWith cX12_cheapestWith 11 (some .int) 1 := ⟨k_1329, k_97, k_1332, by decide +kernel⟩
theorem kb_RX12_248 : KB RX12 248 yX12_lost cX12_lost 2 (some .long) 1 := ⟨k_1378, k_97, k_1381, by decide +kernel⟩
theorem kb_RX12_255 : KB RX12 255 yX12_begins cX12_begins 2 none 1 := ⟨k_1386, k_97, k_1389, by decide +kernel⟩
theorem kb_RX12_79 : KB RX12 79 yX12_isIn cX12_isIn 3 (some .boolean) 3 := ⟨k_1096, k_97, k_1098, by decide +kernel⟩
theorem kb_RX12_92 : KB RX12 92 yX12_codeAt cX12_codeAt 1 (some .int) 0 := ⟨k_1114, k_97, k_1117, by decide +kernel⟩
theorem kb_RX12_96 : KB RX12 96 yX12_has cX12_has 2 (some .boolean) 2 := ⟨k_1122, k_97, k_1124, by decide +kernel⟩
theorem kb_RX1_19 : KB RX1 19 yX1_fillNeededFromHereOn cX1_fillNeededFromHereOn 4 none 1 := ⟨k_598, k_91, k_601, by decide +kernel⟩
theorem kb_RX1_49 : KB RX1 49 yX5_sum cX5_sum 2 (some .int) 1 := ⟨k_602, k_88, k_534, by decide +kernel⟩
theorem kb_RX2_32 : KB RX2 32 yX1_measure cX1_measure 7 none 1 := ⟨k_822, k_91, k_597, by decide +kernel⟩
theorem kb_RX2_48 : KB RX2 48 yX2_doFirstMove cX2_doFirstMove 3 (some .boolean) 0 := ⟨k_824, k_94, k_827, by decide +kernel⟩
theorem kb_RX2_57 : KB RX2 57 yX2_isGood cX2_isGood 3 (some .boolean) 2 := ⟨k_828, k_94, k_831, by decide +kernel⟩
theorem kb_RX2_65 : KB RX2 65 yX1_beats cX1_beats 6 (some .boolean) 4 := ⟨k_832, k_91, k_714, by decide +kernel⟩
theorem kb_RX4_26 : KB RX4 26 yX10_greatestNeed cX10_greatestNeed 3 (some .int) 0 := ⟨k_873, k_87, k_765, by decide +kernel⟩
theorem kb_RX4_44 : KB RX4 44 yX4_leastPrice cX4_leastPrice 6 (some .int) 2 := ⟨k_875, k_95, k_844, by decide +kernel⟩
theorem kb_RX4_57 : KB RX4 57 yX4_goOn cX4_goOn 10 none 3 := ⟨k_845, k_95, k_848, by decide +kernel⟩
theorem kb_RX4_65 : KB RX4 65 yX5_sum cX5_sum 2 (some .int) 1 := ⟨k_855, k_88, k_534, by decide +kernel⟩
theorem kb_RX4_71 : KB RX4 71 yX4_closeSome cX4_closeSome 5 none 2 := ⟨k_857, k_95, k_860, by decide +kernel⟩
theorem kb_RX4_75 : KB RX4 75 yX4_fillFar cX4_fillFar 4 none 1 := ⟨k_849, k_95, k_852, by decide +kernel⟩
theorem kb_RX4_79 : KB RX4 79 yJ6_bitCount_0f7a4 cJ6_bitCount_0f7a4 1 (some .int) 1 := ⟨k_853, k_89, k_175, by decide +kernel⟩
theorem kb_RX4_91 : KB RX4 91 yX4_closeOne cX4_closeOne 4 none 1 := ⟨k_861, k_95, k_864, by decide +kernel⟩
theorem kb_RX5_22 : KB RX5 22 yX5_sum cX5_sum 2 (some .int) 1 := ⟨k_531, k_88, k_534, by decide +kernel⟩
theorem kb_RX6_100 : KB RX6 100 yX6_leastLong cX6_leastLong 5 (some .int) 1 := ⟨k_679, k_92, k_682, by decide +kernel⟩
theorem kb_RX6_38 : KB RX6 38 yX10_all cX10_all 1 (some .int) 0 := ⟨k_636, k_87, k_542, by decide +kernel⟩
theorem kb_RX6_43 : KB RX6 43 yX6_leastMost cX6_leastMost 3 (some .int) 2 := ⟨k_638, k_92, k_641, by decide +kernel⟩
theorem kb_RX6_47 : KB RX6 47 yX6_load cX6_load 5 none 1 := ⟨k_642, k_92, k_645, by decide +kernel⟩
theorem kb_RX6_51 : KB RX6 51 yX6_fillLeast cX6_fillLeast 5 none 1 := ⟨k_650, k_92, k_653, by decide +kernel⟩
theorem kb_RX6_54 : KB RX6 54 yX6_fillLongs cX6_fillLongs 3 none 1 := ⟨k_675, k_92, k_678, by decide +kernel⟩
theorem kb_RX6_57 : KB RX6 57 yX6_nextBehind cX6_nextBehind 4 (some .int) 1 := ⟨k_687, k_92, k_690, by decide +kernel⟩
theorem kb_RX6_67 : KB RX6 67 yX6_squeeze cX6_squeeze 6 (some .int) 2 := ⟨k_646, k_92, k_649, by decide +kernel⟩
theorem kb_RX6_80 : KB RX6 80 yX5_sum cX5_sum 2 (some .int) 1 := ⟨k_662, k_88, k_534, by decide +kernel⟩
theorem kb_RX6_85 : KB RX6 85 yX6_mayCome cX6_mayCome 3 (some .boolean) 2 := ⟨k_654, k_92, k_657, by decide +kernel⟩
theorem kb_RX6_89 : KB RX6 89 yX6_wide cX6_wide 3 (some .int) 2 := ⟨k_658, k_92, k_661, by decide +kernel⟩
theorem kb_RX7_23 : KB RX7 23 yX7_rowFault cX7_rowFault 3 (some .int) 2 := ⟨k_475, k_85, k_478, by decide +kernel⟩
theorem kb_RX8_26 : KB RX8 26 yX8_divide cX8_divide 7 none 0 := ⟨k_884, k_96, k_887, by decide +kernel⟩
theorem kb_RX8_29 : KB RX8 29 yX10_all cX10_all 1 (some .int) 0 := ⟨k_888, k_87, k_542, by decide +kernel⟩
theorem kb_RX8_33 : KB RX8 33 yX10_greatestNeed cX10_greatestNeed 3 (some .int) 0 := ⟨k_889, k_87, k_765, by decide +kernel⟩
theorem kb_RX8_37 : KB RX8 37 yX6_leastMost cX6_leastMost 3 (some .int) 2 := ⟨k_891, k_92, k_641, by decide +kernel⟩
theorem kb_RX9_21 : KB RX9 21 yX9_forget cX9_forget 2 none 0 := ⟨k_487, k_86, k_490, by decide +kernel⟩
theorem kb_RX9_24 : KB RX9 24 yX9_step cX9_step 3 (some .int) 2 := ⟨k_491, k_86, k_494, by decide +kernel⟩
theorem kb_RX9_38 : KB RX9 38 yX9_beginItem cX9_beginItem 2 (some .int) 1 := ⟨k_495, k_86, k_498, by decide +kernel⟩
theorem kb_RX9_42 : KB RX9 42 yX9_takeNeed cX9_takeNeed 3 (some .int) 1 := ⟨k_499, k_86, k_502, by decide +kernel⟩
theorem kb_RX9_45 : KB RX9 45 yX9_goOnInWork cX9_goOnInWork 2 (some .int) 1 := ⟨k_503, k_86, k_506, by decide +kernel⟩
theorem kb_RX9_48 : KB RX9 48 yX9_takeBefore cX9_takeBefore 3 (some .int) 1 := ⟨k_511, k_86, k_514, by decide +kernel⟩
theorem kb_RX9_51 : KB RX9 51 yX9_takeSized cX9_takeSized 3 (some .int) 1 := ⟨k_515, k_86, k_518, by decide +kernel⟩
theorem kb_RX9_54 : KB RX9 54 yX9_takeSize cX9_takeSize 2 (some .int) 1 := ⟨k_519, k_86, k_522, by decide +kernel⟩
theorem kb_RX9_57 : KB RX9 57 yX9_endItem cX9_endItem 2 (some .int) 1 := ⟨k_507, k_86, k_510, by decide +kernel⟩
theorem kc_RX11_172 : (Cond.methodLink RX11 172 arraycopyName ∈ lw_t2 ∧ Cond.native arraycopyName ∈ lw_t2 ∧ Cond.static arraycopyName ∈ lw_t2 ∧ Cond.initialized "java/lang/System" ∈ lw_t2) := ⟨k_587, k_589, k_588, k_98⟩
theorem kc_RX2_26 : (Cond.methodLink RX2 26 arraycopyName ∈ lw_t2 ∧ Cond.native arraycopyName ∈ lw_t2 ∧ Cond.static arraycopyName ∈ lw_t2 ∧ Cond.initialized "java/lang/System" ∈ lw_t2) := ⟨k_821, k_589, k_588, k_98⟩
theorem kc_RX3_24 : (Cond.methodLink RX3 24 arraycopyName ∈ lw_t2 ∧ Cond.native arraycopyName ∈ lw_t2 ∧ Cond.static arraycopyName ∈ lw_t2 ∧ Cond.initialized "java/lang/System" ∈ lw_t2) := ⟨k_614, k_589, k_588, k_98⟩
theorem kj_RX0_38 : (Cond.methodLink RX0 38 Lib.Math.max.name ∈ lw_t2 ∧ Cond.static Lib.Math.max.name ∈ lw_t2 ∧ Cond.initialized "java/lang/Math" ∈ lw_t2 ∧ Cond.code Lib.Math.max.name Lib.Math.max.code 2 (some .int) ∈ lw_t2) := ⟨k_761, k_604, k_99, k_605⟩
theorem kj_RX0_71 : (Cond.methodLink RX0 71 Lib.Math.min.name ∈ lw_t2 ∧ Cond.static Lib.Math.min.name ∈ lw_t2 ∧ Cond.initialized "java/lang/Math" ∈ lw_t2 ∧ Cond.code Lib.Math.min.name Lib.Math.min.code 2 (some .int) ∈ lw_t2) := ⟨k_736, k_665, k_99, k_666⟩
theorem kj_RX10_50 : (Cond.methodLink RX10 50 Lib.Math.max.name ∈ lw_t2 ∧ Cond.static Lib.Math.max.name ∈ lw_t2 ∧ Cond.initialized "java/lang/Math" ∈ lw_t2 ∧ Cond.code Lib.Math.max.name Lib.Math.max.code 2 (some .int) ∈ lw_t2) := ⟨k_767, k_604, k_99, k_605⟩
theorem kj_RX11_262 : (Cond.methodLink RX11 262 Lib.Math.max.name ∈ lw_t2 ∧ Cond.static Lib.Math.max.name ∈ lw_t2 ∧ Cond.initialized "java/lang/Math" ∈ lw_t2 ∧ Cond.code Lib.Math.max.name Lib.Math.max.code 2 (some .int) ∈ lw_t2) := ⟨k_768, k_604, k_99, k_605⟩
theorem kj_RX1_55 : (Cond.methodLink RX1 55 Lib.Math.max.name ∈ lw_t2 ∧ Cond.static Lib.Math.max.name ∈ lw_t2 ∧ Cond.initialized "java/lang/Math" ∈ lw_t2 ∧ Cond.code Lib.Math.max.name Lib.Math.max.code 2 (some .int) ∈ lw_t2) := ⟨k_603, k_604, k_99, k_605⟩
theorem kj_RX4_38 : (Cond.methodLink RX4 38 Lib.Math.max.name ∈ lw_t2 ∧ Cond.static Lib.Math.max.name ∈ lw_t2 ∧ Cond.initialized "java/lang/Math" ∈ lw_t2 ∧ Cond.code Lib.Math.max.name Lib.Math.max.code 2 (some .int) ∈ lw_t2) := ⟨k_874, k_604, k_99, k_605⟩
theorem kj_RX4_88 : (Cond.methodLink RX4 88 Lib.Math.min.name ∈ lw_t2 ∧ Cond.static Lib.Math.min.name ∈ lw_t2 ∧ Cond.initialized "java/lang/Math" ∈ lw_t2 ∧ Cond.code Lib.Math.min.name Lib.Math.min.code 2 (some .int) ∈ lw_t2) := ⟨k_856, k_665, k_99, k_666⟩
theorem kj_RX6_92 : (Cond.methodLink RX6 92 Lib.Math.max.name ∈ lw_t2 ∧ Cond.static Lib.Math.max.name ∈ lw_t2 ∧ Cond.initialized "java/lang/Math" ∈ lw_t2 ∧ Cond.code Lib.Math.max.name Lib.Math.max.code 2 (some .int) ∈ lw_t2) := ⟨k_663, k_604, k_99, k_605⟩
theorem kj_RX6_97 : (Cond.methodLink RX6 97 Lib.Math.min.name ∈ lw_t2 ∧ Cond.static Lib.Math.min.name ∈ lw_t2 ∧ Cond.initialized "java/lang/Math" ∈ lw_t2 ∧ Cond.code Lib.Math.min.name Lib.Math.min.code 2 (some .int) ∈ lw_t2) := ⟨k_664, k_665, k_99, k_666⟩
theorem kj_RX8_43 : (Cond.methodLink RX8 43 Lib.Math.max.name ∈ lw_t2 ∧ Cond.static Lib.Math.max.name ∈ lw_t2 ∧ Cond.initialized "java/lang/Math" ∈ lw_t2 ∧ Cond.code Lib.Math.max.name Lib.Math.max.code 2 (some .int) ∈ lw_t2) := ⟨k_892, k_604, k_99, k_605⟩
theorem kv_X0_allWithin : KV yX0_allWithin 0 := ⟨k_787, k_788, TX0, 6, rfl⟩
theorem kv_X0_countParts : KV yX0_countParts 0 := ⟨k_774, k_775, TX0, 6, rfl⟩
theorem kv_X0_fillCrossings : KV yX0_fillCrossings 0 := ⟨k_725, k_22, TX0, 6, rfl⟩
theorem kv_X0_fillJoined : KV yX0_fillJoined 0 := ⟨k_743, k_24, TX0, 6, rfl⟩
theorem kv_X0_findKnot : KV yX0_findKnot 0 := ⟨k_739, k_23, TX0, 6, rfl⟩
theorem kv_X0_greatestCross : KV yX0_greatestCross 0 := ⟨k_758, k_759, TX0, 6, rfl⟩
theorem kv_X0_isKnot : KV yX0_isKnot 0 := ⟨k_747, k_25, TX0, 6, rfl⟩
theorem kv_X0_isWithin : KV yX0_isWithin 0 := ⟨k_792, k_26, TX0, 6, rfl⟩
theorem kv_X0_leastOfPart : KV yX0_leastOfPart 0 := ⟨k_778, k_779, TX0, 6, rfl⟩
theorem kv_X0_refresh : KV yX0_refresh 0 := ⟨k_720, k_721, TX0, 6, rfl⟩
theorem kv_X10_add : KV yX10_add 10 := ⟨k_544, k_545, TX10, 6, rfl⟩
theorem kv_X10_all : KV yX10_all 10 := ⟨k_540, k_541, TX10, 6, rfl⟩
theorem kv_X10_changeSize : KV yX10_changeSize 10 := ⟨k_576, k_577, TX10, 6, rfl⟩
theorem kv_X10_choose : KV yX10_choose 10 := ⟨k_799, k_800, TX10, 6, rfl⟩
theorem kv_X10_comesAhead : KV yX10_comesAhead 10 := ⟨k_564, k_565, TX10, 6, rfl⟩
theorem kv_X10_countBefores : KV yX10_countBefores 10 := ⟨k_989, k_990, TX10, 6, rfl⟩
theorem kv_X10_greatestNeed : KV yX10_greatestNeed 10 := ⟨k_763, k_764, TX10, 6, rfl⟩
theorem kv_X10_has : KV yX10_has 10 := ⟨k_552, k_553, TX10, 6, rfl⟩
theorem kv_X10_isBefore : KV yX10_isBefore 10 := ⟨k_560, k_561, TX10, 6, rfl⟩
theorem kv_X10_isClosed : KV yX10_isClosed 10 := ⟨k_700, k_701, TX10, 6, rfl⟩
theorem kv_X10_neededBy : KV yX10_neededBy 10 := ⟨k_732, k_733, TX10, 6, rfl⟩
theorem kv_X10_score : KV yX10_score 10 := ⟨k_805, k_27, TX10, 6, rfl⟩
theorem kv_X10_takeOver : KV yX10_takeOver 10 := ⟨k_524, k_525, TX10, 6, rfl⟩
theorem kv_X10_turnBefore : KV yX10_turnBefore 10 := ⟨k_568, k_569, TX10, 6, rfl⟩
theorem kv_X11_as : KV yX11_as 11 := ⟨k_973, k_974, TX11, 14, rfl⟩
theorem kv_X11_atPlace : KV yX11_atPlace 11 := ⟨k_625, k_13, TX11, 14, rfl⟩
theorem kv_X11_before : KV yX11_before 11 := ⟨k_556, k_557, TX11, 14, rfl⟩
theorem kv_X11_best : KV yX11_best 11 := ⟨k_629, k_630, TX11, 14, rfl⟩
theorem kv_X11_better : KV yX11_better 11 := ⟨k_708, k_709, TX11, 14, rfl⟩
theorem kv_X11_bound : KV yX11_bound 11 := ⟨k_754, k_755, TX11, 14, rfl⟩
theorem kv_X11_build : KV yX11_build 11 := ⟨k_795, k_796, TX11, 14, rfl⟩
theorem kv_X11_cell : KV yX11_cell 11 := ⟨k_944, k_945, TX11, 14, rfl⟩
theorem kv_X11_cheapest : KV yX11_cheapest 11 := ⟨k_838, k_839, TX11, 14, rfl⟩
theorem kv_X11_cross : KV yX11_cross 11 := ⟨k_716, k_717, TX11, 14, rfl⟩
theorem kv_X11_fault : KV yX11_fault 11 := ⟨k_981, k_982, TX11, 14, rfl⟩
theorem kv_X11_faulted : KV yX11_faulted 11 := ⟨k_481, k_1, TX11, 14, rfl⟩
theorem kv_X11_from : KV yX11_from 11 := ⟨k_692, k_693, TX11, 14, rfl⟩
theorem kv_X11_isLawful : KV yX11_isLawful 11 := ⟨k_815, k_28, TX11, 14, rfl⟩
theorem kv_X11_knot : KV yX11_knot 11 := ⟨k_750, k_751, TX11, 14, rfl⟩
theorem kv_X11_leave : KV yX11_leave 11 := ⟨k_958, k_38, TX11, 14, rfl⟩
theorem kv_X11_lose : KV yX11_lose 11 := ⟨k_924, k_925, TX11, 14, rfl⟩
theorem kv_X11_many : KV yX11_many 11 := ⟨k_985, k_986, TX11, 14, rfl⟩
theorem kv_X11_mostWithout : KV yX11_mostWithout 11 := ⟨k_900, k_36, TX11, 14, rfl⟩
theorem kv_X11_move : KV yX11_move 11 := ⟨k_810, k_811, TX11, 14, rfl⟩
theorem kv_X11_moves : KV yX11_moves 11 := ⟨k_834, k_835, TX11, 14, rfl⟩
theorem kv_X11_ofOrder : KV yX11_ofOrder 11 := ⟨k_616, k_617, TX11, 14, rfl⟩
theorem kv_X11_ofWork : KV yX11_ofWork 11 := ⟨k_548, k_549, TX11, 14, rfl⟩
theorem kv_X11_order : KV yX11_order 11 := ⟨k_581, k_582, TX11, 14, rfl⟩
theorem kv_X11_part : KV yX11_part 11 := ⟨k_770, k_771, TX11, 14, rfl⟩
theorem kv_X11_put : KV yX11_put 11 := ⟨k_932, k_933, TX11, 14, rfl⟩
theorem kv_X11_refusalOfSpare : KV yX11_refusalOfSpare 11 := ⟨k_592, k_11, TX11, 14, rfl⟩
theorem kv_X11_room : KV yX11_room 11 := ⟨k_866, k_867, TX11, 14, rfl⟩
theorem kv_X11_sheet : KV yX11_sheet 11 := ⟨k_916, k_917, TX11, 14, rfl⟩
theorem kv_X11_shop : KV yX11_shop 11 := ⟨k_462, k_463, TX11, 14, rfl⟩
theorem kv_X11_show : KV yX11_show 11 := ⟨k_969, k_970, TX11, 14, rfl⟩
theorem kv_X11_tell : KV yX11_tell 11 := ⟨k_949, k_950, TX11, 14, rfl⟩
theorem kv_X11_tellAgain : KV yX11_tellAgain 11 := ⟨k_954, k_37, TX11, 14, rfl⟩
theorem kv_X11_tellBefore : KV yX11_tellBefore 11 := ⟨k_962, k_39, TX11, 14, rfl⟩
theorem kv_X11_tellRow : KV yX11_tellRow 11 := ⟨k_966, k_40, TX11, 14, rfl⟩
theorem kv_X11_thing : KV yX11_thing 11 := ⟨k_572, k_573, TX11, 14, rfl⟩
theorem kv_X11_trace : KV yX11_trace 11 := ⟨k_977, k_978, TX11, 14, rfl⟩
theorem kv_X11_two : KV yX11_two 11 := ⟨k_877, k_878, TX11, 14, rfl⟩
theorem kv_X11_why : KV yX11_why 11 := ⟨k_904, k_905, TX11, 14, rfl⟩
theorem kv_X11_widest : KV yX11_widest 11 := ⟨k_912, k_913, TX11, 14, rfl⟩
theorem kv_X11_within : KV yX11_within 11 := ⟨k_783, k_784, TX11, 14, rfl⟩
theorem kv_X11_without : KV yX11_without 11 := ⟨k_894, k_895, TX11, 14, rfl⟩
theorem kv_X11_work : KV yX11_work 11 := ⟨k_536, k_537, TX11, 14, rfl⟩
theorem kv_X12_against : KV yX12_against 12 := ⟨k_1104, k_41, TX12, 29, rfl⟩
theorem kv_X12_aheadOf : KV yX12_aheadOf 12 := ⟨k_1151, k_49, TX12, 29, rfl⟩
theorem kv_X12_all : KV yX12_all 12 := ⟨k_1135, k_47, TX12, 29, rfl⟩
theorem kv_X12_as : KV yX12_as 12 := ⟨k_1395, k_1396, TX12, 29, rfl⟩
theorem kv_X12_before : KV yX12_before 12 := ⟨k_1146, k_1147, TX12, 29, rfl⟩
theorem kv_X12_begins : KV yX12_begins 12 := ⟨k_1388, k_82, TX12, 29, rfl⟩
theorem kv_X12_best : KV yX12_best 12 := ⟨k_1198, k_1199, TX12, 29, rfl⟩
theorem kv_X12_better : KV yX12_better 12 := ⟨k_1243, k_1244, TX12, 29, rfl⟩
theorem kv_X12_betweenAt : KV yX12_betweenAt 12 := ⟨k_1335, k_79, TX12, 29, rfl⟩
theorem kv_X12_bound : KV yX12_bound 12 := ⟨k_1282, k_1283, TX12, 29, rfl⟩
theorem kv_X12_build : KV yX12_build 12 := ⟨k_1298, k_1299, TX12, 29, rfl⟩
theorem kv_X12_cell : KV yX12_cell 12 := ⟨k_1374, k_1375, TX12, 29, rfl⟩
theorem kv_X12_cheapest : KV yX12_cheapest 12 := ⟨k_1326, k_1327, TX12, 29, rfl⟩
theorem kv_X12_cheapestWith : KV yX12_cheapestWith 12 := ⟨k_1331, k_78, TX12, 29, rfl⟩
theorem kv_X12_chosen : KV yX12_chosen 12 := ⟨k_1303, k_74, TX12, 29, rfl⟩
theorem kv_X12_codeAt : KV yX12_codeAt 12 := ⟨k_1116, k_44, TX12, 29, rfl⟩
theorem kv_X12_comes : KV yX12_comes 12 := ⟨k_1167, k_51, TX12, 29, rfl⟩
theorem kv_X12_cross : KV yX12_cross 12 := ⟨k_1251, k_1252, TX12, 29, rfl⟩
theorem kv_X12_crossOf : KV yX12_crossOf 12 := ⟨k_1256, k_68, TX12, 29, rfl⟩
theorem kv_X12_dislikes : KV yX12_dislikes 12 := ⟨k_1307, k_75, TX12, 29, rfl⟩
theorem kv_X12_fails : KV yX12_fails 12 := ⟨k_1108, k_42, TX12, 29, rfl⟩
theorem kv_X12_fault : KV yX12_fault 12 := ⟨k_1403, k_1404, TX12, 29, rfl⟩
theorem kv_X12_from : KV yX12_from 12 := ⟨k_1239, k_1240, TX12, 29, rfl⟩
theorem kv_X12_isBetter : KV yX12_isBetter 12 := ⟨k_1248, k_67, TX12, 29, rfl⟩
theorem kv_X12_isClosed : KV yX12_isClosed 12 := ⟨k_1263, k_69, TX12, 29, rfl⟩
theorem kv_X12_isKnot : KV yX12_isKnot 12 := ⟨k_1275, k_71, TX12, 29, rfl⟩
theorem kv_X12_isLawful : KV yX12_isLawful 12 := ⟨k_1163, k_50, TX12, 29, rfl⟩
theorem kv_X12_isOrder : KV yX12_isOrder 12 := ⟨k_1175, k_52, TX12, 29, rfl⟩
theorem kv_X12_isWork : KV yX12_isWork 12 := ⟨k_1143, k_48, TX12, 29, rfl⟩
theorem kv_X12_knot : KV yX12_knot 12 := ⟨k_1266, k_1267, TX12, 29, rfl⟩
theorem kv_X12_knotOf : KV yX12_knotOf 12 := ⟨k_1271, k_70, TX12, 29, rfl⟩
theorem kv_X12_layLong : KV yX12_layLong 12 := ⟨k_1232, k_65, TX12, 29, rfl⟩
theorem kv_X12_layMost : KV yX12_layMost 12 := ⟨k_1219, k_62, TX12, 29, rfl⟩
theorem kv_X12_layMoved : KV yX12_layMoved 12 := ⟨k_1319, k_77, TX12, 29, rfl⟩
theorem kv_X12_layParts : KV yX12_layParts 12 := ⟨k_1291, k_73, TX12, 29, rfl⟩
theorem kv_X12_layUnions : KV yX12_layUnions 12 := ⟨k_1207, k_59, TX12, 29, rfl⟩
theorem kv_X12_leastBy : KV yX12_leastBy 12 := ⟨k_1215, k_61, TX12, 29, rfl⟩
theorem kv_X12_leastOf : KV yX12_leastOf 12 := ⟨k_1203, k_58, TX12, 29, rfl⟩
theorem kv_X12_longOf : KV yX12_longOf 12 := ⟨k_1195, k_57, TX12, 29, rfl⟩
theorem kv_X12_lookAt : KV yX12_lookAt 12 := ⟨k_1179, k_53, TX12, 29, rfl⟩
theorem kv_X12_lose : KV yX12_lose 12 := ⟨k_1366, k_1367, TX12, 29, rfl⟩
theorem kv_X12_lost : KV yX12_lost 12 := ⟨k_1380, k_81, TX12, 29, rfl⟩
theorem kv_X12_many : KV yX12_many 12 := ⟨k_1407, k_1408, TX12, 29, rfl⟩
theorem kv_X12_mayCome : KV yX12_mayCome 12 := ⟨k_1224, k_63, TX12, 29, rfl⟩
theorem kv_X12_mostOf : KV yX12_mostOf 12 := ⟨k_1183, k_54, TX12, 29, rfl⟩
theorem kv_X12_move : KV yX12_move 12 := ⟨k_1310, k_1311, TX12, 29, rfl⟩
theorem kv_X12_moveOnce : KV yX12_moveOnce 12 := ⟨k_1315, k_76, TX12, 29, rfl⟩
theorem kv_X12_moves : KV yX12_moves 12 := ⟨k_1322, k_1323, TX12, 29, rfl⟩
theorem kv_X12_needsOf : KV yX12_needsOf 12 := ⟨k_1211, k_60, TX12, 29, rfl⟩
theorem kv_X12_nextFrom : KV yX12_nextFrom 12 := ⟨k_1236, k_66, TX12, 29, rfl⟩
theorem kv_X12_ofOrder : KV yX12_ofOrder 12 := ⟨k_1170, k_1171, TX12, 29, rfl⟩
theorem kv_X12_ofWork : KV yX12_ofWork 12 := ⟨k_1138, k_1139, TX12, 29, rfl⟩
theorem kv_X12_openAt : KV yX12_openAt 12 := ⟨k_1187, k_55, TX12, 29, rfl⟩
theorem kv_X12_order : KV yX12_order 12 := ⟨k_1158, k_1159, TX12, 29, rfl⟩
theorem kv_X12_part : KV yX12_part 12 := ⟨k_1286, k_1287, TX12, 29, rfl⟩
theorem kv_X12_priceOf : KV yX12_priceOf 12 := ⟨k_1339, k_80, TX12, 29, rfl⟩
theorem kv_X12_put : KV yX12_put 12 := ⟨k_1370, k_1371, TX12, 29, rfl⟩
theorem kv_X12_readsAll : KV yX12_readsAll 12 := ⟨k_1112, k_43, TX12, 29, rfl⟩
theorem kv_X12_readsSize : KV yX12_readsSize 12 := ⟨k_1127, k_46, TX12, 29, rfl⟩
theorem kv_X12_readsWork : KV yX12_readsWork 12 := ⟨k_1120, k_45, TX12, 29, rfl⟩
theorem kv_X12_room : KV yX12_room 12 := ⟨k_1342, k_1343, TX12, 29, rfl⟩
theorem kv_X12_share : KV yX12_share 12 := ⟨k_1279, k_72, TX12, 29, rfl⟩
theorem kv_X12_sheet : KV yX12_sheet 12 := ⟨k_1362, k_1363, TX12, 29, rfl⟩
theorem kv_X12_shop : KV yX12_shop 12 := ⟨k_1090, k_1091, TX12, 29, rfl⟩
theorem kv_X12_show : KV yX12_show 12 := ⟨k_1391, k_1392, TX12, 29, rfl⟩
theorem kv_X12_sizeOf : KV yX12_sizeOf 12 := ⟨k_1191, k_56, TX12, 29, rfl⟩
theorem kv_X12_tell : KV yX12_tell 12 := ⟨k_1383, k_1384, TX12, 29, rfl⟩
theorem kv_X12_thing : KV yX12_thing 12 := ⟨k_1154, k_1155, TX12, 29, rfl⟩
theorem kv_X12_trace : KV yX12_trace 12 := ⟨k_1399, k_1400, TX12, 29, rfl⟩
theorem kv_X12_two : KV yX12_two 12 := ⟨k_1346, k_1347, TX12, 29, rfl⟩
theorem kv_X12_why : KV yX12_why 12 := ⟨k_1354, k_1355, TX12, 29, rfl⟩
theorem kv_X12_wideBy : KV yX12_wideBy 12 := ⟨k_1228, k_64, TX12, 29, rfl⟩
theorem kv_X12_widest : KV yX12_widest 12 := ⟨k_1358, k_1359, TX12, 29, rfl⟩
theorem kv_X12_within : KV yX12_within 12 := ⟨k_1294, k_1295, TX12, 29, rfl⟩
theorem kv_X12_without : KV yX12_without 12 := ⟨k_1350, k_1351, TX12, 29, rfl⟩
theorem kv_X12_work : KV yX12_work 12 := ⟨k_1130, k_1131, TX12, 29, rfl⟩
theorem kv_X1_beats : KV yX1_beats 1 := ⟨k_712, k_713, TX1, 5, rfl⟩
theorem kv_X1_fillNeededFromHereOn : KV yX1_fillNeededFromHereOn 1 := ⟨k_600, k_12, TX1, 5, rfl⟩
theorem kv_X1_measure : KV yX1_measure 1 := ⟨k_595, k_596, TX1, 5, rfl⟩
theorem kv_X2_doFirstMove : KV yX2_doFirstMove 2 := ⟨k_826, k_29, TX2, 6, rfl⟩
theorem kv_X2_improve : KV yX2_improve 2 := ⟨k_818, k_819, TX2, 6, rfl⟩
theorem kv_X2_isGood : KV yX2_isGood 2 := ⟨k_830, k_30, TX2, 6, rfl⟩
theorem kv_X3_add : KV yX3_add 3 := ⟨k_611, k_612, TX3, 3, rfl⟩
theorem kv_X3_has : KV yX3_has 3 := ⟨k_620, k_621, TX3, 3, rfl⟩
theorem kv_X3_isFull : KV yX3_isFull 3 := ⟨k_607, k_608, TX3, 3, rfl⟩
theorem kv_X3_setOfFirst : KV yX3_setOfFirst 3 := ⟨k_696, k_697, TX3, 3, rfl⟩
theorem kv_X4_closeOne : KV yX4_closeOne 4 := ⟨k_863, k_34, TX4, 4, rfl⟩
theorem kv_X4_closeSome : KV yX4_closeSome 4 := ⟨k_859, k_33, TX4, 4, rfl⟩
theorem kv_X4_fillFar : KV yX4_fillFar 4 := ⟨k_851, k_32, TX4, 4, rfl⟩
theorem kv_X4_goOn : KV yX4_goOn 4 := ⟨k_847, k_31, TX4, 4, rfl⟩
theorem kv_X4_leastPrice : KV yX4_leastPrice 4 := ⟨k_842, k_843, TX4, 4, rfl⟩
theorem kv_X4_leastRoom : KV yX4_leastRoom 4 := ⟨k_870, k_871, TX4, 4, rfl⟩
theorem kv_X5_change : KV yX5_change 5 := ⟨k_528, k_529, TX5, 2, rfl⟩
theorem kv_X5_sum : KV yX5_sum 5 := ⟨k_532, k_533, TX5, 2, rfl⟩
theorem kv_X6_fillLeast : KV yX6_fillLeast 6 := ⟨k_652, k_16, TX6, 10, rfl⟩
theorem kv_X6_fillLongs : KV yX6_fillLongs 6 := ⟨k_677, k_19, TX6, 10, rfl⟩
theorem kv_X6_leastFrom : KV yX6_leastFrom 6 := ⟨k_668, k_669, TX6, 10, rfl⟩
theorem kv_X6_leastLong : KV yX6_leastLong 6 := ⟨k_681, k_20, TX6, 10, rfl⟩
theorem kv_X6_leastMost : KV yX6_leastMost 6 := ⟨k_639, k_640, TX6, 10, rfl⟩
theorem kv_X6_leastMostUnbound : KV yX6_leastMostUnbound 6 := ⟨k_908, k_909, TX6, 10, rfl⟩
theorem kv_X6_load : KV yX6_load 6 := ⟨k_644, k_14, TX6, 10, rfl⟩
theorem kv_X6_longFrom : KV yX6_longFrom 6 := ⟨k_672, k_673, TX6, 10, rfl⟩
theorem kv_X6_mayCome : KV yX6_mayCome 6 := ⟨k_656, k_17, TX6, 10, rfl⟩
theorem kv_X6_nextBehind : KV yX6_nextBehind 6 := ⟨k_689, k_21, TX6, 10, rfl⟩
theorem kv_X6_nextFrom : KV yX6_nextFrom 6 := ⟨k_704, k_705, TX6, 10, rfl⟩
theorem kv_X6_refresh : KV yX6_refresh 6 := ⟨k_633, k_634, TX6, 10, rfl⟩
theorem kv_X6_squeeze : KV yX6_squeeze 6 := ⟨k_648, k_15, TX6, 10, rfl⟩
theorem kv_X6_wide : KV yX6_wide 6 := ⟨k_660, k_18, TX6, 10, rfl⟩
theorem kv_X6_workAt : KV yX6_workAt 6 := ⟨k_684, k_685, TX6, 10, rfl⟩
theorem kv_X7_cellFault : KV yX7_cellFault 7 := ⟨k_936, k_937, TX7, 3, rfl⟩
theorem kv_X7_cellsFault : KV yX7_cellsFault 7 := ⟨k_472, k_473, TX7, 3, rfl⟩
theorem kv_X7_drop : KV yX7_drop 7 := ⟨k_928, k_929, TX7, 3, rfl⟩
theorem kv_X7_renew : KV yX7_renew 7 := ⟨k_920, k_921, TX7, 3, rfl⟩
theorem kv_X7_rowFault : KV yX7_rowFault 7 := ⟨k_477, k_0, TX7, 3, rfl⟩
theorem kv_X7_write : KV yX7_write 7 := ⟨k_940, k_941, TX7, 3, rfl⟩
theorem kv_X8_divide : KV yX8_divide 8 := ⟨k_886, k_35, TX8, 6, rfl⟩
theorem kv_X8_refresh : KV yX8_refresh 8 := ⟨k_881, k_882, TX8, 6, rfl⟩
theorem kv_X9_beginItem : KV yX9_beginItem 9 := ⟨k_497, k_4, TX9, 7, rfl⟩
theorem kv_X9_endItem : KV yX9_endItem 9 := ⟨k_509, k_7, TX9, 7, rfl⟩
theorem kv_X9_firstFault : KV yX9_firstFault 9 := ⟨k_484, k_485, TX9, 7, rfl⟩
theorem kv_X9_forget : KV yX9_forget 9 := ⟨k_489, k_2, TX9, 7, rfl⟩
theorem kv_X9_goOnInWork : KV yX9_goOnInWork 9 := ⟨k_505, k_6, TX9, 7, rfl⟩
theorem kv_X9_step : KV yX9_step 9 := ⟨k_493, k_3, TX9, 7, rfl⟩
theorem kv_X9_takeBefore : KV yX9_takeBefore 9 := ⟨k_513, k_8, TX9, 7, rfl⟩
theorem kv_X9_takeNeed : KV yX9_takeNeed 9 := ⟨k_501, k_5, TX9, 7, rfl⟩
theorem kv_X9_takeSize : KV yX9_takeSize 9 := ⟨k_521, k_10, TX9, 7, rfl⟩
theorem kv_X9_takeSized : KV yX9_takeSized 9 := ⟨k_517, k_9, TX9, 7, rfl⟩
