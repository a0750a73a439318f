/-! the law: both worlds side by side, the script, its end -/
abbrev W2 (aX aM : Nat → Nat) (cA cR : ClassId) (μX μM : Mem) : va_W := wl (aX, cA, cR, []) shX 58 μX ++ wl (aM, cA, cR, []) shM 22 μM
theorem Gd_w {X : Cx} {a a' : Nat → Nat} {cA cR : ClassId} {r r' : va_W} {own : String} {cc : ByteArray} {nL : Nat} {rm : Room} (g : Gd X (a, cA, cR, r) own cc nL rm) : Gd X (a', cA, cR, r') own cc nL rm := by
  obtain ⟨p, l, e, R, s, m, args, below, meth, c', Q, nL', cells, slots, D, A⟩ := X
  exact g
/-- the script of L ints xs at the cell b -/
def SX (X : Cx) (b L : Nat) (xs : Nat → Int32) : Prop := match X with
  | (_, _, _, _, s, _, _, _, _, _, _, _, _, _, _, A) => va_X b L xs s s.heap ∧ b < s.heap.size ∧ ¬ A b
/-- the law's own end -/
def LQ (X : Cx) (b : Nat) : Prop := match X with
  | (_, _, _, R, s, _, args, below, meth, c, Q, _, cells, slots, _, A) => Q = lw_Z below #[Value.ref b] s ∧ args = #[Value.ref b] ∧ R = room_1 ∧ meth.sig.returnType = ret ∧ meth.locks = false ∧ cells ≤ 600000 ∧ slots ≤ 7302249 ∧ A = (fun q => s.heap.size ≤ q) ∧ c.code = code
section LRows
variable {X : Cx} {w : Wd} {own : String} {cc : ByteArray} {nL : Nat} {rm : Room} {pc : Nat} {lv lv' : List (Nat × Value)} {st : List Value} {ws : va_W} {b L : Nat} {xs : Nat → Int32}
theorem r_slen (g : Gd X w own cc nL rm) (hS : SX X b L xs) (d : decode cc pc = .ok (.arraylength, 1)) (k1 : V X (pc + 1) lv (.int (Int32.ofNat L) :: st) ws) : V X pc lv (.ref b :: st) ws := by
  obtain ⟨p, l, e, R, s, m, args, below, meth, c', Q, nL', cells, slots, D, A⟩ := X
  obtain ⟨g1, g2, g3, g4, g5, g6, g7, g8, g9, g10⟩ := g
  obtain ⟨s1, s2, s3⟩ := hS
  intro ls H locs hl hP hD hSS
  exact va_slen g1 g2 s1 s2 s3 hSS d (k1 ls H locs hl hP hD hSS)
theorem r_sld {i : Int32} (g : Gd X w own cc nL rm) (hS : SX X b L xs) (d : decode cc pc = .ok (.iaload, 1)) (hin : vp_in i L) (k1 : V X (pc + 1) lv (.int (xs i.toNatClampNeg) :: st) ws) : V X pc lv (.int i :: .ref b :: st) ws := by
  obtain ⟨p, l, e, R, s, m, args, below, meth, c', Q, nL', cells, slots, D, A⟩ := X
  obtain ⟨g1, g2, g3, g4, g5, g6, g7, g8, g9, g10⟩ := g
  obtain ⟨s1, s2, s3⟩ := hS
  intro ls H locs hl hP hD hSS
  exact va_sld g1 g2 s1 s2 s3 hSS hin d (k1 ls H locs hl hP hD hSS)
theorem r_ret1 (g : Gd X w own cc nL rm) (hQ : LQ X b) (d : decode code pc = .ok (.ireturn, 1)) : V X pc lv [.int 1] ws := by
  obtain ⟨p, l, e, R, s, m, args, below, meth, c', Q, nL', cells, slots, D, A⟩ := X
  obtain ⟨g1, g2, g3, g4, g5, g6, g7, g8, g9, g10⟩ := g
  obtain ⟨q1, q2, q3, q4, q5, q6, q7, q8, q9⟩ := hQ
  subst q1; subst q2; subst q3; subst q8
  intro ls H locs hl hP hD hSS
  refine va_forget (fun q hq => hSS.2.2 q hq) ?_
  refine W.widen (k := 600000) (n := 7302249) q6 q7 ?_
  exact lw_ret g1 q9 q4 q5 d
theorem r_pop2 {v : Value} (g : Gd X w own cc nL rm) (d : decode cc pc = .ok (.pop2, 1)) (hv : v.category = 2) (k1 : V X (pc + 1) lv st ws) : V X pc lv (v :: st) ws := by
  obtain ⟨p, l, e, R, s, m, args, below, meth, c', Q, nL', cells, slots, D, A⟩ := X
  obtain ⟨g1, g2, g3, g4, g5, g6, g7, g8, g9, g10⟩ := g
  intro ls H locs hl hP hD hSS
  exact lv_pop2_2 g1 g2 d hv (k1 ls H locs hl hP hD hSS)
theorem r_lcmp {x y : Int64} (g : Gd X w own cc nL rm) (d : decode cc pc = .ok (.lcmp, 1)) (k1 : V X (pc + 1) lv (.int (lg_cmp x y) :: st) ws) : V X pc lv (.long y :: .long x :: st) ws := by
  obtain ⟨p, l, e, R, s, m, args, below, meth, c', Q, nL', cells, slots, D, A⟩ := X
  obtain ⟨g1, g2, g3, g4, g5, g6, g7, g8, g9, g10⟩ := g
  intro ls H locs hl hP hD hSS
  exact W.lcmp g1 g2 d (k1 ls H locs hl hP hD hSS)
end LRows
section LCalls
variable {X : Cx} {own : String} {cc : ByteArray} {nL : Nat} {rm : Room} {pc : Nat} {lv : List (Nat × Value)} {st : List Value} {aX aM : Nat → Nat} {cA cR : ClassId} {μX μM : Mem} {l : Launch} {D : va_G} {A : Nat → Prop} {index ci c na maxL : Nat} {ks : List (Option (Option Nat))} {y : MethodName} {bytes : ByteArray} {rt : Option FieldType} {rmc : Room} {As st0 : List Value}
theorem l_callXi {post : Int32 → Mem → Prop} (g : Gd X (aX, cA, cR, []) own cc nL rm) (hX : atX X l D A) (d : decode cc pc = .ok (.invokevirtual index, 3)) (hM : MetX l D A (aX, cA, cR, wl (aM, cA, cR, []) shM 22 μM) shX 58 y bytes maxL rt rmc (.ref (aX c) :: As) μX (pI post)) (hb : KB own index y bytes maxL rt na) (hv : KV y ci) (hs : shX c = .inr (.inr (ci, ks))) (hn : As.length = na) (hst : st0 = As.reverse ++ .ref (aX c) :: st) (hR : roomOk rmc maxL rm = true) (hc8 : Nat.ble ((st.map fun v => v.category).sum) 8 = true)
    (k1 : ∀ (r : Int32) (μ' : Mem), post r μ' → V X (pc + 3) lv (.int r :: st) (W2 aX aM cA cR μ' μM)) : V X pc lv st0 (W2 aX aM cA cR μX μM) :=
  r_callVi (w := (aX, cA, cR, wl (aM, cA, cR, []) shM 22 μM)) (Gd_w g) hX d hM hb hv shX_out hs hn hst hR hc8 k1
theorem l_callMi {post : Int32 → Mem → Prop} (g : Gd X (aX, cA, cR, []) own cc nL rm) (hX : atX X l D A) (d : decode cc pc = .ok (.invokevirtual index, 3)) (hM : MetX l D A (aM, cA, cR, wl (aX, cA, cR, []) shX 58 μX) shM 22 y bytes maxL rt rmc (.ref (aM c) :: As) μM (pI post)) (hb : KB own index y bytes maxL rt na) (hv : KV y ci) (hs : shM c = .inr (.inr (ci, ks))) (hn : As.length = na) (hst : st0 = As.reverse ++ .ref (aM c) :: st) (hR : roomOk rmc maxL rm = true) (hc8 : Nat.ble ((st.map fun v => v.category).sum) 8 = true)
    (k1 : ∀ (r : Int32) (μ' : Mem), post r μ' → V X (pc + 3) lv (.int r :: st) (W2 aX aM cA cR μX μ')) : V X pc lv st0 (W2 aX aM cA cR μX μM) :=
  r_swap (r_callVi (w := (aM, cA, cR, wl (aX, cA, cR, []) shX 58 μX)) (sh := shM) (n := 22) (Gd_w g) hX d hM hb hv shM_out hs hn hst hR hc8 (fun r μ' h => r_swap (k1 r μ' h)))
theorem l_callXl {post : Int64 → Mem → Prop} (g : Gd X (aX, cA, cR, []) own cc nL rm) (hX : atX X l D A) (d : decode cc pc = .ok (.invokevirtual index, 3)) (hM : MetX l D A (aX, cA, cR, wl (aM, cA, cR, []) shM 22 μM) shX 58 y bytes maxL rt rmc (.ref (aX c) :: As) μX (pL post)) (hb : KB own index y bytes maxL rt na) (hv : KV y ci) (hs : shX c = .inr (.inr (ci, ks))) (hn : As.length = na) (hst : st0 = As.reverse ++ .ref (aX c) :: st) (hR : roomOk rmc maxL rm = true) (hc8 : Nat.ble ((st.map fun v => v.category).sum) 8 = true)
    (k1 : ∀ (r : Int64) (μ' : Mem), post r μ' → V X (pc + 3) lv (.long r :: st) (W2 aX aM cA cR μ' μM)) : V X pc lv st0 (W2 aX aM cA cR μX μM) :=
  r_callVl (w := (aX, cA, cR, wl (aM, cA, cR, []) shM 22 μM)) (Gd_w g) hX d hM hb hv shX_out hs hn hst hR hc8 k1
theorem l_callMl {post : Int64 → Mem → Prop} (g : Gd X (aX, cA, cR, []) own cc nL rm) (hX : atX X l D A) (d : decode cc pc = .ok (.invokevirtual index, 3)) (hM : MetX l D A (aM, cA, cR, wl (aX, cA, cR, []) shX 58 μX) shM 22 y bytes maxL rt rmc (.ref (aM c) :: As) μM (pL post)) (hb : KB own index y bytes maxL rt na) (hv : KV y ci) (hs : shM c = .inr (.inr (ci, ks))) (hn : As.length = na) (hst : st0 = As.reverse ++ .ref (aM c) :: st) (hR : roomOk rmc maxL rm = true) (hc8 : Nat.ble ((st.map fun v => v.category).sum) 8 = true)
    (k1 : ∀ (r : Int64) (μ' : Mem), post r μ' → V X (pc + 3) lv (.long r :: st) (W2 aX aM cA cR μX μ')) : V X pc lv st0 (W2 aX aM cA cR μX μM) :=
  r_swap (r_callVl (w := (aM, cA, cR, wl (aX, cA, cR, []) shX 58 μX)) (sh := shM) (n := 22) (Gd_w g) hX d hM hb hv shM_out hs hn hst hR hc8 (fun r μ' h => r_swap (k1 r μ' h)))
end LCalls
