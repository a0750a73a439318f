/-- field k of class ci, by entry 'index' of own's pool: its words -/
def FAt (own : String) (index ci k : Nat) : Prop := ∃ (C : String) (T : u_T) (N : Nat), vwCl[ci]? = some (C, T, N) ∧ (∀ q ∈ u_ws C T N, q ∈ lw_t2) ∧ k < N ∧ Cond.fieldLink own index (T k).1 (T k).2.1 (T k).2.2.1 ∈ lw_t2
def FPut (own : String) (index ci k : Nat) (ty : FieldType) : Prop := ∃ (C : String) (T : u_T) (N : Nat) (ty0 : Nat → FieldType), vwCl[ci]? = some (C, T, N) ∧ (∀ q ∈ u_ws C T N, q ∈ lw_t2) ∧ k < N ∧ Cond.fieldLink own index (T k).1 (T k).2.1 (T k).2.2.1 ∈ lw_t2 ∧ (∀ k, k < N → parseFieldDescriptor (T k).2.2.1 = some (ty0 k)) ∧ (∀ a, a < N → ∀ b, b < N → a ≠ b → (T a).2.1 ≠ (T b).2.1) ∧ (T k).2.2.2 = false ∧ parseFieldDescriptor (T k).2.2.1 = some ty
theorem nosh_obj {q : Nat × List (Option (Option Nat))} : (Sum.inr (Sum.inr q) : Shp) ≠ nosh := fun h => by cases h
theorem nosh_arr {q : Nat} : (Sum.inl q : Shp) ≠ nosh := fun h => by cases h
theorem ent_obj (w : Wd) {sh : Shp} {q : Nat × List (Option (Option Nat))} (h : sh = .inr (.inr q)) (f : Nat → Int32) : ent w sh f = .inr (q.1, fvals w.1 f 0 q.2) := by subst h; rfl
theorem ent_arr (w : Wd) {sh : Shp} {q : Nat} (h : sh = .inl q) (f : Nat → Int32) : ent w sh f = .inl (w.2.1, q, .inl f) := by subst h; rfl
theorem ent_row (w : Wd) {sh : Shp} {q : Nat × Nat} (h : sh = .inr (.inl q)) (f : Nat → Int32) : ent w sh f = .inl (w.2.2.1, q.1, .inr (.inr (.inr (.inr (fun i => if i < q.1 then some (w.1 (q.2 + i)) else none))))) := by subst h; rfl
section MRows
variable {X : Cx} {w : Wd} {own : String} {cc : ByteArray} {nL : Nat} {rm : Room} {pc : Nat} {lv lv' : List (Nat × Value)} {st : List Value} {sh : Nat → Shp} {n : Nat} {μ : Mem}
theorem r_get {index ci k c : Nat} {ks : List (Option (Option Nat))} {kd : Option (Option Nat)} (g : Gd X w own cc nL rm) (d : decode cc pc = .ok (.getfield index, 3)) (hF : FAt own index ci k) (ho : shOut sh n) (hs : sh c = .inr (.inr (ci, ks))) (hk : ks[k]? = some kd) (k1 : V X (pc + 3) lv (fval w.1 (μ c k) kd :: st) (wls w sh n μ)) : V X pc lv (.ref (w.1 c) :: st) (wls w sh n μ) := by
  obtain ⟨p, l, e, R, s, m, args, below, meth, c', Q, nL', cells, slots, D, A⟩ := X
  obtain ⟨g1, g2, g3, g4, g5, g6, g7, g8, g9, g10⟩ := g
  obtain ⟨C, T, N, f1, f2, f3, f4⟩ := hF
  have hc : c < n := sh_lt ho hs nosh_obj
  intro ls H locs hl hP hD hS
  have he := wls_get (w := w) (sh := sh) (μ := μ) hc
  rw [ent_obj w hs] at he
  refine va_get g1 g2 g5 f2 g4 g8 hP c he f1 k f3 (g5 _ f4) (fun _ h => h) (v := fval w.1 (μ c k) kd) ?_ d (k1 ls H locs hl hP hD hS)
  have := fvals_get w.1 (μ c) ks 0 k kd hk
  rw [Nat.zero_add] at this
  exact this
theorem r_geti {index ci k c : Nat} {ks : List (Option (Option Nat))} (g : Gd X w own cc nL rm) (d : decode cc pc = .ok (.getfield index, 3)) (hF : FAt own index ci k) (ho : shOut sh n) (hs : sh c = .inr (.inr (ci, ks))) (hk : ks[k]? = some none) (k1 : V X (pc + 3) lv (.int (μ c k) :: st) (wls w sh n μ)) : V X pc lv (.ref (w.1 c) :: st) (wls w sh n μ) := r_get g d hF ho hs hk k1
theorem r_getr {index ci k c r : Nat} {ks : List (Option (Option Nat))} (g : Gd X w own cc nL rm) (d : decode cc pc = .ok (.getfield index, 3)) (hF : FAt own index ci k) (ho : shOut sh n) (hs : sh c = .inr (.inr (ci, ks))) (hk : ks[k]? = some (some (some r))) (k1 : V X (pc + 3) lv (.ref (w.1 r) :: st) (wls w sh n μ)) : V X pc lv (.ref (w.1 c) :: st) (wls w sh n μ) := r_get g d hF ho hs hk k1
theorem r_getd {index ci k c : Nat} {ks : List (Option (Option Nat))} (g : Gd X w own cc nL rm) (d : decode cc pc = .ok (.getfield index, 3)) (hF : FAt own index ci k) (ho : shOut sh n) (hs : sh c = .inr (.inr (ci, ks))) (hk : ks[k]? = some (some none)) (k1 : V X (pc + 3) lv (.ref (w.1 (μ c k).toNatClampNeg) :: st) (wls w sh n μ)) : V X pc lv (.ref (w.1 c) :: st) (wls w sh n μ) := r_get g d hF ho hs hk k1
theorem r_put {index ci k c : Nat} {ty : FieldType} {x : Int32} {ks : List (Option (Option Nat))} {kd : Option (Option Nat)} (g : Gd X w own cc nL rm) (d : decode cc pc = .ok (.putfield index, 3)) (hF : FPut own index ci k ty) (ho : shOut sh n) (hs : sh c = .inr (.inr (ci, ks))) (hk : ks[k]? = some kd) (hn : narrow ty (fval w.1 x kd) = fval w.1 x kd) (hfit : fits ty (fval w.1 x kd) = true) (k1 : V X (pc + 3) lv st (wls w sh n (mset μ c k x))) : V X pc lv (fval w.1 x kd :: .ref (w.1 c) :: st) (wls w sh n μ) := by
  obtain ⟨p, l, e, R, s, m, args, below, meth, c', Q, nL', cells, slots, D, A⟩ := X
  obtain ⟨g1, g2, g3, g4, g5, g6, g7, g8, g9, g10⟩ := g
  obtain ⟨C, T, N, ty0, f1, f2, f3, f4, f5, f6, f7, f8⟩ := hF
  have hc : c < n := sh_lt ho hs nosh_obj
  intro ls H locs hl hP hD hS
  have he := wls_get (w := w) (sh := sh) (μ := μ) hc
  rw [ent_obj w hs] at he
  have hset : (wls w sh n μ).set c (w.1 c, .inr (ci, (fvals w.1 (μ c) 0 ks).set k (fval w.1 x kd))) = wls w sh n (mset μ c k x) := by
    have h1 := fvals_set w.1 (μ c) x ks 0 k kd hk
    rw [Nat.zero_add] at h1
    rw [h1, ← wls_set hc, ent_obj w hs]
  refine va_put (ty := ty) g1 g2 g5 f2 ty0 f5 f6 g4 g8 hP hD hS c he f1 k f3 (g5 _ f4) (fun _ h => h) f7 f8 hn hfit (by rw [fvals_len]; exact (List.getElem?_eq_some_iff.mp hk).1) d (fun H1 locs1 hP1 hD1 hS1 => ?_)
  rw [hset] at hP1 hD1
  exact k1 ls H1 locs1 hl hP1 hD1 hS1
theorem r_puti {index ci k c : Nat} {x : Int32} {ks : List (Option (Option Nat))} (g : Gd X w own cc nL rm) (d : decode cc pc = .ok (.putfield index, 3)) (hF : FPut own index ci k .int) (ho : shOut sh n) (hs : sh c = .inr (.inr (ci, ks))) (hk : ks[k]? = some none) (k1 : V X (pc + 3) lv st (wls w sh n (mset μ c k x))) : V X pc lv (.int x :: .ref (w.1 c) :: st) (wls w sh n μ) := r_put (kd := none) g d hF ho hs hk rfl rfl k1
theorem r_putz {index ci k c : Nat} {x : Int32} {ks : List (Option (Option Nat))} (g : Gd X w own cc nL rm) (d : decode cc pc = .ok (.putfield index, 3)) (hF : FPut own index ci k .boolean) (ho : shOut sh n) (hs : sh c = .inr (.inr (ci, ks))) (hk : ks[k]? = some none) (hz : x = 0 ∨ x = 1) (k1 : V X (pc + 3) lv st (wls w sh n (mset μ c k x))) : V X pc lv (.int x :: .ref (w.1 c) :: st) (wls w sh n μ) := by
  rcases hz with rfl | rfl
  · exact r_put (kd := none) g d hF ho hs hk rfl rfl k1
  · exact r_put (kd := none) g d hF ho hs hk rfl rfl k1
theorem r_putd {index ci k c : Nat} {x : Int32} {ks : List (Option (Option Nat))} (g : Gd X w own cc nL rm) (d : decode cc pc = .ok (.putfield index, 3)) (hF : FPut own index ci k (.array .int)) (ho : shOut sh n) (hs : sh c = .inr (.inr (ci, ks))) (hk : ks[k]? = some (some none)) (k1 : V X (pc + 3) lv st (wls w sh n (mset μ c k x))) : V X pc lv (.ref (w.1 x.toNatClampNeg) :: .ref (w.1 c) :: st) (wls w sh n μ) := r_put (kd := some none) g d hF ho hs hk rfl rfl k1
theorem r_iaload {c N : Nat} {i : Int32} (g : Gd X w own cc nL rm) (d : decode cc pc = .ok (.iaload, 1)) (ho : shOut sh n) (hs : sh c = .inl N) (hin : vp_in i N) (k1 : V X (pc + 1) lv (.int (μ c i.toNatClampNeg) :: st) (wls w sh n μ)) : V X pc lv (.int i :: .ref (w.1 c) :: st) (wls w sh n μ) := by
  obtain ⟨p, l, e, R, s, m, args, below, meth, c', Q, nL', cells, slots, D, A⟩ := X
  obtain ⟨g1, g2, g3, g4, g5, g6, g7, g8, g9, g10⟩ := g
  have hc : c < n := sh_lt ho hs nosh_arr
  intro ls H locs hl hP hD hS
  have he := wls_get (w := w) (sh := sh) (μ := μ) hc
  rw [ent_arr w hs] at he
  exact va_iald g1 g2 g8 hP c 0 he rfl hin d (k1 ls H locs hl hP hD hS)
theorem r_iastore {c N : Nat} {i x : Int32} (g : Gd X w own cc nL rm) (d : decode cc pc = .ok (.iastore, 1)) (ho : shOut sh n) (hs : sh c = .inl N) (hin : vp_in i N) (k1 : V X (pc + 1) lv st (wls w sh n (mset μ c i.toNatClampNeg x))) : V X pc lv (.int x :: .int i :: .ref (w.1 c) :: st) (wls w sh n μ) := by
  obtain ⟨p, l, e, R, s, m, args, below, meth, c', Q, nL', cells, slots, D, A⟩ := X
  obtain ⟨g1, g2, g3, g4, g5, g6, g7, g8, g9, g10⟩ := g
  have hc : c < n := sh_lt ho hs nosh_arr
  intro ls H locs hl hP hD hS
  have he := wls_get (w := w) (sh := sh) (μ := μ) hc
  rw [ent_arr w hs] at he
  have hset : (wls w sh n μ).set c (w.1 c, .inl (w.2.1, N, .inl (upd (μ c) i.toNatClampNeg x))) = wls w sh n (mset μ c i.toNatClampNeg x) := by
    rw [← wls_set hc, ent_arr w hs]
  refine va_iast g1 g2 g8 hP hD hS c 0 he rfl hin d (fun H1 locs1 hP1 hD1 hS1 => ?_)
  rw [hset] at hP1 hD1
  exact k1 ls H1 locs1 hl hP1 hD1 hS1
theorem r_aaload {c N b : Nat} {i : Int32} (g : Gd X w own cc nL rm) (d : decode cc pc = .ok (.aaload, 1)) (hc : c < n) (hs : sh c = .inr (.inl (N, b))) (hin : vp_in i N) (k1 : V X (pc + 1) lv (.ref (w.1 (b + i.toNatClampNeg)) :: st) (wls w sh n μ)) : V X pc lv (.int i :: .ref (w.1 c) :: st) (wls w sh n μ) := by
  obtain ⟨p, l, e, R, s, m, args, below, meth, c', Q, nL', cells, slots, D, A⟩ := X
  obtain ⟨g1, g2, g3, g4, g5, g6, g7, g8, g9, g10⟩ := g
  intro ls H locs hl hP hD hS
  have he := wls_get (w := w) (sh := sh) (μ := μ) hc
  rw [ent_row w hs] at he
  have hlt : i.toNatClampNeg < N := Nat.not_le.mp fun q => hin (Or.inr q)
  refine W.aald (v := .ref (w.1 (b + i.toNatClampNeg))) (ty := .array .int) g1 g2 (hP c _ he) ((g8.2 1 _ rfl).1 N (fun j => va_rf (if j < N then some (w.1 (b + j)) else none))) rfl (fun q => by cases q) (by show ¬ (i < 0 ∨ (arrV _ _ _).slots.size ≤ _); rw [arrV_size]; exact hin) (by show (arrV _ _ _).slots[_]? = _; rw [arrV_read _ _ hlt]; show some (va_rf (if i.toNatClampNeg < N then some (w.1 (b + i.toNatClampNeg)) else none)) = _; rw [if_pos hlt]; rfl) rfl rfl d (k1 ls H locs hl hP hD hS)
theorem r_copy {index c0 c1 n0 n1 : Nat} {sp dp nn : Int32} (g : Gd X w own cc nL rm) (d : decode cc pc = .ok (.invokestatic index, 3)) (hw : (Cond.methodLink own index arraycopyName ∈ lw_t2 ∧ Cond.native arraycopyName ∈ lw_t2 ∧ Cond.static arraycopyName ∈ lw_t2 ∧ Cond.initialized "java/lang/System" ∈ lw_t2)) (ho : shOut sh n) (hs0 : sh c0 = .inl n0) (hs1 : sh c1 = .inl n1) (hR : Nat.ble 1 rm.frames = true ∧ Nat.ble ((st.map fun v => v.category).sum + 18) rm.locals = true)
    (h : ¬ sp < 0 ∧ ¬ dp < 0 ∧ ¬ nn < 0 ∧ sp.toNatClampNeg + nn.toNatClampNeg ≤ n0 ∧ dp.toNatClampNeg + nn.toNatClampNeg ≤ n1) (k1 : V X (pc + 3) lv st (wls w sh n (mput μ c1 (va_cpy (μ c0) (μ c1) sp.toNatClampNeg dp.toNatClampNeg nn.toNatClampNeg)))) : V X pc lv (.int nn :: .int dp :: .ref (w.1 c1) :: .int sp :: .ref (w.1 c0) :: st) (wls w sh n μ) := by
  obtain ⟨p, l, e, R, s, m, args, below, meth, c', Q, nL', cells, slots, D, A⟩ := X
  obtain ⟨g1, g2, g3, g4, g5, g6, g7, g8, g9, g10⟩ := g
  subst g6
  subst g7
  have hc0 : c0 < n := sh_lt ho hs0 nosh_arr
  have hc1 : c1 < n := sh_lt ho hs1 nosh_arr
  intro ls H locs hl hP hD hS
  have he0 := wls_get (w := w) (sh := sh) (μ := μ) hc0
  rw [ent_arr w hs0] at he0
  have he1 := wls_get (w := w) (sh := sh) (μ := μ) hc1
  rw [ent_arr w hs1] at he1
  have hset : (wls w sh n μ).set c1 (w.1 c1, .inl (w.2.1, n1, .inl (va_cpy (μ c0) (μ c1) sp.toNatClampNeg dp.toNatClampNeg nn.toNatClampNeg))) = wls w sh n (mput μ c1 (va_cpy (μ c0) (μ c1) sp.toNatClampNeg dp.toNatClampNeg nn.toNatClampNeg)) := by
    rw [← wls_set hc1, ent_arr w hs1]
  refine va_copyi (ty := .int) g1 g2 (by rw [g3, hl.1]) g4 (g5 _ hw.1) (g5 _ hw.2.1) (g5 _ hw.2.2.1) (g5 _ hw.2.2.2) g8 hP hD hS c0 c1 0 0 he0 he1 rfl rfl rfl h.1 h.2.1 h.2.2.1 h.2.2.2.1 h.2.2.2.2 (fun _ _ => rfl) (Nat.le_of_ble_eq_true hR.1) (Nat.le_of_ble_eq_true hR.2) d (fun H1 locs1 hP1 hD1 hS1 => ?_)
  rw [hset] at hP1 hD1
  exact k1 ls H1 locs1 hl hP1 hD1 hS1
theorem r_max {index : Nat} {x y : Int32} {ws : va_W} (g : Gd X w own cc nL rm) (d : decode cc pc = .ok (.invokestatic index, 3)) (hw : (Cond.methodLink own index Lib.Math.max.name ∈ lw_t2 ∧ Cond.static Lib.Math.max.name ∈ lw_t2 ∧ Cond.initialized "java/lang/Math" ∈ lw_t2 ∧ Cond.code Lib.Math.max.name Lib.Math.max.code 2 (some .int) ∈ lw_t2)) (hR : Nat.ble 1 rm.frames = true ∧ Nat.ble ((st.map fun v => v.category).sum + 13) rm.locals = true) (k1 : V X (pc + 3) lv (.int (if x < y then y else x) :: st) ws) : V X pc lv (.int y :: .int x :: st) ws := by
  obtain ⟨p, l, e, R, s, m, args, below, meth, c', Q, nL', cells, slots, D, A⟩ := X
  obtain ⟨g1, g2, g3, g4, g5, g6, g7, g8, g9, g10⟩ := g
  subst g6
  subst g7
  intro ls H locs hl hP hD hS
  exact va_mmax g1 g2 (by rw [g3, hl.1]) g4 (g5 _ hw.1) (g5 _ hw.2.1) (g5 _ hw.2.2.1) (g5 _ hw.2.2.2) (Nat.le_of_ble_eq_true hR.1) (Nat.le_of_ble_eq_true hR.2) g9 g10 d (k1 ls H locs hl hP hD hS)
theorem r_min {index : Nat} {x y : Int32} {ws : va_W} (g : Gd X w own cc nL rm) (d : decode cc pc = .ok (.invokestatic index, 3)) (hw : (Cond.methodLink own index Lib.Math.min.name ∈ lw_t2 ∧ Cond.static Lib.Math.min.name ∈ lw_t2 ∧ Cond.initialized "java/lang/Math" ∈ lw_t2 ∧ Cond.code Lib.Math.min.name Lib.Math.min.code 2 (some .int) ∈ lw_t2)) (hR : Nat.ble 1 rm.frames = true ∧ Nat.ble ((st.map fun v => v.category).sum + 13) rm.locals = true) (k1 : V X (pc + 3) lv (.int (if y < x then y else x) :: st) ws) : V X pc lv (.int y :: .int x :: st) ws := by
  obtain ⟨p, l, e, R, s, m, args, below, meth, c', Q, nL', cells, slots, D, A⟩ := X
  obtain ⟨g1, g2, g3, g4, g5, g6, g7, g8, g9, g10⟩ := g
  subst g6
  subst g7
  intro ls H locs hl hP hD hS
  exact va_mmin g1 g2 (by rw [g3, hl.1]) g4 (g5 _ hw.1) (g5 _ hw.2.1) (g5 _ hw.2.2.1) (g5 _ hw.2.2.2) (Nat.le_of_ble_eq_true hR.1) (Nat.le_of_ble_eq_true hR.2) g9 g10 d (k1 ls H locs hl hP hD hS)
theorem r_iret {post : Option Value → Mem → Prop} {v : Int32} (g : Gd X w own cc nL rm) (hR : Rt X w sh n (some .int) post) (d : decode cc pc = .ok (.ireturn, 1)) (hp : post (some (.int v)) μ) : V X pc lv [.int v] (wls w sh n μ) := by
  obtain ⟨p, l, e, R, s, m, args, below, meth, c', Q, nL', cells, slots, D, A⟩ := X
  obtain ⟨g1, g2, g3, g4, g5, g6, g7, g8, g9, g10⟩ := g
  obtain ⟨r1, r2, r3, r4, r5⟩ := hR
  subst r1; subst r4; subst r5
  intro ls H locs hl hP hD hS
  exact W.iret g1 g2 r2 (fun t ht hW => ⟨⟨_, μ, rfl, hp, by rw [ht]; exact hP, va_K.moved hW.alike g8, hD⟩, hS.F ht⟩) hS.2.2 d r3
theorem r_zret {post : Option Value → Mem → Prop} {v : Int32} (g : Gd X w own cc nL rm) (hR : Rt X w sh n (some .boolean) post) (d : decode cc pc = .ok (.ireturn, 1)) (hz : v = 0 ∨ v = 1) (hp : post (some (.int v)) μ) : V X pc lv [.int v] (wls w sh n μ) := by
  obtain ⟨p, l, e, R, s, m, args, below, meth, c', Q, nL', cells, slots, D, A⟩ := X
  obtain ⟨g1, g2, g3, g4, g5, g6, g7, g8, g9, g10⟩ := g
  obtain ⟨r1, r2, r3, r4, r5⟩ := hR
  subst r1; subst r4; subst r5
  intro ls H locs hl hP hD hS
  exact W.zret g1 g2 r2 (by rcases hz with rfl | rfl <;> rfl) (fun t ht hW => ⟨⟨_, μ, rfl, hp, by rw [ht]; exact hP, va_K.moved hW.alike g8, hD⟩, hS.F ht⟩) hS.2.2 d r3
theorem r_lret {post : Option Value → Mem → Prop} {v : Int64} (g : Gd X w own cc nL rm) (hR : Rt X w sh n (some .long) post) (d : decode cc pc = .ok (.lreturn, 1)) (hp : post (some (.long v)) μ) : V X pc lv [.long v] (wls w sh n μ) := by
  obtain ⟨p, l, e, R, s, m, args, below, meth, c', Q, nL', cells, slots, D, A⟩ := X
  obtain ⟨g1, g2, g3, g4, g5, g6, g7, g8, g9, g10⟩ := g
  obtain ⟨r1, r2, r3, r4, r5⟩ := hR
  subst r1; subst r4; subst r5
  intro ls H locs hl hP hD hS
  exact W.lret g1 g2 r2 (fun t ht hW => ⟨⟨_, μ, rfl, hp, by rw [ht]; exact hP, va_K.moved hW.alike g8, hD⟩, hS.F ht⟩) hS.2.2 d r3
theorem r_vret {post : Option Value → Mem → Prop} (g : Gd X w own cc nL rm) (hR : Rt X w sh n none post) (d : decode cc pc = .ok (.return_, 1)) (hp : post none μ) : V X pc lv [] (wls w sh n μ) := by
  obtain ⟨p, l, e, R, s, m, args, below, meth, c', Q, nL', cells, slots, D, A⟩ := X
  obtain ⟨g1, g2, g3, g4, g5, g6, g7, g8, g9, g10⟩ := g
  obtain ⟨r1, r2, r3, r4, r5⟩ := hR
  subst r1; subst r4; subst r5
  intro ls H locs hl hP hD hS
  exact W.vret g1 g2 r2 (fun t ht hW => ⟨⟨_, μ, rfl, hp, by rw [ht]; exact hP, va_K.moved hW.alike g8, hD⟩, hS.F ht⟩) hS.2.2 d r3
/-- a call's words: the entry of own's pool, the method, its number of arguments -/
def KB (own : String) (index : Nat) (y : MethodName) (bytes : ByteArray) (maxL : Nat) (ret : Option FieldType) (na : Nat) : Prop := Cond.methodLink own index y ∈ lw_t2 ∧ Cond.initialized y.cls ∈ lw_t2 ∧ Cond.code y bytes maxL ret ∈ lw_t2 ∧ (y.cls ≠ "java/lang/invoke/MethodHandle" ∧ y.cls ≠ "java/lang/invoke/VarHandle" ∧ (parseMethodDescriptor y.desc).map (fun d => d.parameters.length) = some na)
def KV (y : MethodName) (ci : Nat) : Prop := Cond.instanceMethod y ∈ lw_t2 ∧ Cond.selects y.cls y y ∈ lw_t2 ∧ ∃ (T : u_T) (N : Nat), vwCl[ci]? = some (y.cls, T, N)
theorem t2_code {y : MethodName} {bytes : ByteArray} {maxL : Nat} {ret : Option FieldType} (h : Cond.code y bytes maxL ret ∈ lw_t2) : GoodIn lw_t2 (.code y bytes maxL ret :: lw_t2) := fun q hq => by
  rcases List.mem_cons.mp hq with rfl | hq
  · exact t2_good _ h
  · exact t2_good _ hq
abbrev roomOk (rmc : Room) (maxL : Nat) (rm : Room) : Bool := Nat.ble (rmc.frames + 1) rm.frames && Nat.ble (8 + (maxL + 11) + rmc.locals) rm.locals && Nat.beq rmc.cells 0 && Nat.beq rmc.slots 0
theorem roomOk_use {rmc : Room} {maxL : Nat} {rm : Room} (h : roomOk rmc maxL rm = true) : (rmc.frames + 1 ≤ rm.frames ∧ 8 + (maxL + 11) + rmc.locals ≤ rm.locals) ∧ rmc.cells = 0 ∧ rmc.slots = 0 := by
  simp only [roomOk, Bool.and_eq_true, Nat.ble_eq, Nat.beq_eq] at h
  exact ⟨⟨h.1.1.1, h.1.1.2⟩, h.1.2, h.2⟩
theorem r_callV {l : Launch} {D : va_G} {A : Nat → Prop} {index ci c na maxL : Nat} {ks : List (Option (Option Nat))} {y : MethodName} {bytes : ByteArray} {ret : Option FieldType} {rmc : Room} {As st0 : List Value} {post : Option Value → Mem → Prop} (g : Gd X w own cc nL rm) (hX : atX X l D A) (d : decode cc pc = .ok (.invokevirtual index, 3)) (hM : MetX l D A w sh n y bytes maxL ret rmc (.ref (w.1 c) :: As) μ post) (hb : KB own index y bytes maxL ret na) (hv : KV y ci) (ho : shOut sh n) (hs : sh c = .inr (.inr (ci, ks))) (hn : As.length = na) (hst : st0 = As.reverse ++ .ref (w.1 c) :: st) (hR : roomOk rmc maxL rm = true) (hc8 : Nat.ble ((st.map fun v => v.category).sum) 8 = true)
    (k1 : ∀ (v : Option Value) (μ' : Mem), post v μ' → V X (pc + 3) lv (v.toList ++ st) (wls w sh n μ')) : V X pc lv st0 (wls w sh n μ) := by
  obtain ⟨p, l', e, R, s, m, args, below, meth, c', Q, nL', cells, slots, D', A'⟩ := X
  obtain ⟨g1, g2, g3, g4, g5, g6, g7, g8, g9, g10⟩ := g
  obtain ⟨rfl, rfl, rfl⟩ := hX
  obtain ⟨b1, b2, b3, b4⟩ := hb
  obtain ⟨v1, v2, T, N, v3⟩ := hv
  obtain ⟨q1, q2, q3⟩ := roomOk_use hR
  subst g6
  subst g7
  subst hst
  have hc : c < n := sh_lt ho hs nosh_obj
  intro ls H locs hl hP hD hS
  have he := wls_get (w := w) (sh := sh) (μ := μ) hc
  rw [ent_obj w hs] at he
  have hrun := va_runV (locs := locs) (cells := cells) (slots := slots) (below := below) (e := e) (meth := meth) (g := F0 m pc ls (As.reverse ++ .ref (w.1 c) :: st)) (rest := st) (H := H) (C := y.cls) (b := w.1 c) (As := As) ⟨g1, g2, g3, g4, g5⟩ hM ⟨callB_of na g5 (t2_code b3) rfl q2 q3 (g5 _ b2) (g5 _ b1) b4 q1, g5 _ v1, g5 _ v2⟩
    ⟨PX_blind, va_recv g8 hP v3 he, fun U hU hW => ⟨rfl, by rw [hU]; exact hP, va_K.moved hW.alike g8, hD⟩⟩ rfl hn hl.1 rfl (lv_room (Nat.le_of_ble_eq_true hc8)) d ⟨g9, g10⟩
  intro T0 hT X0
  obtain ⟨v, st₀, t, T', L, h0, X', hL, e1, e2, ⟨⟨v', μ', hv', hp', hP', hK', hD'⟩, hz, hk⟩, hgo⟩ := hrun T0 hT X0
  cases hv'
  have hS' : va_S A' s.heap T'.heap (locs ++ L) := ⟨Nat.le_trans hS.1 (by rw [e1, ← h0]; exact hz), fun q h1 h2 => by rw [e1, hk q (by rw [h0]; exact Nat.lt_of_lt_of_le h1 hS.1) h2, h0]; exact hS.2.1 q h1 h2, fun q hq => by
    rcases List.mem_append.mp hq with h | h
    · exact hS.2.2 q h
    · exact hL q h⟩
  obtain ⟨t2, a1, c1⟩ := k1 v μ' hp' ls T'.heap (locs ++ L) hl (by rw [e1]; exact hP') hD' hS' T' rfl X'
  exact ⟨t2, hgo t2 a1, c1⟩
theorem r_callS {l : Launch} {D : va_G} {A : Nat → Prop} {index na maxL : Nat} {y : MethodName} {bytes : ByteArray} {ret : Option FieldType} {rmc : Room} {As st0 : List Value} {post : Option Value → Mem → Prop} (g : Gd X w own cc nL rm) (hX : atX X l D A) (d : decode cc pc = .ok (.invokestatic index, 3)) (hM : MetX l D A w sh n y bytes maxL ret rmc As μ post) (hb : KB own index y bytes maxL ret na) (hv : Cond.static y ∈ lw_t2) (hn : As.length = na) (hst : st0 = As.reverse ++ st) (hR : roomOk rmc maxL rm = true) (hc8 : Nat.ble ((st.map fun v => v.category).sum) 8 = true)
    (k1 : ∀ (v : Option Value) (μ' : Mem), post v μ' → V X (pc + 3) lv (v.toList ++ st) (wls w sh n μ')) : V X pc lv st0 (wls w sh n μ) := by
  obtain ⟨p, l', e, R, s, m, args, below, meth, c', Q, nL', cells, slots, D', A'⟩ := X
  obtain ⟨g1, g2, g3, g4, g5, g6, g7, g8, g9, g10⟩ := g
  obtain ⟨rfl, rfl, rfl⟩ := hX
  obtain ⟨b1, b2, b3, b4⟩ := hb
  obtain ⟨q1, q2, q3⟩ := roomOk_use hR
  subst g6
  subst g7
  subst hst
  intro ls H locs hl hP hD hS
  have hrun := va_runS (locs := locs) (cells := cells) (slots := slots) (below := below) (e := e) (meth := meth) (g := F0 m pc ls (As.reverse ++ st)) (rest := st) (H := H) (As := As) ⟨g1, g2, g3, g4, g5⟩ hM ⟨callB_of na g5 (t2_code b3) rfl q2 q3 (g5 _ b2) (g5 _ b1) b4 q1, g5 _ hv⟩
    ⟨PX_blind, fun U hU hW => ⟨rfl, by rw [hU]; exact hP, va_K.moved hW.alike g8, hD⟩⟩ rfl hn hl.1 rfl (lv_room (Nat.le_of_ble_eq_true hc8)) d ⟨g9, g10⟩
  intro T0 hT X0
  obtain ⟨v, st₀, t, T', L, h0, X', hL, e1, e2, ⟨⟨v', μ', hv', hp', hP', hK', hD'⟩, hz, hk⟩, hgo⟩ := hrun T0 hT X0
  cases hv'
  have hS' : va_S A' s.heap T'.heap (locs ++ L) := ⟨Nat.le_trans hS.1 (by rw [e1, ← h0]; exact hz), fun q h1 h2 => by rw [e1, hk q (by rw [h0]; exact Nat.lt_of_lt_of_le h1 hS.1) h2, h0]; exact hS.2.1 q h1 h2, fun q hq => by
    rcases List.mem_append.mp hq with h | h
    · exact hS.2.2 q h
    · exact hL q h⟩
  obtain ⟨t2, a1, c1⟩ := k1 v μ' hp' ls T'.heap (locs ++ L) hl (by rw [e1]; exact hP') hD' hS' T' rfl X'
  exact ⟨t2, hgo t2 a1, c1⟩
end MRows
/-- ends: an int, a long, nothing -/
def pI (post : Int32 → Mem → Prop) : Option Value → Mem → Prop := fun v μ => ∃ r, v = some (.int r) ∧ post r μ
def pL (post : Int64 → Mem → Prop) : Option Value → Mem → Prop := fun v μ => ∃ r, v = some (.long r) ∧ post r μ
def pV (post : Mem → Prop) : Option Value → Mem → Prop := fun v μ => v = none ∧ post μ
section ERows
variable {X : Cx} {w : Wd} {own : String} {cc : ByteArray} {nL : Nat} {rm : Room} {pc : Nat} {lv lv' : List (Nat × Value)} {st : List Value} {sh : Nat → Shp} {n : Nat} {μ : Mem}
theorem r_ireti {post : Int32 → Mem → Prop} {v : Int32} (g : Gd X w own cc nL rm) (hR : Rt X w sh n (some .int) (pI post)) (d : decode cc pc = .ok (.ireturn, 1)) (hp : post v μ) : V X pc lv [.int v] (wls w sh n μ) := r_iret g hR d ⟨v, rfl, hp⟩
theorem r_zreti {post : Int32 → Mem → Prop} {v : Int32} (g : Gd X w own cc nL rm) (hR : Rt X w sh n (some .boolean) (pI post)) (d : decode cc pc = .ok (.ireturn, 1)) (hz : v = 0 ∨ v = 1) (hp : post v μ) : V X pc lv [.int v] (wls w sh n μ) := r_zret g hR d hz ⟨v, rfl, hp⟩
theorem r_lretl {post : Int64 → Mem → Prop} {v : Int64} (g : Gd X w own cc nL rm) (hR : Rt X w sh n (some .long) (pL post)) (d : decode cc pc = .ok (.lreturn, 1)) (hp : post v μ) : V X pc lv [.long v] (wls w sh n μ) := r_lret g hR d ⟨v, rfl, hp⟩
theorem r_vretv {post : Mem → Prop} (g : Gd X w own cc nL rm) (hR : Rt X w sh n none (pV post)) (d : decode cc pc = .ok (.return_, 1)) (hp : post μ) : V X pc lv [] (wls w sh n μ) := r_vret g hR d ⟨rfl, hp⟩
theorem r_callVi {l : Launch} {D : va_G} {A : Nat → Prop} {index ci c na maxL : Nat} {ks : List (Option (Option Nat))} {y : MethodName} {bytes : ByteArray} {ret : Option FieldType} {rmc : Room} {As st0 : List Value} {post : Int32 → Mem → Prop} (g : Gd X w own cc nL rm) (hX : atX X l D A) (d : decode cc pc = .ok (.invokevirtual index, 3)) (hM : MetX l D A w sh n y bytes maxL ret rmc (.ref (w.1 c) :: As) μ (pI post)) (hb : KB own index y bytes maxL ret na) (hv : KV y ci) (ho : shOut sh n) (hs : sh c = .inr (.inr (ci, ks))) (hn : As.length = na) (hst : st0 = As.reverse ++ .ref (w.1 c) :: st) (hR : roomOk rmc maxL rm = true) (hc8 : Nat.ble ((st.map fun v => v.category).sum) 8 = true)
    (k1 : ∀ (r : Int32) (μ' : Mem), post r μ' → V X (pc + 3) lv (.int r :: st) (wls w sh n μ')) : V X pc lv st0 (wls w sh n μ) := r_callV g hX d hM hb hv ho hs hn hst hR hc8 (fun v μ' h => by obtain ⟨r, rfl, h⟩ := h; exact k1 r μ' h)
theorem r_callVv {l : Launch} {D : va_G} {A : Nat → Prop} {index ci c na maxL : Nat} {ks : List (Option (Option Nat))} {y : MethodName} {bytes : ByteArray} {ret : Option FieldType} {rmc : Room} {As st0 : List Value} {post : Mem → Prop} (g : Gd X w own cc nL rm) (hX : atX X l D A) (d : decode cc pc = .ok (.invokevirtual index, 3)) (hM : MetX l D A w sh n y bytes maxL ret rmc (.ref (w.1 c) :: As) μ (pV post)) (hb : KB own index y bytes maxL ret na) (hv : KV y ci) (ho : shOut sh n) (hs : sh c = .inr (.inr (ci, ks))) (hn : As.length = na) (hst : st0 = As.reverse ++ .ref (w.1 c) :: st) (hR : roomOk rmc maxL rm = true) (hc8 : Nat.ble ((st.map fun v => v.category).sum) 8 = true)
    (k1 : ∀ (μ' : Mem), post μ' → V X (pc + 3) lv st (wls w sh n μ')) : V X pc lv st0 (wls w sh n μ) := r_callV g hX d hM hb hv ho hs hn hst hR hc8 (fun v μ' h => by obtain ⟨rfl, h⟩ := h; exact k1 μ' h)
theorem r_callVl {l : Launch} {D : va_G} {A : Nat → Prop} {index ci c na maxL : Nat} {ks : List (Option (Option Nat))} {y : MethodName} {bytes : ByteArray} {ret : Option FieldType} {rmc : Room} {As st0 : List Value} {post : Int64 → Mem → Prop} (g : Gd X w own cc nL rm) (hX : atX X l D A) (d : decode cc pc = .ok (.invokevirtual index, 3)) (hM : MetX l D A w sh n y bytes maxL ret rmc (.ref (w.1 c) :: As) μ (pL post)) (hb : KB own index y bytes maxL ret na) (hv : KV y ci) (ho : shOut sh n) (hs : sh c = .inr (.inr (ci, ks))) (hn : As.length = na) (hst : st0 = As.reverse ++ .ref (w.1 c) :: st) (hR : roomOk rmc maxL rm = true) (hc8 : Nat.ble ((st.map fun v => v.category).sum) 8 = true)
    (k1 : ∀ (r : Int64) (μ' : Mem), post r μ' → V X (pc + 3) lv (.long r :: st) (wls w sh n μ')) : V X pc lv st0 (wls w sh n μ) := r_callV g hX d hM hb hv ho hs hn hst hR hc8 (fun v μ' h => by obtain ⟨r, rfl, h⟩ := h; exact k1 r μ' h)
theorem r_callSi {l : Launch} {D : va_G} {A : Nat → Prop} {index na maxL : Nat} {y : MethodName} {bytes : ByteArray} {ret : Option FieldType} {rmc : Room} {As st0 : List Value} {post : Int32 → Mem → Prop} (g : Gd X w own cc nL rm) (hX : atX X l D A) (d : decode cc pc = .ok (.invokestatic index, 3)) (hM : MetX l D A w sh n y bytes maxL ret rmc As μ (pI post)) (hb : KB own index y bytes maxL ret na) (hv : Cond.static y ∈ lw_t2) (hn : As.length = na) (hst : st0 = As.reverse ++ st) (hR : roomOk rmc maxL rm = true) (hc8 : Nat.ble ((st.map fun v => v.category).sum) 8 = true)
    (k1 : ∀ (r : Int32) (μ' : Mem), post r μ' → V X (pc + 3) lv (.int r :: st) (wls w sh n μ')) : V X pc lv st0 (wls w sh n μ) := r_callS g hX d hM hb hv hn hst hR hc8 (fun v μ' h => by obtain ⟨r, rfl, h⟩ := h; exact k1 r μ' h)
end ERows
