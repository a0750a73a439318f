/-! ===== a walk of one method over a world of fixed cells: judgement V, a row an instruction ===== -/
/-- memory: cell number, slot number -/
abbrev Mem : Type := Nat → Nat → Int32
def mput (μ : Mem) (c : Nat) (f : Nat → Int32) : Mem := fun k => if k = c then f else μ k
abbrev mset (μ : Mem) (c j : Nat) (v : Int32) : Mem := mput μ c (upd (μ c) j v)
theorem mput_same (μ : Mem) (c : Nat) (f : Nat → Int32) : mput μ c f c = f := if_pos rfl
theorem mput_ne {μ : Mem} {c k : Nat} {f : Nat → Int32} (h : k ≠ c) : mput μ c f k = μ k := if_neg h
/-- a cell: an int array of n; n references to the cells b, b + 1 ..; an object of class ci, its fields: none an int, some none a reference whose cell's number is held as an int, some (some r) the reference to cell r -/
abbrev Shp : Type := Nat ⊕ (Nat × Nat) ⊕ (Nat × List (Option (Option Nat)))
/-- addresses, the class of int[], of int[][], the cells beside -/
abbrev Wd : Type := (Nat → Nat) × ClassId × ClassId × va_W
def fval (a : Nat → Nat) (v : Int32) (k : Option (Option Nat)) : Value := match k with
  | none => .int v
  | some none => .ref (a v.toNatClampNeg)
  | some (some r) => .ref (a r)
def fvals (a : Nat → Nat) (f : Nat → Int32) : Nat → List (Option (Option Nat)) → List Value
  | _, [] => []
  | j, k :: ks => fval a (f j) k :: fvals a f (j + 1) ks
theorem fvals_get (a : Nat → Nat) (f : Nat → Int32) : ∀ (ks : List (Option (Option Nat))) (j i : Nat) (k : Option (Option Nat)), ks[i]? = some k → (fvals a f j ks)[i]? = some (fval a (f (j + i)) k)
  | [], _, i, _, h => by simp at h
  | k0 :: ks, j, 0, k, h => by
    have e : k0 = k := by simpa using h
    subst e
    rfl
  | k0 :: ks, j, i + 1, k, h => by
    have h2 : ks[i]? = some k := by simpa using h
    have := fvals_get a f ks (j + 1) i k h2
    rw [show j + 1 + i = j + (i + 1) by omega] at this
    simpa [fvals] using this
theorem fvals_cong (a : Nat → Nat) (f g : Nat → Int32) : ∀ (ks : List (Option (Option Nat))) (j : Nat), (∀ i, j ≤ i → f i = g i) → fvals a f j ks = fvals a g j ks
  | [], _, _ => rfl
  | k0 :: ks, j, h => by
    show fval a (f j) k0 :: fvals a f (j + 1) ks = fval a (g j) k0 :: fvals a g (j + 1) ks
    rw [h j (Nat.le_refl j), fvals_cong a f g ks (j + 1) (fun i hi => h i (by omega))]
theorem fvals_set (a : Nat → Nat) (f : Nat → Int32) (x : Int32) : ∀ (ks : List (Option (Option Nat))) (j i : Nat) (k : Option (Option Nat)), ks[i]? = some k → (fvals a f j ks).set i (fval a x k) = fvals a (upd f (j + i) x) j ks
  | [], _, i, _, h => by simp at h
  | k0 :: ks, j, 0, k, h => by
    have e : k0 = k := by simpa using h
    subst e
    show fval a x k0 :: fvals a f (j + 1) ks = fval a (upd f (j + 0) x j) k0 :: fvals a (upd f (j + 0) x) (j + 1) ks
    rw [show upd f (j + 0) x j = x from by simp [upd], fvals_cong a f (upd f (j + 0) x) ks (j + 1) (fun q hq => by simp [upd]; omega)]
  | k0 :: ks, j, i + 1, k, h => by
    have h2 : ks[i]? = some k := by simpa using h
    have h3 := fvals_set a f x ks (j + 1) i k h2
    show fval a (f j) k0 :: (fvals a f (j + 1) ks).set i (fval a x k) = fval a (upd f (j + (i + 1)) x j) k0 :: fvals a (upd f (j + (i + 1)) x) (j + 1) ks
    rw [h3, show upd f (j + (i + 1)) x j = f j from by simp [upd], show j + 1 + i = j + (i + 1) by omega]
theorem fvals_len (a : Nat → Nat) (f : Nat → Int32) : ∀ (ks : List (Option (Option Nat))) (j : Nat), (fvals a f j ks).length = ks.length
  | [], _ => rfl
  | k0 :: ks, j => by
    show (fvals a f (j + 1) ks).length + 1 = ks.length + 1
    rw [fvals_len a f ks (j + 1)]
def ent (w : Wd) (sh : Shp) (f : Nat → Int32) : va_E := match sh with
  | .inl n => .inl (w.2.1, n, .inl f)
  | .inr (.inl q) => .inl (w.2.2.1, q.1, .inr (.inr (.inr (.inr (fun i => if i < q.1 then some (w.1 (q.2 + i)) else none)))))
  | .inr (.inr q) => .inr (q.1, fvals w.1 f 0 q.2)
def wl (w : Wd) (sh : Nat → Shp) (n : Nat) (μ : Mem) : va_W := (List.range n).map (fun k => (w.1 k, ent w (sh k) (μ k)))
def wls (w : Wd) (sh : Nat → Shp) (n : Nat) (μ : Mem) : va_W := wl w sh n μ ++ w.2.2.2
abbrev nosh : Shp := .inr (.inl (0, 0))
def shOut (sh : Nat → Shp) (n : Nat) : Prop := ∀ k, n ≤ k → sh k = nosh
theorem wl_len (w : Wd) (sh : Nat → Shp) (n : Nat) (μ : Mem) : (wl w sh n μ).length = n := by simp [wl]
theorem wls_get {w : Wd} {sh : Nat → Shp} {n : Nat} {μ : Mem} {c : Nat} (h : c < n) : (wls w sh n μ)[c]? = some (w.1 c, ent w (sh c) (μ c)) := by
  unfold wls
  rw [List.getElem?_append_left (by rw [wl_len]; exact h)]
  simp [wl, h]
theorem wls_set {w : Wd} {sh : Nat → Shp} {n : Nat} {μ : Mem} {c : Nat} (h : c < n) (f : Nat → Int32) : (wls w sh n μ).set c (w.1 c, ent w (sh c) f) = wls w sh n (mput μ c f) := by
  unfold wls
  rw [List.set_append_left _ _ (by rw [wl_len]; exact h)]
  congr 1
  apply List.ext_getElem?
  intro i
  by_cases hi : i = c
  · subst hi
    rw [List.getElem?_set_self (by rw [wl_len]; exact h)]
    simp [wl, h, mput]
  · rw [List.getElem?_set_ne (fun q => hi q.symm)]
    simp only [wl, List.getElem?_map]
    by_cases hin : i < n
    · rw [List.getElem?_range hin]
      simp [mput, hi]
    · rw [List.getElem?_eq_none (by simp; omega)]
      rfl
theorem sh_lt {sh : Nat → Shp} {n c : Nat} {q : Shp} (ho : shOut sh n) (h : sh c = q) (hq : q ≠ nosh) : c < n := by
  rcases Nat.lt_or_ge c n with h1 | h1
  · exact h1
  · exact absurd ((ho c h1).symm.trans h).symm hq
/-- the machine at a method: program, launch, env, room, start, method, args, below, meth, code, what it comes to, number of locals, cells and slots made so far, class numbers, the cells that may change -/
abbrev Cx : Type := Program × Launch × Env × Room × State × MethodId × Array Value × List Frame × Method × Code × (State → Prop) × Nat × Nat × Nat × va_G × (Nat → Prop)
def lw_t2 : List Cond := lw_tbl.filter goodWord
theorem t2_in {w : Cond} (h : w ∈ lw_tbl) (hg : goodWord w = true) : w ∈ lw_t2 := List.mem_filter.mpr ⟨h, hg⟩
theorem t2_good : GoodIn lw_t2 lw_t2 := fun w hw => ⟨hw, good_of_word (List.mem_filter.mp hw).2⟩
abbrev wtys (w : Wd) : List (ClassId × FieldType) := [(w.2.1, .int), (w.2.2.1, .array .int)]
def Gd (X : Cx) (w : Wd) (own : String) (cc : ByteArray) (nL : Nat) (rm : Room) : Prop := match X with
  | (p, _, _, R, s, m, args, _, _, c, _, nL', cells, slots, D, _) => p.tables.exec = Jvm.exec ∧ c.code = cc ∧ c.maxLocals = nL ∧ s.vm.findClass own = some m.cls ∧ (∀ q ∈ lw_t2, q.before args s = true) ∧ R = rm ∧ nL' = nL ∧ va_K D vwCl (wtys w) s ∧ cells ≤ rm.cells ∧ slots ≤ rm.slots
def V (X : Cx) (pc : Nat) (lv : List (Nat × Value)) (st : List Value) (ws : va_W) : Prop := match X with
  | (p, l, e, R, s, m, args, below, meth, c, Q, nL, cells, slots, D, A) => ∀ (ls : Array Slot) (H : Heap) (locs : List Loc), lv_has ls nL lv → va_P D vwCl ws H → va_D A ws → va_S A s.heap H locs → W p l e R s m args below meth c H locs cells slots Q (F0 m pc ls st)
def QX (D : va_G) (A : Nat → Prop) (w : Wd) (sh : Nat → Shp) (n : Nat) (post : Option Value → Mem → Prop) : Array Value → State → Outcome → State → Prop := fun _ st oc t =>
  (∃ (v : Option Value) (μ : Mem), oc = .returned v ∧ post v μ ∧ va_P D vwCl (wls w sh n μ) t.heap ∧ va_K D vwCl (wtys w) t ∧ va_D A (wls w sh n μ)) ∧ va_F A st t
def PX (D : va_G) (A : Nat → Prop) (w : Wd) (sh : Nat → Shp) (n : Nat) (μ : Mem) (av : List Value) : Array Value → State → Prop :=
  va_Pc av (fun U => va_P D vwCl (wls w sh n μ) U.heap ∧ va_K D vwCl (wtys w) U ∧ va_D A (wls w sh n μ))
/-- a method's contract: from every state that holds the world at μ, with these arguments, it returns, and 'post answer memory' -/
def MetX (l : Launch) (D : va_G) (A : Nat → Prop) (w : Wd) (sh : Nat → Shp) (n : Nat) (y : MethodName) (bytes : ByteArray) (maxL : Nat) (ret : Option FieldType) (rm : Room) (av : List Value) (μ : Mem) (post : Option Value → Mem → Prop) : Prop :=
  Met l y (.code y bytes maxL ret :: lw_t2) rm (PX D A w sh n μ av) (QX D A w sh n post) 0 0 A
theorem PX_blind {D : va_G} {A : Nat → Prop} {w : Wd} {sh : Nat → Shp} {n : Nat} {μ : Mem} {av : List Value} : FrameBlind (PX D A w sh n μ av) := by
  intro a U g mk h
  obtain ⟨h1, h2, h3, h4⟩ := h
  exact ⟨h1, h2, va_K.moved (u := U) (U := U.calling g mk a) (Vm.Alike.refl U.vm) h3, h4⟩
/-- the end: what the method comes to, its return type -/
def Rt (X : Cx) (w : Wd) (sh : Nat → Shp) (n : Nat) (ret : Option FieldType) (post : Option Value → Mem → Prop) : Prop := match X with
  | (_, _, _, _, s, _, args, below, meth, _, Q, _, cells, slots, D, A) => Q = MQ below (QX D A w sh n post) args s 0 0 A ∧ meth.sig.returnType = ret ∧ meth.locks = false ∧ cells = 0 ∧ slots = 0
def atX (X : Cx) (l : Launch) (D : va_G) (A : Nat → Prop) : Prop := match X with
  | (_, l', _, _, _, _, _, _, _, _, _, _, _, _, D', A') => l' = l ∧ D' = D ∧ A' = A
theorem metX_of {l : Launch} {D : va_G} {A : Nat → Prop} {w : Wd} {sh : Nat → Shp} {n : Nat} {y : MethodName} {bytes : ByteArray} {maxL : Nat} {ret : Option FieldType} {rm : Room} {av : List Value} {μ : Mem} {post : Option Value → Mem → Prop} (hy : plainName y.cls = true) {lv : List (Nat × Value)} (hav : Nat.ble (lg_sl av).length maxL = true) (hlv : lv_args 0 av = lv)
    (body : ∀ X : Cx, atX X l D A → Gd X w y.cls bytes maxL rm → Rt X w sh n ret post → V X 0 lv [] (wls w sh n μ)) : MetX l D A w sh n y bytes maxL ret rm av μ post := by
  refine Met.ofW (cc := bytes) (maxL := maxL) (ret := ret) hy rfl ?_
  intro p e s m args below meth c s₁ B hml hv
  obtain ⟨rfl, hP, hK, hD⟩ := hv
  have hts := atoms_spec (ws := .code y bytes maxL ret :: lw_t2) B.pre
  have hown : s.vm.findClass y.cls = some m.cls := findClass_of_methodNamed B.named
  have hl := lv_entry av (n := maxL) (Nat.le_of_ble_eq_true hav)
  rw [lg_entry_eq]
  rw [hlv] at hl
  exact body (p, l, e, (headSpec (.code y bytes maxL ret :: lw_t2) rm).room, s, m, av.toArray, below, meth, c, MQ below (QX D A w sh n post) av.toArray s 0 0 A, maxL, 0, 0, D, A) ⟨rfl, rfl, rfl⟩ ⟨B.exec, B.bytes, hml, hown, fun q hq => hts q (List.mem_cons_of_mem _ hq), rfl, rfl, hK, Nat.zero_le _, Nat.zero_le _⟩ ⟨rfl, B.returns, B.notSynchronized, rfl, rfl⟩ _ _ _ hl hP hD va_S.rf
section Rows
variable {X : Cx} {w : Wd} {own : String} {cc : ByteArray} {nL : Nat} {rm : Room} {pc : Nat} {lv lv' : List (Nat × Value)} {st : List Value} {ws : va_W}
theorem r_sub (ks : List Nat) (hl : lv_pick lv ks = lv') (k : V X pc lv' st ws) : V X pc lv st ws := by
  obtain ⟨p, l, e, R, s, m, args, below, meth, c, Q, nL', cells, slots, D, A⟩ := X
  intro ls H locs hl2 hP hD hS
  exact k ls H locs (lv_sub hl2 ks hl) hP hD hS
theorem r_swap {wa wb : va_W} (k : V X pc lv st (wb ++ wa)) : V X pc lv st (wa ++ wb) := by
  obtain ⟨p, l, e, R, s, m, args, below, meth, c, Q, nL', cells, slots, D, A⟩ := X
  intro ls H locs hl2 hP hD hS
  exact k ls H locs hl2 (va_P.swap (a := []) hP) (va_D.swap (a := []) hD) hS
theorem r_aload_n {k : Fin 4} {x : Nat} (j : Nat) (g : Gd X w own cc nL rm) (d : decode cc pc = .ok (.aload_n k, 1)) (hj : lv[j]? = some ((k : Nat), .ref x)) (k1 : V X (pc + 1) lv (.ref x :: st) ws) : V X (pc) lv (st) ws := by
  obtain ⟨p, l, e, R, s, m, args, below, meth, c, Q, nL', cells, slots, D, A⟩ := X
  obtain ⟨g1, g2, g3, g4, g5, g6, g7, g8, g9, g10⟩ := g
  subst g6
  subst g7
  intro ls H locs hl hP hD hS
  exact lv_aload_n g1 g2 d rfl (lv_at hl j hj) (k1 ls H locs hl hP hD hS)
theorem r_aload {i : Nat} {x : Nat} (j : Nat) (g : Gd X w own cc nL rm) (d : decode cc pc = .ok (.aload i, 2)) (hj : lv[j]? = some (i, .ref x)) (k1 : V X (pc + 2) lv (.ref x :: st) ws) : V X (pc) lv (st) ws := by
  obtain ⟨p, l, e, R, s, m, args, below, meth, c, Q, nL', cells, slots, D, A⟩ := X
  obtain ⟨g1, g2, g3, g4, g5, g6, g7, g8, g9, g10⟩ := g
  subst g6
  subst g7
  intro ls H locs hl hP hD hS
  exact lv_aload g1 g2 d (lv_at hl j hj) (k1 ls H locs hl hP hD hS)
theorem r_iload_n {k : Fin 4} {x : Int32} (j : Nat) (g : Gd X w own cc nL rm) (d : decode cc pc = .ok (.iload_n k, 1)) (hj : lv[j]? = some ((k : Nat), .int x)) (k1 : V X (pc + 1) lv (.int x :: st) ws) : V X (pc) lv (st) ws := by
  obtain ⟨p, l, e, R, s, m, args, below, meth, c, Q, nL', cells, slots, D, A⟩ := X
  obtain ⟨g1, g2, g3, g4, g5, g6, g7, g8, g9, g10⟩ := g
  subst g6
  subst g7
  intro ls H locs hl hP hD hS
  exact lv_iload_n g1 g2 d rfl (lv_at hl j hj) (k1 ls H locs hl hP hD hS)
theorem r_iload {i : Nat} {x : Int32} (j : Nat) (g : Gd X w own cc nL rm) (d : decode cc pc = .ok (.iload i, 2)) (hj : lv[j]? = some (i, .int x)) (k1 : V X (pc + 2) lv (.int x :: st) ws) : V X (pc) lv (st) ws := by
  obtain ⟨p, l, e, R, s, m, args, below, meth, c, Q, nL', cells, slots, D, A⟩ := X
  obtain ⟨g1, g2, g3, g4, g5, g6, g7, g8, g9, g10⟩ := g
  subst g6
  subst g7
  intro ls H locs hl hP hD hS
  exact lv_iload g1 g2 d (lv_at hl j hj) (k1 ls H locs hl hP hD hS)
theorem r_istore_n {k : Fin 4} {x : Int32} (g : Gd X w own cc nL rm) (d : decode cc pc = .ok (.istore_n k, 1)) (hn : Nat.ble ((k : Nat) + 1) nL = true) (hf : ((k : Nat), Value.int x) :: lv.filter (fun q => !(q.1 == (k : Nat)) && !(q.1 + 1 == (k : Nat) && q.2.category == 2)) = lv') (k1 : V X (pc + 1) lv' (st) ws) : V X (pc) lv (.int x :: st) ws := by
  obtain ⟨p, l, e, R, s, m, args, below, meth, c, Q, nL', cells, slots, D, A⟩ := X
  obtain ⟨g1, g2, g3, g4, g5, g6, g7, g8, g9, g10⟩ := g
  subst g6
  subst g7
  intro ls H locs hl hP hD hS
  exact lv_istore_n g1 g2 d rfl hl (Nat.le_of_ble_eq_true hn) hf (fun ls' hl' => k1 ls' H locs hl' hP hD hS)
theorem r_istore {i : Nat} {x : Int32} (g : Gd X w own cc nL rm) (d : decode cc pc = .ok (.istore i, 2)) (hn : Nat.ble (i + 1) nL = true) (hf : (i, Value.int x) :: lv.filter (fun q => !(q.1 == i) && !(q.1 + 1 == i && q.2.category == 2)) = lv') (k1 : V X (pc + 2) lv' (st) ws) : V X (pc) lv (.int x :: st) ws := by
  obtain ⟨p, l, e, R, s, m, args, below, meth, c, Q, nL', cells, slots, D, A⟩ := X
  obtain ⟨g1, g2, g3, g4, g5, g6, g7, g8, g9, g10⟩ := g
  subst g6
  subst g7
  intro ls H locs hl hP hD hS
  exact lv_istore g1 g2 d hl (Nat.le_of_ble_eq_true hn) hf (fun ls' hl' => k1 ls' H locs hl' hP hD hS)
theorem r_astore_n {k : Fin 4} {x : Nat} (g : Gd X w own cc nL rm) (d : decode cc pc = .ok (.astore_n k, 1)) (hn : Nat.ble ((k : Nat) + 1) nL = true) (hf : ((k : Nat), Value.ref x) :: lv.filter (fun q => !(q.1 == (k : Nat)) && !(q.1 + 1 == (k : Nat) && q.2.category == 2)) = lv') (k1 : V X (pc + 1) lv' (st) ws) : V X (pc) lv (.ref x :: st) ws := by
  obtain ⟨p, l, e, R, s, m, args, below, meth, c, Q, nL', cells, slots, D, A⟩ := X
  obtain ⟨g1, g2, g3, g4, g5, g6, g7, g8, g9, g10⟩ := g
  subst g6
  subst g7
  intro ls H locs hl hP hD hS
  exact lv_astore_n g1 g2 d rfl hl (Nat.le_of_ble_eq_true hn) hf (fun ls' hl' => k1 ls' H locs hl' hP hD hS)
theorem r_astore {i : Nat} {x : Nat} (g : Gd X w own cc nL rm) (d : decode cc pc = .ok (.astore i, 2)) (hn : Nat.ble (i + 1) nL = true) (hf : (i, Value.ref x) :: lv.filter (fun q => !(q.1 == i) && !(q.1 + 1 == i && q.2.category == 2)) = lv') (k1 : V X (pc + 2) lv' (st) ws) : V X (pc) lv (.ref x :: st) ws := by
  obtain ⟨p, l, e, R, s, m, args, below, meth, c, Q, nL', cells, slots, D, A⟩ := X
  obtain ⟨g1, g2, g3, g4, g5, g6, g7, g8, g9, g10⟩ := g
  subst g6
  subst g7
  intro ls H locs hl hP hD hS
  exact lv_astore g1 g2 d hl (Nat.le_of_ble_eq_true hn) hf (fun ls' hl' => k1 ls' H locs hl' hP hD hS)
theorem r_iinc {i : Nat} {n : Int} {x v : Int32} (j : Nat) (g : Gd X w own cc nL rm) (d : decode cc pc = .ok (.iinc i n, 3)) (hj : lv[j]? = some (i, .int x)) (hv : Int32.ofInt n = v) (hn : Nat.ble (i + 1) nL = true) (hf : (i, Value.int (x + v)) :: lv.filter (fun q => !(q.1 == i) && !(q.1 + 1 == i && q.2.category == 2)) = lv') (k1 : V X (pc + 3) lv' (st) ws) : V X (pc) lv (st) ws := by
  obtain ⟨p, l, e, R, s, m, args, below, meth, c, Q, nL', cells, slots, D, A⟩ := X
  obtain ⟨g1, g2, g3, g4, g5, g6, g7, g8, g9, g10⟩ := g
  subst g6
  subst g7
  intro ls H locs hl hP hD hS
  exact lv_iinc g1 g2 d hl hj (by rw [hv]) (Nat.le_of_ble_eq_true hn) hf (fun ls' hl' => k1 ls' H locs hl' hP hD hS)
theorem r_iconst {n : Int} {v : Int32} (g : Gd X w own cc nL rm) (d : decode cc pc = .ok (.iconst n, 1)) (hv : Int32.ofInt n = v) (k1 : V X (pc + 1) lv (.int v :: st) ws) : V X (pc) lv (st) ws := by
  obtain ⟨p, l, e, R, s, m, args, below, meth, c, Q, nL', cells, slots, D, A⟩ := X
  obtain ⟨g1, g2, g3, g4, g5, g6, g7, g8, g9, g10⟩ := g
  subst g6
  subst g7
  intro ls H locs hl hP hD hS
  exact lv_iconst g1 g2 d hv (k1 ls H locs hl hP hD hS)
theorem r_bipush {n : Int} {v : Int32} (g : Gd X w own cc nL rm) (d : decode cc pc = .ok (.bipush n, 2)) (hv : (Int8.ofInt n).toInt32 = v) (k1 : V X (pc + 2) lv (.int v :: st) ws) : V X (pc) lv (st) ws := by
  obtain ⟨p, l, e, R, s, m, args, below, meth, c, Q, nL', cells, slots, D, A⟩ := X
  obtain ⟨g1, g2, g3, g4, g5, g6, g7, g8, g9, g10⟩ := g
  subst g6
  subst g7
  intro ls H locs hl hP hD hS
  exact lv_bipush g1 g2 d hv (k1 ls H locs hl hP hD hS)
theorem r_sipush {n : Int} {v : Int32} (g : Gd X w own cc nL rm) (d : decode cc pc = .ok (.sipush n, 3)) (hv : (Int16.ofInt n).toInt32 = v) (k1 : V X (pc + 3) lv (.int v :: st) ws) : V X (pc) lv (st) ws := by
  obtain ⟨p, l, e, R, s, m, args, below, meth, c, Q, nL', cells, slots, D, A⟩ := X
  obtain ⟨g1, g2, g3, g4, g5, g6, g7, g8, g9, g10⟩ := g
  subst g6
  subst g7
  intro ls H locs hl hP hD hS
  exact lv_sipush g1 g2 d hv (k1 ls H locs hl hP hD hS)
theorem r_ldc {i : Nat} {v : Int32} (g : Gd X w own cc nL rm) (d : decode cc pc = .ok (.ldc i, 2)) (hc : Cond.constant own i v ∈ lw_t2) (k1 : V X (pc + 2) lv (.int v :: st) ws) : V X (pc) lv (st) ws := by
  obtain ⟨p, l, e, R, s, m, args, below, meth, c, Q, nL', cells, slots, D, A⟩ := X
  obtain ⟨g1, g2, g3, g4, g5, g6, g7, g8, g9, g10⟩ := g
  subst g6
  subst g7
  intro ls H locs hl hP hD hS
  exact lv_ldc g1 g2 g4 (g5 _ hc) d (k1 ls H locs hl hP hD hS)
theorem r_ldc_w {i : Nat} {v : Int32} (g : Gd X w own cc nL rm) (d : decode cc pc = .ok (.ldc_w i, 3)) (hc : Cond.constant own i v ∈ lw_t2) (k1 : V X (pc + 3) lv (.int v :: st) ws) : V X (pc) lv (st) ws := by
  obtain ⟨p, l, e, R, s, m, args, below, meth, c, Q, nL', cells, slots, D, A⟩ := X
  obtain ⟨g1, g2, g3, g4, g5, g6, g7, g8, g9, g10⟩ := g
  subst g6
  subst g7
  intro ls H locs hl hP hD hS
  exact lv_ldcw g1 g2 g4 (g5 _ hc) d (k1 ls H locs hl hP hD hS)
theorem r_ldc2_w {i : Nat} {v : Int64} (g : Gd X w own cc nL rm) (d : decode cc pc = .ok (.ldc2_w i, 3)) (hc : Cond.constantLong own i v ∈ lw_t2) (k1 : V X (pc + 3) lv (.long v :: st) ws) : V X (pc) lv (st) ws := by
  obtain ⟨p, l, e, R, s, m, args, below, meth, c, Q, nL', cells, slots, D, A⟩ := X
  obtain ⟨g1, g2, g3, g4, g5, g6, g7, g8, g9, g10⟩ := g
  subst g6
  subst g7
  intro ls H locs hl hP hD hS
  exact lv_ldc2 g1 g2 g4 (g5 _ hc) d (k1 ls H locs hl hP hD hS)
theorem r_iadd {x y : Int32} (g : Gd X w own cc nL rm) (d : decode cc pc = .ok (.iadd, 1))  (k1 : V X (pc + 1) lv (.int (x + y) :: st) ws) : V X (pc) lv (.int y :: .int x :: st) ws := by
  obtain ⟨p, l, e, R, s, m, args, below, meth, c, Q, nL', cells, slots, D, A⟩ := X
  obtain ⟨g1, g2, g3, g4, g5, g6, g7, g8, g9, g10⟩ := g
  subst g6
  subst g7
  intro ls H locs hl hP hD hS
  exact lv_iadd g1 g2 d (k1 ls H locs hl hP hD hS)
theorem r_isub {x y : Int32} (g : Gd X w own cc nL rm) (d : decode cc pc = .ok (.isub, 1))  (k1 : V X (pc + 1) lv (.int (x - y) :: st) ws) : V X (pc) lv (.int y :: .int x :: st) ws := by
  obtain ⟨p, l, e, R, s, m, args, below, meth, c, Q, nL', cells, slots, D, A⟩ := X
  obtain ⟨g1, g2, g3, g4, g5, g6, g7, g8, g9, g10⟩ := g
  subst g6
  subst g7
  intro ls H locs hl hP hD hS
  exact lv_isub g1 g2 d (k1 ls H locs hl hP hD hS)
theorem r_imul {x y : Int32} (g : Gd X w own cc nL rm) (d : decode cc pc = .ok (.imul, 1))  (k1 : V X (pc + 1) lv (.int (x * y) :: st) ws) : V X (pc) lv (.int y :: .int x :: st) ws := by
  obtain ⟨p, l, e, R, s, m, args, below, meth, c, Q, nL', cells, slots, D, A⟩ := X
  obtain ⟨g1, g2, g3, g4, g5, g6, g7, g8, g9, g10⟩ := g
  subst g6
  subst g7
  intro ls H locs hl hP hD hS
  exact lv_imul g1 g2 d (k1 ls H locs hl hP hD hS)
theorem r_iand {x y : Int32} (g : Gd X w own cc nL rm) (d : decode cc pc = .ok (.iand, 1))  (k1 : V X (pc + 1) lv (.int (x &&& y) :: st) ws) : V X (pc) lv (.int y :: .int x :: st) ws := by
  obtain ⟨p, l, e, R, s, m, args, below, meth, c, Q, nL', cells, slots, D, A⟩ := X
  obtain ⟨g1, g2, g3, g4, g5, g6, g7, g8, g9, g10⟩ := g
  subst g6
  subst g7
  intro ls H locs hl hP hD hS
  exact lv_iand g1 g2 d (k1 ls H locs hl hP hD hS)
theorem r_ior {x y : Int32} (g : Gd X w own cc nL rm) (d : decode cc pc = .ok (.ior, 1))  (k1 : V X (pc + 1) lv (.int (x ||| y) :: st) ws) : V X (pc) lv (.int y :: .int x :: st) ws := by
  obtain ⟨p, l, e, R, s, m, args, below, meth, c, Q, nL', cells, slots, D, A⟩ := X
  obtain ⟨g1, g2, g3, g4, g5, g6, g7, g8, g9, g10⟩ := g
  subst g6
  subst g7
  intro ls H locs hl hP hD hS
  exact lv_ior g1 g2 d (k1 ls H locs hl hP hD hS)
theorem r_ixor {x y : Int32} (g : Gd X w own cc nL rm) (d : decode cc pc = .ok (.ixor, 1))  (k1 : V X (pc + 1) lv (.int (x ^^^ y) :: st) ws) : V X (pc) lv (.int y :: .int x :: st) ws := by
  obtain ⟨p, l, e, R, s, m, args, below, meth, c, Q, nL', cells, slots, D, A⟩ := X
  obtain ⟨g1, g2, g3, g4, g5, g6, g7, g8, g9, g10⟩ := g
  subst g6
  subst g7
  intro ls H locs hl hP hD hS
  exact lv_ixor g1 g2 d (k1 ls H locs hl hP hD hS)
theorem r_ishl {x y : Int32} (g : Gd X w own cc nL rm) (d : decode cc pc = .ok (.ishl, 1))  (k1 : V X (pc + 1) lv (.int (x <<< (y &&& 31)) :: st) ws) : V X (pc) lv (.int y :: .int x :: st) ws := by
  obtain ⟨p, l, e, R, s, m, args, below, meth, c, Q, nL', cells, slots, D, A⟩ := X
  obtain ⟨g1, g2, g3, g4, g5, g6, g7, g8, g9, g10⟩ := g
  subst g6
  subst g7
  intro ls H locs hl hP hD hS
  exact lv_ishl g1 g2 d (k1 ls H locs hl hP hD hS)
theorem r_ishr {x y : Int32} (g : Gd X w own cc nL rm) (d : decode cc pc = .ok (.ishr, 1))  (k1 : V X (pc + 1) lv (.int (x >>> (y &&& 31)) :: st) ws) : V X (pc) lv (.int y :: .int x :: st) ws := by
  obtain ⟨p, l, e, R, s, m, args, below, meth, c, Q, nL', cells, slots, D, A⟩ := X
  obtain ⟨g1, g2, g3, g4, g5, g6, g7, g8, g9, g10⟩ := g
  subst g6
  subst g7
  intro ls H locs hl hP hD hS
  exact lv_ishr g1 g2 d (k1 ls H locs hl hP hD hS)
theorem r_idiv {x y : Int32} (g : Gd X w own cc nL rm) (d : decode cc pc = .ok (.idiv, 1)) (hne : ¬ y = 0) (k1 : V X (pc + 1) lv (.int (x / y) :: st) ws) : V X (pc) lv (.int y :: .int x :: st) ws := by
  obtain ⟨p, l, e, R, s, m, args, below, meth, c, Q, nL', cells, slots, D, A⟩ := X
  obtain ⟨g1, g2, g3, g4, g5, g6, g7, g8, g9, g10⟩ := g
  subst g6
  subst g7
  intro ls H locs hl hP hD hS
  exact lv_idiv g1 g2 d hne (k1 ls H locs hl hP hD hS)
theorem r_irem {x y : Int32} (g : Gd X w own cc nL rm) (d : decode cc pc = .ok (.irem, 1)) (hne : ¬ y = 0) (k1 : V X (pc + 1) lv (.int (x - x / y * y) :: st) ws) : V X (pc) lv (.int y :: .int x :: st) ws := by
  obtain ⟨p, l, e, R, s, m, args, below, meth, c, Q, nL', cells, slots, D, A⟩ := X
  obtain ⟨g1, g2, g3, g4, g5, g6, g7, g8, g9, g10⟩ := g
  subst g6
  subst g7
  intro ls H locs hl hP hD hS
  exact lv_irem g1 g2 d hne (k1 ls H locs hl hP hD hS)
theorem r_ineg {x : Int32} (g : Gd X w own cc nL rm) (d : decode cc pc = .ok (.ineg, 1))  (k1 : V X (pc + 1) lv (.int (-x) :: st) ws) : V X (pc) lv (.int x :: st) ws := by
  obtain ⟨p, l, e, R, s, m, args, below, meth, c, Q, nL', cells, slots, D, A⟩ := X
  obtain ⟨g1, g2, g3, g4, g5, g6, g7, g8, g9, g10⟩ := g
  subst g6
  subst g7
  intro ls H locs hl hP hD hS
  exact lv_ineg g1 g2 d (k1 ls H locs hl hP hD hS)
theorem r_iushr {x y : Int32} (g : Gd X w own cc nL rm) (d : decode cc pc = .ok (.iushr, 1))  (k1 : V X (pc + 1) lv (.int ((x.toUInt32 >>> (y.toUInt32 &&& Int32.toUInt32 31)).toInt32) :: st) ws) : V X (pc) lv (.int y :: .int x :: st) ws := by
  obtain ⟨p, l, e, R, s, m, args, below, meth, c, Q, nL', cells, slots, D, A⟩ := X
  obtain ⟨g1, g2, g3, g4, g5, g6, g7, g8, g9, g10⟩ := g
  subst g6
  subst g7
  intro ls H locs hl hP hD hS
  exact lv_iushr g1 g2 d rfl (k1 ls H locs hl hP hD hS)
theorem r_i2b {x : Int32} (g : Gd X w own cc nL rm) (d : decode cc pc = .ok (.i2b, 1))  (k1 : V X (pc + 1) lv (.int (x.toInt8.toInt32) :: st) ws) : V X (pc) lv (.int x :: st) ws := by
  obtain ⟨p, l, e, R, s, m, args, below, meth, c, Q, nL', cells, slots, D, A⟩ := X
  obtain ⟨g1, g2, g3, g4, g5, g6, g7, g8, g9, g10⟩ := g
  subst g6
  subst g7
  intro ls H locs hl hP hD hS
  exact lv_i2b g1 g2 d rfl (k1 ls H locs hl hP hD hS)
theorem r_i2s {x : Int32} (g : Gd X w own cc nL rm) (d : decode cc pc = .ok (.i2s, 1))  (k1 : V X (pc + 1) lv (.int (x.toInt16.toInt32) :: st) ws) : V X (pc) lv (.int x :: st) ws := by
  obtain ⟨p, l, e, R, s, m, args, below, meth, c, Q, nL', cells, slots, D, A⟩ := X
  obtain ⟨g1, g2, g3, g4, g5, g6, g7, g8, g9, g10⟩ := g
  subst g6
  subst g7
  intro ls H locs hl hP hD hS
  exact lv_i2s g1 g2 d rfl (k1 ls H locs hl hP hD hS)
theorem r_i2l {x : Int32} (g : Gd X w own cc nL rm) (d : decode cc pc = .ok (.i2l, 1))  (k1 : V X (pc + 1) lv (.long (x.toInt64) :: st) ws) : V X (pc) lv (.int x :: st) ws := by
  obtain ⟨p, l, e, R, s, m, args, below, meth, c, Q, nL', cells, slots, D, A⟩ := X
  obtain ⟨g1, g2, g3, g4, g5, g6, g7, g8, g9, g10⟩ := g
  subst g6
  subst g7
  intro ls H locs hl hP hD hS
  exact lv_i2l g1 g2 d rfl (k1 ls H locs hl hP hD hS)
theorem r_dup {v : Value} (g : Gd X w own cc nL rm) (d : decode cc pc = .ok (.dup, 1)) (hv : v.category = 1) (k1 : V X (pc + 1) lv (v :: v :: st) ws) : V X (pc) lv (v :: st) ws := by
  obtain ⟨p, l, e, R, s, m, args, below, meth, c, Q, nL', cells, slots, D, A⟩ := X
  obtain ⟨g1, g2, g3, g4, g5, g6, g7, g8, g9, g10⟩ := g
  subst g6
  subst g7
  intro ls H locs hl hP hD hS
  exact lv_dup g1 g2 d hv (k1 ls H locs hl hP hD hS)
theorem r_dup2 {v u : Value} (g : Gd X w own cc nL rm) (d : decode cc pc = .ok (.dup2, 1)) (hv : v.category = 1) (hu : u.category = 1) (k1 : V X (pc + 1) lv (v :: u :: v :: u :: st) ws) : V X (pc) lv (v :: u :: st) ws := by
  obtain ⟨p, l, e, R, s, m, args, below, meth, c, Q, nL', cells, slots, D, A⟩ := X
  obtain ⟨g1, g2, g3, g4, g5, g6, g7, g8, g9, g10⟩ := g
  subst g6
  subst g7
  intro ls H locs hl hP hD hS
  exact lv_dup2_11 g1 g2 d hv hu (k1 ls H locs hl hP hD hS)
theorem r_pop {v : Value} (g : Gd X w own cc nL rm) (d : decode cc pc = .ok (.pop, 1)) (hv : v.category = 1) (k1 : V X (pc + 1) lv (st) ws) : V X (pc) lv (v :: st) ws := by
  obtain ⟨p, l, e, R, s, m, args, below, meth, c, Q, nL', cells, slots, D, A⟩ := X
  obtain ⟨g1, g2, g3, g4, g5, g6, g7, g8, g9, g10⟩ := g
  subst g6
  subst g7
  intro ls H locs hl hP hD hS
  exact lv_pop g1 g2 d hv (k1 ls H locs hl hP hD hS)
theorem r_goto {off : Int} (tgt : Nat) (g : Gd X w own cc nL rm) (d : decode cc pc = .ok (.goto off, 3)) (ht : (pc : Int) + off = (tgt : Int)) (k1 : V X (tgt) lv (st) ws) : V X (pc) lv (st) ws := by
  obtain ⟨p, l, e, R, s, m, args, below, meth, c, Q, nL', cells, slots, D, A⟩ := X
  obtain ⟨g1, g2, g3, g4, g5, g6, g7, g8, g9, g10⟩ := g
  subst g6
  subst g7
  intro ls H locs hl hP hD hS
  exact lv_goto g1 g2 d ht (k1 ls H locs hl hP hD hS)
theorem r_icmp_eq {x y : Int32} {off : Int} (tgt : Nat) (g : Gd X w own cc nL rm) (d : decode cc pc = .ok (.if_icmp .eq off, 3)) (ht : (pc : Int) + off = (tgt : Int)) (kt : x = y → V X (tgt) lv (st) ws) (kf : ¬ x = y → V X (pc + 3) lv (st) ws) : V X (pc) lv (.int y :: .int x :: st) ws := by
  obtain ⟨p, l, e, R, s, m, args, below, meth, c, Q, nL', cells, slots, D, A⟩ := X
  obtain ⟨g1, g2, g3, g4, g5, g6, g7, g8, g9, g10⟩ := g
  subst g6
  subst g7
  intro ls H locs hl hP hD hS
  exact lv_icmp_eq g1 g2 d ht (fun q => kt q ls H locs hl hP hD hS) (fun q => kf q ls H locs hl hP hD hS)
theorem r_icmp_ne {x y : Int32} {off : Int} (tgt : Nat) (g : Gd X w own cc nL rm) (d : decode cc pc = .ok (.if_icmp .ne off, 3)) (ht : (pc : Int) + off = (tgt : Int)) (kt : ¬ x = y → V X (tgt) lv (st) ws) (kf : x = y → V X (pc + 3) lv (st) ws) : V X (pc) lv (.int y :: .int x :: st) ws := by
  obtain ⟨p, l, e, R, s, m, args, below, meth, c, Q, nL', cells, slots, D, A⟩ := X
  obtain ⟨g1, g2, g3, g4, g5, g6, g7, g8, g9, g10⟩ := g
  subst g6
  subst g7
  intro ls H locs hl hP hD hS
  exact lv_icmp_ne g1 g2 d ht (fun q => kt q ls H locs hl hP hD hS) (fun q => kf q ls H locs hl hP hD hS)
theorem r_icmp_lt {x y : Int32} {off : Int} (tgt : Nat) (g : Gd X w own cc nL rm) (d : decode cc pc = .ok (.if_icmp .lt off, 3)) (ht : (pc : Int) + off = (tgt : Int)) (kt : x < y → V X (tgt) lv (st) ws) (kf : ¬ x < y → V X (pc + 3) lv (st) ws) : V X (pc) lv (.int y :: .int x :: st) ws := by
  obtain ⟨p, l, e, R, s, m, args, below, meth, c, Q, nL', cells, slots, D, A⟩ := X
  obtain ⟨g1, g2, g3, g4, g5, g6, g7, g8, g9, g10⟩ := g
  subst g6
  subst g7
  intro ls H locs hl hP hD hS
  exact lv_icmp_lt g1 g2 d ht (fun q => kt q ls H locs hl hP hD hS) (fun q => kf q ls H locs hl hP hD hS)
theorem r_icmp_ge {x y : Int32} {off : Int} (tgt : Nat) (g : Gd X w own cc nL rm) (d : decode cc pc = .ok (.if_icmp .ge off, 3)) (ht : (pc : Int) + off = (tgt : Int)) (kt : y ≤ x → V X (tgt) lv (st) ws) (kf : ¬ y ≤ x → V X (pc + 3) lv (st) ws) : V X (pc) lv (.int y :: .int x :: st) ws := by
  obtain ⟨p, l, e, R, s, m, args, below, meth, c, Q, nL', cells, slots, D, A⟩ := X
  obtain ⟨g1, g2, g3, g4, g5, g6, g7, g8, g9, g10⟩ := g
  subst g6
  subst g7
  intro ls H locs hl hP hD hS
  exact lv_icmp_ge g1 g2 d ht (fun q => kt q ls H locs hl hP hD hS) (fun q => kf q ls H locs hl hP hD hS)
theorem r_icmp_gt {x y : Int32} {off : Int} (tgt : Nat) (g : Gd X w own cc nL rm) (d : decode cc pc = .ok (.if_icmp .gt off, 3)) (ht : (pc : Int) + off = (tgt : Int)) (kt : y < x → V X (tgt) lv (st) ws) (kf : ¬ y < x → V X (pc + 3) lv (st) ws) : V X (pc) lv (.int y :: .int x :: st) ws := by
  obtain ⟨p, l, e, R, s, m, args, below, meth, c, Q, nL', cells, slots, D, A⟩ := X
  obtain ⟨g1, g2, g3, g4, g5, g6, g7, g8, g9, g10⟩ := g
  subst g6
  subst g7
  intro ls H locs hl hP hD hS
  exact lv_icmp_gt g1 g2 d ht (fun q => kt q ls H locs hl hP hD hS) (fun q => kf q ls H locs hl hP hD hS)
theorem r_icmp_le {x y : Int32} {off : Int} (tgt : Nat) (g : Gd X w own cc nL rm) (d : decode cc pc = .ok (.if_icmp .le off, 3)) (ht : (pc : Int) + off = (tgt : Int)) (kt : x ≤ y → V X (tgt) lv (st) ws) (kf : ¬ x ≤ y → V X (pc + 3) lv (st) ws) : V X (pc) lv (.int y :: .int x :: st) ws := by
  obtain ⟨p, l, e, R, s, m, args, below, meth, c, Q, nL', cells, slots, D, A⟩ := X
  obtain ⟨g1, g2, g3, g4, g5, g6, g7, g8, g9, g10⟩ := g
  subst g6
  subst g7
  intro ls H locs hl hP hD hS
  exact lv_icmp_le g1 g2 d ht (fun q => kt q ls H locs hl hP hD hS) (fun q => kf q ls H locs hl hP hD hS)
theorem r_if_eq {x : Int32} {off : Int} (tgt : Nat) (g : Gd X w own cc nL rm) (d : decode cc pc = .ok (.ifCond .eq off, 3)) (ht : (pc : Int) + off = (tgt : Int)) (kt : x = 0 → V X (tgt) lv (st) ws) (kf : ¬ x = 0 → V X (pc + 3) lv (st) ws) : V X (pc) lv (.int x :: st) ws := by
  obtain ⟨p, l, e, R, s, m, args, below, meth, c, Q, nL', cells, slots, D, A⟩ := X
  obtain ⟨g1, g2, g3, g4, g5, g6, g7, g8, g9, g10⟩ := g
  subst g6
  subst g7
  intro ls H locs hl hP hD hS
  exact lv_if_eq g1 g2 d ht (fun q => kt q ls H locs hl hP hD hS) (fun q => kf q ls H locs hl hP hD hS)
theorem r_if_ne {x : Int32} {off : Int} (tgt : Nat) (g : Gd X w own cc nL rm) (d : decode cc pc = .ok (.ifCond .ne off, 3)) (ht : (pc : Int) + off = (tgt : Int)) (kt : ¬ x = 0 → V X (tgt) lv (st) ws) (kf : x = 0 → V X (pc + 3) lv (st) ws) : V X (pc) lv (.int x :: st) ws := by
  obtain ⟨p, l, e, R, s, m, args, below, meth, c, Q, nL', cells, slots, D, A⟩ := X
  obtain ⟨g1, g2, g3, g4, g5, g6, g7, g8, g9, g10⟩ := g
  subst g6
  subst g7
  intro ls H locs hl hP hD hS
  exact lv_if_ne g1 g2 d ht (fun q => kt q ls H locs hl hP hD hS) (fun q => kf q ls H locs hl hP hD hS)
theorem r_if_lt {x : Int32} {off : Int} (tgt : Nat) (g : Gd X w own cc nL rm) (d : decode cc pc = .ok (.ifCond .lt off, 3)) (ht : (pc : Int) + off = (tgt : Int)) (kt : x < 0 → V X (tgt) lv (st) ws) (kf : ¬ x < 0 → V X (pc + 3) lv (st) ws) : V X (pc) lv (.int x :: st) ws := by
  obtain ⟨p, l, e, R, s, m, args, below, meth, c, Q, nL', cells, slots, D, A⟩ := X
  obtain ⟨g1, g2, g3, g4, g5, g6, g7, g8, g9, g10⟩ := g
  subst g6
  subst g7
  intro ls H locs hl hP hD hS
  exact lv_if_lt g1 g2 d ht (fun q => kt q ls H locs hl hP hD hS) (fun q => kf q ls H locs hl hP hD hS)
theorem r_if_ge {x : Int32} {off : Int} (tgt : Nat) (g : Gd X w own cc nL rm) (d : decode cc pc = .ok (.ifCond .ge off, 3)) (ht : (pc : Int) + off = (tgt : Int)) (kt : 0 ≤ x → V X (tgt) lv (st) ws) (kf : ¬ 0 ≤ x → V X (pc + 3) lv (st) ws) : V X (pc) lv (.int x :: st) ws := by
  obtain ⟨p, l, e, R, s, m, args, below, meth, c, Q, nL', cells, slots, D, A⟩ := X
  obtain ⟨g1, g2, g3, g4, g5, g6, g7, g8, g9, g10⟩ := g
  subst g6
  subst g7
  intro ls H locs hl hP hD hS
  exact lv_if_ge g1 g2 d ht (fun q => kt q ls H locs hl hP hD hS) (fun q => kf q ls H locs hl hP hD hS)
theorem r_if_gt {x : Int32} {off : Int} (tgt : Nat) (g : Gd X w own cc nL rm) (d : decode cc pc = .ok (.ifCond .gt off, 3)) (ht : (pc : Int) + off = (tgt : Int)) (kt : 0 < x → V X (tgt) lv (st) ws) (kf : ¬ 0 < x → V X (pc + 3) lv (st) ws) : V X (pc) lv (.int x :: st) ws := by
  obtain ⟨p, l, e, R, s, m, args, below, meth, c, Q, nL', cells, slots, D, A⟩ := X
  obtain ⟨g1, g2, g3, g4, g5, g6, g7, g8, g9, g10⟩ := g
  subst g6
  subst g7
  intro ls H locs hl hP hD hS
  exact lv_if_gt g1 g2 d ht (fun q => kt q ls H locs hl hP hD hS) (fun q => kf q ls H locs hl hP hD hS)
theorem r_if_le {x : Int32} {off : Int} (tgt : Nat) (g : Gd X w own cc nL rm) (d : decode cc pc = .ok (.ifCond .le off, 3)) (ht : (pc : Int) + off = (tgt : Int)) (kt : x ≤ 0 → V X (tgt) lv (st) ws) (kf : ¬ x ≤ 0 → V X (pc + 3) lv (st) ws) : V X (pc) lv (.int x :: st) ws := by
  obtain ⟨p, l, e, R, s, m, args, below, meth, c, Q, nL', cells, slots, D, A⟩ := X
  obtain ⟨g1, g2, g3, g4, g5, g6, g7, g8, g9, g10⟩ := g
  subst g6
  subst g7
  intro ls H locs hl hP hD hS
  exact lv_if_le g1 g2 d ht (fun q => kt q ls H locs hl hP hD hS) (fun q => kf q ls H locs hl hP hD hS)
theorem r_tswK {dflt lo hi : Int} {offs : Array Int} {len : Nat} {x : Int32} {off : Int} (v : Int32) (tgt : Nat) (g : Gd X w own cc nL rm) (d : decode cc pc = .ok (.tableswitch dflt lo hi offs, len)) (hx : x = v) (h : (¬ v.toInt < lo ∧ ¬ hi < v.toInt ∧ offs[(v.toInt - lo).toNat]? = some off ∧ (pc : Int) + off = (tgt : Int))) (k : V X tgt lv st ws) : V X pc lv (.int x :: st) ws := by
  obtain ⟨p, l, e, R, s, m, args, below, meth, c, Q, nL', cells, slots, D, A⟩ := X
  obtain ⟨g1, g2, g3, g4, g5, g6, g7, g8, g9, g10⟩ := g
  subst g6
  subst g7
  intro ls H locs hl hP hD hS
  subst hx
  exact lv_tableIn g1 g2 d h.1 h.2.1 h.2.2.1 h.2.2.2 (k ls H locs hl hP hD hS)
theorem r_tswD {dflt lo hi : Int} {offs : Array Int} {len : Nat} {x : Int32} (tgt : Nat) (g : Gd X w own cc nL rm) (d : decode cc pc = .ok (.tableswitch dflt lo hi offs, len)) (h : x.toInt < lo ∨ hi < x.toInt) (ht : (pc : Int) + dflt = (tgt : Int)) (k : V X tgt lv st ws) : V X pc lv (.int x :: st) ws := by
  obtain ⟨p, l, e, R, s, m, args, below, meth, c, Q, nL', cells, slots, D, A⟩ := X
  obtain ⟨g1, g2, g3, g4, g5, g6, g7, g8, g9, g10⟩ := g
  subst g6
  subst g7
  intro ls H locs hl hP hD hS
  exact lv_tableOut g1 g2 d h ht (k ls H locs hl hP hD hS)
theorem r_lsw {dflt : Int} {ps : Array (Int × Int)} {len : Nat} {x : Int32} {off : Int} (tgt : Nat) (g : Gd X w own cc nL rm) (d : decode cc pc = .ok (.lookupswitch dflt ps, len)) (hp : (ps.toList.zip (ps.toList.drop 1)).all (fun (a, next) => a.1 < next.1) = true) (ho : Op.lookupswitch.offset ps.toList dflt x.toInt = off) (ht : (pc : Int) + off = (tgt : Int)) (k : V X tgt lv st ws) : V X pc lv (.int x :: st) ws := by
  obtain ⟨p, l, e, R, s, m, args, below, meth, c, Q, nL', cells, slots, D, A⟩ := X
  obtain ⟨g1, g2, g3, g4, g5, g6, g7, g8, g9, g10⟩ := g
  subst g6
  subst g7
  intro ls H locs hl hP hD hS
  exact lv_lookup g1 g2 d hp ho ht (k ls H locs hl hP hD hS)
end Rows
