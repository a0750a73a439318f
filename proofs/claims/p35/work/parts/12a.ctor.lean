/-! constructors: the world grows; explicit cells E behind any cells R -/
def AOv (U : State) : Prop := (Cond.arrayOver (.array .int)).before #[] U = true
theorem AOv_spec {s : State} (h : AOv s) : ∃ comp c k, s.vm.findClass (FieldType.array .int).toString = some comp ∧ (s.vm.classes.findIdx? fun (x : Class) => match x.kind with | .array component _ => component == comp | _ => false) = some c ∧ s.vm.classes[c]? = some k ∧ k.kind = .array comp (.array .int) ∧ s.vm.findClass ("[" ++ (FieldType.array .int).toString) = some c := by
  unfold AOv Cond.before at h
  simp only [Cond.holds, Cond.value, beq_iff_eq] at h
  cases hc : s.vm.findClass (FieldType.array .int).toString with
  | none => simp [hc] at h
  | some comp =>
    simp only [hc, Option.bind_some, Option.bind_eq_some_iff, Option.map_eq_some_iff] at h
    obtain ⟨c, hi, k, hk, hb⟩ := h
    obtain ⟨hlt, hp, -⟩ := Array.findIdx?_eq_some_iff_getElem.mp hi
    have hkk : s.vm.classes[c] = k := (Array.getElem?_eq_some_iff.mp hk).2
    rw [hkk] at hp
    cases hkind : k.kind with
    | array component ty =>
      rw [hkind] at hb hp
      simp at hb hp
      exact ⟨comp, c, k, rfl, hi, hk, by rw [hkind, hp, hb.1], hb.2⟩
    | _ => rw [hkind] at hb; simp at hb
theorem AOv_moved {u U : State} (hvm : u.vm.Alike U.vm) (h : AOv u) : AOv U := by
  obtain ⟨comp, c, k, h1, h2, h3, h4, h5⟩ := AOv_spec h
  obtain ⟨k', hk', he⟩ := hvm.2.2 _ _ h3
  have hi : (U.vm.classes.findIdx? fun (x : Class) => match x.kind with | .array component _ => component == comp | _ => false) = some c := by
    exact (hvm.findIdx?_eqK _ (fun _ => rfl)).trans h2
  have hkind : k'.kind = .array comp (.array .int) := by rw [he]; exact h4
  have f1 : U.vm.findClass (FieldType.array .int).toString = some comp := by rw [hvm.findClass]; exact h1
  have f2 : U.vm.findClass ("[" ++ (FieldType.array .int).toString) = some c := by rw [hvm.findClass]; exact h5
  unfold AOv Cond.before
  simp only [Cond.holds, Cond.value, f1, Option.bind_some, beq_iff_eq]
  rw [Option.bind_eq_some_iff]
  refine ⟨c, (hvm.findIdx?_eqK _ (fun _ => rfl)).trans h2, ?_⟩
  simp [hk', hkind, f2]
theorem c_outer0 (c : ClassId) (N h0 : Nat) : ∀ i : Nat, Jvm.Free.Multi.outerC c N h0 i = arrV c N (fun j => va_rf (if j < i then some (h0 + 1 + j) else none))
  | 0 => by
    show ({ cls := c, slots := Array.replicate N .null, vm := .none } : Cell) = _
    rw [arrV_new]
    refine congrArg (arrV c N) (funext fun j => ?_)
    simp [va_rf]
  | i + 1 => by
    show (Jvm.Free.Multi.outerC c N h0 i).setSlot i (.ref (h0 + 1 + i)) = _
    rw [c_outer0 c N h0 i, arrV_store]
    refine congrArg (arrV c N) (funext fun j => ?_)
    by_cases e : j = i
    · subst e
      simp [updV, va_rf]
    · by_cases h : j < i
      · simp [updV, e, h, Nat.lt_succ_of_lt h]
      · simp [updV, e, h, show ¬ j < i + 1 by omega]
theorem c_outer (c : ClassId) (N h0 : Nat) : Jvm.Free.Multi.outerC c N h0 N = vp_cell c (N, .inr (.inr (.inr (.inr (fun i => if i < N then some (h0 + 1 + i) else none))))) := by
  rw [vp_cell_q]
  exact c_outer0 c N h0 N
def cs (X : Cx) (k n : Nat) : Cx := match X with
  | (p, l, e, R, s, m, args, below, meth, c, Q, nL, _, _, D, A) => (p, l, e, R, s, m, args, below, meth, c, Q, nL, k, n, D, A)
theorem Gd_cs {X : Cx} {w : Wd} {own : String} {cc : ByteArray} {nL : Nat} {rm : Room} (k n : Nat) (g : Gd X w own cc nL rm) (h : (Nat.ble k rm.cells && Nat.ble n rm.slots) = true) : Gd (cs X k n) w own cc nL rm := by
  obtain ⟨p, l, e, R, s, m, args, below, meth, c', Q, nL', cells, slots, D, A⟩ := X
  obtain ⟨g1, g2, g3, g4, g5, g6, g7, g8, g9, g10⟩ := g
  simp only [Bool.and_eq_true, Nat.ble_eq] at h
  exact ⟨g1, g2, g3, g4, g5, g6, g7, g8, h.1, h.2⟩
/-- what a constructor has beside: cells from the start on may be written, it is <init>, the words that aren't of the tables alone -/
def lw_ext : List Cond := [.methodLinkNest "OpenPots" 13 ⟨"OpenPots$Sheets", "<init>", "()V"⟩ "OpenPots", .methodLinkNest "OpenPots" 20 ⟨"OpenPots$Text", "<init>", "()V"⟩ "OpenPots", .methodLinkNest "OpenPots" 27 ⟨"OpenPots$Works", "<init>", "()V"⟩ "OpenPots", .methodLinkNest "OpenPots" 34 ⟨"OpenPots$Orders", "<init>", "()V"⟩ "OpenPots"]
def Al (X : Cx) : Prop := match X with
  | (_, _, _, _, s, _, _, _, meth, _, _, _, _, _, _, A) => (∀ q, s.heap.size ≤ q → A q) ∧ (∀ q ∈ lw_ext, va_Nw q s) ∧ AOv s
def In (X : Cx) : Prop := match X with
  | (_, _, _, _, _, _, _, _, meth, _, _, _, _, _, _, _) => meth.name = "<init>"
theorem ext_on {q : Cond} (h : q ∈ lw_ext) : q.onTables = true := by
  have : ∀ q ∈ lw_ext, q.onTables = true := by decide
  exact this q h
theorem ext_warm {s U : State} (hW : s.WarmedH U.vm) (h : ∀ q ∈ lw_ext, va_Nw q s) : ∀ q ∈ lw_ext, va_Nw q U := by
  intro q hq
  have h1 := h q hq
  simp only [lw_ext, List.mem_cons, List.not_mem_nil, or_false] at hq
  rcases hq with rfl | rfl | rfl | rfl
  all_goals exact va_Nw.warmM hW h1
theorem Al_cs {X : Cx} {k n : Nat} (h : Al X) : Al (cs X k n) := by
  obtain ⟨p, l, e, R, s, m, args, below, meth, c', Q, nL', cells, slots, D, A⟩ := X
  exact h
theorem In_cs {X : Cx} {k n : Nat} (h : In X) : In (cs X k n) := by
  obtain ⟨p, l, e, R, s, m, args, below, meth, c', Q, nL', cells, slots, D, A⟩ := X
  exact h
theorem cs_cs (X : Cx) (k n k2 n2 : Nat) : cs (cs X k n) k2 n2 = cs X k2 n2 := by
  obtain ⟨p, l, e, R, s, m, args, below, meth, c', Q, nL', cells, slots, D, A⟩ := X
  rfl
def FPutF (own : String) (index ci k : Nat) (ty : FieldType) : Prop := ∃ (C : String) (T : u_T) (N : Nat) (ty0 : Nat → FieldType), vwCl[ci]? = some (C, T, N) ∧ (∀ q ∈ u_ws C T N, q ∈ lw_t2) ∧ k < N ∧ Cond.fieldLink own index (T k).1 (T k).2.1 (T k).2.2.1 ∈ lw_t2 ∧ (∀ k, k < N → parseFieldDescriptor (T k).2.2.1 = some (ty0 k)) ∧ (∀ a, a < N → ∀ b, b < N → a ≠ b → (T a).2.1 ≠ (T b).2.1) ∧ (T k).2.2.2 = true ∧ (T k).1 = own ∧ parseFieldDescriptor (T k).2.2.1 = some ty
def PC (D : va_G) (A : Nat → Prop) (w : Wd) (ws : va_W) (av : List Value) : Array Value → State → Prop :=
  va_Pc av (fun U => va_P D vwCl ws U.heap ∧ va_K D vwCl (wtys w) U ∧ va_D A ws ∧ (∀ q, U.heap.size ≤ q → A q) ∧ (∀ q ∈ lw_ext, va_Nw q U) ∧ AOv U)
def QC (D : va_G) (A : Nat → Prop) (w : Wd) (post : va_W → Prop) : Array Value → State → Outcome → State → Prop := fun _ st oc t =>
  (∃ ws : va_W, oc = .returned none ∧ post ws ∧ va_P D vwCl ws t.heap ∧ va_K D vwCl (wtys w) t ∧ va_D A ws) ∧ va_F A st t
/-- a constructor's contract -/
def MetC (l : Launch) (D : va_G) (A : Nat → Prop) (w : Wd) (y : MethodName) (bytes : ByteArray) (maxL : Nat) (rm : Room) (mc ms : Nat) (av : List Value) (ws : va_W) (post : va_W → Prop) : Prop :=
  Met l y (.code y bytes maxL none :: lw_t2) rm (PC D A w ws av) (QC D A w post) mc ms A
theorem PC_blind {D : va_G} {A : Nat → Prop} {w : Wd} {ws : va_W} {av : List Value} : FrameBlind (PC D A w ws av) := by
  intro a U g mk h
  obtain ⟨h1, h2, h3, h4, h5, h6, h7⟩ := h
  exact ⟨h1, h2, va_K.moved (u := U) (U := U.calling g mk a) (Vm.Alike.refl U.vm) h3, h4, h5, fun q hq => va_Nw.same (u := U) (U := U.calling g mk a) (ext_on hq) rfl (h6 q hq), AOv_moved (u := U) (U := U.calling g mk a) (Vm.Alike.refl U.vm) h7⟩
def RtC (X : Cx) (w : Wd) (mc ms : Nat) (post : va_W → Prop) : Prop := match X with
  | (_, _, _, _, s, _, args, below, meth, _, Q, _, _, _, D, A) => Q = MQ below (QC D A w post) args s mc ms A ∧ meth.sig.returnType = none ∧ meth.locks = false
theorem RtC_cs {X : Cx} {w : Wd} {mc ms k n : Nat} {post : va_W → Prop} (h : RtC X w mc ms post) : RtC (cs X k n) w mc ms post := by
  obtain ⟨p, l, e, R, s, m, args, below, meth, c', Q, nL', cells, slots, D, A⟩ := X
  exact h
theorem atX_cs {X : Cx} {l : Launch} {D : va_G} {A : Nat → Prop} {k n : Nat} (h : atX X l D A) : atX (cs X k n) l D A := by
  obtain ⟨p, l, e, R, s, m, args, below, meth, c', Q, nL', cells, slots, D, A⟩ := X
  exact h
theorem metC_of {l : Launch} {D : va_G} {A : Nat → Prop} {w : Wd} {y : MethodName} {bytes : ByteArray} {maxL : Nat} {rm : Room} {mc ms : Nat} {av : List Value} {ws : va_W} {post : va_W → Prop} (hy : plainName y.cls = true) (hyn : y.name = "<init>") {lv : List (Nat × Value)} (hav : Nat.ble (lg_sl av).length maxL = true) (hlv : lv_args 0 av = lv)
    (body : ∀ X : Cx, atX X l D A → Gd X w y.cls bytes maxL rm → RtC X w mc ms post → Al X → In X → V (cs X 0 0) 0 lv [] ws) : MetC l D A w y bytes maxL rm mc ms av ws post := by
  refine Met.ofW (cc := bytes) (maxL := maxL) (ret := none) hy rfl ?_
  intro p e s m args below meth c s₁ B hml hv
  obtain ⟨rfl, hP, hK, hD, hA, hE⟩ := hv
  have hts := atoms_spec (ws := .code y bytes maxL none :: lw_t2) B.pre
  have hown : s.vm.findClass y.cls = some m.cls := findClass_of_methodNamed B.named
  have hl := lv_entry av (n := maxL) (Nat.le_of_ble_eq_true hav)
  have hin : meth.name = "<init>" := ((name_of_methodNamed B.named B.method).1).trans hyn
  rw [lg_entry_eq]
  rw [hlv] at hl
  exact body (p, l, e, (headSpec (.code y bytes maxL none :: lw_t2) rm).room, s, m, av.toArray, below, meth, c, MQ below (QC D A w post) av.toArray s mc ms A, maxL, 0, 0, D, A) ⟨rfl, rfl, rfl⟩ ⟨B.exec, B.bytes, hml, hown, fun q hq => hts q (List.mem_cons_of_mem _ hq), rfl, rfl, hK, Nat.zero_le _, Nat.zero_le _⟩ ⟨rfl, B.returns, B.notSynchronized⟩ ⟨hA, hE⟩ hin _ _ _ hl hP hD va_S.rf
theorem ap_get {R E : va_W} {j : Nat} {q : Nat × va_E} (h : E[j]? = some q) : (R ++ E)[R.length + j]? = some q := by
  rw [List.getElem?_append_right (by omega), show R.length + j - R.length = j by omega]
  exact h
theorem ap_e {R E S E' : va_W} (h : E ++ S = E') : (R ++ E) ++ S = R ++ E' := h ▸ List.append_assoc R E S
theorem ap_set {R E : va_W} {j : Nat} {q : Nat × va_E} : (R ++ E).set (R.length + j) q = R ++ E.set j q := by
  rw [List.set_append_right _ _ (by omega), show R.length + j - R.length = j by omega]
section CRows
variable {X : Cx} {w : Wd} {own : String} {cc : ByteArray} {nL : Nat} {rm : Room} {pc : Nat} {lv lv' : List (Nat × Value)} {st : List Value} {R E E' : va_W} {k0 n0 : Nat}
theorem c_putF {index ci k j a : Nat} {ty : FieldType} {v : Value} {fs : List Value} (g : Gd X w own cc nL rm) (hi : In X) (d : decode cc pc = .ok (.putfield index, 3)) (hF : FPutF own index ci k ty) (he : E[j]? = some (a, .inr (ci, fs))) (hn : narrow ty v = v ∧ fits ty v = true ∧ Nat.ble (k + 1) fs.length = true) (hE : E.set j (a, .inr (ci, fs.set k v)) = E') (k1 : V X (pc + 3) lv st (R ++ E')) : V X pc lv (v :: .ref a :: st) (R ++ E) := by
  obtain ⟨p, l, e, R', s, m, args, below, meth, c', Q, nL', cells, slots, D, A⟩ := X
  obtain ⟨g1, g2, g3, g4, g5, g6, g7, g8, g9, g10⟩ := g
  obtain ⟨C, T, N, ty0, f1, f2, f3, f4, f5, f6, f7, f8, f9⟩ := hF
  intro ls H locs hl hP hD hS
  refine va_putF (ty := ty) g1 g2 g5 f2 ty0 f5 f6 g4 g8 hP hD hS (R.length + j) (ap_get he) f1 k f3 (g5 _ f4) (fun _ h => h) f7 hi f8 f9 hn.1 hn.2.1 (Nat.le_of_ble_eq_true hn.2.2) d (fun H1 locs1 hP1 hD1 hS1 => ?_)
  rw [ap_set, hE] at hP1 hD1
  exact k1 ls H1 locs1 hl hP1 hD1 hS1
theorem c_put {index ci k j a : Nat} {ty : FieldType} {v : Value} {fs : List Value} (g : Gd X w own cc nL rm) (d : decode cc pc = .ok (.putfield index, 3)) (hF : FPut own index ci k ty) (he : E[j]? = some (a, .inr (ci, fs))) (hn : narrow ty v = v ∧ fits ty v = true ∧ Nat.ble (k + 1) fs.length = true) (hE : E.set j (a, .inr (ci, fs.set k v)) = E') (k1 : V X (pc + 3) lv st (R ++ E')) : V X pc lv (v :: .ref a :: st) (R ++ E) := by
  obtain ⟨p, l, e, R', s, m, args, below, meth, c', Q, nL', cells, slots, D, A⟩ := X
  obtain ⟨g1, g2, g3, g4, g5, g6, g7, g8, g9, g10⟩ := g
  obtain ⟨C, T, N, ty0, f1, f2, f3, f4, f5, f6, f7, f8⟩ := hF
  intro ls H locs hl hP hD hS
  refine va_put (ty := ty) g1 g2 g5 f2 ty0 f5 f6 g4 g8 hP hD hS (R.length + j) (ap_get he) f1 k f3 (g5 _ f4) (fun _ h => h) f7 f8 hn.1 hn.2.1 (Nat.le_of_ble_eq_true hn.2.2) d (fun H1 locs1 hP1 hD1 hS1 => ?_)
  rw [ap_set, hE] at hP1 hD1
  exact k1 ls H1 locs1 hl hP1 hD1 hS1
theorem c_get {index ci k j a : Nat} {v : Value} {fs : List Value} (g : Gd X w own cc nL rm) (d : decode cc pc = .ok (.getfield index, 3)) (hF : FAt own index ci k) (he : E[j]? = some (a, .inr (ci, fs))) (hv : fs[k]? = some v) (k1 : V X (pc + 3) lv (v :: st) (R ++ E)) : V X pc lv (.ref a :: st) (R ++ E) := by
  obtain ⟨p, l, e, R', s, m, args, below, meth, c', Q, nL', cells, slots, D, A⟩ := X
  obtain ⟨g1, g2, g3, g4, g5, g6, g7, g8, g9, g10⟩ := g
  obtain ⟨C, T, N, f1, f2, f3, f4⟩ := hF
  intro ls H locs hl hP hD hS
  exact va_get g1 g2 g5 f2 g4 g8 hP (R.length + j) (ap_get he) f1 k f3 (g5 _ f4) (fun _ h => h) hv d (k1 ls H locs hl hP hD hS)
theorem c_iastore {j a N : Nat} {f : Nat → Int32} {i x : Int32} (g : Gd X w own cc nL rm) (d : decode cc pc = .ok (.iastore, 1)) (he : E[j]? = some (a, .inl (w.2.1, N, .inl f))) (hin : vp_in i N) (hE : E.set j (a, .inl (w.2.1, N, .inl (upd f i.toNatClampNeg x))) = E') (k1 : V X (pc + 1) lv st (R ++ E')) : V X pc lv (.int x :: .int i :: .ref a :: st) (R ++ E) := by
  obtain ⟨p, l, e, R', s, m, args, below, meth, c', Q, nL', cells, slots, D, A⟩ := X
  obtain ⟨g1, g2, g3, g4, g5, g6, g7, g8, g9, g10⟩ := g
  intro ls H locs hl hP hD hS
  refine va_iast g1 g2 g8 hP hD hS (R.length + j) 0 (ap_get he) rfl hin d (fun H1 locs1 hP1 hD1 hS1 => ?_)
  rw [ap_set, hE] at hP1 hD1
  exact k1 ls H1 locs1 hl hP1 hD1 hS1
theorem c_iaload {j a N : Nat} {f : Nat → Int32} {i : Int32} (g : Gd X w own cc nL rm) (d : decode cc pc = .ok (.iaload, 1)) (he : E[j]? = some (a, .inl (w.2.1, N, .inl f))) (hin : vp_in i N) (k1 : V X (pc + 1) lv (.int (f i.toNatClampNeg) :: st) (R ++ E)) : V X pc lv (.int i :: .ref a :: st) (R ++ E) := by
  obtain ⟨p, l, e, R', s, m, args, below, meth, c', Q, nL', cells, slots, D, A⟩ := X
  obtain ⟨g1, g2, g3, g4, g5, g6, g7, g8, g9, g10⟩ := g
  intro ls H locs hl hP hD hS
  exact va_iald g1 g2 g8 hP (R.length + j) 0 (ap_get he) rfl hin d (k1 ls H locs hl hP hD hS)
theorem c_objInit {idx a : Nat} {ws : va_W} (g : Gd X w own cc nL rm) (d : decode cc pc = .ok (.invokespecial idx, 3)) (hw : Cond.methodLink own idx Lib.objectInit ∈ lw_t2 ∧ Cond.instanceMethod Lib.objectInit ∈ lw_t2 ∧ Cond.code Lib.objectInit ⟨#[0xb1]⟩ 1 none ∈ lw_t2) (hR : (Nat.ble 1 rm.frames && Nat.ble ((st.map fun v => v.category).sum + 12) rm.locals) = true) (k1 : V X (pc + 3) lv st ws) : V X pc lv (.ref a :: st) ws := by
  obtain ⟨p, l, e, R', s, m, args, below, meth, c', Q, nL', cells, slots, D, A⟩ := X
  obtain ⟨g1, g2, g3, g4, g5, g6, g7, g8, g9, g10⟩ := g
  subst g6
  subst g7
  simp only [Bool.and_eq_true, Nat.ble_eq] at hR
  intro ls H locs hl hP hD hS
  exact W.objInit g1 g2 g4 (g5 _ hw.1) (g5 _ hw.2.1) (g5 _ hw.2.2) rfl (by rw [g3]; exact hl.1) rfl d hR.1 (by show 2 * 0 + _ + 12 ≤ _; omega) (k1 ls H locs hl hP hD hS)
theorem c_newa {n : Int32} {N : Nat} {ws : va_W} (g : Gd (cs X k0 n0) w own cc nL rm) (hA : Al X) (hw : Cond.arrayClass .int ∈ lw_t2) (d : decode cc pc = .ok (.newarray .int, 2)) (hN : ¬ n < 0 ∧ n.toNatClampNeg = N ∧ N ≤ 10000) (hR : (Nat.ble (k0 + 1) rm.cells && Nat.ble (n0 + N) rm.slots) = true) (k1 : ∀ q : Nat, V (cs X (k0 + 1) (n0 + N)) (pc + 2) lv (.ref q :: st) (ws ++ [(q, .inl (w.2.1, N, .inl (fun _ => 0)))])) : V (cs X k0 n0) pc lv (.int n :: st) ws := by
  obtain ⟨p, l, e, R', s, m, args, below, meth, c', Q, nL', cells, slots, D, A⟩ := X
  obtain ⟨g1, g2, g3, g4, g5, g6, g7, g8, g9, g10⟩ := g
  subst g6
  subst g7
  simp only [Bool.and_eq_true, Nat.ble_eq] at hR
  intro ls H locs hl hP hD hS
  refine va_newa (atype := .int) (ty := .int) (a0 := (N, .inl (fun _ => 0))) g1 g2 (g5 _ hw) rfl g8 hP hD hS hA.1 (fun _ => rfl) hN.1 hN.2.1 (by show N * 4 ≤ _; omega) hR.1 hR.2 d (fun q cA H1 hK1 hP1 hD1 hS1 => ?_)
  have e1 : s.vm.findClass ("[" ++ FieldType.int.toString) = some cA := (hK1.2 2 (cA, .int) rfl).2
  have e2 : s.vm.findClass ("[" ++ FieldType.int.toString) = some w.2.1 := (g8.2 0 (w.2.1, .int) rfl).2
  have e3 : cA = w.2.1 := Option.some.inj (e1.symm.trans e2)
  subst e3
  exact k1 q ls H1 locs hl hP1 hD1 hS1
theorem c_new {index ci : Nat} {C : String} {T : u_T} {N : Nat} {fs : List Value} {ws : va_W} (g : Gd (cs X k0 n0) w own cc nL rm) (hA : Al X) (ty : Nat → FieldType) (hty : ∀ k, k < N → parseFieldDescriptor (T k).2.2.1 = some (ty k)) (hin : ∀ q ∈ u_ws C T N, q ∈ lw_t2) (hw : Cond.classLink own index C ∈ lw_t2 ∧ Cond.instantiable C N ∈ lw_t2 ∧ Cond.initialized C ∈ lw_t2) (hc : vwCl[ci]? = some (C, T, N)) (d : decode cc pc = .ok (.new index, 3)) (hfs : ∀ j, j < N → defaultValue (ty j) = vp_V fs j) (hR : (Nat.ble (k0 + 1) rm.cells && Nat.ble (n0 + N) rm.slots) = true) (k1 : ∀ q : Nat, V (cs X (k0 + 1) (n0 + N)) (pc + 3) lv (.ref q :: st) (ws ++ [(q, .inr (ci, fs))])) : V (cs X k0 n0) pc lv st ws := by
  obtain ⟨p, l, e, R', s, m, args, below, meth, c', Q, nL', cells, slots, D, A⟩ := X
  obtain ⟨g1, g2, g3, g4, g5, g6, g7, g8, g9, g10⟩ := g
  subst g6
  subst g7
  simp only [Bool.and_eq_true, Nat.ble_eq] at hR
  intro ls H locs hl hP hD hS
  exact va_new g1 g2 g5 hin ty hty g4 (g5 _ hw.1) (g5 _ hw.2.1) (g5 _ hw.2.2) g8 hP hD hS hA.1 hc hfs hR.1 hR.2 d (fun q H1 hP1 hD1 hS1 => k1 q ls H1 locs hl hP1 hD1 hS1)
theorem c_mna {index : Nat} {n k : Int32} {N K : Nat} {ws : va_W} (g : Gd (cs X k0 n0) w own cc nL rm) (hA : Al X) (hw : Cond.arrayClass .int ∈ lw_t2 ∧ Cond.classLink own index "[[I" ∈ lw_t2) (d : decode cc pc = .ok (.multianewarray index 2, 4)) (hN : ¬ n < 0 ∧ n.toNatClampNeg = N ∧ N ≤ 100) (hK : ¬ k < 0 ∧ k.toNatClampNeg = K ∧ K ≤ 100) (hR : (Nat.ble (k0 + 1 + N) rm.cells && Nat.ble (n0 + N + N * K) rm.slots) = true)
    (k1 : ∀ (q : Nat) (r : Nat → Nat), V (cs X (k0 + 1 + N) (n0 + N + N * K)) (pc + 4) lv (.ref q :: st) (ws ++ ((q, .inl (w.2.2.1, N, .inr (.inr (.inr (.inr (fun i => if i < N then some (r i) else none)))))) :: (List.range N).map (fun i => (r i, .inl (w.2.1, K, .inl (fun _ => 0))))))) : V (cs X k0 n0) pc lv (.int k :: .int n :: st) ws := by
  obtain ⟨p, l, e, R', s, m, args, below, meth, c', Q, nL', cells, slots, D, A⟩ := X
  obtain ⟨g1, g2, g3, g4, g5, g6, g7, g8, g9, g10⟩ := g
  subst g6
  subst g7
  simp only [Bool.and_eq_true, Nat.ble_eq] at hR
  obtain ⟨hn, rfl, hn2⟩ := hN
  obtain ⟨hk, rfl, hk2⟩ := hK
  intro ls H locs hl hP hD hS
  intro T hT Xs
  obtain ⟨vm₁, cA, comp, -, fA, fC, hO, -, X', step⟩ := Xs.multianewarray2F (ty := .int) g1 g4 (g5 _ hw.2) hA.2.2 (g5 _ hw.1) (g := F0 m pc ls (.int k :: .int n :: st)) rfl (by rw [g2]; exact d) rfl hn hk (by omega) (by show k.toNatClampNeg * 4 ≤ _; omega) (by omega) rfl rfl (by omega) (by omega)
  have e2 : s.vm.findClass ("[" ++ FieldType.int.toString) = some w.2.1 := (g8.2 0 (w.2.1, .int) rfl).2
  have e3 : comp = w.2.1 := Option.some.inj (fC.symm.trans e2)
  have e4 : s.vm.findClass ("[" ++ (FieldType.array .int).toString) = some w.2.2.1 := (g8.2 1 (w.2.2.1, .array .int) rfl).2
  have e5 : cA = w.2.2.1 := Option.some.inj (fA.symm.trans e4)
  subst e3
  subst e5
  generalize hF : Jvm.Free.Multi.fill (T.setVm vm₁) w.2.2.1 w.2.1 n.toNatClampNeg k.toNatClampNeg (defaultValue .int) n.toNatClampNeg = F at X' step
  have hTh : (T.setVm vm₁).heap = H := hT
  obtain ⟨f1, f2, -, -⟩ := Jvm.Free.Multi.fill_facts (T.setVm vm₁) w.2.2.1 w.2.1 n.toNatClampNeg k.toNatClampNeg (defaultValue .int) n.toNatClampNeg
  rw [hF, hTh] at f1 f2
  have hold : ∀ x : Nat, x < H.size → F.heap[x]? = H[x]? := fun x hx => by
    have := Jvm.Free.Multi.fill_old (T.setVm vm₁) w.2.2.1 w.2.1 n.toNatClampNeg k.toNatClampNeg (defaultValue .int) (a := x) (by rw [hTh]; exact hx) n.toNatClampNeg
    rw [hF, hTh] at this
    exact this
  have hrow : ∀ j : Nat, j < n.toNatClampNeg → F.heap[H.size + 1 + j]? = some (vp_cell w.2.1 (k.toNatClampNeg, .inl (fun _ => 0))) := fun j hj => by
    have := Jvm.Free.Multi.fill_inner (T.setVm vm₁) w.2.2.1 w.2.1 n.toNatClampNeg k.toNatClampNeg (defaultValue .int) n.toNatClampNeg j hj
    rw [hF, hTh] at this
    rw [this]
    show some ({ cls := w.2.1, slots := Array.replicate _ _, vm := .none } : Cell) = _
    rw [arrV_new]
    rfl
  rw [c_outer] at f2
  have hP0 : va_P D vwCl ws F.heap := hP.kept (fun k9 x hx => hold x.1 ((hP k9 x hx).lt))
  have hnew : ∀ (k9 : Nat) (x : Nat × va_E), ((H.size, .inl (w.2.2.1, n.toNatClampNeg, .inr (.inr (.inr (.inr (fun i => if i < n.toNatClampNeg then some (H.size + 1 + i) else none)))))) :: (List.range n.toNatClampNeg).map (fun i => (H.size + 1 + i, .inl (w.2.1, k.toNatClampNeg, .inl (fun _ => 0)))) : va_W)[k9]? = some x → va_at D vwCl x F.heap ∧ x.1 = H.size + k9 := fun k9 x hx => by
    match k9, hx with
    | 0, hx =>
      cases hx
      exact ⟨f2, rfl⟩
    | j + 1, hx =>
      have hx2 : ((List.range n.toNatClampNeg).map (fun i => ((H.size + 1 + i, .inl (w.2.1, k.toNatClampNeg, .inl (fun _ => 0))) : Nat × va_E)))[j]? = some x := by simpa using hx
      rw [List.getElem?_map] at hx2
      by_cases hj : j < n.toNatClampNeg
      · rw [List.getElem?_range hj] at hx2
        cases hx2
        exact ⟨hrow j hj, by show H.size + 1 + j = H.size + (j + 1); omega⟩
      · rw [List.getElem?_eq_none (by rw [List.length_range]; omega)] at hx2
        cases hx2
  have hP1 : va_P D vwCl (ws ++ ((H.size, .inl (w.2.2.1, n.toNatClampNeg, .inr (.inr (.inr (.inr (fun i => if i < n.toNatClampNeg then some (H.size + 1 + i) else none)))))) :: (List.range n.toNatClampNeg).map (fun i => (H.size + 1 + i, .inl (w.2.1, k.toNatClampNeg, .inl (fun _ => 0)))))) F.heap := hP0.app (fun k9 x hx => (hnew k9 x hx).1)
  have hD1 : va_D A (ws ++ ((H.size, .inl (w.2.2.1, n.toNatClampNeg, .inr (.inr (.inr (.inr (fun i => if i < n.toNatClampNeg then some (H.size + 1 + i) else none)))))) :: (List.range n.toNatClampNeg).map (fun i => (H.size + 1 + i, .inl (w.2.1, k.toNatClampNeg, .inl (fun _ => 0)))))) := hD.app ⟨fun i j x y hi hj hxy => by
      have a1 := (hnew i x hi).2
      have a2 := (hnew j y hj).2
      omega, fun k9 x hx => by
      rw [(hnew k9 x hx).2]
      exact hA.1 _ (by have := hS.1; omega)⟩ (fun i j x y hi hj hxy => by
      have a1 := (hP i x hi).lt
      have a2 := (hnew j y hj).2
      omega)
  obtain ⟨t, a1, b1⟩ := k1 H.size (fun i => H.size + 1 + i) ls F.heap locs hl hP1 hD1 ⟨by rw [f1]; have := hS.1; omega, fun x h1 h2 => (hold x (Nat.lt_of_lt_of_le h1 hS.1)).trans (hS.2.1 x h1 h2), hS.2.2⟩ F rfl X'
  refine ⟨t, step t ?_, b1⟩
  have e : T.heap.size = H.size := by rw [hT]
  rw [e]
  exact a1
theorem c_ws {ws ws' : va_W} (h : ws = ws') (k1 : V X pc lv st ws') : V X pc lv st ws := h ▸ k1
theorem c_newaE {n : Int32} {N : Nat} (g : Gd (cs X k0 n0) w own cc nL rm) (hA : Al X) (hw : Cond.arrayClass .int ∈ lw_t2) (d : decode cc pc = .ok (.newarray .int, 2)) (hN : ¬ n < 0 ∧ n.toNatClampNeg = N ∧ N ≤ 10000) (hR : (Nat.ble (k0 + 1) rm.cells && Nat.ble (n0 + N) rm.slots) = true) (k1 : ∀ q : Nat, V (cs X (k0 + 1) (n0 + N)) (pc + 2) lv (.ref q :: st) (R ++ (E ++ [(q, .inl (w.2.1, N, .inl (fun _ => 0)))]))) : V (cs X k0 n0) pc lv (.int n :: st) (R ++ E) :=
  c_newa g hA hw d hN hR (fun q => c_ws (List.append_assoc R E _) (k1 q))
theorem c_newE {index ci : Nat} {C : String} {T : u_T} {N : Nat} {fs : List Value} (g : Gd (cs X k0 n0) w own cc nL rm) (hA : Al X) (ty : Nat → FieldType) (hty : ∀ k, k < N → parseFieldDescriptor (T k).2.2.1 = some (ty k)) (hin : ∀ q ∈ u_ws C T N, q ∈ lw_t2) (hw : Cond.classLink own index C ∈ lw_t2 ∧ Cond.instantiable C N ∈ lw_t2 ∧ Cond.initialized C ∈ lw_t2) (hc : vwCl[ci]? = some (C, T, N)) (d : decode cc pc = .ok (.new index, 3)) (hfs : ∀ j, j < N → defaultValue (ty j) = vp_V fs j) (hR : (Nat.ble (k0 + 1) rm.cells && Nat.ble (n0 + N) rm.slots) = true) (k1 : ∀ q : Nat, V (cs X (k0 + 1) (n0 + N)) (pc + 3) lv (.ref q :: st) (R ++ (E ++ [(q, .inr (ci, fs))]))) : V (cs X k0 n0) pc lv st (R ++ E) :=
  c_new g hA ty hty hin hw hc d hfs hR (fun q => c_ws (List.append_assoc R E _) (k1 q))
theorem c_mnaE {index : Nat} {n k : Int32} {N K : Nat} (g : Gd (cs X k0 n0) w own cc nL rm) (hA : Al X) (hw : Cond.arrayClass .int ∈ lw_t2 ∧ Cond.classLink own index "[[I" ∈ lw_t2) (d : decode cc pc = .ok (.multianewarray index 2, 4)) (hN : ¬ n < 0 ∧ n.toNatClampNeg = N ∧ N ≤ 100) (hK : ¬ k < 0 ∧ k.toNatClampNeg = K ∧ K ≤ 100) (hR : (Nat.ble (k0 + 1 + N) rm.cells && Nat.ble (n0 + N + N * K) rm.slots) = true)
    (k1 : ∀ (q : Nat) (r : Nat → Nat), V (cs X (k0 + 1 + N) (n0 + N + N * K)) (pc + 4) lv (.ref q :: st) (R ++ (E ++ ((q, .inl (w.2.2.1, N, .inr (.inr (.inr (.inr (fun i => if i < N then some (r i) else none)))))) :: (List.range N).map (fun i => (r i, .inl (w.2.1, K, .inl (fun _ => 0)))))))) : V (cs X k0 n0) pc lv (.int k :: .int n :: st) (R ++ E) :=
  c_mna g hA hw d hN hK hR (fun q r => c_ws (List.append_assoc R E _) (k1 q r))
theorem c_ret {mc ms : Nat} {post : va_W → Prop} {ws : va_W} (g : Gd (cs X mc ms) w own cc nL rm) (hR : RtC X w mc ms post) (d : decode cc pc = .ok (.return_, 1)) (hp : post ws) : V (cs X mc ms) pc lv [] ws := by
  obtain ⟨p, l, e, R', s, m, args, below, meth, c', Q, nL', cells, slots, D, A⟩ := X
  obtain ⟨g1, g2, g3, g4, g5, g6, g7, g8, g9, g10⟩ := g
  obtain ⟨r1, r2, r3⟩ := hR
  subst r1
  intro ls H locs hl hP hD hS
  exact W.vret g1 g2 r2 (fun t ht hW => ⟨⟨ws, rfl, hp, by rw [ht]; exact hP, va_K.moved hW.alike g8, hD⟩, hS.F ht⟩) hS.2.2 d r3
/-- a call of a constructor: mc cells of ms slots are new -/
theorem c_callI {l : Launch} {D : va_G} {A : Nat → Prop} {index na maxL a mc ms : Nat} {y : MethodName} {bytes : ByteArray} {rmc : Room} {As st0 : List Value} {ws : va_W} {post : va_W → Prop} (g : Gd (cs X k0 n0) w own cc nL rm) (hX : atX X l D A) (hA : Al X) (d : decode cc pc = .ok (.invokespecial index, 3)) (hM : MetC l D A w y bytes maxL rmc mc ms (.ref a :: As) ws post) (hb : KB own index y bytes maxL none na) (hv : Cond.instanceMethod y ∈ lw_t2 ∧ y.name = "<init>") (hn : As.length = na) (hst : st0 = As.reverse ++ .ref a :: st) (hR : (Nat.ble (rmc.frames + 1) rm.frames && Nat.ble (8 + (maxL + 11) + rmc.locals) rm.locals && Nat.beq rmc.cells mc && Nat.beq rmc.slots ms && Nat.ble (k0 + mc) rm.cells && Nat.ble (n0 + ms) rm.slots) = true) (hc8 : Nat.ble ((st.map fun v => v.category).sum) 8 = true)
    (k1 : ∀ ws' : va_W, post ws' → V (cs X (k0 + mc) (n0 + ms)) (pc + 3) lv st ws') : V (cs X k0 n0) pc lv st0 ws := by
  obtain ⟨p, l', e, R, s, m, args, below, meth, c', Q, nL', cells, slots, D', A'⟩ := X
  obtain ⟨g1, g2, g3, g4, g5, g6, g7, g8, g9, g10⟩ := g
  obtain ⟨rfl, rfl, rfl⟩ := hX
  obtain ⟨b1, b2, b3, b4⟩ := hb
  simp only [Bool.and_eq_true, Nat.ble_eq, Nat.beq_eq] at hR
  subst g6
  subst g7
  subst hst
  intro ls H locs hl hP hD hS
  have hrun := va_runI (locs := locs) (cells := k0) (slots := n0) (below := below) (e := e) (meth := meth) (g := F0 m pc ls (As.reverse ++ .ref a :: st)) (rest := st) (H := H) (As := As) ⟨g1, g2, g3, g4, g5⟩ hM ⟨callB_of na g5 (t2_code b3) rfl hR.1.1.1.2 hR.1.1.2 (g5 _ b2) (g5 _ b1) b4 ⟨hR.1.1.1.1.1, hR.1.1.1.1.2⟩, hv.2, g5 _ hv.1⟩
    ⟨PC_blind, fun U hU hW => ⟨rfl, by rw [hU]; exact hP, va_K.moved hW.alike g8, hD, fun q hq => hA.1 q (by have := hS.1; rw [hU] at hq; omega), ext_warm hW hA.2.1, AOv_moved hW.alike hA.2.2⟩⟩ rfl hn hl.1 rfl (lv_room (Nat.le_of_ble_eq_true hc8)) d ⟨hR.1.2, hR.2⟩
  intro T0 hT X0
  obtain ⟨v, st₀, t, T', L, h0, X', hL, e1, e2, ⟨⟨ws', hv', hp', hP', hK', hD'⟩, hz, hk⟩, hgo⟩ := hrun T0 hT X0
  cases hv'
  have hS' : va_S A' s.heap T'.heap (locs ++ L) := ⟨Nat.le_trans hS.1 (by rw [e1, ← h0]; exact hz), fun q h1 h2 => by rw [e1, hk q (by rw [h0]; exact Nat.lt_of_lt_of_le h1 hS.1) h2, h0]; exact hS.2.1 q h1 h2, fun q hq => by
    rcases List.mem_append.mp hq with h | h
    · exact hS.2.2 q h
    · exact hL q h⟩
  obtain ⟨t2, a1, c1⟩ := k1 ws' hp' ls T'.heap (locs ++ L) hl (by rw [e1]; exact hP') hD' hS' T' rfl X'
  exact ⟨t2, hgo t2 a1, c1⟩
theorem c_callIN {l : Launch} {D : va_G} {A : Nat → Prop} {index na maxL a mc ms : Nat} {y : MethodName} {host : String} {bytes : ByteArray} {rmc : Room} {As st0 : List Value} {ws : va_W} {post : va_W → Prop} (g : Gd (cs X k0 n0) w own cc nL rm) (hX : atX X l D A) (hA : Al X) (d : decode cc pc = .ok (.invokespecial index, 3)) (hM : MetC l D A w y bytes maxL rmc mc ms (.ref a :: As) ws post) (hN : Cond.methodLinkNest own index y host ∈ lw_ext) (hb : Cond.initialized y.cls ∈ lw_t2 ∧ Cond.code y bytes maxL none ∈ lw_t2 ∧ (y.cls ≠ "java/lang/invoke/MethodHandle" ∧ y.cls ≠ "java/lang/invoke/VarHandle" ∧ (parseMethodDescriptor y.desc).map (fun d => d.parameters.length) = some na)) (hv : Cond.instanceMethod y ∈ lw_t2 ∧ y.name = "<init>") (hn : As.length = na) (hst : st0 = As.reverse ++ .ref a :: st) (hR : (Nat.ble (rmc.frames + 1) rm.frames && Nat.ble (8 + (maxL + 11) + rmc.locals) rm.locals && Nat.beq rmc.cells mc && Nat.beq rmc.slots ms && Nat.ble (k0 + mc) rm.cells && Nat.ble (n0 + ms) rm.slots) = true) (hc8 : Nat.ble ((st.map fun v => v.category).sum) 8 = true)
    (k1 : ∀ ws' : va_W, post ws' → V (cs X (k0 + mc) (n0 + ms)) (pc + 3) lv st ws') : V (cs X k0 n0) pc lv st0 ws := by
  obtain ⟨p, l', e, R, s, m, args, below, meth, c', Q, nL', cells, slots, D', A'⟩ := X
  obtain ⟨g1, g2, g3, g4, g5, g6, g7, g8, g9, g10⟩ := g
  obtain ⟨rfl, rfl, rfl⟩ := hX
  obtain ⟨b2, b3, b4⟩ := hb
  simp only [Bool.and_eq_true, Nat.ble_eq, Nat.beq_eq] at hR
  subst g6
  subst g7
  subst hst
  intro ls H locs hl hP hD hS
  have hrun := va_runIN (locs := locs) (cells := k0) (slots := n0) (below := below) (e := e) (meth := meth) (g := F0 m pc ls (As.reverse ++ .ref a :: st)) (rest := st) (H := H) (As := As) ⟨g1, g2, g3, g4, g5⟩ hM ⟨va_cnB na g5 (t2_code b3) rfl hR.1.1.1.2 hR.1.1.2 (hA.2.1 _ hN) (g5 _ b2) b4 ⟨hR.1.1.1.1.1, hR.1.1.1.1.2⟩, hv.2, g5 _ hv.1⟩
    ⟨PC_blind, fun U hU hW => ⟨rfl, by rw [hU]; exact hP, va_K.moved hW.alike g8, hD, fun q hq => hA.1 q (by have := hS.1; rw [hU] at hq; omega), ext_warm hW hA.2.1, AOv_moved hW.alike hA.2.2⟩⟩ rfl hn hl.1 rfl (lv_room (Nat.le_of_ble_eq_true hc8)) d ⟨hR.1.2, hR.2⟩
  intro T0 hT X0
  obtain ⟨v, st₀, t, T', L, h0, X', hL, e1, e2, ⟨⟨ws', hv', hp', hP', hK', hD'⟩, hz, hk⟩, hgo⟩ := hrun T0 hT X0
  cases hv'
  have hS' : va_S A' s.heap T'.heap (locs ++ L) := ⟨Nat.le_trans hS.1 (by rw [e1, ← h0]; exact hz), fun q h1 h2 => by rw [e1, hk q (by rw [h0]; exact Nat.lt_of_lt_of_le h1 hS.1) h2, h0]; exact hS.2.1 q h1 h2, fun q hq => by
    rcases List.mem_append.mp hq with h | h
    · exact hS.2.2 q h
    · exact hL q h⟩
  obtain ⟨t2, a1, c1⟩ := k1 ws' hp' ls T'.heap (locs ++ L) hl (by rw [e1]; exact hP') hD' hS' T' rfl X'
  exact ⟨t2, hgo t2 a1, c1⟩
end CRows
