theorem SX_cs {X : Cx} {b L k n : Nat} {xs : Nat → Int32} (h : SX X b L xs) : SX (cs X k n) b L xs := by
  obtain ⟨p, l, e, R, s, m, args, below, meth, c', Q, nL', cells, slots, D, A⟩ := X
  exact h
/-- the law's loop -/
theorem law_loop {X : Cx} {l : Launch} {D : va_G} {A : Nat → Prop} {b L : Nat} {xs : Nat → Int32} {aX aM : Nat → Nat} {cA cR : ClassId} (hL : L ≤ 3072) (g : Gd X (aX, cA, cR, []) RL cL_law 4 room_1) (hX : atX X l D A) (hS : SX X b L xs) (hQ : LQ X b) : ∀ d i μX μM, L + 6 - i = d → i ≤ L + 6 → INR i μX μM → V X 18 [(0, .ref b), (1, .ref (aX 0)), (2, .ref (aM 0)), (3, .int (nI i))] [] (W2 aX aM cA cR μX μM) := by
  intro d
  induction d using Nat.strongRecOn with
  | ind d ih =>
    intro i μX μM hd hi hr
    refine lq_head g hX hS hQ (fun x3 μX μM => ∃ j, i < j ∧ x3 = nI j ∧ j ≤ L + 6 ∧ INR j μX μM) (fun x3 μX μM hp => ?_) (nI i) μX μM (fun q => ?_)
    · obtain ⟨j, hj, rfl, hj2, h1⟩ := hp
      exact ih (L + 6 - j) (by omega) j μX μM rfl hj2 h1
    · have hle : i + 6 ≤ L := by
        have e : (Int32.ofNat L - 6).toInt = (L : Int) - 6 := pk_sub_toInt (a := L) (b := 6) (by omega) (by omega)
        rw [Int32.lt_iff_toInt_lt, e, nI_toInt (by omega)] at q
        omega
      refine tu_turn (by omega) (fun c hc => by rw [nI_add]; exact vp_in_nI (by omega) (by omega)) hr (fun μ1 μ2 h1 => ⟨i + 6, by omega, ?_, by omega, h1⟩)
      exact nI_add i 6
theorem law_go {X : Cx} {l : Launch} {D : va_G} {A : Nat → Prop} {b L : Nat} {xs : Nat → Int32} {a : Nat → Nat} {cA cR : ClassId} (hL : L ≤ 3072) (g : Gd X (a, cA, cR, []) RL cL_law 4 room_1) (hX : atX X l D A) (hA : Al X) (hS : SX X b L xs) (hQ : ∀ k n, k ≤ 600000 → n ≤ 7302249 → LQ (cs X k n) b) : V (cs X 0 0) 0 [(0, .ref b)] [] [] := by
  have g0 := Gd_cs 0 0 g rfl
  refine c_new (pc := 0) (ci := 11) (fs := [.null, .null, .null, .null, .null, .null, .null, .null, .null, .null, .null, .null, .int 0, .int 0]) g0 hA tyX11 tyX11_ok iw_X11 ⟨kl_7, ki_11, kn_9⟩ rfl dL_law_0 dq_X11 rfl (fun q0 => ?_)
  have g1 := Gd_cs 1 14 g rfl
  refine r_dup (pc := 3) g1 dL_law_3 rfl ?_
  refine c_callI (pc := 4) (na := 0) (st := [.ref q0]) g1 hX hA dL_law_4 (n_X11_init [] q0 (fun ws' => V (cs X 58 5810) 7 [(0, .ref b)] [.ref q0] ws') (fun q1 q3 r4 q5 q6 q8 q10 q11 q12 q14 q16 q17 q18 q19 f20 q21 f22 q23 q24 f25 q26 f27 q33 q35 r36 q37 q39 q41 q43 q45 q46 q47 q48 q49 q51 q53 q54 q55 q56 q57 q59 q61 q62 q64 q66 q67 q69 q71 q72 q74 q77 hf20 hf22 hf25 hf27 => ?_)) kq_9 ⟨kj_9, rfl⟩ rfl rfl rfl rfl (fun ws' h => h)
  have g2 := Gd_cs 58 5810 g rfl
  refine r_astore_n (pc := 7) (lv' := [(1, .ref q0), (0, .ref b)]) g2 dL_law_7 rfl rfl ?_
  refine c_new (pc := 8) (ci := 12) (fs := [.int 0, .int 0, .null, .null, .null, .int 0, .null, .null, .null, .null, .int 0, .int 0, .int 0, .null, .null, .int 0, .null, .int 0, .null, .null, .null, .null, .null, .null, .null, .null, .null, .null, .null]) g2 hA tyX12 tyX12_ok iw_X12 ⟨kl_10, ki_12, kn_12⟩ rfl dL_law_8 dq_X12 rfl (fun m0 => ?_)
  have g3 := Gd_cs 59 5839 g rfl
  refine r_dup (pc := 11) g3 dL_law_11 rfl ?_
  refine c_callI (pc := 12) (na := 0) (st := [.ref m0]) g3 hX hA dL_law_12 (n_X12_init [(q0, .inr (11, [.ref q1, .ref q8, .ref q14, .ref q33, .ref q39, .ref q43, .ref q51, .ref q59, .ref q64, .ref q69, .ref q74, .ref q77, .int 0, .int 0])), (q1, .inr (7, [.ref q3, .ref q5, .ref q6])), (q3, .inl (cR, 4, .inr (.inr (.inr (.inr (fun i => if i < 4 then some (r4 i) else none)))))), ((r4 0), .inl (cA, 60, .inl (fun _ => 0))), ((r4 1), .inl (cA, 60, .inl (fun _ => 0))), ((r4 2), .inl (cA, 60, .inl (fun _ => 0))), ((r4 3), .inl (cA, 60, .inl (fun _ => 0))), (q5, .inl (cA, 4, .inl (upd (upd (upd (upd (fun _ => 0) (0 : Int32).toNatClampNeg (-1)) (1 : Int32).toNatClampNeg (-1)) (2 : Int32).toNatClampNeg (-1)) (3 : Int32).toNatClampNeg (-1)))), (q6, .inl (cA, 4, .inl (fun _ => 0))), (q8, .inr (9, [.ref q10, .ref q11, .ref q12, .int 0, .int 0, .int 0, .int 0])), (q10, .inl (cA, 9, .inl (fun _ => 0))), (q11, .inl (cA, 9, .inl (fun _ => 0))), (q12, .inl (cA, 10, .inl (fun _ => 0))), (q14, .inr (10, [.ref q16, .ref q17, .ref q18, .ref q23, .int 0, .int 0])), (q16, .inl (cA, 9, .inl (fun _ => 0))), (q17, .inl (cA, 9, .inl (fun _ => 0))), (q18, .inr (5, [.ref q19, .ref q21])), (q19, .inl (cA, 32, .inl (f20))), (q21, .inl (cA, 32, .inl (f22))), (q23, .inr (5, [.ref q24, .ref q26])), (q24, .inl (cA, 32, .inl (f25))), (q26, .inl (cA, 32, .inl (f27))), (q33, .inr (3, [.ref q35, .ref q37, .int 0])), (q35, .inl (cR, 8, .inr (.inr (.inr (.inr (fun i => if i < 8 then some (r36 i) else none)))))), ((r36 0), .inl (cA, 9, .inl (fun _ => 0))), ((r36 1), .inl (cA, 9, .inl (fun _ => 0))), ((r36 2), .inl (cA, 9, .inl (fun _ => 0))), ((r36 3), .inl (cA, 9, .inl (fun _ => 0))), ((r36 4), .inl (cA, 9, .inl (fun _ => 0))), ((r36 5), .inl (cA, 9, .inl (fun _ => 0))), ((r36 6), .inl (cA, 9, .inl (fun _ => 0))), ((r36 7), .inl (cA, 9, .inl (fun _ => 0))), (q37, .inl (cA, 8, .inl (fun _ => 0))), (q39, .inr (1, [.ref q41, .int 0, .int 0, .int 0, .ref q14])), (q41, .inl (cA, 9, .inl (fun _ => 0))), (q43, .inr (6, [.ref q14, .ref q45, .ref q46, .ref q47, .ref q48, .ref q49, .int 0, .int 0, .int 0, .int (-1)])), (q45, .inl (cA, 9, .inl (fun _ => 0))), (q46, .inl (cA, 9, .inl (fun _ => 0))), (q47, .inl (cA, 512, .inl (fun _ => 0))), (q48, .inl (cA, 512, .inl (fun _ => 0))), (q49, .inl (cA, 512, .inl (fun _ => 0))), (q51, .inr (6, [.ref q14, .ref q53, .ref q54, .ref q55, .ref q56, .ref q57, .int 0, .int 0, .int 0, .int (-1)])), (q53, .inl (cA, 9, .inl (fun _ => 0))), (q54, .inl (cA, 9, .inl (fun _ => 0))), (q55, .inl (cA, 512, .inl (fun _ => 0))), (q56, .inl (cA, 512, .inl (fun _ => 0))), (q57, .inl (cA, 512, .inl (fun _ => 0))), (q59, .inr (0, [.ref q61, .int 0, .int 0, .ref q14, .ref q62, .int (-1)])), (q61, .inl (cA, 10, .inl (fun _ => 0))), (q62, .inl (cA, 10, .inl (fun _ => 0))), (q64, .inr (2, [.ref q66, .ref q67, .ref q14, .ref q39, .int 0, .int 0])), (q66, .inl (cA, 9, .inl (fun _ => 0))), (q67, .inl (cA, 9, .inl (fun _ => 0))), (q69, .inr (4, [.ref q14, .ref q39, .ref q71, .ref q72])), (q71, .inl (cA, 1024, .inl (fun _ => 0))), (q72, .inl (cA, 1024, .inl (fun _ => 0))), (q74, .inr (8, [.int 0, .int 0, .int 0, .ref q14, .ref q51, .int (-1)])), (q77, .inl (cA, 9, .inl (fun _ => 0)))] m0 (fun ws' => V (cs X 80 10868) 15 [(1, .ref q0), (0, .ref b)] [.ref m0] ws') (fun m1 m3 m5 m7 m9 m11 m13 m15 m17 m19 m21 m23 m25 m27 m29 m31 m33 m35 m37 m39 m41 => ?_)) kq_12 ⟨kj_12, rfl⟩ rfl rfl rfl rfl (fun ws' h => h)
  have g4 := Gd_cs 80 10868 g rfl
  refine r_astore_n (pc := 15) (lv' := [(2, .ref m0), (1, .ref q0), (0, .ref b)]) g4 dL_law_15 rfl rfl ?_
  refine r_iconst (pc := 16) g4 dL_law_16 rfl ?_
  refine r_istore_n (pc := 17) (lv' := [(3, .int 0), (2, .ref m0), (1, .ref q0), (0, .ref b)]) g4 dL_law_17 rfl rfl ?_
  refine r_sub [3, 2, 1, 0] (lv' := [(0, .ref b), (1, .ref q0), (2, .ref m0), (3, .int 0)]) rfl ?_
  have hfin := law_loop (aX := lk [q0, q1, q3, q5, q6, (r4 0), (r4 1), (r4 2), (r4 3), q8, q10, q11, q12, q14, q16, q17, q18, q19, q21, q23, q24, q26, q33, q35, q37, (r36 0), (r36 1), (r36 2), (r36 3), (r36 4), (r36 5), (r36 6), (r36 7), q39, q41, q43, q45, q46, q47, q48, q49, q51, q53, q54, q55, q56, q57, q59, q61, q62, q64, q66, q67, q69, q71, q72, q74, q77]) (aM := lk [m0, m1, m3, m5, m7, m9, m11, m13, m15, m17, m19, m21, m23, m25, m27, m29, m31, m33, m35, m37, m39, m41]) hL (Gd_w g4) (atX_cs hX) (SX_cs hS) (hQ 80 10868 (by omega) (by omega)) (L + 6) 0 (muX f20 f22 f25 f27) muM (by omega) (by omega) (INR_start (IX_start hf20 hf22 hf25 hf27) IM_start)
  unfold W2 at hfin
  rw [wlX2 q0 q1 q3 r4 q5 q6 q8 q10 q11 q12 q14 q16 q17 q18 q19 f20 q21 f22 q23 q24 f25 q26 f27 q33 q35 r36 q37 q39 q41 q43 q45 q46 q47 q48 q49 q51 q53 q54 q55 q56 q57 q59 q61 q62 q64 q66 q67 q69 q71 q72 q74 q77, wlM1 m0 m1 m3 m5 m7 m9 m11 m13 m15 m17 m19 m21 m23 m25 m27 m29 m31 m33 m35 m37 m39 m41] at hfin
  exact r_pick [0, 1, 2, 7, 8, 3, 4, 5, 6, 9, 10, 11, 12, 13, 14, 15, 16, 17, 18, 19, 20, 21, 22, 23, 32, 24, 25, 26, 27, 28, 29, 30, 31, 33, 34, 35, 36, 37, 38, 39, 40, 41, 42, 43, 44, 45, 46, 47, 48, 49, 50, 51, 52, 53, 54, 55, 56, 57, 58, 59, 60, 61, 62, 63, 64, 65, 66, 67, 68, 69, 70, 71, 72, 73, 74, 75, 76, 77, 78, 79] (by decide) rfl hfin
theorem whole_start {p : Program} {e : Env} {s : State} {m : MethodId} {below : List Frame} {meth : Method} {c : Code} (l : Launch) {b L : Nat} {xs : Nat → Int32} (hL : L ≤ 3072) (C0 : lw_At p s m meth c b L xs) : W p l e room_1 s m #[Value.ref b] below meth c s.heap [] 0 0 (lw_Z below #[Value.ref b] s) (entryFrame m ([Value.ref b] : List Value).toArray 4) := by
  obtain ⟨hx, hb, hr, hml, hown, hts, hXs, hbl, hlocks, hgv⟩ := id C0
  have h2 : ∀ q ∈ lw_t2, q.before #[Value.ref b] s = true := fun q hq => hts q (List.mem_filter.mp hq).1
  obtain ⟨c0, i0, K0⟩ := u_known (C := RX0) (T := TX0) (N := 6) (n := 6) h2 iw_X0 (h2 _ ki_0)
  obtain ⟨c1, i1, K1⟩ := u_known (C := RX1) (T := TX1) (N := 5) (n := 5) h2 iw_X1 (h2 _ ki_1)
  obtain ⟨c2, i2, K2⟩ := u_known (C := RX2) (T := TX2) (N := 6) (n := 6) h2 iw_X2 (h2 _ ki_2)
  obtain ⟨c3, i3, K3⟩ := u_known (C := RX3) (T := TX3) (N := 3) (n := 3) h2 iw_X3 (h2 _ ki_3)
  obtain ⟨c4, i4, K4⟩ := u_known (C := RX4) (T := TX4) (N := 4) (n := 4) h2 iw_X4 (h2 _ ki_4)
  obtain ⟨c5, i5, K5⟩ := u_known (C := RX5) (T := TX5) (N := 2) (n := 2) h2 iw_X5 (h2 _ ki_5)
  obtain ⟨c6, i6, K6⟩ := u_known (C := RX6) (T := TX6) (N := 10) (n := 10) h2 iw_X6 (h2 _ ki_6)
  obtain ⟨c7, i7, K7⟩ := u_known (C := RX7) (T := TX7) (N := 3) (n := 3) h2 iw_X7 (h2 _ ki_7)
  obtain ⟨c8, i8, K8⟩ := u_known (C := RX8) (T := TX8) (N := 6) (n := 6) h2 iw_X8 (h2 _ ki_8)
  obtain ⟨c9, i9, K9⟩ := u_known (C := RX9) (T := TX9) (N := 7) (n := 7) h2 iw_X9 (h2 _ ki_9)
  obtain ⟨c10, i10, K10⟩ := u_known (C := RX10) (T := TX10) (N := 6) (n := 6) h2 iw_X10 (h2 _ ki_10)
  obtain ⟨c11, i11, K11⟩ := u_known (C := RX11) (T := TX11) (N := 14) (n := 14) h2 iw_X11 (h2 _ ki_11)
  obtain ⟨c12, i12, K12⟩ := u_known (C := RX12) (T := TX12) (N := 29) (n := 29) h2 iw_X12 (h2 _ ki_12)
  obtain ⟨dC, dI, hKc⟩ : ∃ (dC : Nat → ClassId) (dI : Nat → Nat → Nat), ∀ (k : Nat) (q : vw_C), vwCl[k]? = some q → u_Kn s q.1 q.2.1 q.2.2 (dC k) (dI k) := by
    refine ⟨fun k => match k with | 0 => c0 | 1 => c1 | 2 => c2 | 3 => c3 | 4 => c4 | 5 => c5 | 6 => c6 | 7 => c7 | 8 => c8 | 9 => c9 | 10 => c10 | 11 => c11 | _ => c12, fun k => match k with | 0 => i0 | 1 => i1 | 2 => i2 | 3 => i3 | 4 => i4 | 5 => i5 | 6 => i6 | 7 => i7 | 8 => i8 | 9 => i9 | 10 => i10 | 11 => i11 | _ => i12, ?_⟩
    intro k q hq
    match k, hq with
    | 0, hq => cases hq; exact K0
    | 1, hq => cases hq; exact K1
    | 2, hq => cases hq; exact K2
    | 3, hq => cases hq; exact K3
    | 4, hq => cases hq; exact K4
    | 5, hq => cases hq; exact K5
    | 6, hq => cases hq; exact K6
    | 7, hq => cases hq; exact K7
    | 8, hq => cases hq; exact K8
    | 9, hq => cases hq; exact K9
    | 10, hq => cases hq; exact K10
    | 11, hq => cases hq; exact K11
    | 12, hq => cases hq; exact K12
    | k + 13, hq => simp [vwCl] at hq
  obtain ⟨cA, kA, compA, fA, hkA, hkindA⟩ := Cond.arrayClass_spec (h2 _ k_128)
  have hov : AOv s := by
    have hq := hts _ ko_t
    unfold AOv
    unfold Cond.before at hq ⊢
    simp only [Cond.holds, Cond.value] at hq ⊢
    exact hq
  obtain ⟨comp, cR, kR, o1, o2, o3, o4, o5⟩ := AOv_spec hov
  have hK : va_K (dC, dI) vwCl (wtys ((fun _ => 0), cA, cR, [])) s := by
    refine ⟨hKc, fun k q hk => ?_⟩
    match k, hk with
    | 0, hk => cases hk; exact ⟨fun N z => ⟨(fun k h => by cases h), kA, hkA, compA, hkindA⟩, fA⟩
    | 1, hk => cases hk; exact ⟨fun N z => ⟨(fun k h => by cases h), kR, o3, comp, o4⟩, o5⟩
    | k + 2, hk => simp [wtys] at hk
  have hl := lv_entry ([.ref b]) (n := 4) (Nat.le_of_ble_eq_true rfl)
  rw [lg_entry_eq]
  have hgo := law_go (X := (p, l, e, room_1, s, m, #[Value.ref b], below, meth, c, lw_Z below #[Value.ref b] s, 4, 0, 0, (dC, dI), fun q => s.heap.size ≤ q)) (l := l) (D := (dC, dI)) (A := fun q => s.heap.size ≤ q) (b := b) (L := L) (xs := xs) hL ⟨hx, hb, hml, hown, h2, rfl, rfl, hK, Nat.zero_le _, Nat.zero_le _⟩ ⟨rfl, rfl, rfl⟩ ⟨fun _ h => h, fun q hq => va_Nw.of (ext_on hq) (hts q (kx_all q hq)), hov⟩ ⟨hXs, hbl, Nat.not_le.mpr hbl⟩ (fun k n hk hn => ⟨rfl, rfl, rfl, hr, hlocks, hk, hn, rfl, hb⟩)
  exact hgo _ s.heap [] hl (fun k q h => by simp at h) ⟨fun i j p q h => by simp at h, fun k q h => by simp at h⟩ va_S.rf
-- ===== YOUR PART ENDS =====
set_option maxHeartbeats 4000000 in
theorem lw_walk (l : Launch) (b : Addr) (xs : List Int32) : MetFree l x (headSpec (Jvm.Cond.code x code maxLocals ret :: tables_1) room_1) (lw_P b xs) (fun _ _ _ _ _ => True) lw_Q := by
  refine MetFree.of_bodyS (code := code) (maxLocals := maxLocals) (ret := ret) (by decide) ?_ ?_
  · intro args s m h hn
    obtain ⟨meth, c, h1, h2, h3, h4, h5, h6, -, -⟩ := Cond.code_spec hn (atoms_spec (ws := Jvm.Cond.code x code maxLocals ret :: tables_1) h _ List.mem_cons_self)
    exact ⟨meth, c, h1, h2, h3, h4, h5, h6⟩
  · intro p e s m args below meth c s₁ B hml0 hP _
    obtain ⟨rfl, hx, hbd, hgv⟩ := hP
    obtain ⟨scr, harrAt, hlist, hof, hsmall⟩ := hx
    obtain ⟨hcb, hkn, -, -⟩ := State.arrayAt?_spec harrAt
    have hown : s.vm.findClass R_law = some m.cls := findClass_of_methodNamed B.named
    have hts0 : ∀ c ∈ (Jvm.Cond.code x code maxLocals ret :: tables_1), c.before #[Value.ref b] s = true := atoms_spec (ws := Jvm.Cond.code x code maxLocals ret :: tables_1) B.pre
    have hts : ∀ w ∈ lw_tbl, w.before #[Value.ref b] s = true := k2_hts_sels lw_privs (fun w hw => hts0 w (List.mem_cons_of_mem _ hw)) lw_privs_ok
    have hml : c.maxLocals = 4 := B.maxLocals_eq (hts0 _ List.mem_cons_self)
    have X₀ : Stand p l e room_1 s m #[Value.ref b] below meth c s₁ [] 0 0 := Stand.of_body B
    have hh0 : s₁.heap = s.heap := by rw [B.state]; rfl
    have hsz : scr.slots.size = xs.length := by rw [← Array.length_toList, hlist, List.length_map]
    have hval : ∀ j : Nat, j < xs.length → scr.slots[j]? = some (.int (xs.getD j 0)) := fun j hj => by
      rw [← Array.getElem?_toList, hlist]
      simp [hj]
    have hbl : b < s.heap.size := (Array.getElem?_eq_some_iff.mp hcb).1
    have hX : va_X b xs.length (fun j => xs.getD j 0) s s.heap := ⟨scr, hcb, hof, hkn, hsz, hval⟩
    have K : W p l e room_1 s m #[Value.ref b] below meth c s₁.heap [] 0 0 (lw_Z below #[Value.ref b] s) (entryFrame m ([Value.ref b] : List Value).toArray 4) := by
      rw [hh0]
      exact whole_start l hbd ⟨B.exec, B.bytes, B.returns, hml, hown, hts, hX, hbl, B.notSynchronized, hgv⟩
    obtain ⟨t, a1, o, b1, b2, b3⟩ := K s₁ rfl X₀
    exact ⟨t, o, a1, b1, b2, b3⟩
theorem lw_pre_spec {args : Array Value} {s : State} (h : (Jvm.Cond.and given_1 narrow_1).before args s = true) (hr : rest_1_c.before args s = true) : ∃ (b : Addr) (xs : List Int32), lw_P b xs args s := by
  have hs := flat_of_before _ h
  have hq := flat_of_before _ hr
  have hc : (Cond.count 1).before args s = true := hs _ (by decide +kernel)
  have harr : (Cond.arrayOf (.arg 0) .int).before args s = true := hs _ (by decide +kernel)
  have hle : (Cond.le (.length (.arg 0)) (.int 3072)).before args s = true := hs _ (by decide +kernel)
  have hlen : (Cond.isInt (.length (.arg 0))).before args s = true := hq _ (by decide +kernel)
  have hall : (Cond.all (.arg 0) (.isInt (.elem (.arg 0) (.index 0)))).before args s = true := hq _ (by decide +kernel)
  obtain ⟨b, xs, hb, hx⟩ := State.ints_of_pre rfl harr hlen hall
  have hsm : xs.length < 2 ^ 31 := hx.choose_spec.2.2.2
  have hev : (Term.length (.arg 0)).eval args s none [] s = some (.int xs.length.toInt32) := hx.length_eval hb
  have hv := Cond.le_ints hev (show (Term.int 3072).eval args s none [] s = some (.int 3072) from rfl)
  have hd : xs.length.toInt32 ≤ 3072 := by
    simpa [Cond.before, Cond.holds, hv] using hle
  have hN : xs.length ≤ 3072 := (Int32.ofNat_le_ofNat hsm (by decide)).mp (show Int32.ofNat xs.length ≤ Int32.ofNat 3072 from hd)
  exact ⟨b, xs, Cond.one_arg hc (show args[0]? = some (.ref b) from hb), hx, hN, h⟩
theorem lw_comes (l : Launch) : Comes l x (Jvm.Cond.code x code maxLocals ret :: tables_1) room_1 (fun tb e args s => Calls_1 tb e args s ∧ rest_1 tb e args s ∧ Pre_1 tb e args s)
    (fun _ _ args s o t => lw_Q args s o t) := by
  intro p e ha hc hk s m args below hf hfit hheap happ hpre
  obtain ⟨b, xs, hP⟩ := lw_pre_spec hpre.2.2 hpre.2.1
  obtain ⟨k, o, h1, h2, h3, hQ⟩ := lw_walk l b xs p e ha hc hk s m args below hf ((Spec.applies_iff_loose hf).mp happ).1 hP trivial
  exact ⟨k, o, h1, h2, h3, hQ⟩
theorem lw_frame {s t : State} {o : Outcome} {args : Array Value} (h : Framed s o t [] 600000 7302249) :
    Framed s o t (fieldLocs frame_1_writes args s ++ arrayLocs frame_1_arrays args s ++ staticLocs frame_1_statics s) 600000 7302249 := h
theorem lw_limb (L : Cond) (hL : ∀ (args : Array Value) (s t : State), L.after args s (.returned (some (.int 1))) t = true) :
    ArmFor flags0 classFile x code maxLocals ret World_1 tables_1 room_1 Calls_1 rest_1 Pre_1
      (fun tb e a s o t => postC L tb e a s o t ∧ Framed s o t (fieldLocs frame_1_writes a s ++ arrayLocs frame_1_arrays a s ++ staticLocs frame_1_statics s) 600000 7302249) := by
  intro l _ _ _ p e ha hc hk s m args below hf hfit hheap happ hpre
  obtain ⟨k, o, h1, h2, h3, rfl, hF⟩ := lw_comes l p e ha hc hk s m args below hf hfit hheap happ hpre
  exact ⟨k, _, h1, h2, h3, hL args s _, lw_frame hF⟩
theorem i_vc : Claimed_1_1 ∧ Claimed_1_2 := ⟨lw_limb limb_1_1 (fun args s t => by simp [limb_1_1, Cond.after, Cond.holds, Cond.value]), lw_limb limb_1_2 (fun args s t => Cond.after_iff.mpr (by
  first | (rw [show limb_1_2 = Cond.eq .result (.int 1) from rfl, Cond.eq_ints (x := 1) (y := 1) rfl rfl]; simp; done) | (simp [limb_1_2, Cond.value, Term.eval]; done)))⟩
