/-! the class as a whole: its invariant, and its calls -/
theorem rb_t {c A B : Prop} (h : ¬ c) (a : A) : (¬ c → A) ∧ (c → B) := ⟨fun _ => a, fun z => absurd z h⟩
theorem rb_f {c A B : Prop} (h : c) (b : B) : (¬ c → A) ∧ (c → B) := ⟨fun z => absurd h z, fun _ => b⟩
theorem n10 : ¬ (1 : Int32) = 0 := by decide
def sQ : Nat → Prop := fun k => (9 ≤ k ∧ k ≤ 12) ∨ 33 ≤ k
def IX (n m : Nat) (z1 z2 : Nat → Nat) (μ : Mem) : Prop := WK n μ ∧ ScR 16 z1 μ ∧ ScR 19 z2 μ ∧ OP μ ∧ (∃ a, SRa 35 a μ) ∧ (∃ a, SRa 41 a μ) ∧ RM μ ∧ TXI μ ∧ (∀ k, k < 4 → ∃ l, l ≤ 60 ∧ μ 4 k = nI l) ∧ m ≤ 8 ∧ μ 22 2 = nI m ∧ (∀ j, j < m → RW n (25 + j) μ)
theorem IX_fr {n m : Nat} {z1 z2 : Nat → Nat} {S : Nat → Prop} {μ μ' : Mem} (h : IX n m z1 z2 μ) (f : Fr S μ μ') (hS : ∀ k, S k → sQ k) (ho : OP μ') (h35 : ∃ a, SRa 35 a μ') (h41 : ∃ a, SRa 41 a μ') (hr : RM μ') (ht : TXI μ') : IX n m z1 z2 μ' := by
  obtain ⟨a1, a2, a3, a4, a5, a6, a7, a8, a9, a10, a11, a12⟩ := h
  have g := Fr_mono f hS
  refine ⟨WK_fr a1 g (by unfold sQ; omega) (by unfold sQ; omega), ScR_fr a2 g (by unfold sQ; omega) (by unfold sQ; omega), ScR_fr a3 g (by unfold sQ; omega) (by unfold sQ; omega), ho, h35, h41, hr, ht, fun k hk => ?_, a10, ?_, fun j hj => RW_fr (a12 j hj) g (by unfold sQ; omega)⟩
  · rw [g 4 (by unfold sQ; omega)]; exact a9 k hk
  · rw [g 22 (by unfold sQ; omega)]; exact a11
theorem IX_B {n m : Nat} {z1 z2 : Nat → Nat} {μ μ' : Mem} (h : IX n m z1 z2 μ) (f : Fr sB μ μ') : IX n m z1 z2 μ' :=
  IX_fr h f (fun k q => by unfold sB at q; unfold sQ; omega) (OP_fr h.2.2.2.1 f (by unfold sB; omega)) (h.2.2.2.2.1.imp fun a q => SRa_of q (f 35 (by unfold sB; omega))) (h.2.2.2.2.2.1.imp fun a q => SRa_of q (f 41 (by unfold sB; omega))) (RM_of h.2.2.2.2.2.2.1 (f 53 (by unfold sB; omega))) (TXI_fr h.2.2.2.2.2.2.2.1 f (by unfold sB; omega) (by unfold sB; omega) (by unfold sB; omega))
theorem IX_V {n m : Nat} {z1 z2 : Nat → Nat} {μ μ' : Mem} (h : IX n m z1 z2 μ) (f : Fr sV μ μ') (ho : OP μ') : IX n m z1 z2 μ' :=
  IX_fr h f (fun k q => by unfold sV at q; unfold sQ; omega) ho (h.2.2.2.2.1.imp fun a q => SRa_of q (f 35 (by unfold sV; omega))) (h.2.2.2.2.2.1.imp fun a q => SRa_of q (f 41 (by unfold sV; omega))) (RM_of h.2.2.2.2.2.2.1 (f 53 (by unfold sV; omega))) (TXI_fr h.2.2.2.2.2.2.2.1 f (by unfold sV; omega) (by unfold sV; omega) (by unfold sV; omega))
theorem IX_G {n m : Nat} {z1 z2 : Nat → Nat} {μ μ' : Mem} (h : IX n m z1 z2 μ) (f : Fr sG μ μ') (ho : OP μ') : IX n m z1 z2 μ' := IX_V h (Fr_mono f sG_V) ho
theorem IX_R {n m : Nat} {z1 z2 : Nat → Nat} {μ μ' : Mem} (h : IX n m z1 z2 μ) (f : Fr sR μ μ') (hr : RM μ') : IX n m z1 z2 μ' :=
  IX_fr h f (fun k q => by unfold sR at q; unfold sQ; omega) (OP_fr h.2.2.2.1 f (by unfold sR; omega)) (h.2.2.2.2.1.imp fun a q => SRa_of q (f 35 (by unfold sR; omega))) (h.2.2.2.2.2.1.imp fun a q => SRa_of q (f 41 (by unfold sR; omega))) hr (TXI_fr h.2.2.2.2.2.2.2.1 f (by unfold sR; omega) (by unfold sR; omega) (by unfold sR; omega))
theorem IX_T {n m : Nat} {z1 z2 : Nat → Nat} {μ μ' : Mem} (h : IX n m z1 z2 μ) (f : Fr sT μ μ') (ht : TXI μ') : IX n m z1 z2 μ' :=
  IX_fr h f (fun k q => by unfold sT at q; unfold sQ; omega) (OP_fr h.2.2.2.1 f (by unfold sT; omega)) (h.2.2.2.2.1.imp fun a q => SRa_of q (f 35 (by unfold sT; omega))) (h.2.2.2.2.2.1.imp fun a q => SRa_of q (f 41 (by unfold sT; omega))) (RM_of h.2.2.2.2.2.2.1 (f 53 (by unfold sT; omega))) ht
theorem IX_35 {n m a : Nat} {z1 z2 : Nat → Nat} {μ μ' : Mem} (h : IX n m z1 z2 μ) (f : Fr (sS 35) μ μ') (hs : SRa 35 a μ') : IX n m z1 z2 μ' :=
  IX_fr h f (fun k q => by unfold sS at q; unfold sQ; omega) (OP_fr h.2.2.2.1 f (by unfold sS; omega)) ⟨a, hs⟩ (h.2.2.2.2.2.1.imp fun a q => SRa_of q (f 41 (by unfold sS; omega))) (RM_of h.2.2.2.2.2.2.1 (f 53 (by unfold sS; omega))) (TXI_fr h.2.2.2.2.2.2.2.1 f (by unfold sS; omega) (by unfold sS; omega) (by unfold sS; omega))
theorem IX_41' {n m a : Nat} {z1 z2 : Nat → Nat} {μ μ' : Mem} (h : IX n m z1 z2 μ) (f : Fr (fun q => sS 41 q ∨ q = 56) μ μ') (hs : SRa 41 a μ') : IX n m z1 z2 μ' :=
  IX_fr h f (fun k q => by unfold sS at q; unfold sQ; omega) (OP_fr h.2.2.2.1 f (by unfold sS; omega)) (h.2.2.2.2.1.imp fun a q => SRa_of q (f 35 (by unfold sS; omega))) ⟨a, hs⟩ (RM_of h.2.2.2.2.2.2.1 (f 53 (by unfold sS; omega))) (TXI_fr h.2.2.2.2.2.2.2.1 f (by unfold sS; omega) (by unfold sS; omega) (by unfold sS; omega))
theorem IX_41 {n m a : Nat} {z1 z2 : Nat → Nat} {μ μ' : Mem} (h : IX n m z1 z2 μ) (f : Fr (sS 41) μ μ') (hs : SRa 41 a μ') : IX n m z1 z2 μ' := IX_41' h (Fr_mono f (fun k q => Or.inl q)) hs
def fre (q : Nat) : Prop := q = 0 ∨ q = 3 ∨ (5 ≤ q ∧ q ≤ 8) ∨ q = 11 ∨ q = 15 ∨ q = 24 ∨ q = 33 ∨ (47 ≤ q ∧ q ≤ 52) ∨ 54 ≤ q
theorem IX_free {n m : Nat} {z1 z2 : Nat → Nat} {μ μ' : Mem} (h : IX n m z1 z2 μ) (g : Fr fre μ μ') : IX n m z1 z2 μ' := by
  obtain ⟨a1, a2, a3, a4, a5, a6, a7, a8, a9, a10, a11, a12⟩ := h
  refine ⟨WK_fr a1 g (by unfold fre; omega) (by unfold fre; omega), ScR_fr a2 g (by unfold fre; omega) (by unfold fre; omega), ScR_fr a3 g (by unfold fre; omega) (by unfold fre; omega), OP_fr a4 g (by unfold fre; omega), a5.imp fun a q => SRa_of q (g 35 (by unfold fre; omega)), a6.imp fun a q => SRa_of q (g 41 (by unfold fre; omega)), RM_of a7 (g 53 (by unfold fre; omega)), TXI_fr a8 g (by unfold fre; omega) (by unfold fre; omega) (by unfold fre; omega), fun k hk => ?_, a10, ?_, fun j hj => RW_fr (a12 j hj) g (by unfold fre; omega)⟩
  · rw [g 4 (by unfold fre; omega)]; exact a9 k hk
  · rw [g 22 (by unfold fre; omega)]; exact a11
theorem IX_q {n m q : Nat} {z1 z2 : Nat → Nat} {μ : Mem} {f : Nat → Int32} (h : IX n m z1 z2 μ) (hq : fre q) : IX n m z1 z2 (mput μ q f) := IX_free h (Fr_put _ _ hq)
theorem fre0 : fre 0 := by unfold fre; omega
theorem shXr {j : Nat} (h : j < 8) : shX (25 + j) = .inl 9 := by
  rcases (show j = 0 ∨ j = 1 ∨ j = 2 ∨ j = 3 ∨ j = 4 ∨ j = 5 ∨ j = 6 ∨ j = 7 by omega) with rfl | rfl | rfl | rfl | rfl | rfl | rfl | rfl <;> rfl
theorem shXs {j : Nat} (h : j < 4) : shX (5 + j) = .inl 60 := by
  rcases (show j = 0 ∨ j = 1 ∨ j = 2 ∨ j = 3 by omega) with rfl | rfl | rfl | rfl <;> rfl
/-- an order of the class is measured -/
theorem sX_meas {n m j : Nat} {z1 z2 : Nat → Nat} {μ : Mem} {post : Mem → Prop} (h : IX n m z1 z2 μ) (hj : j < m) (k : ∀ μ', Fr sG μ μ' → IX n m z1 z2 μ' → (∃ v, v ≤ 990 ∧ μ' 33 1 = nI v) → (μ' 33 3 = 0 ∨ μ' 33 3 = 1) → post μ') : T_X1_measure (25 + j) μ post := by
  have h8 := h.2.2.2.2.2.2.2.2.2.1
  exact sX_measure h.1 h.2.1 h.2.2.2.1 (shXr (by omega)) (by unfold sG; omega) (h.2.2.2.2.2.2.2.2.2.2.2 j hj) (fun μ' hf ho hm hl => k μ' hf (IX_G h hf ho) hm hl)
theorem fG_Q {μ μ' : Mem} (f : Fr sG μ μ') : Fr sQ μ μ' := Fr_mono f (fun k q => by unfold sG at q; unfold sQ; omega)
theorem fV_Q {μ μ' : Mem} (f : Fr sV μ μ') : Fr sQ μ μ' := Fr_mono f (fun k q => by unfold sV at q; unfold sQ; omega)
theorem fB_Q {μ μ' : Mem} (f : Fr sB μ μ') : Fr sQ μ μ' := Fr_mono f (fun k q => by unfold sB at q; unfold sQ; omega)
theorem fR_Q {μ μ' : Mem} (f : Fr sR μ μ') : Fr sQ μ μ' := Fr_mono f (fun k q => by unfold sR at q; unfold sQ; omega)
theorem fS_Q {c : Nat} (hc : 33 ≤ c) {μ μ' : Mem} (f : Fr (sS c) μ μ') : Fr sQ μ μ' := Fr_mono f (fun k q => by unfold sS at q; unfold sQ; omega)
section Calls
variable {n m : Nat} {z1 z2 : Nat → Nat} {μ : Mem} {post : Int32 → Mem → Prop} {x1 x2 x3 x4 x5 : Int32}
theorem xW (h : IX n m z1 z2 μ) : μ 13 4 = nI n := h.1.1
theorem xN (h : IX n m z1 z2 μ) : n ≤ 9 := h.1.2.1
theorem xM (h : IX n m z1 z2 μ) : μ 22 2 = nI m := h.2.2.2.2.2.2.2.2.2.2.1
theorem xM8 (h : IX n m z1 z2 μ) : m ≤ 8 := h.2.2.2.2.2.2.2.2.2.1
theorem xRow (h : IX n m z1 z2 μ) {j : Nat} (hj : j < m) : RW n (25 + j) μ := h.2.2.2.2.2.2.2.2.2.2.2 j hj
theorem pX_ofWork (h : IX n m z1 z2 μ) (k : ∀ r, post r μ) : T_X11_ofWork x1 x2 μ post := by
  have h9 := xN h
  refine sX_wHas (xW h) h9 (fun _ => rb_f rfl (k _)) (fun j hj e => rb_t n10 ?_)
  subst e
  have i1 := in9 (show j < 9 by omega) (by omega)
  exact ⟨fun _ => ⟨fun _ => k _, fun _ => ⟨i1, k _⟩⟩, fun _ => ⟨i1, k _⟩⟩
theorem pX_ofOrder (h : IX n m z1 z2 μ) (k : ∀ r μ', Fr sQ μ μ' → IX n m z1 z2 μ' → post r μ') : T_X11_ofOrder x1 x2 μ post := by
  have h9 := xN h
  have h8 := xM8 h
  refine sX_oHas (xM h) h8 (fun _ => rb_f rfl (k _ μ (Fr_rf _ _) h)) (fun j hj e => rb_t n10 ?_)
  subst e
  have i1 := in9 (show j < 8 by omega) (by omega)
  rw [cl9 (show j < 1000000 by omega)]
  refine ⟨i1, sX_meas h hj (fun μ2 hf h2 _ _ => ?_)⟩
  have k2 : ∀ r, post r μ2 := fun r => k r μ2 (fG_Q hf) h2
  refine ⟨fun _ => ⟨i1, k2 _⟩, fun _ => k2 _, fun _ => k2 _, fun _ => ⟨fun _ => k2 _, fun _ => k2 _⟩, fun _ _ _ _ => ⟨fun _ => k2 _, fun q1 => ⟨fun q2 => ?_, fun _ => k2 _⟩⟩⟩
  obtain ⟨p, hp, e⟩ := nI_of q1
  rw [e, xW h2, nI_ltI hp (by omega)] at q2
  rw [e]
  have i2 := in9 (show p < 9 by omega) (by omega)
  exact ⟨fun _ => ⟨i1, i2, k2 _⟩, fun _ => ⟨i2, k2 _⟩, fun _ => ⟨i2, sX_sum' (fun r => k2 r)⟩, fun _ _ _ => k2 _⟩
theorem pX_best (h : IX n m z1 z2 μ) (k : ∀ r μ', Fr sQ μ μ' → IX n m z1 z2 μ' → post r μ') : T_X11_best x1 μ post := by
  have h9 := xN h
  obtain ⟨a, ha⟩ := h.2.2.2.2.1
  have hc : isSearch 35 := Or.inl rfl
  refine ⟨fun _ => sX_refresh6 hc h.1 h.2.1 ha (fun b μ2 hf2 hs2 => ?_), fun _ => k _ μ (Fr_rf _ _) h⟩
  have h2 := IX_35 h hf2 hs2
  have q2 := fS_Q (by decide) hf2
  have kk : ∀ r μ', Fr (sS 35) μ2 μ' → SRa 35 b μ' → post r μ' := fun r μ' hf hs => k r μ' (Fr_tr q2 (fS_Q (by decide) hf)) (IX_35 h2 hf hs)
  have k2 : ∀ r, post r μ2 := fun r => k r μ2 q2 h2
  refine ⟨fun _ => ⟨fun _ => ⟨fun _ => k2 _, fun q1 => ⟨fun q3 => ?_, fun _ => k2 _⟩⟩, fun _ => sX_longFrom (d := 0) hc hs2 h2.2.1 (by omega) kk⟩, fun _ => ⟨i512, k2 _⟩⟩
  have q0 : ¬ x1 < 0 := fun q => q1 (Int32.lt_trans q (by decide))
  obtain ⟨p, hp, rfl⟩ := nI_of q0
  have hp10 : 10 ≤ p := by
    rcases Nat.lt_or_ge p 10 with q | q
    · exact absurd (nI_lt (b := 10) q (by omega)) q1
    · exact q
  have e : nI p - 10 = nI (p - 10) := pk_sub (b := 10) hp10
  rw [e, xW h2, nI_ltI (by omega) (by omega)] at q3
  rw [e]
  exact sX_workAt hc hs2 h2.2.1 (by omega) kk
theorem pX_from (h : IX n m z1 z2 μ) (k : ∀ r μ', Fr sQ μ μ' → IX n m z1 z2 μ' → post r μ') : T_X11_from x1 x2 x3 μ post := by
  have h9 := xN h
  have h8 := xM8 h
  obtain ⟨a, ha⟩ := h.2.2.2.2.1
  have hc : isSearch 35 := Or.inl rfl
  have k1 : ∀ r, post r μ := fun r => k r μ (Fr_rf _ _) h
  refine sX_oHas (xM h) h8 (fun _ => rb_f rfl (k1 _)) (fun j hj e => rb_t n10 ⟨fun _ => k1 _, fun q1 => ⟨fun _ => k1 _, fun q2 => ⟨fun _ => k1 _, fun _ => ⟨fun _ => ?_, fun _ => k1 _⟩⟩⟩⟩)
  subst e
  obtain ⟨p, hp, rfl⟩ := nI_of q1
  rw [xW h, nI_ltI (by omega) hp] at q2
  refine sX_setOfFirst (m := m) (by omega) (by omega) h9 (xRow h hj) (fun r hr => ?_)
  obtain ⟨d, hd, rfl⟩ := lo_nI hr
  refine sX_isClosed (xW h) h9 (rb_f rfl (k1 _)) (rb_t n10 ?_)
  refine sX_refresh6 hc h.1 h.2.1 ha (fun b μ2 hf2 hs2 => ?_)
  have h2 := IX_35 h hf2 hs2
  have q2 := fS_Q (by decide) hf2
  have kk : ∀ r μ', Fr (sS 35) μ2 μ' → SRa 35 b μ' → post r μ' := fun r μ' hf hs => k r μ' (Fr_tr q2 (fS_Q (by decide) hf)) (IX_35 h2 hf hs)
  exact ⟨fun _ => ⟨fun _ => sX_nextFrom hc hs2 h2.2.1 hd kk, fun _ => sX_longFrom hc hs2 h2.2.1 hd kk⟩, fun _ => ⟨in9 hd (by omega), k _ μ2 q2 h2⟩⟩
theorem pX_better (h : IX n m z1 z2 μ) (k : ∀ r μ', Fr sQ μ μ' → IX n m z1 z2 μ' → post r μ') : T_X11_better x1 x2 μ post := by
  have h9 := xN h
  have h8 := xM8 h
  have k1 : ∀ r, post r μ := fun r => k r μ (Fr_rf _ _) h
  refine sX_oHas (xM h) h8 (fun _ => br_t rfl (k1 _)) (fun i hi e => br_f n10 (sX_oHas (xM h) h8 (fun _ => rb_f rfl (k1 _)) (fun j hj e2 => rb_t n10 ?_)))
  subst e e2
  have i1 := in9 (show i < 8 by omega) (by omega)
  have i2 := in9 (show j < 8 by omega) (by omega)
  rw [cl9 (show i < 1000000 by omega), cl9 (show j < 1000000 by omega)]
  refine ⟨i2, sX_meas h hj (fun μ2 hf2 h2 _ _ => ⟨i1, sX_meas h2 hi (fun μ3 hf3 h3 _ _ => ⟨i1, i2, ?_⟩)⟩)⟩
  have k2 : ∀ r, post r μ3 := fun r => k r μ3 (Fr_tr (fG_Q hf2) (fG_Q hf3)) h3
  exact sX_beats h3.1 (shXr (by omega)) (shXr (by omega)) ⟨fun _ => k2 _, fun _ => k2 _⟩ ⟨fun _ => k2 _, fun _ => k2 _⟩
theorem pX_cross (h : IX n m z1 z2 μ) (k : ∀ r μ', Fr sQ μ μ' → IX n m z1 z2 μ' → post r μ') : T_X11_cross x1 μ post := by
  have h9 := xN h
  have k1 : ∀ r, post r μ := fun r => k r μ (Fr_rf _ _) h
  refine ⟨fun _ => k1 _, fun q1 => ⟨fun q2 => sX_refresh0 h.1 (fun μ2 hf => ⟨?_, k _ μ2 (fB_Q hf) (IX_B h hf)⟩), fun _ => k1 _⟩⟩
  obtain ⟨p, hp, rfl⟩ := nI_of q1
  rw [xW h, nI_leI hp (by omega)] at q2
  exact in9 (by omega) (by omega)
theorem pX_knot (h : IX n m z1 z2 μ) (k : ∀ r μ', Fr sQ μ μ' → IX n m z1 z2 μ' → post r μ') : T_X11_knot x1 μ post := by
  have k1 : ∀ r, post r μ := fun r => k r μ (Fr_rf _ _) h
  refine ⟨fun _ => k1 _, fun q1 => ⟨fun q2 => sX_refresh0 h.1 (fun μ2 hf => ?_), fun _ => k1 _⟩⟩
  exact ⟨fun _ => k _ μ2 (fB_Q hf) (IX_B h hf), fun _ => k _ μ2 (fB_Q hf) (IX_B h hf)⟩
theorem pX_bound (h : IX n m z1 z2 μ) (k : ∀ r μ', Fr sQ μ μ' → IX n m z1 z2 μ' → post r μ') : T_X11_bound μ post := by
  refine sX_refresh0 h.1 (fun μ2 hf => ?_)
  have h2 := IX_B h hf
  exact sX_greatestCross (xW h2) (xN h2) (fun r => sX_greatestNeed (xW h2) (xN h2) (fun r2 => k _ μ2 (fB_Q hf) h2))
theorem pX_part (h : IX n m z1 z2 μ) (k : ∀ r, post r μ) : T_X11_part x1 μ post := by
  have h9 := xN h
  refine ⟨fun _ => sX_wHas (xW h) h9 (fun _ => br_t rfl (k _)) (fun j hj e => br_f n10 ?_), fun _ => sX_countParts h.1 (fun r => k r)⟩
  subst e
  exact sX_leastOfPart h.1 (by omega) (fun r => k r)
theorem pX_within (h : IX n m z1 z2 μ) (k : ∀ r, post r μ) : T_X11_within μ post := sX_allWithin h.1 (fun r => k r)
theorem pX_lawful (h : IX n m z1 z2 μ) {j : Nat} (hj : j < m) (k : ∀ r μ', Fr sG μ μ' → IX n m z1 z2 μ' → post r μ') : T_X11_isLawful (nI j) μ post := by
  have h8 := xM8 h
  unfold T_X11_isLawful
  rw [cl9 (show j < 1000000 by omega)]
  exact ⟨in9 (by omega) (by omega), sX_meas h hj (fun μ2 hf h2 _ hl => ⟨hl, k _ μ2 hf h2⟩)⟩
theorem pX_moves (h : IX n m z1 z2 μ) (k : ∀ r μ', Fr sQ μ μ' → IX n m z1 z2 μ' → post r μ') : T_X11_moves x1 μ post := by
  have h8 := xM8 h
  have k1 : ∀ r, post r μ := fun r => k r μ (Fr_rf _ _) h
  refine sX_oHas (xM h) h8 (fun _ => rb_f rfl (k1 _)) (fun j hj e => rb_t n10 ?_)
  subst e
  rw [cl9 (show j < 1000000 by omega)]
  refine pX_lawful h hj (fun r μ2 hf h2 => ⟨fun _ => k _ μ2 (fG_Q hf) h2, fun _ => ⟨in9 (by omega) (by omega), sX_improve h2.1 h2.2.1 h2.2.2.2.1 (shXr (by omega)) (xRow h2 hj) (fun u μ3 hf3 ho3 _ => k _ μ3 (Fr_tr (fG_Q hf) (fV_Q hf3)) (IX_V h2 hf3 ho3))⟩⟩)
theorem pX_cheapest (h : IX n m z1 z2 μ) (k : ∀ r μ', Fr sQ μ μ' → IX n m z1 z2 μ' → post r μ') : T_X11_cheapest x1 x2 μ post := by
  have h8 := xM8 h
  have k1 : ∀ r, post r μ := fun r => k r μ (Fr_rf _ _) h
  refine sX_oHas (xM h) h8 (fun _ => rb_f rfl (k1 _)) (fun j hj e => rb_t n10 ⟨fun _ => k1 _, fun _ => ⟨fun _ => ?_, fun _ => k1 _⟩⟩)
  subst e
  have i1 := in9 (show j < 8 by omega) (by omega)
  rw [cl9 (show j < 1000000 by omega)]
  refine ⟨i1, sX_meas h hj (fun μ2 hf h2 _ _ => sX_greatestNeed (xW h2) (xN h2) (fun r => ⟨fun _ => ⟨i1, ?_⟩, fun _ => k _ μ2 (fG_Q hf) h2⟩))⟩
  exact sX_leastPrice h2.1 h2.2.1 h2.2.2.1 h2.2.2.2.1 (shXr (by omega)) (by unfold sR; omega) (xRow h2 hj) h2.2.2.2.2.2.2.1 (fun v μ3 hf3 h3 => k _ μ3 (Fr_tr (fG_Q hf) (fR_Q hf3)) (IX_R h2 hf3 h3))
theorem pX_room (h : IX n m z1 z2 μ) (k : ∀ r μ', Fr sQ μ μ' → IX n m z1 z2 μ' → post r μ') : T_X11_room x1 x2 μ post := by
  have h8 := xM8 h
  have k1 : ∀ r, post r μ := fun r => k r μ (Fr_rf _ _) h
  refine sX_oHas (xM h) h8 (fun _ => rb_f rfl (k1 _)) (fun j hj e => rb_t n10 ⟨fun _ => k1 _, fun _ => ⟨fun _ => ?_, fun _ => k1 _⟩⟩)
  subst e
  have i1 := in9 (show j < 8 by omega) (by omega)
  rw [cl9 (show j < 1000000 by omega)]
  refine ⟨i1, sX_meas h hj (fun μ2 hf h2 hm _ => ⟨i1, ?_⟩)⟩
  exact sX_leastRoom h2.1 h2.2.1 h2.2.2.1 h2.2.2.2.1 (shXr (by omega)) (by unfold sR; omega) (xRow h2 hj) h2.2.2.2.2.2.2.1 hm (fun v μ3 hf3 h3 => k _ μ3 (Fr_tr (fG_Q hf) (fR_Q hf3)) (IX_R h2 hf3 h3))
theorem pX_two (h : IX n m z1 z2 μ) (k : ∀ r μ', Fr sQ μ μ' → IX n m z1 z2 μ' → post r μ') : T_X11_two x1 μ post := by
  have k1 : ∀ r, post r μ := fun r => k r μ (Fr_rf _ _) h
  obtain ⟨a, ha⟩ := h.2.2.2.2.2.1
  refine ⟨fun _ => ⟨fun _ => k1 _, fun _ => ⟨fun _ => sX_refresh8 h.1 h.2.1 ha (fun b μ2 hf hs => ?_), fun _ => k1 _⟩⟩, fun _ => k1 _⟩
  have k2 : ∀ r, post r μ2 := fun r => k r μ2 (Fr_mono hf (fun q hq => by unfold sS at hq; unfold sQ; omega)) (IX_41' h hf hs)
  exact ⟨fun _ => k2 _, fun _ => k2 _, fun _ => k2 _, fun _ _ _ => k2 _⟩
theorem pX_mostWithout (h : IX n m z1 z2 μ) (k : ∀ r μ', Fr sQ μ μ' → IX n m z1 z2 μ' → post r μ') : T_X11_mostWithout x1 x2 μ post :=
  sX_all (xW h) (xN h) (sX_leastMost (Or.inr rfl) h.1 h.2.1 (fun r a μ2 hf hs => k r μ2 (fS_Q (by decide) hf) (IX_41 h hf hs)))
theorem pX_without (h : IX n m z1 z2 μ) (k : ∀ r μ', Fr sQ μ μ' → IX n m z1 z2 μ' → post r μ') : T_X11_without x1 μ post :=
  sX_wHas (xW h) (xN h) (fun _ => br_t rfl (k _ μ (Fr_rf _ _) h)) (fun j hj e => br_f n10 (pX_mostWithout h k))
theorem pX_why (h : IX n m z1 z2 μ) (k : ∀ r μ', Fr sQ μ μ' → IX n m z1 z2 μ' → post r μ') : T_X11_why x1 x2 μ post := by
  have h9 := xN h
  have k1 : ∀ r, post r μ := fun r => k r μ (Fr_rf _ _) h
  refine sX_wHas (xW h) h9 (fun _ => br_t rfl (k1 _)) (fun i hi e => br_f n10 (sX_wHas (xW h) h9 (fun _ => rb_f rfl (k1 _)) (fun j hj e2 => rb_t n10 ?_)))
  subst e e2
  exact sX_isBefore (by omega) (by omega) ⟨fun _ => k1 _, fun _ => sX_leastMostUnbound (Or.inr rfl) h.1 h.2.1 (by omega) (fun r a μ2 hf hs => k r μ2 (fS_Q (by decide) hf) (IX_41 h hf hs))⟩
theorem pX_widest (h : IX n m z1 z2 μ) (k : ∀ r μ', Fr sQ μ μ' → IX n m z1 z2 μ' → post r μ') : T_X11_widest μ post := by
  have h9 := xN h
  intro P hP
  have H : ∀ j, j ≤ n → ∀ a b μ2, Fr sQ μ μ2 → IX n m z1 z2 μ2 → P a b (nI j) μ2 := by
    refine down_ind (fun a b μ2 hf h2 => hP _ _ _ _ (br_t (by rw [xW h2]; exact nI_self_le n) (k _ μ2 hf h2))) (fun j hj ih a b μ2 hf h2 => hP _ _ _ _ (br_f (by rw [xW h2]; exact nI_ge hj (by omega)) ?_))
    rw [nI_1]
    exact pX_mostWithout h2 (fun r μ3 hf3 h3 => ⟨fun _ => ih _ _ μ3 (Fr_tr hf hf3) h3, fun _ => ih _ _ μ3 (Fr_tr hf hf3) h3⟩)
  exact H 0 (Nat.zero_le _) _ _ μ (Fr_rf _ _) h
theorem pX_many (h : IX n m z1 z2 μ) (k : ∀ r, post r μ) : T_X11_many x1 μ post :=
  ⟨fun _ => k _, fun _ => k _, fun _ => sX_countBefores' h.1 (fun u => k u), fun _ => sX_all (xW h) (xN h) (sX_neededBy (xW h) (xN h) h.1.2.2 (fun r _ => sX_bitCount (k _))), fun _ _ _ _ => k _⟩
end Calls
