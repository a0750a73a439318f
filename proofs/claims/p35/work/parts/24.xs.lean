/-! the class's Mover and Orders -/
theorem br_ix {x y : Int32} {A B C : Prop} (n : Nat) (hy : y = nI n) (hn : n < 2 ^ 31) (a : (∀ j, j < n → x ≠ nI j) → A) (b : (∀ j, j < n → x ≠ nI j) → B) (c : ∀ j, j < n → x = nI j → C) : (x < 0 → A) ∧ (¬ x < 0 → ((y ≤ x → B) ∧ (¬ y ≤ x → C))) := by
  subst hy
  refine ⟨fun q => a (fun j hj e => ?_), fun q => ⟨fun q2 => b (fun j hj e => ?_), fun q2 => ?_⟩⟩
  · subst e; exact nI_pos (by omega) q
  · subst e; exact nI_ge hj hn q2
  · rcases pk_ix x hn with q3 | q3 | ⟨j, hj, e⟩
    · exact absurd q3 q
    · exact absurd q3 q2
    · exact c j hj e
theorem sX_oHas {x : Int32} {m : Nat} {μ : Mem} {post : Int32 → Mem → Prop} (hm : μ 22 2 = nI m) (h8 : m ≤ 8) (k0 : (∀ j, j < m → x ≠ nI j) → post 0 μ) (k1 : ∀ j, j < m → x = nI j → post 1 μ) : T_X3_has x μ post := br_ix m hm (by omega) k0 k0 k1
theorem sX_wHas {x : Int32} {n : Nat} {μ : Mem} {post : Int32 → Mem → Prop} (hn : μ 13 4 = nI n) (h9 : n ≤ 9) (k0 : (∀ j, j < n → x ≠ nI j) → post 0 μ) (k1 : ∀ j, j < n → x = nI j → post 1 μ) : T_X10_has x μ post := br_ix n hn (by omega) k0 k0 k1
theorem sX_isSheet {x : Int32} {μ : Mem} {post : Int32 → Mem → Prop} (k0 : (∀ j, j < 4 → x ≠ nI j) → post 0 μ) (k1 : ∀ j, j < 4 → x = nI j → post 1 μ) : T_X11_isSheet x μ post := br_ix 4 rfl (by omega) k0 k0 k1
theorem sX_isLane {x : Int32} {μ : Mem} {post : Int32 → Mem → Prop} (k0 : (∀ j, j < 3 → x ≠ nI j) → post 0 μ) (k1 : ∀ j, j < 3 → x = nI j → post 1 μ) : T_X11_isLane x μ post := br_ix 3 rfl (by omega) k0 k0 k1
theorem sX_isKind {x : Int32} {μ : Mem} {post : Int32 → Mem → Prop} (k0 : (∀ j, j < 3 → x ≠ nI j) → post 0 μ) (k1 : ∀ j, j < 3 → x = nI j → post 1 μ) : T_X11_isKind x μ post := by
  refine ⟨fun q => k0 (fun j hj e => ?_), fun q => ⟨fun q2 => k0 (fun j hj e => ?_), fun q2 => ?_⟩⟩
  · subst e; exact nI_pos (by omega) q
  · subst e; exact nI_nlt (a := 2) (b := j) (by omega) (by omega) q2
  · rcases pk_ix x (n := 3) (by omega) with q3 | q3 | ⟨j, hj, e⟩
    · exact absurd q3 q
    · obtain ⟨j, hj, e⟩ := nI_of q
      subst e
      rw [nI_leI (by omega) hj] at q3
      exact absurd (nI_lt (a := 2) (b := j) (by omega) hj) q2
    · exact k1 j hj e
theorem br01 {u : Int32} {A B : Prop} (h : u = 0 ∨ u = 1) (a : A) (b : B) : (u = 0 → A) ∧ (¬ u = 0 → B) := ⟨fun _ => a, fun _ => b⟩
theorem cp9 : ¬ (0 : Int32) < 0 ∧ ¬ (0 : Int32) < 0 ∧ ¬ (9 : Int32) < 0 ∧ (0 : Int32).toNatClampNeg + (9 : Int32).toNatClampNeg ≤ 9 ∧ (0 : Int32).toNatClampNeg + (9 : Int32).toNatClampNeg ≤ 9 := by decide
theorem cpy9 (f g : Nat → Int32) {k : Nat} (h : k < 9) : va_cpy f g (0 : Int32).toNatClampNeg (0 : Int32).toNatClampNeg (9 : Int32).toNatClampNeg k = f k := by
  have e0 : (0 : Int32).toNatClampNeg = 0 := by decide
  have e9 : (9 : Int32).toNatClampNeg = 9 := by decide
  rw [e0, e9, pk_cpy_in (Nat.zero_le _) (by omega)]
  congr 1
  omega
def sV : Nat → Prop := fun k => k = 33 ∨ k = 34 ∨ (50 ≤ k ∧ k ≤ 52)
theorem sG_V : ∀ k, sG k → sV k := fun k h => by unfold sG at h; unfold sV; omega
theorem RW_p {n r q : Nat} {μ : Mem} {f : Nat → Int32} (h : RW n r μ) (e : q ≠ r) : RW n r (mput μ q f) := fun k hk => by rw [mput_o e]; exact h k hk
theorem RW_u {n r : Nat} {μ : Mem} {f : Nat → Int32} (h : ∀ k, k < n → ∃ v, v < 9 ∧ f k = nI v) : RW n r (mput μ r f) := fun k hk => by rw [mput_same]; exact h k hk
theorem OP_p {q : Nat} {μ : Mem} {f : Nat → Int32} (h : OP μ) (e : q ≠ 34) : OP (mput μ q f) := fun k hk => by rw [mput_o e]; exact h k hk
theorem WK_p {n q : Nat} {μ : Mem} {f : Nat → Int32} (h : WK n μ) (e1 : q ≠ 13) (e2 : q ≠ 14) : WK n (mput μ q f) := ⟨by rw [mput_o e1]; exact h.1, h.2.1, fun w hw => by rw [mput_o e2]; exact h.2.2 w hw⟩
theorem ScR_p {c q : Nat} {z : Nat → Nat} {μ : Mem} {f : Nat → Int32} (h : ScR c z μ) (e1 : q ≠ c + 1) (e2 : q ≠ c + 2) : ScR c z (mput μ q f) := ⟨h.1, fun s hs => by rw [mput_o e1, mput_o e2]; exact h.2 s hs⟩
theorem sX_isGood59 {n p t : Nat} {z : Nat → Nat} {μ0 μ : Mem} {post : Int32 → Mem → Prop} (h : WK n μ) (hz : ScR 16 z μ) (ho : OP μ) (hp : p < n) (ht : t < n) (h51 : RW n 51 μ) (h52 : RW n 52 μ) (hf0 : Fr sV μ0 μ) (k : ∀ u μ', (u = 0 ∨ u = 1) → Fr sV μ0 μ' → OP μ' → RW n 51 μ' → RW n 52 μ' → post u μ') : T_X2_isGood_59 post (nI p) (nI t) μ := by
  have h9 := h.2.1
  refine ⟨in9 (by omega) (by omega), in9 (by omega) (by omega), ?_⟩
  rw [cl9 (show p < 1000000 by omega), cl9 (show t < 1000000 by omega)]
  have h52' : RW n 52 (mset μ 52 t (μ 51 p)) := RW_u (fun q hq => by
    by_cases e : q = t
    · subst e; rw [pk_us]; exact h51 p hp
    · rw [pk_un e]; exact h52 q hq)
  have h51' : RW n 51 (mset μ 52 t (μ 51 p)) := RW_p h51 (by decide)
  refine sX_measure (WK_p h (by decide) (by decide)) (ScR_p hz (by decide) (by decide)) (OP_p ho (by decide)) rfl (by unfold sG; omega) h52' (fun μ2 hf2 ho2 _ _ => ?_)
  have hf2' : Fr sV μ0 μ2 := Fr_tr (Fr_p hf0 (by unfold sV; omega)) (Fr_mono hf2 sG_V)
  have g1 := RW_fr h51' hf2 (by unfold sG; omega)
  have g2 := RW_fr h52' hf2 (by unfold sG; omega)
  have a0 := k 0 μ2 (Or.inl rfl) hf2' ho2 g1 g2
  have a1 := k 1 μ2 (Or.inr rfl) hf2' ho2 g1 g2
  have hw2 := WK_fr (WK_p (f := upd (μ 52) t (μ 51 p)) h (show (52 : Nat) ≠ 13 by decide) (show (52 : Nat) ≠ 14 by decide)) hf2 (by unfold sG; omega) (by unfold sG; omega)
  exact ⟨fun _ => a0, fun _ => sX_beats hw2 rfl rfl ⟨fun _ => a0, fun _ => a1⟩ ⟨fun _ => a0, fun _ => a1⟩⟩
theorem sX_isGood {n p t : Nat} {z : Nat → Nat} {μ : Mem} {post : Int32 → Mem → Prop} (h : WK n μ) (hz : ScR 16 z μ) (ho : OP μ) (hp : p < n) (ht : t < n) (h51 : RW n 51 μ) (k : ∀ u μ', (u = 0 ∨ u = 1) → Fr sV μ μ' → OP μ' → RW n 51 μ' → RW n 52 μ' → post u μ') : T_X2_isGood (nI p) (nI t) μ post := by
  have h9 := h.2.1
  refine ⟨cp9, pk_le t p (fun hle => ⟨⟨nI_pos (by omega), ?_, ?_, ?_, ?_⟩, ?_⟩) (fun hlt => ⟨⟨?_, nI_pos (by omega), ?_, ?_, ?_⟩, ?_⟩)⟩
  · rw [nI_1]; exact nI_pos (by omega)
  · rw [pk_sub hle]; exact nI_pos (by omega)
  · rw [pk_sub hle, cl9 (by omega), cl9 (by omega)]; omega
  · rw [nI_1, pk_sub hle, cl9 (by omega), cl9 (by omega)]; omega
  · rw [nI_1, pk_sub hle, cl9 (show t < 1000000 by omega), cl9 (show t + 1 < 1000000 by omega), cl9 (show p - t < 1000000 by omega), mput_same, mput_o (by decide)]
    refine sX_isGood59 (WK_p (WK_p h (by decide) (by decide)) (by decide) (by decide)) (ScR_p (ScR_p hz (by decide) (by decide)) (by decide) (by decide)) (OP_p (OP_p ho (by decide)) (by decide)) hp ht (RW_p (RW_p h51 (by decide)) (by decide)) (RW_u (fun q hq => ?_)) (Fr_p (Fr_p (Fr_rf _ _) (by unfold sV; omega)) (by unfold sV; omega)) k
    by_cases e : t + 1 ≤ q ∧ q < t + 1 + (p - t)
    · rw [pk_cpy_in e.1 e.2]; exact h51 _ (by omega)
    · rw [pk_cpy_out (by omega), cpy9 _ _ (by omega)]; exact h51 q hq
  · rw [nI_1]; exact nI_pos (by omega)
  · rw [pk_sub (by omega)]; exact nI_pos (by omega)
  · rw [nI_1, pk_sub (by omega), cl9 (by omega), cl9 (by omega)]; omega
  · rw [pk_sub (by omega), cl9 (by omega), cl9 (by omega)]; omega
  · rw [nI_1, pk_sub (by omega), cl9 (show p < 1000000 by omega), cl9 (show p + 1 < 1000000 by omega), cl9 (show t - p < 1000000 by omega), mput_same, mput_o (by decide)]
    refine sX_isGood59 (WK_p (WK_p h (by decide) (by decide)) (by decide) (by decide)) (ScR_p (ScR_p hz (by decide) (by decide)) (by decide) (by decide)) (OP_p (OP_p ho (by decide)) (by decide)) hp ht (RW_p (RW_p h51 (by decide)) (by decide)) (RW_u (fun q hq => ?_)) (Fr_p (Fr_p (Fr_rf _ _) (by unfold sV; omega)) (by unfold sV; omega)) k
    by_cases e : p ≤ q ∧ q < p + (t - p)
    · rw [pk_cpy_in e.1 e.2]; exact h51 _ (by omega)
    · rw [pk_cpy_out (by omega), cpy9 _ _ (by omega)]; exact h51 q hq
theorem sX_doFirstMove {n : Nat} {z : Nat → Nat} {μ : Mem} {post : Int32 → Mem → Prop} (h : WK n μ) (hz : ScR 16 z μ) (ho : OP μ) (h51 : RW n 51 μ) (k : ∀ u μ', (u = 0 ∨ u = 1) → Fr sV μ μ' → OP μ' → RW n 51 μ' → post u μ') : T_X2_doFirstMove μ post := by
  have h9 := h.2.1
  intro P hP
  have H : ∀ p, p ≤ n → ∀ μ1, Fr sV μ μ1 → OP μ1 → RW n 51 μ1 → P (nI p) μ1 := by
    refine down_ind (fun μ1 hf ho1 hr1 => ?_) (fun p hp ih μ1 hf ho1 hr1 => ?_)
    · have hw := WK_fr h hf (by unfold sV; omega) (by unfold sV; omega)
      exact hP _ _ (br_t (by rw [hw.1]; exact nI_self_le n) (k 0 μ1 (Or.inl rfl) hf ho1 hr1))
    · have hw := WK_fr h hf (by unfold sV; omega) (by unfold sV; omega)
      refine hP _ _ (br_f (by rw [hw.1]; exact nI_ge hp (by omega)) ?_)
      intro P2 hP2
      have H2 : ∀ t, t ≤ n → ∀ μ2, Fr sV μ μ2 → OP μ2 → RW n 51 μ2 → P2 (nI p) (nI t) μ2 := by
        refine down_ind (fun μ2 hf2 ho2 hr2 => ?_) (fun t ht ih2 μ2 hf2 ho2 hr2 => ?_)
        · have hw2 := WK_fr h hf2 (by unfold sV; omega) (by unfold sV; omega)
          refine hP2 _ _ _ (br_t (by rw [hw2.1]; exact nI_self_le n) ?_)
          rw [nI_1]
          exact ih μ2 hf2 ho2 hr2
        · have hw2 := WK_fr h hf2 (by unfold sV; omega) (by unfold sV; omega)
          refine hP2 _ _ _ (br_f (by rw [hw2.1]; exact nI_ge ht (by omega)) ?_)
          rw [nI_1]
          refine ⟨fun _ => ih2 μ2 hf2 ho2 hr2, fun _ => sX_isGood hw2 (ScR_fr hz hf2 (by unfold sV; omega) (by unfold sV; omega)) ho2 hp ht hr2 (fun u μ3 hu hf3 ho3 hr3 hr4 => ⟨fun _ => ih2 μ3 (Fr_tr hf2 hf3) ho3 hr3, fun _ => ⟨cp9, k 1 _ (Or.inr rfl) (Fr_p (Fr_p (Fr_p (Fr_tr hf2 hf3) (by unfold sV; omega)) (by unfold sV; omega)) (by unfold sV; omega)) (OP_p (OP_p (OP_p ho3 (by decide)) (by decide)) (by decide)) (RW_p (RW_p (RW_u (fun q hq => ?_)) (by decide)) (by decide))⟩⟩)⟩
          rw [cpy9 _ _ (by omega)]
          exact hr4 q hq
      exact H2 0 (Nat.zero_le _) μ1 hf ho1 hr1
  exact H 0 (Nat.zero_le _) μ (Fr_rf _ _) ho h51
theorem sX_improve {n r : Nat} {z : Nat → Nat} {μ : Mem} {post : Int32 → Mem → Prop} (h : WK n μ) (hz : ScR 16 z μ) (ho : OP μ) (hr : shX r = .inl 9) (hrow : RW n r μ) (k : ∀ u μ', Fr sV μ μ' → OP μ' → RW n 51 μ' → post u μ') : T_X2_improve r μ post := by
  have h9 := h.2.1
  refine ⟨hr, cp9, ?_⟩
  have h51 : RW n 51 (mput μ 51 (va_cpy (μ r) (μ 51) (0 : Int32).toNatClampNeg (0 : Int32).toNatClampNeg (9 : Int32).toNatClampNeg)) := RW_u (fun q hq => by rw [cpy9 _ _ (by omega)]; exact hrow q hq)
  refine sX_measure (WK_p h (by decide) (by decide)) (ScR_p hz (by decide) (by decide)) (OP_p ho (by decide)) rfl (by unfold sG; omega) h51 (fun μ2 hf2 ho2 _ _ => ?_)
  have hf2' : Fr sV μ μ2 := Fr_tr (Fr_put _ _ (by unfold sV; omega)) (Fr_mono hf2 sG_V)
  have g1 := RW_fr h51 hf2 (by unfold sG; omega)
  intro P hP
  have H : ∀ d, d ≤ 1000000 → ∀ μ1, Fr sV μ μ1 → OP μ1 → RW n 51 μ1 → P (nI d) μ1 := by
    refine down_ind (fun μ1 hf ho1 hr1 => hP _ _ (br_t (nI_self_le 1000000) (k _ μ1 hf ho1 hr1))) (fun d hd ih μ1 hf ho1 hr1 => hP _ _ (br_f (nI_ge (b := 1000000) hd (by omega)) ?_))
    rw [nI_1]
    exact sX_doFirstMove (WK_fr h hf (by unfold sV; omega) (by unfold sV; omega)) (ScR_fr hz hf (by unfold sV; omega) (by unfold sV; omega)) ho1 hr1 (fun u μ3 _ hf3 ho3 hr3 => ⟨fun _ => ih μ3 (Fr_tr hf hf3) ho3 hr3, fun _ => k _ μ3 (Fr_tr hf hf3) ho3 hr3⟩)
  exact H 0 (Nat.zero_le _) _ (Fr_p (Fr_p hf2' (by unfold sV; omega)) (by unfold sV; omega)) (OP_p (OP_p ho2 (by decide)) (by decide)) (RW_p (RW_p g1 (by decide)) (by decide))
theorem sX_add {m r : Nat} {x : Int32} {μ : Mem} {post : Int32 → Mem → Prop} (hm : μ 22 2 = nI m) (h8 : m < 8) (hr : shX r = .inl 9) (k : ∀ μ', Fr (fun q => q = 22 ∨ q = 24 ∨ q = 25 + m) μ μ' → μ' 22 = upd (μ 22) 2 (nI (m + 1)) → μ' 24 = upd (μ 24) m x → (∀ k, k < 9 → μ' (25 + m) k = μ r k) → post (nI m) μ') : T_X3_add r x μ post := by
  unfold T_X3_add
  rw [hm, cl9 (show m < 1000000 by omega)]
  have e22 : (mput μ (25 + m) (va_cpy (μ r) (μ (25 + m)) (0 : Int32).toNatClampNeg (0 : Int32).toNatClampNeg (9 : Int32).toNatClampNeg)) 22 = μ 22 := mput_o (by omega)
  have e24 : (mput μ (25 + m) (va_cpy (μ r) (μ (25 + m)) (0 : Int32).toNatClampNeg (0 : Int32).toNatClampNeg (9 : Int32).toNatClampNeg)) 24 = μ 24 := mput_o (by omega)
  have er : ∀ k, k < 9 → (mput μ (25 + m) (va_cpy (μ r) (μ (25 + m)) (0 : Int32).toNatClampNeg (0 : Int32).toNatClampNeg (9 : Int32).toNatClampNeg)) (25 + m) k = μ r k := fun k hk => by rw [mput_same, cpy9 _ _ hk]
  have hf : Fr (fun q => q = 22 ∨ q = 24 ∨ q = 25 + m) μ (mput μ (25 + m) (va_cpy (μ r) (μ (25 + m)) (0 : Int32).toNatClampNeg (0 : Int32).toNatClampNeg (9 : Int32).toNatClampNeg)) := Fr_put _ _ (Or.inr (Or.inr rfl))
  generalize mput μ (25 + m) (va_cpy (μ r) (μ (25 + m)) (0 : Int32).toNatClampNeg (0 : Int32).toNatClampNeg (9 : Int32).toNatClampNeg) = μ1 at e22 e24 er hf ⊢
  have i1 := in9 h8 (show 8 < 1000000 by omega)
  rw [e22, hm, cl9 (show m < 1000000 by omega)]
  have f22 : (mset μ1 24 m x) 22 = μ 22 := by unfold mset; rw [mput_o (by decide), e22]
  rw [f22, hm, nI_1]
  refine ⟨i1, hr, cp9, i1, ?_⟩
  rw [m2, pk_us, nI_pred]
  refine k _ (Fr_p (Fr_p hf (Or.inr (Or.inl rfl))) (Or.inl rfl)) ?_ ?_ (fun k hk => ?_)
  · rw [m2, f22]
  · unfold mset
    rw [mput_o (by decide), mput_same, e24]
  · unfold mset
    rw [mput_o (by omega), mput_o (by omega), er k hk]
theorem sX_setOfFirst {n m o j : Nat} {μ : Mem} {post : Int32 → Mem → Prop} (ho : o < 8) (hj : j ≤ n) (h9 : n ≤ 9) (hrow : RW n (25 + o) μ) (k : ∀ r, lo 9 r → post r μ) : T_X3_setOfFirst (nI o) (nI j) μ post := by
  intro P hP
  have H : ∀ q, q ≤ j → ∀ x, lo 9 x → P (nI o) (nI j) x (nI q) μ := by
    refine down_ind (fun x hx => hP _ _ _ _ _ (br_t (nI_self_le j) (k x hx))) (fun q hq ih x hx => hP _ _ _ _ _ (br_f (nI_ge hq (by omega)) ⟨in9 ho (by omega), in9 (by omega) (by omega), ?_⟩))
    rw [nI_1, cl9 (show o < 1000000 by omega), cl9 (show q < 1000000 by omega)]
    obtain ⟨v, hv, e⟩ := hrow q (by omega)
    rw [e]
    exact ih _ (lo_or hx (lo_shl hv (by decide)))
  exact H 0 (Nat.zero_le _) 0 (lo_0 _)
