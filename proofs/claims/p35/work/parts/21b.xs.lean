/-! scales: sums over sets by halves -/
def bz (b : Bool) (v : Nat) : Nat := if b then v else 0
def sum5 (z : Nat → Nat) (s : Nat) : Nat := bz (s.testBit 0) (z 0) + bz (s.testBit 1) (z 1) + bz (s.testBit 2) (z 2) + bz (s.testBit 3) (z 3) + bz (s.testBit 4) (z 4)
def sum10 (z : Nat → Nat) (x : Int32) : Nat := bz (hb x 0) (z 0) + bz (hb x 1) (z 1) + bz (hb x 2) (z 2) + bz (hb x 3) (z 3) + bz (hb x 4) (z 4) + (bz (hb x 5) (z 5) + bz (hb x 6) (z 6) + bz (hb x 7) (z 7) + bz (hb x 8) (z 8) + bz (hb x 9) (z 9))
theorem bz_le (b : Bool) (v : Nat) : bz b v ≤ v := by cases b <;> simp [bz]
def ScR (c : Nat) (z : Nat → Nat) (μ : Mem) : Prop := (∀ t, z t ≤ 99) ∧ ∀ s, s < 32 → μ (c + 1) s = nI (sum5 z s) ∧ μ (c + 2) s = nI (sum5 (fun t => z (t + 5)) s)
theorem sum10_le {z : Nat → Nat} (h : ∀ t, z t ≤ 99) (x : Int32) : sum10 z x ≤ 990 := by
  have h0 := bz_le (hb x 0) (z 0)
  have h1 := bz_le (hb x 1) (z 1)
  have h2 := bz_le (hb x 2) (z 2)
  have h3 := bz_le (hb x 3) (z 3)
  have h4 := bz_le (hb x 4) (z 4)
  have h5 := bz_le (hb x 5) (z 5)
  have h6 := bz_le (hb x 6) (z 6)
  have h7 := bz_le (hb x 7) (z 7)
  have h8 := bz_le (hb x 8) (z 8)
  have h9 := bz_le (hb x 9) (z 9)
  have := h 0; have := h 1; have := h 2; have := h 3; have := h 4; have := h 5; have := h 6; have := h 7; have := h 8; have := h 9
  unfold sum10
  omega
theorem sum5_le {z : Nat → Nat} (h : ∀ t, z t ≤ 99) (s : Nat) : sum5 z s ≤ 495 := by
  have h0 := bz_le (s.testBit 0) (z 0)
  have h1 := bz_le (s.testBit 1) (z 1)
  have h2 := bz_le (s.testBit 2) (z 2)
  have h3 := bz_le (s.testBit 3) (z 3)
  have h4 := bz_le (s.testBit 4) (z 4)
  have := h 0; have := h 1; have := h 2; have := h 3; have := h 4
  unfold sum5
  omega
theorem lo31 (x : Int32) : ∃ a, a < 32 ∧ x &&& 31 = nI a ∧ ∀ i, i < 5 → a.testBit i = hb x i := by
  obtain ⟨a, ha, e⟩ := lo_nI (lo_and2 x (nI_lo (n := 5) (a := 31) (by decide) (by decide)))
  refine ⟨a, ha, e, fun i hi => ?_⟩
  have h1 : hb (x &&& 31) i = a.testBit i := by
    show hb (x &&& nI 31) i = _
    rw [e, hb_nI (by omega)]
  rw [← h1, hb_and]
  have h2 : ∀ i, i < 5 → hb 31 i = true := by decide +kernel
  rw [h2 i hi, Bool.and_true]
theorem hb_shr5 (x : Int32) {i : Nat} (hi : i < 27) : hb (x >>> ((5 : Int32) &&& 31)) i = hb x (5 + i) := by
  have h : (((5 : Int32) &&& 31).toBitVec.smod 32).toNat = 5 := by decide +kernel
  unfold hb
  rw [Int32.toBitVec_shiftRight, BitVec.sshiftRight', BitVec.getLsbD_sshiftRight, h]
  have h1 : 5 + i < 32 := by omega
  simp [h1]
  omega
theorem sX_sumE {μ : Mem} {c : Nat} {z : Nat → Nat} {x : Int32} {post : Int32 → Mem → Prop} (hz : ScR c z μ) (h : post (nI (sum10 z x)) μ) : T_X5_sum c x μ post := by
  refine sX_sum ?_
  obtain ⟨a, ha, e, hb1⟩ := lo31 x
  obtain ⟨b, hb0, e2, hb2⟩ := lo31 (x >>> ((5 : Int32) &&& 31))
  rw [e, e2, cl9 (by omega), cl9 (by omega), (hz.2 a ha).1, (hz.2 b hb0).2, nI_add]
  have : sum5 z a + sum5 (fun t => z (t + 5)) b = sum10 z x := by
    unfold sum5 sum10
    rw [hb1 0 (by omega), hb1 1 (by omega), hb1 2 (by omega), hb1 3 (by omega), hb1 4 (by omega), hb2 0 (by omega), hb2 1 (by omega), hb2 2 (by omega), hb2 3 (by omega), hb2 4 (by omega)]
    rw [hb_shr5 x (by omega), hb_shr5 x (by omega), hb_shr5 x (by omega), hb_shr5 x (by omega), hb_shr5 x (by omega)]
  rw [this]
  exact h
theorem ScR_fr {c : Nat} {z : Nat → Nat} {S : Nat → Prop} {μ μ' : Mem} (h : ScR c z μ) (f : Fr S μ μ') (h1 : ¬ S (c + 1)) (h2 : ¬ S (c + 2)) : ScR c z μ' := ⟨h.1, fun s hs => by rw [f _ h1, f _ h2]; exact h.2 s hs⟩
def zup (z : Nat → Nat) (t v : Nat) : Nat → Nat := fun k => if k = t then v else z k
theorem sum5_up {z : Nat → Nat} {t v s : Nat} (ht : t < 5) : sum5 (zup z t v) s + bz (s.testBit t) (z t) = sum5 z s + bz (s.testBit t) v := by
  rcases (show t = 0 ∨ t = 1 ∨ t = 2 ∨ t = 3 ∨ t = 4 by omega) with rfl | rfl | rfl | rfl | rfl <;> simp [sum5, zup] <;> omega
theorem sum5_ge {z : Nat → Nat} {t s : Nat} (ht : t < 5) (h : s.testBit t = true) : z t ≤ sum5 z s := by
  rcases (show t = 0 ∨ t = 1 ∨ t = 2 ∨ t = 3 ∨ t = 4 by omega) with rfl | rfl | rfl | rfl | rfl <;> simp [sum5, bz, h] <;> omega
theorem sum10_one {z : Nat → Nat} {t : Nat} (ht : t < 10) : sum10 z ((1 : Int32) <<< (nI t &&& 31)) = z t := by
  unfold sum10
  simp only [hb_shl (show t < 32 by omega)]
  rcases (show t = 0 ∨ t = 1 ∨ t = 2 ∨ t = 3 ∨ t = 4 ∨ t = 5 ∨ t = 6 ∨ t = 7 ∨ t = 8 ∨ t = 9 by omega) with rfl | rfl | rfl | rfl | rfl | rfl | rfl | rfl | rfl | rfl <;> simp [bz]
/-- the loop of Scale.change: from s on, cell q (a half) gets v - was where bit t5 is in -/
theorem sX_changeLoop {c : Nat} {q : Nat} (hq : shX q = .inl 32) {post : Int32 → Mem → Prop} {z : Nat → Nat} {t v : Nat} (ht : t < 5) (hz : ∀ k, z k ≤ 99) (μ0 : Mem) (h0 : ∀ s, s < 32 → μ0 q s = nI (sum5 z s))
    (k : ∀ μ', Fr (fun k => k = q) μ0 μ' → (∀ s, s < 32 → μ' q s = nI (sum5 (zup z t v) s)) → post (nI (z t)) μ') : T_X5_change_36 c post (nI v) (nI (z t)) q ((1 : Int32) <<< (nI t &&& 31)) 0 μ0 := by
  intro P hP
  have H : ∀ j, j ≤ 32 → ∀ μ, Fr (fun k => k = q) μ0 μ → (∀ s, s < 32 → μ q s = nI (if s < j then sum5 (zup z t v) s else sum5 z s)) → P (nI v) (nI (z t)) q ((1 : Int32) <<< (nI t &&& 31)) (nI j) μ := by
    refine down_ind (fun μ hf hs => ?_) (fun j hj ih μ hf hs => ?_)
    · exact hP _ _ _ _ _ _ (br_t (by decide) (k μ hf (fun s h => by rw [hs s h, if_pos h])))
    · refine hP _ _ _ _ _ _ (br_f (nI_ge hj (by decide)) ?_)
      rw [nI_1]
      have hbit : hb (nI j &&& ((1 : Int32) <<< (nI t &&& 31))) t = j.testBit t := by
        rw [hb_and, hb_shl (by omega), hb_nI (by omega)]
        simp
      refine ⟨fun q0 => ih μ hf (fun s h => ?_), fun q0 => ⟨hq, in9 hj (by omega), in9 hj (by omega), ih _ (Fr_tr hf (Fr_put _ _ rfl)) (fun s h => ?_)⟩⟩
      · rw [q0, hb_0] at hbit
        rw [hs s h]
        by_cases e : s = j
        · subst e
          have := sum5_up (z := z) (v := v) (s := s) ht
          rw [← hbit] at this
          simp only [bz] at this
          rw [if_neg (by omega), if_pos (by omega)]
          congr 1
          simpa using this.symm
        · by_cases h2 : s < j
          · rw [if_pos h2, if_pos (by omega)]
          · rw [if_neg h2, if_neg (by omega)]
      · have hb1 : j.testBit t = true := by
          rcases Bool.eq_false_or_eq_true (j.testBit t) with e | e
          · exact e
          · refine absurd (hb_ext (fun i hi => ?_)) q0
            rw [hb_and, hb_shl (by omega), hb_nI (by omega), hb_0]
            by_cases e2 : i = t
            · subst e2; simp [e]
            · simp [e2]
        unfold mset
        rw [mput_same, cl9 (show j < 1000000 by omega)]
        by_cases e : s = j
        · subst e
          rw [pk_us, hs s hj, if_neg (by omega), if_pos (by omega)]
          have h1 := sum5_up (z := z) (v := v) (s := s) ht
          have h2 := sum5_ge (z := z) ht hb1
          rw [hb1] at h1
          simp only [bz, if_pos] at h1
          have h3 : sum5 (zup z t v) s = sum5 z s + v - z t := by omega
          rw [h3, Int32.add_comm (nI (sum5 z s)), Int32.sub_eq_add_neg, Int32.add_assoc, Int32.add_comm (-nI (z t)), ← Int32.sub_eq_add_neg, pk_sub h2, nI_add]
          congr 1
          omega
        · rw [pk_un e, hs s h]
          by_cases h2 : s < j
          · rw [if_pos h2, if_pos (by omega)]
          · rw [if_neg h2, if_neg (by omega)]
  exact H 0 (Nat.zero_le _) μ0 (Fr_rf _ _) (fun s h => by rw [h0 s h, if_neg (by omega)])
theorem sX_change {μ : Mem} {c : Nat} (hc : isScale c) {z : Nat → Nat} {t v : Nat} {post : Int32 → Mem → Prop} (hz : ScR c z μ) (ht : t < 10) (hv : v ≤ 99) (k : ∀ μ', Fr (fun k => k = c + 1 ∨ k = c + 2) μ μ' → ScR c (zup z t v) μ' → post (nI (z t)) μ') : T_X5_change c (nI t) (nI v) μ post := by
  refine sX_sumE hz ?_
  rw [sum10_one ht]
  have hz2 : ∀ k, zup z t v k ≤ 99 := fun k => by
    unfold zup
    split
    · exact hv
    · exact hz.1 k
  refine pk_le 5 t (fun h5 => ?_) (fun h5 => ?_)
  · have e : nI t - nI t / 5 * 5 = nI (t - 5) := by
      have : ∀ t, t < 10 → 5 ≤ t → nI t - nI t / 5 * 5 = nI (t - 5) := by decide +kernel
      exact this t ht h5
    unfold T_X5_change_24
    rw [e]
    have hq : shX (c + 2) = .inl 32 := sc_2 hc
    have et : z t = (fun k => z (k + 5)) (t - 5) := by show z t = z (t - 5 + 5); rw [show t - 5 + 5 = t by omega]
    rw [et]
    refine sX_changeLoop (z := fun k => z (k + 5)) hq (by omega) (fun k => hz.1 _) μ (fun s hs => (hz.2 s hs).2) (fun μ' hf hs => ?_)
    rw [show t - 5 + 5 = t by omega]
    refine k μ' (Fr_mono hf (fun k hk => Or.inr hk)) ⟨hz2, fun s h => ⟨?_, ?_⟩⟩
    · rw [hf (c + 1) (by omega), (hz.2 s h).1]
      congr 1
      unfold sum5 zup
      rw [if_neg (by omega), if_neg (by omega), if_neg (by omega), if_neg (by omega), if_neg (by omega)]
    · rw [hs s h]
      congr 1
      have : zup (fun k => z (k + 5)) (t - 5) v = fun k => zup z t v (k + 5) := by
        funext k
        unfold zup
        by_cases e : k = t - 5
        · rw [if_pos e, if_pos (by omega)]
        · rw [if_neg e, if_neg (by omega)]
      rw [this]
  · have e : nI t - nI t / 5 * 5 = nI t := by
      have : ∀ t, t < 5 → nI t - nI t / 5 * 5 = nI t := by decide +kernel
      exact this t h5
    unfold T_X5_change_24
    rw [e]
    have hq : shX (c + 1) = .inl 32 := sc_1 hc
    refine sX_changeLoop hq h5 hz.1 μ (fun s hs => (hz.2 s hs).1) (fun μ' hf hs => ?_)
    refine k μ' (Fr_mono hf (fun k hk => Or.inl hk)) ⟨hz2, fun s h => ⟨hs s h, ?_⟩⟩
    rw [hf (c + 2) (by omega), (hz.2 s h).2]
    congr 1
    have : (fun k => z (k + 5)) = fun k => zup z t v (k + 5) := by
      funext k
      unfold zup
      rw [if_neg (by omega)]
    rw [this]
/-- the row at cell r holds n works' numbers -/
def RW (n : Nat) (r : Nat) (μ : Mem) : Prop := ∀ k, k < n → ∃ v, v < 9 ∧ μ r k = nI v
def OP (μ : Mem) : Prop := ∀ k, k < 9 → lo 10 (μ 34 k)
theorem OP_put {μ : Mem} {j : Nat} {v : Int32} (h : OP μ) (hv : lo 10 v) : OP (mput μ 34 (upd (μ 34) j v)) := fun k hk => by
  rw [mput_same]
  by_cases e : k = j
  · subst e; rw [pk_us]; exact hv
  · rw [pk_un e]; exact h k hk
theorem OP_fr {S : Nat → Prop} {μ μ' : Mem} (h : OP μ) (f : Fr S μ μ') (h1 : ¬ S 34) : OP μ' := fun k hk => by rw [f 34 h1]; exact h k hk
theorem RW_fr {n r : Nat} {S : Nat → Prop} {μ μ' : Mem} (h : RW n r μ) (f : Fr S μ μ') (h1 : ¬ S r) : RW n r μ' := fun k hk => by rw [f r h1]; exact h k hk
def sG : Nat → Prop := fun k => k = 33 ∨ k = 34
theorem sub_m1 (x : Int32) : x + (-1) = x - 1 := by rw [Int32.sub_eq_add_neg]
theorem sX_fillNeeded {μ : Mem} {n r : Nat} {post : Mem → Prop} (h : WK n μ) (ho : OP μ) (hr : shX r = .inl 9) (hrs : ¬ sG r) (hrow : RW n r μ) (k : ∀ μ', Fr sG μ μ' → OP μ' → post μ') : T_X1_fillNeededFromHereOn r μ post := by
  obtain ⟨hn, h9, hw⟩ := h
  intro P hP
  have H : ∀ j, j ≤ n → ∀ (a : Int32) (μ2 : Mem), lo 10 a → Fr sG μ μ2 → OP μ2 → P a (nI j - 1) μ2 := by
    intro j
    induction j with
    | zero =>
      intro _ a μ2 _ hf ho2
      exact hP _ _ _ (br_t (by decide) (k μ2 hf ho2))
    | succ j ih =>
      intro hj a μ2 ha hf ho2
      rw [nI_pred]
      have b1 := in9 (show j < 9 by omega) (by omega)
      obtain ⟨v, hv, ev⟩ := hrow j (by omega)
      refine hP _ _ _ (br_f (nI_pos (by omega)) ⟨hr, b1, ?_⟩)
      rw [cl9 (show j < 1000000 by omega), hf r hrs, ev, cl9 (show v < 1000000 by omega), hf 14 (by unfold sG; omega), sub_m1]
      exact ⟨in9 hv (by omega), b1, ih (by omega) _ _ (lo_or ha (hw v hv)) (Fr_tr hf (Fr_put _ _ (Or.inr rfl))) (OP_put ho2 (lo_or ha (hw v hv)))⟩
  rw [hn]
  exact H n (Nat.le_refl n) 0 μ (lo_0 _) (Fr_rf _ _) ho
theorem sX_measure {μ : Mem} {n r : Nat} {z : Nat → Nat} {post : Mem → Prop} (h : WK n μ) (hz : ScR 16 z μ) (ho : OP μ) (hr : shX r = .inl 9) (hrs : ¬ sG r) (hrow : RW n r μ) (k : ∀ μ', Fr sG μ μ' → OP μ' → (∃ v, v ≤ 990 ∧ μ' 33 1 = nI v) → (μ' 33 3 = 0 ∨ μ' 33 3 = 1) → post μ') : T_X1_measure r μ post := by
  have h9 := h.2.1
  refine sX_fillNeeded h ho hr hrs hrow (fun μ1 hf1 ho1 => ?_)
  intro P hP
  have p33 : ∀ (c : Mem) (f : Nat → Int32), Fr sG μ c → Fr sG μ (mput c 33 f) := fun c f hc => Fr_tr hc (Fr_put _ _ (Or.inl rfl))
  have p34 : ∀ (c : Mem) (f : Nat → Int32), Fr sG μ c → Fr sG μ (mput c 34 f) := fun c f hc => Fr_tr hc (Fr_put _ _ (Or.inr rfl))
  have o33 : ∀ (c : Mem) (f : Nat → Int32), OP c → OP (mput c 33 f) := fun c f hc k hk => by rw [mput_ne (by decide)]; exact hc k hk
  have H : ∀ j, j ≤ n → ∀ (a b : Int32) (μ2 : Mem), Fr sG μ μ2 → OP μ2 → (∃ v, v ≤ 990 ∧ μ2 33 1 = nI v) → (μ2 33 3 = 0 ∨ μ2 33 3 = 1) → P a b (nI j) μ2 := by
    refine down_ind (fun a b μ2 hf ho2 hm hl => ?_) (fun j hj ih a b μ2 hf ho2 hm hl => ?_)
    · have hw := WK_fr h hf (by unfold sG; omega) (by unfold sG; omega)
      exact hP _ _ _ _ (br_t (by rw [hw.1]; exact nI_self_le n) (k μ2 hf ho2 hm hl))
    · have hw := WK_fr h hf (by unfold sG; omega) (by unfold sG; omega)
      have b1 := in9 (show j < 9 by omega) (by omega)
      obtain ⟨v, hv, ev⟩ := hrow j hj
      have ev2 : μ2 r (nI j).toNatClampNeg = nI v := by rw [cl9 (show j < 1000000 by omega), hf r hrs, ev]
      have b2 := in9 hv (by omega)
      have j75 : ∀ s0 : Int32, (s0 = 0 ∨ s0 = 1) → T_X1_measure_75 r post P a b (nI j) (nI v) s0 μ2 := by
        intro s0 hs0
        refine ⟨hs0, b2, b1, b1, b1, ?_⟩
        have hlo : lo 10 (((mset μ2 33 3 s0) 34 (nI j).toNatClampNeg) &&& (b ||| ((mset μ2 33 3 s0) 14 (nI v).toNatClampNeg))) := lo_and (by
          show lo 10 ((mput μ2 33 _) 34 _)
          rw [mput_ne (by decide), cl9 (show j < 1000000 by omega)]
          exact ho2 j (by omega)) _
        have f3 : Fr sG μ (mset (mset μ2 33 3 s0) 34 (nI j).toNatClampNeg (((mset μ2 33 3 s0) 34 (nI j).toNatClampNeg) &&& (b ||| ((mset μ2 33 3 s0) 14 (nI v).toNatClampNeg)))) := p34 _ _ (p33 _ _ hf)
        have o3 : OP (mset (mset μ2 33 3 s0) 34 (nI j).toNatClampNeg (((mset μ2 33 3 s0) 34 (nI j).toNatClampNeg) &&& (b ||| ((mset μ2 33 3 s0) 14 (nI v).toNatClampNeg)))) := OP_put (o33 _ _ ho2) hlo
        have g3 : (mset (mset μ2 33 3 s0) 34 (nI j).toNatClampNeg (((mset μ2 33 3 s0) 34 (nI j).toNatClampNeg) &&& (b ||| ((mset μ2 33 3 s0) 14 (nI v).toNatClampNeg)))) 33 = upd (μ2 33) 3 s0 := by
          unfold mset
          rw [mput_ne (by decide), mput_same]
        generalize (mset (mset μ2 33 3 s0) 34 (nI j).toNatClampNeg (((mset μ2 33 3 s0) 34 (nI j).toNatClampNeg) &&& (b ||| ((mset μ2 33 3 s0) 14 (nI v).toNatClampNeg)))) = μ3 at f3 o3 g3 ⊢
        refine sX_sumE (ScR_fr hz f3 (by unfold sG; omega) (by unfold sG; omega)) ?_
        rw [nI_1]
        have hm3 : ∃ v, v ≤ 990 ∧ μ3 33 1 = nI v := by rw [g3]; exact hm
        obtain ⟨m3, hm3, em3⟩ := hm3
        have hsum := sum10_le hz.1 (μ3 34 (nI j).toNatClampNeg)
        refine ih _ _ _ (p33 _ _ (p33 _ _ f3)) (o33 _ _ (o33 _ _ o3)) ?_ ?_
        · refine ⟨if m3 < sum10 z (μ3 34 (nI j).toNatClampNeg) then sum10 z (μ3 34 (nI j).toNatClampNeg) else m3, by split <;> omega, ?_⟩
          unfold mset
          rw [mput_same, mput_same, em3]
          simp only [upd]
          rw [if_neg (by decide), if_pos (by decide)]
          simp only [nI_ltI (show m3 < 2 ^ 31 by omega) (show sum10 z (μ3 34 (nI j).toNatClampNeg) < 2 ^ 31 by omega)]
          split <;> rfl
        · unfold mset
          rw [mput_same, mput_same, g3]
          exact hs0
      refine hP _ _ _ _ (br_f (by rw [hw.1]; exact nI_ge hj (by omega)) ⟨hr, b1, ?_⟩)
      rw [ev2]
      exact ⟨fun _ => j75 0 (Or.inl rfl), fun _ => ⟨b2, fun _ => j75 0 (Or.inl rfl), fun _ => j75 1 (Or.inr rfl)⟩⟩
  refine H 0 (Nat.zero_le _) 0 0 _ (p33 _ _ (p33 _ _ (p33 _ _ hf1))) (o33 _ _ (o33 _ _ (o33 _ _ ho1))) ⟨0, by omega, ?_⟩ (Or.inr ?_)
  · unfold mset
    rw [mput_same, mput_same, mput_same]
    rfl
  · unfold mset
    rw [mput_same]
    rfl
theorem sX_beats {μ : Mem} {n r3 r4 : Nat} {x1 x2 : Int32} {post : Int32 → Mem → Prop} (h : WK n μ) (h3 : shX r3 = .inl 9) (h4 : shX r4 = .inl 9) (k0 : post 0 μ) (k1 : post 1 μ) : T_X1_beats r3 r4 x1 x2 μ post := by
  obtain ⟨hn, h9, -⟩ := h
  refine ⟨fun _ => ⟨fun _ => ?_, fun _ => ⟨fun _ => k0, fun _ => k1⟩⟩, fun _ => ⟨fun _ => k0, fun _ => k1⟩⟩
  intro P hP
  have H : ∀ j, j ≤ n → P (nI j) μ := by
    refine down_ind (hP _ _ (br_t (by rw [hn]; exact nI_self_le n) k0)) (fun j hj ih => hP _ _ (br_f (by rw [hn]; exact nI_ge hj (by omega)) ?_))
    have b1 := in9 (show j < 9 by omega) (by omega)
    rw [nI_1]
    exact ⟨h3, b1, h4, b1, fun _ => ih, fun _ => ⟨b1, b1, fun _ => k0, fun _ => k1⟩⟩
  exact H 0 (Nat.zero_le _)
