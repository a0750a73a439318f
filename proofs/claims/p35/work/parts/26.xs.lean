/-! the rest of the class's Works -/
def sW : Nat → Prop := fun k => 13 ≤ k ∧ k ≤ 18
theorem sX_takeOver {n : Nat} {z : Nat → Nat} {μ : Mem} {post : Mem → Prop} (h : WK n μ) (hz : ScR 16 z μ) (ht : TXI μ) (k : ∀ c z' μ', c ≤ 9 → μ 9 3 = nI c → Fr sW μ μ' → WK c μ' → ScR 16 z' μ' → (∀ t, t < 10 → μ 12 t = nI (z' t)) → (∀ w, w < c → μ' 14 w = μ 10 w ∧ μ' 15 w = μ 11 w) → post μ') : T_X10_takeOver μ post := by
  obtain ⟨c, hc, ec⟩ := ht.1
  have hsz := ht.2.2.2
  have hnd := ht.2.2.1
  intro P hP
  have H2 : ∀ μ1, Fr sW μ μ1 → WK c μ1 → ScR 16 z μ1 → (∀ w, w < c → μ1 14 w = μ 10 w ∧ μ1 15 w = μ 11 w) → T_X10_takeOver_50 post 0 μ1 := by
    intro μ1 hf1 hw1 hz1 hx1 P2 hP2
    have H3 : ∀ j, j ≤ 10 → ∀ z2 μ2, Fr sW μ μ2 → WK c μ2 → ScR 16 z2 μ2 → (∀ t, t < j → μ 12 t = nI (z2 t)) → (∀ w, w < c → μ2 14 w = μ 10 w ∧ μ2 15 w = μ 11 w) → P2 (nI j) μ2 := by
      refine down_ind (fun z2 μ2 hf2 hw2 hz2 ht2 hx2 => ?_) (fun j hj ih z2 μ2 hf2 hw2 hz2 ht2 hx2 => ?_)
      · refine hP2 _ _ (br_t (by decide) (k c z2 _ hc ec (Fr_p hf2 (by unfold sW; omega)) ?_ (ScR_p hz2 (by decide) (by decide)) ht2 (fun w hw => ?_)))
        · refine ⟨?_, hc, fun w hw => ?_⟩
          · rw [m2, pk_un (by decide)]; exact hw2.1
          · unfold mset; rw [mput_o (by decide)]; exact hw2.2.2 w hw
        · unfold mset
          rw [mput_o (by decide), mput_o (by decide)]
          exact hx2 w hw
      · refine hP2 _ _ (br_f (nI_ge hj (by decide)) ⟨in9 hj (by omega), ?_⟩)
        obtain ⟨v, hv, ev⟩ := hsz j hj
        rw [cl9 (show j < 1000000 by omega), hf2 12 (by unfold sW; omega), ev, nI_1]
        refine sX_change (Or.inl rfl) hz2 hj (by omega) (fun μ3 hf3 hz3 => ih _ μ3 (Fr_tr hf2 (Fr_mono hf3 (fun q hq => by unfold sW; omega))) (WK_fr hw2 hf3 (by omega) (by omega)) hz3 (fun t ht => ?_) (fun w hw => ?_))
        · unfold zup
          by_cases e : t = j
          · subst e; rw [if_pos rfl]; exact ev
          · rw [if_neg e]; exact ht2 t (by omega)
        · rw [hf3 14 (by omega), hf3 15 (by omega)]
          exact hx2 w hw
    exact H3 0 (Nat.zero_le _) z μ1 hf1 hw1 hz1 (fun t ht => absurd ht (by omega)) hx1
  have H : ∀ j, j ≤ c → ∀ μ2, Fr sW μ μ2 → WK c μ2 → ScR 16 z μ2 → (∀ w, w < j → μ2 14 w = μ 10 w ∧ μ2 15 w = μ 11 w) → P (nI j) μ2 := by
    refine down_ind (fun μ2 hf2 hw2 hz2 hx2 => hP _ _ (br_t (by rw [hw2.1]; exact nI_self_le c) (H2 μ2 hf2 hw2 hz2 hx2))) (fun j hj ih μ2 hf2 hw2 hz2 hx2 => hP _ _ (br_f (by rw [hw2.1]; exact nI_ge hj (by omega)) ?_))
    have i1 := in9 (show j < 9 by omega) (by omega)
    rw [nI_1, cl9 (show j < 1000000 by omega), hf2 10 (by unfold sW; omega)]
    have e11 : (mset μ2 14 j (μ 10 j)) 11 j = μ 11 j := by unfold mset; rw [mput_o (by decide), hf2 11 (by unfold sW; omega)]
    rw [e11]
    refine ⟨i1, i1, i1, i1, ih _ (Fr_p (Fr_p hf2 (by unfold sW; omega)) (by unfold sW; omega)) ⟨?_, hc, fun w hw => ?_⟩ (ScR_p (ScR_p hz2 (by decide) (by decide)) (by decide) (by decide)) (fun w hw => ?_)⟩
    · unfold mset; rw [mput_o (by decide), mput_o (by decide)]; exact hw2.1
    · unfold mset
      rw [mput_o (by decide), mput_same]
      by_cases e : w = j
      · subst e; rw [pk_us]; exact hnd w hw
      · rw [pk_un e]; exact hw2.2.2 w hw
    · unfold mset
      rw [mput_o (show (15 : Nat) ≠ 14 by decide), mput_same, mput_same, mput_o (by decide)]
      by_cases e : w = j
      · subst e; rw [pk_us, pk_us]; exact ⟨rfl, rfl⟩
      · rw [pk_un e, pk_un e]; exact hx2 w (by omega)
  refine H 0 (Nat.zero_le _) _ (Fr_put _ _ (by unfold sW; omega)) ⟨?_, hc, fun w hw => ?_⟩ (ScR_p hz (by decide) (by decide)) (fun w hw => absurd hw (by omega))
  · rw [m2, pk_us]; exact ec
  · unfold mset; rw [mput_o (by decide)]; exact h.2.2 w hw
theorem sX_addW {n : Nat} {x1 x2 : Int32} {μ : Mem} {post : Mem → Prop} (h : WK n μ) (hn : n < 9) (hx : lo 10 x1) (k : ∀ μ', Fr (fun q => q = 13 ∨ q = 14 ∨ q = 15) μ μ' → WK (n + 1) μ' → μ' 14 = upd (μ 14) n x1 → μ' 15 = upd (μ 15) n x2 → post μ') : T_X10_add x1 x2 μ post := by
  have ec := h.1
  unfold T_X10_add
  rw [ec, cl9 (show n < 1000000 by omega)]
  have e1 : (mset μ 14 n x1) 13 = μ 13 := mput_o (by decide)
  rw [e1, ec, cl9 (show n < 1000000 by omega)]
  have e2 : (mset (mset μ 14 n x1) 15 n x2) 13 = μ 13 := by unfold mset; rw [mput_o (by decide), mput_o (by decide)]
  rw [e2, ec, nI_1]
  have i1 := in9 hn (by omega)
  have g14 : ∀ f, (mput (mput (mset (mset μ 14 n x1) 15 n x2) 13 f) 13 (upd ((mput (mset (mset μ 14 n x1) 15 n x2) 13 f) 13) 5 ((mput (mset (mset μ 14 n x1) 15 n x2) 13 f) 13 5 + 1))) 14 = upd (μ 14) n x1 := fun f => by
    unfold mset
    rw [mput_o (by decide), mput_o (by decide), mput_o (by decide), mput_same]
  have g15 : ∀ f, (mput (mput (mset (mset μ 14 n x1) 15 n x2) 13 f) 13 (upd ((mput (mset (mset μ 14 n x1) 15 n x2) 13 f) 13) 5 ((mput (mset (mset μ 14 n x1) 15 n x2) 13 f) 13 5 + 1))) 15 = upd (μ 15) n x2 := fun f => by
    unfold mset
    rw [mput_o (by decide), mput_o (by decide), mput_same, mput_o (by decide)]
  refine ⟨i1, i1, k _ (Fr_p (Fr_p (Fr_p (Fr_p (Fr_rf _ _) (Or.inr (Or.inl rfl))) (Or.inr (Or.inr rfl))) (Or.inl rfl)) (Or.inl rfl)) ⟨?_, by omega, fun w hw => ?_⟩ (g14 _) (g15 _)⟩
  · rw [m2, pk_un (by decide), m2, pk_us]
  · have e14 := congrFun (g14 (upd ((mset (mset μ 14 n x1) 15 n x2) 13) 4 (nI (n + 1)))) w
    refine Eq.subst (motive := fun v => lo 10 v) e14.symm ?_
    by_cases e : w = n
    · subst e; rw [pk_us]; exact hx
    · rw [pk_un e]; exact h.2.2 w hw
theorem sX_isBefore {a b : Nat} {μ : Mem} {post : Int32 → Mem → Prop} (ha : a < 9) (hb9 : b < 9) (h : post (if hb (μ 15 b) a then 1 else 0) μ) : T_X10_isBefore (nI a) (nI b) μ post := by
  unfold T_X10_isBefore
  rw [cl9 (show b < 1000000 by omega), bit_z _ (show a < 32 by omega)]
  refine ⟨in9 hb9 (by omega), fun q => ?_, fun q => ?_⟩
  · rw [q] at h; exact h
  · rw [Bool.not_eq_false] at q; rw [q] at h; exact h
theorem sX_turnBefore {b : Nat} {x : Int32} {μ : Mem} {post : Mem → Prop} (hb : b < 9) (k : ∀ μ', Fr (fun q => q = 13 ∨ q = 15) μ μ' → μ' 13 4 = μ 13 4 → μ' 15 = upd (μ 15) b ((μ 15 b) ^^^ ((1 : Int32) <<< (x &&& 31))) → post μ') : T_X10_turnBefore x (nI b) μ post := by
  unfold T_X10_turnBefore
  rw [cl9 (show b < 1000000 by omega)]
  refine ⟨in9 hb (by omega), in9 hb (by omega), k _ (Fr_p (Fr_put _ _ (Or.inr rfl)) (Or.inl rfl)) ?_ ?_⟩
  · rw [m2, pk_un (by decide)]; unfold mset; rw [mput_o (by decide)]
  · unfold mset; rw [mput_o (by decide), mput_same]
theorem sX_comesAhead' {n b : Nat} {x : Int32} {μ : Mem} {post : Int32 → Mem → Prop} (h : WK n μ) (hb : b < 9) (k : ∀ u, post u μ) : T_X10_comesAhead x (nI b) μ post := by
  obtain ⟨hn, h9, -⟩ := h
  refine ⟨in9 hb (by omega), ?_⟩
  intro P hP
  have H : ∀ j, j ≤ n → ∀ y, P x y (nI j) μ := by
    refine down_ind (fun y => hP _ _ _ _ (br_t (by rw [hn]; exact nI_self_le n) ⟨fun _ => k _, fun _ => k _⟩)) (fun j hj ih y => hP _ _ _ _ (br_f (by rw [hn]; exact nI_ge hj (by omega)) ?_))
    intro P2 hP2
    have H2 : ∀ i, i ≤ n → ∀ y, P2 x y (nI j) (nI i) μ := by
      refine down_ind (fun y => hP2 _ _ _ _ _ (br_t (by rw [hn]; exact nI_self_le n) ?_)) (fun i hi ih2 y => hP2 _ _ _ _ _ (br_f (by rw [hn]; exact nI_ge hi (by omega)) ?_))
      · rw [nI_1]; exact ih y
      · rw [nI_1]; exact ⟨fun _ => ih2 _, fun _ => ⟨in9 (by omega) (by omega), ih2 _⟩⟩
    exact H2 0 (Nat.zero_le _) y
  exact H 0 (Nat.zero_le _) _
theorem sX_countBefores' {n : Nat} {μ : Mem} {post : Int32 → Mem → Prop} (h : WK n μ) (k : ∀ u, post u μ) : T_X10_countBefores μ post := by
  obtain ⟨hn, h9, -⟩ := h
  intro P hP
  have H : ∀ j, j ≤ n → ∀ y, P y (nI j) μ := by
    refine down_ind (fun y => hP _ _ _ (br_t (by rw [hn]; exact nI_self_le n) (k _))) (fun j hj ih y => hP _ _ _ (br_f (by rw [hn]; exact nI_ge hj (by omega)) ⟨in9 (by omega) (by omega), sX_bitCount ?_⟩))
    rw [nI_1]
    exact ih _
  exact H 0 (Nat.zero_le _) _
theorem sX_score' {n w : Nat} {z : Nat → Nat} {x1 x3 : Int32} {μ : Mem} {post : Int32 → Mem → Prop} (h : WK n μ) (hz : ScR 16 z μ) (hw : w < 9) (k : ∀ u, post u μ) : T_X10_score x1 (nI w) x3 μ post := by
  have i1 := in9 hw (show 9 < 1000000 by omega)
  exact sX_all h.1 h.2.1 ⟨i1, sX_neededBy h.1 h.2.1 h.2.2 (fun r _ => sX_sumE hz ⟨i1, sX_neededBy h.1 h.2.1 h.2.2 (fun r2 _ => sX_sumE hz ⟨fun _ => ⟨fun _ => k _, fun _ => k _⟩, fun _ => k _⟩)⟩)⟩
theorem sX_choose' {n : Nat} {z : Nat → Nat} {x1 x2 x3 : Int32} {μ : Mem} {post : Int32 → Mem → Prop} (h : WK n μ) (hz : ScR 16 z μ) (k : ∀ w, w < 9 → (0 < n → w < n) → post (nI w) μ) : T_X10_choose x1 x2 x3 μ post := by
  have hn := h.1
  have h9 := h.2.1
  intro P hP
  have H : ∀ j, j ≤ n → ∀ w x5 x6, w < 9 → (0 < n → w < n) → P x1 x3 (nI w) x5 x6 (nI j) μ := by
    refine down_ind (fun w x5 x6 hw hw2 => hP _ _ _ _ _ _ _ (br_t (by rw [hn]; exact nI_self_le n) (k w hw hw2))) (fun j hj ih w x5 x6 hw hw2 => hP _ _ _ _ _ _ _ (br_f (by rw [hn]; exact nI_ge hj (by omega)) ⟨fun _ => k w hw hw2, fun _ => ?_⟩))
    rw [nI_1]
    refine ⟨fun _ => ih w _ _ hw hw2, fun _ => ⟨in9 (by omega) (by omega), fun _ => ih w _ _ hw hw2, fun _ => sX_score' h hz (by omega) (fun u => ⟨fun _ => ih w _ _ hw hw2, fun _ => ih j _ _ (by omega) (fun _ => hj)⟩)⟩⟩
  exact H 0 (Nat.zero_le _) 0 _ _ (by omega) (fun h => h)
