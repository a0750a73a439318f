/-! the class's text, code by code, as a function; the reference reads it alike -/
def endF (x : Int32) (μ : Mem) : Int32 := if x = 59 then (if 12 ≤ μ 9 4 then 0 else 1) else 0
def goF (x : Int32) (μ : Mem) : Int32 := if x = 60 then 3 else endF x μ
def bgF (x : Int32) (μ : Mem) : Int32 × Mem := if x = 119 ∧ μ 9 5 = 0 ∧ ¬ 9 ≤ μ 9 3 then (2, mset (mset (mset (mset μ 9 4 ((μ 9 4) + 1)) 10 (μ 9 3).toNatClampNeg 0) 11 (μ 9 3).toNatClampNeg 0) 9 3 ((μ 9 3) + 1)) else if x = 115 ∧ ¬ μ 9 3 ≤ 0 ∧ ¬ μ 9 5 = 1023 then (5, mset μ 9 4 ((μ 9 4) + 1)) else (0, mset μ 9 4 ((μ 9 4) + 1))
def tnF (x : Int32) (μ : Mem) : Int32 × Mem := if (μ 10 ((μ 9 3) - 1).toNatClampNeg) &&& ((1 : Int32) <<< (x &&& 31)) = 0 then (2, mset μ 10 ((μ 9 3) - 1).toNatClampNeg ((μ 10 ((μ 9 3) - 1).toNatClampNeg) ||| ((1 : Int32) <<< (x &&& 31)))) else (0, μ)
def tbF (x : Int32) (μ : Mem) : Int32 × Mem := if (μ 9 3) - 1 ≤ x then (0, μ) else if (μ 11 ((μ 9 3) - 1).toNatClampNeg) &&& ((1 : Int32) <<< (x &&& 31)) = 0 then (4, mset μ 11 ((μ 9 3) - 1).toNatClampNeg ((μ 11 ((μ 9 3) - 1).toNatClampNeg) ||| ((1 : Int32) <<< (x &&& 31)))) else (0, μ)
def tzF (x : Int32) (μ : Mem) : Int32 × Mem := if (μ 9 5) &&& ((1 : Int32) <<< (x &&& 31)) = 0 then (6, mset (mset μ 9 5 ((μ 9 5) ||| ((1 : Int32) <<< (x &&& 31)))) 9 6 x) else (0, μ)
def stF (s x : Int32) (μ : Mem) : Int32 × Mem :=
  if s = 1 then bgF x μ
  else if s = 2 then (if x < 97 then (goF x μ, μ) else if 106 < x then (goF x μ, μ) else tnF (x - 97) μ)
  else if s = 3 then (if x < 48 then (0, μ) else if 57 < x then (0, μ) else tbF (x - 48) μ)
  else if s = 4 then (goF x μ, μ)
  else if s = 5 then (if x < 97 then (0, μ) else if 106 < x then (0, μ) else tzF (x - 97) μ)
  else if s = 6 then (if x < 49 then (0, μ) else if 57 < x then (0, μ) else (7, mset μ 12 (μ 9 6).toNatClampNeg (x - 48)))
  else (endF x μ, μ)
theorem eX_end {x : Int32} {μ : Mem} {post : Int32 → Mem → Prop} (h : post (endF x μ) μ) : T_X9_endItem x μ post := by
  unfold endF at h
  refine ⟨fun q => ?_, fun q => ⟨fun q2 => ?_, fun q2 => ?_⟩⟩
  · rw [if_neg q] at h; exact h
  · rw [if_pos q, if_pos q2] at h; exact h
  · rw [if_pos q, if_neg q2] at h; exact h
theorem eX_go {x : Int32} {μ : Mem} {post : Int32 → Mem → Prop} (h : post (goF x μ) μ) : T_X9_goOnInWork x μ post := by
  unfold goF at h
  refine ⟨fun q => eX_end ?_, fun q => ?_⟩
  · rw [if_neg q] at h; exact h
  · rw [if_pos q] at h; exact h
theorem eX_begin {x : Int32} {μ : Mem} {post : Int32 → Mem → Prop} (ht : TXI μ) (h : post (bgF x μ).1 (bgF x μ).2) : T_X9_beginItem x μ post := by
  obtain ⟨c, hc, ec⟩ := ht.1
  have e3 : (mset μ 9 4 ((μ 9 4) + 1)) 9 3 = μ 9 3 := by rw [m2, pk_un (by decide)]
  have e5 : (mset μ 9 4 ((μ 9 4) + 1)) 9 5 = μ 9 5 := by rw [m2, pk_un (by decide)]
  have h64 : ¬ (x = 119 ∧ μ 9 5 = 0 ∧ ¬ 9 ≤ μ 9 3) → T_X9_beginItem_64 post x (mset μ 9 4 ((μ 9 4) + 1)) := by
    intro hn
    unfold bgF at h
    rw [if_neg hn] at h
    unfold T_X9_beginItem_64
    rw [e3, e5]
    refine ⟨fun q => ?_, fun q => ⟨fun q2 => ?_, fun q2 => ⟨fun q3 => ?_, fun q3 => ?_⟩⟩⟩
    · rw [if_neg (fun t => q t.1)] at h; exact h
    · rw [if_neg (fun t => t.2.1 q2)] at h; exact h
    · rw [if_neg (fun t => t.2.2 q3)] at h; exact h
    · rw [if_pos ⟨q, q2, q3⟩] at h; exact h
  unfold T_X9_beginItem
  rw [e3, e5]
  refine ⟨fun q => h64 (fun t => q t.1), fun q => ⟨fun q2 => h64 (fun t => q2 t.2.1), fun q2 => ⟨fun q3 => h64 (fun t => t.2.2 q3), fun q3 => ?_⟩⟩⟩
  unfold bgF at h
  rw [if_pos ⟨q, q2, q3⟩] at h
  have f3 : ∀ j v, (mset (mset μ 9 4 ((μ 9 4) + 1)) 10 j v) 9 3 = μ 9 3 := fun j v => by unfold mset; rw [mput_o (by decide)]; exact e3
  have f4 : ∀ j v i w, (mset (mset (mset μ 9 4 ((μ 9 4) + 1)) 10 j v) 11 i w) 9 3 = μ 9 3 := fun j v i w => by unfold mset; rw [mput_o (by decide), mput_o (by decide)]; exact e3
  rw [f3, f4]
  have hv : vp_in (μ 9 3) 9 := by
    rw [ec] at q3 ⊢
    rcases Nat.lt_or_ge c 9 with t | t
    · exact in9 t (by omega)
    · exact absurd (nI_le (a := 9) t (by omega)) q3
  exact ⟨hv, hv, h⟩
theorem eX_step {s x : Int32} {μ : Mem} {post : Int32 → Mem → Prop} (ht : TXs s μ) (h : post (stF s x μ).1 (stF s x μ).2) : T_X9_step s x μ post := by
  obtain ⟨t1, hc⟩ := ht
  have hv : (s = 2 ∨ s = 3 ∨ s = 4) → vp_in ((μ 9 3) - 1) 9 := fun q => by
    obtain ⟨c, hc2, ec⟩ := hc q
    rw [ec, nI_pred]; exact in9 hc2 (by omega)
  refine ⟨fun q => eX_begin t1 ?_, fun q => ?_, fun q => ?_, fun q => eX_go ?_, fun q => ?_, fun q => ?_, fun n1 n2 n3 n4 n5 n6 => eX_end ?_⟩
  · subst q; exact h
  · subst q
    have h' : post (if x < 97 then (goF x μ, μ) else if 106 < x then (goF x μ, μ) else tnF (x - 97) μ).1 (if x < 97 then (goF x μ, μ) else if 106 < x then (goF x μ, μ) else tnF (x - 97) μ).2 := h
    have hv2 := hv (Or.inl rfl)
    refine ⟨fun q => eX_go ?_, fun q => ⟨fun q2 => eX_go ?_, fun q2 => ⟨hv2, ?_, ?_⟩⟩⟩
    · rw [if_pos q] at h'; exact h'
    · rw [if_neg q, if_pos q2] at h'; exact h'
    · intro q3
      rw [if_neg q, if_neg q2] at h'
      unfold tnF at h'
      rw [if_pos q3] at h'
      exact ⟨hv2, hv2, h'⟩
    · intro q3
      rw [if_neg q, if_neg q2] at h'
      unfold tnF at h'
      rw [if_neg q3] at h'
      exact h'
  · subst q
    have h' : post (if x < 48 then (0, μ) else if 57 < x then (0, μ) else tbF (x - 48) μ).1 (if x < 48 then (0, μ) else if 57 < x then (0, μ) else tbF (x - 48) μ).2 := h
    have hv2 := hv (Or.inr (Or.inl rfl))
    refine ⟨fun q => ?_, fun q => ⟨fun q2 => ?_, fun q2 => ⟨fun q3 => ?_, fun q3 => ⟨hv2, fun q4 => ⟨hv2, hv2, ?_⟩, fun q4 => ?_⟩⟩⟩⟩
    · rw [if_pos q] at h'; exact h'
    · rw [if_neg q, if_pos q2] at h'; exact h'
    · rw [if_neg q, if_neg q2] at h'
      unfold tbF at h'
      rw [if_pos q3] at h'
      exact h'
    · rw [if_neg q, if_neg q2] at h'
      unfold tbF at h'
      rw [if_neg q3, if_pos q4] at h'
      exact h'
    · rw [if_neg q, if_neg q2] at h'
      unfold tbF at h'
      rw [if_neg q3, if_neg q4] at h'
      exact h'
  · subst q; exact h
  · subst q
    have h' : post (if x < 97 then (0, μ) else if 106 < x then (0, μ) else tzF (x - 97) μ).1 (if x < 97 then (0, μ) else if 106 < x then (0, μ) else tzF (x - 97) μ).2 := h
    refine ⟨fun q => ?_, fun q => ⟨fun q2 => ?_, fun q2 => ⟨fun q3 => ?_, fun q3 => ?_⟩⟩⟩
    · rw [if_pos q] at h'; exact h'
    · rw [if_neg q, if_pos q2] at h'; exact h'
    · rw [if_neg q, if_neg q2] at h'
      unfold tzF at h'
      rw [if_pos q3] at h'
      exact h'
    · rw [if_neg q, if_neg q2] at h'
      unfold tzF at h'
      rw [if_neg q3] at h'
      exact h'
  · subst q
    have h' : post (if x < 49 then ((0 : Int32), μ) else if 57 < x then ((0 : Int32), μ) else ((7 : Int32), mset μ 12 (μ 9 6).toNatClampNeg (x - 48))).1 (if x < 49 then ((0 : Int32), μ) else if 57 < x then ((0 : Int32), μ) else ((7 : Int32), mset μ 12 (μ 9 6).toNatClampNeg (x - 48))).2 := h
    refine ⟨fun q => ?_, fun q => ⟨fun q2 => ?_, fun q2 => ⟨?_, ?_⟩⟩⟩
    · rw [if_pos q] at h'; exact h'
    · rw [if_neg q, if_pos q2] at h'; exact h'
    · obtain ⟨t, ht, et⟩ := t1.2.1
      rw [et]; exact in9 ht (by omega)
    · rw [if_neg q, if_neg q2] at h'; exact h'
  · have h' : post (stF s x μ).1 (stF s x μ).2 := h
    unfold stF at h'
    rw [if_neg n1, if_neg n2, if_neg n3, if_neg n4, if_neg n5, if_neg n6] at h'
    exact h'
/-- the class's reading from state s on, f codes left -/
def rnF (codes : Nat → Int32) (b : Nat) : Nat → Int32 → Nat → Mem → Int32 × Mem
  | 0, s, _, μ => (if s = 2 ∨ s = 4 ∨ s = 7 then -1 else nI b, μ)
  | f + 1, s, j, μ => if (stF s (codes j) μ).1 = 0 then (nI j, (stF s (codes j) μ).2) else rnF codes b f (stF s (codes j) μ).1 (j + 1) (stF s (codes j) μ).2
theorem dX_end {x : Int32} {μ : Mem} {post : Int32 → Mem → Prop} (h : T_X9_endItem x μ post) : post (endF x μ) μ := by
  unfold endF
  by_cases q : x = 59
  · rw [if_pos q]
    by_cases q2 : 12 ≤ μ 9 4
    · rw [if_pos q2]; exact (h.2 q).1 q2
    · rw [if_neg q2]; exact (h.2 q).2 q2
  · rw [if_neg q]; exact h.1 q
theorem dX_go {x : Int32} {μ : Mem} {post : Int32 → Mem → Prop} (h : T_X9_goOnInWork x μ post) : post (goF x μ) μ := by
  unfold goF
  by_cases q : x = 60
  · rw [if_pos q]; exact h.2 q
  · rw [if_neg q]; exact dX_end (h.1 q)
theorem dX_begin {x : Int32} {μ : Mem} {post : Int32 → Mem → Prop} (h : T_X9_beginItem x μ post) : post (bgF x μ).1 (bgF x μ).2 := by
  have e3 : (mset μ 9 4 ((μ 9 4) + 1)) 9 3 = μ 9 3 := by rw [m2, pk_un (by decide)]
  have e5 : (mset μ 9 4 ((μ 9 4) + 1)) 9 5 = μ 9 5 := by rw [m2, pk_un (by decide)]
  have f3 : ∀ j v, (mset (mset μ 9 4 ((μ 9 4) + 1)) 10 j v) 9 3 = μ 9 3 := fun j v => by unfold mset; rw [mput_o (by decide)]; exact e3
  have f4 : ∀ j v i w, (mset (mset (mset μ 9 4 ((μ 9 4) + 1)) 10 j v) 11 i w) 9 3 = μ 9 3 := fun j v i w => by unfold mset; rw [mput_o (by decide), mput_o (by decide)]; exact e3
  unfold T_X9_beginItem at h
  rw [e3, e5, f3, f4] at h
  unfold bgF
  by_cases q : x = 119 ∧ μ 9 5 = 0 ∧ ¬ 9 ≤ μ 9 3
  · rw [if_pos q]
    exact (((h.2 q.1).2 q.2.1).2 q.2.2).2.2
  · rw [if_neg q]
    have h64 : T_X9_beginItem_64 post x (mset μ 9 4 ((μ 9 4) + 1)) := by
      by_cases q1 : x = 119
      · by_cases q2 : μ 9 5 = 0
        · by_cases q3 : 9 ≤ μ 9 3
          · exact ((h.2 q1).2 q2).1 q3
          · exact absurd ⟨q1, q2, q3⟩ q
        · exact (h.2 q1).1 q2
      · exact h.1 q1
    unfold T_X9_beginItem_64 at h64
    rw [e3, e5] at h64
    by_cases p : x = 115 ∧ ¬ μ 9 3 ≤ 0 ∧ ¬ μ 9 5 = 1023
    · rw [if_pos p]
      exact ((h64.2 p.1).2 p.2.1).2 p.2.2
    · rw [if_neg p]
      by_cases q1 : x = 115
      · by_cases q2 : μ 9 3 ≤ 0
        · exact (h64.2 q1).1 q2
        · by_cases q3 : μ 9 5 = 1023
          · exact ((h64.2 q1).2 q2).1 q3
          · exact absurd ⟨q1, q2, q3⟩ p
      · exact h64.1 q1
theorem dX_step {s x : Int32} {μ : Mem} {post : Int32 → Mem → Prop} (h : T_X9_step s x μ post) : post (stF s x μ).1 (stF s x μ).2 := by
  obtain ⟨a1, a2, a3, a4, a5, a6, a7⟩ := h
  unfold stF
  by_cases e1 : s = 1
  · rw [if_pos e1]; exact dX_begin (a1 e1)
  rw [if_neg e1]
  by_cases e2 : s = 2
  · rw [if_pos e2]
    have h := a2 e2
    by_cases q : x < 97
    · rw [if_pos q]; exact dX_go (h.1 q)
    · rw [if_neg q]
      by_cases q2 : 106 < x
      · rw [if_pos q2]; exact dX_go ((h.2 q).1 q2)
      · rw [if_neg q2]
        have h3 := ((h.2 q).2 q2).2
        unfold tnF
        by_cases q3 : (μ 10 ((μ 9 3) - 1).toNatClampNeg) &&& ((1 : Int32) <<< ((x - 97) &&& 31)) = 0
        · rw [if_pos q3]; exact (h3.1 q3).2.2
        · rw [if_neg q3]; exact h3.2 q3
  rw [if_neg e2]
  by_cases e3 : s = 3
  · rw [if_pos e3]
    have h := a3 e3
    by_cases q : x < 48
    · rw [if_pos q]; exact h.1 q
    · rw [if_neg q]
      by_cases q2 : 57 < x
      · rw [if_pos q2]; exact (h.2 q).1 q2
      · rw [if_neg q2]
        have h3 := (h.2 q).2 q2
        unfold tbF
        by_cases q3 : (μ 9 3) - 1 ≤ x - 48
        · rw [if_pos q3]; exact h3.1 q3
        · rw [if_neg q3]
          by_cases q4 : (μ 11 ((μ 9 3) - 1).toNatClampNeg) &&& ((1 : Int32) <<< ((x - 48) &&& 31)) = 0
          · rw [if_pos q4]; exact ((h3.2 q3).2.1 q4).2.2
          · rw [if_neg q4]; exact (h3.2 q3).2.2 q4
  rw [if_neg e3]
  by_cases e4 : s = 4
  · rw [if_pos e4]; exact dX_go (a4 e4)
  rw [if_neg e4]
  by_cases e5 : s = 5
  · rw [if_pos e5]
    have h := a5 e5
    by_cases q : x < 97
    · rw [if_pos q]; exact h.1 q
    · rw [if_neg q]
      by_cases q2 : 106 < x
      · rw [if_pos q2]; exact (h.2 q).1 q2
      · rw [if_neg q2]
        have h3 := (h.2 q).2 q2
        unfold tzF
        by_cases q3 : (μ 9 5) &&& ((1 : Int32) <<< ((x - 97) &&& 31)) = 0
        · rw [if_pos q3]; exact h3.1 q3
        · rw [if_neg q3]; exact h3.2 q3
  rw [if_neg e5]
  by_cases e6 : s = 6
  · rw [if_pos e6]
    have h := a6 e6
    by_cases q : x < 49
    · rw [if_pos q]; exact h.1 q
    · rw [if_neg q]
      by_cases q2 : 57 < x
      · rw [if_pos q2]; exact (h.2 q).1 q2
      · rw [if_neg q2]; exact ((h.2 q).2 q2).2
  rw [if_neg e6]
  exact dX_end (a7 e1 e2 e3 e4 e5 e6)
/-- a step leaves the text as it must be -/
theorem stF_ok {s x : Int32} {μ : Mem} (ht : TXs s μ) : TXs (stF s x μ).1 (stF s x μ).2 ∧ Fr sT μ (stF s x μ).2 :=
  dX_step (post := fun u μ' => TXs u μ' ∧ Fr sT μ μ') (sX_step ht (fun u μ' hf h => ⟨h, hf⟩))
theorem eX_run {r a b : Nat} {μ0 : Mem} {post : Int32 → Mem → Prop} (hr : shX r = .inl 60) (hrT : ¬ sT r) (hab : a + b ≤ 60) : ∀ f j s μ, j + f = b → Fr sT μ0 μ → TXs s μ → (TXI (rnF (fun k => μ0 r (a + k)) b f s j μ).2 → Fr sT μ0 (rnF (fun k => μ0 r (a + k)) b f s j μ).2 → post (rnF (fun k => μ0 r (a + k)) b f s j μ).1 (rnF (fun k => μ0 r (a + k)) b f s j μ).2) → T_X9_firstFault_10 r post (nI a) (nI b) s (nI j) μ := by
  intro f j s μ hjf hf ht h P hP
  revert j s μ
  induction f with
  | zero =>
    intro j s μ hjf hf ht h
    have e : j = b := by omega
    subst e
    have h2 := h ht.1 hf
    have h3 : post (if s = 2 ∨ s = 4 ∨ s = 7 then -1 else nI j) μ := h2
    refine hP _ _ _ _ _ (br_t (nI_self_le j) ⟨fun q => ?_, fun q => ⟨fun q2 => ?_, fun q2 => ⟨fun q3 => ?_, fun q3 => ?_⟩⟩⟩)
    · rw [if_pos (Or.inl q)] at h3; exact h3
    · rw [if_pos (Or.inr (Or.inl q2))] at h3; exact h3
    · rw [if_neg (fun t => t.elim q (fun t => t.elim q2 q3))] at h3; exact h3
    · rw [if_pos (Or.inr (Or.inr q3))] at h3; exact h3
  | succ f ih =>
    intro j s μ hjf hf ht h
    obtain ⟨ht', hf'⟩ := stF_ok (x := μ0 r (a + j)) ht
    refine hP _ _ _ _ _ (br_f (nI_ge (by omega) (by omega)) ⟨hr, ?_, ?_⟩)
    · rw [nI_add]; exact in9 (by omega) (by omega)
    · rw [nI_add, cl9 (show a + j < 1000000 by omega), hf r hrT, nI_1]
      refine eX_step ht ⟨fun q => ih (j + 1) _ _ (by omega) (Fr_tr hf hf') ht' (fun g1 g2 => ?_), fun q => ?_⟩
      · have e : rnF (fun k => μ0 r (a + k)) b (f + 1) s j μ = rnF (fun k => μ0 r (a + k)) b f (stF s (μ0 r (a + j)) μ).1 (j + 1) (stF s (μ0 r (a + j)) μ).2 := if_neg q
        rw [e] at h
        exact h g1 g2
      · have e : rnF (fun k => μ0 r (a + k)) b (f + 1) s j μ = (nI j, (stF s (μ0 r (a + j)) μ).2) := if_pos q
        rw [e] at h
        exact h ht'.1 (Fr_tr hf hf')
