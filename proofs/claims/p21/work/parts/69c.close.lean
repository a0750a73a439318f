/-! the class closes things one at a time -/
theorem nI_mn {i l : Nat} (hi : i < 2 ^ 30) (hl : l < 2 ^ 30) : (if nI i < nI l then nI i else nI l) = nI (min i l) := by
  by_cases q : i < l
  · rw [if_pos (nI_lt q (by omega)), Nat.min_eq_left (by omega)]
  · rw [if_neg (nI_nlt (by omega) (by omega)), Nat.min_eq_right (by omega)]
theorem LSt_or {C D : Nat → Prop} {v w : Nat} (h : LSt C v) (h' : LSt D w) : LSt (fun c => C c ∨ D c) (min v w) := by
  obtain ⟨a, b, c⟩ := h
  obtain ⟨a', b', c'⟩ := h'
  refine ⟨Nat.le_trans (Nat.min_le_left _ _) a, fun x q => ?_, ?_⟩
  · rcases q with q | q
    · exact Nat.le_trans (Nat.min_le_left _ _) (b x q)
    · exact Nat.le_trans (Nat.min_le_right _ _) (b' x q)
  · by_cases p : v ≤ w
    · rw [Nat.min_eq_left p]; exact c.imp id Or.inl
    · rw [Nat.min_eq_right (by omega)]; exact c'.imp id Or.inr
theorem LSt_one {c : Nat} (h : c ≤ 1000000) : LSt (fun x => x = c) c := ⟨h, fun x q => by rw [q]; exact Nat.le_refl _, Or.inr rfl⟩
theorem LSt_none {C : Nat → Prop} (h : ∀ c, ¬ C c) : LSt C 1000000 := ⟨Nat.le_refl _, fun c q => absurd q (h c), Or.inl rfl⟩
/-- f is s with one of its first T things less -/
def LS1 (T s f : Nat) : Prop := ∃ t, t < T ∧ hb (nI s) t = true ∧ nI f = nI s &&& (((1 : Int32) <<< (nI t &&& 31)) ^^^ (-1))
theorem LS1_sub {T s f : Nat} (h : LS1 T s f) : Sub (nI f) (nI s) := by
  obtain ⟨t, -, -, e⟩ := h
  intro b q
  rw [e, hb_and, Bool.and_eq_true] at q
  exact q.1
theorem LS1_ns {T s : Nat} (hT : T ≤ 10) : ¬ LS1 T s s := by
  rintro ⟨t, ht, q, e⟩
  have this : hb (nI s) t = hb (nI s &&& (((1 : Int32) <<< (nI t &&& 31)) ^^^ (-1))) t := congrArg (fun x => hb x t) e
  rw [hb_andn, hb_shl (by omega), q, decide_eq_true rfl] at this
  exact absurd this (by decide)
theorem eX_closeOne {B s p q : Nat} {μ : Mem} {post : Mem → Prop} {v : Nat → Nat} (hs : s < 1024) (hsB : Sub (nI s) (nI B)) (h : RMp p q μ) (hv : ∀ f, f < 1024 → Sub (nI f) (nI B) → μ q f = nI (v f) ∧ v f ≤ 1000000) (k : ∀ (μ' : Mem) (v' : Nat → Nat), Fr (fun c => c = q) μ μ' → (∀ f, f < 1024 → Sub (nI f) (nI B) → μ' q f = nI (v' f) ∧ v' f ≤ 1000000) → (∀ f, f < 1024 → LS1 10 s f → v' f = min (v f) (v s)) → (∀ f, f < 1024 → ¬ LS1 10 s f → v' f = v f) → post μ') : T_X4_closeOne (nI s) μ post := by
  have q53 := (RMp_3 h).2.2.1
  intro P hP
  have H : ∀ t, t ≤ 10 → ∀ (μ2 : Mem) (v2 : Nat → Nat), Fr (fun c => c = q) μ μ2 → (∀ f, f < 1024 → Sub (nI f) (nI B) → μ2 q f = nI (v2 f) ∧ v2 f ≤ 1000000) → (∀ f, f < 1024 → LS1 t s f → v2 f = min (v f) (v s)) → (∀ f, f < 1024 → ¬ LS1 t s f → v2 f = v f) → P (nI s) (nI t) μ2 := by
    refine down_ind (fun μ2 v2 hf h1 h2 h3 => hP _ _ _ (br_t (by decide) (k μ2 v2 hf h1 h2 h3))) (fun t ht ih μ2 v2 hf h1 h2 h3 => hP _ _ _ (br_f (nI_ge ht (by decide)) ?_))
    obtain ⟨c1, c2, -, -, -⟩ := RMp_3 (RMp_fr h hf q53.symm)
    rw [nI_1, c1, bit_z _ (show t < 32 by omega)]
    by_cases qb : hb (nI s) t = true
    · obtain ⟨f0, hf0, ef0⟩ := lo_nI (lo_and (nI_lo (n := 10) hs (by decide)) (((1 : Int32) <<< (nI t &&& 31)) ^^^ (-1)))
      have hf0 : f0 < 1024 := hf0
      have sb : Sub (nI f0) (nI B) := fun b hb0 => hsB b (by rw [← ef0, hb_and, Bool.and_eq_true] at hb0; exact hb0.1)
      obtain ⟨e1, l1⟩ := h1 f0 hf0 sb
      obtain ⟨e2, l2⟩ := h1 s hs hsB
      have es : v2 s = v s := h3 s hs (LS1_ns (by omega))
      rw [ef0, cl9 (show f0 < 1000000 by omega), cl9 (show s < 1000000 by omega), e1, e2, nI_mn (by omega) (by omega)]
      refine br_f (by rw [qb]; decide) ⟨c2, in9 hf0 (by omega), in9 hs (by omega), in9 hf0 (by omega), ih _ (fun f => if f = f0 then min (v2 s) (v2 f0) else v2 f) (Fr_p hf rfl) ?_ ?_ ?_⟩
      · intro f hfl hsub
        rw [m2]
        by_cases e : f = f0
        · rw [e, pk_us]
          show nI (min (v2 s) (v2 f0)) = nI (if f0 = f0 then min (v2 s) (v2 f0) else v2 f0) ∧ (if f0 = f0 then min (v2 s) (v2 f0) else v2 f0) ≤ 1000000
          rw [if_pos rfl]
          exact ⟨rfl, by omega⟩
        · rw [pk_un e]
          show μ2 q f = nI (if f = f0 then min (v2 s) (v2 f0) else v2 f) ∧ (if f = f0 then min (v2 s) (v2 f0) else v2 f) ≤ 1000000
          rw [if_neg e]
          exact h1 f hfl hsub
      · intro f hfl hL
        show (if f = f0 then min (v2 s) (v2 f0) else v2 f) = _
        by_cases e : f = f0
        · rw [if_pos e, es, ← e]
          by_cases hL2 : LS1 t s f
          · rw [h2 f hfl hL2]; omega
          · rw [h3 f hfl hL2]; omega
        · rw [if_neg e]
          obtain ⟨t', a, b, c⟩ := hL
          by_cases et : t' = t
          · subst et
            rw [ef0] at c
            exact absurd ((nI_eq (by omega) (by omega)).mp c) e
          · exact h2 f hfl ⟨t', by omega, b, c⟩
      · intro f hfl hL
        show (if f = f0 then min (v2 s) (v2 f0) else v2 f) = _
        by_cases e : f = f0
        · exact absurd ⟨t, by omega, qb, by rw [e, ef0]⟩ hL
        · rw [if_neg e]
          exact h3 f hfl (fun ⟨t', a, b, c⟩ => hL ⟨t', by omega, b, c⟩)
    · refine br_t (by cases e : hb (nI s) t; rfl; exact absurd e qb) (ih μ2 v2 hf h1 ?_ (fun f hfl hL => h3 f hfl (fun ⟨t', a, b, c⟩ => hL ⟨t', by omega, b, c⟩)))
      rintro f hfl ⟨t', a, b, c⟩
      refine h2 f hfl ⟨t', ?_, b, c⟩
      have : t' ≠ t := fun e => qb (by rw [← e]; exact b)
      omega
  exact H 0 (Nat.zero_le _) μ v (Fr_rf _ _) hv (fun f _ ⟨t, a, _⟩ => absurd a (by omega)) (fun f _ _ => rfl)
/-- what comes to s: from a set f that holds it -/
def CCz (G : Nat → Nat → Prop) (B s c : Nat) : Prop := ∃ f, f < 1024 ∧ Sub (nI f) (nI B) ∧ Sub (nI s) (nI f) ∧ G f c
def PRd (B L e : Nat) : Prop := ∃ j, L ≤ j ∧ j < 2 ^ pcW 10 B ∧ depW 10 B j = e
def UPs (G : Nat → Nat → Prop) (B L f c : Nat) : Prop := G f c ∨ ∃ e, PRd B L e ∧ LS1 10 e f ∧ CCz G B e c
def CIz (G : Nat → Nat → Prop) (z : Nat → Nat) (R B L : Nat) (v : Nat → Nat) : Prop := (∀ j, L ≤ j → j < 2 ^ pcW 10 B → (sum10 z (nI (depW 10 B j)) ≤ R → LSt (CCz G B (depW 10 B j)) (v (depW 10 B j))) ∧ (R < sum10 z (nI (depW 10 B j)) → v (depW 10 B j) = 1000000)) ∧ (∀ j, j < L → LSt (UPs G B L (depW 10 B j)) (v (depW 10 B j)))
section Close
variable {G : Nat → Nat → Prop} {z : Nat → Nat} {R B L : Nat} {v v' : Nat → Nat}
theorem Sub_tr {x y w : Int32} (h : Sub x y) (h' : Sub y w) : Sub x w := fun b q => h' b (h b q)
theorem dep_le {i j : Nat} (hi : i < 2 ^ pcW 10 B) (h : depW 10 B i < depW 10 B j) : i < j := by
  refine Nat.not_le.mp (fun q => ?_)
  rcases Nat.eq_or_lt_of_le q with e | e
  · rw [e] at h; omega
  · have := depW_mono 10 B j i e hi
    omega
theorem sub_le {s f : Nat} (hs : s < 1024) (hf : f < 1024) (h : Sub (nI s) (nI f)) : s ≤ f := by
  have := (sub_land hs hf).mp h
  rw [← this]
  exact Nat.and_le_right
theorem sub_ne {s f : Nat} (hs : s < 1024) (hf : f < 1024) (h : Sub (nI s) (nI f)) (hne : f ≠ s) : ∃ t, t < 10 ∧ hb (nI f) t = true ∧ hb (nI s) t = false := by
  refine Classical.byContradiction (fun q => hne ?_)
  refine (nI_eq (by omega) (by omega)).mp (hb_ext (fun b _ => ?_))
  by_cases hb10 : b < 10
  · cases e : hb (nI s) b
    · cases e2 : hb (nI f) b
      · rfl
      · exact absurd ⟨b, hb10, e2, e⟩ q
    · exact h b e
  · rw [nI_lo (n := 10) hs (by decide) b (by omega), nI_lo (n := 10) hf (by decide) b (by omega)]
theorem CC_up {s c : Nat} (hB : B < 1024) (hL : L < 2 ^ pcW 10 B) (es : depW 10 B L = s) : UPs G B (L + 1) s c ↔ CCz G B s c := by
  have hs : s < 1024 := by rw [← es]; exact (dep_sb hB L).1
  have hsB : Sub (nI s) (nI B) := by rw [← es]; exact (dep_sb hB L).2
  constructor
  · rintro (h | ⟨e, -, h2, f, a, b, d, g⟩)
    · exact ⟨s, hs, hsB, fun _ q => q, h⟩
    · exact ⟨f, a, b, Sub_tr (LS1_sub h2) d, g⟩
  · rintro ⟨f, a, b, d, g⟩
    by_cases e : f = s
    · rw [e] at g; exact Or.inl g
    · obtain ⟨t, ht, q1, q2⟩ := sub_ne hs a d e
      have hE : s ||| 2 ^ t < 1024 := Nat.or_lt_two_pow (n := 10) hs (Nat.pow_lt_pow_right (by decide) ht)
      have p2 : 2 ^ t < 2 ^ 32 := Nat.pow_lt_pow_right (by decide) (by omega)
      have eE : ∀ i, hb (nI (s ||| 2 ^ t)) i = (hb (nI s) i || decide (i = t)) := fun i => by
        rw [hb_nI (by omega), hb_nI (by omega), Nat.testBit_or, Nat.testBit_two_pow]
        congr 1
        exact decide_eq_decide.mpr eq_comm
      have sE : Sub (nI (s ||| 2 ^ t)) (nI f) := fun i hi => by
        rw [eE, Bool.or_eq_true, decide_eq_true_eq] at hi
        rcases hi with hi | hi
        · exact d i hi
        · rw [hi]; exact q1
      have sE2 : Sub (nI s) (nI (s ||| 2 ^ t)) := fun i hi => by rw [eE, hi]; rfl
      have lt : s < s ||| 2 ^ t := by
        refine Nat.lt_of_le_of_ne (sub_le hs hE sE2) (fun q => ?_)
        have := eE t
        rw [← q, q2, decide_eq_true rfl] at this
        exact absurd this (by decide)
      obtain ⟨j, hj, ej⟩ := depW_sur 10 B (s ||| 2 ^ t) hB ((sub_land hE hB).mp (Sub_tr sE b))
      have hlt : L < j := dep_le hL (by rw [es, ej]; exact lt)
      refine Or.inr ⟨s ||| 2 ^ t, ⟨j, hlt, hj, ej⟩, ⟨t, ht, by rw [eE, decide_eq_true rfl, Bool.or_true], hb_ext (fun i _ => ?_)⟩, f, a, b, sE, g⟩
      rw [hb_andn, eE, hb_shl (by omega)]
      by_cases ei : i = t
      · rw [ei, q2, decide_eq_true rfl]; rfl
      · rw [decide_eq_false ei, Bool.or_false, Bool.not_false, Bool.and_true]
theorem CI_at (hB : B < 1024) (hL : L < 2 ^ pcW 10 B) (h : CIz G z R B (L + 1) v) : LSt (CCz G B (depW 10 B L)) (v (depW 10 B L)) := LSt_cong (fun _ => CC_up hB hL rfl) (h.2 L (by omega))
theorem CI_step {s : Nat} (hB : B < 1024) (hL : L < 2 ^ pcW 10 B) (es : depW 10 B L = s) (h : CIz G z R B (L + 1) v) (h1 : ∀ f, f < 1024 → Sub (nI f) (nI B) → LS1 10 s f → v' f = min (v f) (v s)) (h2 : ∀ f, f < 1024 → Sub (nI f) (nI B) → ¬ LS1 10 s f → f ≠ s → v' f = v f) (h3 : sum10 z (nI s) ≤ R → v' s = v s) (h4 : R < sum10 z (nI s) → v' s = 1000000) : CIz G z R B L v' := by
  have hat := CI_at hB hL h
  rw [es] at hat
  have hs : s < 1024 := by rw [← es]; exact (dep_sb hB L).1
  refine ⟨fun j a b => ?_, fun j a => ?_⟩
  · by_cases e : j = L
    · subst e
      rw [es]
      exact ⟨fun q => by rw [h3 q]; exact hat, h4⟩
    · obtain ⟨d1, d2⟩ := dep_sb hB j
      have lt := depW_mono 10 B L j (by omega) b
      rw [es] at lt
      have n1 : ¬ LS1 10 s (depW 10 B j) := fun q => by
        have := sub_le d1 hs (LS1_sub q)
        omega
      rw [h2 _ d1 d2 n1 (by omega)]
      exact h.1 j (by omega) b
  · obtain ⟨d1, d2⟩ := dep_sb hB j
    have lt := depW_mono 10 B j L a hL
    rw [es] at lt
    have old := h.2 j (by omega)
    have up : ∀ c, UPs G B L (depW 10 B j) c ↔ UPs G B (L + 1) (depW 10 B j) c ∨ (LS1 10 s (depW 10 B j) ∧ CCz G B s c) := fun c => by
      constructor
      · rintro (q | ⟨e, ⟨i, i1, i2, i3⟩, q2, q3⟩)
        · exact Or.inl (Or.inl q)
        · by_cases ei : i = L
          · rw [ei, es] at i3
            rw [← i3] at q2 q3
            exact Or.inr ⟨q2, q3⟩
          · exact Or.inl (Or.inr ⟨e, ⟨i, by omega, i2, i3⟩, q2, q3⟩)
      · rintro ((q | ⟨e, ⟨i, i1, i2, i3⟩, q2, q3⟩) | ⟨q2, q3⟩)
        · exact Or.inl q
        · exact Or.inr ⟨e, ⟨i, by omega, i2, i3⟩, q2, q3⟩
        · exact Or.inr ⟨s, ⟨L, Nat.le_refl _, hL, es⟩, q2, q3⟩
    by_cases q : LS1 10 s (depW 10 B j)
    · rw [h1 _ d1 d2 q]
      exact LSt_cong (fun c => ⟨fun t => (up c).mpr (t.imp id (fun t => ⟨q, t⟩)), fun t => ((up c).mp t).imp id (fun t => t.2)⟩) (LSt_or old hat)
    · rw [h2 _ d1 d2 q (by omega)]
      exact LSt_cong (fun c => ⟨fun t => (up c).mpr (Or.inl t), fun t => ((up c).mp t).elim id (fun t => absurd t.1 q)⟩) old
theorem eX_closeSome {p q : Nat} {μ : Mem} {post : Mem → Prop} (hB : B < 1024) (hR : R ≤ 990) (hz : ScR 16 z μ) (h : RMp p q μ) (hv : ∀ f, f < 1024 → Sub (nI f) (nI B) → μ q f = nI (v f) ∧ LSt (G f) (v f)) (k : ∀ (μ' : Mem) (v' : Nat → Nat), Fr (fun c => c = q) μ μ' → (∀ f, f < 1024 → Sub (nI f) (nI B) → μ' q f = nI (v' f) ∧ (sum10 z (nI f) ≤ R → LSt (CCz G B f) (v' f)) ∧ (R < sum10 z (nI f) → v' f = 1000000)) → post μ') : T_X4_closeSome (nI B) (nI R) μ post := by
  obtain ⟨b1, b2⟩ := bc_pw hB
  refine sX_bitCount ?_
  rw [b1]
  obtain ⟨-, -, q53, -, q5⟩ := RMp_3 h
  have hz9 := hz.1
  intro P hP
  have H : ∀ L, L ≤ 2 ^ pcW 10 B → ∀ (x3 : Int32) (μ2 : Mem) (v2 : Nat → Nat), (0 < L → x3 = nI (depW 10 B (L - 1))) → Fr (fun c => c = q) μ μ2 → (∀ f, f < 1024 → Sub (nI f) (nI B) → μ2 q f = nI (v2 f) ∧ v2 f ≤ 1000000) → CIz G z R B L v2 → P (nI B) (nI R) x3 (nI L) μ2 := by
    intro L
    induction L with
    | zero =>
      intro _ x3 μ2 v2 _ hf h1 h2
      refine hP _ _ _ _ _ (br_t (by decide) (k μ2 v2 hf (fun f hfl hsub => ⟨(h1 f hfl hsub).1, ?_⟩)))
      exact dep_all (Q := fun f => (sum10 z (nI f) ≤ R → LSt (CCz G B f) (v2 f)) ∧ (R < sum10 z (nI f) → v2 f = 1000000)) hB (fun j hj => h2.1 j (Nat.zero_le _) hj) f hfl hsub
    | succ L ih =>
      intro hL x3 μ2 v2 hx hf h1 h2
      have ex := hx (by omega)
      rw [show L + 1 - 1 = L by omega] at ex
      subst ex
      obtain ⟨d1, d2⟩ := dep_sb hB L
      have hat := CI_at hB (by omega) h2
      generalize es : depW 10 B L = s at d1 d2 hat ⊢
      obtain ⟨e1, l1⟩ := h1 s d1 d2
      have rmp := RMp_fr h hf q53.symm
      obtain ⟨c1, c2, -, -, -⟩ := RMp_3 rmp
      have s9 := sum10_le hz9 (nI s)
      refine hP _ _ _ _ _ (br_f (nI_nle (by omega) (by omega)) ?_)
      rw [c1, cl9 (show s < 1000000 by omega), e1]
      have nx : ∀ (μ4 : Mem) (v4 : Nat → Nat), Fr (fun c => c = q) μ μ4 → (∀ f, f < 1024 → Sub (nI f) (nI B) → μ4 q f = nI (v4 f) ∧ v4 f ≤ 1000000) → CIz G z R B L v4 → T_X4_closeSome_54 post P (nI B) (nI R) (nI s) (nI (L + 1)) μ4 := by
        intro μ4 v4 hf4 h4 h5
        unfold T_X4_closeSome_54
        rw [pk_m1]
        exact ih (by omega) _ μ4 v4 (fun h0 => by rw [← es]; exact dep_next hB h0 (by omega)) hf4 h4 h5
      refine ⟨c2, in9 d1 (by omega), pk_le (x := 1000000) 1000000 (v2 s) (fun hge => nx μ2 v2 hf h1 (CI_step hB (by omega) es h2 (fun f hfl hsub _ => ?_) (fun _ _ _ _ _ => rfl) (fun _ => rfl) (fun _ => by omega))) (fun hlt => eX_closeOne d1 d2 rmp h1 (fun μ4 v4 hf4 h4 g1 g2 => ?_))⟩
      · have := (h1 f hfl hsub).2
        omega
      · have hf4' := Fr_tr hf hf4
        obtain ⟨c3, c4, -, -, -⟩ := RMp_3 (RMp_fr h hf4' q53.symm)
        have es4 := g2 s d1 (LS1_ns (by omega))
        refine sX_sumE (ScR_fr hz hf4' (by omega) (by omega)) ?_
        rw [c3]
        refine pk_le (sum10 z (nI s)) R (fun hle => nx μ4 v4 hf4' h4 (CI_step hB (by omega) es h2 (fun f a _ b => g1 f a b) (fun f a _ b _ => g2 f a b) (fun _ => es4) (fun q => absurd q (by omega)))) (fun hgt => ⟨c4, in9 d1 (by omega), nx _ (fun f => if f = s then 1000000 else v4 f) (Fr_p hf4' rfl) (fun f hfl hsub => ?_) (CI_step hB (by omega) es h2 (fun f a _ b => ?_) (fun f a _ b e => ?_) (fun q => absurd q (by omega)) (fun _ => if_pos rfl))⟩)
        · rw [m2]
          by_cases e : f = s
          · rw [e, pk_us]
            show (1000000 : Int32) = nI (if s = s then 1000000 else v4 s) ∧ (if s = s then 1000000 else v4 s) ≤ 1000000
            rw [if_pos rfl]
            exact ⟨rfl, Nat.le_refl _⟩
          · rw [pk_un e]
            show μ4 q f = nI (if f = s then 1000000 else v4 f) ∧ (if f = s then 1000000 else v4 f) ≤ 1000000
            rw [if_neg e]
            exact h4 f hfl hsub
        · show (if f = s then 1000000 else v4 f) = _
          have e : f ≠ s := fun e => LS1_ns (T := 10) (s := s) (by omega) (by rw [e] at b; exact b)
          rw [if_neg e]
          exact g1 f a b
        · show (if f = s then 1000000 else v4 f) = _
          rw [if_neg e]
          exact g2 f a b
  refine H _ (Nat.le_refl _) _ μ v (fun _ => by rw [depW_top 10 B hB]) (Fr_rf _ _) (fun f a b => ⟨(hv f a b).1, (hv f a b).2.1⟩) ⟨fun j a b => absurd a (by omega), fun j a => ?_⟩
  obtain ⟨d1, d2⟩ := dep_sb hB j
  refine LSt_cong (fun c => ⟨Or.inl, fun t => t.elim id (fun ⟨e, ⟨i, i1, i2, _⟩, _⟩ => absurd i1 (by omega))⟩) (hv _ d1 d2).2
end Close
