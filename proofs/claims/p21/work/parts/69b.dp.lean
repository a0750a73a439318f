/-! the least price, place by place -/
def LSt (C : Nat → Prop) (v : Nat) : Prop := v ≤ 1000000 ∧ (∀ c, C c → v ≤ c) ∧ (v = 1000000 ∨ C v)
theorem LSt_u {C : Nat → Prop} {v v' : Nat} (h : LSt C v) (h' : LSt C v') : v = v' := by
  obtain ⟨a, b, c⟩ := h
  obtain ⟨a', b', c'⟩ := h'
  have l1 : v ≤ v' := by
    rcases c' with q | q
    · omega
    · exact b _ q
  have l2 : v' ≤ v := by
    rcases c with q | q
    · omega
    · exact b' _ q
  omega
theorem LSt_cong {C C' : Nat → Prop} {v : Nat} (e : ∀ c, C c ↔ C' c) (h : LSt C v) : LSt C' v := ⟨h.1, fun c q => h.2.1 c ((e c).mpr q), h.2.2.imp id (fun q => (e v).mp q)⟩
/-- the price from place k (kept s) to place k + 1 -/
def prP (N Bt : Nat → Int32) (zp : Nat → Nat) (k s : Nat) : Nat := sum10 zp ((Bt k &&& N (k + 1)) &&& (nI s ^^^ (-1)))
def okP (N Bt : Nat → Int32) (z : Nat → Nat) (r k s : Nat) : Prop := Sub (nI s) (Bt k) ∧ sum10 z (nI s) + sum10 z (N k) ≤ r
def cdP (N Bt : Nat → Int32) (zp : Nat → Nat) (k : Nat) (Vp : Nat → Nat) (s c : Nat) : Prop := ∃ s', s' < 1024 ∧ Vp s' < 1000000 ∧ Sub (nI s) (nI s' ||| N k) ∧ c = Vp s' + prP N Bt zp k s'
def STp (N Bt : Nat → Int32) (z zp : Nat → Nat) (r k : Nat) (Vp V : Nat → Nat) : Prop := ∀ s, s < 1024 → (okP N Bt z r (k + 1) s → LSt (cdP N Bt zp k Vp s) (V s)) ∧ (¬ okP N Bt z r (k + 1) s → V s = 1000000)
def DPc (N Bt : Nat → Int32) (z zp : Nat → Nat) (r : Nat) : Nat → (Nat → Nat) → Prop
  | 0, V => ∀ s, s < 1024 → V s = if s = 0 then 0 else 1000000
  | k + 1, V => ∃ Vp, DPc N Bt z zp r k Vp ∧ STp N Bt z zp r k Vp V
section DP
variable {N Bt N' Bt' : Nat → Int32} {z zp : Nat → Nat} {r : Nat}
theorem cdP_cong {k s : Nat} {Vp Vp' : Nat → Nat} (e : ∀ s, s < 1024 → Vp s = Vp' s) (c : Nat) : cdP N Bt zp k Vp s c ↔ cdP N Bt zp k Vp' s c := by
  constructor
  · rintro ⟨s', a, b, d, f⟩
    exact ⟨s', a, by rw [← e s' a]; exact b, d, by rw [← e s' a]; exact f⟩
  · rintro ⟨s', a, b, d, f⟩
    exact ⟨s', a, by rw [e s' a]; exact b, d, by rw [e s' a]; exact f⟩
theorem DPc_u : ∀ k V V', DPc N Bt z zp r k V → DPc N Bt z zp r k V' → ∀ s, s < 1024 → V s = V' s := by
  intro k
  induction k with
  | zero => intro V V' h h' s hs; rw [h s hs, h' s hs]
  | succ k ih =>
    intro V V' h h' s hs
    obtain ⟨Vp, a, b⟩ := h
    obtain ⟨Vp', a', b'⟩ := h'
    have e := ih Vp Vp' a a'
    by_cases q : okP N Bt z r (k + 1) s
    · exact LSt_u (LSt_cong (cdP_cong e) ((b s hs).1 q)) ((b' s hs).1 q)
    · rw [(b s hs).2 q, (b' s hs).2 q]
theorem DPc_bd (hzp : ∀ t, zp t ≤ 99) : ∀ k V, DPc N Bt z zp r k V → ∀ s, s < 1024 → V s ≤ 1000000 ∧ (V s < 1000000 → V s ≤ 990 * k) := by
  intro k
  induction k with
  | zero =>
    intro V h s hs
    rw [h s hs]
    split <;> omega
  | succ k ih =>
    intro V h s hs
    obtain ⟨Vp, a, b⟩ := h
    by_cases q : okP N Bt z r (k + 1) s
    · obtain ⟨c1, c2, c3⟩ := (b s hs).1 q
      refine ⟨c1, fun hlt => ?_⟩
      rcases c3 with c3 | ⟨s', d1, d2, -, d4⟩
      · omega
      · have h1 := (ih Vp a s' d1).2 d2
        have h2 : prP N Bt zp k s' ≤ 990 := sum10_le hzp _
        omega
    · rw [(b s hs).2 q]; omega
theorem DPc_sub : ∀ k V, DPc N Bt z zp r k V → ∀ s, s < 1024 → V s < 1000000 → Sub (nI s) (Bt k) := by
  intro k
  cases k with
  | zero =>
    intro V h s hs hlt
    by_cases e : s = 0
    · subst e
      intro b q
      rw [show (nI 0 : Int32) = 0 from rfl, hb_0] at q; exact absurd q (by decide)
    · rw [h s hs, if_neg e] at hlt; omega
  | succ k =>
    intro V h s hs hlt
    obtain ⟨Vp, a, b⟩ := h
    by_cases q : okP N Bt z r (k + 1) s
    · exact q.1
    · rw [(b s hs).2 q] at hlt; omega
theorem DPc_cong {m : Nat} (eN : ∀ k, k ≤ m → N k = N' k) (eB : ∀ k, k ≤ m → Bt k = Bt' k) : ∀ k V, k ≤ m → DPc N Bt z zp r k V → DPc N' Bt' z zp r k V := by
  intro k
  induction k with
  | zero => intro V _ h; exact h
  | succ k ih =>
    intro V hk h
    obtain ⟨Vp, a, b⟩ := h
    refine ⟨Vp, ih Vp (by omega) a, fun s hs => ?_⟩
    have e1 : ∀ s', prP N Bt zp k s' = prP N' Bt' zp k s' := fun s' => by unfold prP; rw [eB k (by omega), eN (k + 1) hk]
    have e2 : ∀ c, cdP N Bt zp k Vp s c ↔ cdP N' Bt' zp k Vp s c := fun c => by
      unfold cdP
      rw [eN k (by omega)]
      constructor
      · rintro ⟨s', p1, p2, p3, p4⟩; exact ⟨s', p1, p2, p3, by rw [← e1]; exact p4⟩
      · rintro ⟨s', p1, p2, p3, p4⟩; exact ⟨s', p1, p2, p3, by rw [e1]; exact p4⟩
    have e3 : okP N Bt z r (k + 1) s ↔ okP N' Bt' z r (k + 1) s := by unfold okP; rw [eB (k + 1) hk, eN (k + 1) hk]
    exact ⟨fun q => LSt_cong e2 ((b s hs).1 (e3.mpr q)), fun q => (b s hs).2 (fun t => q (e3.mp t))⟩
end DP
/-! the class's rows of prices -/
def RMp (p q : Nat) (μ : Mem) : Prop := ((p = 54 ∧ q = 55) ∨ (p = 55 ∧ q = 54)) ∧ μ 53 2 = nI p ∧ μ 53 3 = nI q
theorem RMp_RM {p q : Nat} {μ : Mem} (h : RMp p q μ) : RM μ := ⟨p, q, h.1, h.2⟩
theorem RMp_fr {p q : Nat} {S : Nat → Prop} {μ μ' : Mem} (h : RMp p q μ) (f : Fr S μ μ') (hs : ¬ S 53) : RMp p q μ' := by unfold RMp; rw [f 53 hs]; exact h
theorem RMp_3 {p q : Nat} {μ : Mem} (h : RMp p q μ) : (μ 53 3).toNatClampNeg = q ∧ shX q = .inl 1024 ∧ q ≠ 53 ∧ q ≠ p ∧ (q = 54 ∨ q = 55) := by
  rcases h with ⟨⟨a, b⟩ | ⟨a, b⟩, h2, h3⟩
  · subst a b; exact ⟨by rw [h3]; rfl, rfl, by decide, by decide, Or.inr rfl⟩
  · subst a b; exact ⟨by rw [h3]; rfl, rfl, by decide, by decide, Or.inl rfl⟩
theorem RMp_2 {p q : Nat} {μ : Mem} (h : RMp p q μ) : (μ 53 2).toNatClampNeg = p ∧ shX p = .inl 1024 ∧ p ≠ 53 ∧ (p = 54 ∨ p = 55) := by
  rcases h with ⟨⟨a, b⟩ | ⟨a, b⟩, h2, h3⟩
  · subst a b; exact ⟨by rw [h2]; rfl, rfl, by decide, Or.inl rfl⟩
  · subst a b; exact ⟨by rw [h2]; rfl, rfl, by decide, Or.inr rfl⟩
theorem sub_land {s B : Nat} (hs : s < 1024) (hB : B < 1024) : Sub (nI s) (nI B) ↔ s &&& B = s := by
  constructor
  · intro h
    apply Nat.eq_of_testBit_eq
    intro i
    rw [Nat.testBit_and]
    have := h i
    rw [hb_nI (by omega), hb_nI (by omega)] at this
    cases q : s.testBit i
    · rfl
    · rw [this q]; rfl
  · intro h i q
    rw [hb_nI (by omega)] at q ⊢
    rw [← h, Nat.testBit_and, Bool.and_eq_true] at q
    exact q.2
theorem dep_next {B L : Nat} (hB : B < 1024) (hL : 0 < L) (hL2 : L < 2 ^ pcW 10 B) : (nI (depW 10 B L) - 1) &&& nI B = nI (depW 10 B (L - 1)) := by
  have h1 := depW_pos 10 B L hL hL2
  have h2 : depW 10 B L < 1024 := depW_lt 10 B L
  have e : nI (depW 10 B L) - 1 = nI (depW 10 B L - 1) := pk_sub (b := 1) h1
  rw [e, nI_and (by omega) (by omega), depW_pred 10 B L hB hL hL2]
theorem dep_all {B : Nat} {Q : Nat → Prop} (hB : B < 1024) (h : ∀ j, j < 2 ^ pcW 10 B → Q (depW 10 B j)) : ∀ s, s < 1024 → Sub (nI s) (nI B) → Q s := fun s hs hsub => by
  obtain ⟨j, hj, e⟩ := depW_sur 10 B s hB ((sub_land hs hB).mp hsub)
  rw [← e]; exact h j hj
theorem dep_sb {B : Nat} (hB : B < 1024) (j : Nat) : depW 10 B j < 1024 ∧ Sub (nI (depW 10 B j)) (nI B) := by
  have h : depW 10 B j < 1024 := depW_lt 10 B j
  exact ⟨h, (sub_land h hB).mpr (depW_sub 10 B j hB)⟩
theorem bc_pw {B : Nat} (hB : B < 1024) : (1 : Int32) <<< (bcF (nI B) &&& 31) = nI (2 ^ pcW 10 B) ∧ 2 ^ pcW 10 B ≤ 1024 := by
  have : ∀ B, B < 1024 → ((1 : Int32) <<< (bcF (nI B) &&& 31) = nI (2 ^ pcW 10 B) ∧ 2 ^ pcW 10 B ≤ 1024) := by decide +kernel
  exact this B hB
theorem eX_fillFar {B p q : Nat} {μ : Mem} {post : Mem → Prop} (hB : B < 1024) (h : RMp p q μ) (k : ∀ μ', Fr (fun c => c = q) μ μ' → (∀ s, s < 1024 → Sub (nI s) (nI B) → μ' q s = nI 1000000) → post μ') : T_X4_fillFar (nI B) μ post := by
  obtain ⟨b1, b2⟩ := bc_pw hB
  refine sX_bitCount ?_
  rw [b1]
  have q53 := (RMp_3 h).2.2.1
  intro P hP
  have H : ∀ L, L ≤ 2 ^ pcW 10 B → ∀ x2 μ2, (0 < L → x2 = nI (depW 10 B (L - 1))) → Fr (fun c => c = q) μ μ2 → (∀ j, L ≤ j → j < 2 ^ pcW 10 B → μ2 q (depW 10 B j) = nI 1000000) → P (nI B) x2 (nI L) μ2 := by
    intro L
    induction L with
    | zero => exact fun _ x2 μ2 _ hf h2 => hP _ _ _ _ (br_t (by decide) (k μ2 hf (dep_all hB (fun j hj => h2 j (Nat.zero_le _) hj))))
    | succ L ih =>
      intro hL x2 μ2 hx hf h2
      have ex := hx (by omega)
      rw [show L + 1 - 1 = L by omega] at ex
      subst ex
      refine hP _ _ _ _ (br_f (nI_nle (by omega) (by omega)) ?_)
      obtain ⟨c1, c2, -, -, -⟩ := RMp_3 (RMp_fr h hf q53.symm)
      obtain ⟨d1, d2⟩ := dep_sb hB L
      rw [c1, pk_m1, cl9 (show depW 10 B L < 1000000 by omega)]
      refine ⟨c2, in9 d1 (by omega), ih (by omega) _ _ (fun h0 => dep_next hB h0 (by omega)) (Fr_p hf rfl) (fun j h1 h3 => ?_)⟩
      rw [m2]
      by_cases e : depW 10 B j = depW 10 B L
      · rw [e, pk_us]; rfl
      · rw [pk_un e]
        have : j ≠ L := fun t => e (by rw [t])
        exact h2 j (by omega) h3
  refine H _ (Nat.le_refl _) _ μ (fun _ => ?_) (Fr_rf _ _) (fun j h1 h2 => absurd h1 (by omega))
  rw [depW_top 10 B hB]
