/-! moves: pure -/
def mvI (p t k : Nat) : Nat := if k = t then p else if p ≤ k ∧ k < t then k + 1 else if t < k ∧ k ≤ p then k - 1 else k
def mvR (ρ : Nat → Int32) (p t k : Nat) : Int32 := ρ (mvI p t k)
theorem mvI_lt {n p t k : Nat} (hp : p < n) (ht : t < n) (hk : k < n) : mvI p t k < n := by
  unfold mvI
  (repeat' split) <;> omega
theorem mvI_inj {p t a b : Nat} (h : mvI p t a = mvI p t b) : a = b := by
  unfold mvI at h
  (repeat' split at h) <;> omega
theorem mvR_cong {ρ σ : Nat → Int32} {n p t : Nat} (h : ∀ i, i < n → ρ i = σ i) (hp : p < n) (ht : t < n) : ∀ k, k < n → mvR ρ p t k = mvR σ p t k := fun k hk => h _ (mvI_lt hp ht hk)
def PRM (n : Nat) (ρ : Nat → Int32) : Prop := (∀ k, k < n → ∃ v, v < n ∧ ρ k = nI v) ∧ NT ρ n
theorem PRM_cong {n : Nat} {ρ σ : Nat → Int32} (e : ∀ i, i < n → ρ i = σ i) (h : PRM n ρ) : PRM n σ := ⟨fun k hk => by rw [← e k hk]; exact h.1 k hk, NT_cong e h.2⟩
theorem PRM_mv {n p t : Nat} {ρ : Nat → Int32} (h : PRM n ρ) (hp : p < n) (ht : t < n) : PRM n (mvR ρ p t) := ⟨fun k hk => h.1 _ (mvI_lt hp ht hk), fun a b ha hb0 e => mvI_inj (h.2 _ _ (mvI_lt hp ht ha) (mvI_lt hp ht hb0) e)⟩
theorem val_eq {n : Nat} {ρ nd nd' : Nat → Int32} (h9 : n ≤ 9) (h : ∀ k, k < n → ∃ v, v < n ∧ ρ k = nI v) (e : ∀ w, w < n → nd w = nd' w) : ∀ k, k < n → nd (ρ k).toNatClampNeg = nd' (ρ k).toNatClampNeg := fun k hk => by
  obtain ⟨v, hv, ev⟩ := h k hk
  rw [ev, cl9 (show v < 1000000 by omega)]
  exact e v hv
/-- the move from place p to t is good -/
def gdM (n : Nat) (nd bf : Nat → Int32) (z : Nat → Nat) (ρ : Nat → Int32) (p t : Nat) : Prop := LWk bf (mvR ρ p t) n ∧ BET n (moN nd z (mvR ρ p t) n) (loN nd z (mvR ρ p t) n) (moN nd z ρ n) (loN nd z ρ n) (mvR ρ p t) ρ
theorem gdM_cong {n p t : Nat} {nd nd' bf bf' ρ σ : Nat → Int32} {z : Nat → Nat} (h9 : n ≤ 9) (hv : ∀ k, k < n → ∃ v, v < n ∧ ρ k = nI v) (he : ∀ k, k < n → ρ k = σ k) (hnd : ∀ w, w < n → nd w = nd' w) (hbf : ∀ w, w < n → bf w = bf' w) (hp : p < n) (ht : t < n) (h : gdM n nd bf z ρ p t) : gdM n nd' bf' z σ p t := by
  obtain ⟨h1, h2⟩ := h
  have hv2 : ∀ k, k < n → ∃ v, v < n ∧ mvR ρ p t k = nI v := fun k hk => hv _ (mvI_lt hp ht hk)
  have em := mvR_cong he hp ht
  refine ⟨LWk_cong em (val_eq h9 hv2 hbf) h1, ?_⟩
  rw [moN_cong em (val_eq h9 hv2 hnd), loN_cong em (val_eq h9 hv2 hnd), moN_cong he (val_eq h9 hv hnd), loN_cong he (val_eq h9 hv hnd)] at h2
  exact BET_cong em he h2
/-- the first good move -/
def FG (n : Nat) (nd bf : Nat → Int32) (z : Nat → Nat) (ρ : Nat → Int32) (p t : Nat) : Prop := p < n ∧ t < n ∧ p ≠ t ∧ gdM n nd bf z ρ p t ∧ ∀ p' t', p' < n → t' < n → p' ≠ t' → (p' < p ∨ (p' = p ∧ t' < t)) → ¬ gdM n nd bf z ρ p' t'
def NoM (n : Nat) (nd bf : Nat → Int32) (z : Nat → Nat) (ρ : Nat → Int32) : Prop := ∀ p t, p < n → t < n → p ≠ t → ¬ gdM n nd bf z ρ p t
theorem FG_cong {n p t : Nat} {nd nd' bf bf' ρ σ : Nat → Int32} {z : Nat → Nat} (h9 : n ≤ 9) (hv : ∀ k, k < n → ∃ v, v < n ∧ ρ k = nI v) (he : ∀ k, k < n → ρ k = σ k) (hnd : ∀ w, w < n → nd w = nd' w) (hbf : ∀ w, w < n → bf w = bf' w) (h : FG n nd bf z ρ p t) : FG n nd' bf' z σ p t := by
  obtain ⟨a, b, c, d, e⟩ := h
  have hv2 : ∀ k, k < n → ∃ v, v < n ∧ σ k = nI v := fun k hk => by rw [← he k hk]; exact hv k hk
  exact ⟨a, b, c, gdM_cong h9 hv he hnd hbf a b d, fun p' t' hp' ht' hne hl q => e p' t' hp' ht' hne hl (gdM_cong h9 hv2 (fun k hk => (he k hk).symm) (fun w hw => (hnd w hw).symm) (fun w hw => (hbf w hw).symm) hp' ht' q)⟩
theorem NoM_cong {n : Nat} {nd nd' bf bf' ρ σ : Nat → Int32} {z : Nat → Nat} (h9 : n ≤ 9) (hv : ∀ k, k < n → ∃ v, v < n ∧ ρ k = nI v) (he : ∀ k, k < n → ρ k = σ k) (hnd : ∀ w, w < n → nd w = nd' w) (hbf : ∀ w, w < n → bf w = bf' w) (h : NoM n nd bf z ρ) : NoM n nd' bf' z σ := fun p t hp ht hne q => h p t hp ht hne (gdM_cong h9 (fun k hk => by rw [← he k hk]; exact hv k hk) (fun k hk => (he k hk).symm) (fun w hw => (hnd w hw).symm) (fun w hw => (hbf w hw).symm) hp ht q)
theorem FG_u {n p t p' t' : Nat} {nd bf ρ : Nat → Int32} {z : Nat → Nat} (h : FG n nd bf z ρ p t) (h' : FG n nd bf z ρ p' t') : p = p' ∧ t = t' := by
  obtain ⟨a, b, c, d, e⟩ := h
  obtain ⟨a', b', c', d', e'⟩ := h'
  rcases Nat.lt_trichotomy p p' with q | q | q
  · exact absurd d (e' p t a b c (Or.inl q))
  · rcases Nat.lt_trichotomy t t' with q2 | q2 | q2
    · exact absurd d (e' p t a b c (Or.inr ⟨q, q2⟩))
    · exact ⟨q, q2⟩
    · exact absurd d' (e p' t' a' b' c' (Or.inr ⟨q.symm, q2⟩))
  · exact absurd d' (e p' t' a' b' c' (Or.inl q))
/-- the row after j moves -/
def Chn (n : Nat) (nd bf : Nat → Int32) (z : Nat → Nat) (ρ0 : Nat → Int32) : Nat → (Nat → Int32) → Prop
  | 0, ρ => ∀ k, k < n → ρ k = ρ0 k
  | j + 1, ρ => ∃ (ρ1 : Nat → Int32) (p t : Nat), Chn n nd bf z ρ0 j ρ1 ∧ FG n nd bf z ρ1 p t ∧ ∀ k, k < n → ρ k = mvR ρ1 p t k
section Ch
variable {n : Nat} {nd bf nd' bf' ρ0 σ0 : Nat → Int32} {z : Nat → Nat}
theorem Chn_prm (h : PRM n ρ0) : ∀ j ρ, Chn n nd bf z ρ0 j ρ → PRM n ρ := by
  intro j
  induction j with
  | zero => intro ρ hc; exact PRM_cong (fun i hi => (hc i hi).symm) h
  | succ j ih =>
    intro ρ hc
    obtain ⟨ρ1, p, t, c1, c2, c3⟩ := hc
    exact PRM_cong (fun i hi => (c3 i hi).symm) (PRM_mv (ih ρ1 c1) c2.1 c2.2.1)
theorem Chn_eq : ∀ j ρ ρ', (∀ k, k < n → ρ k = ρ' k) → Chn n nd bf z ρ0 j ρ → Chn n nd bf z ρ0 j ρ' := by
  intro j ρ ρ' e hc
  cases j with
  | zero => exact fun k hk => (e k hk).symm.trans (hc k hk)
  | succ j =>
    obtain ⟨ρ1, p, t, c1, c2, c3⟩ := hc
    exact ⟨ρ1, p, t, c1, c2, fun k hk => (e k hk).symm.trans (c3 k hk)⟩
theorem Chn_cong (h9 : n ≤ 9) (h : PRM n ρ0) (he : ∀ k, k < n → ρ0 k = σ0 k) (hnd : ∀ w, w < n → nd w = nd' w) (hbf : ∀ w, w < n → bf w = bf' w) : ∀ j ρ, Chn n nd bf z ρ0 j ρ → Chn n nd' bf' z σ0 j ρ := by
  intro j
  induction j with
  | zero => intro ρ hc k hk; rw [hc k hk]; exact he k hk
  | succ j ih =>
    intro ρ hc
    obtain ⟨ρ1, p, t, c1, c2, c3⟩ := hc
    exact ⟨ρ1, p, t, ih ρ1 c1, FG_cong h9 (Chn_prm h j ρ1 c1).1 (fun _ _ => rfl) hnd hbf c2, c3⟩
theorem Chn_u (h9 : n ≤ 9) (h : PRM n ρ0) : ∀ j ρ ρ', Chn n nd bf z ρ0 j ρ → Chn n nd bf z ρ0 j ρ' → ∀ k, k < n → ρ k = ρ' k := by
  intro j
  induction j with
  | zero => intro ρ ρ' c c' k hk; rw [c k hk, c' k hk]
  | succ j ih =>
    intro ρ ρ' c c' k hk
    obtain ⟨ρ1, p, t, c1, c2, c3⟩ := c
    obtain ⟨ρ1', p', t', d1, d2, d3⟩ := c'
    have e := ih ρ1 ρ1' c1 d1
    have f := FG_cong h9 (Chn_prm h j ρ1 c1).1 e (fun _ _ => rfl) (fun _ _ => rfl) c2
    obtain ⟨e1, e2⟩ := FG_u f d2
    subst e1 e2
    rw [c3 k hk, d3 k hk]
    exact mvR_cong e c2.1 c2.2.1 k hk
theorem Chn_pre {i : Nat} : ∀ j ρ, Chn n nd bf z ρ0 j ρ → i < j → ∃ (ρ1 : Nat → Int32) (p t : Nat), Chn n nd bf z ρ0 i ρ1 ∧ FG n nd bf z ρ1 p t := by
  intro j
  induction j with
  | zero => intro ρ _ h; exact absurd h (by omega)
  | succ j ih =>
    intro ρ c h
    obtain ⟨ρ1, p, t, c1, c2, -⟩ := c
    by_cases e : i = j
    · subst e; exact ⟨ρ1, p, t, c1, c2⟩
    · exact ih ρ1 c1 (by omega)
/-- the moves' end -/
def CEn (n : Nat) (nd bf : Nat → Int32) (z : Nat → Nat) (ρ0 : Nat → Int32) (j : Nat) (ρ : Nat → Int32) : Prop := Chn n nd bf z ρ0 j ρ ∧ NoM n nd bf z ρ
theorem CEn_lt (h9 : n ≤ 9) (h : PRM n ρ0) {i j : Nat} {ρ ρ' : Nat → Int32} (c : CEn n nd bf z ρ0 i ρ) (c' : CEn n nd bf z ρ0 j ρ') : ¬ i < j := fun q => by
  obtain ⟨ρ1, p, t, d1, d2⟩ := Chn_pre j ρ' c'.1 q
  have e := Chn_u h9 h i ρ1 ρ d1 c.1
  exact c.2 p t d2.1 d2.2.1 d2.2.2.1 (gdM_cong h9 (Chn_prm h i ρ1 d1).1 e (fun _ _ => rfl) (fun _ _ => rfl) d2.1 d2.2.1 d2.2.2.2.1)
theorem CEn_u (h9 : n ≤ 9) (h : PRM n ρ0) {i j : Nat} {ρ ρ' : Nat → Int32} (c : CEn n nd bf z ρ0 i ρ) (c' : CEn n nd bf z ρ0 j ρ') : i = j ∧ ∀ k, k < n → ρ k = ρ' k := by
  have a := CEn_lt h9 h c c'
  have b := CEn_lt h9 h c' c
  have e : i = j := by omega
  subst e
  exact ⟨rfl, Chn_u h9 h i ρ ρ' c.1 c'.1⟩
theorem CEn_cong (h9 : n ≤ 9) (h : PRM n ρ0) (he : ∀ k, k < n → ρ0 k = σ0 k) (hnd : ∀ w, w < n → nd w = nd' w) (hbf : ∀ w, w < n → bf w = bf' w) {j : Nat} {ρ : Nat → Int32} (c : CEn n nd bf z ρ0 j ρ) : CEn n nd' bf' z σ0 j ρ := ⟨Chn_cong h9 h he hnd hbf j ρ c.1, NoM_cong h9 (Chn_prm h j ρ c.1).1 (fun _ _ => rfl) hnd hbf c.2⟩
end Ch
/-! no more than 9! moves -/
def uf (x : Int32) (v : Nat) : Nat := v - cntB x v
theorem uf_f {x : Int32} {v : Nat} (h : hb x v = false) : uf x (v + 1) = uf x v + 1 := by
  have := cntB_le x v
  unfold uf
  rw [cntB_s, h]
  show v + 1 - (cntB x v + 0) = v - cntB x v + 1
  omega
theorem uf_mono (x : Int32) {a : Nat} : ∀ d, uf x a ≤ uf x (a + d) := by
  intro d
  induction d with
  | zero => exact Nat.le_refl _
  | succ d ih =>
    have h : uf x (a + d) ≤ uf x (a + d + 1) := by
      have := cntB_le x (a + d)
      unfold uf
      rw [cntB_s]
      split <;> omega
    exact Nat.le_trans ih h
theorem uf_lt {x : Int32} {a b : Nat} (h : hb x a = false) (hab : a < b) : uf x a < uf x b := by
  have := uf_mono x (a := a + 1) (b - (a + 1))
  rw [uf_f h, show a + 1 + (b - (a + 1)) = b by omega] at this
  omega
def lcF (ρ : Nat → Int32) (n : Nat) : Nat → Nat
  | 0 => 0
  | k + 1 => lcF ρ n k * (n - k) + uf (dnF ρ k) (ρ k).toNatClampNeg
def ffN (n : Nat) : Nat → Nat
  | 0 => 1
  | k + 1 => ffN n k * (n - k)
theorem prm_dig {n k v : Nat} {ρ : Nat → Int32} (h9 : n ≤ 9) (h : PRM n ρ) (hk : k < n) (hv : v < n) (ev : ρ k = nI v) : hb (dnF ρ k) v = false ∧ uf (dnF ρ k) v < n - k := by
  have h' : ∀ i, i < k → ∃ v, v < 9 ∧ ρ i = nI v := fun i hi => by
    obtain ⟨w, hw, ew⟩ := h.1 i (by omega)
    exact ⟨w, by omega, ew⟩
  have hf : hb (dnF ρ k) v = false := by
    cases q : hb (dnF ρ k) v
    · rfl
    · obtain ⟨i, hi, ei⟩ := (dnF_hb h' (by omega)).mp q
      have := h.2 i k (by omega) hk (ei.trans ev.symm)
      omega
  refine ⟨hf, ?_⟩
  have := uf_lt hf hv
  have hc := (NT_cnt h9 h.1 k (by omega)).2.mpr (fun a b ha hb0 e => h.2 a b (by omega) (by omega) e)
  unfold uf at this ⊢
  rw [hc] at this
  exact this
theorem lcF_lt {n : Nat} {ρ : Nat → Int32} (h9 : n ≤ 9) (h : PRM n ρ) : ∀ k, k ≤ n → lcF ρ n k < ffN n k := by
  intro k
  induction k with
  | zero => exact fun _ => by show 0 < 1; omega
  | succ k ih =>
    intro hk
    have i := ih (by omega)
    obtain ⟨v, hv, ev⟩ := h.1 k (by omega)
    have d := (prm_dig h9 h (by omega) hv ev).2
    have m := Nat.mul_le_mul_right (n - k) (show lcF ρ n k + 1 ≤ ffN n k from i)
    rw [Nat.succ_mul] at m
    show lcF ρ n k * (n - k) + uf (dnF ρ k) (ρ k).toNatClampNeg < ffN n k * (n - k)
    rw [ev, cl9 (show v < 1000000 by omega)]
    omega
theorem mr_u {a b m d e : Nat} (h : a * m + d = b * m + e) (hd : d < m) (he : e < m) : a = b ∧ d = e := by
  rcases Nat.lt_trichotomy a b with q | q | q
  · have := Nat.mul_le_mul_right m (show a + 1 ≤ b from q)
    rw [Nat.succ_mul] at this
    omega
  · subst q; exact ⟨rfl, by omega⟩
  · have := Nat.mul_le_mul_right m (show b + 1 ≤ a from q)
    rw [Nat.succ_mul] at this
    omega
theorem lcF_inj {n : Nat} {ρ σ : Nat → Int32} (h9 : n ≤ 9) (h : PRM n ρ) (h' : PRM n σ) : ∀ k, k ≤ n → lcF ρ n k = lcF σ n k → ∀ i, i < k → ρ i = σ i := by
  intro k
  induction k with
  | zero => intro _ _ i hi; exact absurd hi (by omega)
  | succ k ih =>
    intro hk e
    obtain ⟨v, hv, ev⟩ := h.1 k (by omega)
    obtain ⟨w, hw, ew⟩ := h'.1 k (by omega)
    have d := prm_dig h9 h (by omega) hv ev
    have d' := prm_dig h9 h' (by omega) hw ew
    have e : lcF ρ n k * (n - k) + uf (dnF ρ k) (ρ k).toNatClampNeg = lcF σ n k * (n - k) + uf (dnF σ k) (σ k).toNatClampNeg := e
    rw [ev, ew, cl9 (show v < 1000000 by omega), cl9 (show w < 1000000 by omega)] at e
    obtain ⟨e1, e2⟩ := mr_u e d.2 d'.2
    have i := ih (by omega) e1
    rw [dnF_cong k i] at e2 d
    have evw : v = w := by
      rcases Nat.lt_trichotomy v w with q | q | q
      · have := uf_lt d.1 q; omega
      · exact q
      · have := uf_lt d'.1 q; omega
    intro j hj
    by_cases ej : j = k
    · subst ej; rw [ev, ew, evw]
    · exact i j (by omega)
theorem ff9 {n : Nat} (h9 : n ≤ 9) : ffN n n ≤ 362880 := by
  have : ∀ n, n ≤ 9 → ffN n n ≤ 362880 := by decide
  exact this n h9
def cnV (f : Nat → Bool) : Nat → Nat := sumN (fun c => if f c = true then 1 else 0)
def vup (f : Nat → Bool) (a : Nat) : Nat → Bool := fun c => if c = a then true else f c
theorem cnV_le (f : Nat → Bool) : ∀ k, cnV f k ≤ k := by
  intro k
  induction k with
  | zero => exact Nat.le_refl _
  | succ k ih =>
    show sumN (fun c => if f c = true then 1 else 0) (k + 1) ≤ k + 1
    rw [sumN_s]
    have ih : sumN (fun c => if f c = true then 1 else 0) k ≤ k := ih
    by_cases q : f k = true
    · show _ + (if f k = true then 1 else 0) ≤ _
      rw [if_pos q]; omega
    · show _ + (if f k = true then 1 else 0) ≤ _
      rw [if_neg q]; omega
theorem cnV_up {f : Nat → Bool} {a : Nat} (h : f a = false) : ∀ k, cnV (vup f a) k = cnV f k + (if a < k then 1 else 0) := by
  intro k
  induction k with
  | zero =>
    rw [if_neg (by omega)]; rfl
  | succ k ih =>
    show sumN (fun c => if vup f a c = true then 1 else 0) (k + 1) = sumN (fun c => if f c = true then 1 else 0) (k + 1) + _
    rw [sumN_s, sumN_s]
    have ih : sumN (fun c => if vup f a c = true then 1 else 0) k = sumN (fun c => if f c = true then 1 else 0) k + (if a < k then 1 else 0) := ih
    rw [ih]
    show _ + _ + (if vup f a k = true then 1 else 0) = _ + (if f k = true then 1 else 0) + _
    by_cases e : k = a
    · subst e
      have v : vup f k k = true := if_pos rfl
      rw [if_pos v, if_neg (show ¬ k < k by omega), if_neg (show ¬ f k = true by rw [h]; decide), if_pos (show k < k + 1 by omega)]
    · have v : vup f a k = f k := if_neg e
      rw [v]
      by_cases q : a < k
      · rw [if_pos q, if_pos (show a < k + 1 by omega)]; omega
      · rw [if_neg q, if_neg (show ¬ a < k + 1 by omega), Nat.add_zero, Nat.add_zero]
def wth (nd : Nat → Int32) (z : Nat → Nat) (ρ : Nat → Int32) (n : Nat) : Nat := (moN nd z ρ n * 10000 + loN nd z ρ n) * 387420489 + rowV ρ n
theorem wth_less {n : Nat} {nd : Nat → Int32} {z : Nat → Nat} {r1 r2 : Nat → Int32} (h9 : n ≤ 9) (hz9 : ∀ t, z t ≤ 99) (h1 : ∀ k, k < n → ∃ v, v < n ∧ r1 k = nI v) (h2 : ∀ k, k < n → ∃ v, v < n ∧ r2 k = nI v) (h : BET n (moN nd z r1 n) (loN nd z r1 n) (moN nd z r2 n) (loN nd z r2 n) r1 r2) : wth nd z r1 n < wth nd z r2 n := by
  have l1 := loN_le (nd := nd) (row := r1) (n := n) h9 hz9
  have c1 : ∀ k, k < n → (r1 k).toNatClampNeg < 9 := fun k hk => by
    obtain ⟨v, hv, ev⟩ := h1 k hk
    rw [ev, cl9 (show v < 1000000 by omega)]; omega
  have v1 := rowV_lt c1 n (Nat.le_refl _)
  have h3 : 9 ^ n ≤ 9 ^ 9 := Nat.pow_le_pow_right (by decide) h9
  have h4 : (9 : Nat) ^ 9 = 387420489 := by decide
  unfold wth
  rcases h with h | ⟨e, h | ⟨e2, j, hj, heq, hlt⟩⟩
  · omega
  · omega
  · obtain ⟨v, hv, ev⟩ := h1 j hj
    obtain ⟨w, hw, ew⟩ := h2 j hj
    rw [ev, ew, nI_ltI (by omega) (by omega)] at hlt
    have := rowV_less (r1 := r1) (r2 := r2) (n := n) (j := j) c1 heq (by rw [ev, ew, cl9 (show v < 1000000 by omega), cl9 (show w < 1000000 by omega)]; exact hlt) n hj (Nat.le_refl _)
    omega
theorem wth_cong {n : Nat} {nd : Nat → Int32} {z : Nat → Nat} {r1 r2 : Nat → Int32} (e : ∀ i, i < n → r1 i = r2 i) : wth nd z r1 n = wth nd z r2 n := by
  unfold wth
  rw [moN_cong e (fun _ _ => rfl), loN_cong e (fun _ _ => rfl), rowV_cong n e]
theorem Chn_cnt {n : Nat} {nd bf ρ0 : Nat → Int32} {z : Nat → Nat} (h9 : n ≤ 9) (hz9 : ∀ t, z t ≤ 99) (h : PRM n ρ0) : ∀ j ρ, Chn n nd bf z ρ0 j ρ → ∃ vis : Nat → Bool, cnV vis 362880 = j ∧ ∀ c, vis c = true → ∃ σ, PRM n σ ∧ lcF σ n n = c ∧ wth nd z ρ n < wth nd z σ n := by
  intro j
  induction j with
  | zero =>
    intro ρ _
    refine ⟨fun _ => false, ?_, fun c q => absurd (show false = true from q) (by decide)⟩
    have : ∀ k, cnV (fun _ => false) k = 0 := by
      intro k
      induction k with
      | zero => rfl
      | succ k ih =>
        show sumN (fun c => if (fun _ => false) c = true then 1 else 0) (k + 1) = 0
        rw [sumN_s]
        have ih : sumN (fun c => if (fun _ => false) c = true then 1 else 0) k = 0 := ih
        rw [ih]; rfl
    exact this _
  | succ j ih =>
    intro ρ hc
    obtain ⟨ρ1, p, t, c1, c2, c3⟩ := hc
    obtain ⟨vis, v1, v2⟩ := ih ρ1 c1
    have P1 := Chn_prm h j ρ1 c1
    have P2 := PRM_mv P1 c2.1 c2.2.1
    have hl : wth nd z ρ n < wth nd z ρ1 n := by
      rw [wth_cong c3]
      exact wth_less h9 hz9 P2.1 P1.1 c2.2.2.2.1.2
    have hlc : lcF ρ1 n n < 362880 := Nat.lt_of_lt_of_le (lcF_lt h9 P1 n (Nat.le_refl _)) (ff9 h9)
    have hno : vis (lcF ρ1 n n) = false := by
      cases q : vis (lcF ρ1 n n)
      · rfl
      · obtain ⟨σ, s1, s2, s3⟩ := v2 _ q
        have e := lcF_inj h9 s1 P1 n (Nat.le_refl _) s2
        rw [wth_cong e] at s3
        omega
    refine ⟨vup vis (lcF ρ1 n n), ?_, fun c q => ?_⟩
    · rw [cnV_up hno, v1, if_pos hlc]
    · by_cases e : c = lcF ρ1 n n
      · exact ⟨ρ1, P1, e.symm, hl⟩
      · have q : vis c = true := by
          have q2 : (if c = lcF ρ1 n n then true else vis c) = true := q
          rw [if_neg e] at q2; exact q2
        obtain ⟨σ, s1, s2, s3⟩ := v2 c q
        exact ⟨σ, s1, s2, by omega⟩
theorem Chn_le {n j : Nat} {nd bf ρ0 ρ : Nat → Int32} {z : Nat → Nat} (h9 : n ≤ 9) (hz9 : ∀ t, z t ≤ 99) (h : PRM n ρ0) (hc : Chn n nd bf z ρ0 j ρ) : j ≤ 362880 := by
  obtain ⟨vis, v1, -⟩ := Chn_cnt h9 hz9 h j ρ hc
  have := cnV_le vis 362880
  omega
/-! the class's mover -/
theorem eX_good59 {n p t : Nat} {z : Nat → Nat} {μ : Mem} {post : Int32 → Mem → Prop} (h : WK n μ) (hz : ScR 16 z μ) (ho : OP μ) (hp : p < n) (ht : t < n) (hr : ∀ k, k < n → ∃ v, v < n ∧ μ 51 k = nI v) (h52 : ∀ i, i < n → i ≠ t → μ 52 i = mvR (μ 51) p t i) (e4 : μ 50 4 = nI (moN (μ 14) z (μ 51) n)) (e5 : μ 50 5 = nI (loN (μ 14) z (μ 51) n)) (k : ∀ u μ', Fr (fun q => q = 33 ∨ q = 34 ∨ q = 52) μ μ' → OP μ' → (∀ i, i < n → μ' 52 i = mvR (μ 51) p t i) → μ' 33 1 = nI (moN (μ 14) z (mvR (μ 51) p t) n) → μ' 33 2 = nI (loN (μ 14) z (mvR (μ 51) p t) n) → ((u = 1 ∧ gdM n (μ 14) (μ 15) z (μ 51) p t) ∨ (u = 0 ∧ ¬ gdM n (μ 14) (μ 15) z (μ 51) p t)) → post u μ') : T_X2_isGood_59 post (nI p) (nI t) μ := by
  have h9 := h.2.1
  refine ⟨in9 (by omega) (by omega), in9 (by omega) (by omega), ?_⟩
  rw [cl9 (show p < 1000000 by omega), cl9 (show t < 1000000 by omega)]
  have q52 : ∀ i, i < n → (mset μ 52 t (μ 51 p)) 52 i = mvR (μ 51) p t i := fun i hi => by
    rw [m2]
    by_cases e : i = t
    · subst e
      rw [pk_us]
      unfold mvR mvI
      rw [if_pos rfl]
    · rw [pk_un e]; exact h52 i hi e
  have f1 : Fr (fun q => q = 52) μ (mset μ 52 t (μ 51 p)) := Fr_put _ _ rfl
  generalize mset μ 52 t (μ 51 p) = μ1 at q52 f1 ⊢
  have hmv : ∀ i, i < n → ∃ v, v < n ∧ mvR (μ 51) p t i = nI v := fun i hi => hr _ (mvI_lt hp ht hi)
  have hrw : RW n 52 μ1 := fun i hi => by
    obtain ⟨v, hv, ev⟩ := hmv i hi
    exact ⟨v, by omega, by rw [q52 i hi]; exact ev⟩
  have e14 : μ1 14 = μ 14 := f1 14 (by omega)
  have e15 : μ1 15 = μ 15 := f1 15 (by omega)
  refine eX_measure (WK_fr h f1 (by omega) (by omega)) (ScR_fr hz f1 (by omega) (by omega)) (OP_fr ho f1 (by omega)) rfl (by unfold sG; omega) hrw (fun μ2 hf2 ho2 hMS => ?_)
  rw [e14, e15] at hMS
  obtain ⟨-, g1, g2, g3⟩ := hMS
  have f2 : Fr (fun q => q = 33 ∨ q = 34 ∨ q = 52) μ μ2 := Fr_tr (Fr_mono f1 (fun q hq => Or.inr (Or.inr hq))) (Fr_mono hf2 (fun q hq => by unfold sG at hq; omega))
  rw [moN_cong q52 (fun _ _ => rfl)] at g1
  rw [loN_cong q52 (fun _ _ => rfl)] at g2
  have r52 : ∀ i, i < n → μ2 52 i = mvR (μ 51) p t i := fun i hi => by rw [hf2 52 (by unfold sG; omega)]; exact q52 i hi
  have r51 : μ2 51 = μ 51 := f2 51 (by omega)
  have r50 : μ2 50 = μ 50 := f2 50 (by omega)
  have lw : LWk (μ 15) (μ1 52) n ↔ LWk (μ 15) (mvR (μ 51) p t) n := ⟨fun q => LWk_cong q52 (fun _ _ => rfl) q, fun q => LWk_cong (fun i hi => (q52 i hi).symm) (fun _ _ => rfl) q⟩
  have kk := fun u => k u μ2 f2 ho2 r52 g1 g2
  refine ⟨fun q => kk 0 (Or.inr ⟨rfl, fun g => ?_⟩), fun q => ?_⟩
  · rcases g3 with ⟨e, -⟩ | ⟨-, e⟩
    · rw [e] at q; exact absurd q (by decide)
    · exact e (lw.mpr g.1)
  · have hl : LWk (μ 15) (mvR (μ 51) p t) n := by
      rcases g3 with ⟨-, e⟩ | ⟨e, -⟩
      · exact lw.mp e
      · exact absurd e q
    rw [r50, e4, e5]
    have a1 := moN_le (nd := μ 14) (row := mvR (μ 51) p t) (n := n) hz.1
    have a2 := moN_le (nd := μ 14) (row := μ 51) (n := n) hz.1
    have a3 := loN_le (nd := μ 14) (row := mvR (μ 51) p t) (n := n) h9 hz.1
    have a4 := loN_le (nd := μ 14) (row := μ 51) (n := n) h9 hz.1
    refine eX_beats (WK_fr h f2 (by omega) (by omega)) rfl rfl g1 g2 (by omega) (by omega) (by omega) (by omega) (fun nb => br_t rfl (kk 0 (Or.inr ⟨rfl, fun g => nb ?_⟩))) (fun b => br_f n10 (kk 1 (Or.inl ⟨rfl, hl, ?_⟩)))
    · rw [r51]
      exact BET_cong (fun i hi => (r52 i hi).symm) (fun _ _ => rfl) g.2
    · rw [r51] at b
      exact BET_cong r52 (fun _ _ => rfl) b
theorem eX_isGood {n p t : Nat} {z : Nat → Nat} {μ : Mem} {post : Int32 → Mem → Prop} (h : WK n μ) (hz : ScR 16 z μ) (ho : OP μ) (hp : p < n) (ht : t < n) (hr : ∀ k, k < n → ∃ v, v < n ∧ μ 51 k = nI v) (e4 : μ 50 4 = nI (moN (μ 14) z (μ 51) n)) (e5 : μ 50 5 = nI (loN (μ 14) z (μ 51) n)) (k : ∀ u μ', Fr (fun q => q = 33 ∨ q = 34 ∨ q = 52) μ μ' → OP μ' → (∀ i, i < n → μ' 52 i = mvR (μ 51) p t i) → μ' 33 1 = nI (moN (μ 14) z (mvR (μ 51) p t) n) → μ' 33 2 = nI (loN (μ 14) z (mvR (μ 51) p t) n) → ((u = 1 ∧ gdM n (μ 14) (μ 15) z (μ 51) p t) ∨ (u = 0 ∧ ¬ gdM n (μ 14) (μ 15) z (μ 51) p t)) → post u μ') : T_X2_isGood (nI p) (nI t) μ post := by
  have h9 := h.2.1
  have go : ∀ μ1, Fr (fun q => q = 52) μ μ1 → (∀ i, i < n → i ≠ t → μ1 52 i = mvR (μ 51) p t i) → T_X2_isGood_59 post (nI p) (nI t) μ1 := fun μ1 f1 h1 => by
    have e14 : μ1 14 = μ 14 := f1 14 (by omega)
    have e15 : μ1 15 = μ 15 := f1 15 (by omega)
    have e51 : μ1 51 = μ 51 := f1 51 (by omega)
    have e50 : μ1 50 = μ 50 := f1 50 (by omega)
    refine eX_good59 (WK_fr h f1 (by omega) (by omega)) (ScR_fr hz f1 (by omega) (by omega)) (OP_fr ho f1 (by omega)) hp ht (by rw [e51]; exact hr) (by rw [e51]; exact h1) (by rw [e50, e14, e51]; exact e4) (by rw [e50, e14, e51]; exact e5) (fun u μ2 f2 o2 g1 g2 g3 g4 => ?_)
    rw [e14, e15, e51] at *
    exact k u μ2 (Fr_tr (Fr_mono f1 (fun q hq => Or.inr (Or.inr hq))) f2) o2 g1 g2 g3 g4
  refine ⟨cp9, pk_le t p (fun hle => ⟨⟨nI_pos (by omega), ?_, ?_, ?_, ?_⟩, ?_⟩) (fun hlt => ⟨⟨?_, nI_pos (by omega), ?_, ?_, ?_⟩, ?_⟩)⟩
  · rw [nI_1]; exact nI_pos (by omega)
  · rw [pk_sub hle]; exact nI_pos (by omega)
  · rw [pk_sub hle, cl9 (by omega), cl9 (by omega)]; omega
  · rw [nI_1, pk_sub hle, cl9 (by omega), cl9 (by omega)]; omega
  · rw [nI_1, pk_sub hle, cl9 (show t < 1000000 by omega), cl9 (show t + 1 < 1000000 by omega), cl9 (show p - t < 1000000 by omega), mput_same, mput_o (by decide)]
    refine go _ (Fr_p (Fr_p (Fr_rf _ _) rfl) rfl) (fun i hi hit => ?_)
    rw [mput_same]
    unfold mvR mvI
    rw [if_neg hit, if_neg (by omega)]
    by_cases e : t + 1 ≤ i ∧ i < t + 1 + (p - t)
    · rw [pk_cpy_in e.1 e.2, if_pos (by omega)]
      congr 1
      omega
    · rw [pk_cpy_out (by omega), cpy9 _ _ (by omega), if_neg (by omega)]
  · rw [nI_1]; exact nI_pos (by omega)
  · rw [pk_sub (by omega)]; exact nI_pos (by omega)
  · rw [nI_1, pk_sub (by omega), cl9 (by omega), cl9 (by omega)]; omega
  · rw [pk_sub (by omega), cl9 (by omega), cl9 (by omega)]; omega
  · rw [nI_1, pk_sub (by omega), cl9 (show p < 1000000 by omega), cl9 (show p + 1 < 1000000 by omega), cl9 (show t - p < 1000000 by omega), mput_same, mput_o (by decide)]
    refine go _ (Fr_p (Fr_p (Fr_rf _ _) rfl) rfl) (fun i hi hit => ?_)
    rw [mput_same]
    unfold mvR mvI
    rw [if_neg hit]
    by_cases e : p ≤ i ∧ i < p + (t - p)
    · rw [pk_cpy_in e.1 e.2, if_pos (by omega)]
      congr 1
      omega
    · rw [pk_cpy_out (by omega), cpy9 _ _ (by omega), if_neg (by omega), if_neg (by omega)]
theorem eX_doFirst {n : Nat} {z : Nat → Nat} {μ : Mem} {post : Int32 → Mem → Prop} (h : WK n μ) (hz : ScR 16 z μ) (ho : OP μ) (hr : ∀ k, k < n → ∃ v, v < n ∧ μ 51 k = nI v) (e4 : μ 50 4 = nI (moN (μ 14) z (μ 51) n)) (e5 : μ 50 5 = nI (loN (μ 14) z (μ 51) n)) (k0 : ∀ μ', Fr (fun q => q = 33 ∨ q = 34 ∨ q = 52) μ μ' → OP μ' → NoM n (μ 14) (μ 15) z (μ 51) → post 0 μ') (k1 : ∀ p t μ', FG n (μ 14) (μ 15) z (μ 51) p t → Fr sV μ μ' → OP μ' → (∀ i, i < n → μ' 51 i = mvR (μ 51) p t i) → μ' 50 4 = nI (moN (μ 14) z (μ' 51) n) → μ' 50 5 = nI (loN (μ 14) z (μ' 51) n) → post 1 μ') : T_X2_doFirstMove μ post := by
  have h9 := h.2.1
  intro P hP
  have H : ∀ p, p ≤ n → ∀ μ1, Fr (fun q => q = 33 ∨ q = 34 ∨ q = 52) μ μ1 → OP μ1 → (∀ p' t', p' < p → t' < n → p' ≠ t' → ¬ gdM n (μ 14) (μ 15) z (μ 51) p' t') → P (nI p) μ1 := by
    refine down_ind (fun μ1 hf ho1 hno => ?_) (fun p hp ih μ1 hf ho1 hno => ?_)
    · have hw := WK_fr h hf (by omega) (by omega)
      exact hP _ _ (br_t (by rw [hw.1]; exact nI_self_le n) (k0 μ1 hf ho1 hno))
    · have hw := WK_fr h hf (by omega) (by omega)
      refine hP _ _ (br_f (by rw [hw.1]; exact nI_ge hp (by omega)) ?_)
      intro P2 hP2
      have H2 : ∀ t, t ≤ n → ∀ μ2, Fr (fun q => q = 33 ∨ q = 34 ∨ q = 52) μ μ2 → OP μ2 → (∀ t', t' < t → p ≠ t' → ¬ gdM n (μ 14) (μ 15) z (μ 51) p t') → P2 (nI p) (nI t) μ2 := by
        refine down_ind (fun μ2 hf2 ho2 hn2 => ?_) (fun t ht ih2 μ2 hf2 ho2 hn2 => ?_)
        · have hw2 := WK_fr h hf2 (by omega) (by omega)
          refine hP2 _ _ _ (br_t (by rw [hw2.1]; exact nI_self_le n) ?_)
          rw [nI_1]
          refine ih μ2 hf2 ho2 (fun p' t' hp' ht' hne => ?_)
          by_cases e : p' = p
          · subst e; exact hn2 t' ht' hne
          · exact hno p' t' (by omega) ht' hne
        · have hw2 := WK_fr h hf2 (by omega) (by omega)
          refine hP2 _ _ _ (br_f (by rw [hw2.1]; exact nI_ge ht (by omega)) ?_)
          rw [nI_1]
          have f14 : μ2 14 = μ 14 := hf2 14 (by omega)
          have f15 : μ2 15 = μ 15 := hf2 15 (by omega)
          have f50 : μ2 50 = μ 50 := hf2 50 (by omega)
          have f51 : μ2 51 = μ 51 := hf2 51 (by omega)
          refine ⟨fun q => ih2 μ2 hf2 ho2 (fun t' ht' hne => ?_), fun q => eX_isGood hw2 (ScR_fr hz hf2 (by omega) (by omega)) ho2 hp ht (by rw [f51]; exact hr) (by rw [f50, f14, f51]; exact e4) (by rw [f50, f14, f51]; exact e5) (fun u μ3 hf3 ho3 r1 r2 r3 r4 => ?_)⟩
          · have ept : p = t := (nI_eq (by omega) (by omega)).mp q
            by_cases e : t' = t
            · subst e; exact absurd ept hne
            · exact hn2 t' (by omega) hne
          · rw [f14, f51] at r2 r3
            rw [f51] at r1
            rw [f14, f15, f51] at r4
            have hpt : p ≠ t := fun e => q (by rw [e])
            rcases r4 with ⟨eu, g⟩ | ⟨eu, g⟩
            · subst eu
              refine br_f n10 ⟨cp9, k1 p t _ ⟨hp, ht, hpt, g, fun p' t' hp' ht' hne hl => ?_⟩ (Fr_p (Fr_p (Fr_p (Fr_tr (Fr_mono hf2 (fun q hq => by unfold sV; omega)) (Fr_mono hf3 (fun q hq => by unfold sV; omega))) (by unfold sV; omega)) (by unfold sV; omega)) (by unfold sV; omega)) (OP_p (OP_p (OP_p ho3 (by decide)) (by decide)) (by decide)) ?_ ?_ ?_⟩
              · rcases hl with hl | ⟨hl, hl2⟩
                · exact hno p' t' hl ht' hne
                · subst hl; exact hn2 t' hl2 hne
              · intro i hi
                unfold mset
                rw [mput_o (by decide), mput_o (by decide), mput_same, cpy9 _ _ (by omega)]
                exact r1 i hi
              · have eR : ∀ i, i < n → (mset (mset (mput μ3 51 (va_cpy (μ3 52) (μ3 51) (0 : Int32).toNatClampNeg (0 : Int32).toNatClampNeg (9 : Int32).toNatClampNeg)) 50 4 ((mput μ3 51 (va_cpy (μ3 52) (μ3 51) (0 : Int32).toNatClampNeg (0 : Int32).toNatClampNeg (9 : Int32).toNatClampNeg)) 33 1)) 50 5 ((mset (mput μ3 51 (va_cpy (μ3 52) (μ3 51) (0 : Int32).toNatClampNeg (0 : Int32).toNatClampNeg (9 : Int32).toNatClampNeg)) 50 4 ((mput μ3 51 (va_cpy (μ3 52) (μ3 51) (0 : Int32).toNatClampNeg (0 : Int32).toNatClampNeg (9 : Int32).toNatClampNeg)) 33 1)) 33 2)) 51 i = mvR (μ 51) p t i := fun i hi => by
                  unfold mset
                  rw [mput_o (by decide), mput_o (by decide), mput_same, cpy9 _ _ (by omega)]
                  exact r1 i hi
                rw [moN_cong eR (fun _ _ => rfl), m2, pk_un (by decide), m2, pk_us, mput_o (by decide)]
                exact r2
              · have eR : ∀ i, i < n → (mset (mset (mput μ3 51 (va_cpy (μ3 52) (μ3 51) (0 : Int32).toNatClampNeg (0 : Int32).toNatClampNeg (9 : Int32).toNatClampNeg)) 50 4 ((mput μ3 51 (va_cpy (μ3 52) (μ3 51) (0 : Int32).toNatClampNeg (0 : Int32).toNatClampNeg (9 : Int32).toNatClampNeg)) 33 1)) 50 5 ((mset (mput μ3 51 (va_cpy (μ3 52) (μ3 51) (0 : Int32).toNatClampNeg (0 : Int32).toNatClampNeg (9 : Int32).toNatClampNeg)) 50 4 ((mput μ3 51 (va_cpy (μ3 52) (μ3 51) (0 : Int32).toNatClampNeg (0 : Int32).toNatClampNeg (9 : Int32).toNatClampNeg)) 33 1)) 33 2)) 51 i = mvR (μ 51) p t i := fun i hi => by
                  unfold mset
                  rw [mput_o (by decide), mput_o (by decide), mput_same, cpy9 _ _ (by omega)]
                  exact r1 i hi
                have e33 : (mset (mput μ3 51 (va_cpy (μ3 52) (μ3 51) (0 : Int32).toNatClampNeg (0 : Int32).toNatClampNeg (9 : Int32).toNatClampNeg)) 50 4 ((mput μ3 51 (va_cpy (μ3 52) (μ3 51) (0 : Int32).toNatClampNeg (0 : Int32).toNatClampNeg (9 : Int32).toNatClampNeg)) 33 1)) 33 = μ3 33 := by
                  unfold mset
                  rw [mput_o (by decide), mput_o (by decide)]
                rw [loN_cong eR (fun _ _ => rfl), m2, pk_us, e33]
                exact r3
            · subst eu
              refine br_t rfl (ih2 μ3 (Fr_tr hf2 hf3) ho3 (fun t' ht' hne => ?_))
              by_cases e : t' = t
              · subst e; exact g
              · exact hn2 t' (by omega) hne
      exact H2 0 (Nat.zero_le _) μ1 hf ho1 (fun t' ht' => absurd ht' (by omega))
  exact H 0 (Nat.zero_le _) μ (Fr_rf _ _) ho (fun p' t' hp' => absurd hp' (by omega))
theorem eX_improve {n r : Nat} {z : Nat → Nat} {μ : Mem} {post : Int32 → Mem → Prop} (h : WK n μ) (hz : ScR 16 z μ) (ho : OP μ) (hr : shX r = .inl 9) (hrow : PRM n (μ r)) (k : ∀ j μ', j ≤ 362880 → Fr sV μ μ' → OP μ' → CEn n (μ 14) (μ 15) z (μ r) j (μ' 51) → post (nI j) μ') : T_X2_improve r μ post := by
  have h9 := h.2.1
  refine ⟨hr, cp9, ?_⟩
  have c51 : ∀ i, i < n → (mput μ 51 (va_cpy (μ r) (μ 51) (0 : Int32).toNatClampNeg (0 : Int32).toNatClampNeg (9 : Int32).toNatClampNeg)) 51 i = μ r i := fun i hi => by rw [mput_same, cpy9 _ _ (by omega)]
  have f1 : Fr sV μ (mput μ 51 (va_cpy (μ r) (μ 51) (0 : Int32).toNatClampNeg (0 : Int32).toNatClampNeg (9 : Int32).toNatClampNeg)) := Fr_put _ _ (by unfold sV; omega)
  have ho1 : OP (mput μ 51 (va_cpy (μ r) (μ 51) (0 : Int32).toNatClampNeg (0 : Int32).toNatClampNeg (9 : Int32).toNatClampNeg)) := OP_p ho (by decide)
  generalize mput μ 51 (va_cpy (μ r) (μ 51) (0 : Int32).toNatClampNeg (0 : Int32).toNatClampNeg (9 : Int32).toNatClampNeg) = μ1 at c51 f1 ho1 ⊢
  have hrw : RW n 51 μ1 := fun i hi => by
    obtain ⟨v, hv, ev⟩ := hrow.1 i hi
    exact ⟨v, by omega, by rw [c51 i hi]; exact ev⟩
  refine eX_measure (WK_fr h f1 (by unfold sV; omega) (by unfold sV; omega)) (ScR_fr hz f1 (by unfold sV; omega) (by unfold sV; omega)) ho1 rfl (by unfold sG; omega) hrw (fun μ2 hf2 ho2 hMS => ?_)
  obtain ⟨-, g1, g2, -⟩ := hMS
  have f2 : Fr sV μ μ2 := Fr_tr f1 (Fr_mono hf2 sG_V)
  have e14 : μ1 14 = μ 14 := f1 14 (by unfold sV; omega)
  rw [e14] at g1 g2
  have e51 : μ2 51 = μ1 51 := hf2 51 (by unfold sG; omega)
  intro P hP
  have H : ∀ f j, j + f = 362881 → ∀ μ3, Fr sV μ μ3 → OP μ3 → Chn n (μ 14) (μ 15) z (μ r) j (μ3 51) → μ3 50 4 = nI (moN (μ 14) z (μ3 51) n) → μ3 50 5 = nI (loN (μ 14) z (μ3 51) n) → P (nI j) μ3 := by
    intro f
    induction f with
    | zero =>
      intro j hj μ3 _ _ hc
      have := Chn_le h9 hz.1 hrow hc
      omega
    | succ f ih =>
      intro j hj μ3 f3 ho3 hc e4 e5
      refine hP _ _ (br_f (nI_ge (b := 1000000) (by omega) (by omega)) ?_)
      have p3 := (Chn_prm hrow j _ hc).1
      have f14 : μ3 14 = μ 14 := f3 14 (by unfold sV; omega)
      have f15 : μ3 15 = μ 15 := f3 15 (by unfold sV; omega)
      rw [nI_1]
      refine eX_doFirst (WK_fr h f3 (by unfold sV; omega) (by unfold sV; omega)) (ScR_fr hz f3 (by unfold sV; omega) (by unfold sV; omega)) ho3 p3 (by rw [f14]; exact e4) (by rw [f14]; exact e5) (fun μ4 f4 ho4 hno => rb_f rfl ?_) (fun p t μ4 hfg f4 ho4 r1 r2 r3 => rb_t n10 ?_)
      · have f51 : μ4 51 = μ3 51 := f4 51 (by omega)
        rw [f14, f15] at hno
        refine k j μ4 (by omega) (Fr_tr f3 (Fr_mono f4 (fun q hq => by unfold sV; omega))) ho4 ⟨by rw [f51]; exact hc, by rw [f51]; exact hno⟩
      · rw [f14] at r2 r3
        rw [f14, f15] at hfg
        exact ih (j + 1) (by omega) μ4 (Fr_tr f3 f4) ho4 ⟨μ3 51, p, t, hc, hfg, r1⟩ r2 r3
  refine H 362881 0 (by omega) _ (Fr_p (Fr_p f2 (by unfold sV; omega)) (by unfold sV; omega)) (OP_p (OP_p ho2 (by decide)) (by decide)) (fun i hi => ?_) ?_ ?_
  · unfold mset
    rw [mput_o (by decide), mput_o (by decide), e51]
    exact c51 i hi
  · have x51 : (mset (mset μ2 50 4 (μ2 33 1)) 50 5 ((mset μ2 50 4 (μ2 33 1)) 33 2)) 51 = μ1 51 := by
      unfold mset
      rw [mput_o (by decide), mput_o (by decide), e51]
    rw [x51, m2, pk_un (by decide), m2, pk_us]
    exact g1
  · have x51 : (mset (mset μ2 50 4 (μ2 33 1)) 50 5 ((mset μ2 50 4 (μ2 33 1)) 33 2)) 51 = μ1 51 := by
      unfold mset
      rw [mput_o (by decide), mput_o (by decide), e51]
    have x33 : (mset μ2 50 4 (μ2 33 1)) 33 = μ2 33 := mput_o (by decide)
    rw [x51, m2, pk_us, x33]
    exact g2
