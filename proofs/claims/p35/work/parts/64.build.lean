/-! build: the rule chooses alike on both sides -/
def scV (n : Nat) (nd : Nat → Int32) (z : Nat → Nat) (x1 : Int32) (s w : Nat) : Int32 := if x1 = 0 then -(nI (sum10 z (nd w &&& (needF nd ((nI (2 ^ n - 1) &&& (nI s ^^^ (-1))) &&& (((1 : Int32) <<< (nI w &&& 31)) ^^^ (-1))) n ^^^ (-1))))) else if x1 = 1 then nI (sum10 z (nd w &&& (needF nd (nI s) n ^^^ (-1)))) else nI (sum10 z (nd w &&& (needF nd (nI s) n ^^^ (-1)))) - nI (sum10 z (nd w &&& (needF nd ((nI (2 ^ n - 1) &&& (nI s ^^^ (-1))) &&& (((1 : Int32) <<< (nI w &&& 31)) ^^^ (-1))) n ^^^ (-1))))
theorem scV_cong {n s w : Nat} {nd nd' : Nat → Int32} {z : Nat → Nat} {x1 : Int32} (e : ∀ w, w < n → nd w = nd' w) (hw : w < n) : scV n nd z x1 s w = scV n nd' z x1 s w := by
  unfold scV
  rw [needF_cong n e, needF_cong n e, e w hw]
theorem scV_lt {n s w : Nat} {nd : Nat → Int32} {z : Nat → Nat} {x1 : Int32} (hz9 : ∀ t, z t ≤ 99) : ¬ (1000000 : Int32) ≤ scV n nd z x1 s w := by
  have a1 := sum10_le hz9 (nd w &&& (needF nd ((nI (2 ^ n - 1) &&& (nI s ^^^ (-1))) &&& (((1 : Int32) <<< (nI w &&& 31)) ^^^ (-1))) n ^^^ (-1)))
  have a2 := sum10_le hz9 (nd w &&& (needF nd (nI s) n ^^^ (-1)))
  unfold scV
  generalize sum10 z (nd w &&& (needF nd ((nI (2 ^ n - 1) &&& (nI s ^^^ (-1))) &&& (((1 : Int32) <<< (nI w &&& 31)) ^^^ (-1))) n ^^^ (-1))) = a at a1 ⊢
  generalize sum10 z (nd w &&& (needF nd (nI s) n ^^^ (-1))) = b at a2 ⊢
  have c1 : (1000000 : Int32).toInt = 1000000 := by decide
  by_cases q0 : x1 = 0
  · rw [if_pos q0, Int32.le_iff_toInt_le, c1, Int32.toInt_neg, nI_toInt (by omega), Int.bmod_def]
    split <;> omega
  · rw [if_neg q0]
    by_cases q1 : x1 = 1
    · rw [if_pos q1, Int32.le_iff_toInt_le, c1, nI_toInt (by omega)]
      omega
    · rw [if_neg q1, Int32.le_iff_toInt_le, c1, pk_sub_toInt (by omega) (by omega)]
      omega
theorem eX_score {n s w : Nat} {z : Nat → Nat} {x1 : Int32} {μ : Mem} {post : Int32 → Mem → Prop} (h : WK n μ) (hz : ScR 16 z μ) (hw : w < 9) (k : post (scV n (μ 14) z x1 s w) μ) : T_X10_score x1 (nI w) (nI s) μ post := by
  have h9 := h.2.1
  have i1 := in9 hw (show 9 < 1000000 by omega)
  have hcw := cl9 (show w < 1000000 by omega)
  unfold T_X10_score
  rw [hcw]
  refine sX_all h.1 h9 ⟨i1, eX_neededBy h.1 h9 (sX_sumE hz ⟨i1, eX_neededBy h.1 h9 (sX_sumE hz ?_)⟩)⟩
  unfold scV at k
  refine ⟨fun q0 => ⟨fun q1 => ?_, fun q1 => ?_⟩, fun q0 => ?_⟩
  · rw [if_neg q0, if_neg q1] at k; exact k
  · rw [if_neg q0, if_pos q1] at k; exact k
  · rw [if_pos q0] at k; exact k
theorem eM_dislikes {n s w : Nat} {z : Nat → Nat} {x1 : Int32} {μ : Mem} {post : Int32 → Mem → Prop} (h : WM n μ) (hz : ∀ t, t < 10 → μ 6 t = nI (z t)) (hw : w < 9) (k : post (scV n (μ 4) z x1 s w) μ) : T_X12_dislikes x1 (nI s) (nI w) μ post := by
  have i1 := in9 hw (show 9 < 1000000 by omega)
  have hcw := cl9 (show w < 1000000 by omega)
  unfold T_X12_dislikes
  rw [hcw]
  refine ⟨i1, sM_all h (sM_needsE h (sM_sizeE ⟨i1, sM_needsE h (sM_sizeE ?_)⟩))⟩
  rw [sizeF_sum hz, sizeF_sum hz]
  unfold scV at k
  refine ⟨fun q0 => ⟨fun q1 => ?_, fun q1 => ?_⟩, fun q0 => ?_⟩
  · rw [if_neg q0, if_neg q1] at k; exact k
  · rw [if_neg q0, if_pos q1] at k; exact k
  · rw [if_pos q0] at k; exact k
/-- how many may still be seen, and the one chosen, behind the first w works -/
def chF (el : Nat → Bool) (sc : Nat → Int32) (l : Nat) : Nat → Nat × Option Nat
  | 0 => (l, none)
  | w + 1 => if (chF el sc l w).1 = 0 ∨ el w = false then chF el sc l w else ((chF el sc l w).1 - 1, some (match (chF el sc l w).2 with
    | none => w
    | some c => if sc c ≤ sc w then c else w))
theorem chF_k {el : Nat → Bool} {sc : Nat → Int32} {l w : Nat} (q : (chF el sc l w).1 = 0 ∨ el w = false) : chF el sc l (w + 1) = chF el sc l w := if_pos q
theorem chF_n {el : Nat → Bool} {sc : Nat → Int32} {l w L : Nat} (e : chF el sc l w = (L + 1, none)) (q : el w = true) : chF el sc l (w + 1) = (L, some w) := by
  show (if (chF el sc l w).1 = 0 ∨ el w = false then chF el sc l w else ((chF el sc l w).1 - 1, some (match (chF el sc l w).2 with
    | none => w
    | some c => if sc c ≤ sc w then c else w))) = (L, some w)
  rw [e, if_neg (fun t => by
    rcases t with t | t
    · have t : L + 1 = 0 := t
      omega
    · rw [q] at t; exact absurd t (by decide))]
  rfl
theorem chF_s {el : Nat → Bool} {sc : Nat → Int32} {l w L c : Nat} (e : chF el sc l w = (L + 1, some c)) (q : el w = true) : chF el sc l (w + 1) = (L, some (if sc c ≤ sc w then c else w)) := by
  show (if (chF el sc l w).1 = 0 ∨ el w = false then chF el sc l w else ((chF el sc l w).1 - 1, some (match (chF el sc l w).2 with
    | none => w
    | some c => if sc c ≤ sc w then c else w))) = (L, some (if sc c ≤ sc w then c else w))
  rw [e, if_neg (fun t => by
    rcases t with t | t
    · have t : L + 1 = 0 := t
      omega
    · rw [q] at t; exact absurd t (by decide))]
  rfl
theorem chF_stop {el : Nat → Bool} {sc : Nat → Int32} {l w : Nat} (q : (chF el sc l w).1 = 0) : ∀ d, chF el sc l (w + d) = chF el sc l w := by
  intro d
  induction d with
  | zero => rfl
  | succ d ih =>
    rw [show w + (d + 1) = w + d + 1 from rfl, chF_k (Or.inl (by rw [ih]; exact q))]
    exact ih
theorem chF_le {el : Nat → Bool} {sc : Nat → Int32} {l : Nat} : ∀ w, (chF el sc l w).1 ≤ l ∧ ∀ c, (chF el sc l w).2 = some c → c < w ∧ el c = true := by
  intro w
  induction w with
  | zero => exact ⟨Nat.le_refl _, fun c h => by cases h⟩
  | succ w ih =>
    obtain ⟨i1, i2⟩ := ih
    by_cases q : (chF el sc l w).1 = 0 ∨ el w = false
    · rw [chF_k q]
      exact ⟨i1, fun c h => ⟨by have := (i2 c h).1; omega, (i2 c h).2⟩⟩
    · have q1 : ¬ (chF el sc l w).1 = 0 := fun t => q (Or.inl t)
      have q2 : el w = true := by
        cases p : el w
        · exact absurd (Or.inr p) q
        · rfl
      rcases hcf : chF el sc l w with ⟨L, o⟩
      rw [hcf] at i1 i2 q1
      have i1 : L ≤ l := i1
      have q1 : ¬ L = 0 := q1
      obtain ⟨L', rfl⟩ : ∃ L', L = L' + 1 := ⟨L - 1, by omega⟩
      cases o with
      | none =>
        rw [chF_n hcf q2]
        refine ⟨by show L' ≤ l; omega, fun c h => ?_⟩
        have h : some w = some c := h
        cases h
        exact ⟨by omega, q2⟩
      | some c0 =>
        rw [chF_s hcf q2]
        refine ⟨by show L' ≤ l; omega, fun c h => ?_⟩
        have h : some (if sc c0 ≤ sc w then c0 else w) = some c := h
        have h := Option.some.inj h
        have := i2 c0 rfl
        by_cases p : sc c0 ≤ sc w
        · rw [if_pos p] at h; subst h; exact ⟨by omega, this.2⟩
        · rw [if_neg p] at h; subst h; exact ⟨by omega, q2⟩
theorem chF_none {el : Nat → Bool} {sc : Nat → Int32} {l : Nat} (hl : 0 < l) : ∀ w, (chF el sc l w).2 = none → (chF el sc l w).1 = l ∧ ∀ v, v < w → el v = false := by
  intro w
  induction w with
  | zero => exact fun _ => ⟨rfl, fun v hv => absurd hv (by omega)⟩
  | succ w ih =>
    intro h
    by_cases q : (chF el sc l w).1 = 0 ∨ el w = false
    · rw [chF_k q] at h ⊢
      obtain ⟨i1, i2⟩ := ih h
      refine ⟨i1, fun v hv => ?_⟩
      by_cases e : v = w
      · subst e
        rcases q with q | q
        · omega
        · exact q
      · exact i2 v (by omega)
    · exfalso
      have q1 : ¬ (chF el sc l w).1 = 0 := fun t => q (Or.inl t)
      have q2 : el w = true := by
        cases p : el w
        · exact absurd (Or.inr p) q
        · rfl
      rcases hcf : chF el sc l w with ⟨L, o⟩
      rw [hcf] at q1
      have q1 : ¬ L = 0 := q1
      obtain ⟨L', rfl⟩ : ∃ L', L = L' + 1 := ⟨L - 1, by omega⟩
      cases o with
      | none => rw [chF_n hcf q2] at h; cases h
      | some c0 => rw [chF_s hcf q2] at h; cases h
theorem chF_cong {el el' : Nat → Bool} {sc sc' : Nat → Int32} {l n : Nat} (e1 : ∀ w, w < n → el w = el' w) (e2 : ∀ w, w < n → sc w = sc' w) : ∀ w, w ≤ n → chF el sc l w = chF el' sc' l w := by
  intro w
  induction w with
  | zero => exact fun _ => rfl
  | succ w ih =>
    intro hw
    have i := ih (by omega)
    by_cases q : (chF el sc l w).1 = 0 ∨ el w = false
    · rw [chF_k q, chF_k (by rw [← i, ← e1 w (by omega)]; exact q)]
      exact i
    · have q1 : ¬ (chF el sc l w).1 = 0 := fun t => q (Or.inl t)
      have q2 : el w = true := by
        cases p : el w
        · exact absurd (Or.inr p) q
        · rfl
      have hlt := (chF_le (el := el) (sc := sc) (l := l) w).2
      rcases hcf : chF el sc l w with ⟨L, o⟩
      rw [hcf] at q1 hlt
      have q1 : ¬ L = 0 := q1
      obtain ⟨L', rfl⟩ : ∃ L', L = L' + 1 := ⟨L - 1, by omega⟩
      have q3 : el' w = true := by rw [← e1 w (by omega)]; exact q2
      rw [hcf] at i
      cases o with
      | none => rw [chF_n hcf q2, chF_n i.symm q3]
      | some c0 =>
        have := (hlt c0 rfl).1
        rw [chF_s hcf q2, chF_s i.symm q3, e2 c0 (by omega), e2 w (by omega)]
def lsV (sc : Nat → Int32) : Option Nat → Int32
  | none => 1000000
  | some c => sc c
def bsV : Option Nat → Int32
  | none => -9
  | some c => nI c
theorem eX_choose {n l s : Nat} {z : Nat → Nat} {x1 : Int32} {μ : Mem} {post : Int32 → Mem → Prop} (h : WK n μ) (hz : ScR 16 z μ) (hl : l < 1000) {el : Nat → Bool} (hel : ∀ w, w < n → (el w = true ↔ (hb (nI s) w = false ∧ μ 15 w &&& (nI s ^^^ (-1)) = 0))) (k : post (nI ((chF el (scV n (μ 14) z x1 s) l n).2.getD 0)) μ) : T_X10_choose x1 (nI l) (nI s) μ post := by
  obtain ⟨hn, h9, hlo⟩ := h
  have h : WK n μ := ⟨hn, h9, hlo⟩
  intro P hP
  have H : ∀ w, w ≤ n → P x1 (nI s) (nI ((chF el (scV n (μ 14) z x1 s) l w).2.getD 0)) (lsV (scV n (μ 14) z x1 s) (chF el (scV n (μ 14) z x1 s) l w).2) (nI (chF el (scV n (μ 14) z x1 s) l w).1) (nI w) μ := by
    refine down_ind (hP _ _ _ _ _ _ _ (br_t (by rw [hn]; exact nI_self_le n) k)) (fun w hw ih => hP _ _ _ _ _ _ _ (br_f (by rw [hn]; exact nI_ge hw (by omega)) ?_))
    have hle := (chF_le (el := el) (sc := scV n (μ 14) z x1 s) (l := l) w).1
    rcases hcf : chF el (scV n (μ 14) z x1 s) l w with ⟨L, o⟩
    rw [hcf] at hle
    have hle : L ≤ l := hle
    refine pk_le L 0 (fun q => ?_) (fun q => ?_)
    · have e := chF_stop (el := el) (sc := scV n (μ 14) z x1 s) (l := l) (w := w) (by rw [hcf]; show L = 0; omega) (n - w)
      rw [show w + (n - w) = n by omega, hcf] at e
      rw [e] at k
      exact k
    · obtain ⟨L', rfl⟩ : ∃ L', L = L' + 1 := ⟨L - 1, by omega⟩
      rw [bit_z (nI s) (show w < 32 by omega), cl9 (show w < 1000000 by omega), nI_1, sub_m1, nI_pred]
      have skip : el w = false → P x1 (nI s) (nI (o.getD 0)) (lsV (scV n (μ 14) z x1 s) o) (nI (L' + 1)) (nI (w + 1)) μ := fun q2 => by
        rw [chF_k (Or.inr q2), hcf] at ih; exact ih
      refine ⟨fun q2 => skip ?_, fun q2 => ⟨in9 (by omega) (by omega), fun q3 => skip ?_, fun q3 => eX_score h hz (by omega) ?_⟩⟩
      · cases p : el w
        · rfl
        · exact absurd ((hel w hw).mp p).1 q2
      · cases p : el w
        · rfl
        · exact absurd ((hel w hw).mp p).2 q3
      · have q4 := (hel w hw).mpr ⟨q2, q3⟩
        cases o with
        | none =>
          rw [chF_n hcf q4] at ih
          exact ⟨fun q5 => absurd q5 (scV_lt hz.1), fun _ => ih⟩
        | some c0 =>
          rw [chF_s hcf q4] at ih
          refine ⟨fun q5 => ?_, fun q5 => ?_⟩
          · have q5 : scV n (μ 14) z x1 s c0 ≤ scV n (μ 14) z x1 s w := q5
            rw [if_pos q5] at ih; exact ih
          · have q5 : ¬ scV n (μ 14) z x1 s c0 ≤ scV n (μ 14) z x1 s w := q5
            rw [if_neg q5] at ih; exact ih
  exact H 0 (Nat.zero_le _)
theorem eM_chosen {n l s : Nat} {z : Nat → Nat} {x1 : Int32} {μ : Mem} {post : Int32 → Mem → Prop} (h : WM n μ) (hz : ∀ t, t < 10 → μ 6 t = nI (z t)) (hl : l < 1000) (hs : s < 512) (k : post (bsV (chF (mcN μ (2 ^ n - 1) s) (scV n (μ 4) z x1 s) l n).2) μ) : T_X12_chosen x1 (nI l) (nI s) μ post := by
  have hn := h.1
  have h9 := h.2.1
  intro P hP
  have H : ∀ w, w ≤ n → P x1 (nI s) (bsV (chF (mcN μ (2 ^ n - 1) s) (scV n (μ 4) z x1 s) l w).2) (nI (chF (mcN μ (2 ^ n - 1) s) (scV n (μ 4) z x1 s) l w).1) (nI w) μ := by
    refine down_ind (hP _ _ _ _ _ _ (br_t (by rw [hn]; exact nI_self_le n) k)) (fun w hw ih => hP _ _ _ _ _ _ (br_f (by rw [hn]; exact nI_ge hw (by omega)) ?_))
    obtain ⟨hle, hlt⟩ := chF_le (el := mcN μ (2 ^ n - 1) s) (sc := scV n (μ 4) z x1 s) (l := l) w
    rcases hcf : chF (mcN μ (2 ^ n - 1) s) (scV n (μ 4) z x1 s) l w with ⟨L, o⟩
    rw [hcf] at hle hlt
    have hle : L ≤ l := hle
    refine pk_le L 0 (fun q => ?_) (fun q => sM_all h ?_)
    · have e := chF_stop (el := mcN μ (2 ^ n - 1) s) (sc := scV n (μ 4) z x1 s) (l := l) (w := w) (by rw [hcf]; show L = 0; omega) (n - w)
      rw [show w + (n - w) = n by omega, hcf] at e
      rw [e] at k
      exact k
    · obtain ⟨L', rfl⟩ : ∃ L', L = L' + 1 := ⟨L - 1, by omega⟩
      rw [nI_1, sub_m1, nI_pred]
      refine sM_mayComeE (by omega) (fun q2 => rb_f rfl ?_) (fun q4 => rb_t n10 ?_)
      · rw [chF_k (Or.inr q2), hcf] at ih; exact ih
      · cases o with
        | none =>
          rw [chF_n hcf q4] at ih
          refine ⟨fun _ => ?_, fun q5 => absurd rfl q5⟩
          unfold T_X12_chosen_70
          rw [nI_1]
          exact ih
        | some c0 =>
          have hc0 := (hlt c0 rfl).1
          rw [chF_s hcf q4] at ih
          refine ⟨fun q5 => absurd q5 (nI_ne9 (by omega)), fun q5 => eM_dislikes h hz (by omega) (eM_dislikes (w := c0) h hz (by omega) ⟨fun q6 => ?_, fun q6 => ?_⟩)⟩
          · rw [if_pos q6] at ih; exact ih
          · unfold T_X12_chosen_70
            rw [nI_1]
            rw [if_neg q6] at ih; exact ih
  exact H 0 (Nat.zero_le _)
/-- the sets that the rule goes through -/
def bdS (ch : Nat → Nat) : Nat → Nat
  | 0 => 0
  | k + 1 => bdS ch k ||| 2 ^ ch (bdS ch k)
section Bd
variable {ch : Nat → Nat} {n : Nat}
theorem bdS_lt (h : ∀ s, s < 2 ^ n → ch s < n) : ∀ k, bdS ch k < 2 ^ n := by
  intro k
  induction k with
  | zero => exact Nat.two_pow_pos n
  | succ k ih => exact Nat.or_lt_two_pow ih (Nat.pow_lt_pow_right (by decide) (h _ ih))
theorem bdS_cnt (h9 : n ≤ 9) (h : ∀ s, s < 2 ^ n → ch s < n) (hf : ∀ s, s < 2 ^ n → s ≠ 2 ^ n - 1 → hb (nI s) (ch s) = false) : ∀ k, k ≤ n → cntB (nI (bdS ch k)) n = k := by
  have hp := pow9 h9
  intro k
  induction k with
  | zero =>
    intro _
    have : ∀ m, cntB (nI 0) m = 0 := by
      intro m
      induction m with
      | zero => rfl
      | succ m ih => rw [cntB_s, ih, show nI 0 = 0 from rfl, hb_0]; rfl
    exact this n
  | succ k ih =>
    intro hk
    have i := ih (by omega)
    have hl := bdS_lt h k
    have hne : bdS ch k ≠ 2 ^ n - 1 := fun e => by
      rw [e, cntB_all h9 n (Nat.le_refl _)] at i
      omega
    have hw := h _ hl
    have hc := cntB_or (show ch (bdS ch k) < 32 by omega) (hf _ hl hne) n
    rw [(set_or (show bdS ch k < 512 by omega) (show ch (bdS ch k) < 9 by omega)).1, if_pos hw, i] at hc
    exact hc
theorem bdS_ne (h9 : n ≤ 9) (h : ∀ s, s < 2 ^ n → ch s < n) (hf : ∀ s, s < 2 ^ n → s ≠ 2 ^ n - 1 → hb (nI s) (ch s) = false) {k : Nat} (hk : k < n) : bdS ch k ≠ 2 ^ n - 1 := fun e => by
  have i := bdS_cnt h9 h hf k (by omega)
  rw [e, cntB_all h9 n (Nat.le_refl _)] at i
  omega
theorem bdS_in (h9 : n ≤ 9) (h : ∀ s, s < 2 ^ n → ch s < n) {a : Nat} : ∀ b, a < b → hb (nI (bdS ch b)) (ch (bdS ch a)) = true := by
  have hp := pow9 h9
  intro b
  induction b with
  | zero => exact fun q => absurd q (by omega)
  | succ b ih =>
    intro q
    have hl := bdS_lt h b
    have hw := h _ hl
    show hb (nI (bdS ch b ||| 2 ^ ch (bdS ch b))) (ch (bdS ch a)) = true
    rw [hb_set (by omega) (by omega), Bool.or_eq_true, decide_eq_true_iff]
    by_cases e : a = b
    · subst e; exact Or.inr rfl
    · exact Or.inl (ih (by omega))
theorem bdS_NT (h9 : n ≤ 9) (h : ∀ s, s < 2 ^ n → ch s < n) (hf : ∀ s, s < 2 ^ n → s ≠ 2 ^ n - 1 → hb (nI s) (ch s) = false) : ∀ a b, a < n → b < n → ch (bdS ch a) = ch (bdS ch b) → a = b := by
  have no : ∀ a b, a < b → b < n → ch (bdS ch a) ≠ ch (bdS ch b) := fun a b hab hb0 e => by
    have h1 := bdS_in h9 h b hab
    rw [e, hf _ (bdS_lt h b) (bdS_ne h9 h hf hb0)] at h1
    exact absurd h1 (by decide)
  intro a b ha hb0 e
  rcases Nat.lt_trichotomy a b with q | q | q
  · exact absurd e (no a b q hb0)
  · exact q
  · exact absurd e.symm (no b a q ha)
end Bd
/-- the choice behind the set s -/
def chV (el : Nat → Nat → Bool) (sc : Nat → Nat → Int32) (l n s : Nat) : Nat := (chF (el s) (sc s) l n).2.getD 0
theorem chV_lt {el : Nat → Nat → Bool} {sc : Nat → Nat → Int32} {l n s : Nat} (hn : 0 < n) : chV el sc l n s < n := by
  unfold chV
  have h := (chF_le (el := el s) (sc := sc s) (l := l) n).2
  cases e : (chF (el s) (sc s) l n).2 with
  | none => exact hn
  | some c => exact (h c e).1
theorem eX_build54 {n m l : Nat} {z1 z2 : Nat → Nat} {x1 : Int32} {μ : Mem} {post : Int32 → Mem → Prop} (h : IX n m z1 z2 μ) (hn : 0 < n) (hl : l < 1000) {el : Nat → Nat → Bool} {sc : Nat → Nat → Int32} (hel : ∀ s, s < 2 ^ n → ∀ w, w < n → (el s w = true ↔ (hb (nI s) w = false ∧ μ 15 w &&& (nI s ^^^ (-1)) = 0))) (hsc : ∀ s w, w < n → scV n (μ 14) z1 x1 s w = sc s w) (k : ∀ μ', Fr (fun q => q = 57) μ μ' → IX n m z1 z2 μ' → (∀ i, i < n → μ' 57 i = nI (chV el sc l n (bdS (chV el sc l n) i))) → T_X3_add 57 1 μ' post) : T_X11_build_54 post x1 (nI l) 0 0 μ := by
  have h9 := xN h
  have hp := pow9 h9
  have hlt := bdS_lt (ch := chV el sc l n) (n := n) (fun s _ => chV_lt hn)
  intro P hP
  have H : ∀ j, j ≤ n → ∀ μ2, Fr (fun q => q = 57) μ μ2 → IX n m z1 z2 μ2 → (∀ i, i < j → μ2 57 i = nI (chV el sc l n (bdS (chV el sc l n) i))) → P x1 (nI l) (nI (bdS (chV el sc l n) j)) (nI j) μ2 := by
    refine down_ind (fun μ2 hf h2 hr => hP _ _ _ _ _ (br_t (by rw [xW h2]; exact nI_self_le n) (k μ2 hf h2 hr))) (fun j hj ih μ2 hf h2 hr => hP _ _ _ _ _ (br_f (by rw [xW h2]; exact nI_ge hj (by omega)) ?_))
    have e14 : μ2 14 = μ 14 := hf 14 (by omega)
    have e15 : μ2 15 = μ 15 := hf 15 (by omega)
    have hs := hlt j
    refine eX_choose (el := el (bdS (chV el sc l n) j)) h2.1 h2.2.1 hl (fun w hw => by rw [e15]; exact hel _ hs w hw) ?_
    have ec : chF (el (bdS (chV el sc l n) j)) (scV n (μ2 14) z1 x1 (bdS (chV el sc l n) j)) l n = chF (el (bdS (chV el sc l n) j)) (sc (bdS (chV el sc l n) j)) l n := chF_cong (fun _ _ => rfl) (fun w hw => by rw [e14]; exact hsc _ w hw) n (Nat.le_refl _)
    rw [ec]
    have i1 := in9 (show j < 9 by omega) (show 9 < 1000000 by omega)
    refine ⟨i1, i1, ?_⟩
    have hcl := chV_lt (el := el) (sc := sc) (l := l) (s := bdS (chV el sc l n) j) hn
    have e57 : (mset μ2 57 (nI j).toNatClampNeg (nI (chV el sc l n (bdS (chV el sc l n) j)))) 57 (nI j).toNatClampNeg = nI (chV el sc l n (bdS (chV el sc l n) j)) := by rw [m2, pk_us]
    show P x1 (nI l) (nI (bdS (chV el sc l n) j) ||| ((1 : Int32) <<< (((mset μ2 57 (nI j).toNatClampNeg (nI (chV el sc l n (bdS (chV el sc l n) j)))) 57 (nI j).toNatClampNeg) &&& 31))) (nI j + 1) (mset μ2 57 (nI j).toNatClampNeg (nI (chV el sc l n (bdS (chV el sc l n) j))))
    rw [e57, nI_1, (set_or (show bdS (chV el sc l n) j < 512 by omega) (show chV el sc l n (bdS (chV el sc l n) j) < 9 by omega)).1, cl9 (show j < 1000000 by omega)]
    refine ih _ (Fr_p hf rfl) (IX_q h2 (by unfold fre; omega)) (fun i hi => ?_)
    rw [m2]
    by_cases e : i = j
    · subst e; rw [pk_us]
    · rw [pk_un e]; exact hr i (by omega)
  exact H 0 (Nat.zero_le _) μ (Fr_rf _ _) h (fun i hi => absurd hi (by omega))
theorem eM_build37 {n m l : Nat} {z : Nat → Nat} {x1 : Int32} {μ : Mem} {post : Int32 → Mem → Prop} (h : IM n m μ) (hn : 0 < n) (hl0 : 0 < l) (hl : l < 1000) (hz : ∀ t, t < 10 → μ 6 t = nI (z t)) (k : ∀ μ', Fr (fun q => q = 13) μ μ' → IM n m μ' → RWn n 13 μ' → (∀ i, i < n → μ' 13 i = nI (chV (mcN μ (2 ^ n - 1)) (scV n (μ 4) z x1) l n (bdS (chV (mcN μ (2 ^ n - 1)) (scV n (μ 4) z x1) l n) i))) → (∀ a b, a < n → b < n → μ' 13 a = μ' 13 b → a = b) → T_X12_comes 1 μ' post) : T_X12_build_37 post x1 (nI l) 0 0 μ := by
  have h9 := mN h
  have hp := pow9 h9
  generalize hch : chV (mcN μ (2 ^ n - 1)) (scV n (μ 4) z x1) l n = ch at k
  have hcl : ∀ s, s < 2 ^ n → ch s < n := fun s _ => by rw [← hch]; exact chV_lt hn
  have hlt := bdS_lt hcl
  have some_c : ∀ s, s < 2 ^ n → s ≠ 2 ^ n - 1 → (chF (mcN μ (2 ^ n - 1) s) (scV n (μ 4) z x1 s) l n).2 = some (ch s) ∧ hb (nI s) (ch s) = false := fun s hs hne => by
    obtain ⟨w, hw, hm⟩ := some_may (μ := μ) h9 h.2.1.1 hs hne
    have hle := (chF_le (el := mcN μ (2 ^ n - 1) s) (sc := scV n (μ 4) z x1 s) (l := l) n).2
    have ev : ch s = (chF (mcN μ (2 ^ n - 1) s) (scV n (μ 4) z x1 s) l n).2.getD 0 := by rw [← hch]; rfl
    cases e : (chF (mcN μ (2 ^ n - 1) s) (scV n (μ 4) z x1 s) l n).2 with
    | none =>
      have := (chF_none hl0 n e).2 w hw
      rw [hm] at this; exact absurd this (by decide)
    | some c =>
      rw [e] at ev
      have ev : ch s = c := ev
      rw [ev]
      exact ⟨rfl, (mcN_b (hle c e).2).2⟩
  have hfree : ∀ s, s < 2 ^ n → s ≠ 2 ^ n - 1 → hb (nI s) (ch s) = false := fun s hs hne => (some_c s hs hne).2
  intro P hP
  have H : ∀ j, j ≤ n → ∀ μ2, Fr (fun q => q = 13) μ μ2 → (∀ i, i < j → μ2 13 i = nI (ch (bdS ch i))) → P x1 (nI l) (nI (bdS ch j)) (nI j) μ2 := by
    refine down_ind (fun μ2 hf hr => ?_) (fun j hj ih μ2 hf hr => ?_)
    · have h2 := IM_free h (Fr_mono hf (fun q hq => by unfold freM; omega))
      refine hP _ _ _ _ _ (br_t (by rw [h2.1.1]; exact nI_self_le n) (k μ2 hf h2 (fun i hi => ⟨_, hcl _ (hlt i), hr i hi⟩) hr (fun a b ha hb0 e => ?_)))
      rw [hr a ha, hr b hb0] at e
      have e2 := (nI_eq (by have := hcl _ (hlt a); omega) (by have := hcl _ (hlt b); omega)).mp e
      exact bdS_NT h9 hcl hfree a b ha hb0 e2
    · have h2 := IM_free h (Fr_mono hf (fun q hq => by unfold freM; omega))
      have hne := bdS_ne h9 hcl hfree hj
      have hs := hlt j
      have e4 : μ2 4 = μ 4 := hf 4 (by omega)
      have e5 : μ2 5 = μ 5 := hf 5 (by omega)
      refine hP _ _ _ _ _ (br_f (by rw [h2.1.1]; exact nI_ge hj (by omega)) (eM_chosen h2.1 (fun t ht => by rw [hf 6 (by omega)]; exact hz t ht) hl (by omega) ?_))
      have em : mcN μ2 (2 ^ n - 1) (bdS ch j) = mcN μ (2 ^ n - 1) (bdS ch j) := funext (fun w => mcN_of e5 _ _ w)
      rw [em, e4, (some_c _ hs hne).1]
      have i1 := in9 (show j < 9 by omega) (show 9 < 1000000 by omega)
      refine ⟨i1, i1, ?_⟩
      have hc9 := hcl _ hs
      have e13 : (mset μ2 13 (nI j).toNatClampNeg (nI (ch (bdS ch j)))) 13 (nI j).toNatClampNeg = nI (ch (bdS ch j)) := by rw [m2, pk_us]
      show P x1 (nI l) (nI (bdS ch j) ||| ((1 : Int32) <<< (((mset μ2 13 (nI j).toNatClampNeg (nI (ch (bdS ch j)))) 13 (nI j).toNatClampNeg) &&& 31))) (nI j + 1) (mset μ2 13 (nI j).toNatClampNeg (nI (ch (bdS ch j))))
      rw [e13, nI_1, (set_or (show bdS ch j < 512 by omega) (show ch (bdS ch j) < 9 by omega)).1, cl9 (show j < 1000000 by omega)]
      refine ih _ (Fr_p hf rfl) (fun i hi => ?_)
      rw [m2]
      by_cases e : i = j
      · subst e; rw [pk_us]
      · rw [pk_un e]; exact hr i (by omega)
  exact H 0 (Nat.zero_le _) μ (Fr_rf _ _) (fun i hi => absurd hi (by omega))
theorem tw_build {n m : Nat} {z1 z2 : Nat → Nat} {μX μM : Mem} {x1 x2 : Int32} {G : Prop → Prop} {Q : Int32 → Int32 → Mem → Mem → Prop} (hG : ∀ T, T → G T) (hX : IX n m z1 z2 μX) (hM : IM n m μM) (hK : RK n z1 z2 μX μM) (hO : RO n m μX μM) (k : ∀ r r2 m1 μ1 μ2, r = r2 → IX n m1 z1 z2 μ1 → IM n m1 μ2 → RO n m1 μ1 μ2 → μ1 0 = μX 0 → (∀ s, s ≠ 17 → μ2 0 s = μM 0 s) → Fr sOX μX μ1 → Fr sOM μM μ2 → Q r r2 μ1 μ2) : T_X11_build x1 x2 μX (fun r μ1 => G (T_X12_build x1 x2 μM (fun r2 μ2 => Q r r2 μ1 μ2))) := by
  have h9 := xN hX
  have h8 := xM8 hX
  have hp := pow9 h9
  have k1 : ∀ r, Q r r μX μM := fun r => k r r m μX μM rfl hX hM hO rfl (fun _ _ => rfl) (Fr_rf _ _) (Fr_rf _ _)
  rcases in_or x1 3 (by omega) with ho | ⟨a, ha, rfl⟩
  · have mno : G (T_X12_build x1 x2 μM (fun r2 μ2 => Q (-2) r2 μX μ2)) := hG _ (sM_in0 (L := 2) (by omega) (fun _ => br_t rfl (k1 _)) (fun j hj e => absurd e (ho j hj)))
    refine ⟨fun _ => mno, fun q1 => ⟨fun _ => mno, fun q2 => ?_⟩⟩
    obtain ⟨j, hj, e⟩ := in_of (n := 2) (by omega) q1 q2
    exact absurd e (ho j hj)
  refine br_f (nI_pos (by omega)) (br_f (nI_nlt (a := 2) (b := a) (by omega) (by omega)) ?_)
  rcases Classical.em (∃ t, t < 9 ∧ x2 = nI (1 + t)) with ⟨t, ht, rfl⟩ | hno
  · have in1 : ∀ post2 : Int32 → Mem → Prop, post2 1 μM → T_X12_isIn (nI (1 + t)) 1 9 μM post2 := fun post2 hq => sM_isIn (fun q => by
      exfalso
      rcases q with q | q
      · exact nI_nlt (a := 1 + t) (b := 1) (by omega) (by omega) q
      · exact nI_nlt (a := 9) (b := 1 + t) (by omega) (by omega) q) (fun _ _ => hq)
    have goM : ∀ post2 : Int32 → Mem → Prop, ((¬ (μM 0 5) = 0 → T_X12_build_37 post2 (nI a) (nI (1 + t)) 0 0 μM) ∧ ((μM 0 5) = 0 → post2 (-3) μM)) → T_X12_build (nI a) (nI (1 + t)) μM post2 := fun post2 hq => sM_in0 (L := 2) (by omega) (fun q => absurd rfl (q a ha)) (fun _ _ _ => br_f n10 (in1 _ (rb_t n10 hq)))
    refine br_f (nI_nlt (a := 1 + t) (b := 1) (by omega) (by omega)) (br_t (nI_le (a := 1 + t) (b := 9) (by omega) (by omega)) ?_)
    rcases Nat.eq_zero_or_pos n with en | hn
    · subst en
      exact rb_f (by rw [xW hX]; rfl) (hG _ (goM _ (rb_f (by rw [hM.1.1]; rfl) (k1 _))))
    have n0 : ¬ nI n = 0 := fun q => by have := (nI_eq (a := n) (b := 0) (by omega) (by omega)).mp q; omega
    refine rb_t (by rw [xW hX]; exact n0) ?_
    have hz : ∀ t, t < 10 → μM 6 t = nI (z1 t) := fun t ht => (hK.2 t ht).1
    have goM2 : ∀ post2 : Int32 → Mem → Prop, T_X12_build_37 post2 (nI a) (nI (1 + t)) 0 0 μM → T_X12_build (nI a) (nI (1 + t)) μM post2 := fun post2 hq => goM _ (rb_t (by rw [hM.1.1]; exact n0) hq)
    have hel : ∀ s, s < 2 ^ n → ∀ w, w < n → (mcN μM (2 ^ n - 1) s w = true ↔ (hb (nI s) w = false ∧ μX 15 w &&& (nI s ^^^ (-1)) = 0)) := fun s hs w hw => by
      have e : μM 5 w &&& nI (2 ^ n - 1) = μM 5 w := by
        apply hb_ext
        intro i _
        rw [hb_and, all_bits h9]
        rcases Nat.lt_or_ge i n with q | q
        · rw [decide_eq_true q, Bool.and_true]
        · rw [hM.2.1.2 w hw i q]; rfl
      unfold mcN
      rw [all_bits h9, decide_eq_true hw, e, (hK.1 w hw).2, Bool.true_and, Bool.and_eq_true, decide_eq_true_iff]
      refine and_congr ⟨fun q => ?_, fun q => by rw [q]; rfl⟩ Iff.rfl
      cases p : hb (nI s) w
      · rfl
      · rw [p] at q; exact absurd q (by decide)
    refine pk_lt m 8 (fun hm8 => br_t rfl (eX_build54 (el := mcN μM (2 ^ n - 1)) (sc := scV n (μM 4) z1 (nI a)) hX hn (by omega) hel (fun s w hw => scV_cong (fun w hw => (hK.1 w hw).1) hw) (fun μX2 hf2 hX2 hr2 => ?_))) (fun hm8 => br_f (by decide) (hG _ (goM2 _ (eM_build37 hM hn (by omega) (by omega) hz (fun μM2 hg2 hM2 hrw hr3 hNT => sM_comes hM2 hrw (fun _ => ?_) (fun q => absurd q (by omega))))))) (xM hX)
    · refine sX_add (xM hX2) hm8 rfl (fun μX3 hf3 e22 e24 er => hG _ (goM2 _ (eM_build37 hM hn (by omega) (by omega) hz (fun μM2 hg2 hM2 hrw hr3 hNT => sM_comes hM2 hrw (fun q => absurd q (by omega)) (fun _ μM3 hg3 e0 e11 e12 e12' hM3 => ?_)))))
      have h57 : ∀ i, i < n → μX2 57 i = μM2 13 i := fun i hi => by rw [hr2 i hi, hr3 i hi]
      have hrw2 : RW n 57 μX2 := fun i hi => by rw [h57 i hi]; exact RWn_RW h9 hrw i hi
      have hO2 : RO n m μX2 μM2 := RO_fr hO h8 hf2 hg2 (by omega) (fun q h1 h2 => by omega) (by omega) (by omega)
      refine k _ _ (m + 1) _ _ rfl (IX_add hX2 hm8 hrw2 hf3 e22 er) hM3 (RO_add hO2 h9 (show 1 < 3 by omega) hf3 e24 e11 e12' (fun i hi => ?_) (fun a' b' ha' hb' e => ?_)) ?_ (fun s hs => ?_) (Fr_tr (Fr_mono hf2 (fun q hq => by unfold sOX; omega)) (Fr_mono hf3 (fun q hq => by unfold sOX; omega))) (Fr_tr (Fr_mono hg2 (fun q hq => by unfold sOM; omega)) (Fr_mono hg3 (fun q hq => by unfold sOM; omega)))
      · rw [er i (by omega), e12 i hi, h57 i hi]
      · rw [e12 a' ha', e12 b' hb'] at e
        exact hNT a' b' ha' hb' e
      · rw [hf3 0 (by omega), hf2 0 (by omega)]
      · rw [e0, pk_un hs, hg2 0 (by omega)]
    · exact k _ _ m μX μM2 rfl hX hM2 (RO_fr hO h8 (Fr_rf (fun q => q = 57) _) hg2 (by omega) (fun q h1 h2 => by omega) (by omega) (by omega)) rfl (fun s _ => by rw [hg2 0 (by omega)]) (Fr_rf _ _) (Fr_mono hg2 (fun q hq => by unfold sOM; omega))
  · have mno : G (T_X12_build (nI a) x2 μM (fun r2 μ2 => Q (-2) r2 μX μ2)) := hG _ (sM_in0 (L := 2) (by omega) (fun q => absurd rfl (q a ha)) (fun _ _ _ => br_f n10 (sM_isIn (fun _ => rb_f rfl (k1 _)) (fun q1 q2 => by
      obtain ⟨t, ht, e⟩ := rngI 1 9 (by omega) q1 q2 (by omega)
      exact absurd ⟨t, by omega, e⟩ hno))))
    refine ⟨fun _ => mno, fun q1 => ⟨fun q2 => ?_, fun _ => mno⟩⟩
    exfalso
    obtain ⟨t, ht, e⟩ := rngI 1 9 (by omega) q1 (Int32.not_lt.mpr q2) (by omega)
    exact hno ⟨t, by omega, e⟩
