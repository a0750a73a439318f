/-! the class's table and the reference's say the same -/
def ES (n u t s : Nat) : Prop := t < 2 ^ cntB (nI u) n ∧ s < 2 ^ n ∧ ∀ w, hb (nI s) w = true ↔ (w < n ∧ hb (nI u) w = true ∧ hb (nI t) (cntB (nI u) w) = true)
theorem ES_0 (n u : Nat) : ES n u 0 0 := by
  have h1 : 1 ≤ 2 ^ cntB (nI u) n := Nat.one_le_two_pow
  have h2 : 1 ≤ 2 ^ n := Nat.one_le_two_pow
  refine ⟨by omega, by omega, fun w => ?_⟩
  rw [show (nI 0 : Int32) = 0 from rfl, hb_0, hb_0]
  exact ⟨fun q => absurd q (by decide), fun q => absurd q.2.2 (by decide)⟩
theorem hb_set {s w k : Nat} (hs : s < 512) (hw : w < 9) : hb (nI (s ||| 2 ^ w)) k = (hb (nI s) k || decide (k = w)) := by
  rw [← (set_or hs hw).1, hb_or, hb_shl (by omega)]
theorem ES_add {n u t s w : Nat} (h9 : n ≤ 9) (h : ES n u t s) (hw : w < n) (hu : hb (nI u) w = true) : ES n u (t ||| 2 ^ cntB (nI u) w) (s ||| 2 ^ w) := by
  obtain ⟨h1, h2, h3⟩ := h
  have hr := cntB_lt hw hu
  have hc := cntB_le (nI u) n
  have hp := pow9 h9
  have hp2 := pow9 (show cntB (nI u) n ≤ 9 by omega)
  refine ⟨Nat.or_lt_two_pow h1 (Nat.pow_lt_pow_right (by decide) hr), Nat.or_lt_two_pow h2 (Nat.pow_lt_pow_right (by decide) hw), fun v => ?_⟩
  rw [hb_set (by omega) (by omega), hb_set (by omega) (by omega), Bool.or_eq_true, Bool.or_eq_true, decide_eq_true_iff, decide_eq_true_iff, h3 v]
  constructor
  · rintro (⟨a, b, c⟩ | e)
    · exact ⟨a, b, Or.inl c⟩
    · subst e; exact ⟨hw, hu, Or.inr rfl⟩
  · rintro ⟨a, b, c | e⟩
    · exact Or.inl ⟨a, b, c⟩
    · exact Or.inr (rank_inj b hu e)
theorem ES_full {n u t s : Nat} (h9 : n ≤ 9) (hu : u < 2 ^ n) (h : ES n u t s) : t = 2 ^ cntB (nI u) n - 1 ↔ s = u := by
  obtain ⟨h1, h2, h3⟩ := h
  have hc := cntB_le (nI u) n
  have hp := pow9 h9
  have hp2 := pow9 (show cntB (nI u) n ≤ 9 by omega)
  have lu : ∀ w, hb (nI u) w = true → w < n := fun w q => by
    rcases Nat.lt_or_ge w n with t | t
    · exact t
    · rw [nI_lo hu (by omega) w t] at q; exact absurd q (by decide)
  constructor
  · intro e
    have : nI s = nI u := by
      apply hb_ext
      intro w _
      apply Bool.eq_iff_iff.mpr
      rw [h3 w]
      refine ⟨fun q => q.2.1, fun q => ⟨lu w q, q, ?_⟩⟩
      rw [e, all_bits (by omega)]
      exact decide_eq_true (cntB_lt (lu w q) q)
    exact (nI_eq (by omega) (by omega)).mp this
  · intro e
    have : nI t = nI (2 ^ cntB (nI u) n - 1) := by
      apply hb_ext
      intro k _
      rw [all_bits (by omega)]
      rcases Nat.lt_or_ge k (cntB (nI u) n) with q | q
      · obtain ⟨w, hw, c1, c2⟩ := rank_sur n k q
        have := (h3 w).mp (by rw [e]; exact c1)
        rw [c2] at this
        rw [this.2.2, decide_eq_true q]
      · rw [nI_lo h1 (by omega) k q, decide_eq_false (by omega)]
    exact (nI_eq (by omega) (by omega)).mp this
section Tab
variable {c n u : Nat} {z : Nat → Nat} {nd bf : Nat → Int32} {μ μ1 : Mem}
theorem tab_mc {t s w : Nat} (h9 : n ≤ 9) (hu : u < 2 ^ n) (hL : LOd c n (nI u) nd bf μ) (hE : ES n u t s) (hw : w < n) (hwu : hb (nI u) w = true) (e5 : bf w = μ1 5 w) : mcX c μ t (cntB (nI u) w) ↔ mcN μ1 u s w = true := by
  obtain ⟨h1, h2, h3⟩ := hE
  have hsq := (hL.2.1 w hw hwu).2
  have lu : ∀ w, hb (nI u) w = true → w < n := fun w q => by
    rcases Nat.lt_or_ge w n with t | t
    · exact t
    · rw [nI_lo hu (by omega) w t] at q; exact absurd q (by decide)
  have hst : hb (nI s) w = hb (nI t) (cntB (nI u) w) := Bool.eq_iff_iff.mpr ⟨fun q => ((h3 w).mp q).2.2, fun q => (h3 w).mpr ⟨hw, hwu, q⟩⟩
  unfold mcX mcN
  rw [hwu, hst, andn_0, ← e5, Bool.and_eq_true, decide_eq_true_iff, andn_0, Bool.true_and]
  refine and_congr ⟨fun q => by rw [q]; rfl, fun q => by cases p : hb (nI t) (cntB (nI u) w); rfl; rw [p] at q; exact absurd q (by decide)⟩ ⟨fun q v hv => ?_, fun q i hi => ?_⟩
  · rw [hb_and, Bool.and_eq_true] at hv
    have hvn := lu v hv.2
    exact (h3 v).mpr ⟨hvn, hv.2, q _ ((hsq _).mpr ⟨v, hvn, hv.2, rfl, hv.1⟩)⟩
  · obtain ⟨v, hvn, v1, v2, v3⟩ := (hsq i).mp hi
    have := (h3 v).mp (q v (by rw [hb_and, v1, v3]; rfl))
    rw [← v2]; exact this.2.2
theorem tab_wd {t s w : Nat} (h9 : n ≤ 9) (hu : u < 2 ^ n) (hL : LOd c n (nI u) nd bf μ) (hE : ES n u t s) (hw : w < n) (hwu : hb (nI u) w = true) (hws : hb (nI s) w = false) (hM : WM n μ1) (e4 : ∀ w, w < n → nd w = μ1 4 w) (e14 : ∀ s, s < 2 ^ n → μ1 14 s = needF (μ1 4) (nI s) n) (e17 : ∀ x, x < 1024 → μ1 17 x = nI (sum10 z (nI x))) (hz9 : ∀ t, z t ≤ 99) : wdX c (cntB (nI u) n) z μ t (cntB (nI u) w) = wdN μ1 u s w := by
  have hc := cntB_le (nI u) n
  have hr := cntB_lt hw hwu
  have hp := pow9 h9
  have hp2 := pow9 (show cntB (nI u) n ≤ 9 by omega)
  have hE2 := ES_add h9 hE hw hwu
  obtain ⟨h1, h2, h3⟩ := hE
  have hN := hL.2.2
  have hD := hL.2.1
  -- bits of the class's two rows
  have row : ∀ t', t' < 2 ^ cntB (nI u) n → ∀ b, hb (μ (c + 3) t') b = true ↔ ∃ v, v < n ∧ hb (nI u) v = true ∧ hb (nI t') (cntB (nI u) v) = true ∧ hb (nd v) b = true := by
    intro t' ht' b
    rw [hN t' ht' b]
    constructor
    · rintro ⟨k, hk, k1, k2⟩
      obtain ⟨v, hv, v1, v2⟩ := rank_sur n k hk
      rw [← v2] at k1 k2
      rw [(hD v hv v1).1] at k2
      exact ⟨v, hv, v1, k1, k2⟩
    · rintro ⟨v, hv, v1, v2, v3⟩
      exact ⟨cntB (nI u) v, cntB_lt hv v1, v2, by rw [(hD v hv v1).1]; exact v3⟩
  obtain ⟨d, hd, ed⟩ : ∃ d, d < 2 ^ cntB (nI u) n ∧ nI (2 ^ cntB (nI u) n - 1) &&& (nI t ^^^ (-1)) = nI d := by
    obtain ⟨d, hd, ed⟩ := lo_nI (lo_and (nI_lo (n := cntB (nI u) n) (a := 2 ^ cntB (nI u) n - 1) (by omega) (by omega)) (nI t ^^^ (-1)))
    exact ⟨d, hd, ed⟩
  have bd : ∀ v, v < n → hb (nI u) v = true → hb (nI d) (cntB (nI u) v) = !hb (nI s) v := fun v hv v1 => by
    have est : hb (nI s) v = hb (nI t) (cntB (nI u) v) := Bool.eq_iff_iff.mpr ⟨fun q => ((h3 v).mp q).2.2, fun q => (h3 v).mpr ⟨hv, v1, q⟩⟩
    rw [← ed, hb_andn, all_bits (by omega), decide_eq_true (cntB_lt hv v1), Bool.true_and, est]
  -- the reference's index
  obtain ⟨r, hr2, er⟩ : ∃ r, r < 2 ^ n ∧ (nI u &&& (nI s ^^^ (-1))) &&& (((1 : Int32) <<< (nI w &&& 31)) ^^^ (-1)) = nI r := lo_nI (lo_and (lo_and (nI_lo hu (by omega)) _) _)
  have br : ∀ v, hb (nI r) v = ((hb (nI u) v && !hb (nI s) v) && !decide (v = w)) := fun v => by
    rw [← er, hb_andn, hb_andn, hb_shl (by omega)]
  have lo4 : ∀ x, lo 10 (needF (μ1 4) x n) := fun x => needF_lo (fun w hw => hM.2.2.1 w (by omega)) x n (Nat.le_refl _)
  have hlo : lo 10 (μ1 4 w ||| (needF (μ1 4) (nI s) n &&& needF (μ1 4) (nI r) n)) := lo_or (hM.2.2.1 w (by omega)) (lo_and (lo4 _) _)
  obtain ⟨x, hx, ex⟩ := lo_nI hlo
  have hx' : x < 1024 := hx
  unfold wdX wdN
  rw [ed, er, cl9 (show d < 1000000 by omega), cl9 (show r < 1000000 by omega), e14 s h2, e14 r hr2, ex, cl9 (show x < 1000000 by omega), e17 x hx', nI_clamp (by have := sum10_le hz9 (nI x); omega), ← ex]
  congr 1
  apply hb_ext
  intro b _
  apply Bool.eq_iff_iff.mpr
  rw [hb_and, Bool.and_eq_true, row _ hE2.1 b, row d hd b, hb_or, Bool.or_eq_true, hb_and, Bool.and_eq_true, needF_hb, needF_hb]
  have st : ∀ v, hb (nI (t ||| 2 ^ cntB (nI u) w)) (cntB (nI u) v) = true → v < n → hb (nI u) v = true → hb (nI s) v = true ∨ v = w := fun v q hv v1 => by
    rw [hb_set (by omega) (by omega), Bool.or_eq_true, decide_eq_true_iff] at q
    rcases q with q | q
    · exact Or.inl ((h3 v).mpr ⟨hv, v1, q⟩)
    · exact Or.inr (rank_inj v1 hwu q)
  constructor
  · rintro ⟨⟨v, hv, v1, v2, v3⟩, ⟨v', hv', w1, w2, w3⟩⟩
    rcases st v v2 hv v1 with q | q
    · by_cases e : v' = w
      · subst e; left; rw [← e4 v' hv']; exact w3
      · right
        refine ⟨⟨v, hv, q, by rw [← e4 v hv]; exact v3⟩, ⟨v', hv', ?_, by rw [← e4 v' hv']; exact w3⟩⟩
        rw [bd v' hv' w1] at w2
        rw [br, w1, w2, decide_eq_false e]; rfl
    · subst q; left; rw [← e4 v hv]; exact v3
  · rintro (q | ⟨⟨v, hv, v1, v2⟩, ⟨v', hv', w1, w2⟩⟩)
    · have q' : hb (nd w) b = true := by rw [e4 w hw]; exact q
      refine ⟨⟨w, hw, hwu, ?_, q'⟩, ⟨w, hw, hwu, ?_, q'⟩⟩
      · rw [hb_set (by omega) (by omega), decide_eq_true rfl, Bool.or_true]
      · rw [bd w hw hwu, hws]; rfl
    · have vs := (h3 v).mp v1
      rw [br, Bool.and_eq_true, Bool.and_eq_true] at w1
      refine ⟨⟨v, hv, vs.2.1, ?_, by rw [e4 v hv]; exact v2⟩, ⟨v', hv', w1.1.1, ?_, by rw [e4 v' hv']; exact w2⟩⟩
      · rw [hb_set (by omega) (by omega), vs.2.2]; rfl
      · rw [bd v' hv' w1.1.1]; exact w1.1.2
theorem tab_eq {lim : Nat} {μ' : Mem} {T : Nat → Nat} (h9 : n ≤ 9) (hu : u < 2 ^ n) (hL : LOd c n (nI u) nd bf μ) (hM : WM n μ1) (e4 : ∀ w, w < n → nd w = μ1 4 w) (e5 : ∀ w, w < n → bf w = μ1 5 w) (e14 : ∀ s, s < 2 ^ n → μ1 14 s = needF (μ1 4) (nI s) n) (e17 : ∀ x, x < 1024 → μ1 17 x = nI (sum10 z (nI x))) (hz9 : ∀ t, z t ≤ 99) (hlim : lim ≤ 1000000) (hT : ∀ t, t < 2 ^ cntB (nI u) n → EQx c (cntB (nI u) n) z lim μ T t) (hE : ∀ s, s ≤ u → (∀ i, hb (nI s) i = true → hb (nI u) i = true) → EQm μ1 n u μ' s) : ∀ d t s, t + d = 2 ^ cntB (nI u) n - 1 → ES n u t s → T t = min lim (LT 15 μ' s) := by
  have hc := cntB_le (nI u) n
  have hp := pow9 h9
  have hp2 := pow9 (show cntB (nI u) n ≤ 9 by omega)
  intro d
  induction d using Nat.strongRecOn with
  | ind d ih =>
    intro t s htd hS
    have hsub : ∀ i, hb (nI s) i = true → hb (nI u) i = true := fun i q => ((hS.2.2 i).mp q).2.1
    have hsu : s ≤ u := Sub_le (by omega) (by have := hS.2.1; omega) hsub
    obtain ⟨-, m2', m3⟩ := hE s hsu hsub
    obtain ⟨t1, t2, t3⟩ := hT t hS.1
    by_cases e : t = 2 ^ cntB (nI u) n - 1
    · have es := (ES_full h9 hu hS).mp e
      rw [if_pos es] at m3
      rw [t2 e, m3]; omega
    · have es : s ≠ u := fun q => e ((ES_full h9 hu hS).mpr q)
      rw [if_neg es] at m3
      have t4 := (t3 e).1
      have step : ∀ w, w < n → hb (nI u) w = true → mcX c μ t (cntB (nI u) w) → mcN μ1 u s w = true ∧ wdX c (cntB (nI u) n) z μ t (cntB (nI u) w) = wdN μ1 u s w ∧ T (t ||| 2 ^ cntB (nI u) w) = min lim (LT 15 μ' (s ||| 2 ^ w)) := by
        intro w hw hwu mc
        clear t3 t4
        have mcn := (tab_mc h9 hu hL hS hw hwu (e5 w hw)).mp mc
        have hws := (mcN_b mcn).2
        have hbt0 : t.testBit (cntB (nI u) w) = false := by rw [← hb_nI (by omega)]; exact mc.1
        have hgt := or_gt hbt0
        have hES := ES_add h9 hS hw hwu
        have hlt := hES.1
        exact ⟨mcn, tab_wd h9 hu hL hS hw hwu hws hM e4 e14 e17 hz9, ih (2 ^ cntB (nI u) n - 1 - (t ||| 2 ^ cntB (nI u) w)) (by omega) _ _ (by omega) hES⟩
      have t5 := (t3 e).2
      have le1 : T t ≤ LT 15 μ' s := by
        clear t3 t5
        rcases mnF_at (mcN μ1 u s) (fun w => max (wdN μ1 u s w) (LT 15 μ' (s ||| 2 ^ w))) 1000000 n with q | ⟨w, hw, q1, q2⟩
        · omega
        · have hwu := (mcN_b q1).1
          have mc := (tab_mc h9 hu hL hS hw hwu (e5 w hw)).mpr q1
          obtain ⟨-, s2, s3⟩ := step w hw hwu mc
          have := t4 (cntB (nI u) w) (cntB_lt hw hwu) mc
          rw [s2, s3] at this
          have q2 : mnF (mcN μ1 u s) (fun w => max (wdN μ1 u s w) (LT 15 μ' (s ||| 2 ^ w))) 1000000 n = max (wdN μ1 u s w) (LT 15 μ' (s ||| 2 ^ w)) := q2
          omega
      have le2 : min lim (LT 15 μ' s) ≤ T t := by
        clear t3
        rcases t5 with q | ⟨i, hi, mc, q⟩
        · omega
        · obtain ⟨w, hw, hwu, ew⟩ := rank_sur n i hi
          rw [← ew] at mc q
          obtain ⟨s1, s2, s3⟩ := step w hw hwu mc
          have := mnF_le (v := fun w => max (wdN μ1 u s w) (LT 15 μ' (s ||| 2 ^ w))) (top := 1000000) s1 n hw
          have this : mnF (mcN μ1 u s) (fun w => max (wdN μ1 u s w) (LT 15 μ' (s ||| 2 ^ w))) 1000000 n ≤ max (wdN μ1 u s w) (LT 15 μ' (s ||| 2 ^ w)) := this
          rw [s2, s3] at q
          omega
      clear t3 t5
      omega
end Tab
