/-! works of both sides are alike: work, before, thing, ofWork -/
theorem sM_in0 {x : Int32} {L : Nat} {μ : Mem} {post : Int32 → Mem → Prop} (hL : L < 2 ^ 30) (k0 : (∀ j, j < L + 1 → x ≠ nI j) → post 0 μ) (k1 : ∀ j, j < L + 1 → x = nI j → post 1 μ) : T_X12_isIn x 0 (nI L) μ post :=
  sM_isIn (fun q => k0 (out_of (by omega) q)) (fun q1 q2 => by obtain ⟨j, hj, e⟩ := in_of hL q1 q2; exact k1 j hj e)
theorem sX_addW2 {n : Nat} {x1 x2 : Int32} {μ : Mem} {post : Mem → Prop} (h : WK n μ) (hn : n < 9) (hx : lo 10 x1) (k : ∀ μ', Fr (fun q => q = 13 ∨ q = 14 ∨ q = 15) μ μ' → WK (n + 1) μ' → μ' 14 = upd (μ 14) n x1 → μ' 15 = upd (μ 15) n x2 → μ' 13 5 = μ 13 5 + 1 → post μ') : T_X10_add x1 x2 μ post := by
  obtain ⟨a, b, c⟩ := sX_addW (post := fun μ' => μ' 13 5 = μ 13 5 + 1 → post μ') (x2 := x2) h hn hx (fun μ' f w e1 e2 e3 => k μ' f w e1 e2 e3)
  refine ⟨a, b, c ?_⟩
  rw [m2, pk_us, m2, pk_un (by decide)]
  unfold mset
  rw [mput_o (by decide), mput_o (by decide)]
theorem qM_work {n m : Nat} {a b : Nat} {μ : Mem} {post : Int32 → Mem → Prop} (h : IM n m μ) (hn9 : n < 9) (ha : a < 1024) (hb0 : b < 2 ^ n) (k : ∀ r μ', r = nI n → Fr (fun q => q = 0 ∨ q = 4 ∨ q = 5) μ μ' → (∀ s, s ≠ 5 → s ≠ 17 → μ' 0 s = μ 0 s) → μ' 4 = upd (μ 4) n (nI a) → μ' 5 = upd (μ 5) n (nI b) → IM (n + 1) 0 μ' → post r μ') : T_X12_work (nI a) (nI b) μ post := by
  have hp : 2 ^ n ≤ 2 ^ 9 := Nat.pow_le_pow_right (by decide) (by omega)
  have hp1 : 1 ≤ 2 ^ n := Nat.one_le_two_pow
  refine sM_in0 (L := 1023) (by omega) (fun q => absurd rfl (q a ha)) (fun _ _ _ => br_f n10 (sM_all h.1 (sM_in0 (L := 2 ^ n - 1) (by omega) (fun q => absurd rfl (q b (by omega))) (fun _ _ _ => rb_t n10 (rb_t (fun q => ?_) ?_)))))
  · rw [h.1.1] at q
    have := (nI_eq (by omega) (by omega)).mp (show nI n = nI 9 from q)
    omega
  have l1 : lo 10 (nI a) := nI_lo (n := 10) (by omega) (by omega)
  have l2 : lo n (nI b) := nI_lo hb0 (by omega)
  have g1 : ∀ j v, (mset μ 4 j v) 0 = μ 0 := fun j v => mput_o (by decide)
  have g2 : ∀ j v i u, (mset (mset μ 4 j v) 5 i u) 0 = μ 0 := fun j v i u => by unfold mset; rw [mput_o (by decide), mput_o (by decide)]
  rw [g2, g1, h.1.1, cl9 (show n < 1000000 by omega), nI_1]
  have i1 := in9 hn9 (show 9 < 1000000 by omega)
  have g4 : ∀ f g, (mput (mput (mset (mset μ 4 n (nI a)) 5 n (nI b)) 0 f) 0 g) 4 = upd (μ 4) n (nI a) := fun f g => by unfold mset; rw [mput_o (by decide), mput_o (by decide), mput_o (by decide), mput_same]
  have g5 : ∀ f g, (mput (mput (mset (mset μ 4 n (nI a)) 5 n (nI b)) 0 f) 0 g) 5 = upd (μ 5) n (nI b) := fun f g => by unfold mset; rw [mput_o (by decide), mput_o (by decide), mput_same, mput_o (by decide)]
  have go : ∀ q f g, q ≠ 0 → q ≠ 4 → q ≠ 5 → (mput (mput (mset (mset μ 4 n (nI a)) 5 n (nI b)) 0 f) 0 g) q = μ q := fun q f g t1 t2 t3 => by unfold mset; rw [mput_o (fun e => t1 e.symm), mput_o (fun e => t1 e.symm), mput_o (fun e => t3 e.symm), mput_o (fun e => t2 e.symm)]
  refine ⟨i1, i1, k _ _ (by rw [m2, pk_un (by decide), m2, pk_us, nI_pred]) (Fr_p (Fr_p (Fr_p (Fr_p (Fr_rf _ _) (by omega)) (by omega)) (by omega)) (by omega)) (fun s h5 h17 => by rw [m2, pk_un h17, m2, pk_un h5]; unfold mset; rw [mput_o (by decide), mput_o (by decide)]) (g4 _ _) (g5 _ _) ?_⟩
  obtain ⟨a1, a2, a3, a4, a5, a6, a7, a8, a9⟩ := h
  refine ⟨⟨?_, by omega, fun w hw => ?_, ?_⟩, ?_, UZ_of a3 (go 14 _ _ (by decide) (by decide) (by decide)) (go 17 _ _ (by decide) (by decide) (by decide)), ?_, ?_, ?_, by omega, ?_, fun j hj => absurd hj (by omega)⟩
  · rw [m2, pk_un (by decide), m2, pk_us]
  · refine Eq.subst (motive := fun f => lo 10 (f w)) (g4 _ _).symm ?_
    by_cases e : w = n
    · subst e; rw [pk_us]; exact l1
    · rw [pk_un e]; exact a1.2.2.1 w hw
  · exact Eq.subst (motive := fun f => ∀ t, t < 10 → ∃ v, v ≤ 99 ∧ f t = nI v) (go 6 _ _ (by decide) (by decide) (by decide)).symm a1.2.2.2
  · refine Eq.subst (motive := fun f => AC (n + 1) f) (g5 _ _).symm ⟨?_, fun w hw => ?_⟩
    rotate_left
    · by_cases e : w = n
      · subst e; rw [pk_us]; exact lo_mono l2 (by omega)
      · rw [pk_un e]; exact lo_mono (a2.2 w (by omega)) (by omega)
    intro S hS
    by_cases hold : ∃ w, w < n ∧ S w
    · obtain ⟨w, hw, hSw, hm⟩ := a2.1 S hold
      refine ⟨w, by omega, hSw, fun v hv hbv => ?_⟩
      rw [pk_un (by omega)] at hbv
      by_cases e : v = n
      · subst e
        rw [a2.2 w hw v (Nat.le_refl _)] at hbv; exact absurd hbv (by decide)
      · exact hm v (by omega) hbv
    · obtain ⟨w, hw, hSw⟩ := hS
      have e : w = n := by
        rcases Nat.lt_or_ge w n with t | t
        · exact absurd ⟨w, t, hSw⟩ hold
        · omega
      subst e
      refine ⟨w, by omega, hSw, fun v hv hbv hSv => ?_⟩
      rw [pk_us] at hbv
      rcases Nat.lt_or_ge v w with t | t
      · exact hold ⟨v, t, hSv⟩
      · rw [l2 v t] at hbv; exact absurd hbv (by decide)
  · exact Eq.subst (motive := fun f => ∀ k, k < 4 → ∃ l, l ≤ 60 ∧ f k = nI l) (go 2 _ _ (by decide) (by decide) (by decide)).symm a4
  · exact Eq.subst (motive := fun f => ∀ w, w < 9 → lo 10 (f w)) (go 8 _ _ (by decide) (by decide) (by decide)).symm a5
  · exact Eq.subst (motive := fun f => ∀ t, t < 10 → ∃ v, v ≤ 9 ∧ f t = nI v) (go 10 _ _ (by decide) (by decide) (by decide)).symm a6
  · rw [m2, pk_us]; rfl
def sWX : Nat → Prop := fun q => q = 13 ∨ q = 14 ∨ q = 15 ∨ q = 22
theorem tw_work {n m m' : Nat} {z1 z2 : Nat → Nat} {μX μM : Mem} {x1 x2 : Int32} {G : Prop → Prop} {Q : Int32 → Int32 → Mem → Mem → Prop} (hG : ∀ T, T → G T) (hX : IX n m z1 z2 μX) (hM : IM n m' μM) (hK : RK n z1 z2 μX μM) (k1 : ∀ r, Q r r μX μM)
    (k2 : ∀ r r2 μ1 μ2, r = r2 → IX (n + 1) 0 z1 z2 μ1 → IM (n + 1) 0 μ2 → RK (n + 1) z1 z2 μ1 μ2 → Fr sWX μX μ1 → Fr (fun q => q = 0 ∨ q = 4 ∨ q = 5) μM μ2 → (∀ s, s ≠ 5 → s ≠ 17 → μ2 0 s = μM 0 s) → μ1 13 5 = μX 13 5 + 1 → Q r r2 μ1 μ2) : T_X11_work x1 x2 μX (fun r μ1 => G (T_X12_work x1 x2 μM (fun r2 μ2 => Q r r2 μ1 μ2))) := by
  have h9 := xN hX
  have hp : 2 ^ n ≤ 2 ^ 9 := Nat.pow_le_pow_right (by decide) (by omega)
  have hp1 : 1 ≤ 2 ^ n := Nat.one_le_two_pow
  have mno1 : (∀ j, j < 1024 → x1 ≠ nI j) → ∀ post2 : Int32 → Mem → Prop, post2 (-2) μM → T_X12_work x1 x2 μM post2 := fun h post2 hq => sM_in0 (L := 1023) (by omega) (fun _ => br_t rfl hq) (fun j hj e => absurd e (h j hj))
  refine br_ix 1024 rfl (by omega) (fun h => hG _ (mno1 h _ (k1 _))) (fun h => hG _ (mno1 h _ (k1 _))) (fun a ha ea => ?_)
  subst ea
  rcases in_or x2 (2 ^ n) (by omega) with ho | ⟨b, hb0, rfl⟩
  · have mno2 : ∀ post2 : Int32 → Mem → Prop, post2 (-2) μM → T_X12_work (nI a) x2 μM post2 := fun post2 hq => sM_in0 (L := 1023) (by omega) (fun q => absurd rfl (q a ha)) (fun _ _ _ => br_f n10 (sM_all hM.1 (sM_in0 (L := 2 ^ n - 1) (by omega) (fun _ => rb_f rfl hq) (fun j hj e => absurd e (ho j (by omega))))))
    refine ⟨fun _ => hG _ (mno2 _ (k1 _)), fun q => sX_all (xW hX) h9 ⟨fun q2 => ?_, fun _ => hG _ (mno2 _ (k1 _))⟩⟩
    obtain ⟨j, hj, e⟩ := in_of (n := 2 ^ n - 1) (by omega) q (Int32.not_lt.mpr q2)
    exact absurd e (ho j (by omega))
  refine br_f (nI_pos (by omega)) (sX_all (xW hX) h9 (br_t (nI_le (by omega) (by omega)) (pk_lt n 9 (fun hlt => ?_) (fun hge => hG _ ?_) (xW hX))))
  · refine sX_addW2 hX.1 hlt (nI_lo (n := 10) (by omega) (by omega)) (fun μ2 hf2 hw2 e14 e15 ev => hG _ (qM_work hM hlt ha hb0 (fun r2 μM2 er hfm e0 e4 e5 hM2 => ?_)))
    have g : Fr sWX μX (mset μ2 22 2 0) := Fr_p (Fr_mono hf2 (fun k q => by unfold sWX; omega)) (by unfold sWX; omega)
    have f13 : (mset μ2 22 2 0) 13 = μ2 13 := mput_o (by decide)
    have f14 : (mset μ2 22 2 0) 14 = μ2 14 := mput_o (by decide)
    have f15 : (mset μ2 22 2 0) 15 = μ2 15 := mput_o (by decide)
    refine k2 _ _ _ _ ?_ ?_ hM2 ⟨fun w hw => ?_, fun t ht => ?_⟩ g hfm e0 (by rw [f13]; exact ev)
    · rw [f13, hw2.1, nI_pred, er]
    · obtain ⟨a1, a2, a3, a4, a5, a6, a7, a8, a9, a10, a11, a12⟩ := hX
      refine ⟨WK_p hw2 (by decide) (by decide), ScR_fr a2 g (by unfold sWX; omega) (by unfold sWX; omega), ScR_fr a3 g (by unfold sWX; omega) (by unfold sWX; omega), OP_fr a4 g (by unfold sWX; omega), a5.imp fun a q => SRa_of q (g 35 (by unfold sWX; omega)), a6.imp fun a q => SRa_of q (g 41 (by unfold sWX; omega)), RM_of a7 (g 53 (by unfold sWX; omega)), TXI_fr a8 g (by unfold sWX; omega) (by unfold sWX; omega) (by unfold sWX; omega), fun k hk => ?_, by omega, ?_, fun j hj => absurd hj (by omega)⟩
      · rw [g 4 (by unfold sWX; omega)]; exact a9 k hk
      · rw [m2, pk_us]; rfl
    · rw [f14, f15, e14, e15, e4, e5]
      by_cases e : w = n
      · subst e; rw [pk_us, pk_us, pk_us, pk_us]; exact ⟨rfl, rfl⟩
      · rw [pk_un e, pk_un e, pk_un e, pk_un e]; exact hK.1 w (by omega)
    · rw [hfm 6 (by omega), hfm 7 (by omega)]; exact hK.2 t ht
  · refine sM_in0 (L := 1023) (by omega) (fun q => absurd rfl (q a ha)) (fun _ _ _ => br_f n10 (sM_all hM.1 (sM_in0 (L := 2 ^ n - 1) (by omega) (fun q => absurd rfl (q b (by omega))) (fun _ _ _ => rb_t n10 (rb_f ?_ (k1 _))))))
    rw [hM.1.1, show n = 9 by omega]; rfl
def cnt : Nat → (Nat → Bool) → Nat
  | 0, _ => 0
  | k + 1, f => cnt k f + (if f k then 1 else 0)
theorem cnt_s (k : Nat) (f : Nat → Bool) : cnt (k + 1) f = cnt k f + (if f k then 1 else 0) := rfl
theorem cnt_le (n : Nat) (f : Nat → Bool) : cnt n f ≤ n := by
  induction n with
  | zero => exact Nat.le_refl _
  | succ k ih => rw [cnt_s]; split <;> omega
theorem cnt_all {n : Nat} {f : Nat → Bool} (h : cnt n f = n) : ∀ i, i < n → f i = true := by
  induction n with
  | zero => intro i hi; omega
  | succ k ih =>
    have hl := cnt_le k f
    rw [cnt_s] at h
    cases hb0 : f k
    · rw [hb0] at h
      have h : cnt k f + 0 = k + 1 := h
      omega
    · rw [hb0] at h
      have h : cnt k f + 1 = k + 1 := h
      intro i hi
      by_cases e : i = k
      · subst e; exact hb0
      · exact ih (by omega) i (by omega)
theorem cnt_mono {n : Nat} {f g : Nat → Bool} (h : ∀ i, i < n → f i = true → g i = true) : cnt n f ≤ cnt n g := by
  induction n with
  | zero => exact Nat.le_refl _
  | succ k ih =>
    have := ih (fun i hi => h i (by omega))
    rw [cnt_s, cnt_s]
    cases hb0 : f k
    · have e : (if false = true then 1 else 0) = 0 := rfl
      rw [e]; omega
    · rw [h k (by omega) hb0]; omega
theorem cnt_lt {n v : Nat} {f g : Nat → Bool} (h : ∀ i, i < n → f i = true → g i = true) (hv : v < n) (h1 : g v = true) (h2 : f v = false) : cnt n f < cnt n g := by
  induction n with
  | zero => omega
  | succ k ih =>
    rw [cnt_s, cnt_s]
    by_cases e : v = k
    · subst e
      have := cnt_mono (n := v) (fun i hi => h i (by omega))
      rw [h1, h2]
      show cnt v f + 0 < cnt v g + 1
      omega
    · have := ih (fun i hi => h i (by omega)) (by omega)
      cases hb0 : f k
      · have e : (if false = true then 1 else 0) = 0 := rfl
        rw [e]; omega
      · rw [h k (by omega) hb0]; omega
/-- A is all that comes ahead of b -/
def CLo (n : Nat) (bf : Nat → Int32) (b : Nat) (A : Int32) : Prop := (∀ v, hb (bf b) v = true → hb A v = true) ∧ (∀ x, x < n → hb A x = true → ∀ v, hb (bf x) v = true → hb A v = true) ∧ (∀ C : Nat → Prop, (∀ v, hb (bf b) v = true → C v) → (∀ x, x < n → C x → ∀ v, hb (bf x) v = true → C v) → ∀ v, hb A v = true → C v)
theorem CLo_eq {n b : Nat} {bf bf' : Nat → Int32} {A A' : Int32} (e : ∀ w, w < n → bf w = bf' w) (hbn : b < n) (h : CLo n bf b A) (h' : CLo n bf' b A') : ∀ v, hb A v = hb A' v := fun v =>
  Bool.eq_iff_iff.mpr ⟨h.2.2 (fun v => hb A' v = true) (fun v hv => h'.1 v (by rw [← e b hbn]; exact hv)) (fun x hx hc v hv => h'.2.1 x hx hc v (by rw [← e x hx]; exact hv)) v, h'.2.2 (fun v => hb A v = true) (fun v hv => h.1 v (by rw [e b hbn]; exact hv)) (fun x hx hc v hv => h.2.1 x hx hc v (by rw [e x hx]; exact hv)) v⟩
theorem sX_comesAhead {n a b : Nat} {μ : Mem} {post : Int32 → Mem → Prop} (h : WK n μ) (ha : a < 9) (hb9 : b < 9) (hlo : ∀ w, w < n → lo n (μ 15 w)) (hlb : lo n (μ 15 b)) (k : ∀ A, CLo n (μ 15) b A → post (if hb A a then 1 else 0) μ) : T_X10_comesAhead (nI a) (nI b) μ post := by
  obtain ⟨hn, h9, -⟩ := h
  refine ⟨in9 hb9 (by omega), ?_⟩
  rw [cl9 (show b < 1000000 by omega)]
  intro P hP
  have H : ∀ j, j ≤ n → ∀ y, lo n y → (∀ v, hb (μ 15 b) v = true → hb y v = true) → ((∀ x, x < n → hb y x = true → ∀ v, hb (μ 15 x) v = true → hb y v = true) ∨ j ≤ cnt n (hb y)) → (∀ C : Nat → Prop, (∀ v, hb (μ 15 b) v = true → C v) → (∀ x, x < n → C x → ∀ v, hb (μ 15 x) v = true → C v) → ∀ v, hb y v = true → C v) → P (nI a) y (nI j) μ := by
    refine down_ind (fun y hl h1 h2 h3 => hP _ _ _ _ (br_t (by rw [hn]; exact nI_self_le n) ?_)) (fun j hj ih y hl h1 h2 h3 => hP _ _ _ _ (br_f (by rw [hn]; exact nI_ge hj (by omega)) ?_))
    · have h2' : ∀ x, x < n → hb y x = true → ∀ v, hb (μ 15 x) v = true → hb y v = true := by
        rcases h2 with q | q
        · exact q
        · intro x hx _ v hv
          rcases Nat.lt_or_ge v n with t | t
          · exact cnt_all (by have := cnt_le n (hb y); omega) v t
          · rw [hlo x hx v t] at hv; exact absurd hv (by decide)
      have hk := k y ⟨h1, h2', h3⟩
      rw [bit_z y (show a < 32 by omega)]
      refine ⟨fun q => ?_, fun q => ?_⟩
      · rw [q] at hk; exact hk
      · have q1 : hb y a = true := by
          cases p : hb y a
          · exact absurd p q
          · rfl
        rw [q1] at hk; exact hk
    · intro P2 hP2
      have H2 : ∀ i, i ≤ n → ∀ y2, lo n y2 → (∀ v, hb y v = true → hb y2 v = true) → (∀ t, t < i → hb y t = true → ∀ v, hb (μ 15 t) v = true → hb y2 v = true) → (∀ C : Nat → Prop, (∀ v, hb (μ 15 b) v = true → C v) → (∀ x, x < n → C x → ∀ v, hb (μ 15 x) v = true → C v) → ∀ v, hb y2 v = true → C v) → P2 (nI a) y2 (nI j) (nI i) μ := by
        refine down_ind (fun y2 g0 g1 g2 g3 => hP2 _ _ _ _ _ (br_t (by rw [hn]; exact nI_self_le n) ?_)) (fun i hi ih2 y2 g0 g1 g2 g3 => hP2 _ _ _ _ _ (br_f (by rw [hn]; exact nI_ge hi (by omega)) ?_))
        · rw [nI_1]
          refine ih y2 g0 (fun v hv => g1 v (h1 v hv)) ?_ g3
          by_cases hnew : ∃ v, v < n ∧ hb y2 v = true ∧ hb y v = false
          · obtain ⟨v, hv, p1, p2⟩ := hnew
            right
            rcases h2 with hc | hc
            · have := g3 (fun v => hb y v = true) h1 hc v p1
              rw [p2] at this; exact absurd this (by decide)
            · have := cnt_lt (fun i _ => g1 i) hv p1 p2
              omega
          · left
            have hs : ∀ v, hb y2 v = true → hb y v = true := fun v hv => by
              rcases Nat.lt_or_ge v n with q | q
              · cases p : hb y v
                · exact absurd ⟨v, q, hv, p⟩ hnew
                · rfl
              · rw [g0 v q] at hv; exact absurd hv (by decide)
            exact fun x hx hxy v hv => g2 x hx (hs x hxy) v hv
        · rw [nI_1, bit_z y2 (show i < 32 by omega)]
          refine ⟨fun q => ih2 y2 g0 g1 (fun t ht hy v hv => ?_) g3, fun q => ⟨in9 (by omega) (by omega), ?_⟩⟩
          · by_cases e : t = i
            · subst e; rw [g1 t hy] at q; exact absurd q (by decide)
            · exact g2 t (by omega) hy v hv
          · rw [cl9 (show i < 1000000 by omega)]
            have q1 : hb y2 i = true := by
              cases p : hb y2 i
              · exact absurd p q
              · rfl
            refine ih2 _ (lo_or g0 (hlo i hi)) (fun v hv => by rw [hb_or, g1 v hv]; rfl) (fun t ht hy v hv => ?_) (fun C c1 c2 v hv => ?_)
            · rw [hb_or]
              by_cases e : t = i
              · subst e; rw [hv, Bool.or_true]
              · rw [g2 t (by omega) hy v hv, Bool.true_or]
            · rw [hb_or, Bool.or_eq_true] at hv
              rcases hv with hv | hv
              · exact g3 C c1 c2 v hv
              · exact c2 i hi (g3 C c1 c2 i q1) v hv
      exact H2 0 (Nat.zero_le _) y hl (fun _ q => q) (fun t ht => absurd ht (by omega)) h3
  exact H 0 (Nat.zero_le _) _ hlb (fun _ q => q) (Or.inr (Nat.zero_le _)) (fun C c1 _ v hv => c1 v hv)
theorem sX_turnBefore2 {b : Nat} {x : Int32} {μ : Mem} {post : Mem → Prop} (hb : b < 9) (k : ∀ μ', Fr (fun q => q = 13 ∨ q = 15) μ μ' → μ' 13 4 = μ 13 4 → μ' 15 = upd (μ 15) b ((μ 15 b) ^^^ ((1 : Int32) <<< (x &&& 31))) → μ' 13 5 = μ 13 5 + 1 → post μ') : T_X10_turnBefore x (nI b) μ post := by
  obtain ⟨a, b', c⟩ := sX_turnBefore (x := x) (post := fun μ' => μ' 13 5 = μ 13 5 + 1 → post μ') hb (fun μ' f e1 e2 e3 => k μ' f e1 e2 e3)
  refine ⟨a, b', c ?_⟩
  rw [m2, pk_us]
  unfold mset
  rw [mput_o (by decide)]
theorem xor_or {x : Int32} {i : Nat} (hi : i < 32) (h : hb x i = false) : x ^^^ ((1 : Int32) <<< (nI i &&& 31)) = x ||| ((1 : Int32) <<< (nI i &&& 31)) := by
  apply hb_ext
  intro k hk
  rw [hb_xor, hb_or, hb_shl hi]
  by_cases e : k = i
  · subst e; rw [h]; cases decide (k = k) <;> rfl
  · rw [decide_eq_false e]; cases hb x k <;> rfl
theorem xor_andn {x : Int32} {i : Nat} (hi : i < 32) (h : hb x i = true) : x ^^^ ((1 : Int32) <<< (nI i &&& 31)) = x &&& (((1 : Int32) <<< (nI i &&& 31)) ^^^ (-1)) := by
  apply hb_ext
  intro k hk
  rw [hb_xor, hb_andn, hb_shl hi]
  by_cases e : k = i
  · subst e; rw [h]; cases decide (k = k) <;> rfl
  · rw [decide_eq_false e]; cases hb x k <;> rfl
theorem AC_add {n i j : Nat} {A : Int32} {bf : Nat → Int32} (h : AC n bf) (hn : n ≤ 9) (hi : i < n) (hij : i ≠ j) (hA : CLo n bf i A) (hj0 : hb A j = false) : AC n (upd bf j (bf j ||| ((1 : Int32) <<< (nI i &&& 31)))) := by
  refine ⟨?_, fun w hw => ?_⟩
  · refine Acyc_add (w := i) (o := j) (A := fun v => hb A v = true) h.1 hi (fun v _ hv => hA.1 v hv) (fun x hx hAx v _ hv => hA.2.1 x hx hAx v hv) (fun t => by rw [hj0] at t; exact absurd t (by decide)) hij (fun x hx v hv hbv => ?_)
    by_cases e : x = j
    · subst e
      rw [pk_us, hb_or, hb_shl (by omega), Bool.or_eq_true] at hbv
      rcases hbv with q | q
      · exact Or.inl q
      · exact Or.inr ⟨rfl, of_decide_eq_true q⟩
    · rw [pk_un e] at hbv; exact Or.inl hbv
  · by_cases e : w = j
    · subst e; rw [pk_us]; exact lo_or (h.2 w hw) (lo_shl hi (by omega))
    · rw [pk_un e]; exact h.2 w hw
theorem AC_sub {n j : Nat} {y : Int32} {bf : Nat → Int32} (h : AC n bf) : AC n (upd bf j (bf j &&& y)) := by
  refine ⟨Acyc_sub h.1 (fun x hx v hv hbv => ?_), fun w hw => ?_⟩
  · by_cases e : x = j
    · subst e
      rw [pk_us, hb_and, Bool.and_eq_true] at hbv
      exact hbv.1
    · rw [pk_un e] at hbv; exact hbv
  · by_cases e : w = j
    · subst e; rw [pk_us]; exact lo_and (h.2 w hw) _
    · rw [pk_un e]; exact h.2 w hw
theorem tw_before {n m m' : Nat} {z1 z2 : Nat → Nat} {μX μM : Mem} {x1 x2 x3 : Int32} {G : Int32 → Mem → Prop → Prop} {Q : Int32 → Int32 → Mem → Mem → Prop} (hG : ∀ r μ T, T → G r μ T) (h3 : x3 = 0 ∨ x3 = 1) (hX : IX n m z1 z2 μX) (hM : IM n m' μM) (hK : RK n z1 z2 μX μM) (k1 : ∀ r, Q r r μX μM)
    (k2 : ∀ r μ1 μ2, IX n m z1 z2 μ1 → IM n m' μ2 → RK n z1 z2 μ1 μ2 → Fr (fun q => q = 13 ∨ q = 15) μX μ1 → Fr (fun q => q = 5) μM μ2 → μ1 13 5 = μX 13 5 + 1 → Q r r μ1 μ2) : T_X11_before x1 x2 x3 μX (fun r μ1 => G r μ1 (T_X12_before x1 x2 x3 μM (fun r2 μ2 => Q r r2 μ1 μ2))) := by
  have h9 := xN hX
  have hn := xW hX
  rcases in_or x1 n (by omega) with ho | ⟨i, hi, rfl⟩
  · exact sX_wHas hn h9 (fun _ => br_t rfl (hG _ _ _ (sM_isWork hM.1 (fun _ => br_t rfl (k1 _)) (fun j hj e => absurd e (ho j hj))))) (fun j hj e => absurd e (ho j hj))
  refine sX_wHas hn h9 (fun q => absurd rfl (q i hi)) (fun _ _ _ => br_f n10 ?_)
  rcases in_or x2 n (by omega) with ho | ⟨j, hj, rfl⟩
  · exact sX_wHas hn h9 (fun _ => rb_f rfl (hG _ _ _ (sM_isWork hM.1 (fun q => absurd rfl (q i hi)) (fun _ _ _ => br_f n10 (sM_isWork hM.1 (fun _ => rb_f rfl (k1 _)) (fun j hj e => absurd e (ho j hj))))))) (fun j hj e => absurd e (ho j hj))
  refine sX_wHas hn h9 (fun q => absurd rfl (q j hj)) (fun _ _ _ => rb_t n10 ?_)
  by_cases hij : i = j
  · subst hij
    exact rb_f rfl (hG _ _ _ (sM_isWork hM.1 (fun q => absurd rfl (q i hi)) (fun _ _ _ => br_f n10 (sM_isWork hM.1 (fun q => absurd rfl (q i hi)) (fun _ _ _ => rb_t n10 (rb_f rfl (k1 _)))))))
  have hne : ¬ nI i = nI j := fun q => hij ((nI_eq (by omega) (by omega)).mp q)
  have i1 := in9 (show j < 9 by omega) (show 9 < 1000000 by omega)
  have ecl := cl9 (show j < 1000000 by omega)
  refine rb_t hne (sX_isBefore (by omega) (by omega) ?_)
  have e5 := (hK.1 j hj).2
  have ebf : ∀ w, w < n → μX 15 w = μM 5 w := fun w hw => (hK.1 w hw).2
  have fin : ∀ r μ1 v, Fr (fun q => q = 13 ∨ q = 15) μX μ1 → μ1 13 4 = μX 13 4 → μ1 15 = upd (μX 15) j v → μ1 13 5 = μX 13 5 + 1 → AC n (upd (μM 5) j v) → Q r r μ1 (mset μM 5 j v) := by
    intro r μ1 v hf e4 e15 ev hac
    refine k2 r μ1 _ (IX_1315 hX hf e4) (IM_5 hM (Fr_put _ _ rfl) (by rw [m2]; exact hac)) ⟨fun w hw => ?_, fun t ht => ?_⟩ hf (Fr_put _ _ rfl) ev
    · rw [hf 14 (by omega), e15]
      have e4' : (mset μM 5 j v) 4 = μM 4 := mput_o (by decide)
      rw [e4', m2]
      by_cases e : w = j
      · subst e; rw [pk_us, pk_us]; exact ⟨(hK.1 w hw).1, rfl⟩
      · rw [pk_un e, pk_un e]; exact hK.1 w hw
    · unfold mset; rw [mput_o (by decide), mput_o (by decide)]; exact hK.2 t ht
  cases p : hb (μX 15 j) i
  · have p' : hb (μM 5 j) i = false := by rw [← e5]; exact p
    rcases h3 with rfl | rfl
    · refine rb_f rfl (hG _ _ _ (sM_isWork hM.1 (fun q => absurd rfl (q i hi)) (fun _ _ _ => br_f n10 (sM_isWork hM.1 (fun q => absurd rfl (q j hj)) (fun _ _ _ => rb_t n10 (rb_t hne ⟨i1, ?_⟩))))))
      rw [ecl]
      exact sM_hasB (by omega) (fun _ => rb_f rfl (k1 _)) (fun q => absurd (p'.symm.trans q) (by decide))
    · refine rb_t (by decide) (br_f n10 (sX_comesAhead hX.1 (by omega) (by omega) (fun w hw => by rw [ebf w hw]; exact hM.2.1.2 w hw) (by rw [ebf i hi]; exact hM.2.1.2 i hi) (fun A hA => ?_)))
      cases pj : hb A j
      · refine br_t rfl (sX_turnBefore2 (by omega) (fun μ1 hf e4 e15 ev => hG _ _ _ (sM_isWork hM.1 (fun q => absurd rfl (q i hi)) (fun _ _ _ => br_f n10 (sM_isWork hM.1 (fun q => absurd rfl (q j hj)) (fun _ _ _ => rb_t n10 (rb_t hne ⟨i1, ?_⟩)))))))
        rw [ecl]
        refine sM_hasB (by omega) (fun _ => rb_t (by decide) (br_f n10 (sM_aheadOf hM.1 (by omega) (fun A' a1 a2 a3 => ?_)))) (fun q => absurd (p'.symm.trans q) (by decide))
        have eA := CLo_eq ebf hi hA ⟨a1, a2, a3⟩ j
        refine sM_hasB (by omega) (fun q => br_t rfl (br_f n10 ⟨i1, i1, ?_⟩)) (fun q => absurd ((pj.symm.trans eA).trans q) (by decide))
        rw [ecl]
        refine fin 1 μ1 _ hf e4 ?_ ev (AC_add hM.2.1 h9 hi hij ⟨a1, a2, a3⟩ q)
        rw [e15, xor_or (by omega) p, e5]
      · refine br_f n10 (hG _ _ _ (sM_isWork hM.1 (fun q => absurd rfl (q i hi)) (fun _ _ _ => br_f n10 (sM_isWork hM.1 (fun q => absurd rfl (q j hj)) (fun _ _ _ => rb_t n10 (rb_t hne ⟨i1, ?_⟩))))))
        rw [ecl]
        refine sM_hasB (by omega) (fun _ => rb_t (by decide) (br_f n10 (sM_aheadOf hM.1 (by omega) (fun A' a1 a2 a3 => ?_)))) (fun q => absurd (p'.symm.trans q) (by decide))
        have eA := CLo_eq ebf hi hA ⟨a1, a2, a3⟩ j
        exact sM_hasB (by omega) (fun q => absurd ((q.symm.trans eA.symm).trans pj) (by decide)) (fun _ => br_f n10 (k1 _))
  · have p' : hb (μM 5 j) i = true := by rw [← e5]; exact p
    rcases h3 with rfl | rfl
    · refine rb_t n10 (br_t rfl (sX_turnBefore2 (by omega) (fun μ1 hf e4 e15 ev => hG _ _ _ (sM_isWork hM.1 (fun q => absurd rfl (q i hi)) (fun _ _ _ => br_f n10 (sM_isWork hM.1 (fun q => absurd rfl (q j hj)) (fun _ _ _ => rb_t n10 (rb_t hne ⟨i1, ?_⟩))))))))
      rw [ecl]
      refine sM_hasB (by omega) (fun q => absurd (q.symm.trans p') (by decide)) (fun _ => rb_t n10 (br_t rfl (br_t rfl ⟨i1, i1, ?_⟩)))
      rw [ecl]
      refine fin 1 μ1 _ hf e4 ?_ ev (AC_sub hM.2.1)
      rw [e15, xor_andn (by omega) p, e5]
    · refine rb_f rfl (hG _ _ _ (sM_isWork hM.1 (fun q => absurd rfl (q i hi)) (fun _ _ _ => br_f n10 (sM_isWork hM.1 (fun q => absurd rfl (q j hj)) (fun _ _ _ => rb_t n10 (rb_t hne ⟨i1, ?_⟩))))))
      rw [ecl]
      exact sM_hasB (by omega) (fun q => absurd (q.symm.trans p') (by decide)) (fun _ => rb_f rfl (k1 _))
theorem tw_thing {n m m' : Nat} {z1 z2 : Nat → Nat} {μX μM : Mem} {x1 x2 x3 : Int32} {G : Prop → Prop} {Q : Int32 → Int32 → Mem → Mem → Prop} (hG : ∀ T, T → G T) (hX : IX n m z1 z2 μX) (hM : IM n m' μM) (hK : RK n z1 z2 μX μM) (k1 : ∀ r, Q r r μX μM)
    (k2 : ∀ r r2 z1' μ1 μ2, r = r2 → IX n m z1' z2 μ1 → IM n m' μ2 → RK n z1' z2 μ1 μ2 → Fr (fun q => q = 13 ∨ q = 17 ∨ q = 18) μX μ1 → Fr (fun q => q = 6) μM μ2 → μ1 13 5 = μX 13 5 + 1 → Q r r2 μ1 μ2)
    (k3 : ∀ r r2 z2' μ1 μ2, r = r2 → IX n m z1 z2' μ1 → IM n m' μ2 → RK n z1 z2' μ1 μ2 → Fr (fun q => q = 20 ∨ q = 21) μX μ1 → Fr (fun q => q = 7) μM μ2 → Q r r2 μ1 μ2) : T_X11_thing x1 x2 x3 μX (fun r μ1 => G (T_X12_thing x1 x2 x3 μM (fun r2 μ2 => Q r r2 μ1 μ2))) := by
  rcases in_or x1 10 (by omega) with ho | ⟨t, ht, rfl⟩
  · have mno : ∀ post2 : Int32 → Mem → Prop, post2 (-1) μM → T_X12_thing x1 x2 x3 μM post2 := fun post2 hq => sM_in0 (L := 9) (by omega) (fun _ => rb_f rfl hq) (fun j hj e => absurd e (ho j hj))
    refine ⟨fun _ => hG _ (mno _ (k1 _)), fun q1 => ⟨fun q2 => ?_, fun _ => hG _ (mno _ (k1 _))⟩⟩
    obtain ⟨t, ht, rfl⟩ := nI_of q1
    exact absurd rfl (ho t ((nI_ltI ht (by omega)).mp q2))
  have i1 := in9 ht (show 10 < 1000000 by omega)
  have ecl := cl9 (show t < 1000000 by omega)
  refine br_f (nI_pos (by omega)) (br_t (nI_lt (b := 10) ht (by omega)) ?_)
  by_cases h0 : x2 = 0
  · subst h0
    have h37 : (x3 < 1 ∨ 9 < x3) → T_X11_thing_37 (fun r μ1 => G (T_X12_thing (nI t) 0 x3 μM (fun r2 μ2 => Q r r2 μ1 μ2))) (nI t) 0 x3 μX := fun ho => rb_t (by decide) (hG _ (sM_in0 (L := 9) (by omega) (fun q => absurd rfl (q t ht)) (fun _ _ _ => rb_t n10 (sM_in0 (L := 1) (by omega) (fun q => absurd rfl (q 0 (by omega))) (fun _ _ _ => br_f n10 (rb_f rfl (rb_f rfl (sM_isIn (fun _ => rb_f rfl (k1 _)) (fun q5 q6 => (ho.elim q5 q6).elim)))))))))
    refine rb_f rfl ⟨fun q => h37 (Or.inl q), fun q3 => ⟨fun q => h37 (Or.inr q), fun q4 => ?_⟩⟩
    obtain ⟨v, hv, rfl⟩ := rngI 1 9 (by omega) q3 q4 (by omega)
    have h1 : IX n m z1 z2 (mset μX 13 5 ((μX 13 5) + 1)) := IX_1315 hX (Fr_put _ _ (Or.inl rfl)) (by rw [m2, pk_un (by decide)])
    refine sX_change (Or.inl rfl) h1.2.1 ht (by omega) (fun μ2 hf2 hz2 => hG _ (sM_in0 (L := 9) (by omega) (fun q => absurd rfl (q t ht)) (fun _ _ _ => rb_t n10 (sM_in0 (L := 1) (by omega) (fun q => absurd rfl (q 0 (by omega))) (fun _ _ _ => br_f n10 (rb_f rfl (rb_f rfl (sM_isIn (fun q => (q.elim q3 q4).elim) (fun _ _ => rb_t n10 (rb_f rfl ⟨i1, rb_f rfl ⟨i1, ?_⟩⟩))))))))))
    have gX : Fr (fun q => q = 13 ∨ q = 17 ∨ q = 18) μX μ2 := Fr_tr (Fr_put _ _ (Or.inl rfl)) (Fr_mono hf2 (fun k q => by omega))
    rw [ecl]
    refine k2 _ _ (zup z1 t (1 + v)) μ2 _ ?_ (IX_sc h1 (Fr_mono hf2 (fun k q => by omega)) hz2 (ScR_fr h1.2.2.1 hf2 (by omega) (by omega))) (IM_6 hM (by omega)) ⟨fun w hw => ?_, fun t' ht' => ?_⟩ gX (Fr_put _ _ rfl) ?_
    · exact ((hK.2 t ht).1).symm
    · rw [gX 14 (by omega), gX 15 (by omega)]
      unfold mset; rw [mput_o (by decide), mput_o (by decide)]; exact hK.1 w hw
    · have e7 : (mset μM 6 t (nI (1 + v))) 7 = μM 7 := mput_o (by decide)
      rw [e7, m2]
      unfold zup
      by_cases e : t' = t
      · subst e; rw [pk_us, if_pos rfl]; exact ⟨rfl, (hK.2 t' ht').2⟩
      · rw [pk_un e, if_neg e]; exact hK.2 t' ht'
    · rw [hf2 13 (by omega), m2, pk_us]
  by_cases h1 : x2 = 1
  · subst h1
    have mno : (x3 < 0 ∨ 99 < x3) → ∀ post2 : Int32 → Mem → Prop, post2 (-2) μM → T_X12_thing (nI t) 1 x3 μM post2 := fun ho post2 hq => sM_in0 (L := 9) (by omega) (fun q => absurd rfl (q t ht)) (fun _ _ _ => rb_t n10 (sM_in0 (L := 1) (by omega) (fun q => absurd rfl (q 1 (by omega))) (fun _ _ _ => br_f n10 (rb_t n10 (rb_t n10 (sM_isIn (fun _ => rb_f rfl hq) (fun q5 q6 => (ho.elim q5 q6).elim)))))))
    refine rb_t n10 (rb_f rfl ⟨fun q => hG _ (mno (Or.inl q) _ (k1 _)), fun q3 => ⟨fun q => hG _ (mno (Or.inr q) _ (k1 _)), fun q4 => ?_⟩⟩)
    obtain ⟨v, hv, rfl⟩ := rngI 0 99 (by omega) q3 q4 (by omega)
    refine sX_change (Or.inr rfl) hX.2.2.1 ht (by omega) (fun μ2 hf2 hz2 => hG _ (sM_in0 (L := 9) (by omega) (fun q => absurd rfl (q t ht)) (fun _ _ _ => rb_t n10 (sM_in0 (L := 1) (by omega) (fun q => absurd rfl (q 1 (by omega))) (fun _ _ _ => br_f n10 (rb_t n10 (rb_t n10 (sM_isIn (fun q => (q.elim q3 q4).elim) (fun _ _ => rb_t n10 (rb_t n10 ⟨i1, rb_t n10 ⟨i1, ?_⟩⟩))))))))))
    have gX : Fr (fun q => q = 20 ∨ q = 21) μX μ2 := Fr_mono hf2 (fun k q => by omega)
    rw [ecl]
    refine k3 _ _ (zup z2 t (0 + v)) μ2 _ ?_ (IX_sc hX (Fr_mono hf2 (fun k q => by omega)) (ScR_fr hX.2.1 hf2 (by omega) (by omega)) hz2) (IM_free hM (Fr_put _ _ (by unfold freM; omega))) ⟨fun w hw => ?_, fun t' ht' => ?_⟩ gX (Fr_put _ _ rfl)
    · exact ((hK.2 t ht).2).symm
    · rw [gX 14 (by omega), gX 15 (by omega)]
      unfold mset; rw [mput_o (by decide), mput_o (by decide)]; exact hK.1 w hw
    · have e6 : (mset μM 7 t (nI (0 + v))) 6 = μM 6 := mput_o (by decide)
      rw [e6, m2]
      unfold zup
      by_cases e : t' = t
      · subst e; rw [pk_us, if_pos rfl]; exact ⟨(hK.2 t' ht').1, rfl⟩
      · rw [pk_un e, if_neg e]; exact hK.2 t' ht'
  · refine rb_t h0 (rb_t h1 (hG _ (sM_in0 (L := 9) (by omega) (fun q => absurd rfl (q t ht)) (fun _ _ _ => rb_t n10 (sM_in0 (L := 1) (by omega) (fun _ => br_t rfl (k1 _)) (fun j hj e => ?_))))))
    exfalso
    rcases (show j = 0 ∨ j = 1 by omega) with rfl | rfl
    · exact h0 e
    · exact h1 e
theorem tw_ofWork {n m m' : Nat} {z1 z2 : Nat → Nat} {μX μM : Mem} {x1 x2 : Int32} {G : Prop → Prop} {Q : Int32 → Int32 → Mem → Mem → Prop} (hG : ∀ T, T → G T) (hX : IX n m z1 z2 μX) (hM : IM n m' μM) (hK : RK n z1 z2 μX μM) (k1 : ∀ r r2, r = r2 → Q r r2 μX μM) : T_X11_ofWork x1 x2 μX (fun r μ1 => G (T_X12_ofWork x1 x2 μM (fun r2 μ2 => Q r r2 μ1 μ2))) := by
  have h9 := xN hX
  rcases in_or x1 n (by omega) with ho | ⟨i, hi, rfl⟩
  · exact sX_wHas (xW hX) h9 (fun _ => rb_f rfl (hG _ (sM_isWork hM.1 (fun _ => rb_f rfl (k1 _ _ rfl)) (fun j hj e => absurd e (ho j hj))))) (fun j hj e => absurd e (ho j hj))
  have i1 := in9 (show i < 9 by omega) (show 9 < 1000000 by omega)
  have ecl := cl9 (show i < 1000000 by omega)
  have mgo : ∀ post2 : Int32 → Mem → Prop, ((¬ x2 = 0 → ((¬ x2 = 1 → post2 (-2) μM) ∧ (x2 = 1 → vp_in (nI i) 9 ∧ post2 (μM 5 (nI i).toNatClampNeg) μM))) ∧ (x2 = 0 → vp_in (nI i) 9 ∧ post2 (μM 4 (nI i).toNatClampNeg) μM)) → T_X12_ofWork (nI i) x2 μM post2 := fun post2 hq => sM_isWork hM.1 (fun q => absurd rfl (q i hi)) (fun _ _ _ => rb_t n10 hq)
  refine sX_wHas (xW hX) h9 (fun q => absurd rfl (q i hi)) (fun _ _ _ => rb_t n10 ⟨fun q0 => ⟨fun q1 => hG _ (mgo _ (rb_t q0 (rb_t q1 (k1 _ _ rfl)))), fun q1 => ⟨i1, hG _ (mgo _ (rb_t q0 (rb_f q1 ⟨i1, k1 _ _ ?_⟩)))⟩⟩, fun q0 => ⟨i1, hG _ (mgo _ (rb_f q0 ⟨i1, k1 _ _ ?_⟩))⟩⟩)
  · rw [ecl]; exact (hK.1 i hi).2
  · rw [ecl]; exact (hK.1 i hi).1
