/-! the class's Search and Tables -/
theorem Fr_p {S : Nat → Prop} {μ0 μ : Mem} {q : Nat} {f : Nat → Int32} (h : Fr S μ0 μ) (hq : S q) : Fr S μ0 (mput μ q f) := Fr_tr h (Fr_put _ _ hq)
theorem mput_o {μ : Mem} {c k : Nat} {f : Nat → Int32} (h : c ≠ k) : mput μ c f k = μ k := mput_ne (fun e => h e.symm)
theorem m2 (μ : Mem) (c j : Nat) (v : Int32) : mset μ c j v c = upd (μ c) j v := mput_same _ _ _
theorem i512 : vp_in 0 512 := in9 (k := 0) (n := 512) (by omega) (by omega)
theorem i1024 : vp_in 0 1024 := in9 (k := 0) (n := 1024) (by omega) (by omega)
def sS (c : Nat) : Nat → Prop := fun k => c ≤ k ∧ k ≤ c + 5
/-- a search over a works -/
def SRa (c a : Nat) (μ : Mem) : Prop := a ≤ 9 ∧ μ c 6 = nI a ∧ μ c 7 = nI (2 ^ a - 1)
theorem SRa_of {c a : Nat} {μ μ' : Mem} (h : SRa c a μ) (e : μ' c = μ c) : SRa c a μ' := by unfold SRa; rw [e]; exact h
theorem SRa_p {c a q : Nat} {f : Nat → Int32} {μ : Mem} (h : SRa c a μ) (e : q ≠ c) : SRa c a (mput μ q f) := SRa_of h (mput_o e)
theorem shl_nI {w : Nat} (h : w < 10) : (1 : Int32) <<< (nI w &&& 31) = nI (2 ^ w) := by
  have : ∀ w, w < 10 → (1 : Int32) <<< (nI w &&& 31) = nI (2 ^ w) := by decide +kernel
  exact this w h
theorem lo9n {d : Nat} (h : d < 512) : lo 9 (nI d) := nI_lo (n := 9) h (by decide)
theorem sX_mayCome {c w : Nat} {x : Int32} {μ : Mem} {post : Int32 → Mem → Prop} (hw : w < 9) (h0 : post 0 μ) (h1 : post 1 μ) : T_X6_mayCome c (nI w) x μ post := ⟨fun _ => h0, fun _ => ⟨in9 hw (by omega), fun _ => h0, fun _ => h1⟩⟩
theorem sX_wide {c w a : Nat} {z : Nat → Nat} {x : Int32} {μ : Mem} {post : Int32 → Mem → Prop} (hw : w < 9) (hx : lo 9 x) (hs : SRa c a μ) (hz : ScR 16 z μ) (k : ∀ v, v ≤ 990 → post (nI v) μ) : T_X6_wide c (nI w) x μ post := by
  obtain ⟨h9, -, h7⟩ := hs
  have hp := pow9 h9
  have hp1 : 1 ≤ 2 ^ a := Nat.one_le_two_pow
  refine ⟨lo_9 (lo_or hx (lo_shl hw (by decide))), lo_9 (lo_and ?_ _), sX_sumE hz (k _ (sum10_le hz.1 _))⟩
  rw [h7]
  exact lo9n (by omega)
theorem sX_fillLeast {c a : Nat} {z : Nat → Nat} {x1 : Int32} {μ : Mem} {post : Mem → Prop} (hc : isSearch c) (hs : SRa c a μ) (hz : ScR 16 z μ) (k : ∀ μ', Fr (sS c) μ μ' → SRa c a μ' → post μ') : T_X6_fillLeast c x1 μ post := by
  have hc' : c = 35 ∨ c = 41 := hc
  have h9 := hs.1
  have hp := pow9 h9
  have hp1 : 1 ≤ 2 ^ a := Nat.one_le_two_pow
  have q4 : sS c (c + 4) := by unfold sS; omega
  have H : ∀ P17 : Int32 → Int32 → Mem → Prop, (∀ (x1 : Int32) (x2 : Int32) (μ : Mem), B_X6_fillLeast_17 c post P17 x1 x2 μ → P17 x1 x2 μ) → ∀ d, d ≤ 511 → ∀ μ2, Fr (sS c) μ μ2 → SRa c a μ2 → P17 x1 (nI d - 1) μ2 := by
    intro P17 hP17 d
    induction d with
    | zero => exact fun _ μ2 hf h2 => hP17 _ _ _ (br_t (by decide) (k μ2 hf h2))
    | succ d ih =>
      intro hd μ2 hf h2
      rw [nI_pred]
      refine hP17 _ _ _ (br_f (nI_pos (by omega)) ?_)
      have hz2 := ScR_fr hz hf (by unfold sS; omega) (by unfold sS; omega)
      have hl := lo9n (show d < 512 by omega)
      intro P26 hP26
      have H2 : ∀ j, j ≤ a → ∀ x3, P26 x1 (nI d) x3 (nI j) μ2 := by
        refine down_ind (fun x3 => hP26 _ _ _ _ _ (br_t (by rw [h2.2.1]; exact nI_self_le a) ⟨in9 (by omega) (by omega), ?_⟩)) (fun j hj ih2 x3 => hP26 _ _ _ _ _ (br_f (by rw [h2.2.1]; exact nI_ge hj (by omega)) ?_))
        · rw [sub_m1]
          exact ih (by omega) _ (Fr_p hf q4) (SRa_p h2 (by omega))
        · rw [nI_1]
          have in1 := lo_9 (lo_or hl (lo_shl (show j < 9 by omega) (by decide)))
          exact sX_mayCome (by omega) ⟨fun _ => ih2 _, fun q => absurd rfl q⟩ ⟨fun q => absurd q (by decide), fun _ => ⟨in1, fun _ => ih2 _, fun _ => ⟨in1, sX_wide (by omega) hl h2 hz2 (fun v _ => ih2 _)⟩⟩⟩
      exact H2 0 (Nat.zero_le _) _
  refine ⟨by rw [hs.2.2]; exact in9 (by omega) (by omega), fun P17 hP17 => ?_⟩
  have e : (mset μ (c + 4) (μ c 7).toNatClampNeg 0) c 7 = nI (2 ^ a - 1) := by
    unfold mset
    rw [mput_o (by omega), hs.2.2]
  rw [e]
  exact H P17 hP17 _ (by omega) _ (Fr_p (Fr_rf _ _) q4) (SRa_p hs (by omega))
theorem sX_squeeze {c n : Nat} {x1 x2 : Int32} {μ : Mem} {post : Int32 → Mem → Prop} (hn : μ 13 4 = nI n) (h9 : n ≤ 9) (k : ∀ r, post r μ) : T_X6_squeeze c x1 x2 μ post := by
  intro P hP
  have H : ∀ j, j ≤ n → ∀ x3 x4, P x1 x2 x3 x4 (nI j) μ := by
    refine down_ind (fun x3 x4 => hP _ _ _ _ _ _ (br_t (by rw [hn]; exact nI_self_le n) (k _))) (fun j hj ih x3 x4 => hP _ _ _ _ _ _ (br_f (by rw [hn]; exact nI_ge hj (by omega)) ?_))
    rw [nI_1]
    exact ⟨fun _ => ih _ _, fun _ => ih _ _⟩
  exact H 0 (Nat.zero_le _) 0 0
theorem sX_load2 {c a : Nat} {μ0 μ : Mem} {post : Mem → Prop} (hc : isSearch c) (hf0 : Fr (sS c) μ0 μ) (hs : SRa c a μ) (k : ∀ μ', Fr (sS c) μ0 μ' → SRa c a μ' → post μ') : T_X6_load_109 c post 0 μ := by
  have hc' : c = 35 ∨ c = 41 := hc
  have h9 := hs.1
  have q3 : sS c (c + 3) := by unfold sS; omega
  intro P hP
  have H : ∀ w, w ≤ a → ∀ μ2, Fr (sS c) μ0 μ2 → SRa c a μ2 → P (nI w) μ2 := by
    refine down_ind (fun μ2 hf h2 => hP _ _ (br_t (by rw [h2.2.1]; exact nI_self_le a) (k μ2 hf h2))) (fun w hw ih μ2 hf h2 => hP _ _ (br_f (by rw [h2.2.1]; exact nI_ge hw (by omega)) ?_))
    rw [shl_nI (by omega)]
    have hpw : 2 ^ w ≤ 256 := Nat.le_trans (Nat.pow_le_pow_right (by decide) (show w ≤ 8 by omega)) (by decide)
    have l1 : lo 9 (nI (2 ^ w)) := lo9n (by omega)
    intro P2 hP2
    have H2 : ∀ s, s ≤ 2 ^ w → ∀ μ3, Fr (sS c) μ0 μ3 → SRa c a μ3 → P2 (nI w) (nI (2 ^ w)) (nI s) μ3 := by
      refine down_ind (fun μ3 hf h3 => hP2 _ _ _ _ (br_t (nI_self_le _) ?_)) (fun s hs2 ih2 μ3 hf h3 => hP2 _ _ _ _ (br_f (nI_ge hs2 (by omega)) ?_))
      · rw [nI_1]
        exact ih μ3 hf h3
      · rw [nI_1]
        exact ⟨in9 (by omega) (by omega), in9 (by omega) (by omega), lo_9 (lo_or (lo9n (by omega)) l1), ih2 _ (Fr_p hf q3) (SRa_p h3 (by omega))⟩
    exact H2 0 (Nat.zero_le _) μ2 hf h2
  exact H 0 (Nat.zero_le _) μ hf0 hs
theorem sX_load {c n : Nat} {x1 : Int32} {μ : Mem} {post : Mem → Prop} (hc : isSearch c) (h : WK n μ) (k : ∀ a μ', a ≤ n → Fr (sS c) μ μ' → SRa c a μ' → post μ') : T_X6_load c x1 μ post := by
  have hc' : c = 35 ∨ c = 41 := hc
  obtain ⟨hn, h9, -⟩ := h
  have q0 : sS c c := by unfold sS; omega
  have q1 : sS c (c + 1) := by unfold sS; omega
  have q2 : sS c (c + 2) := by unfold sS; omega
  have q3 : sS c (c + 3) := by unfold sS; omega
  intro P hP
  have H : ∀ j, j ≤ n → ∀ a μ2, a ≤ j → Fr (sS c) μ μ2 → μ2 c 6 = nI a → P x1 (nI j) μ2 := by
    refine down_ind (fun a μ2 ha hf h6 => ?_) (fun j hj ih a μ2 ha hf h6 => ?_)
    · have e : μ2 13 4 = nI n := by rw [hf 13 (by unfold sS; omega)]; exact hn
      refine hP _ _ _ (br_t (by rw [e]; exact nI_self_le n) ⟨i512, ?_⟩)
      refine sX_load2 hc (Fr_p (Fr_p (Fr_p hf q0) q0) q3) (a := a) (SRa_p ⟨by omega, ?_, ?_⟩ (by omega)) (fun μ' hf' hs => k a μ' ha hf' hs)
      · rw [m2, pk_un (by decide), m2, pk_un (by decide)]
        exact h6
      · rw [m2, pk_un (by decide), m2, pk_us, h6]
        exact all_eq (by omega)
    · have e : μ2 13 4 = nI n := by rw [hf 13 (by unfold sS; omega)]; exact hn
      have b1 := in9 (show j < 9 by omega) (by omega)
      refine hP _ _ _ (br_f (by rw [e]; exact nI_ge hj (by omega)) ?_)
      rw [nI_1]
      refine ⟨fun _ => ih a μ2 (by omega) hf h6, fun _ => ⟨b1, by rw [h6]; exact in9 (by omega) (by omega), b1, ?_⟩⟩
      have e6 : (mset μ2 (c + 1) (μ2 c 6).toNatClampNeg (μ2 14 (nI j).toNatClampNeg)) c 6 = nI a := by
        unfold mset
        rw [mput_o (by omega)]
        exact h6
      refine sX_squeeze (n := n) (by unfold mset; rw [mput_o (by omega)]; exact e) h9 (fun r => ⟨by rw [e6]; exact in9 (by omega) (by omega), ?_⟩)
      refine ih (a + 1) _ (by omega) (Fr_p (Fr_p (Fr_p hf q1) q2) q0) ?_
      rw [m2, pk_us]
      unfold mset at e6 ⊢
      rw [mput_o (by omega), e6, nI_1]
  refine H 0 (Nat.zero_le _) 0 _ (Nat.le_refl _) (Fr_p (Fr_rf _ _) q0) ?_
  rw [m2, pk_us]
  rfl
theorem sX_leastMost {c n : Nat} {z : Nat → Nat} {x1 x2 : Int32} {μ : Mem} {post : Int32 → Mem → Prop} (hc : isSearch c) (h : WK n μ) (hz : ScR 16 z μ) (k : ∀ r a μ', Fr (sS c) μ μ' → SRa c a μ' → post r μ') : T_X6_leastMost c x1 x2 μ post := by
  have hc' : c = 35 ∨ c = 41 := hc
  refine sX_load hc h (fun a μ1 ha hf1 hs1 => ?_)
  exact sX_fillLeast hc hs1 (ScR_fr hz hf1 (by unfold sS; omega) (by unfold sS; omega)) (fun μ2 hf2 hs2 => ⟨i512, k _ a _ (Fr_tr hf1 hf2) hs2⟩)
theorem sX_refresh6 {c n a : Nat} {z : Nat → Nat} {μ : Mem} {post : Mem → Prop} (hc : isSearch c) (h : WK n μ) (hz : ScR 16 z μ) (hs : SRa c a μ) (k : ∀ a μ', Fr (sS c) μ μ' → SRa c a μ' → post μ') : T_X6_refresh c μ post := by
  have hc' : c = 35 ∨ c = 41 := hc
  refine ⟨fun _ => k a μ (Fr_rf _ _) hs, fun _ => sX_all h.1 h.2.1 (sX_leastMost hc h hz (fun r b μ' hf hs' => k b _ (Fr_p hf (by unfold sS; omega)) ?_))⟩
  obtain ⟨h1, h2, h3⟩ := hs'
  refine ⟨h1, ?_, ?_⟩
  · rw [m2, pk_un (by decide)]; exact h2
  · rw [m2, pk_un (by decide)]; exact h3
theorem sX_leastMostUnbound {c n w : Nat} {z : Nat → Nat} {x1 : Int32} {μ : Mem} {post : Int32 → Mem → Prop} (hc : isSearch c) (h : WK n μ) (hz : ScR 16 z μ) (hw : w < 9) (k : ∀ r a μ', Fr (sS c) μ μ' → SRa c a μ' → post r μ') : T_X6_leastMostUnbound c x1 (nI w) μ post := by
  have hc' : c = 35 ∨ c = 41 := hc
  refine sX_all h.1 h.2.1 (sX_load hc h (fun a μ1 ha hf1 hs1 => ⟨in9 hw (by omega), in9 hw (by omega), ?_⟩))
  have hf2 : ∀ f, Fr (sS c) μ (mput μ1 (c + 2) f) := fun f => Fr_p hf1 (by unfold sS; omega)
  exact sX_fillLeast hc (SRa_p hs1 (by omega)) (ScR_fr hz (hf2 _) (by unfold sS; omega) (by unfold sS; omega)) (fun μ2 hf3 hs2 => ⟨i512, k _ a _ (Fr_tr (hf2 _) hf3) hs2⟩)
theorem sX_leastLong {c a d : Nat} {z : Nat → Nat} {μ : Mem} {post : Int32 → Mem → Prop} (hs : SRa c a μ) (hz : ScR 16 z μ) (hd : d < 512) (k : ∀ r, post r μ) : T_X6_leastLong c (nI d) μ post := by
  have h9 := hs.1
  have hl := lo9n hd
  intro P hP
  have H : ∀ j, j ≤ a → ∀ x2, P (nI d) x2 (nI j) μ := by
    refine down_ind (fun x2 => hP _ _ _ _ (br_t (by rw [hs.2.1]; exact nI_self_le a) (k _))) (fun j hj ih x2 => hP _ _ _ _ (br_f (by rw [hs.2.1]; exact nI_ge hj (by omega)) ?_))
    rw [nI_1]
    have in1 := lo_9 (lo_or hl (lo_shl (show j < 9 by omega) (by decide)))
    exact sX_mayCome (by omega) ⟨fun _ => ih _, fun q => absurd rfl q⟩ ⟨fun q => absurd q (by decide), fun _ => ⟨in1, fun _ => ih _, fun _ => sX_wide (by omega) hl hs hz (fun v _ => ⟨fun _ => ih _, fun _ => ⟨in1, ih _⟩⟩)⟩⟩
  exact H 0 (Nat.zero_le _) _
theorem sX_fillLongs {c a : Nat} {z : Nat → Nat} {x1 : Int32} {μ : Mem} {post : Mem → Prop} (hc : isSearch c) (hs : SRa c a μ) (hz : ScR 16 z μ) (k : ∀ μ', Fr (sS c) μ μ' → SRa c a μ' → post μ') : T_X6_fillLongs c x1 μ post := by
  have hc' : c = 35 ∨ c = 41 := hc
  have h9 := hs.1
  have hp := pow9 h9
  have hp1 : 1 ≤ 2 ^ a := Nat.one_le_two_pow
  have q5 : sS c (c + 5) := by unfold sS; omega
  have q0 : sS c c := by unfold sS; omega
  have hs1 : SRa c a (mset μ c 8 x1) := by
    obtain ⟨h1, h2, h3⟩ := hs
    refine ⟨h1, ?_, ?_⟩
    · rw [m2, pk_un (by decide)]; exact h2
    · rw [m2, pk_un (by decide)]; exact h3
  refine ⟨fun _ => ⟨by rw [hs1.2.2]; exact in9 (by omega) (by omega), fun P hP => ?_⟩, fun _ => k μ (Fr_rf _ _) hs⟩
  have H : ∀ d, d ≤ 511 → ∀ μ2, Fr (sS c) μ μ2 → SRa c a μ2 → P (nI d - 1) μ2 := by
    intro d
    induction d with
    | zero => exact fun _ μ2 hf h2 => hP _ _ (br_t (by decide) (k μ2 hf h2))
    | succ d ih =>
      intro hd μ2 hf h2
      rw [nI_pred]
      refine hP _ _ (br_f (nI_pos (by omega)) ?_)
      have hz2 := ScR_fr hz hf (by unfold sS; omega) (by unfold sS; omega)
      refine sX_leastLong h2 hz2 (by omega) (fun r => ⟨in9 (by omega) (by omega), ?_⟩)
      rw [sub_m1]
      exact ih (by omega) _ (Fr_p hf q5) (SRa_p h2 (by omega))
  have hs2 : SRa c a (mset (mset μ c 8 x1) (c + 5) ((mset μ c 8 x1) c 7).toNatClampNeg 0) := SRa_p hs1 (by omega)
  rw [hs2.2.2]
  exact H _ (by omega) _ (Fr_p (Fr_p (Fr_rf _ _) q0) q5) hs2
theorem sX_nextBehind {c a d : Nat} {z : Nat → Nat} {μ : Mem} {post : Int32 → Mem → Prop} (hs : SRa c a μ) (hz : ScR 16 z μ) (hd : d < 512) (k9 : post (-9) μ) (k : ∀ w, w < a → post (nI w) μ) : T_X6_nextBehind c (nI d) μ post := by
  have h9 := hs.1
  have hl := lo9n hd
  intro P hP
  have H : ∀ j, j ≤ a → P (nI d) (nI j) μ := by
    refine down_ind (hP _ _ _ (br_t (by rw [hs.2.1]; exact nI_self_le a) k9)) (fun j hj ih => hP _ _ _ (br_f (by rw [hs.2.1]; exact nI_ge hj (by omega)) ?_))
    rw [nI_1]
    have in1 := lo_9 (lo_or hl (lo_shl (show j < 9 by omega) (by decide)))
    exact sX_mayCome (by omega) ⟨fun _ => ih, fun q => absurd rfl q⟩ ⟨fun q => absurd q (by decide), fun _ => sX_wide (by omega) hl hs hz (fun v _ => ⟨fun _ => ih, fun _ => ⟨in1, in9 (by omega) (by omega), fun _ => ih, fun _ => k j hj⟩⟩)⟩
  exact H 0 (Nat.zero_le _)
theorem sX_longFrom {c a d : Nat} {z : Nat → Nat} {μ : Mem} {post : Int32 → Mem → Prop} (hc : isSearch c) (hs : SRa c a μ) (hz : ScR 16 z μ) (hd : d < 512) (k : ∀ r μ', Fr (sS c) μ μ' → SRa c a μ' → post r μ') : T_X6_longFrom c (nI d) μ post :=
  ⟨in9 (by omega) (by omega), sX_fillLongs hc hs hz (fun μ' hf hs' => ⟨in9 (by omega) (by omega), k _ μ' hf hs'⟩)⟩
theorem sX_nextFrom {c a d : Nat} {z : Nat → Nat} {μ : Mem} {post : Int32 → Mem → Prop} (hc : isSearch c) (hs : SRa c a μ) (hz : ScR 16 z μ) (hd : d < 512) (k : ∀ r μ', Fr (sS c) μ μ' → SRa c a μ' → post r μ') : T_X6_nextFrom c (nI d) μ post := by
  have hc' : c = 35 ∨ c = 41 := hc
  exact ⟨in9 (by omega) (by omega), sX_fillLongs hc hs hz (fun μ' hf hs' => sX_nextBehind hs' (ScR_fr hz hf (by unfold sS; omega) (by unfold sS; omega)) hd (k _ μ' hf hs') (fun w _ => k _ μ' hf hs'))⟩
theorem sX_workAt {c a p : Nat} {z : Nat → Nat} {μ : Mem} {post : Int32 → Mem → Prop} (hc : isSearch c) (hs : SRa c a μ) (hz : ScR 16 z μ) (hp : p < 1000) (k : ∀ r μ', Fr (sS c) μ μ' → SRa c a μ' → post r μ') : T_X6_workAt c (nI p) μ post := by
  have hc' : c = 35 ∨ c = 41 := hc
  refine ⟨i512, sX_fillLongs hc hs hz (fun μ1 hf hs1 => ?_)⟩
  have hz1 := ScR_fr hz hf (by unfold sS; omega) (by unfold sS; omega)
  have h9 := hs.1
  intro P hP
  have H : ∀ j, j ≤ p → ∀ d, d < 512 → P (nI p) (nI d) (nI j) μ1 := by
    refine down_ind (fun d hd => hP _ _ _ _ (br_t (nI_self_le p) ?_)) (fun j hj ih d hd => hP _ _ _ _ (br_f (nI_ge hj (by omega)) ?_))
    · exact sX_nextBehind hs1 hz1 hd (k _ _ hf hs1) (fun w _ => k _ _ hf hs1)
    · rw [nI_1]
      refine sX_nextBehind hs1 hz1 hd ⟨fun q => absurd rfl q, fun _ => k _ _ hf hs1⟩ (fun w hw => ⟨fun _ => ?_, fun _ => k _ _ hf hs1⟩)
      obtain ⟨b, hb, e⟩ := lo_nI (lo_or (lo9n hd) (lo_shl (show w < 9 by omega) (by decide)))
      rw [e]
      exact ih b hb
  exact H 0 (Nat.zero_le _) 0 (by omega)
theorem sX_divide {n a : Nat} {z : Nat → Nat} {μ : Mem} {post : Mem → Prop} (h : WK n μ) (hz : ScR 16 z μ) (hs : SRa 41 a μ) (k : ∀ a μ', Fr (fun q => sS 41 q ∨ q = 56) μ μ' → SRa 41 a μ' → post μ') : T_X8_divide μ post := by
  have h9 := h.2.1
  have hp := pow9 h9
  have hp1 : 1 ≤ 2 ^ n := Nat.one_le_two_pow
  have hc : isSearch 41 := Or.inr rfl
  refine sX_all h.1 h9 (sX_greatestNeed h.1 h9 (fun u3 => ?_))
  intro P hP
  have q56 : (fun q => sS 41 q ∨ q = 56) 56 := Or.inr rfl
  have H : ∀ f j, 2 ^ n ≤ j + 2 * f → j < 600 → ∀ x3 a μ2, Fr (fun q => sS 41 q ∨ q = 56) μ μ2 → SRa 41 a μ2 → P (nI (2 ^ n - 1)) u3 x3 (nI j) μ2 := by
    intro f
    induction f with
    | zero => exact fun j hj hj2 x3 a μ2 hf hs2 => hP _ _ _ _ _ (br_t (nI_lt (by omega) (by omega)) (k a μ2 hf hs2))
    | succ f ih =>
      intro j hj hj2 x3 a μ2 hf hs2
      refine hP _ _ _ _ _ (pk_lt (2 ^ n - 1) j (fun _ => k a μ2 hf hs2) (fun hle => ⟨fun _ => k a μ2 hf hs2, fun _ => ?_⟩))
      rw [show nI j + 2 = nI (j + 2) from nI_add j 2]
      have hw2 := WK_fr h hf (by unfold sS; omega) (by unfold sS; omega)
      have hz2 := ScR_fr hz hf (by unfold sS; omega) (by unfold sS; omega)
      refine sX_leastMost hc hw2 hz2 (fun r b μ3 hf3 hs3 => ?_)
      have hf3' := Fr_tr hf (Fr_mono hf3 (fun k hk => Or.inl hk))
      refine ⟨fun _ => ih _ (by omega) (by omega) _ b _ hf3' hs3, fun _ => ?_⟩
      have hw3 := WK_fr h hf3' (by unfold sS; omega) (by unfold sS; omega)
      have hz3 := ScR_fr hz hf3' (by unfold sS; omega) (by unfold sS; omega)
      refine sX_leastMost hc hw3 hz3 (fun r2 b2 μ4 hf4 hs4 => ?_)
      have hf4' := Fr_tr hf3' (Fr_mono hf4 (fun k hk => Or.inl hk))
      exact ⟨fun _ => ih _ (by omega) (by omega) _ b2 _ hf4' hs4, fun _ => ih _ (by omega) (by omega) _ b2 _ (Fr_p (Fr_p (Fr_p hf4' q56) q56) q56) (SRa_p (SRa_p (SRa_p hs4 (by decide)) (by decide)) (by decide))⟩
  exact H 512 1 (by omega) (by omega) _ a μ (Fr_rf _ _) hs
theorem sX_refresh8 {n a : Nat} {z : Nat → Nat} {μ : Mem} {post : Mem → Prop} (h : WK n μ) (hz : ScR 16 z μ) (hs : SRa 41 a μ) (k : ∀ a μ', Fr (fun q => sS 41 q ∨ q = 56) μ μ' → SRa 41 a μ' → post μ') : T_X8_refresh μ post :=
  ⟨fun _ => k a μ (Fr_rf _ _) hs, fun _ => sX_divide h hz hs (fun b μ' hf hs' => k b _ (Fr_p hf (Or.inr rfl)) (SRa_p hs' (by decide)))⟩
