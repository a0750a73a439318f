/-! from: both sides alike -/
theorem eX_setOfFirst {o t n : Nat} {μ : Mem} {post : Int32 → Mem → Prop} (ho : o < 8) (ht : t ≤ n) (h9 : n ≤ 9) (k : post (dnF (μ (25 + o)) t) μ) : T_X3_setOfFirst (nI o) (nI t) μ post := by
  intro P hP
  have H : ∀ q, q ≤ t → P (nI o) (nI t) (dnF (μ (25 + o)) q) (nI q) μ := by
    refine down_ind (hP _ _ _ _ _ (br_t (nI_self_le t) k)) (fun q hq ih => hP _ _ _ _ _ (br_f (nI_ge hq (by omega)) ⟨in9 ho (by omega), in9 (by omega) (by omega), ?_⟩))
    rw [nI_1, cl9 (show o < 1000000 by omega), cl9 (show q < 1000000 by omega)]
    exact ih
  exact H 0 (Nat.zero_le _)
/-- each of the first t works has its befores among them -/
def FCl (bf row : Nat → Int32) (t : Nat) : Prop := ∀ q, q < t → bf (row q).toNatClampNeg &&& (dnF row t ^^^ (-1)) = 0
theorem FCl_cong {bf bf' row row' : Nat → Int32} {t : Nat} (he : ∀ k, k < t → row k = row' k) (hn : ∀ k, k < t → bf (row k).toNatClampNeg = bf' (row k).toNatClampNeg) (h : FCl bf row t) : FCl bf' row' t := fun q hq => by
  rw [← dnF_cong t he, ← he q hq, ← hn q hq]
  exact h q hq
theorem FCl_clo {n t : Nat} {bf row : Nat → Int32} (h9 : n ≤ 9) (ht : t ≤ n) (hv : ∀ k, k < n → ∃ v, v < n ∧ row k = nI v) : FCl bf row t ↔ clo n bf (dnF row t) := by
  have h' : ∀ i, i < t → ∃ v, v < 9 ∧ row i = nI v := fun i hi => by
    obtain ⟨w, hw, ew⟩ := hv i (by omega)
    exact ⟨w, by omega, ew⟩
  constructor
  · intro h w hw hb0
    obtain ⟨q, hq, e⟩ := (dnF_hb h' (by omega)).mp hb0
    have := h q hq
    rw [e, cl9 (show w < 1000000 by omega)] at this
    exact this
  · intro h q hq
    obtain ⟨v, hv2, ev⟩ := hv q (by omega)
    rw [ev, cl9 (show v < 1000000 by omega)]
    exact h v hv2 ((dnF_hb h' (by omega)).mpr ⟨q, hq, ev⟩)
theorem eM_from45 {n m t : Nat} {x3 : Int32} {μ : Mem} {post : Int32 → Mem → Prop} (h : IM n m μ) (ht : t ≤ n) (hr : RWn n 13 μ) (kS : ¬ FCl (μ 5) (μ 13) t → post (-3) μ) (kG : FCl (μ 5) (μ 13) t → T_X12_all μ (fun (u1 : Int32) (μ2 : Mem) => T_X12_leastOf u1 μ2 (fun (u3 : Int32) (μ4 : Mem) => vp_in (dnF (μ 13) t) 512 ∧ T_X12_layLong (μ4 15 (dnF (μ 13) t).toNatClampNeg) μ4 (fun (μ7 : Mem) => ((¬ x3 = 0 → ((¬ x3 = 1 → T_X12_nextFrom (dnF (μ 13) t) (μ4 15 (dnF (μ 13) t).toNatClampNeg) μ7 (fun (u8 : Int32) (μ9 : Mem) => post u8 μ9)) ∧ (x3 = 1 → vp_in (dnF (μ 13) t) 512 ∧ post (μ7 16 (dnF (μ 13) t).toNatClampNeg) μ7))) ∧ (x3 = 0 → post (μ4 15 (dnF (μ 13) t).toNatClampNeg) μ7)))))) : T_X12_from_45 post (nI t) x3 0 0 μ := by
  have h9 := mN h
  have H74 : T_X12_from_74 post (nI t) x3 (dnF (μ 13) t) 0 μ := by
    intro P hP
    have H : ∀ i, i ≤ t → (∀ q, q < i → μ 5 (μ 13 q).toNatClampNeg &&& (dnF (μ 13) t ^^^ (-1)) = 0) → P (nI t) x3 (dnF (μ 13) t) (nI i) μ := by
      refine down_ind (fun hc => hP _ _ _ _ _ (br_t (nI_self_le t) (kG hc))) (fun i hi ih hc => hP _ _ _ _ _ (br_f (nI_ge hi (by omega)) ?_))
      rw [nI_1, cl9 (show i < 1000000 by omega)]
      obtain ⟨a1, -⟩ := RWn_at h9 hr (show i < n by omega)
      refine ⟨in9 (by omega) (by omega), a1, fun q => ih (fun x hx => ?_), fun q => kS (fun f => q (f i hi))⟩
      by_cases e : x = i
      · subst e; exact q
      · exact hc x (by omega)
    exact H 0 (Nat.zero_le _) (fun q hq => absurd hq (by omega))
  intro P hP
  have H : ∀ i, i ≤ t → P (nI t) x3 (dnF (μ 13) i) (nI i) μ := by
    refine down_ind (hP _ _ _ _ _ (br_t (nI_self_le t) H74)) (fun i hi ih => hP _ _ _ _ _ (br_f (nI_ge hi (by omega)) ⟨in9 (by omega) (by omega), ?_⟩))
    rw [nI_1, cl9 (show i < 1000000 by omega)]
    exact ih
  exact H 0 (Nat.zero_le _)
def sF16 : Nat → Prop := fun q => 13 ≤ q ∧ q ≤ 17
theorem tw_from {n m V : Nat} {z1 z2 : Nat → Nat} {μX μM : Mem} {x1 x2 x3 : Int32} {G : Prop → Prop} {Q : Int32 → Int32 → Mem → Mem → Prop} (hG : ∀ T, T → G T) (hX : IX n m z1 z2 μX) (hM : IM n m μM) (hK : RK n z1 z2 μX μM) (hO : RO n m μX μM) (hV : V < 2 ^ 30) (h5 : μX 13 5 = nI V) (hC : CS n z1 V μX) (k : ∀ r r2 μ1 μ2, r = r2 → IX n m z1 z2 μ1 → IM n m μ2 → Fr (sS 35) μX μ1 → Fr sF16 μM μ2 → CS n z1 V μ1 → Q r r2 μ1 μ2) : T_X11_from x1 x2 x3 μX (fun r μ1 => G (T_X12_from x1 x2 x3 μM (fun r2 μ2 => Q r r2 μ1 μ2))) := by
  have h9 := xN hX
  have h8 := xM8 hX
  have hp := pow9 h9
  have hp1 : 1 ≤ 2 ^ n := Nat.one_le_two_pow
  have hz := fun t ht => (hK.2 t ht).1
  have hz9 := hX.2.1.1
  have k1 : ∀ r, Q r r μX μM := fun r => k _ _ μX μM rfl hX hM (Fr_rf _ _) (Fr_rf _ _) hC
  rcases in_or x1 m (by omega) with ho | ⟨j, hj, rfl⟩
  · exact sX_oHas (xM hX) h8 (fun _ => rb_f rfl (hG _ (sM_isOrder (mM hM) h8 (fun _ => rb_f rfl (k1 _)) (fun j hj e => absurd e (ho j hj))))) (fun j hj e => absurd e (ho j hj))
  refine sX_oHas (xM hX) h8 (fun q => absurd rfl (q j hj)) (fun _ _ _ => rb_t n10 ?_)
  rw [xW hX]
  have inO : ∀ post2 : Int32 → Mem → Prop, T_X12_isIn x2 0 (nI n) μM (fun (u3 : Int32) (μ4 : Mem) => ((u3 = 0 → post2 (-2) μ4) ∧ (¬ u3 = 0 → T_X12_isIn x3 0 2 μ4 (fun (u5 : Int32) (μ6 : Mem) => ((¬ u5 = 0 → T_X12_lookAt (nI j) μ6 (fun (μ8 : Mem) => T_X12_from_45 post2 x2 x3 0 0 μ8)) ∧ (u5 = 0 → post2 (-2) μ6)))))) → T_X12_from (nI j) x2 x3 μM post2 := fun post2 hq => sM_isOrder (mM hM) h8 (fun q => absurd rfl (q j hj)) (fun _ _ _ => rb_t n10 (by rw [hM.1.1]; exact hq))
  rcases in_or x2 (n + 1) (by omega) with ho | ⟨t, ht, rfl⟩
  · have F : G (T_X12_from (nI j) x2 x3 μM (fun r2 μ2 => Q (-2) r2 μX μ2)) := hG _ (inO _ (sM_in0 (by omega) (fun _ => br_t rfl (k1 _)) (fun j hj e => absurd e (ho j hj))))
    refine ⟨fun _ => F, fun q1 => ⟨fun _ => F, fun q2 => ?_⟩⟩
    obtain ⟨a, ha, e⟩ := in_of (n := n) (by omega) q1 q2
    exact absurd e (ho a ha)
  refine br_f (nI_pos (by omega)) (br_f (nI_nlt (by omega) (by omega)) ?_)
  rcases in_or x3 3 (by omega) with ho | ⟨w3, hw3, rfl⟩
  · have F : G (T_X12_from (nI j) (nI t) x3 μM (fun r2 μ2 => Q (-2) r2 μX μ2)) := hG _ (inO _ (sM_in0 (by omega) (fun q => absurd rfl (q t ht)) (fun _ _ _ => br_f n10 (sM_in0 (L := 2) (by omega) (fun _ => rb_f rfl (k1 _)) (fun j hj e => absurd e (ho j hj))))))
    refine ⟨fun _ => F, fun q1 => ⟨fun q2 => ?_, fun _ => F⟩⟩
    obtain ⟨a, ha, e⟩ := in_of (n := 2) (by omega) q1 (Int32.not_lt.mpr q2)
    exact absurd e (ho a ha)
  refine br_f (nI_pos (by omega)) (br_t (nI_le (b := 2) (by omega) (by omega)) (eX_setOfFirst (n := n) (by omega) (by omega) h9 ?_))
  have hprm : PRM n (μX (25 + j)) := PRM_cong (RO_row hO hj) (RO_prm hM hO hj)
  have ev15 := RO_val (nd := μX 15) (nd' := μM 5) h9 hM hO hj (fun w hw => (hK.1 w hw).2)
  obtain ⟨d, hd, ed⟩ := lo_nI (dnF_lo h9 hprm.1 t (by omega))
  have hcd := cl9 (show d < 1000000 by omega)
  have look : ∀ post2 : Int32 → Mem → Prop, (∀ μ2, Fr (fun q => q = 13) μM μ2 → IM n m μ2 → ((¬ FCl (μX 15) (μX (25 + j)) t → post2 (-3) μ2) ∧ (FCl (μX 15) (μX (25 + j)) t → ∀ μa μb, Fr sL15 μ2 μb → Fr (fun q => q = 15) μa μb → IM n m μb → RF0 n (μX 14) (μX 15) z1 μa μb → ∀ μ3, Fr (fun q => q = 16) μb μ3 → IM n m μ3 → (∀ s, s < 2 ^ n → EQl μa n (2 ^ n - 1) (LT 15 μb d) μ3 s) → (∀ s, s < 2 ^ n → μ3 16 s = nI (LT 16 μ3 s) ∧ LT 16 μ3 s ≤ 1000000) → LT 15 μb d ≤ 1000000 → ((¬ nI w3 = 0 → ((¬ nI w3 = 1 → T_X12_nextFrom (nI d) (nI (LT 15 μb d)) μ3 post2) ∧ (nI w3 = 1 → post2 (nI (LT 16 μ3 d)) μ3))) ∧ (nI w3 = 0 → post2 (nI (LT 15 μb d)) μ3))))) → T_X12_from (nI j) (nI t) (nI w3) μM post2 := fun post2 hq => by
    refine inO _ (sM_in0 (by omega) (fun q => absurd rfl (q t ht)) (fun _ _ _ => br_f n10 (sM_in0 (L := 2) (by omega) (fun q => absurd rfl (q w3 hw3)) (fun _ _ _ => rb_t n10 (sM_look hM hj (fun μ2 hf2 h2 hr he => ?_))))))
    have er := RO_13 hO hj he
    have e5 : μ2 5 = μM 5 := hf2 5 (by omega)
    have e4 : μ2 4 = μM 4 := hf2 4 (by omega)
    have edn : dnF (μ2 13) t = nI d := by rw [dnF_cong t (fun i hi => er i (by omega))]; exact ed
    obtain ⟨q1, q2⟩ := hq μ2 hf2 h2
    refine eM_from45 h2 (by omega) hr (fun nf => q1 (fun f => nf ?_)) (fun f => ?_)
    · rw [e5]; exact FCl_cong (fun i hi => (er i (by omega)).symm) (fun i hi => ev15 i (by omega)) f
    · have f' : FCl (μX 15) (μX (25 + j)) t := by
        rw [e5] at f
        exact FCl_cong (fun i hi => er i (by omega)) (fun i hi => by rw [er i (by omega)]; exact (ev15 i (by omega)).symm) f
      rw [edn, hcd]
      refine sM_all h2.1 (eM_leastOfT h2 (fun t ht => by rw [hf2 6 (by omega)]; exact hz t ht) (fun μa μb fb f15 hb hR => ⟨in9 (show d < 512 by omega) (by omega), ?_⟩))
      rw [e4, e5] at hR
      have hR' : RF0 n (μX 14) (μX 15) z1 μa μb := RF0_cong (fun w hw => (hK.1 w hw).1) (fun w hw => (hK.1 w hw).2) hR
      obtain ⟨g1, g2, -⟩ := hR.2.2.2.2.2.2.2 d (by omega) (sub_all h9 hd)
      rw [g1]
      refine sM_layLong hb.1 hb.2.2.1 g2 (fun μ3 hf3 hL => ?_)
      have hz3 : UZ μ3 := UZ_fr hb.2.2.1 hf3 (by omega) (by omega)
      have h3 := IM_fr hb (f16_M hf3) hz3
      have body := q2 f' μa μb fb f15 hb hR' μ3 hf3 h3 (fun s hs => EQl_1 f15 (hL s hs)) (fun s hs => ⟨(hL s hs).1, (hL s hs).2.1⟩) g2
      refine ⟨fun c0 => ⟨fun c1 => (body.1 c0).1 c1, fun c1 => ⟨in9 (show d < 512 by omega) (by omega), ?_⟩⟩, body.2⟩
      rw [(hL d hd).1]
      exact (body.1 c0).2 c1
  have fM : ∀ μ2 μb μ3, Fr (fun q => q = 13) μM μ2 → Fr sL15 μ2 μb → Fr (fun q => q = 16) μb μ3 → Fr sF16 μM μ3 := fun μ2 μb μ3 a b c => Fr_tr (Fr_tr (Fr_mono a (fun q hq => by unfold sF16; omega)) (Fr_mono b (fun q hq => by unfold sL15 at hq; unfold sF16; omega))) (Fr_mono c (fun q hq => by unfold sF16; omega))
  rw [ed]
  refine eX_isClosed (xW hX) h9 (fun nc => rb_f rfl (hG _ (look _ (fun μ2 hf2 h2 => ⟨fun _ => k _ _ μX μ2 rfl hX h2 (Fr_rf _ _) (Fr_mono hf2 (fun q hq => by unfold sF16; omega)) hC, fun f => absurd ?_ nc⟩)))) (fun c => rb_t n10 (eX_refresh35 hX hV h5 hC (fun μ1 hf h1 hg h99 => ?_)))
  · have := (FCl_clo h9 (by omega) hprm.1).mp f
    rw [ed] at this
    exact this
  have hF : FCl (μX 15) (μX (25 + j)) t := (FCl_clo h9 (by omega) hprm.1).mpr (by rw [ed]; exact c)
  have hc1 : CS n z1 V μ1 := Or.inr ⟨V, Nat.le_refl _, h99, fun _ => hg⟩
  have e14 := hf 14 (by unfold sS; omega)
  have e15 := hf 15 (by unfold sS; omega)
  have rf : ∀ {μa μb : Mem}, RF0 n (μX 14) (μX 15) z1 μa μb → RF0 n (μ1 14) (μ1 15) z1 μa μb := fun hR => by rw [e14, e15]; exact hR
  have b512 : vp_in (nI d) 512 := in9 (show d < 512 by omega) (by omega)
  have lay : ∀ post2 : Mem → Prop, (∀ μ', Fr (sS 35) μX μ' → IX n m z1 z2 μ' → GS n z1 μ' → CS n z1 V μ' → (∀ {μa μb : Mem}, RF0 n (μX 14) (μX 15) z1 μa μb → RF0 n (μ' 14) (μ' 15) z1 μa μb ∧ LT (35 + 4) μ1 d = LT 15 μb d) → μ' 35 8 = nI (LT (35 + 4) μ1 d) → LGs 35 n z1 (LT (35 + 4) μ1 d) μ' → LT (35 + 4) μ1 d ≤ 1000000 → post2 μ') → T_X6_fillLongs 35 (μ1 (35 + 4) (nI d).toNatClampNeg) μ1 post2 := fun post2 hp2 => by
    rw [hcd]
    refine eX_long35 h1 hg (t := d) hd (fun μ' f' h' g' e9 e4 h8' hL => hp2 μ' (Fr_tr hf f') h' g' (Or.inr ⟨V, Nat.le_refl _, by rw [e9]; exact h99, fun _ => g'⟩) (fun hR => ⟨?_, gs_least h9 hz9 hg (rf hR) hd⟩) h8' hL (hg.2.1 d hd).2.1)
    rw [f' 14 (by unfold sS; omega), f' 15 (by unfold sS; omega)]
    exact rf hR
  refine ⟨fun q0 => ⟨fun q1 => ⟨b512, lay _ (fun μ' f' h' g' c' rf' h8' hL hl => ?_)⟩, fun q1 => ⟨b512, lay _ (fun μ' f' h' g' c' rf' h8' hL hl => ⟨b512, hG _ (look _ (fun μ2 hf2 h2 => ⟨fun nf => absurd hF nf, fun _ μa μb fb f15 hb hR μ3 hf3 h3 hE hE3 hbar => rb_t q0 (rb_f q1 (k _ _ μ' μ3 ?_ h' h3 f' (fM μ2 μb μ3 hf2 fb hf3) c'))⟩))⟩)⟩⟩, fun q0 => ⟨b512, hG _ (look _ (fun μ2 hf2 h2 => ⟨fun nf => absurd hF nf, fun _ μa μb fb f15 hb hR μ3 hf3 h3 hE hE3 hbar => rb_f q0 (k _ _ μ1 μ3 ?_ h1 h3 hf (fM μ2 μb μ3 hf2 fb hf3) hc1)⟩))⟩⟩
  · -- the next work
    have goM : ∀ r : Int32, (∀ (μa μb μ3 : Mem), RF0 n (μX 14) (μX 15) z1 μa μb → (∀ s, s < 2 ^ n → EQl μa n (2 ^ n - 1) (LT 15 μb d) μ3 s) → (((∀ w, w < n → ¬ nxN μa n (LT 15 μb d) (LT 16 μ3) d w) → r = -9) ∧ (∀ w, w < n → nxN μa n (LT 15 μb d) (LT 16 μ3) d w → (∀ v, v < w → ¬ nxN μa n (LT 15 μb d) (LT 16 μ3) d v) → r = nI w))) → G (T_X12_from (nI j) (nI t) (nI w3) μM (fun r2 μ2 => Q r r2 μ' μ2)) := fun r hr => hG _ (look _ (fun μ2 hf2 h2 => ⟨fun nf => absurd hF nf, fun _ μa μb fb f15 hb hR μ3 hf3 h3 hE hE3 hbar => rb_t q0 (rb_t q1 (by
      have nx1 : ∀ s w, nxN μ3 n (LT 15 μb d) (LT 16 μ3) s w ↔ nxN μa n (LT 15 μb d) (LT 16 μ3) s w := fun s w => nxN_of (by rw [hf3 4 (by omega), f15 4 (by omega)]) (by rw [hf3 5 (by omega), f15 5 (by omega)]) (by rw [hf3 14 (by omega), f15 14 (by omega)]) (by rw [hf3 17 (by omega), f15 17 (by omega)])
      obtain ⟨r1, r2⟩ := hr μa μb μ3 hR hE
      exact sM_nextFrom h3.1 h3.2.2.1 hbar hd hE3 (fun hno => k _ _ μ' μ3 (r1 (fun w hw q => hno w hw ((nx1 d w).mpr q))) h' h3 f' (fM μ2 μb μ3 hf2 fb hf3) c') (fun w hw hx hf0 => k _ _ μ' μ3 (r2 w hw ((nx1 d w).mp hx) (fun v hv q => hf0 v hv ((nx1 d v).mpr q))) h' h3 f' (fM μ2 μb μ3 hf2 fb hf3) c')))⟩))
    refine eX_nextBehind (GS_sr h9 g') h'.2.1 hd hl h8' (fun s hs => ⟨(hL s hs).1, (hL s hs).2.1⟩) (fun hno => goM _ (fun μa μb μ3 hR hE => ?_)) (fun w hw hx hf0 => goM _ (fun μa μb μ3 hR hE => ?_))
    · obtain ⟨r1, r2⟩ := rf' hR
      rw [← r2] at hE ⊢
      have e := gs_nx h9 hz9 g' hL r1 hE
      exact ⟨fun _ => rfl, fun w hw hx _ => absurd ((e d w hd hw).mpr hx) (hno w hw)⟩
    · obtain ⟨r1, r2⟩ := rf' hR
      rw [← r2] at hE ⊢
      have e := gs_nx h9 hz9 g' hL r1 hE
      refine ⟨fun hno => absurd ((e d w hd hw).mp hx) (hno w hw), fun w' hw' hx' hf' => ?_⟩
      rcases Nat.lt_trichotomy w w' with q | q | q
      · exact absurd ((e d w hd hw).mp hx) (hf' w q)
      · rw [q]
      · exact absurd ((e d w' hd hw').mpr hx') (hf0 w' q)
  · obtain ⟨r1, r2⟩ := rf' hR
    rw [← r2] at hE
    rw [hcd, (hL d hd).1, gs_long h9 hz9 g' hL r1 hE (2 ^ n - 1 - d) d (by omega)]
  · rw [hcd, (hg.2.1 d hd).1, gs_least h9 hz9 hg (rf hR) hd]
