/-! THE OFFICE: the letters' text -/
theorem fits_b {x : Int32} (h : fits .byte (.int x) = true) : x.toInt8.toInt32 = x := by
  unfold fits at h
  rw [Bool.and_eq_true] at h
  have h1 := Int32.le_iff_toInt_le.mp (of_decide_eq_true h.1)
  have h2 := Int32.le_iff_toInt_le.mp (of_decide_eq_true h.2)
  rw [show (-128 : Int32).toInt = -128 by decide] at h1
  rw [show (127 : Int32).toInt = 127 by decide] at h2
  apply Int32.toInt_inj.mp
  rw [Int8.toInt_toInt32, Int32.toInt_toInt8]
  rw [Int.bmod_def]
  split <;> omega
theorem dgt {x : Int32} {k : Nat} (hx : x = nI k) (hk : k ≤ 100) : x.toInt8.toInt32 = x := by
  apply Int32.toInt_inj.mp
  rw [Int8.toInt_toInt32, Int32.toInt_toInt8, hx, nI_toInt (by omega)]
  rw [Int.bmod_def]
  split <;> omega
theorem dg_div {x : Int32} {k : Nat} (hx : x = nI k) (hk : k < 100) : x / 10 = nI (k / 10) := by
  apply Int32.toInt_inj.mp
  rw [Int32.toInt_div, hx, nI_toInt (by omega), nI_toInt (by omega), show (10 : Int32).toInt = 10 by decide]
  rw [show ((k : Int)).tdiv 10 = ((k / 10 : Nat) : Int) from (Int.ofNat_tdiv k 10).symm, Int.bmod_def]
  split <;> omega
section CWR
variable {G : zG} {w : Nat × Nat} {gl : Launch} {I : zM} {n c t : Nat}
theorem c_writeLetters (hx : isT w 10 0) (hf : s_wf (vB I 288) n c t) (hL : nmL (vB I 288) c) (hcu : I 288 7 = s_cur (vB I 288)) (hb : nmB I 288) : CT G w gl (yX10_writeLetters, cX10_writeLetters, 4, some .int) 1 (0, 0) [.ref 0] I (qE (nI (o_all (vB I 288) n).length) (kO I (I 87) (o_all (vB I 288) n))) nX := by
  refine ct_of (by decide) [(0, .ref 0)] rfl rfl (fun K hG hw hgl hwo hK => ?_)
  subst hG; subst hw; subst hgl
  have hs := hx.st hwo
  have hm : isT (kw K) 6 87 := hx.f (k := 4) (d := 6) hwo rfl rfl rfl (by decide)
  have hn := hf.2.1
  have e3 : I 288 3 = nI n := hf.1
  have ot : ∀ (o : List Int32) (r x : Nat), 288 ≤ r → kO I (I 87) o r x = I r x := fun o r x h => by rw [kO_ot (by omega) (by omega)]
  have key : ∀ k l (o : List Int32), l + k = n → o = o_all (vB I 288) l → (l = 0 → o.length = 0) → (0 < l → o.length + 1 ≤ 11 * l) → ZZ K (0, 0) 10 [(0, .ref 0), (1, .int (nI l))] [] (kO I (I 87) o) := by
    intro k
    induction k with
    | zero =>
      intro l o hl ho h0 h1
      have le : kO I (I 87) o 288 3 ≤ nI l := by rw [ot _ _ _ (by omega), e3, show l = n by omega]; exact Int32.le_refl _
      refine bX10_writeLetters_10 (g6 := I) hK hwo hx (fun _ => ?_) (fun q => absurd le q) (fun q => absurd le q) (fun q => absurd le q) (fun q => absurd le q)
      have el : l = n := by omega
      subst el
      rw [kO_87, upd_same, ho]
      exact qE_i rfl rfl
    | succ k ih =>
      intro l o hl ho h0 h1
      have nle : ¬ kO I (I 87) o 288 3 ≤ nI l := by rw [ot _ _ _ (by omega), e3]; exact nI_ge (by omega) (by omega)
      obtain ⟨⟨a, ha, ea⟩, hlen5, hrem⟩ := hf.2.2.2.2.2.2.2.2.2.1 l (by omega)
      obtain ⟨L, hL6, hv⟩ := hL.2 a ha
      have hc6 := hL.1
      have ec : (s_of (vB I 288) l 0).toNatClampNeg = a := by rw [ea]; exact nI_clamp (by omega)
      have enl : o_nl (vB I 288) a = L := by unfold o_nl; rw [hv]; exact nI_clamp (by omega)
      have elr : LR 299 (nI l).toNatClampNeg = 300 + l := by
        have e := k_lr hwo hs (l := l) (by omega)
        rw [(hs.lr hwo).2.2.1] at e; exact e
      have f0 : ∀ o, kO I (I 87) o (300 + l) 0 = nI a := fun o => by rw [ot _ _ _ (by omega), ← ea]; exact (voL (o := 288) (by omega)).symm
      have f5 : ∀ o, kO I (I 87) o (300 + l) 5 = s_of (vB I 288) l 5 := fun o => by rw [ot _ _ _ (by omega)]; exact (voL (o := 288) (by omega)).symm
      obtain ⟨j5, hj5, e5⟩ := i_of (M := 30) (n := 30) (by decide) hrem.1 (Int32.le_trans hrem.2 hlen5.2)
      have t5 := hs.let hwo (l := l) (by omega)
      have ca : (nI a).toNatClampNeg = a := nI_clamp (by omega)
      have hsp : (o ++ o_sp l).length ≤ 11 * l := by
        unfold o_sp
        by_cases hl0 : l = 0
        · rw [if_pos hl0, List.append_nil, h0 hl0]; exact Nat.zero_le _
        · rw [if_neg hl0, List.length_append, List.length_singleton]; have := h1 (by omega); omega
      generalize ho1 : o ++ o_sp l = o1 at hsp
      have e130 : ∀ (o2 : List Int32) (v3 : Int32), o2 = o1 ++ (o_nm (vB I 288) a L ++ [58]) ++ (if s_of (vB I 288) l 5 < 10 then [] else [48 + s_of (vB I 288) l 5 / 10]) → ZZ K (0, 0) 130 [(0, .ref 0), (1, .int (nI l)), (2, .ref (300 + l)), (3, .int v3)] [] (kO I (I 87) o2) := fun o2 v3 e2 => by
        have hlen : o2.length ≤ 11 * l + 8 := by
          rw [e2, List.length_append, List.length_append, List.length_append, o_nm_len]
          have : (if s_of (vB I 288) l 5 < 10 then [] else [48 + s_of (vB I 288) l 5 / 10]).length ≤ 1 := by split <;> simp
          simp only [List.length_singleton]
          omega
        have ed : o1 ++ (o_nm (vB I 288) a L ++ ([58] ++ (o_dg (s_of (vB I 288) l 5)))) = o2 ++ [48 + (s_of (vB I 288) l 5 - s_of (vB I 288) l 5 / 10 * 10)] := by
          rw [e2]; unfold o_dg
          simp only [List.append_assoc]
        have el : o_all (vB I 288) (l + 1) = (o2 ++ [48 + (s_of (vB I 288) l 5 - s_of (vB I 288) l 5 / 10 * 10)]) ++ o_mk (vB I 288) l := by
          show o_all (vB I 288) l ++ o_let (vB I 288) l = _
          unfold o_let
          rw [ec, enl, ← ed, ← ho, ← ho1]
          simp only [List.append_assoc]
        have l3 : (o2 ++ [48 + (s_of (vB I 288) l 5 - s_of (vB I 288) l 5 / 10 * 10)]).length ≤ 11 * l + 9 := by rw [List.length_append, List.length_singleton]; omega
        have nxt : ∀ o4, o4 = (o2 ++ [48 + (s_of (vB I 288) l 5 - s_of (vB I 288) l 5 / 10 * 10)]) ++ o_mk (vB I 288) l → ZZ K (0, 0) 10 [(0, .ref 0), (1, .int (nI l + 1))] [] (kO I (I 87) o4) := fun o4 e4 => by
          rw [nI_1]
          refine ih (l + 1) o4 (by omega) (by rw [e4, el]) (fun z => by omega) (fun _ => ?_)
          have := o_mk_len (vB I 288) l
          rw [e4, List.length_append]; omega
        have c7 : kO I (I 87) (o2 ++ [48 + (s_of (vB I 288) l 5 - s_of (vB I 288) l 5 / 10 * 10)]) 288 7 = s_cur (vB I 288) := by rw [ot _ _ _ (by omega)]; exact hcu
        have vb : ∀ o, vB (kO I (I 87) o) 288 = vB I 288 := fun o => vB_hi (fun r hr => kO_ot (by omega) (by omega))
        have ml : ∀ o, CT (kG K) (kw K) (kl K) (yX5_isLate, cX5_isLate, 1, some .boolean) 0 (0, 0) [.ref (300 + l)] (kO I (I 87) o) (qE (b2 (s_late (vB I 288) l)) (kO I (I 87) o)) nX := fun o => by
          have h := k_isLate (G := kG K) (w := kw K) (gl := kl K) (I := kO I (I 87) o) (s := 288) (B := vB (kO I (I 87) o) 288) (cu := kO I (I 87) o 288 7) (l := l) hs (by omega)
          rw [sput_self, vb] at h; exact h
        have e1 : (48 : Int32) + (s_of (vB I 288) l 5 - s_of (vB I 288) l 5 / 10 * 10) = nI (48 + (j5 - j5 / 10 * 10)) := by
          rw [dg_div e5 (by omega), e5, show (48 : Int32) = nI 48 from rfl, show (10 : Int32) = nI 10 from rfl, pk_mul, nI_sub (by omega), nI_add]
        refine bX10_writeLetters_130 hK hwo hx t5 (by rw [f5]; exact k_oput hm (by omega) (dgt e1 (by omega))) (fun _ => ml _) (fun q d => nxt _ ?_) (fun _ _ => k_oput hm (by omega) (by decide)) (fun q d => nxt _ ?_) (fun _ => k_oput hm (by omega) (by decide)) (fun q => nxt _ ?_) <;> rw [c7] at q <;> unfold o_mk
        · rw [if_neg q, if_neg (by rw [b2_0.mp d]; decide), List.append_nil]
        · rw [if_neg q, if_pos (b2_n0.mp d)]
        · rw [if_pos q]
      have e46 : ∀ j i (o2 : List Int32), i + j = L → o2 = o1 ++ o_nm (vB I 288) a i → ZZ K (0, 0) 46 [(0, .ref 0), (1, .int (nI l)), (2, .ref (300 + l)), (3, .int (nI i))] [] (kO I (I 87) o2) := by
        intro j
        have f298 : ∀ o, kO I (I 87) o 298 (nI a).toNatClampNeg = nI L := fun o => by rw [ot _ _ _ (by omega), ca, ← hv]; exact (voW (o := 288) (by omega)).symm
        induction j with
        | zero =>
          intro i o2 hi e2
          have ei : i = L := by omega
          subst ei
          have hlen : o2.length ≤ 11 * l + 6 := by rw [e2, List.length_append, o_nm_len]; omega
          have le : kO I (I 87) o2 298 (kO I (I 87) o2 (300 + l) 0).toNatClampNeg ≤ nI i := by rw [f0, f298]; exact Int32.le_refl _
          have l2 : (o2 ++ [58]).length ≤ 11 * l + 7 := by rw [List.length_append, List.length_singleton]; omega
          have e1 : (48 : Int32) + s_of (vB I 288) l 5 / 10 = nI (48 + j5 / 10) := by
            rw [dg_div e5 (by omega), show (48 : Int32) = nI 48 from rfl, nI_add]
          refine bX10_writeLetters_46 (g10 := I) hK hwo hx t5 (by rw [f0]; exact vp_in_nI (by omega) (by omega)) (fun _ => k_oput hm (by omega) (by decide)) (fun _ d => e130 _ _ ?_) (fun _ d => by rw [f5]; exact k_oput hm (by omega) (dgt e1 (by omega))) (fun _ d => e130 _ _ ?_) (fun q => absurd le q) (fun q => absurd le q) (fun q => absurd le q) (fun q => absurd le q)
          · rw [f5] at d; rw [if_pos d, e2, List.append_nil, List.append_assoc]
          · rw [f5] at d; rw [if_neg d, e2]; simp only [List.append_assoc]
        | succ j ihj =>
          intro i o2 hi e2
          have hlen : o2.length ≤ 11 * l + 5 := by rw [e2, List.length_append, o_nm_len]; omega
          have nle2 : ¬ kO I (I 87) o2 298 (kO I (I 87) o2 (300 + l) 0).toNatClampNeg ≤ nI i := by rw [f0, f298]; exact nI_ge (by omega) (by omega)
          have er : LR 291 (kO I (I 87) o2 (300 + l) 0).toNatClampNeg = 292 + a := by rw [f0, ca]; exact (hs.lr hwo).2.2.2.2.2.2 a (by omega)
          have ev : kO I (I 87) o2 (LR 291 (kO I (I 87) o2 (300 + l) 0).toNatClampNeg) (nI i).toNatClampNeg = vB I 288 (22 + a * 7 + 1 + i) := by
            rw [er, ot _ _ _ (by omega), nI_clamp (by omega)]; exact (voN (o := 288) (by omega) (by omega)).symm
          refine bX10_writeLetters_46 (g3 := I) (g6 := I) hK hwo hx t5 (by rw [f0]; exact vp_in_nI (by omega) (by omega)) (fun q => absurd q nle2) (fun q => absurd q nle2) (fun q => absurd q nle2) (fun q => absurd q nle2) (fun _ => by rw [f0]; exact vp_in_nI (by omega) (by omega)) (fun _ => vp_in_nI (by omega) (by omega)) (fun _ => k_oput hm (by omega) ?_) (fun _ => ?_)
          · rw [ev, voN (o := 288) (by omega) (by omega)]; exact fits_b (hb a (by omega) i (by omega))
          · rw [nI_1, ev]
            refine ihj (i + 1) _ (by omega) ?_
            rw [e2, List.append_assoc]; rfl
      have e46' : ZZ K (0, 0) 46 [(0, .ref 0), (1, .int (nI l)), (2, .ref (LR 299 (nI l).toNatClampNeg)), (3, .int 0)] [] (kO I (I 87) o1) := by
        rw [elr]
        exact e46 L 0 o1 (by omega) (by show o1 = o1 ++ []; rw [List.append_nil])
      have hv12 : vp_in (nI l) 12 := vp_in_nI (by omega) (by omega)
      by_cases hl0 : l = 0
      · have e1 : o = o1 := by rw [← ho1]; unfold o_sp; rw [if_pos hl0, List.append_nil]
        have le0 : nI l ≤ 0 := by rw [hl0]; exact Int32.le_refl _
        exact bX10_writeLetters_10 (g6 := I) hK hwo hx (fun q => absurd q nle) (fun _ => hv12) (fun _ _ => by rw [e1]; exact e46') (fun _ q => absurd le0 q) (fun _ q => absurd le0 q)
      · have e1 : o ++ [32] = o1 := by rw [← ho1]; unfold o_sp; rw [if_neg hl0]
        have nle0 : ¬ nI l ≤ 0 := fun q => by have := (nI_leI (a := l) (b := 0) (by omega) (by omega)).mp q; omega
        have hlen := h1 (by omega)
        exact bX10_writeLetters_10 hK hwo hx (fun q => absurd q nle) (fun _ => hv12) (fun _ q => absurd q nle0) (fun _ _ => k_oput hm (by omega) (by decide)) (fun _ _ => by rw [e1]; exact e46')
  refine bX10_writeLetters_0 hK hwo hx ?_
  have h := key n 0 [] (by omega) rfl (fun _ => rfl) (fun q => absurd q (by omega))
  rw [show up I 87 1 0 = kO I (I 87) [] by unfold kO; rw [o_nil, ups_id]; rfl]
  exact h
end CWR
