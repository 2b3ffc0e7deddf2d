/-! THE CONSTRUCTOR OF THE OFFICE -/
def tb (k : Nat) : Int32 := (zTb.getD 8 []).getD k 0
def pt (b : zBk) (n : Nat) : zBk := fun k => if k < n then tb k else b k
theorem tb_bt : ∀ k, k < 120 → bt (tb k) := by
  have h : (List.range 120).all (fun k => decide ((tb k).toInt8.toInt32 = tb k)) = true := by decide +kernel
  exact fun k hk => of_decide_eq_true (p := (tb k).toInt8.toInt32 = tb k) (List.all_eq_true.mp h k (List.mem_range.mpr hk))
theorem pt_0 {b : zBk} : pt b 0 = b := by funext k; exact if_neg (Nat.not_lt_zero k)
theorem pt_upd {b : zBk} {n : Nat} : upd (pt b n) n (tb n) = pt b (n + 1) := by
  funext k
  by_cases e : k = n
  · subst e
    rw [upd_same]
    exact (if_pos (Nat.lt_succ_self k)).symm
  · rw [upd_ne _ _ e]
    unfold pt
    by_cases h : k < n
    · rw [if_pos h, if_pos (by omega)]
    · rw [if_neg h, if_neg (by omega)]
theorem x_put {G : zG} {w : Nat × Nat} {gl : Launch} {I : zM} {F b : zBk} (hm : isT w 4 285) (h1 : F 1 = nI 0) : CT G w gl (yX4_putText, cX4_putText, 3, none) 4 (0, 0) [.ref 285, .ref 1108] (pM I F b) (qV (fun J => J = pM I (upd F 1 (nI 120)) (pt b 120))) nX := by
  refine ct_of (by decide) [(0, .ref 285), (1, .ref 1108)] rfl rfl (fun K hG hw hgl hwo hK => ?_)
  subst hG; subst hw; subst hgl
  have z0 : (0, 0).1 ≤ ((0, 0) : Nat × Nat).1 ∧ (0, 0).2 ≤ ((0, 0) : Nat × Nat).2 := ⟨Nat.le_refl _, Nat.le_refl _⟩
  have z1 : (0, 0).1 + (0, 0).1 ≤ ((0, 0) : Nat × Nat).1 ∧ (0, 0).2 + (0, 0).2 ≤ ((0, 0) : Nat × Nat).2 := ⟨Nat.le_refl _, Nat.le_refl _⟩
  have hs : zIsS 1108 := ⟨8, by decide, rfl⟩
  have hl : zTl.getD 8 0 = 120 := rfl
  have loop : ∀ k i, i + k = 120 → ZZ K (0, 0) 2 [(0, .ref 285), (1, .ref 1108), (2, .int (nI i))] [] (pM I (upd F 1 (nI i)) (pt b i)) := by
    intro k
    induction k with
    | zero =>
      intro i hi
      have hi : i = 120 := by omega
      subst hi
      have le : Int32.ofNat (zTl.getD 8 0) ≤ nI 120 := Int32.le_refl _
      exact bX4_putText_2 (g8 := pM I F b) (f6 := 0) (g6 := pM I F b) (mc6 := (0, 0)) (x6 := nX) hK hwo hm z0 (cJ_length (j := 8) (by decide)) hs z0 (fun _ => qV_i rfl) z1 (fun c => absurd le c) (fun c => absurd le c) (fun c => absurd le c) z0 (fun c => absurd le c) (fun c => absurd le c)
    | succ k ih =>
      intro i hi
      have nle : ¬ Int32.ofNat (zTl.getD 8 0) ≤ nI i := nI_ge (a := i) (b := 120) (by omega) (by omega)
      have ec : (nI i).toNatClampNeg = i := nI_clamp (by omega)
      refine bX4_putText_2 (mc6 := (0, 0)) (x6 := nX) hK hwo hm z0 (cJ_length (j := 8) (by decide)) hs z0 (fun c => absurd c nle) z1 (fun _ _ _ h => h) (fun _ => cJ_charAt (j := 8) (by decide) (vp_in_nI (by rw [hl]; omega) (by decide))) (fun _ => hs) z0 (fun _ => k_putByte hm (upd_same _ _ _) (by omega)) (fun _ => ?_)
      rw [nI_1, upd_upd, ec]
      have e : ((zTb.getD 8 []).getD i 0).toInt8.toInt32 = tb i := tb_bt i (by omega)
      rw [e, pt_upd]
      exact ih (i + 1) (by omega)
  have e : pM I F b = pM I (upd F 1 (nI 0)) (pt b 0) := by rw [upd_id h1, pt_0]
  rw [e]
  exact bX4_putText_0 hK hwo hm (loop 120 0 rfl)
/-- the memory of the new office: before the text, with it, after it was read, at the end -/
def o0 : zM := fun q => ini (LT q)
def oA : zM := pM o0 (upd (o0 285) 1 (nI 120)) (pt (o0 286) 120)
def oB (v : Int32) : zM := mrg 285 312 oA (kSM oA 288 120 v)
def oI (v : Int32) : zM := up (oB v) 285 1 0
theorem w285 : wOK (285, 312) := by
  refine ⟨by decide, fun r h1 h2 k hk hs _ => ?_⟩
  have h : (List.range 27).all (fun i => (List.range (nS (285 + i))).all (fun k => decide (sT (LT (285 + i)) k ≠ 0 → 285 ≤ LR (285 + i) k ∧ LR (285 + i) k < 312))) = true := by decide +kernel
  have e := List.all_eq_true.mp h (r - 285) (List.mem_range.mpr (by have : r < 312 := h2; omega))
  have h1 : 285 ≤ r := h1
  rw [show 285 + (r - 285) = r by omega] at e
  exact of_decide_eq_true (List.all_eq_true.mp e k (List.mem_range.mpr hk)) hs
theorem o0_mI {M : zM} : ups (mI M 0) 0 y0 = o0 := by
  funext q
  by_cases e : q = 0
  · subst e
    rw [ups_same]
    exact (ini_0 (by decide)).symm
  · rw [ups_ne _ _ e]
    exact mI_ge (Nat.zero_le q)
theorem o0_pM : pM o0 (o0 285) (o0 286) = o0 := pM_id
theorem oA_mrg : mrg 285 312 o0 oA = oA := by
  funext q
  unfold mrg
  by_cases c : 285 ≤ q ∧ q < 312
  · rw [if_pos c]
  · rw [if_neg c]
    exact (pM_ot (by omega) (by omega)).symm
theorem oA_p : pOK oA 288 120 := ⟨Or.inr (by decide), by unfold oA; rw [pM_285, upd_same], by decide⟩
theorem oA_b : ∀ j, j < 120 → bt (oA 286 j) := fun j hj => by
  unfold oA
  rw [pM_286]
  unfold pt
  rw [if_pos hj]
  exact tb_bt j hj
theorem oA_n : nmK (vB oA 288) := nmK_B.mp (fun a ha k hk => by
  have e : oA (288 + 4 + a) = y0 := by
    unfold oA
    rw [pM_ot (by omega) (by omega)]
    have l := (lyS_p.2.2.2).2.2.1.2.2.2.1 a ha
    show ini (LT (288 + 4 + a)) = y0
    rw [show 288 + 4 + a = 288 + 2 + 2 + a by omega, l.1]
    exact ini_0 (by decide)
  rw [e]
  show fits .byte (.int 0) = true
  decide)
def ob : Nat → Bool := bset (bset (bset (bset (bset (bset yN 1) 3) 4) 5) 6) 7
theorem lyO_p : LT 0 = 10 ∧ LR 0 0 = 288 ∧ LR 0 1 = 1 ∧ LR 0 2 = 285 ∧ LR 0 3 = 25 ∧ LR 0 4 = 87 ∧ LR 0 5 = 89 ∧ LR 0 6 = 235 ∧ LR 0 7 = 236 ∧ LT 87 = 6 ∧ (LT 88 = 21 ∧ LL 88 = 131 ∧ LR 87 0 = 88) ∧ (LT 235 = 32 ∧ LL 235 = 2) ∧ (LT 236 = 22 ∧ LL 236 = 2) ∧ LT 285 = 4 ∧ (LT 286 = 21 ∧ LL 286 = 600 ∧ LR 285 0 = 286) ∧ (LT 287 = 20 ∧ LL 287 = 7 ∧ LR 285 5 = 287) ∧ LR 235 0 = 237 ∧ LR 235 1 = 261 := by decide +kernel
theorem cy_office {G : zG} {l : Launch} {M : zM} {β : yB} (v : Int32) (hsq : ySeq G 0) (hgk : zGok G) (hgx : (gx G).2 = 0) : CY G l (yX10_init, cX10_init, 3, none) 8 (311, 2843) 0 (yPre G 0 0 M β) (yH G 0 312 (oI v) (fun _ => yT)) := by
  obtain ⟨l0, r0, r1, r2, r3, r4, r5, r6, r7, t87, t88, t235, t236, t285, t286, t287, r235, r236⟩ := lyO_p
  refine cy_of (e0 := 1) rfl rfl rfl (fun H h => h.2 rfl) (fun K hG hl hI => ?_)
  subst hG
  obtain ⟨hb, ho, hnl, hR, hE⟩ := hI
  have hM : ∀ n f q, 0 < n → n ≤ q → ups (mI M 0) 0 f q = ini (LT q) := fun n f q h1 h2 => by rw [ups_ne _ _ (by omega), mI_ge (by omega)]
  have hB : ∀ n b q, 0 < n → n ≤ q → bups (bJ β 0) 0 b q = yT := fun n b q h1 h2 => by rw [bups_ne _ _ (by omega), bJ_ge (by omega)]
  have hB2 : ∀ n b b' q, 235 < n → n ≤ q → bups (bups (bJ β 0) 235 b') 0 b q = yT := fun n b b' q h1 h2 => by rw [bups_ne _ _ (by omega), bups_ne _ _ (by omega), bJ_ge (by omega)]
  have g285 : gb (kG K) ≤ gad (kG K) 285 := (hgk.2 285 (by decide)).1
  have hG' : zGok (gS (kG K) 285 312) := zGok_S (fun r h1 h2 => hsq r (Nat.zero_le r) h2) (by decide) (by decide) hgx
  refine vv_imp (fun H h => yO_start h) ?_
  refine vv_aload_n hb (z_dec dX10_init 0 rfl) rfl 0 rfl ?_
  refine vv_obj hb ho hR rfl rfl (rX10_init 0 rfl) (z_dec dX10_init 1 rfl) ?_
  refine vv_aload_n hb (z_dec dX10_init 2 rfl) rfl 0 rfl ?_
  refine vv_new3 (mc' := (23, 165)) (n := 1) hb ho hE hR ckX9 lyS_p.1.1 (by omega) hsq (by omega) (rX10_init 1 rfl) in_X9 (df_of (by decide +kernel)) mkX9_init rfl rfl (Or.inl (rX10_init 2 rfl)) (rX10_init 3 rfl) rfl (by decide) rfl (z_dec dX10_init 3 rfl) (z_dec dX10_init 4 rfl) (z_dec dX10_init 5 rfl) (fun q hq => hM _ _ q (by omega) hq) (fun q hq => hB _ _ q (by omega) hq) (cy_state hsq (by omega) (by omega) lyS_p.1) ?_
  refine vo_putr (k := 1) (v := 1) (n := 25) hb ho hE hsq (by omega) rfl (by omega) ckX10 l0 rfl (by decide) r1 (rX10_init 4 rfl) rfl rfl rfl (fun _ => rfl) (fun _ => rfl) (z_dec dX10_init 6 rfl) ?_
  refine vv_aload_n hb (z_dec dX10_init 7 rfl) rfl 0 rfl ?_
  refine vv_new3 (mc' := (61, 240)) (n := 25) hb ho hE hR ckX7 lyK_p.1 (by omega) hsq (by omega) (rX10_init 5 rfl) in_X7 (df_of (by decide +kernel)) mkX7_init rfl rfl (Or.inl (rX10_init 6 rfl)) (rX10_init 7 rfl) rfl (by decide) rfl (z_dec dX10_init 8 rfl) (z_dec dX10_init 9 rfl) (z_dec dX10_init 10 rfl) (fun q hq => hM _ _ q (by omega) hq) (fun q hq => hB _ _ q (by omega) hq) (cy_script hsq) ?_
  refine vo_putr (k := 3) (v := 25) (n := 87) hb ho hE hsq (by omega) rfl (by omega) ckX10 l0 rfl (by decide) r3 (rX10_init 8 rfl) rfl rfl rfl (fun _ => rfl) (fun _ => rfl) (z_dec dX10_init 11 rfl) ?_
  refine vv_aload_n hb (z_dec dX10_init 12 rfl) rfl 0 rfl ?_
  refine vv_new3 (mc' := (1, 131)) (n := 87) hb ho hE hR ckX6 t87 (by omega) hsq (by omega) (rX10_init 9 rfl) in_X6 (df_of (by decide +kernel)) mkX6_init rfl rfl (Or.inr ⟨RX10, by decide +kernel⟩) (rX10_init 10 rfl) rfl (by decide) rfl (z_dec dX10_init 13 rfl) (z_dec dX10_init 14 rfl) (z_dec dX10_init 15 rfl) (fun q hq => hM _ _ q (by omega) hq) (fun q hq => hB _ _ q (by omega) hq) (cy_output hsq (by omega) (by omega) ⟨t87, t88⟩) ?_
  refine vo_putr (k := 4) (v := 87) (n := 89) hb ho hE hsq (by omega) rfl (by omega) ckX10 l0 rfl (by decide) r4 (rX10_init 11 rfl) rfl rfl rfl (fun _ => rfl) (fun _ => rfl) (z_dec dX10_init 16 rfl) ?_
  refine vv_aload_n hb (z_dec dX10_init 17 rfl) rfl 0 rfl ?_
  refine vv_new3 (mc' := (145, 1110)) (n := 89) hb ho hE hR ckX3 lyH_p.1 (by omega) hsq (by omega) (rX10_init 12 rfl) in_X3 (df_of (by decide +kernel)) mkX3_init rfl rfl (Or.inl (rX10_init 13 rfl)) (rX10_init 14 rfl) rfl (by decide) rfl (z_dec dX10_init 18 rfl) (z_dec dX10_init 19 rfl) (z_dec dX10_init 20 rfl) (fun q hq => hM _ _ q (by omega) hq) (fun q hq => hB _ _ q (by omega) hq) (cy_history hsq) ?_
  refine vo_putr (k := 5) (v := 89) (n := 235) hb ho hE hsq (by omega) rfl (by omega) ckX10 l0 rfl (by decide) r5 (rX10_init 15 rfl) rfl rfl rfl (fun _ => rfl) (fun _ => rfl) (z_dec dX10_init 21 rfl) ?_
  refine vv_aload_n hb (z_dec dX10_init 22 rfl) rfl 0 rfl ?_
  refine vv_iconst hb (v := 2) (z_dec dX10_init 23 rfl) rfl ?_
  refine vv_anew (n := 235) (t := 6) (c := 32) (N := 2) (i9 := 2) hb ho hE (rX10_init 1 rfl) rfl (fun _ => rfl) t235.1 (by decide) t235.2 (by omega) (hsq 235 (by omega) (by omega)) (by decide) (by decide) (by decide) (by rw [hR]; decide) (z_dec dX10_init 24 rfl) ?_
  rw [bups_sw (bJ β 0) _ yN (show 0 ≠ 235 by omega)]
  refine vo_putr (k := 6) (v := 235) (n := 236) hb ho hE hsq (by omega) rfl (by omega) ckX10 l0 rfl (by decide) r6 (rX10_init 16 rfl) rfl rfl rfl (fun _ => rfl) (fun _ => rfl) (z_dec dX10_init 25 rfl) ?_
  refine vv_aload_n hb (z_dec dX10_init 26 rfl) rfl 0 rfl ?_
  refine vv_iconst hb (v := 2) (z_dec dX10_init 27 rfl) rfl ?_
  refine vv_newa (ty := .boolean) (t := 2) (N := 2) (n := 236) hb rfl ac_bool (fun _ => rfl) (fun _ _ h => h) t236.1 (by decide) t236.2 (by omega) (hsq 236 (by omega) (by omega)) rfl (by rw [hM 236 _ 236 (by omega) (by omega), t236.1]; exact ini_0 (by decide)) (by decide) (by decide) (by decide) (by rw [hR]; decide) (z_dec dX10_init 28 rfl) ?_
  refine vo_putr (k := 7) (v := 236) (n := 237) hb ho hE hsq (by omega) rfl (by omega) ckX10 l0 rfl (by decide) r7 (rX10_init 17 rfl) rfl rfl rfl (fun _ => rfl) (fun _ => rfl) (z_dec dX10_init 29 rfl) ?_
  refine vv_iconst hb (v := nI 0) (z_dec dX10_init 30 rfl) rfl ?_
  refine vv_istore_n hb (z_dec dX10_init 31 rfl) rfl hnl rfl [0, 1] rfl ?_
  rw [← yLt_0]
  refine vv_loop (u := (236, 1676)) (p0 := 65) (p2 := 67) (n0 := 237) (sz := 24) (cnt := 2) (mcE := (23, 165)) (kA := 6) (t := 6) hb ho hnl rfl hR hE hsq (by omega) ckX10 l0 rfl (by decide) r6 (rX10_init 16 rfl) rfl rfl ckX9 (fun _ => rfl) t235.1 (by decide) t235.2 (by omega) (by omega) (by decide) (fun j hj => ⟨(lyS_p.2.2.1 j hj).1, by rcases (show j = 0 ∨ j = 1 by omega) with rfl | rfl; exact r235; exact r236⟩) rfl (by omega) (rX10_init 1 rfl) in_X9 (df_of (by decide +kernel)) mkX9_init rfl rfl (Or.inl (rX10_init 2 rfl)) (rX10_init 3 rfl) rfl rfl (by decide) (z_dec dX10_init 32 rfl) (fun _ _ _ _ h => vv_iconst hb (v := nI 2) (z_dec dX10_init 33 rfl) rfl h) (z_dec dX10_init 34 rfl) rfl (z_dec dX10_init 35 rfl) (z_dec dX10_init 36 rfl) (z_dec dX10_init 37 rfl) (z_dec dX10_init 38 rfl) (z_dec dX10_init 39 rfl) (z_dec dX10_init 40 rfl) (z_dec dX10_init 41 rfl) (z_dec dX10_init 42 rfl) (z_dec dX10_init 43 rfl) rfl (fun q hq => mI_ge (by omega)) (fun q hq => bJ_ge (by omega)) (fun j hj M β => cy_state hsq (by omega) (by omega) (lyS_p.2.2.1 j hj)) ?_ 2 0 rfl
  refine vv_new3 (mc' := (2, 607)) (n := 285) hb ho hE hR ckX4 t285 (by omega) hsq (by omega) (rX10_init 18 rfl) in_X4 (df_of (by decide +kernel)) mkX4_init rfl rfl (Or.inr ⟨RX10, by decide +kernel⟩) (rX10_init 19 rfl) rfl (by decide) rfl (z_dec dX10_init 44 rfl) (z_dec dX10_init 45 rfl) (z_dec dX10_init 46 rfl) (fun q hq => hM _ _ q (by omega) hq) (fun q hq => hB2 _ _ _ q (by omega) hq) (cy_input hsq (by omega) (by omega) ⟨t285, t286.1, t286.2.1, t286.2.2, t287⟩) ?_
  refine vv_astore_n hb (z_dec dX10_init 47 rfl) rfl hnl rfl [0, 1] rfl ?_
  refine vv_new3 (mc' := (23, 165)) (n := 288) hb ho hE hR ckX9 lyS_p.2.2.2.1 (by omega) hsq (by omega) (rX10_init 1 rfl) in_X9 (df_of (by decide +kernel)) mkX9_init rfl rfl (Or.inl (rX10_init 2 rfl)) (rX10_init 3 rfl) rfl (by decide) rfl (z_dec dX10_init 48 rfl) (z_dec dX10_init 49 rfl) (z_dec dX10_init 50 rfl) (fun q hq => hM _ _ q (by omega) hq) (fun q hq => hB2 _ _ _ q (by omega) hq) (cy_state hsq (by omega) (by omega) lyS_p.2.2.2) ?_
  refine vv_astore_n hb (z_dec dX10_init 51 rfl) rfl hnl rfl [0, 1, 2] rfl ?_
  rw [o0_mI, yLt_0]
  obtain ⟨β1, e1⟩ : ∃ β1, β1 = bups (bups (bJ β 0) 235 (yLt 2)) 0 ob := ⟨_, rfl⟩
  have hβ : ∀ r, 285 ≤ r → r < 312 → β1 r = yT := fun r h1 h2 => by rw [e1]; exact hB2 285 _ _ r (by omega) h1
  refine vv_imp (J := yZ false (kG K) 0 312 o0 β1) (fun H h => ⟨by rw [e1]; exact h.1, fun z => Bool.noConfusion z⟩) ?_
  have m1 := x_put (G := gS (kG K) 285 312) (w := (285, 312)) (gl := kl K) (I := o0) (F := o0 285) (b := o0 286) ⟨⟨by decide, by decide⟩, t285⟩ (show ini (LT 285) 1 = nI 0 by rw [t285]; rfl)
  rw [o0_pM] at m1
  refine vv_aload_n hb (z_dec dX10_init 52 rfl) rfl 1 rfl ?_
  refine vv_ldc hb ho 0 rfl (z_dec dX10_init 53 rfl) ?_
  refine vv_subV (lo := 285) (hi := 312) (as := [.ref 1108]) (S := []) (r := 285) (d := 4) (mc' := (0, 0)) (I := o0) hb ho hR w285 hG' g285 (by decide) (fun H h => zw_S w285 (Nat.zero_le _) (Nat.le_refl _) hβ h.1) mkX4_putText rfl ckX4 ⟨⟨by decide, by decide⟩, t285⟩ rfl (by decide) rfl (by show [Value.ref (gad (gS (kG K) 285 312) 1108)] = [Value.ref (gad (kG K) 1108)]; rw [gS_old (by decide) (by decide)]) (rX10_init 20 rfl) (rX10_init 21 rfl) (rX10_init 22 rfl) rfl (z_dec dX10_init 54 rfl) m1 (fun v J h => by rw [h.1]; rfl) (fun v J h => ?_)
  obtain ⟨rfl, rfl⟩ := h
  refine vv_imp (J := yZ false (kG K) 0 312 oA β1) (fun H' h => ?_) ?_
  · obtain ⟨H, h0, h1, h2, h3⟩ := h
    have z := yw_S (n := 312) (hi := 312) hsq w285 (Nat.zero_le _) (Nat.le_refl _) (by decide) rfl (by decide) hβ h0.1 h2 h3
    refine ⟨?_, fun z => Bool.noConfusion z⟩
    rw [← oA_mrg]
    exact z
  refine vv_aload_n hb (z_dec dX10_init 55 rfl) rfl 1 rfl ?_
  refine vv_aload_n hb (z_dec dX10_init 56 rfl) rfl 0 rfl ?_
  refine vv_subS (lo := 285) (hi := 312) (as := [.ref 285, .ref 288]) (S := []) (d := 7) (mc' := (0, 0)) (I := oA) hb ho hR w285 hG' g285 (by decide) (fun H h => zw_S w285 (Nat.zero_le _) (Nat.le_refl _) hβ h.1) mkX10_readSetup rfl rfl (by decide) rfl (by show [Value.ref (gad (gS (kG K) 285 312) 285), Value.ref (gad (gS (kG K) 285 312) 288)] = [Value.ref (gad (kG K) 285), Value.ref (gad (kG K) 288)]; rw [gS_in (by decide) (by decide), gS_in (by decide) (by decide)]) (rX10_init 23 rfl) (rX10_init 24 rfl) rfl (z_dec dX10_init 57 rfl) (x_setup (w := (285, 312)) ⟨⟨by decide, by decide⟩, t285⟩ ⟨⟨by decide, by decide⟩, lyS_p.2.2.2.1⟩ oA_p oA_b oA_n v) (fun v J h => by obtain ⟨r, rfl, -⟩ := h; rfl) (fun v' J h => ?_)
  obtain ⟨r9, rfl, -, rfl⟩ := h
  refine vv_imp (J := yZ false (kG K) 0 312 (oB v) β1) (fun H' h => ?_) ?_
  · obtain ⟨H, h0, h1, h2, h3⟩ := h
    exact ⟨yw_S (n := 312) (hi := 312) hsq w285 (Nat.zero_le _) (Nat.le_refl _) (by decide) rfl (by decide) hβ h0.1 h2 h3, fun z => Bool.noConfusion z⟩
  refine vv_pop hb (z_dec dX10_init 58 rfl) rfl ?_
  refine vv_aload_n hb (z_dec dX10_init 59 rfl) rfl 1 rfl ?_
  refine vv_iconst hb (v := 0) (z_dec dX10_init 60 rfl) rfl ?_
  refine vv_put (z := false) (r := 285) (k := 1) hb ho hE hsq (fun z => Bool.noConfusion z) (by decide) ckX4 t285 (Nat.zero_le _) (by decide) rfl rfl (rX10_init 25 rfl) rfl rfl rfl (z_dec dX10_init 61 rfl) ?_
  refine vv_aload_n hb (z_dec dX10_init 62 rfl) rfl 2 rfl ?_
  refine vv_aload_n hb (z_dec dX10_init 63 rfl) rfl 1 rfl ?_
  refine vv_putr (z := false) (r := 0) (k := 2) (v := 285) hb ho hE hsq (fun z => Bool.noConfusion z) (by decide) ckX10 l0 (Nat.zero_le _) (by decide) rfl (by decide) r2 (rX10_init 26 rfl) rfl rfl rfl (fun _ => rfl) (fun _ => rfl) (z_dec dX10_init 64 rfl) ?_
  refine vv_aload_n hb (z_dec dX10_init 65 rfl) rfl 2 rfl ?_
  refine vv_aload_n hb (z_dec dX10_init 66 rfl) rfl 0 rfl ?_
  refine vv_putr (z := false) (r := 0) (k := 0) (v := 288) hb ho hE hsq (fun z => Bool.noConfusion z) (by decide) ckX10 l0 (Nat.zero_le _) (by decide) rfl (by decide) r0 (rX10_init 27 rfl) rfl rfl rfl (fun _ => rfl) (fun _ => rfl) (z_dec dX10_init 67 rfl) ?_
  refine vv_size (n := 312) hE hsq (by decide) rfl (by decide) (by decide) ?_
  refine vv_ret hb hE (by decide) (z_dec dX10_init 68 rfl) (fun H h => ⟨yP_cg (fun q h1 h2 => ⟨fun _ _ => rfl, fun k h4 h5 => ?_⟩) h.1, h.2⟩)
  rw [bups_bups, bups_same, e1]
  by_cases c0 : q = 0
  · subst c0
    rw [bups_same, bups_same]
    rw [nS_obj l0 rfl] at h4
    have h4 : k < 8 := h4
    rcases (show k = 0 ∨ k = 1 ∨ k = 2 ∨ k = 3 ∨ k = 4 ∨ k = 5 ∨ k = 6 ∨ k = 7 by omega) with rfl | rfl | rfl | rfl | rfl | rfl | rfl | rfl <;> rfl
  · rw [bups_ne _ _ c0, bups_ne _ _ c0]
    by_cases c1 : q = 235
    · subst c1
      rw [nS_arr t235.1 rfl, t235.2] at h4
      rw [bups_same]
      simp [yT, yLt, h4]
    · rw [bups_ne _ _ c1, bJ_ge (Nat.zero_le _)]
