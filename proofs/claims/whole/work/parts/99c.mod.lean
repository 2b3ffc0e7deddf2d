/-! THE CONSTRUCTOR OF THE REFERENCE -/
section VVF
variable {K : zK} {u : Nat × Nat} {pc : Nat} {L : List (Nat × Value)} {S : List Value} {cc : ByteArray} {own : String} {a n r e0 index lo hi : Nat} {mcK mc' : Nat × Nat} {M : zM} {β : yB} {P : Option Value → zM → Prop} {y : MethodName} {bc : ByteArray} {nL n' d dK : Nat} {ret : Option FieldType} {as st9 : List Value} {I : zM} {J0 : Heap → Prop}
theorem vv_iast (hb : kcc K = cc) (hn : n ≤ 321) (hr : LT r = 20) (h1 : a ≤ r) (h2 : r < n) {i x : Int32} {j : Nat} (hj : i.toNatClampNeg = j) (hin : vp_in i (LL r)) (hdg : decode cc pc = .ok (.iastore, 1)) (kk : VV K u (pc + 1) L S (yZ false (kG K) a n (up M r j x) β)) : VV K u pc L (.int x :: .int i :: .ref r :: S) (yZ false (kG K) a n M β) := by
  subst hj
  intro p e s m args below meth c0 Q H locs ls B hq hI hl hS
  have B0 := B
  obtain ⟨b1, b2, -, hts, hown, -, hK, -, -, hG, hw, -⟩ := B
  have hat := yw_at (G := kG K) (M := M) (β := β) h1 h2
  have hz : ∀ f b, yc (kG K) r f b = .inl (gA (kG K) 20, LL r, .inl f) := fun f b => by
    unfold yc; rw [hr]; rfl
  rw [hz] at hat
  refine va_iast b1 (b2.trans hb) hK hI.1 (yw_D hG hn) hS _ 0 hat rfl hin hdg (fun H1 locs1 hP1 hD1 hS1 => ?_)
  rw [← hz _ (β r), yw_set h1 h2] at hP1
  have eb : bups β r (β r) = β := by
    funext q
    unfold bups
    by_cases e : q = r
    · rw [if_pos e, e]
    · rw [if_neg e]
  rw [eb] at hP1
  exact kk p e s m args below meth c0 Q H1 locs1 ls B0 hq ⟨hP1, fun z => Bool.noConfusion z⟩ hl hS1
theorem vv_subStr (hb : kcc K = cc) (ho : kown K = own) (hR : kR K = zR dK mcK) (hw : wOK (lo, hi)) (hG' : zGok (gS (kG K) lo hi)) (hge : gb (kG K) ≤ gad (kG K) lo) (hlt : lo < hi) (hP0 : ∀ H, J0 H → va_P (gD (gS (kG K) lo hi)) vwCl (zw (gS (kG K) lo hi) (lo, hi) I) H) (hMk : zMk y bc nL ret n') (hn : as.length = n') {j : Nat} (hj : j < 9) (hy : y.cls = "java/lang/String") (hd : Nat.ble (d + 1) dK = true) (hu : u.1 + mc'.1 ≤ mcK.1 ∧ u.2 + mc'.2 ≤ mcK.2) (hst : st9 = as.reverse ++ .ref (1100 + j) :: S) (has : as.map (zv (gS (kG K) lo hi)) = as.map (zv (kG K)))
    (hlink : Cond.methodLink own index y ∈ TG) (hins : Cond.instanceMethod y ∈ TG) (hsel : Cond.selects y.cls y y ∈ TG) (h8 : Nat.ble (S.map fun v => v.category).sum 8 = true) (hdg : decode cc pc = .ok (.invokevirtual index, 3))
    (hM : CT (gS (kG K) lo hi) (lo, hi) (kl K) (y, bc, nL, ret) d mc' (.ref (1100 + j) :: as) I P nX) (hv : ∀ v J, P v J → v.map (zv (gS (kG K) lo hi)) = v.map (zv (kG K))) (kv : ∀ v J, P v J → VV K (u.1 + mc'.1, u.2 + mc'.2) (pc + 3) L (v.toList ++ S) (yR (kG K) lo hi J0 J)) : VV K u pc L st9 J0 := by
  intro p e s m args below meth c0 Q H locs ls B hq hI hl hS
  have B0 := B
  obtain ⟨b1, b2, b3, hts, hown, b6, hK, hO1, -, hG, hw0, -⟩ := B
  rw [ho] at hown
  have hP := hP0 H hI
  have hg : ∀ x ∈ wsV own index y.cls y (WS (y, bc, nL, ret)), x ∈ TG := fun x hx => by
    unfold wsV at hx
    rcases List.mem_append.mp hx with hx | hx
    · simp only [List.mem_cons, List.not_mem_nil, or_false] at hx
      rcases hx with rfl | rfl | rfl | rfl
      · exact hlink
      · exact hins
      · exact hsel
      · exact hMk.1.2
    · exact (zWS_good hMk x hx).1
  have er : gad (gS (kG K) lo hi) (1100 + j) = gad (kG K) (1100 + j) := gS_old (by omega) hw.1
  refine vv_runz B0 hq hl hS hge hI (vx_runV (As := as.map (zv (gS (kG K) lo hi))) (C := y.cls) (n := n') ⟨b1, b2.trans hb, b3, hown, hts⟩ hM (cwV n' hts (goodIn_TG hg) rfl rfl rfl ⟨rfl, hMk.2.1⟩ (by rw [hR]; exact zroom hd hMk.2.2)) ⟨zWl_blind, by rw [hy, er]; exact vk_recv (i := j) (adK := fun j => gad (kG K) (1100 + j)) hO1.2.2.1 hj hS, fun U hU hW => vv_callee B0 hw hG' hge hlt hP hS U hU hW⟩ rfl (by rw [List.length_map]; exact hn) (hl.1.trans rfl) ?_ (zroomS h8) hdg (by rw [hR]; exact hu)) hv kv
  rw [hst, has]
  show List.map (zv (kG K)) (as.reverse ++ .ref (1100 + j) :: S) = _
  rw [List.map_append, List.map_reverse, List.map_cons]
  show _ ++ Value.ref (gad (kG K) (1100 + j)) :: _ = _ ++ Value.ref (gad (gS (kG K) lo hi) (1100 + j)) :: _
  rw [er]
end VVF
theorem w312 : wOK (312, 319) := by
  refine ⟨by decide, fun r h1 h2 k hk hs => ?_⟩
  have h : (List.range 7).all (fun i => (List.range (nS (312 + i))).all (fun k => decide (sT (LT (312 + i)) k ≠ 0 → 312 ≤ LR (312 + i) k ∧ LR (312 + i) k < 319))) = true := by decide +kernel
  have e := List.all_eq_true.mp h (r - 312) (List.mem_range.mpr (by have : r < 319 := h2; omega))
  have h1 : 312 ≤ r := h1
  rw [show 312 + (r - 312) = r by omega] at e
  exact of_decide_eq_true (List.all_eq_true.mp e k (List.mem_range.mpr hk)) hs
theorem lyM_p : LT 312 = 11 ∧ (LT 313 = 20 ∧ LL 313 = 1600 ∧ LR 312 0 = 313) ∧ (LT 314 = 22 ∧ LL 314 = 2 ∧ LR 312 1 = 314) ∧ (LT 315 = 20 ∧ LL 315 = 600 ∧ LR 312 3 = 315) ∧ (LT 316 = 20 ∧ LL 316 = 150 ∧ LR 312 7 = 316) ∧ (LT 317 = 20 ∧ LL 317 = 180 ∧ LR 312 14 = 317) ∧ LT 318 = 20 ∧ LL 318 = 12 ∧ LR 312 15 = 318 := by decide +kernel
/-- the reference's memory: after its fields, with the text, as it is read, at the end -/
def m0 : zM := fun q => if q = 312 then upd y0 6 (-1) else ini (LT q)
def m1 (i : Nat) : zM := ups m0 315 (pt y0 i)
def m2 : zM := up (m1 120) 312 4 (nI 120)
def m3 : zM := mR (bI m2) (0, t_beg m2 120, m2 313)
def m4 : zM := mR (bI m2) (rp_setup (bI m2 315) 120 (t_beg m2 120) (m2 313))
def mW : zM := up m4 312 4 0
/-- what a call into the reference leaves is the memory that it says -/
theorem yR_312 {G : zG} {M J : zM} {H' : Heap} (hsq : ySeq G 312) (h : yR G 312 319 (yZ false G 312 319 M (fun _ => yT)) J H') : yZ false G 312 319 J (fun _ => yT) H' := by
  obtain ⟨H, h0, h1, h2, h3⟩ := h
  have z := yw_S (n := 319) (hi := 319) hsq w312 (Nat.le_refl _) (Nat.le_refl _) (by decide) rfl (by decide) (fun _ _ _ => rfl) h0.1 h2 h3
  rw [yw_below (G := G) (a := 312) (n := 319) (M := J) (M' := mrg 312 319 M J) (β := fun _ => yT) (β' := fun _ => yT) (fun r h1 h2 => ⟨if_pos ⟨h1, h2⟩, rfl⟩)] at z
  exact ⟨z, fun z => Bool.noConfusion z⟩
theorem m1_0 : m1 0 = m0 := by
  unfold m1
  rw [pt_0]
  have e : m0 315 = y0 := (if_neg (by decide)).trans (by rw [lyM_p.2.2.2.1.1]; exact ini_0 (by decide))
  rw [← e, ups_id]
theorem m1_s {i : Nat} {x : Int32} (h : x = tb i) : up (m1 i) 315 i x = m1 (i + 1) := by
  rw [up_def, h]
  unfold m1
  rw [ups_same, ups_ups, pt_upd]
theorem cy_model {G : zG} {l : Launch} {M : zM} {β : yB} (hsq : ySeq G 312) (hgk : zGok G) : CY G l (yX11_init, cX11_init, 3, none) 6 (6, 2544) 312 (yPre G 312 312 M β) (yH G 312 319 mW (fun _ => yT)) := by
  obtain ⟨l0, ⟨a1, a2, a3⟩, ⟨b1, b2, b3⟩, ⟨c1, c2, c3⟩, ⟨d1, d2, d3⟩, ⟨e1, e2, e3⟩, f1, f2, f3⟩ := lyM_p
  refine cy_of (e0 := 313) rfl rfl rfl (fun H h => h.2 rfl) (fun K hG hl hI => ?_)
  subst hG
  obtain ⟨hb, ho, hnl, hR, hE⟩ := hI
  have hM : ∀ f q c, 312 < q → LT q = c → c ≠ 9 ∧ c ≠ 8 ∧ c ≠ 5 ∧ c ≠ 4 → ups (mI M 312) 312 f q = y0 := fun f q c h1 h2 h3 => by rw [ups_ne _ _ (by omega), mI_ge (by omega), h2]; exact ini_0 h3
  have g312 : gb (kG K) ≤ gad (kG K) 312 := hgk.2 312 (by decide)
  have hG' : zGok (gS (kG K) 312 319) := zGok_S hsq (by decide) (by decide)
  refine vv_imp (fun H h => yO_start h) ?_
  refine vv_aload_n hb (z_dec dX11_init 0 rfl) rfl 0 rfl ?_
  refine vv_obj hb ho hR rfl rfl (rX11_init 0 rfl) (z_dec dX11_init 1 rfl) ?_
  refine vv_aload_n hb (z_dec dX11_init 2 rfl) rfl 0 rfl ?_
  refine vv_sipush hb (v := 1600) (z_dec dX11_init 3 rfl) rfl ?_
  refine vv_newa (ty := .int) (t := 0) (N := 1600) (n := 313) hb rfl ac_int (fun _ => rfl) (fun _ _ h => h) a1 (by decide) a2 (by omega) (hsq 313 (by omega) (by omega)) rfl (hM _ 313 20 (by omega) a1 (by decide)) (by decide) (by decide) (by decide) (by rw [hR]; decide) (z_dec dX11_init 4 rfl) ?_
  refine vo_putr (k := 0) (v := 313) (n := 314) hb ho hE hsq (by omega) rfl (by omega) ckX11 l0 rfl (by decide) a3 (rX11_init 1 rfl) rfl rfl rfl (fun _ => rfl) (fun _ => rfl) (z_dec dX11_init 5 rfl) ?_
  refine vv_aload_n hb (z_dec dX11_init 6 rfl) rfl 0 rfl ?_
  refine vv_iconst hb (v := 2) (z_dec dX11_init 7 rfl) rfl ?_
  refine vv_newa (ty := .boolean) (t := 2) (N := 2) (n := 314) hb rfl ac_bool (fun _ => rfl) (fun _ _ h => h) b1 (by decide) b2 (by omega) (hsq 314 (by omega) (by omega)) rfl (hM _ 314 22 (by omega) b1 (by decide)) (by decide) (by decide) (by decide) (by rw [hR]; decide) (z_dec dX11_init 8 rfl) ?_
  refine vo_putr (k := 1) (v := 314) (n := 315) hb ho hE hsq (by omega) rfl (by omega) ckX11 l0 rfl (by decide) b3 (rX11_init 2 rfl) rfl rfl rfl (fun _ => rfl) (fun _ => rfl) (z_dec dX11_init 9 rfl) ?_
  refine vv_aload_n hb (z_dec dX11_init 10 rfl) rfl 0 rfl ?_
  refine vv_iconst hb (v := 0) (z_dec dX11_init 11 rfl) rfl ?_
  refine vo_put (k := 2) (n := 315) hb ho hE hsq (by omega) rfl (by omega) ckX11 l0 rfl rfl (rX11_init 3 rfl) rfl rfl rfl (z_dec dX11_init 12 rfl) ?_
  refine vv_aload_n hb (z_dec dX11_init 13 rfl) rfl 0 rfl ?_
  refine vv_sipush hb (v := 600) (z_dec dX11_init 14 rfl) rfl ?_
  refine vv_newa (ty := .int) (t := 0) (N := 600) (n := 315) hb rfl ac_int (fun _ => rfl) (fun _ _ h => h) c1 (by decide) c2 (by omega) (hsq 315 (by omega) (by omega)) rfl (hM _ 315 20 (by omega) c1 (by decide)) (by decide) (by decide) (by decide) (by rw [hR]; decide) (z_dec dX11_init 15 rfl) ?_
  refine vo_putr (k := 3) (v := 315) (n := 316) hb ho hE hsq (by omega) rfl (by omega) ckX11 l0 rfl (by decide) c3 (rX11_init 4 rfl) rfl rfl rfl (fun _ => rfl) (fun _ => rfl) (z_dec dX11_init 16 rfl) ?_
  refine vv_aload_n hb (z_dec dX11_init 17 rfl) rfl 0 rfl ?_
  refine vv_iconst hb (v := 0) (z_dec dX11_init 18 rfl) rfl ?_
  refine vo_put (k := 4) (n := 316) hb ho hE hsq (by omega) rfl (by omega) ckX11 l0 rfl rfl (rX11_init 5 rfl) rfl rfl rfl (z_dec dX11_init 19 rfl) ?_
  refine vv_aload_n hb (z_dec dX11_init 20 rfl) rfl 0 rfl ?_
  refine vv_iconst hb (v := 0) (z_dec dX11_init 21 rfl) rfl ?_
  refine vo_put (k := 5) (n := 316) hb ho hE hsq (by omega) rfl (by omega) ckX11 l0 rfl rfl (rX11_init 6 rfl) rfl rfl rfl (z_dec dX11_init 22 rfl) ?_
  refine vv_aload_n hb (z_dec dX11_init 23 rfl) rfl 0 rfl ?_
  refine vv_iconst hb (v := -1) (z_dec dX11_init 24 rfl) rfl ?_
  refine vo_put (k := 6) (n := 316) hb ho hE hsq (by omega) rfl (by omega) ckX11 l0 rfl rfl (rX11_init 7 rfl) rfl rfl rfl (z_dec dX11_init 25 rfl) ?_
  refine vv_aload_n hb (z_dec dX11_init 26 rfl) rfl 0 rfl ?_
  refine vv_sipush hb (v := 150) (z_dec dX11_init 27 rfl) rfl ?_
  refine vv_newa (ty := .int) (t := 0) (N := 150) (n := 316) hb rfl ac_int (fun _ => rfl) (fun _ _ h => h) d1 (by decide) d2 (by omega) (hsq 316 (by omega) (by omega)) rfl (hM _ 316 20 (by omega) d1 (by decide)) (by decide) (by decide) (by decide) (by rw [hR]; decide) (z_dec dX11_init 28 rfl) ?_
  refine vo_putr (k := 7) (v := 316) (n := 317) hb ho hE hsq (by omega) rfl (by omega) ckX11 l0 rfl (by decide) d3 (rX11_init 8 rfl) rfl rfl rfl (fun _ => rfl) (fun _ => rfl) (z_dec dX11_init 29 rfl) ?_
  refine vv_aload_n hb (z_dec dX11_init 30 rfl) rfl 0 rfl ?_
  refine vv_iconst hb (v := 0) (z_dec dX11_init 31 rfl) rfl ?_
  refine vo_put (k := 8) (n := 317) hb ho hE hsq (by omega) rfl (by omega) ckX11 l0 rfl rfl (rX11_init 9 rfl) rfl rfl rfl (z_dec dX11_init 32 rfl) ?_
  refine vv_aload_n hb (z_dec dX11_init 33 rfl) rfl 0 rfl ?_
  refine vv_iconst hb (v := 0) (z_dec dX11_init 34 rfl) rfl ?_
  refine vo_put (k := 9) (n := 317) hb ho hE hsq (by omega) rfl (by omega) ckX11 l0 rfl rfl (rX11_init 10 rfl) rfl rfl rfl (z_dec dX11_init 35 rfl) ?_
  refine vv_aload_n hb (z_dec dX11_init 36 rfl) rfl 0 rfl ?_
  refine vv_iconst hb (v := 0) (z_dec dX11_init 37 rfl) rfl ?_
  refine vo_put (k := 10) (n := 317) hb ho hE hsq (by omega) rfl (by omega) ckX11 l0 rfl rfl (rX11_init 11 rfl) rfl rfl rfl (z_dec dX11_init 38 rfl) ?_
  refine vv_aload_n hb (z_dec dX11_init 39 rfl) rfl 0 rfl ?_
  refine vv_iconst hb (v := 0) (z_dec dX11_init 40 rfl) rfl ?_
  refine vo_put (k := 11) (n := 317) hb ho hE hsq (by omega) rfl (by omega) ckX11 l0 rfl rfl (rX11_init 12 rfl) rfl rfl rfl (z_dec dX11_init 41 rfl) ?_
  refine vv_aload_n hb (z_dec dX11_init 42 rfl) rfl 0 rfl ?_
  refine vv_iconst hb (v := 0) (z_dec dX11_init 43 rfl) rfl ?_
  refine vo_put (k := 12) (n := 317) hb ho hE hsq (by omega) rfl (by omega) ckX11 l0 rfl rfl (rX11_init 13 rfl) rfl rfl rfl (z_dec dX11_init 44 rfl) ?_
  refine vv_aload_n hb (z_dec dX11_init 45 rfl) rfl 0 rfl ?_
  refine vv_iconst hb (v := 0) (z_dec dX11_init 46 rfl) rfl ?_
  refine vo_put (k := 13) (n := 317) hb ho hE hsq (by omega) rfl (by omega) ckX11 l0 rfl rfl (rX11_init 14 rfl) rfl rfl rfl (z_dec dX11_init 47 rfl) ?_
  refine vv_aload_n hb (z_dec dX11_init 48 rfl) rfl 0 rfl ?_
  refine vv_sipush hb (v := 180) (z_dec dX11_init 49 rfl) rfl ?_
  refine vv_newa (ty := .int) (t := 0) (N := 180) (n := 317) hb rfl ac_int (fun _ => rfl) (fun _ _ h => h) e1 (by decide) e2 (by omega) (hsq 317 (by omega) (by omega)) rfl (hM _ 317 20 (by omega) e1 (by decide)) (by decide) (by decide) (by decide) (by rw [hR]; decide) (z_dec dX11_init 50 rfl) ?_
  refine vo_putr (k := 14) (v := 317) (n := 318) hb ho hE hsq (by omega) rfl (by omega) ckX11 l0 rfl (by decide) e3 (rX11_init 15 rfl) rfl rfl rfl (fun _ => rfl) (fun _ => rfl) (z_dec dX11_init 51 rfl) ?_
  refine vv_aload_n hb (z_dec dX11_init 52 rfl) rfl 0 rfl ?_
  refine vv_bipush hb (v := 12) (z_dec dX11_init 53 rfl) rfl ?_
  refine vv_newa (ty := .int) (t := 0) (N := 12) (n := 318) hb rfl ac_int (fun _ => rfl) (fun _ _ h => h) f1 (by decide) f2 (by omega) (hsq 318 (by omega) (by omega)) rfl (hM _ 318 20 (by omega) f1 (by decide)) (by decide) (by decide) (by decide) (by rw [hR]; decide) (z_dec dX11_init 54 rfl) ?_
  refine vo_putr (k := 15) (v := 318) (n := 319) hb ho hE hsq (by omega) rfl (by omega) ckX11 l0 rfl (by decide) f3 (rX11_init 16 rfl) rfl rfl rfl (fun _ => rfl) (fun _ => rfl) (z_dec dX11_init 55 rfl) ?_
  refine vv_imp (J := yZ false (kG K) 312 319 m0 (fun _ => yT)) (fun H h => ⟨yP_cg (fun q h1 h2 => ?_) h.1, fun z => Bool.noConfusion z⟩) ?_
  · by_cases c : q = 312
    · subst c
      rw [ups_same, bups_same, nS_obj l0 rfl, l0]
      refine ⟨fun k hk => ?_, fun k hk hs => ?_⟩
      · have hk : k < 16 := hk
        rcases (show k = 0 ∨ k = 1 ∨ k = 2 ∨ k = 3 ∨ k = 4 ∨ k = 5 ∨ k = 6 ∨ k = 7 ∨ k = 8 ∨ k = 9 ∨ k = 10 ∨ k = 11 ∨ k = 12 ∨ k = 13 ∨ k = 14 ∨ k = 15 by omega) with rfl | rfl | rfl | rfl | rfl | rfl | rfl | rfl | rfl | rfl | rfl | rfl | rfl | rfl | rfl | rfl <;> rfl
      · have hk : k < 16 := hk
        rcases (show k = 0 ∨ k = 1 ∨ k = 2 ∨ k = 3 ∨ k = 4 ∨ k = 5 ∨ k = 6 ∨ k = 7 ∨ k = 8 ∨ k = 9 ∨ k = 10 ∨ k = 11 ∨ k = 12 ∨ k = 13 ∨ k = 14 ∨ k = 15 by omega) with rfl | rfl | rfl | rfl | rfl | rfl | rfl | rfl | rfl | rfl | rfl | rfl | rfl | rfl | rfl | rfl <;> first | rfl | exact (hs rfl).elim
    · have e : m0 q = ini (LT q) := if_neg c
      rw [ups_ne _ _ c, mI_ge h1, bups_ne _ _ c, bJ_ge h1, e]
      exact ⟨fun _ _ => rfl, fun _ _ _ => rfl⟩
  have hw : ∀ M H, yZ false (kG K) 312 319 M (fun _ => yT) H → va_P (gD (gS (kG K) 312 319)) vwCl (zw (gS (kG K) 312 319) (312, 319) M) H := fun M H h => zw_S w312 (Nat.le_refl _) (Nat.le_refl _) (fun _ _ _ => rfl) h.1
  have hm : isT (312, 319) 11 312 := ⟨⟨by decide, by decide⟩, l0⟩
  have h4 : m2 312 4 = nI 120 := up_at
  have hend : VV K (6, 2544) 135 [(2, .int (nI 120)), (1, .ref 1108), (0, .ref 312)] [] (yZ false (kG K) 312 319 (m1 120) (fun _ => yT)) := by
    refine vv_aload_n hb (z_dec dX11_init 73 rfl) rfl 2 rfl ?_
    refine vv_aload_n hb (z_dec dX11_init 74 rfl) rfl 1 rfl ?_
    refine vv_subStr (lo := 312) (hi := 319) (j := 8) (as := []) (S := [.ref 312]) (d := 1) (mc' := (0, 0)) (I := m1 120) hb ho hR w312 hG' g312 (by decide) (hw _) mkJ0_length_8abf5 rfl (by decide) rfl rfl (by decide) rfl rfl (rX11_init 17 rfl) (rX11_init 18 rfl) (rX11_init 19 rfl) rfl (z_dec dX11_init 75 rfl) (cJ_length (j := 8) (by decide)) (fun v J h => by obtain ⟨r, rfl, -⟩ := h; rfl) (fun v J h => ?_)
    obtain ⟨r9, rfl, rfl, rfl⟩ := h
    refine vv_imp (fun H h => yR_312 hsq h) ?_
    refine vv_put (z := false) (r := 312) (k := 4) hb ho hE hsq (fun z => Bool.noConfusion z) (by decide) ckX11 l0 (Nat.le_refl _) (by decide) rfl rfl (rX11_init 5 rfl) rfl rfl rfl (z_dec dX11_init 76 rfl) ?_
    show VV K _ _ _ _ (yZ false (kG K) 312 319 m2 (fun _ => yT))
    refine vv_aload_n hb (z_dec dX11_init 77 rfl) rfl 2 rfl ?_
    refine vv_subV (lo := 312) (hi := 319) (as := []) (S := []) (r := 312) (d := 2) (mc' := (0, 0)) (I := m2) hb ho hR w312 hG' g312 (by decide) (hw _) mkX11_begin rfl ckX11 hm rfl (by decide) rfl rfl (rX11_init 23 rfl) (rX11_init 24 rfl) (rX11_init 25 rfl) rfl (z_dec dX11_init 78 rfl) (m_begin hm h4 (by decide)) (fun v J h => by rw [h.1]; rfl) (fun v J h => ?_)
    obtain ⟨rfl, rfl⟩ := h
    refine vv_imp (fun H h => yR_312 hsq h) ?_
    refine vv_aload_n hb (z_dec dX11_init 79 rfl) rfl 2 rfl ?_
    refine vv_subV (lo := 312) (hi := 319) (as := []) (S := []) (r := 312) (d := 5) (mc' := (0, 0)) (I := m3) hb ho hR w312 hG' g312 (by decide) (hw _) mkX11_parseSetup rfl ckX11 hm rfl (by decide) rfl rfl (rX11_init 26 rfl) (rX11_init 27 rfl) (rX11_init 28 rfl) rfl (z_dec dX11_init 80 rfl) (m_setup (I := bI m2) (N := 120) (r := (0, t_beg m2 120, m2 313)) hm (bI_B h4 (by decide)) rfl (by rw [bI_ot (by decide)]; exact tk_ok (by omega))) (fun v J h => by obtain ⟨r, rfl, -⟩ := h; rfl) (fun v J h => ?_)
    obtain ⟨r9, rfl, -, rfl⟩ := h
    refine vv_imp (fun H h => yR_312 hsq h) ?_
    refine vv_pop hb (z_dec dX11_init 81 rfl) rfl ?_
    refine vv_aload_n hb (z_dec dX11_init 82 rfl) rfl 2 rfl ?_
    refine vv_iconst hb (v := 0) (z_dec dX11_init 83 rfl) rfl ?_
    refine vv_put (z := false) (r := 312) (k := 4) hb ho hE hsq (fun z => Bool.noConfusion z) (by decide) ckX11 l0 (Nat.le_refl _) (by decide) rfl rfl (rX11_init 5 rfl) rfl rfl rfl (z_dec dX11_init 84 rfl) ?_
    refine vv_size (n := 319) hE hsq (by decide) rfl (by decide) (by decide) ?_
    exact vv_ret hb hE (by decide) (z_dec dX11_init 85 rfl) (fun H h => h)
  have loop : ∀ k i, i + k = 120 → VV K (6, 2544) 110 [(2, .int (nI i)), (1, .ref 1108), (0, .ref 312)] [] (yZ false (kG K) 312 319 (m1 i) (fun _ => yT)) := by
    intro k
    induction k with
    | zero =>
      intro i hi
      have hi : i = 120 := by omega
      subst hi
      refine vv_iload_n hb (z_dec dX11_init 60 rfl) rfl 0 rfl ?_
      refine vv_aload_n hb (z_dec dX11_init 61 rfl) rfl 1 rfl ?_
      refine vv_subStr (lo := 312) (hi := 319) (j := 8) (as := []) (S := [.int (nI 120)]) (d := 1) (mc' := (0, 0)) (I := m1 120) hb ho hR w312 hG' g312 (by decide) (hw _) mkJ0_length_8abf5 rfl (by decide) rfl rfl (by decide) rfl rfl (rX11_init 17 rfl) (rX11_init 18 rfl) (rX11_init 19 rfl) rfl (z_dec dX11_init 62 rfl) (cJ_length (j := 8) (by decide)) (fun v J h => by obtain ⟨r, rfl, -⟩ := h; rfl) (fun v J h => ?_)
      obtain ⟨r9, rfl, rfl, rfl⟩ := h
      refine vv_imp (fun H h => yR_312 hsq h) ?_
      exact vv_icmp_ge (tgt := 135) hb (z_dec dX11_init 63 rfl) rfl (fun _ => hend) (fun z => absurd (Int32.le_refl _) z)
    | succ k ih =>
      intro i hi
      have nle : ¬ Int32.ofNat (zTl.getD 8 0) ≤ nI i := nI_ge (a := i) (b := 120) (by omega) (by omega)
      refine vv_iload_n hb (z_dec dX11_init 60 rfl) rfl 0 rfl ?_
      refine vv_aload_n hb (z_dec dX11_init 61 rfl) rfl 1 rfl ?_
      refine vv_subStr (lo := 312) (hi := 319) (j := 8) (as := []) (S := [.int (nI i)]) (d := 1) (mc' := (0, 0)) (I := m1 i) hb ho hR w312 hG' g312 (by decide) (hw _) mkJ0_length_8abf5 rfl (by decide) rfl rfl (by decide) rfl rfl (rX11_init 17 rfl) (rX11_init 18 rfl) (rX11_init 19 rfl) rfl (z_dec dX11_init 62 rfl) (cJ_length (j := 8) (by decide)) (fun v J h => by obtain ⟨r, rfl, -⟩ := h; rfl) (fun v J h => ?_)
      obtain ⟨r9, rfl, rfl, rfl⟩ := h
      refine vv_imp (fun H h => yR_312 hsq h) ?_
      refine vv_icmp_ge (tgt := 135) hb (z_dec dX11_init 63 rfl) rfl (fun z => absurd z nle) (fun _ => ?_)
      refine vv_aload_n hb (z_dec dX11_init 64 rfl) rfl 2 rfl ?_
      refine vv_getr (z := false) (r := 312) (k := 3) hb ho ckX11 l0 (Nat.le_refl _) (by decide) rfl (by decide) c3 rfl (rX11_init 4 rfl) rfl (z_dec dX11_init 65 rfl) ?_
      refine vv_iload_n hb (z_dec dX11_init 66 rfl) rfl 0 rfl ?_
      refine vv_aload_n hb (z_dec dX11_init 67 rfl) rfl 1 rfl ?_
      refine vv_iload_n hb (z_dec dX11_init 68 rfl) rfl 0 rfl ?_
      refine vv_subStr (lo := 312) (hi := 319) (j := 8) (as := [.int (nI i)]) (S := [.int (nI i), .ref 315]) (d := 3) (mc' := (0, 0)) (I := m1 i) hb ho hR w312 hG' g312 (by decide) (hw _) mkJ0_charAt_5068e rfl (by decide) rfl rfl (by decide) rfl rfl (rX11_init 20 rfl) (rX11_init 21 rfl) (rX11_init 22 rfl) rfl (z_dec dX11_init 69 rfl) (cJ_charAt (j := 8) (by decide) (vp_in_nI (by show i < 120; omega) (by decide))) (fun v J h => by obtain ⟨r, rfl, -⟩ := h; rfl) (fun v J h => ?_)
      obtain ⟨r8, rfl, e8, rfl⟩ := h
      have e8 : r8 = tb i := by rw [e8, nI_clamp (by omega)]; rfl
      refine vv_imp (fun H h => yR_312 hsq h) ?_
      refine vv_iast (a := 312) (n := 319) (r := 315) hb (by decide) c1 (by decide) (by decide) (nI_clamp (n := i) (by omega)) (by rw [c2]; exact vp_in_nI (by omega) (by decide)) (z_dec dX11_init 70 rfl) ?_
      rw [m1_s e8]
      refine vv_iinc (v := nI (i + 1)) hb (z_dec dX11_init 71 rfl) 0 rfl (nI_1 i) hnl rfl [0, 1, 2] rfl ?_
      exact vv_goto (tgt := 110) hb (z_dec dX11_init 72 rfl) rfl (ih (i + 1) (by omega))
  refine vv_ldc hb ho 27 rfl (z_dec dX11_init 56 rfl) ?_
  refine vv_astore_n hb (z_dec dX11_init 57 rfl) rfl hnl rfl [0, 1] rfl ?_
  refine vv_iconst hb (v := nI 0) (z_dec dX11_init 58 rfl) rfl ?_
  refine vv_istore_n hb (z_dec dX11_init 59 rfl) rfl hnl rfl [0, 1, 2] rfl ?_
  rw [← m1_0]
  exact loop 120 0 rfl
