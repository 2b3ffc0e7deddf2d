/-! CONSTRUCTORS of Script and History -/
def lyB (s : Nat) : Bool := decide (LT s = 9) && (decide (LT (s + 1) = 8) && (decide (lyC (s + 2)) && (decide (LT (s + 11) = 31) && (decide (LL (s + 11) = 12) && (((List.range 12).all fun j => decide (LT (s + 12 + 1 * j) = 5 ∧ LR (s + 11) j = s + 12 + 1 * j)) && (decide (LR s 0 = s + 1) && (decide (LR s 1 = s + 2) && decide (LR s 2 = s + 11))))))))
theorem lyB_S {s : Nat} (h : lyB s = true) : lyS s := by
  unfold lyB at h
  simp only [Bool.and_eq_true, decide_eq_true_eq, List.all_eq_true, List.mem_range] at h
  exact h
theorem lyS_p : lyS 1 ∧ (∀ j, j < 6 → lyS (91 + 24 * j)) ∧ (∀ j, j < 2 → lyS (237 + 24 * j)) ∧ lyS 288 := by
  refine ⟨lyB_S (by decide +kernel), fun j hj => ?_, fun j hj => ?_, lyB_S (by decide +kernel)⟩
  · rcases (show j = 0 ∨ j = 1 ∨ j = 2 ∨ j = 3 ∨ j = 4 ∨ j = 5 by omega) with rfl | rfl | rfl | rfl | rfl | rfl <;> exact lyB_S (by decide +kernel)
  · rcases (show j = 0 ∨ j = 1 by omega) with rfl | rfl <;> exact lyB_S (by decide +kernel)
theorem lyH_p : LT 89 = 3 ∧ LT 90 = 32 ∧ LL 90 = 6 ∧ LR 89 0 = 90 ∧ ∀ j, j < 6 → LT (91 + 24 * j) = 9 ∧ LR 90 j = 91 + 24 * j := by decide +kernel
theorem lyK_p : LT 25 = 7 ∧ LT 26 = 33 ∧ LL 26 = 30 ∧ LR 25 0 = 26 ∧ ∀ j, j < 30 → (LT (27 + 2 * j) = 2 ∧ LR 26 j = 27 + 2 * j) ∧ LT (27 + 2 * j + 1) = 20 ∧ LL (27 + 2 * j + 1) = 4 ∧ LR (27 + 2 * j) 2 = 27 + 2 * j + 1 := by decide +kernel
section CYD
variable {G : zG} {l : Launch} {M : zM} {β : yB}
theorem cy_script (hsq : ySeq G 0) : CY G l (yX7_init, cX7_init, 2, none) 3 (61, 240) 25 (yPre G 0 25 M β) (yPost G 0 25 62 M β) := by
  obtain ⟨l0, l1, l2, l3, l4⟩ := lyK_p
  refine cy_of (e0 := 26) rfl rfl rfl (fun H h => h.2 rfl) (fun K hG hl hI => ?_)
  subst hG
  obtain ⟨hb, ho, hnl, hR, hE⟩ := hI
  refine vv_imp (fun H h => yO_start h) ?_
  refine vv_aload_n hb (z_dec dX7_init 0 rfl) rfl 0 rfl ?_
  refine vv_obj hb ho hR rfl rfl (rX7_init 0 rfl) (z_dec dX7_init 1 rfl) ?_
  refine vv_aload_n hb (z_dec dX7_init 2 rfl) rfl 0 rfl ?_
  refine vv_bipush hb (v := 30) (z_dec dX7_init 3 rfl) rfl ?_
  refine vv_anew (n := 26) (t := 7) (c := 33) (N := 30) (i9 := 3) hb ho hE (rX7_init 1 rfl) rfl (fun _ => rfl) l1 (by decide) l2 (by omega) (hsq 26 (by omega) (by omega)) (by decide) (by decide) (by decide) (by rw [hR]; decide) (z_dec dX7_init 4 rfl) ?_
  rw [bups_sw (bJ β 25) _ yN (show 25 ≠ 26 by omega)]
  refine vo_putr (k := 0) (v := 26) (n := 27) hb ho hE hsq (by omega) rfl (by omega) ckX7 l0 rfl (by decide) l3 (rX7_init 2 rfl) rfl rfl rfl (fun _ => rfl) (fun _ => rfl) (z_dec dX7_init 5 rfl) ?_
  refine vv_iconst hb (v := nI 0) (z_dec dX7_init 6 rfl) rfl ?_
  refine vv_istore_n hb (z_dec dX7_init 7 rfl) rfl hnl rfl [0, 1] rfl ?_
  rw [← yLt_0]
  refine vv_loop (u := (1, 30)) (p0 := 15) (n0 := 27) (sz := 2) (cnt := 30) (mcE := (1, 4)) (kA := 0) (t := 7) hb ho hnl rfl hR hE hsq (by omega) ckX7 l0 rfl (by decide) l3 (rX7_init 2 rfl) rfl rfl ckX1 (fun _ => rfl) l1 (by decide) l2 (by omega) (by omega) (by decide) (fun j hj => (l4 j hj).1) rfl (by omega) (rX7_init 1 rfl) in_X1 (df_of (by decide +kernel)) mkX1_init rfl rfl (Or.inr ⟨RX10, by decide +kernel⟩) (rX7_init 3 rfl) rfl rfl (by decide) (z_dec dX7_init 8 rfl) (fun _ _ _ _ h => vv_bipush hb (v := nI 30) (z_dec dX7_init 9 rfl) rfl h) (z_dec dX7_init 10 rfl) rfl (z_dec dX7_init 11 rfl) (z_dec dX7_init 12 rfl) (z_dec dX7_init 13 rfl) (z_dec dX7_init 14 rfl) (z_dec dX7_init 15 rfl) (z_dec dX7_init 16 rfl) (z_dec dX7_init 17 rfl) (z_dec dX7_init 18 rfl) (z_dec dX7_init 19 rfl) rfl (fun q hq => mI_ge (by omega)) (fun q hq => bJ_ge (by omega)) (fun j hj M β => cy_command hsq (by omega) (by omega) ⟨(l4 j hj).1.1, (l4 j hj).2⟩) ?_ 30 0 rfl
  refine vv_ret hb hE (by decide) (z_dec dX7_init 20 rfl) (fun H h => yO_enda (sz := 62) (cnt := 30) (q := 26) (by rw [l1]; rfl) l2 (by omega) ?_ ?_ h) <;> rw [nS_obj l0 rfl, l0] <;> decide +kernel
theorem cy_history (hsq : ySeq G 0) : CY G l (yX3_init, cX3_init, 2, none) 4 (145, 1110) 89 (yPre G 0 89 M β) (yPost G 0 89 146 M β) := by
  obtain ⟨l0, l1, l2, l3, l4⟩ := lyH_p
  refine cy_of (e0 := 90) rfl rfl rfl (fun H h => h.2 rfl) (fun K hG hl hI => ?_)
  subst hG
  obtain ⟨hb, ho, hnl, hR, hE⟩ := hI
  refine vv_imp (fun H h => yO_start h) ?_
  refine vv_aload_n hb (z_dec dX3_init 0 rfl) rfl 0 rfl ?_
  refine vv_obj hb ho hR rfl rfl (rX3_init 0 rfl) (z_dec dX3_init 1 rfl) ?_
  refine vv_aload_n hb (z_dec dX3_init 2 rfl) rfl 0 rfl ?_
  refine vv_bipush hb (v := 6) (z_dec dX3_init 3 rfl) rfl ?_
  refine vv_anew (n := 90) (t := 6) (c := 32) (N := 6) (i9 := 2) hb ho hE (rX3_init 1 rfl) rfl (fun _ => rfl) l1 (by decide) l2 (by omega) (hsq 90 (by omega) (by omega)) (by decide) (by decide) (by decide) (by rw [hR]; decide) (z_dec dX3_init 4 rfl) ?_
  rw [bups_sw (bJ β 89) _ yN (show 89 ≠ 90 by omega)]
  refine vo_putr (k := 0) (v := 90) (n := 91) hb ho hE hsq (by omega) rfl (by omega) ckX3 l0 rfl (by decide) l3 (rX3_init 2 rfl) rfl rfl rfl (fun _ => rfl) (fun _ => rfl) (z_dec dX3_init 5 rfl) ?_
  refine vv_iconst hb (v := nI 0) (z_dec dX3_init 6 rfl) rfl ?_
  refine vv_istore_n hb (z_dec dX3_init 7 rfl) rfl hnl rfl [0, 1] rfl ?_
  rw [← yLt_0]
  refine vv_loop (u := (1, 6)) (p0 := 15) (n0 := 91) (sz := 24) (cnt := 6) (mcE := (23, 165)) (kA := 0) (t := 6) hb ho hnl rfl hR hE hsq (by omega) ckX3 l0 rfl (by decide) l3 (rX3_init 2 rfl) rfl rfl ckX9 (fun _ => rfl) l1 (by decide) l2 (by omega) (by omega) (by decide) l4 rfl (by omega) (rX3_init 1 rfl) in_X9 (df_of (by decide +kernel)) mkX9_init rfl rfl (Or.inl (rX3_init 3 rfl)) (rX3_init 4 rfl) rfl rfl (by decide) (z_dec dX3_init 8 rfl) (fun _ _ _ _ h => vv_bipush hb (v := nI 6) (z_dec dX3_init 9 rfl) rfl h) (z_dec dX3_init 10 rfl) rfl (z_dec dX3_init 11 rfl) (z_dec dX3_init 12 rfl) (z_dec dX3_init 13 rfl) (z_dec dX3_init 14 rfl) (z_dec dX3_init 15 rfl) (z_dec dX3_init 16 rfl) (z_dec dX3_init 17 rfl) (z_dec dX3_init 18 rfl) (z_dec dX3_init 19 rfl) rfl (fun q hq => mI_ge (by omega)) (fun q hq => bJ_ge (by omega)) (fun j hj M β => cy_state hsq (by omega) (by omega) (lyS_p.2.1 j hj)) ?_ 6 0 rfl
  refine vv_ret hb hE (by decide) (z_dec dX3_init 20 rfl) (fun H h => yO_enda (sz := 146) (cnt := 6) (q := 90) (by rw [l1]; rfl) l2 (by omega) ?_ ?_ h) <;> rw [nS_obj l0 rfl, l0] <;> decide +kernel
end CYD
