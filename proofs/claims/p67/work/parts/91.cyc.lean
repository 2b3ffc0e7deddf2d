/-! CONSTRUCTORS of State, Script, History -/
abbrev lyS (s : Nat) : Prop := LT s = 9 ∧ LT (s + 1) = 8 ∧ lyC (s + 2) ∧ LT (s + 11) = 31 ∧ LL (s + 11) = 12 ∧ (∀ j, j < 12 → LT (s + 12 + 1 * j) = 5 ∧ LR (s + 11) j = s + 12 + 1 * j) ∧ LR s 0 = s + 1 ∧ LR s 1 = s + 2 ∧ LR s 2 = s + 11
theorem in_X8 : Cond.instantiable RX8 6 ∈ TG := tg_of (by decide +kernel) (by decide +kernel)
theorem in_X0 : Cond.instantiable RX0 3 ∈ TG := tg_of (by decide +kernel) (by decide +kernel)
theorem in_X5 : Cond.instantiable RX5 8 ∈ TG := tg_of (by decide +kernel) (by decide +kernel)
theorem in_X9 : Cond.instantiable RX9 19 ∈ TG := tg_of (by decide +kernel) (by decide +kernel)
theorem in_X1 : Cond.instantiable RX1 3 ∈ TG := tg_of (by decide +kernel) (by decide +kernel)
theorem in_X7 : Cond.instantiable RX7 2 ∈ TG := tg_of (by decide +kernel) (by decide +kernel)
theorem in_X6 : Cond.instantiable RX6 2 ∈ TG := tg_of (by decide +kernel) (by decide +kernel)
theorem in_X3 : Cond.instantiable RX3 3 ∈ TG := tg_of (by decide +kernel) (by decide +kernel)
theorem in_X4 : Cond.instantiable RX4 8 ∈ TG := tg_of (by decide +kernel) (by decide +kernel)
theorem in_X10 : Cond.instantiable RX10 8 ∈ TG := tg_of (by decide +kernel) (by decide +kernel)
theorem in_X11 : Cond.instantiable RX11 17 ∈ TG := tg_of (by decide +kernel) (by decide +kernel)
theorem df_of {ty : Nat → FieldType} {c N : Nat} (h : ((List.range N).all fun j => decide (defaultValue (ty j) = if sT c j = 0 then .int 0 else .null)) = true) : ∀ j, j < N → defaultValue (ty j) = if sT c j = 0 then .int 0 else .null :=
  fun j hj => of_decide_eq_true (List.all_eq_true.mp h j (List.mem_range.mpr hj))
theorem yO_enda {G : zG} {a r q sz cnt : Nat} {M : zM} {β : yB} {f : Nat → Int32} {b : Nat → Bool} {H : Heap} (hc : Nat.blt (LT q) 20 = false) (hL : LL q = cnt) (hq : r ≤ q) (hf : ∀ k, k < nS r → ini (LT r) k = f k) (hb : ∀ k, k < nS r → sT (LT r) k ≠ 0 → b k = true) (h : yO G a r (r + sz) (mI M r) (bups (bJ β r) q (yLt cnt)) f b H) : yPost G a r sz M β H := by
  refine yO_endq hf hb (fun x h1 h2 h3 => ⟨fun _ _ => rfl, fun k h4 h5 => ?_⟩) h
  by_cases e : x = q
  · subst e
    rw [nS_arr rfl hc, hL] at h4
    rw [bups_same, bJ_ge hq]
    simp [yT, yLt, h4]
  · rw [bups_ne _ _ e]
section CYC
variable {G : zG} {l : Launch} {a r : Nat} {M : zM} {β : yB}
theorem cy_state (hsq : ySeq G a) (ha : a ≤ r) (hr : r + 24 ≤ 320) (hl : lyS r) : CY G l (yX9_init, cX9_init, 2, none) 3 (23, 165) r (yPre G a r M β) (yPost G a r 24 M β) := by
  obtain ⟨l0, l1, l2, l3, l4, l5, l6, l7, l8⟩ := hl
  refine cy_of (e0 := r + 1) rfl rfl rfl (fun H h => h.2 rfl) (fun K hG hl hI => ?_)
  subst hG
  obtain ⟨hb, ho, hnl, hR, hE⟩ := hI
  have hM : ∀ n f q, r < n → n ≤ q → ups (mI M r) r f q = ini (LT q) := fun n f q h1 h2 => by rw [ups_ne _ _ (by omega), mI_ge (by omega)]
  have hB : ∀ n b q, r < n → n ≤ q → bups (bJ β r) r b q = yT := fun n b q h1 h2 => by rw [bups_ne _ _ (by omega), bJ_ge (by omega)]
  refine vv_imp (fun H h => yO_start h) ?_
  refine vv_aload_n hb (z_dec dX9_init 0 rfl) rfl 0 rfl ?_
  refine vv_obj hb ho hR rfl rfl (rX9_init 0 rfl) (z_dec dX9_init 1 rfl) ?_
  refine vv_aload_n hb (z_dec dX9_init 2 rfl) rfl 0 rfl ?_
  refine vv_new3 (mc' := (0, 0)) (n := r + 1) hb ho hE hR ckX8 l1 (by omega) hsq (by omega) (rX9_init 1 rfl) in_X8 (df_of (by decide +kernel)) mkX8_init rfl rfl (Or.inr ⟨RX10, by decide +kernel⟩) (rX9_init 2 rfl) rfl (by decide) rfl (z_dec dX9_init 3 rfl) (z_dec dX9_init 4 rfl) (z_dec dX9_init 5 rfl) (fun q hq => hM _ _ q (by omega) hq) (fun q hq => hB _ _ q (by omega) hq) (cy_settings hsq (by omega) (by omega) l1) ?_
  refine vo_putr (k := 0) (v := r + 1) (n := r + 2) hb ho hE hsq ha rfl (by omega) ckX9 l0 rfl (by decide) l6 (rX9_init 3 rfl) rfl rfl rfl (fun _ => rfl) (fun _ => rfl) (z_dec dX9_init 6 rfl) ?_
  refine vv_aload_n hb (z_dec dX9_init 7 rfl) rfl 0 rfl ?_
  refine vv_new3 (mc' := (8, 48)) (n := r + 2) hb ho hE hR ckX0 l2.1 (by omega) hsq (by omega) (rX9_init 4 rfl) in_X0 (df_of (by decide +kernel)) mkX0_init rfl rfl (Or.inr ⟨RX10, by decide +kernel⟩) (rX9_init 5 rfl) rfl (by decide) rfl (z_dec dX9_init 8 rfl) (z_dec dX9_init 9 rfl) (z_dec dX9_init 10 rfl) (fun q hq => hM _ _ q (by omega) hq) (fun q hq => hB _ _ q (by omega) hq) (cy_clerks hsq (by omega) (by omega) l2) ?_
  refine vo_putr (k := 1) (v := r + 2) (n := r + 11) hb ho hE hsq ha rfl (by omega) ckX9 l0 rfl (by decide) l7 (rX9_init 6 rfl) rfl rfl rfl (fun _ => rfl) (fun _ => rfl) (z_dec dX9_init 11 rfl) ?_
  refine vv_aload_n hb (z_dec dX9_init 12 rfl) rfl 0 rfl ?_
  refine vv_bipush hb (v := 12) (z_dec dX9_init 13 rfl) rfl ?_
  refine vv_anew (n := r + 11) (t := 5) (c := 31) (N := 12) (i9 := 1) hb ho hE (rX9_init 7 rfl) rfl (fun _ => rfl) l3 (by decide) l4 (by omega) (hsq (r + 11) (by omega) (by omega)) (by decide) (by decide) (by decide) (by rw [hR]; decide) (z_dec dX9_init 14 rfl) ?_
  rw [bups_sw (bJ β r) _ yN (show r ≠ r + 11 by omega)]
  refine vo_putr (k := 2) (v := r + 11) (n := r + 12) hb ho hE hsq ha rfl (by omega) ckX9 l0 rfl (by decide) l8 (rX9_init 8 rfl) rfl rfl rfl (fun _ => rfl) (fun _ => rfl) (z_dec dX9_init 15 rfl) ?_
  refine vv_aload_n hb (z_dec dX9_init 16 rfl) rfl 0 rfl ?_
  refine vv_iconst hb (v := -1) (z_dec dX9_init 17 rfl) rfl ?_
  refine vo_put (k := 6) (n := r + 12) hb ho hE hsq ha rfl (by omega) ckX9 l0 rfl rfl (rX9_init 9 rfl) rfl rfl rfl (z_dec dX9_init 18 rfl) ?_
  refine vv_aload_n hb (z_dec dX9_init 19 rfl) rfl 0 rfl ?_
  refine vv_iconst hb (v := -1) (z_dec dX9_init 20 rfl) rfl ?_
  refine vo_put (k := 7) (n := r + 12) hb ho hE hsq ha rfl (by omega) ckX9 l0 rfl rfl (rX9_init 10 rfl) rfl rfl rfl (z_dec dX9_init 21 rfl) ?_
  refine vv_aload_n hb (z_dec dX9_init 22 rfl) rfl 0 rfl ?_
  refine vv_iconst hb (v := -1) (z_dec dX9_init 23 rfl) rfl ?_
  refine vo_put (k := 8) (n := r + 12) hb ho hE hsq ha rfl (by omega) ckX9 l0 rfl rfl (rX9_init 11 rfl) rfl rfl rfl (z_dec dX9_init 24 rfl) ?_
  refine vv_iconst hb (v := nI 0) (z_dec dX9_init 25 rfl) rfl ?_
  refine vv_istore_n hb (z_dec dX9_init 26 rfl) rfl hnl rfl [0, 1] rfl ?_
  rw [← yLt_0]
  refine vv_loop (u := (11, 69)) (p0 := 52) (n0 := r + 12) (sz := 1) (cnt := 12) (mcE := (0, 0)) (kA := 2) (t := 5) hb ho hnl rfl hR hE hsq ha ckX9 l0 rfl (by decide) l8 (rX9_init 8 rfl) rfl rfl ckX5 (fun _ => rfl) l3 (by decide) l4 (by omega) (by omega) (by decide) l5 rfl (by omega) (rX9_init 7 rfl) in_X5 (df_of (by decide +kernel)) mkX5_init rfl rfl (Or.inr ⟨RX10, by decide +kernel⟩) (rX9_init 12 rfl) rfl rfl (by decide) (z_dec dX9_init 27 rfl) (fun _ _ _ _ h => vv_bipush hb (v := nI 12) (z_dec dX9_init 28 rfl) rfl h) (z_dec dX9_init 29 rfl) rfl (z_dec dX9_init 30 rfl) (z_dec dX9_init 31 rfl) (z_dec dX9_init 32 rfl) (z_dec dX9_init 33 rfl) (z_dec dX9_init 34 rfl) (z_dec dX9_init 35 rfl) (z_dec dX9_init 36 rfl) (z_dec dX9_init 37 rfl) (z_dec dX9_init 38 rfl) rfl (fun q hq => mI_ge (by omega)) (fun q hq => bJ_ge (by omega)) (fun j hj M β => cy_letter hsq (by omega) (by omega) (l5 j hj).1) ?_ 12 0 rfl
  refine vv_ret hb hE (by decide) (z_dec dX9_init 39 rfl) (fun H h => yO_enda (sz := 24) (cnt := 12) (q := r + 11) (by rw [l3]; rfl) l4 (by omega) ?_ ?_ h) <;> rw [nS_obj l0 rfl, l0] <;> decide +kernel
end CYC
