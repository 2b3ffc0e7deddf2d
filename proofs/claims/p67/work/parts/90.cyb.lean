/-! CONSTRUCTORS of Clerks, Command, Output, Input; a loop that fills an array -/
theorem ac_int : Cond.arrayClass .int ∈ TG := tg_of (by decide +kernel) (by decide +kernel)
theorem ac_byte : Cond.arrayClass .byte ∈ TG := tg_of (by decide +kernel) (by decide +kernel)
theorem ac_bool : Cond.arrayClass .boolean ∈ TG := tg_of (by decide +kernel) (by decide +kernel)
abbrev lyC (r : Nat) : Prop := LT r = 1 ∧ LT (r + 1) = 30 ∧ LL (r + 1) = 6 ∧ (∀ j, j < 6 → LT (r + 2 + j) = 21 ∧ LL (r + 2 + j) = 6 ∧ LR (r + 1) j = r + 2 + j) ∧ LT (r + 8) = 20 ∧ LL (r + 8) = 6 ∧ LR r 1 = r + 1 ∧ LR r 2 = r + 8
section CYB
variable {G : zG} {l : Launch} {a r : Nat} {M : zM} {β : yB}
theorem cy_clerks (hsq : ySeq G a) (ha : a ≤ r) (hr : r + 9 ≤ 320) (hl : lyC r) : CY G l (yX0_init, cX0_init, 1, none) 2 (8, 48) r (yPre G a r M β) (yPost G a r 9 M β) := by
  obtain ⟨l0, l1, l2, l3, l4, l5, l6, l7⟩ := hl
  refine cy_of (e0 := r + 1) rfl rfl rfl (fun H h => h.2 rfl) (fun K hG hl hI => ?_)
  subst hG
  obtain ⟨hb, ho, hnl, hR, hE⟩ := hI
  refine vv_imp (fun H h => yO_start h) ?_
  refine vv_aload_n hb (z_dec dX0_init 0 rfl) rfl 0 rfl ?_
  refine vv_obj hb ho hR rfl rfl (rX0_init 0 rfl) (z_dec dX0_init 1 rfl) ?_
  refine vv_aload_n hb (z_dec dX0_init 2 rfl) rfl 0 rfl ?_
  refine vv_bipush hb (v := 6) (z_dec dX0_init 3 rfl) rfl ?_
  refine vv_bipush hb (v := 6) (z_dec dX0_init 4 rfl) rfl ?_
  refine vv_multi hb ho hE (rX0_init 1 rfl) hsq (by omega) (by omega) l1 l2 (fun j hj => ?_) (by rw [bups_ne _ _ (by omega), bJ_ge (by omega)]) (by rw [hR]; decide) (z_dec dX0_init 5 rfl) ?_
  · obtain ⟨e1, e2, e3⟩ := l3 j hj
    have e : r + 1 + 1 + j = r + 2 + j := by omega
    rw [e]
    refine ⟨e1, e2, e3, ?_⟩
    rw [ups_ne _ _ (by omega), mI_ge (by omega), e1]
    exact ini_0 (by decide)
  refine vo_putr (k := 1) (v := r + 1) (n := r + 8) hb ho hE hsq ha rfl (by omega) ckX0 l0 rfl (by decide) l6 (rX0_init 2 rfl) rfl rfl rfl (fun _ => rfl) (fun _ => rfl) (z_dec dX0_init 6 rfl) ?_
  refine vv_aload_n hb (z_dec dX0_init 7 rfl) rfl 0 rfl ?_
  refine vv_bipush hb (v := 6) (z_dec dX0_init 8 rfl) rfl ?_
  refine vv_newa (ty := .int) (t := 0) (N := 6) hb rfl ac_int (fun _ => rfl) (fun _ _ h => h) l4 (by decide) l5 (by omega) (hsq (r + 8) (by omega) (by omega)) rfl (by rw [ups_ne _ _ (by omega), mI_ge (by omega), l4]; exact ini_0 (by decide)) (by decide) (by decide) (by decide) (by rw [hR]; decide) (z_dec dX0_init 9 rfl) ?_
  refine vo_putr (k := 2) (v := r + 8) (n := r + 9) hb ho hE hsq ha rfl (by omega) ckX0 l0 rfl (by decide) l7 (rX0_init 3 rfl) rfl rfl rfl (fun _ => rfl) (fun _ => rfl) (z_dec dX0_init 10 rfl) ?_
  refine vv_ret hb hE ⟨Nat.le_refl _, Nat.le_refl _⟩ (z_dec dX0_init 11 rfl) (fun H h => yO_end ?_ ?_ h) <;> rw [nS_obj l0 rfl, l0] <;> decide +kernel
theorem cy_command (hsq : ySeq G a) (ha : a ≤ r) (hr : r + 2 ≤ 320) (hl : LT r = 2 ∧ LT (r + 1) = 20 ∧ LL (r + 1) = 4 ∧ LR r 2 = r + 1) : CY G l (yX1_init, cX1_init, 1, none) 2 (1, 4) r (yPre G a r M β) (yPost G a r 2 M β) := by
  obtain ⟨l0, l1, l2, l3⟩ := hl
  refine cy_of (e0 := r + 1) rfl rfl rfl (fun H h => h.2 rfl) (fun K hG hl hI => ?_)
  subst hG
  obtain ⟨hb, ho, hnl, hR, hE⟩ := hI
  refine vv_imp (fun H h => yO_start h) ?_
  refine vv_aload_n hb (z_dec dX1_init 0 rfl) rfl 0 rfl ?_
  refine vv_obj hb ho hR rfl rfl (rX1_init 0 rfl) (z_dec dX1_init 1 rfl) ?_
  refine vv_aload_n hb (z_dec dX1_init 2 rfl) rfl 0 rfl ?_
  refine vv_getsN (C := "PenOffice") (n := "LEAST_OF_LETTER") (d := "[I") (r := 1012) hb ho (fun s h => h.1.2.2.1.1) (host := RX10) (by decide +kernel) (z_dec dX1_init 3 rfl) ?_
  refine vv_alenS (N := 4) hb (fun s h => h.1.2.2.1.2) (z_dec dX1_init 4 rfl) ?_
  refine vv_newa (ty := .int) (t := 0) (N := 4) hb rfl ac_int (fun _ => rfl) (fun _ _ h => h) l1 (by decide) l2 (by omega) (hsq (r + 1) (by omega) (by omega)) rfl (by rw [ups_ne _ _ (by omega), mI_ge (by omega), l1]; exact ini_0 (by decide)) (by decide) (by decide) (by decide) (by rw [hR]; decide) (z_dec dX1_init 5 rfl) ?_
  refine vo_putr (k := 2) (v := r + 1) (n := r + 2) hb ho hE hsq ha rfl (by omega) ckX1 l0 rfl (by decide) l3 (rX1_init 1 rfl) rfl rfl rfl (fun _ => rfl) (fun _ => rfl) (z_dec dX1_init 6 rfl) ?_
  refine vv_ret hb hE ⟨Nat.le_refl _, Nat.le_refl _⟩ (z_dec dX1_init 7 rfl) (fun H h => yO_end ?_ ?_ h) <;> rw [nS_obj l0 rfl, l0] <;> decide +kernel
theorem cy_output (hsq : ySeq G a) (ha : a ≤ r) (hr : r + 2 ≤ 320) (hl : LT r = 6 ∧ LT (r + 1) = 21 ∧ LL (r + 1) = 131 ∧ LR r 0 = r + 1) : CY G l (yX6_init, cX6_init, 1, none) 2 (1, 131) r (yPre G a r M β) (yPost G a r 2 M β) := by
  obtain ⟨l0, l1, l2, l3⟩ := hl
  refine cy_of (e0 := r + 1) rfl rfl rfl (fun H h => h.2 rfl) (fun K hG hl hI => ?_)
  subst hG
  obtain ⟨hb, ho, hnl, hR, hE⟩ := hI
  refine vv_imp (fun H h => yO_start h) ?_
  refine vv_aload_n hb (z_dec dX6_init 0 rfl) rfl 0 rfl ?_
  refine vv_obj hb ho hR rfl rfl (rX6_init 0 rfl) (z_dec dX6_init 1 rfl) ?_
  refine vv_aload_n hb (z_dec dX6_init 2 rfl) rfl 0 rfl ?_
  refine vv_sipush hb (v := 131) (z_dec dX6_init 3 rfl) rfl ?_
  refine vv_newa (ty := .byte) (t := 1) (N := 131) hb rfl ac_byte (fun _ => rfl) (fun _ _ h => h) l1 (by decide) l2 (by omega) (hsq (r + 1) (by omega) (by omega)) rfl (by rw [ups_ne _ _ (by omega), mI_ge (by omega), l1]; exact ini_0 (by decide)) (by decide) (by decide) (by decide) (by rw [hR]; decide) (z_dec dX6_init 4 rfl) ?_
  refine vo_putr (k := 0) (v := r + 1) (n := r + 2) hb ho hE hsq ha rfl (by omega) ckX6 l0 rfl (by decide) l3 (rX6_init 1 rfl) rfl rfl rfl (fun _ => rfl) (fun _ => rfl) (z_dec dX6_init 5 rfl) ?_
  refine vv_ret hb hE ⟨Nat.le_refl _, Nat.le_refl _⟩ (z_dec dX6_init 6 rfl) (fun H h => yO_end ?_ ?_ h) <;> rw [nS_obj l0 rfl, l0] <;> decide +kernel
theorem cy_input (hsq : ySeq G a) (ha : a ≤ r) (hr : r + 3 ≤ 320) (hl : LT r = 4 ∧ LT (r + 1) = 21 ∧ LL (r + 1) = 600 ∧ LR r 0 = r + 1 ∧ LT (r + 2) = 20 ∧ LL (r + 2) = 7 ∧ LR r 5 = r + 2) : CY G l (yX4_init, cX4_init, 1, none) 2 (2, 607) r (yPre G a r M β) (yPost G a r 3 M β) := by
  obtain ⟨l0, l1, l2, l3, l4, l5, l6⟩ := hl
  refine cy_of (e0 := r + 1) rfl rfl rfl (fun H h => h.2 rfl) (fun K hG hl hI => ?_)
  subst hG
  obtain ⟨hb, ho, hnl, hR, hE⟩ := hI
  refine vv_imp (fun H h => yO_start h) ?_
  refine vv_aload_n hb (z_dec dX4_init 0 rfl) rfl 0 rfl ?_
  refine vv_obj hb ho hR rfl rfl (rX4_init 0 rfl) (z_dec dX4_init 1 rfl) ?_
  refine vv_aload_n hb (z_dec dX4_init 2 rfl) rfl 0 rfl ?_
  refine vv_sipush hb (v := 600) (z_dec dX4_init 3 rfl) rfl ?_
  refine vv_newa (ty := .byte) (t := 1) (N := 600) hb rfl ac_byte (fun _ => rfl) (fun _ _ h => h) l1 (by decide) l2 (by omega) (hsq (r + 1) (by omega) (by omega)) rfl (by rw [ups_ne _ _ (by omega), mI_ge (by omega), l1]; exact ini_0 (by decide)) (by decide) (by decide) (by decide) (by rw [hR]; decide) (z_dec dX4_init 4 rfl) ?_
  refine vo_putr (k := 0) (v := r + 1) (n := r + 2) hb ho hE hsq ha rfl (by omega) ckX4 l0 rfl (by decide) l3 (rX4_init 1 rfl) rfl rfl rfl (fun _ => rfl) (fun _ => rfl) (z_dec dX4_init 5 rfl) ?_
  refine vv_aload_n hb (z_dec dX4_init 6 rfl) rfl 0 rfl ?_
  refine vv_getsN (C := "PenOffice") (n := "LEAST_SETTINGS") (d := "[I") (r := 1010) hb ho (fun s h => h.1.1.1) (host := RX10) (by decide +kernel) (z_dec dX4_init 7 rfl) ?_
  refine vv_alenS (N := 7) hb (fun s h => h.1.1.2) (z_dec dX4_init 8 rfl) ?_
  refine vv_newa (ty := .int) (t := 0) (N := 7) hb rfl ac_int (fun _ => rfl) (fun _ _ h => h) l4 (by decide) l5 (by omega) (hsq (r + 2) (by omega) (by omega)) rfl (by rw [ups_ne _ _ (by omega), mI_ge (by omega), l4]; exact ini_0 (by decide)) (by decide) (by decide) (by decide) (by rw [hR]; decide) (z_dec dX4_init 9 rfl) ?_
  refine vo_putr (k := 5) (v := r + 2) (n := r + 3) hb ho hE hsq ha rfl (by omega) ckX4 l0 rfl (by decide) l6 (rX4_init 2 rfl) rfl rfl rfl (fun _ => rfl) (fun _ => rfl) (z_dec dX4_init 10 rfl) ?_
  refine vv_aload_n hb (z_dec dX4_init 11 rfl) rfl 0 rfl ?_
  refine vv_iconst hb (v := -1) (z_dec dX4_init 12 rfl) rfl ?_
  refine vo_put (k := 7) (n := r + 3) hb ho hE hsq ha rfl (by omega) ckX4 l0 rfl rfl (rX4_init 3 rfl) rfl rfl rfl (z_dec dX4_init 13 rfl) ?_
  refine vv_ret hb hE ⟨Nat.le_refl _, Nat.le_refl _⟩ (z_dec dX4_init 14 rfl) (fun H h => yO_end ?_ ?_ h) <;> rw [nS_obj l0 rfl, l0] <;> decide +kernel
end CYB
theorem vv_loop {K : zK} {u : Nat × Nat} {cc : ByteArray} {own : String} {a r q n0 sz : Nat} {mc mcE : Nat × Nat} {M : zM} {β : yB} {P : Heap → Prop} {f : Nat → Int32} {b : Nat → Bool} {C CO ref : String} {T TO : u_T} {N NO c cO cA t kA cnt p0 p2 pe iget inew iini d d' nL nM : Nat} {off off2 : Int} {y : MethodName} {bc : ByteArray} {ty tyO : Nat → FieldType}
    (hb : kcc K = cc) (ho : kown K = own) (hnl : knL K = nM) (h2 : Nat.blt 1 nM = true) (hR : kR K = zR d' mc) (hE : kPh K = phY (kG K) (r + 1) mc P) (hsq : ySeq (kG K) a) (ha : a ≤ r)
    (hcO : cOK cO CO TO NO tyO) (hrO : LT r = cO) (hkA : Nat.blt kA NO = true) (hsA : ¬ sT cO kA = 0) (hvA : LR r kA = q) (hlA : Cond.fieldLink own iget ref (TO kA).2.1 (TO kA).2.2.1 ∈ TG) (hrefA : (TO kA).1 = ref) (hbA : b kA = true)
    (hc : cOK c C T N ty) (ht : ∀ G, (zt G)[t]? = some (gA G cA, .object C)) (hq : LT q = cA) (h30 : 30 ≤ cA) (hLq : LL q = cnt) (hq1 : r < q) (hq2 : q < n0) (hcnt : cnt < 1000)
    (hel : ∀ j, j < cnt → LT (n0 + sz * j) = c ∧ LR q j = n0 + sz * j) (hsz : 1 + mcE.1 = sz) (hlast : n0 + sz * cnt ≤ 320)
    (hcl : Cond.classLink own inew C ∈ TG) (hinst : Cond.instantiable C N ∈ TG) (hdf : ∀ j, j < N → defaultValue (ty j) = if sT c j = 0 then .int 0 else .null)
    (hMk : zMk y bc nL none 0) (hyc : y.cls = C) (hy : y.name = "<init>") (hlink : Cond.methodLink own iini y ∈ TG ∨ ∃ host, Cond.methodLinkNest own iini y host ∈ zNst) (hins : Cond.instanceMethod y ∈ TG) (hd : Nat.ble (d + 1) d' = true)
    (hcell : n0 = r + 1 + u.1) (hmc : u.1 + sz * cnt ≤ mc.1 ∧ u.2 + (N + mcE.2) * cnt ≤ mc.2)
    (d0 : decode cc p0 = .ok (.iload_n 1, 1)) (hpush : ∀ u L S I, VV K u p2 L (.int (nI cnt) :: S) I → VV K u (p0 + 1) L S I) (d1 : decode cc p2 = .ok (.if_icmp .ge off, 3)) (hoff : (p2 : Int) + off = (pe : Int))
    (d3 : decode cc (p2 + 3) = .ok (.aload_n 0, 1)) (d4 : decode cc (p2 + 4) = .ok (.getfield iget, 3)) (d5 : decode cc (p2 + 7) = .ok (.iload_n 1, 1)) (d6 : decode cc (p2 + 8) = .ok (.new inew, 3)) (d7 : decode cc (p2 + 11) = .ok (.dup, 1)) (d8 : decode cc (p2 + 12) = .ok (.invokespecial iini, 3)) (d9 : decode cc (p2 + 15) = .ok (.aastore, 1)) (d10 : decode cc (p2 + 16) = .ok (.iinc 1 1, 3)) (d11 : decode cc (p2 + 19) = .ok (.goto off2, 3)) (hoff2 : ((p2 + 19 : Nat) : Int) + off2 = (p0 : Int))
    (hMa : ∀ x, n0 ≤ x → M x = ini (LT x)) (hβa : ∀ x, n0 ≤ x → β x = yT)
    (hCY : ∀ j, j < cnt → ∀ M β, CY (kG K) (kl K) (y, bc, nL, none) d mcE (n0 + sz * j) (yPre (kG K) a (n0 + sz * j) M β) (yPost (kG K) a (n0 + sz * j) (1 + mcE.1) M β))
    (hend : VV K (u.1 + sz * cnt, u.2 + (N + mcE.2) * cnt) pe [(1, .int (nI cnt)), (0, .ref r)] [] (yO (kG K) a r (n0 + sz * cnt) M (bups β q (yLt cnt)) f b)) :
    ∀ d0 j, j + d0 = cnt → VV K (u.1 + sz * j, u.2 + (N + mcE.2) * j) p0 [(1, .int (nI j)), (0, .ref r)] [] (yO (kG K) a r (n0 + sz * j) M (bups β q (yLt j)) f b) := by
  intro g
  induction g with
  | zero =>
    intro j hj
    have hj : j = cnt := by omega
    subst hj
    refine vv_iload_n hb d0 rfl 0 rfl (hpush _ _ _ _ ?_)
    refine vv_icmp_ge hb d1 hoff (fun _ => hend) (fun z => absurd (Int32.le_refl _) z)
  | succ g ih =>
    intro j hj
    have hjc : j < cnt := by omega
    have hs1 : sz * (j + 1) = sz * j + sz := Nat.mul_succ _ _
    have hs2 : (N + mcE.2) * (j + 1) = (N + mcE.2) * j + (N + mcE.2) := Nat.mul_succ _ _
    have hs3 : sz * (j + 1) ≤ sz * cnt := Nat.mul_le_mul_left _ hjc
    have hs4 : (N + mcE.2) * (j + 1) ≤ (N + mcE.2) * cnt := Nat.mul_le_mul_left _ hjc
    obtain ⟨e1, e2⟩ := hel j hjc
    refine vv_iload_n hb d0 rfl 0 rfl (hpush _ _ _ _ ?_)
    refine vv_icmp_ge hb d1 hoff (fun z => absurd ((nI_leI (by omega) (by omega)).mp z) (by omega)) (fun _ => ?_)
    refine vv_aload_n hb d3 rfl 1 rfl ?_
    refine vv_getr hb ho hcO hrO ha (by omega) hkA hsA hvA (by rw [bups_same]; exact hbA) hlA hrefA d4 ?_
    refine vv_iload_n hb d5 rfl 0 rfl ?_
    refine vv_new3 (mc' := mcE) hb ho hE hR hc e1 (by omega) hsq (by omega) hcl hinst hdf hMk hyc hy hlink hins hd (by show u.1 + sz * j + (1 + mcE.1) ≤ mc.1 ∧ u.2 + (N + mcE.2) * j + (N + mcE.2) ≤ mc.2; omega) rfl d6 d7 d8 (fun x hx => by rw [ups_ne _ _ (by omega)]; exact hMa x (by omega)) (fun x hx => by rw [bups_ne _ _ (by omega), bups_ne _ _ (by omega)]; exact hβa x (by omega)) (hCY j hjc _ _) ?_
    refine vv_aast (k := j) hb hE hsq (fun _ => ⟨by omega, by show n0 + sz * j + (1 + mcE.1) = r + 1 + (u.1 + sz * j + (1 + mcE.1)); omega⟩) (by omega) ht hc.1.1 hc.1.2.2.1 hq h30 (by omega) (by omega) e1 (by omega) (by omega) e2 rfl (by rw [hLq]; exact hjc) (by rw [hLq]; omega) d9 ?_
    refine vv_iinc (v := nI (j + 1)) hb d10 0 rfl (nI_1 j) hnl h2 [0, 1] rfl ?_
    refine vv_goto hb d11 hoff2 ?_
    have z := ih (j + 1) (by omega)
    rw [hs1, hs2] at z
    rw [bups_ne _ _ (by omega), bups_same, bset_lt, bups_sw _ _ _ (show r ≠ q by omega), bups_bups]
    rw [show n0 + sz * j + (1 + mcE.1) = n0 + (sz * j + sz) by omega]
    show VV K (u.1 + sz * j + (1 + mcE.1), u.2 + (N + mcE.2) * j + (N + mcE.2)) p0 _ _ _
    rw [show u.1 + sz * j + (1 + mcE.1) = u.1 + (sz * j + sz) by omega, show u.2 + (N + mcE.2) * j + (N + mcE.2) = u.2 + ((N + mcE.2) * j + (N + mcE.2)) by omega]
    exact z
