/-! Math.min in the law -/
theorem mmw : ([.static Lib.Math.min.name, .initialized "java/lang/Math", .code Lib.Math.min.name Lib.Math.min.code 2 (some .int)] : List Cond) = ([929, 40, 930] : List Nat).filterMap (fun i => lw_all[i]?) := by decide +kernel
theorem mm_in (i : Nat) {w : Cond} (hi : ([.static Lib.Math.min.name, .initialized "java/lang/Math", .code Lib.Math.min.name Lib.Math.min.code 2 (some .int)] : List Cond)[i]? = some w) : w ∈ TG := tg_r _ _ mmw (by decide +kernel) i hi
theorem zz_mmin {K : zK} {u mc : Nat × Nat} {pc d index : Nat} {L : List (Nat × Value)} {S : List Value} {I : zM} {cc : ByteArray} {own : String} {x y : Int32} (hb : kcc K = cc) (ho : kown K = own) (hR : kR K = zR d mc) (hu : u.1 ≤ mc.1 ∧ u.2 ≤ mc.2) (h8 : (Nat.ble 1 d && Nat.ble (S.map fun v => v.category).sum 8) = true) (hlink : Cond.methodLink own index Lib.Math.min.name ∈ TG) (hdg : decode cc pc = .ok (.invokestatic index, 3)) (kk : ZZ K u (pc + 3) L (.int (if y < x then y else x) :: S) I) : ZZ K u pc L (.int y :: .int x :: S) I := by
  intro p e s m args below meth c0 Q H locs ls B hq hP hl hS
  have z := kk p e s m args below meth c0 Q H locs ls B hq hP hl hS
  obtain ⟨b1, b2, b3, hts, hown, -⟩ := B
  rw [ho] at hown
  rw [Bool.and_eq_true] at h8
  have hd := Nat.le_of_ble_eq_true h8.1
  have h9 := Nat.le_of_ble_eq_true h8.2
  have e9 : ((S.map (zv (kG K))).map fun v => v.category) = S.map fun v => v.category := by
    rw [List.map_map]; exact List.map_congr_left (fun v _ => zv_cat v)
  refine va_mmin b1 (b2.trans hb) (b3.trans hl.1.symm) hown (hts _ hlink) (hts _ (mm_in 0 rfl)) (hts _ (mm_in 1 rfl)) (hts _ (mm_in 2 rfl)) (by rw [hR]; exact hd) (by rw [hR, e9]; show _ + 13 ≤ 40 * d; omega) (by rw [hR]; exact hu.1) (by rw [hR]; exact hu.2) hdg z
set_option maxRecDepth 20000 in
theorem nX11_write_0 {K : zK} {P : Option Value → zM → Prop} {X : String → zM → Prop} (hK : zIs K RX11 cX11_write 3 none 8 (0, 0) P X) (hw : wOK (kw K)) {I : zM} (t0 : isT (kw K) 11 312) {v1 : Int32} {f1 : Int32} {g1 : zM} (m1 : CT (kG K) (kw K) (kl K) (yX11_current, cX11_current, 1, (some .int)) 0 (0, 0) [.ref 312] I (qE f1 g1) nX) (k3 : ∀ (c2 : f1 < 0), ZZ K (0, 0) 55 [(0, .ref 312), (1, .int v1), (2, .int f1)] [] g1) (k5 : ∀ (c2 : ¬ f1 < 0) (c4 : f1 = v1), ZZ K (0, 0) 55 [(0, .ref 312), (1, .int v1), (2, .int f1)] [] g1) {f6 : Int32} {g6 : zM} (m6 : ∀ (c2 : ¬ f1 < 0) (c4 : ¬ f1 = v1), CT (kG K) (kw K) (kl K) (yX10_length, cX10_length, 2, (some .int)) 7 (0, 0) [.ref 0, .int f1] g1 (qE f6 g6) nX) (h7 : ∀ (c2 : ¬ f1 < 0) (c4 : ¬ f1 = v1), vp_in f1 12) {f8 : Int32} {g8 : zM} (m8 : ∀ (c2 : ¬ f1 < 0) (c4 : ¬ f1 = v1), CT (kG K) (kw K) (kl K) (yL_blot, cL_blot, 1, (some .int)) 1 (0, 0) [.ref 1400] g6 (qE f8 g8) nX) (h9 : ∀ (c2 : ¬ f1 < 0) (c4 : ¬ f1 = v1), vp_in f1 12) (k10 : ∀ (c2 : ¬ f1 < 0) (c4 : ¬ f1 = v1), ZZ K (0, 0) 55 [(0, .ref 312), (1, .int v1), (2, .int f1)] [] (up (up g8 313 (f1.toNatClampNeg) (if ((g6 313 f1.toNatClampNeg) + f8) < f6 then ((g6 313 f1.toNatClampNeg) + f8) else f6)) 312 13 (((up g8 313 (f1.toNatClampNeg) (if ((g6 313 f1.toNatClampNeg) + f8) < f6 then ((g6 313 f1.toNatClampNeg) + f8) else f6)) 312 13) + (1 : Int32)))) : ZZ K (0, 0) 0 [(0, .ref 312), (1, .int v1)] [] I := by
  obtain ⟨hb, ho, hnl, hR, hE⟩ := hK
  refine zz_aload_n hb (z_dec dX11_write 0 rfl) rfl 0 rfl ?_
  refine zz_inv (as := []) (d := 0) (mc := (0, 0)) (P := (qE f1 g1)) (X := nX) hb ho hnl hR hE mkX11_current rfl ckX11 t0 rfl ⟨Nat.le_refl 0, Nat.le_refl 0⟩ rfl (rX11_write 0 rfl) (rX11_write 1 rfl) (rX11_write 2 rfl) rfl (z_dec dX11_write 1 rfl) m1 (fun v J1 hp => ?_) (fun _ _ h => h.elim)
  obtain ⟨r1, rfl, e1, w1⟩ := hp
  have e1 := e1.symm
  subst e1
  have w1 := w1.symm
  subst w1
  show ZZ K (0, 0) 4 [(0, .ref 312), (1, .int v1)] [.int f1] g1
  refine zz_istore_n (L' := [(0, .ref 312), (1, .int v1), (2, .int f1)]) hb (z_dec dX11_write 2 rfl) rfl hnl rfl [1, 2, 0] rfl ?_
  refine zz_iload_n hb (z_dec dX11_write 3 rfl) rfl 2 rfl ?_
  refine zz_if_lt (tgt := 55) hb (z_dec dX11_write 4 rfl) (by decide) (fun c2 => ?_) (fun c2 => ?_)
  · exact (k3 c2)
  · refine zz_iload_n hb (z_dec dX11_write 5 rfl) rfl 2 rfl ?_
    refine zz_iload_n hb (z_dec dX11_write 6 rfl) rfl 1 rfl ?_
    refine zz_icmp_eq (tgt := 55) hb (z_dec dX11_write 7 rfl) (by decide) (fun c4 => ?_) (fun c4 => ?_)
    · exact (k5 c2 c4)
    · refine zz_aload_n hb (z_dec dX11_write 8 rfl) rfl 0 rfl ?_
      refine zz_getr (k := 2) (q := 313) hb ho rfl ckX11 t0 rfl rfl (rX11_write 3 rfl) rfl (z_dec dX11_write 9 rfl) ?_
      refine zz_iload_n hb (z_dec dX11_write 10 rfl) rfl 2 rfl ?_
      refine zz_aload_n hb (z_dec dX11_write 11 rfl) rfl 0 rfl ?_
      refine zz_getr (k := 0) (q := 0) hb ho rfl ckX11 t0 rfl rfl (rX11_write 4 rfl) rfl (z_dec dX11_write 12 rfl) ?_
      refine zz_iload_n hb (z_dec dX11_write 13 rfl) rfl 2 rfl ?_
      refine zz_inv (as := [.int f1]) (d := 7) (mc := (0, 0)) (P := (qE f6 g6)) (X := nX) hb ho hnl hR hE mkX10_length rfl ckX10 (show isT (kw K) 10 0 from isT.f (k := 0) t0 hw rfl rfl rfl (by decide)) rfl ⟨Nat.le_refl 0, Nat.le_refl 0⟩ rfl (rX11_write 5 rfl) (rX11_write 6 rfl) (rX11_write 7 rfl) rfl (z_dec dX11_write 14 rfl) (m6 c2 c4) (fun v J6 hp => ?_) (fun _ _ h => h.elim)
      obtain ⟨r6, rfl, e6, w6⟩ := hp
      have e6 := e6.symm
      subst e6
      have w6 := w6.symm
      subst w6
      show ZZ K (0, 0) 27 [(0, .ref 312), (1, .int v1), (2, .int f1)] [.int f6, .int f1, .ref 313] g6
      refine zz_aload_n hb (z_dec dX11_write 15 rfl) rfl 0 rfl ?_
      refine zz_getr (k := 2) (q := 313) hb ho rfl ckX11 t0 rfl rfl (rX11_write 3 rfl) rfl (z_dec dX11_write 16 rfl) ?_
      refine zz_iload_n hb (z_dec dX11_write 17 rfl) rfl 2 rfl ?_
      refine zz_iald (j := f1.toNatClampNeg) hb (show isT (kw K) 20 313 from isT.f (k := 2) t0 hw rfl rfl rfl (by decide)) rfl (zvi rfl (h7 c2 c4)) (z_dec dX11_write 18 rfl) ?_
      refine zz_aload_n hb (z_dec dX11_write 19 rfl) rfl 0 rfl ?_
      refine zz_getr (k := 1) (q := 1400) hb ho rfl ckX11 t0 rfl rfl (rX11_write 8 rfl) rfl (z_dec dX11_write 20 rfl) ?_
      refine zz_invSN (as := [.ref 1400]) (d := 1) (mc := (0, 0)) (P := (qE f8 g8)) (X := nX) hb ho hnl hR hE mkL_blot rfl rfl ⟨Nat.le_refl 0, Nat.le_refl 0⟩ rfl (List.mem_of_getElem? (i := 13) rfl) (rX11_write 9 rfl) rfl (z_dec dX11_write 21 rfl) (m8 c2 c4) (fun v J8 hp => ?_) (fun _ _ h => h.elim)
      obtain ⟨r8, rfl, e8, w8⟩ := hp
      have e8 := e8.symm
      subst e8
      have w8 := w8.symm
      subst w8
      show ZZ K (0, 0) 40 [(0, .ref 312), (1, .int v1), (2, .int f1)] [.int f8, .int (g6 313 f1.toNatClampNeg), .int f6, .int f1, .ref 313] g8
      refine zz_iadd hb (z_dec dX11_write 22 rfl) ?_
      refine zz_mmin hb ho hR (by decide) rfl (rX11_write 10 rfl) (z_dec dX11_write 23 rfl) ?_
      refine zz_iast (j := f1.toNatClampNeg) hb (show isT (kw K) 20 313 from isT.f (k := 2) t0 hw rfl rfl rfl (by decide)) rfl (zvi rfl (h9 c2 c4)) (z_dec dX11_write 24 rfl) ?_
      refine zz_aload_n hb (z_dec dX11_write 25 rfl) rfl 0 rfl ?_
      refine zz_dup hb (z_dec dX11_write 26 rfl) rfl ?_
      refine zz_get (k := 13) hb ho ckX11 t0 rfl rfl (rX11_write 12 rfl) rfl (z_dec dX11_write 27 rfl) ?_
      refine zz_iconst (v := (1 : Int32)) hb (z_dec dX11_write 28 rfl) (by decide) ?_
      refine zz_iadd hb (z_dec dX11_write 29 rfl) ?_
      refine zz_put (k := 13) hb ho ckX11 t0 rfl rfl (rX11_write 12 rfl) rfl rfl rfl (z_dec dX11_write 30 rfl) ?_
      exact (k10 c2 c4)
