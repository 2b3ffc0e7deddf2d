set_option maxRecDepth 20000 in
theorem bX11_read_0 {K : zK} {P : Option Value → zM → Prop} {X : String → zM → Prop} (hK : zIs K RX11 cX11_read 2 none 8 (0, 0) P X) (hw : wOK (kw K)) {I : zM} (t0 : isT (kw K) 11 312) {f1 : Int32} {g1 : zM} (m1 : CT (kG K) (kw K) (kl K) (yX10_letterCount, cX10_letterCount, 1, (some .int)) 0 (0, 0) [.ref 0] I (qE f1 g1) nX) {f2 : Int32} {g2 : zM} (m2 : CT (kG K) (kw K) (kl K) (yX10_minute, cX10_minute, 1, (some .int)) 0 (0, 0) [.ref 0] (up g1 312 5 f1) (qE f2 g2) nX) {f3 : Int32} {g3 : zM} (m3 : CT (kG K) (kw K) (kl K) (yX10_holder, cX10_holder, 1, (some .int)) 0 (0, 0) [.ref 0] (up g2 312 6 f2) (qE f3 g3) nX) {f4 : Int32} {g4 : zM} (m4 : CT (kG K) (kw K) (kl K) (yX10_ink, cX10_ink, 1, (some .int)) 0 (0, 0) [.ref 0] (up g3 312 7 f3) (qE f4 g4) nX) {f5 : Int32} {g5 : zM} (m5 : CT (kG K) (kw K) (kl K) (yX10_refillLeft, cX10_refillLeft, 1, (some .int)) 0 (0, 0) [.ref 0] (up g4 312 10 f4) (qE f5 g5) nX) {f6 : Int32} {g6 : zM} (m6 : CT (kG K) (kw K) (kl K) (yX10_handOverLeft, cX10_handOverLeft, 1, (some .int)) 0 (0, 0) [.ref 0] (up g5 312 11 f5) (qE f6 g6) nX) {f7 : Int32} {g7 : zM} (m7 : CT (kG K) (kw K) (kl K) (yX10_blots, cX10_blots, 1, (some .int)) 0 (0, 0) [.ref 0] (up g6 312 12 f6) (qE f7 g7) nX) {f8 : Int32} {g8 : zM} (m8 : CT (kG K) (kw K) (kl K) (yX10_handOvers, cX10_handOvers, 1, (some .int)) 0 (0, 0) [.ref 0] (up g7 312 13 f7) (qE f8 g8) nX) {f9 : Int32} {g9 : zM} (m9 : CT (kG K) (kw K) (kl K) (yX10_writtenMinutes, cX10_writtenMinutes, 1, (some .int)) 0 (0, 0) [.ref 0] (up g8 312 14 f8) (qE f9 g9) nX) {f10 : Int32} {g10 : zM} (m10 : CT (kG K) (kw K) (kl K) (yX10_idleMinutes, cX10_idleMinutes, 1, (some .int)) 0 (0, 0) [.ref 0] (up g9 312 15 f9) (qE f10 g10) nX) (k11 : ZZ K (0, 0) 112 [(0, .ref 312), (1, .int (0 : Int32))] [] (up g10 312 16 f10)) : ZZ K (0, 0) 0 [(0, .ref 312)] [] I := by
  obtain ⟨hb, ho, hnl, hR, hE⟩ := hK
  refine zz_aload_n hb (z_dec dX11_read 0 rfl) rfl 0 rfl ?_
  refine zz_aload_n hb (z_dec dX11_read 1 rfl) rfl 0 rfl ?_
  refine zz_getr (k := 0) (q := 0) hb ho rfl ckX11 t0 rfl rfl (rX11_read 0 rfl) rfl (z_dec dX11_read 2 rfl) ?_
  refine zz_inv (as := []) (d := 0) (mc := (0, 0)) (P := (qE f1 g1)) (X := nX) hb ho hnl hR hE mkX10_letterCount rfl ckX10 (show isT (kw K) 10 0 from isT.f (k := 0) t0 hw rfl rfl rfl (by decide)) rfl ⟨Nat.le_refl 0, Nat.le_refl 0⟩ rfl (rX11_read 1 rfl) (rX11_read 2 rfl) (rX11_read 3 rfl) rfl (z_dec dX11_read 3 rfl) m1 (fun v J1 hp => ?_) (fun _ _ h => h.elim)
  obtain ⟨r1, rfl, e1, w1⟩ := hp
  have e1 := e1.symm
  subst e1
  have w1 := w1.symm
  subst w1
  show ZZ K (0, 0) 8 [(0, .ref 312)] [.int f1, .ref 312] g1
  refine zz_put (k := 5) hb ho ckX11 t0 rfl rfl (rX11_read 4 rfl) rfl rfl rfl (z_dec dX11_read 4 rfl) ?_
  refine zz_aload_n hb (z_dec dX11_read 5 rfl) rfl 0 rfl ?_
  refine zz_aload_n hb (z_dec dX11_read 6 rfl) rfl 0 rfl ?_
  refine zz_getr (k := 0) (q := 0) hb ho rfl ckX11 t0 rfl rfl (rX11_read 0 rfl) rfl (z_dec dX11_read 7 rfl) ?_
  refine zz_inv (as := []) (d := 0) (mc := (0, 0)) (P := (qE f2 g2)) (X := nX) hb ho hnl hR hE mkX10_minute rfl ckX10 (show isT (kw K) 10 0 from isT.f (k := 0) t0 hw rfl rfl rfl (by decide)) rfl ⟨Nat.le_refl 0, Nat.le_refl 0⟩ rfl (rX11_read 5 rfl) (rX11_read 6 rfl) (rX11_read 7 rfl) rfl (z_dec dX11_read 8 rfl) m2 (fun v J2 hp => ?_) (fun _ _ h => h.elim)
  obtain ⟨r2, rfl, e2, w2⟩ := hp
  have e2 := e2.symm
  subst e2
  have w2 := w2.symm
  subst w2
  show ZZ K (0, 0) 19 [(0, .ref 312)] [.int f2, .ref 312] g2
  refine zz_put (k := 6) hb ho ckX11 t0 rfl rfl (rX11_read 8 rfl) rfl rfl rfl (z_dec dX11_read 9 rfl) ?_
  refine zz_aload_n hb (z_dec dX11_read 10 rfl) rfl 0 rfl ?_
  refine zz_aload_n hb (z_dec dX11_read 11 rfl) rfl 0 rfl ?_
  refine zz_getr (k := 0) (q := 0) hb ho rfl ckX11 t0 rfl rfl (rX11_read 0 rfl) rfl (z_dec dX11_read 12 rfl) ?_
  refine zz_inv (as := []) (d := 0) (mc := (0, 0)) (P := (qE f3 g3)) (X := nX) hb ho hnl hR hE mkX10_holder rfl ckX10 (show isT (kw K) 10 0 from isT.f (k := 0) t0 hw rfl rfl rfl (by decide)) rfl ⟨Nat.le_refl 0, Nat.le_refl 0⟩ rfl (rX11_read 9 rfl) (rX11_read 10 rfl) (rX11_read 11 rfl) rfl (z_dec dX11_read 13 rfl) m3 (fun v J3 hp => ?_) (fun _ _ h => h.elim)
  obtain ⟨r3, rfl, e3, w3⟩ := hp
  have e3 := e3.symm
  subst e3
  have w3 := w3.symm
  subst w3
  show ZZ K (0, 0) 30 [(0, .ref 312)] [.int f3, .ref 312] g3
  refine zz_put (k := 7) hb ho ckX11 t0 rfl rfl (rX11_read 12 rfl) rfl rfl rfl (z_dec dX11_read 14 rfl) ?_
  refine zz_aload_n hb (z_dec dX11_read 15 rfl) rfl 0 rfl ?_
  refine zz_aload_n hb (z_dec dX11_read 16 rfl) rfl 0 rfl ?_
  refine zz_getr (k := 0) (q := 0) hb ho rfl ckX11 t0 rfl rfl (rX11_read 0 rfl) rfl (z_dec dX11_read 17 rfl) ?_
  refine zz_inv (as := []) (d := 0) (mc := (0, 0)) (P := (qE f4 g4)) (X := nX) hb ho hnl hR hE mkX10_ink rfl ckX10 (show isT (kw K) 10 0 from isT.f (k := 0) t0 hw rfl rfl rfl (by decide)) rfl ⟨Nat.le_refl 0, Nat.le_refl 0⟩ rfl (rX11_read 13 rfl) (rX11_read 14 rfl) (rX11_read 15 rfl) rfl (z_dec dX11_read 18 rfl) m4 (fun v J4 hp => ?_) (fun _ _ h => h.elim)
  obtain ⟨r4, rfl, e4, w4⟩ := hp
  have e4 := e4.symm
  subst e4
  have w4 := w4.symm
  subst w4
  show ZZ K (0, 0) 41 [(0, .ref 312)] [.int f4, .ref 312] g4
  refine zz_put (k := 10) hb ho ckX11 t0 rfl rfl (rX11_read 16 rfl) rfl rfl rfl (z_dec dX11_read 19 rfl) ?_
  refine zz_aload_n hb (z_dec dX11_read 20 rfl) rfl 0 rfl ?_
  refine zz_aload_n hb (z_dec dX11_read 21 rfl) rfl 0 rfl ?_
  refine zz_getr (k := 0) (q := 0) hb ho rfl ckX11 t0 rfl rfl (rX11_read 0 rfl) rfl (z_dec dX11_read 22 rfl) ?_
  refine zz_inv (as := []) (d := 0) (mc := (0, 0)) (P := (qE f5 g5)) (X := nX) hb ho hnl hR hE mkX10_refillLeft rfl ckX10 (show isT (kw K) 10 0 from isT.f (k := 0) t0 hw rfl rfl rfl (by decide)) rfl ⟨Nat.le_refl 0, Nat.le_refl 0⟩ rfl (rX11_read 17 rfl) (rX11_read 18 rfl) (rX11_read 19 rfl) rfl (z_dec dX11_read 23 rfl) m5 (fun v J5 hp => ?_) (fun _ _ h => h.elim)
  obtain ⟨r5, rfl, e5, w5⟩ := hp
  have e5 := e5.symm
  subst e5
  have w5 := w5.symm
  subst w5
  show ZZ K (0, 0) 52 [(0, .ref 312)] [.int f5, .ref 312] g5
  refine zz_put (k := 11) hb ho ckX11 t0 rfl rfl (rX11_read 20 rfl) rfl rfl rfl (z_dec dX11_read 24 rfl) ?_
  refine zz_aload_n hb (z_dec dX11_read 25 rfl) rfl 0 rfl ?_
  refine zz_aload_n hb (z_dec dX11_read 26 rfl) rfl 0 rfl ?_
  refine zz_getr (k := 0) (q := 0) hb ho rfl ckX11 t0 rfl rfl (rX11_read 0 rfl) rfl (z_dec dX11_read 27 rfl) ?_
  refine zz_inv (as := []) (d := 0) (mc := (0, 0)) (P := (qE f6 g6)) (X := nX) hb ho hnl hR hE mkX10_handOverLeft rfl ckX10 (show isT (kw K) 10 0 from isT.f (k := 0) t0 hw rfl rfl rfl (by decide)) rfl ⟨Nat.le_refl 0, Nat.le_refl 0⟩ rfl (rX11_read 21 rfl) (rX11_read 22 rfl) (rX11_read 23 rfl) rfl (z_dec dX11_read 28 rfl) m6 (fun v J6 hp => ?_) (fun _ _ h => h.elim)
  obtain ⟨r6, rfl, e6, w6⟩ := hp
  have e6 := e6.symm
  subst e6
  have w6 := w6.symm
  subst w6
  show ZZ K (0, 0) 63 [(0, .ref 312)] [.int f6, .ref 312] g6
  refine zz_put (k := 12) hb ho ckX11 t0 rfl rfl (rX11_read 24 rfl) rfl rfl rfl (z_dec dX11_read 29 rfl) ?_
  refine zz_aload_n hb (z_dec dX11_read 30 rfl) rfl 0 rfl ?_
  refine zz_aload_n hb (z_dec dX11_read 31 rfl) rfl 0 rfl ?_
  refine zz_getr (k := 0) (q := 0) hb ho rfl ckX11 t0 rfl rfl (rX11_read 0 rfl) rfl (z_dec dX11_read 32 rfl) ?_
  refine zz_inv (as := []) (d := 0) (mc := (0, 0)) (P := (qE f7 g7)) (X := nX) hb ho hnl hR hE mkX10_blots rfl ckX10 (show isT (kw K) 10 0 from isT.f (k := 0) t0 hw rfl rfl rfl (by decide)) rfl ⟨Nat.le_refl 0, Nat.le_refl 0⟩ rfl (rX11_read 25 rfl) (rX11_read 26 rfl) (rX11_read 27 rfl) rfl (z_dec dX11_read 33 rfl) m7 (fun v J7 hp => ?_) (fun _ _ h => h.elim)
  obtain ⟨r7, rfl, e7, w7⟩ := hp
  have e7 := e7.symm
  subst e7
  have w7 := w7.symm
  subst w7
  show ZZ K (0, 0) 74 [(0, .ref 312)] [.int f7, .ref 312] g7
  refine zz_put (k := 13) hb ho ckX11 t0 rfl rfl (rX11_read 28 rfl) rfl rfl rfl (z_dec dX11_read 34 rfl) ?_
  refine zz_aload_n hb (z_dec dX11_read 35 rfl) rfl 0 rfl ?_
  refine zz_aload_n hb (z_dec dX11_read 36 rfl) rfl 0 rfl ?_
  refine zz_getr (k := 0) (q := 0) hb ho rfl ckX11 t0 rfl rfl (rX11_read 0 rfl) rfl (z_dec dX11_read 37 rfl) ?_
  refine zz_inv (as := []) (d := 0) (mc := (0, 0)) (P := (qE f8 g8)) (X := nX) hb ho hnl hR hE mkX10_handOvers rfl ckX10 (show isT (kw K) 10 0 from isT.f (k := 0) t0 hw rfl rfl rfl (by decide)) rfl ⟨Nat.le_refl 0, Nat.le_refl 0⟩ rfl (rX11_read 29 rfl) (rX11_read 30 rfl) (rX11_read 31 rfl) rfl (z_dec dX11_read 38 rfl) m8 (fun v J8 hp => ?_) (fun _ _ h => h.elim)
  obtain ⟨r8, rfl, e8, w8⟩ := hp
  have e8 := e8.symm
  subst e8
  have w8 := w8.symm
  subst w8
  show ZZ K (0, 0) 85 [(0, .ref 312)] [.int f8, .ref 312] g8
  refine zz_put (k := 14) hb ho ckX11 t0 rfl rfl (rX11_read 32 rfl) rfl rfl rfl (z_dec dX11_read 39 rfl) ?_
  refine zz_aload_n hb (z_dec dX11_read 40 rfl) rfl 0 rfl ?_
  refine zz_aload_n hb (z_dec dX11_read 41 rfl) rfl 0 rfl ?_
  refine zz_getr (k := 0) (q := 0) hb ho rfl ckX11 t0 rfl rfl (rX11_read 0 rfl) rfl (z_dec dX11_read 42 rfl) ?_
  refine zz_inv (as := []) (d := 0) (mc := (0, 0)) (P := (qE f9 g9)) (X := nX) hb ho hnl hR hE mkX10_writtenMinutes rfl ckX10 (show isT (kw K) 10 0 from isT.f (k := 0) t0 hw rfl rfl rfl (by decide)) rfl ⟨Nat.le_refl 0, Nat.le_refl 0⟩ rfl (rX11_read 33 rfl) (rX11_read 34 rfl) (rX11_read 35 rfl) rfl (z_dec dX11_read 43 rfl) m9 (fun v J9 hp => ?_) (fun _ _ h => h.elim)
  obtain ⟨r9, rfl, e9, w9⟩ := hp
  have e9 := e9.symm
  subst e9
  have w9 := w9.symm
  subst w9
  show ZZ K (0, 0) 96 [(0, .ref 312)] [.int f9, .ref 312] g9
  refine zz_put (k := 15) hb ho ckX11 t0 rfl rfl (rX11_read 36 rfl) rfl rfl rfl (z_dec dX11_read 44 rfl) ?_
  refine zz_aload_n hb (z_dec dX11_read 45 rfl) rfl 0 rfl ?_
  refine zz_aload_n hb (z_dec dX11_read 46 rfl) rfl 0 rfl ?_
  refine zz_getr (k := 0) (q := 0) hb ho rfl ckX11 t0 rfl rfl (rX11_read 0 rfl) rfl (z_dec dX11_read 47 rfl) ?_
  refine zz_inv (as := []) (d := 0) (mc := (0, 0)) (P := (qE f10 g10)) (X := nX) hb ho hnl hR hE mkX10_idleMinutes rfl ckX10 (show isT (kw K) 10 0 from isT.f (k := 0) t0 hw rfl rfl rfl (by decide)) rfl ⟨Nat.le_refl 0, Nat.le_refl 0⟩ rfl (rX11_read 37 rfl) (rX11_read 38 rfl) (rX11_read 39 rfl) rfl (z_dec dX11_read 48 rfl) m10 (fun v J10 hp => ?_) (fun _ _ h => h.elim)
  obtain ⟨r10, rfl, e10, w10⟩ := hp
  have e10 := e10.symm
  subst e10
  have w10 := w10.symm
  subst w10
  show ZZ K (0, 0) 107 [(0, .ref 312)] [.int f10, .ref 312] g10
  refine zz_put (k := 16) hb ho ckX11 t0 rfl rfl (rX11_read 40 rfl) rfl rfl rfl (z_dec dX11_read 49 rfl) ?_
  refine zz_iconst (v := (0 : Int32)) hb (z_dec dX11_read 50 rfl) (by decide) ?_
  refine zz_istore_n (L' := [(0, .ref 312), (1, .int (0 : Int32))]) hb (z_dec dX11_read 51 rfl) rfl hnl rfl [1, 0] rfl ?_
  exact k11
set_option maxRecDepth 20000 in
theorem bX11_read_112 {K : zK} {P : Option Value → zM → Prop} {X : String → zM → Prop} (hK : zIs K RX11 cX11_read 2 none 8 (0, 0) P X) (hw : wOK (kw K)) {I : zM} (t0 : isT (kw K) 11 312) {v1 : Int32} (h2 : ∀ (c1 : (I 312 5) ≤ v1), P none I) {f3 : Int32} {g3 : zM} (m3 : ∀ (c1 : ¬ (I 312 5) ≤ v1), CT (kG K) (kw K) (kl K) (yX10_remaining, cX10_remaining, 2, (some .int)) 7 (0, 0) [.ref 0, .int v1] I (qE f3 g3) nX) (h4 : ∀ (c1 : ¬ (I 312 5) ≤ v1), vp_in v1 12) {f5 : Int32} {g5 : zM} (m5 : ∀ (c1 : ¬ (I 312 5) ≤ v1), CT (kG K) (kw K) (kl K) (yX10_finishMinute, cX10_finishMinute, 2, (some .int)) 7 (0, 0) [.ref 0, .int v1] (up g3 313 (v1.toNatClampNeg) f3) (qE f5 g5) nX) (h6 : ∀ (c1 : ¬ (I 312 5) ≤ v1), vp_in v1 12) (k7 : ∀ (c1 : ¬ (I 312 5) ≤ v1), ZZ K (0, 0) 112 [(0, .ref 312), (1, .int (v1 + 1))] [] (up g5 314 (v1.toNatClampNeg) f5)) : ZZ K (0, 0) 112 [(0, .ref 312), (1, .int v1)] [] I := by
  obtain ⟨hb, ho, hnl, hR, hE⟩ := hK
  refine zz_iload_n hb (z_dec dX11_read 52 rfl) rfl 1 rfl ?_
  refine zz_aload_n hb (z_dec dX11_read 53 rfl) rfl 0 rfl ?_
  refine zz_get (k := 5) hb ho ckX11 t0 rfl rfl (rX11_read 4 rfl) rfl (z_dec dX11_read 54 rfl) ?_
  refine zz_icmp_ge (tgt := 154) hb (z_dec dX11_read 55 rfl) (by decide) (fun c1 => ?_) (fun c1 => ?_)
  · exact zz_vret hb hE ⟨Nat.le_refl 0, Nat.le_refl 0⟩ (z_dec dX11_read 74 rfl) (h2 c1)
  · refine zz_aload_n hb (z_dec dX11_read 56 rfl) rfl 0 rfl ?_
    refine zz_getr (k := 2) (q := 313) hb ho rfl ckX11 t0 rfl rfl (rX11_read 41 rfl) rfl (z_dec dX11_read 57 rfl) ?_
    refine zz_iload_n hb (z_dec dX11_read 58 rfl) rfl 1 rfl ?_
    refine zz_aload_n hb (z_dec dX11_read 59 rfl) rfl 0 rfl ?_
    refine zz_getr (k := 0) (q := 0) hb ho rfl ckX11 t0 rfl rfl (rX11_read 0 rfl) rfl (z_dec dX11_read 60 rfl) ?_
    refine zz_iload_n hb (z_dec dX11_read 61 rfl) rfl 1 rfl ?_
    refine zz_inv (as := [.int v1]) (d := 7) (mc := (0, 0)) (P := (qE f3 g3)) (X := nX) hb ho hnl hR hE mkX10_remaining rfl ckX10 (show isT (kw K) 10 0 from isT.f (k := 0) t0 hw rfl rfl rfl (by decide)) rfl ⟨Nat.le_refl 0, Nat.le_refl 0⟩ rfl (rX11_read 42 rfl) (rX11_read 43 rfl) (rX11_read 44 rfl) rfl (z_dec dX11_read 62 rfl) (m3 c1) (fun v J3 hp => ?_) (fun _ _ h => h.elim)
    obtain ⟨r3, rfl, e3, w3⟩ := hp
    have e3 := e3.symm
    subst e3
    have w3 := w3.symm
    subst w3
    show ZZ K (0, 0) 133 [(0, .ref 312), (1, .int v1)] [.int f3, .int v1, .ref 313] g3
    refine zz_iast (j := v1.toNatClampNeg) hb (show isT (kw K) 20 313 from isT.f (k := 2) t0 hw rfl rfl rfl (by decide)) rfl (zvi rfl (h4 c1)) (z_dec dX11_read 63 rfl) ?_
    refine zz_aload_n hb (z_dec dX11_read 64 rfl) rfl 0 rfl ?_
    refine zz_getr (k := 3) (q := 314) hb ho rfl ckX11 t0 rfl rfl (rX11_read 45 rfl) rfl (z_dec dX11_read 65 rfl) ?_
    refine zz_iload_n hb (z_dec dX11_read 66 rfl) rfl 1 rfl ?_
    refine zz_aload_n hb (z_dec dX11_read 67 rfl) rfl 0 rfl ?_
    refine zz_getr (k := 0) (q := 0) hb ho rfl ckX11 t0 rfl rfl (rX11_read 0 rfl) rfl (z_dec dX11_read 68 rfl) ?_
    refine zz_iload_n hb (z_dec dX11_read 69 rfl) rfl 1 rfl ?_
    refine zz_inv (as := [.int v1]) (d := 7) (mc := (0, 0)) (P := (qE f5 g5)) (X := nX) hb ho hnl hR hE mkX10_finishMinute rfl ckX10 (show isT (kw K) 10 0 from isT.f (k := 0) t0 hw rfl rfl rfl (by decide)) rfl ⟨Nat.le_refl 0, Nat.le_refl 0⟩ rfl (rX11_read 46 rfl) (rX11_read 47 rfl) (rX11_read 48 rfl) rfl (z_dec dX11_read 70 rfl) (m5 c1) (fun v J5 hp => ?_) (fun _ _ h => h.elim)
    obtain ⟨r5, rfl, e5, w5⟩ := hp
    have e5 := e5.symm
    subst e5
    have w5 := w5.symm
    subst w5
    show ZZ K (0, 0) 147 [(0, .ref 312), (1, .int v1)] [.int f5, .int v1, .ref 314] g5
    refine zz_iast (j := v1.toNatClampNeg) hb (show isT (kw K) 20 314 from isT.f (k := 3) t0 hw rfl rfl rfl (by decide)) rfl (zvi rfl (h6 c1)) (z_dec dX11_read 71 rfl) ?_
    refine zz_iinc (v := (v1 + 1)) (L' := [(0, .ref 312), (1, .int (v1 + 1))]) hb (z_dec dX11_read 72 rfl) 1 rfl rfl hnl rfl [1, 0] rfl ?_
    refine zz_goto (tgt := 112) hb (z_dec dX11_read 73 rfl) (by decide) ?_
    exact (k7 c1)
set_option maxRecDepth 20000 in
theorem bX11_isReady_0 {K : zK} {P : Option Value → zM → Prop} {X : String → zM → Prop} (hK : zIs K RX11 cX11_isReady 2 (some .boolean) 8 (0, 0) P X) (hw : wOK (kw K)) {I : zM} (t0 : isT (kw K) 11 312) {v1 : Int32} {f1 : Int32} {g1 : zM} (m1 : CT (kG K) (kw K) (kl K) (yX10_arrival, cX10_arrival, 2, (some .int)) 7 (0, 0) [.ref 0, .int v1] I (qE f1 g1) nX) (h3 : ∀ (c2 : (g1 312 6) < f1), P (some (.int (0 : Int32))) g1) (h4 : ∀ (c2 : ¬ (g1 312 6) < f1), vp_in v1 12) (h6 : ∀ (c2 : ¬ (g1 312 6) < f1) (c5 : (g1 313 v1.toNatClampNeg) ≤ 0), P (some (.int (0 : Int32))) g1) (h7 : ∀ (c2 : ¬ (g1 312 6) < f1) (c5 : ¬ (g1 313 v1.toNatClampNeg) ≤ 0), P (some (.int (1 : Int32))) g1) : ZZ K (0, 0) 0 [(0, .ref 312), (1, .int v1)] [] I := by
  obtain ⟨hb, ho, hnl, hR, hE⟩ := hK
  refine zz_aload_n hb (z_dec dX11_isReady 0 rfl) rfl 0 rfl ?_
  refine zz_getr (k := 0) (q := 0) hb ho rfl ckX11 t0 rfl rfl (rX11_isReady 0 rfl) rfl (z_dec dX11_isReady 1 rfl) ?_
  refine zz_iload_n hb (z_dec dX11_isReady 2 rfl) rfl 1 rfl ?_
  refine zz_inv (as := [.int v1]) (d := 7) (mc := (0, 0)) (P := (qE f1 g1)) (X := nX) hb ho hnl hR hE mkX10_arrival rfl ckX10 (show isT (kw K) 10 0 from isT.f (k := 0) t0 hw rfl rfl rfl (by decide)) rfl ⟨Nat.le_refl 0, Nat.le_refl 0⟩ rfl (rX11_isReady 1 rfl) (rX11_isReady 2 rfl) (rX11_isReady 3 rfl) rfl (z_dec dX11_isReady 3 rfl) m1 (fun v J1 hp => ?_) (fun _ _ h => h.elim)
  obtain ⟨r1, rfl, e1, w1⟩ := hp
  have e1 := e1.symm
  subst e1
  have w1 := w1.symm
  subst w1
  show ZZ K (0, 0) 8 [(0, .ref 312), (1, .int v1)] [.int f1] g1
  refine zz_aload_n hb (z_dec dX11_isReady 4 rfl) rfl 0 rfl ?_
  refine zz_get (k := 6) hb ho ckX11 t0 rfl rfl (rX11_isReady 4 rfl) rfl (z_dec dX11_isReady 5 rfl) ?_
  refine zz_icmp_gt (tgt := 28) hb (z_dec dX11_isReady 6 rfl) (by decide) (fun c2 => ?_) (fun c2 => ?_)
  · refine zz_iconst (v := (0 : Int32)) hb (z_dec dX11_isReady 14 rfl) (by decide) ?_
    exact zz_zret hb hE ⟨Nat.le_refl 0, Nat.le_refl 0⟩ (by decide) (z_dec dX11_isReady 15 rfl) (h3 c2)
  · refine zz_aload_n hb (z_dec dX11_isReady 7 rfl) rfl 0 rfl ?_
    refine zz_getr (k := 2) (q := 313) hb ho rfl ckX11 t0 rfl rfl (rX11_isReady 5 rfl) rfl (z_dec dX11_isReady 8 rfl) ?_
    refine zz_iload_n hb (z_dec dX11_isReady 9 rfl) rfl 1 rfl ?_
    refine zz_iald (j := v1.toNatClampNeg) hb (show isT (kw K) 20 313 from isT.f (k := 2) t0 hw rfl rfl rfl (by decide)) rfl (zvi rfl (h4 c2)) (z_dec dX11_isReady 10 rfl) ?_
    refine zz_if_le (tgt := 28) hb (z_dec dX11_isReady 11 rfl) (by decide) (fun c5 => ?_) (fun c5 => ?_)
    · refine zz_iconst (v := (0 : Int32)) hb (z_dec dX11_isReady 14 rfl) (by decide) ?_
      exact zz_zret hb hE ⟨Nat.le_refl 0, Nat.le_refl 0⟩ (by decide) (z_dec dX11_isReady 15 rfl) (h6 c2 c5)
    · refine zz_iconst (v := (1 : Int32)) hb (z_dec dX11_isReady 12 rfl) (by decide) ?_
      refine zz_goto (tgt := 29) hb (z_dec dX11_isReady 13 rfl) (by decide) ?_
      exact zz_zret hb hE ⟨Nat.le_refl 0, Nat.le_refl 0⟩ (by decide) (z_dec dX11_isReady 15 rfl) (h7 c2 c5)
set_option maxRecDepth 20000 in
theorem bX11_current_0 {K : zK} {P : Option Value → zM → Prop} {X : String → zM → Prop} (hK : zIs K RX11 cX11_current 1 (some .int) 0 (0, 0) P X) (hw : wOK (kw K)) {I : zM} (t0 : isT (kw K) 11 312) (h2 : ∀ (c1 : (I 312 8) < 0), P (some (.int (-1 : Int32))) I) (h3 : ∀ (c1 : ¬ (I 312 8) < 0), vp_in (I 312 8) 12) (h5 : ∀ (c1 : ¬ (I 312 8) < 0) (c4 : (I 313 (I 312 8).toNatClampNeg) ≤ 0), P (some (.int (-1 : Int32))) I) (h6 : ∀ (c1 : ¬ (I 312 8) < 0) (c4 : ¬ (I 313 (I 312 8).toNatClampNeg) ≤ 0), P (some (.int (I 312 8))) I) : ZZ K (0, 0) 0 [(0, .ref 312)] [] I := by
  obtain ⟨hb, ho, hnl, hR, hE⟩ := hK
  refine zz_aload_n hb (z_dec dX11_current 0 rfl) rfl 0 rfl ?_
  refine zz_get (k := 8) hb ho ckX11 t0 rfl rfl (rX11_current 0 rfl) rfl (z_dec dX11_current 1 rfl) ?_
  refine zz_if_lt (tgt := 26) hb (z_dec dX11_current 2 rfl) (by decide) (fun c1 => ?_) (fun c1 => ?_)
  · refine zz_iconst (v := (-1 : Int32)) hb (z_dec dX11_current 12 rfl) (by decide) ?_
    exact zz_iret hb hE ⟨Nat.le_refl 0, Nat.le_refl 0⟩ (z_dec dX11_current 13 rfl) (h2 c1)
  · refine zz_aload_n hb (z_dec dX11_current 3 rfl) rfl 0 rfl ?_
    refine zz_getr (k := 2) (q := 313) hb ho rfl ckX11 t0 rfl rfl (rX11_current 1 rfl) rfl (z_dec dX11_current 4 rfl) ?_
    refine zz_aload_n hb (z_dec dX11_current 5 rfl) rfl 0 rfl ?_
    refine zz_get (k := 8) hb ho ckX11 t0 rfl rfl (rX11_current 0 rfl) rfl (z_dec dX11_current 6 rfl) ?_
    refine zz_iald (j := (I 312 8).toNatClampNeg) hb (show isT (kw K) 20 313 from isT.f (k := 2) t0 hw rfl rfl rfl (by decide)) rfl (zvi rfl (h3 c1)) (z_dec dX11_current 7 rfl) ?_
    refine zz_if_le (tgt := 26) hb (z_dec dX11_current 8 rfl) (by decide) (fun c4 => ?_) (fun c4 => ?_)
    · refine zz_iconst (v := (-1 : Int32)) hb (z_dec dX11_current 12 rfl) (by decide) ?_
      exact zz_iret hb hE ⟨Nat.le_refl 0, Nat.le_refl 0⟩ (z_dec dX11_current 13 rfl) (h5 c1 c4)
    · refine zz_aload_n hb (z_dec dX11_current 9 rfl) rfl 0 rfl ?_
      refine zz_get (k := 8) hb ho ckX11 t0 rfl rfl (rX11_current 0 rfl) rfl (z_dec dX11_current 10 rfl) ?_
      refine zz_goto (tgt := 27) hb (z_dec dX11_current 11 rfl) (by decide) ?_
      exact zz_iret hb hE ⟨Nat.le_refl 0, Nat.le_refl 0⟩ (z_dec dX11_current 13 rfl) (h6 c1 c4)
set_option maxRecDepth 20000 in
theorem bX11_waited_0 {K : zK} {P : Option Value → zM → Prop} {X : String → zM → Prop} (hK : zIs K RX11 cX11_waited 2 (some .int) 8 (0, 0) P X) (hw : wOK (kw K)) {I : zM} (t0 : isT (kw K) 11 312) {v1 : Int32} {f1 : Int32} {g1 : zM} (m1 : CT (kG K) (kw K) (kl K) (yX10_arrival, cX10_arrival, 2, (some .int)) 7 (0, 0) [.ref 0, .int v1] I (qE f1 g1) nX) (h3 : ∀ (c2 : f1 ≤ (g1 312 6)), vp_in v1 12) (k5 : ∀ (c2 : f1 ≤ (g1 312 6)) (c4 : ¬ (g1 313 v1.toNatClampNeg) = 0), ZZ K (0, 0) 39 [(0, .ref 312), (1, .int v1)] [.int (g1 312 6)] g1) (h6 : ∀ (c2 : f1 ≤ (g1 312 6)) (c4 : (g1 313 v1.toNatClampNeg) = 0), vp_in v1 12) (k7 : ∀ (c2 : f1 ≤ (g1 312 6)) (c4 : (g1 313 v1.toNatClampNeg) = 0), ZZ K (0, 0) 39 [(0, .ref 312), (1, .int v1)] [.int (g1 314 v1.toNatClampNeg)] g1) (h8 : ∀ (c2 : ¬ f1 ≤ (g1 312 6)), P (some (.int (0 : Int32))) g1) : ZZ K (0, 0) 0 [(0, .ref 312), (1, .int v1)] [] I := by
  obtain ⟨hb, ho, hnl, hR, hE⟩ := hK
  refine zz_aload_n hb (z_dec dX11_waited 0 rfl) rfl 0 rfl ?_
  refine zz_getr (k := 0) (q := 0) hb ho rfl ckX11 t0 rfl rfl (rX11_waited 0 rfl) rfl (z_dec dX11_waited 1 rfl) ?_
  refine zz_iload_n hb (z_dec dX11_waited 2 rfl) rfl 1 rfl ?_
  refine zz_inv (as := [.int v1]) (d := 7) (mc := (0, 0)) (P := (qE f1 g1)) (X := nX) hb ho hnl hR hE mkX10_arrival rfl ckX10 (show isT (kw K) 10 0 from isT.f (k := 0) t0 hw rfl rfl rfl (by decide)) rfl ⟨Nat.le_refl 0, Nat.le_refl 0⟩ rfl (rX11_waited 1 rfl) (rX11_waited 2 rfl) (rX11_waited 3 rfl) rfl (z_dec dX11_waited 3 rfl) m1 (fun v J1 hp => ?_) (fun _ _ h => h.elim)
  obtain ⟨r1, rfl, e1, w1⟩ := hp
  have e1 := e1.symm
  subst e1
  have w1 := w1.symm
  subst w1
  show ZZ K (0, 0) 8 [(0, .ref 312), (1, .int v1)] [.int f1] g1
  refine zz_aload_n hb (z_dec dX11_waited 4 rfl) rfl 0 rfl ?_
  refine zz_get (k := 6) hb ho ckX11 t0 rfl rfl (rX11_waited 4 rfl) rfl (z_dec dX11_waited 5 rfl) ?_
  refine zz_icmp_le (tgt := 17) hb (z_dec dX11_waited 6 rfl) (by decide) (fun c2 => ?_) (fun c2 => ?_)
  · refine zz_aload_n hb (z_dec dX11_waited 9 rfl) rfl 0 rfl ?_
    refine zz_getr (k := 2) (q := 313) hb ho rfl ckX11 t0 rfl rfl (rX11_waited 5 rfl) rfl (z_dec dX11_waited 10 rfl) ?_
    refine zz_iload_n hb (z_dec dX11_waited 11 rfl) rfl 1 rfl ?_
    refine zz_iald (j := v1.toNatClampNeg) hb (show isT (kw K) 20 313 from isT.f (k := 2) t0 hw rfl rfl rfl (by decide)) rfl (zvi rfl (h3 c2)) (z_dec dX11_waited 12 rfl) ?_
    refine zz_if_ne (tgt := 35) hb (z_dec dX11_waited 13 rfl) (by decide) (fun c4 => ?_) (fun c4 => ?_)
    · refine zz_aload_n hb (z_dec dX11_waited 19 rfl) rfl 0 rfl ?_
      refine zz_get (k := 6) hb ho ckX11 t0 rfl rfl (rX11_waited 4 rfl) rfl (z_dec dX11_waited 20 rfl) ?_
      exact (k5 c2 c4)
    · refine zz_aload_n hb (z_dec dX11_waited 14 rfl) rfl 0 rfl ?_
      refine zz_getr (k := 3) (q := 314) hb ho rfl ckX11 t0 rfl rfl (rX11_waited 6 rfl) rfl (z_dec dX11_waited 15 rfl) ?_
      refine zz_iload_n hb (z_dec dX11_waited 16 rfl) rfl 1 rfl ?_
      refine zz_iald (j := v1.toNatClampNeg) hb (show isT (kw K) 20 314 from isT.f (k := 3) t0 hw rfl rfl rfl (by decide)) rfl (zvi rfl (h6 c2 c4)) (z_dec dX11_waited 17 rfl) ?_
      refine zz_goto (tgt := 39) hb (z_dec dX11_waited 18 rfl) (by decide) ?_
      exact (k7 c2 c4)
  · refine zz_iconst (v := (0 : Int32)) hb (z_dec dX11_waited 7 rfl) (by decide) ?_
    exact zz_iret hb hE ⟨Nat.le_refl 0, Nat.le_refl 0⟩ (z_dec dX11_waited 8 rfl) (h8 c2)
set_option maxRecDepth 20000 in
theorem bX11_waited_39 {K : zK} {P : Option Value → zM → Prop} {X : String → zM → Prop} (hK : zIs K RX11 cX11_waited 2 (some .int) 8 (0, 0) P X) (hw : wOK (kw K)) {I : zM} (t0 : isT (kw K) 11 312) {v1 : Int32} {vs0 : Int32} {f1 : Int32} {g1 : zM} (m1 : CT (kG K) (kw K) (kl K) (yX10_arrival, cX10_arrival, 2, (some .int)) 7 (0, 0) [.ref 0, .int v1] I (qE f1 g1) nX) (h2 : vp_in v1 12) (h3 : P (some (.int ((vs0 - f1) - (g1 315 v1.toNatClampNeg)))) g1) : ZZ K (0, 0) 39 [(0, .ref 312), (1, .int v1)] [.int vs0] I := by
  obtain ⟨hb, ho, hnl, hR, hE⟩ := hK
  refine zz_aload_n hb (z_dec dX11_waited 21 rfl) rfl 0 rfl ?_
  refine zz_getr (k := 0) (q := 0) hb ho rfl ckX11 t0 rfl rfl (rX11_waited 0 rfl) rfl (z_dec dX11_waited 22 rfl) ?_
  refine zz_iload_n hb (z_dec dX11_waited 23 rfl) rfl 1 rfl ?_
  refine zz_inv (as := [.int v1]) (d := 7) (mc := (0, 0)) (P := (qE f1 g1)) (X := nX) hb ho hnl hR hE mkX10_arrival rfl ckX10 (show isT (kw K) 10 0 from isT.f (k := 0) t0 hw rfl rfl rfl (by decide)) rfl ⟨Nat.le_refl 0, Nat.le_refl 0⟩ rfl (rX11_waited 1 rfl) (rX11_waited 2 rfl) (rX11_waited 3 rfl) rfl (z_dec dX11_waited 24 rfl) m1 (fun v J1 hp => ?_) (fun _ _ h => h.elim)
  obtain ⟨r1, rfl, e1, w1⟩ := hp
  have e1 := e1.symm
  subst e1
  have w1 := w1.symm
  subst w1
  show ZZ K (0, 0) 47 [(0, .ref 312), (1, .int v1)] [.int f1, .int vs0] g1
  refine zz_isub hb (z_dec dX11_waited 25 rfl) ?_
  refine zz_aload_n hb (z_dec dX11_waited 26 rfl) rfl 0 rfl ?_
  refine zz_getr (k := 4) (q := 315) hb ho rfl ckX11 t0 rfl rfl (rX11_waited 7 rfl) rfl (z_dec dX11_waited 27 rfl) ?_
  refine zz_iload_n hb (z_dec dX11_waited 28 rfl) rfl 1 rfl ?_
  refine zz_iald (j := v1.toNatClampNeg) hb (show isT (kw K) 20 315 from isT.f (k := 4) t0 hw rfl rfl rfl (by decide)) rfl (zvi rfl h2) (z_dec dX11_waited 29 rfl) ?_
  refine zz_isub hb (z_dec dX11_waited 30 rfl) ?_
  exact zz_iret hb hE ⟨Nat.le_refl 0, Nat.le_refl 0⟩ (z_dec dX11_waited 31 rfl) h3
set_option maxRecDepth 20000 in
theorem bX11_isAhead_0 {K : zK} {P : Option Value → zM → Prop} {X : String → zM → Prop} (hK : zIs K RX11 cX11_isAhead 4 (some .boolean) 9 (0, 0) P X) (hw : wOK (kw K)) {I : zM} (t0 : isT (kw K) 11 312) {v1 : Int32} {v2 : Int32} {v3 : Int32} {f4 : Int32} {g4 : zM} (m4 : ∀ (c1 : ¬ v1 = 0) (c2 : ¬ v1 = (1 : Int32)) (c3 : ¬ v1 = (2 : Int32)), CT (kG K) (kw K) (kl K) (yX10_priority, cX10_priority, 2, (some .int)) 7 (0, 0) [.ref 0, .int v2] I (qE f4 g4) nX) {f5 : Int32} {g5 : zM} (m5 : ∀ (c1 : ¬ v1 = 0) (c2 : ¬ v1 = (1 : Int32)) (c3 : ¬ v1 = (2 : Int32)), CT (kG K) (kw K) (kl K) (yX11_waited, cX11_waited, 2, (some .int)) 8 (0, 0) [.ref 312, .int v2] g4 (qE f5 g5) nX) {f6 : Int32} {g6 : zM} (m6 : ∀ (c1 : ¬ v1 = 0) (c2 : ¬ v1 = (1 : Int32)) (c3 : ¬ v1 = (2 : Int32)), CT (kG K) (kw K) (kl K) (yL_aging, cL_aging, 1, (some .int)) 1 (0, 0) [.ref 1400] g5 (qE f6 g6) nX) (h7 : ∀ (c1 : ¬ v1 = 0) (c2 : ¬ v1 = (1 : Int32)) (c3 : ¬ v1 = (2 : Int32)), ¬ f6 = 0) {f8 : Int32} {g8 : zM} (m8 : ∀ (c1 : ¬ v1 = 0) (c2 : ¬ v1 = (1 : Int32)) (c3 : ¬ v1 = (2 : Int32)), CT (kG K) (kw K) (kl K) (yX10_priority, cX10_priority, 2, (some .int)) 7 (0, 0) [.ref 0, .int v3] g6 (qE f8 g8) nX) {f9 : Int32} {g9 : zM} (m9 : ∀ (c1 : ¬ v1 = 0) (c2 : ¬ v1 = (1 : Int32)) (c3 : ¬ v1 = (2 : Int32)), CT (kG K) (kw K) (kl K) (yX11_waited, cX11_waited, 2, (some .int)) 8 (0, 0) [.ref 312, .int v3] g8 (qE f9 g9) nX) {f10 : Int32} {g10 : zM} (m10 : ∀ (c1 : ¬ v1 = 0) (c2 : ¬ v1 = (1 : Int32)) (c3 : ¬ v1 = (2 : Int32)), CT (kG K) (kw K) (kl K) (yL_aging, cL_aging, 1, (some .int)) 1 (0, 0) [.ref 1400] g9 (qE f10 g10) nX) (h11 : ∀ (c1 : ¬ v1 = 0) (c2 : ¬ v1 = (1 : Int32)) (c3 : ¬ v1 = (2 : Int32)), ¬ f10 = 0) (h13 : ∀ (c1 : ¬ v1 = 0) (c2 : ¬ v1 = (1 : Int32)) (c3 : ¬ v1 = (2 : Int32)) (c12 : (f4 + (f5 / f6)) ≤ (f8 + (f9 / f10))), P (some (.int (0 : Int32))) g10) (h14 : ∀ (c1 : ¬ v1 = 0) (c2 : ¬ v1 = (1 : Int32)) (c3 : ¬ v1 = (2 : Int32)) (c12 : ¬ (f4 + (f5 / f6)) ≤ (f8 + (f9 / f10))), P (some (.int (1 : Int32))) g10) {f15 : Int32} {g15 : zM} (m15 : ∀ (c1 : ¬ v1 = 0) (c2 : ¬ v1 = (1 : Int32)) (c3 : v1 = (2 : Int32)), CT (kG K) (kw K) (kl K) (yX10_deadline, cX10_deadline, 2, (some .int)) 7 (0, 0) [.ref 0, .int v2] I (qE f15 g15) nX) {f16 : Int32} {g16 : zM} (m16 : ∀ (c1 : ¬ v1 = 0) (c2 : ¬ v1 = (1 : Int32)) (c3 : v1 = (2 : Int32)), CT (kG K) (kw K) (kl K) (yX10_deadline, cX10_deadline, 2, (some .int)) 7 (0, 0) [.ref 0, .int v3] g15 (qE f16 g16) nX) (h18 : ∀ (c1 : ¬ v1 = 0) (c2 : ¬ v1 = (1 : Int32)) (c3 : v1 = (2 : Int32)) (c17 : f16 ≤ f15), P (some (.int (0 : Int32))) g16) (h19 : ∀ (c1 : ¬ v1 = 0) (c2 : ¬ v1 = (1 : Int32)) (c3 : v1 = (2 : Int32)) (c17 : ¬ f16 ≤ f15), P (some (.int (1 : Int32))) g16) (h20 : ∀ (c1 : ¬ v1 = 0) (c2 : v1 = (1 : Int32)), vp_in v2 12) (h21 : ∀ (c1 : ¬ v1 = 0) (c2 : v1 = (1 : Int32)), vp_in v3 12) (h23 : ∀ (c1 : ¬ v1 = 0) (c2 : v1 = (1 : Int32)) (c22 : (I 313 v3.toNatClampNeg) ≤ (I 313 v2.toNatClampNeg)), P (some (.int (0 : Int32))) I) (h24 : ∀ (c1 : ¬ v1 = 0) (c2 : v1 = (1 : Int32)) (c22 : ¬ (I 313 v3.toNatClampNeg) ≤ (I 313 v2.toNatClampNeg)), P (some (.int (1 : Int32))) I) {f25 : Int32} {g25 : zM} (m25 : ∀ (c1 : v1 = 0), CT (kG K) (kw K) (kl K) (yX10_arrival, cX10_arrival, 2, (some .int)) 7 (0, 0) [.ref 0, .int v2] I (qE f25 g25) nX) {f26 : Int32} {g26 : zM} (m26 : ∀ (c1 : v1 = 0), CT (kG K) (kw K) (kl K) (yX10_arrival, cX10_arrival, 2, (some .int)) 7 (0, 0) [.ref 0, .int v3] g25 (qE f26 g26) nX) (h28 : ∀ (c1 : v1 = 0) (c27 : f26 ≤ f25), P (some (.int (0 : Int32))) g26) (h29 : ∀ (c1 : v1 = 0) (c27 : ¬ f26 ≤ f25), P (some (.int (1 : Int32))) g26) : ZZ K (0, 0) 0 [(0, .ref 312), (1, .int v1), (2, .int v2), (3, .int v3)] [] I := by
  obtain ⟨hb, ho, hnl, hR, hE⟩ := hK
  refine zz_iload_n hb (z_dec dX11_isAhead 0 rfl) rfl 1 rfl ?_
  refine zz_if_ne (tgt := 29) hb (z_dec dX11_isAhead 1 rfl) (by decide) (fun c1 => ?_) (fun c1 => ?_)
  · refine zz_iload_n hb (z_dec dX11_isAhead 15 rfl) rfl 1 rfl ?_
    refine zz_iconst (v := (1 : Int32)) hb (z_dec dX11_isAhead 16 rfl) (by decide) ?_
    refine zz_icmp_ne (tgt := 55) hb (z_dec dX11_isAhead 17 rfl) (by decide) (fun c2 => ?_) (fun c2 => ?_)
    · refine zz_iload_n hb (z_dec dX11_isAhead 31 rfl) rfl 1 rfl ?_
      refine zz_iconst (v := (2 : Int32)) hb (z_dec dX11_isAhead 32 rfl) (by decide) ?_
      refine zz_icmp_ne (tgt := 85) hb (z_dec dX11_isAhead 33 rfl) (by decide) (fun c3 => ?_) (fun c3 => ?_)
      · refine zz_aload_n hb (z_dec dX11_isAhead 47 rfl) rfl 0 rfl ?_
        refine zz_getr (k := 0) (q := 0) hb ho rfl ckX11 t0 rfl rfl (rX11_isAhead 0 rfl) rfl (z_dec dX11_isAhead 48 rfl) ?_
        refine zz_iload_n hb (z_dec dX11_isAhead 49 rfl) rfl 2 rfl ?_
        refine zz_inv (as := [.int v2]) (d := 7) (mc := (0, 0)) (P := (qE f4 g4)) (X := nX) hb ho hnl hR hE mkX10_priority rfl ckX10 (show isT (kw K) 10 0 from isT.f (k := 0) t0 hw rfl rfl rfl (by decide)) rfl ⟨Nat.le_refl 0, Nat.le_refl 0⟩ rfl (rX11_isAhead 8 rfl) (rX11_isAhead 9 rfl) (rX11_isAhead 10 rfl) rfl (z_dec dX11_isAhead 50 rfl) (m4 c1 c2 c3) (fun v J4 hp => ?_) (fun _ _ h => h.elim)
        obtain ⟨r4, rfl, e4, w4⟩ := hp
        have e4 := e4.symm
        subst e4
        have w4 := w4.symm
        subst w4
        show ZZ K (0, 0) 93 [(0, .ref 312), (1, .int v1), (2, .int v2), (3, .int v3)] [.int f4] g4
        refine zz_aload_n hb (z_dec dX11_isAhead 51 rfl) rfl 0 rfl ?_
        refine zz_iload_n hb (z_dec dX11_isAhead 52 rfl) rfl 2 rfl ?_
        refine zz_inv (as := [.int v2]) (d := 8) (mc := (0, 0)) (P := (qE f5 g5)) (X := nX) hb ho hnl hR hE mkX11_waited rfl ckX11 t0 rfl ⟨Nat.le_refl 0, Nat.le_refl 0⟩ rfl (rX11_isAhead 11 rfl) (rX11_isAhead 12 rfl) (rX11_isAhead 13 rfl) rfl (z_dec dX11_isAhead 53 rfl) (m5 c1 c2 c3) (fun v J5 hp => ?_) (fun _ _ h => h.elim)
        obtain ⟨r5, rfl, e5, w5⟩ := hp
        have e5 := e5.symm
        subst e5
        have w5 := w5.symm
        subst w5
        show ZZ K (0, 0) 98 [(0, .ref 312), (1, .int v1), (2, .int v2), (3, .int v3)] [.int f5, .int f4] g5
        refine zz_aload_n hb (z_dec dX11_isAhead 54 rfl) rfl 0 rfl ?_
        refine zz_getr (k := 1) (q := 1400) hb ho rfl ckX11 t0 rfl rfl (rX11_isAhead 14 rfl) rfl (z_dec dX11_isAhead 55 rfl) ?_
        refine zz_invSN (as := [.ref 1400]) (d := 1) (mc := (0, 0)) (P := (qE f6 g6)) (X := nX) hb ho hnl hR hE mkL_aging rfl rfl ⟨Nat.le_refl 0, Nat.le_refl 0⟩ rfl (List.mem_of_getElem? (i := 11) rfl) (rX11_isAhead 15 rfl) rfl (z_dec dX11_isAhead 56 rfl) (m6 c1 c2 c3) (fun v J6 hp => ?_) (fun _ _ h => h.elim)
        obtain ⟨r6, rfl, e6, w6⟩ := hp
        have e6 := e6.symm
        subst e6
        have w6 := w6.symm
        subst w6
        show ZZ K (0, 0) 105 [(0, .ref 312), (1, .int v1), (2, .int v2), (3, .int v3)] [.int f6, .int f5, .int f4] g6
        refine zz_idiv hb (z_dec dX11_isAhead 57 rfl) (h7 c1 c2 c3) ?_
        refine zz_iadd hb (z_dec dX11_isAhead 58 rfl) ?_
        refine zz_aload_n hb (z_dec dX11_isAhead 59 rfl) rfl 0 rfl ?_
        refine zz_getr (k := 0) (q := 0) hb ho rfl ckX11 t0 rfl rfl (rX11_isAhead 0 rfl) rfl (z_dec dX11_isAhead 60 rfl) ?_
        refine zz_iload_n hb (z_dec dX11_isAhead 61 rfl) rfl 3 rfl ?_
        refine zz_inv (as := [.int v3]) (d := 7) (mc := (0, 0)) (P := (qE f8 g8)) (X := nX) hb ho hnl hR hE mkX10_priority rfl ckX10 (show isT (kw K) 10 0 from isT.f (k := 0) t0 hw rfl rfl rfl (by decide)) rfl ⟨Nat.le_refl 0, Nat.le_refl 0⟩ rfl (rX11_isAhead 8 rfl) (rX11_isAhead 9 rfl) (rX11_isAhead 10 rfl) rfl (z_dec dX11_isAhead 62 rfl) (m8 c1 c2 c3) (fun v J8 hp => ?_) (fun _ _ h => h.elim)
        obtain ⟨r8, rfl, e8, w8⟩ := hp
        have e8 := e8.symm
        subst e8
        have w8 := w8.symm
        subst w8
        show ZZ K (0, 0) 115 [(0, .ref 312), (1, .int v1), (2, .int v2), (3, .int v3)] [.int f8, .int (f4 + (f5 / f6))] g8
        refine zz_aload_n hb (z_dec dX11_isAhead 63 rfl) rfl 0 rfl ?_
        refine zz_iload_n hb (z_dec dX11_isAhead 64 rfl) rfl 3 rfl ?_
        refine zz_inv (as := [.int v3]) (d := 8) (mc := (0, 0)) (P := (qE f9 g9)) (X := nX) hb ho hnl hR hE mkX11_waited rfl ckX11 t0 rfl ⟨Nat.le_refl 0, Nat.le_refl 0⟩ rfl (rX11_isAhead 11 rfl) (rX11_isAhead 12 rfl) (rX11_isAhead 13 rfl) rfl (z_dec dX11_isAhead 65 rfl) (m9 c1 c2 c3) (fun v J9 hp => ?_) (fun _ _ h => h.elim)
        obtain ⟨r9, rfl, e9, w9⟩ := hp
        have e9 := e9.symm
        subst e9
        have w9 := w9.symm
        subst w9
        show ZZ K (0, 0) 120 [(0, .ref 312), (1, .int v1), (2, .int v2), (3, .int v3)] [.int f9, .int f8, .int (f4 + (f5 / f6))] g9
        refine zz_aload_n hb (z_dec dX11_isAhead 66 rfl) rfl 0 rfl ?_
        refine zz_getr (k := 1) (q := 1400) hb ho rfl ckX11 t0 rfl rfl (rX11_isAhead 14 rfl) rfl (z_dec dX11_isAhead 67 rfl) ?_
        refine zz_invSN (as := [.ref 1400]) (d := 1) (mc := (0, 0)) (P := (qE f10 g10)) (X := nX) hb ho hnl hR hE mkL_aging rfl rfl ⟨Nat.le_refl 0, Nat.le_refl 0⟩ rfl (List.mem_of_getElem? (i := 11) rfl) (rX11_isAhead 15 rfl) rfl (z_dec dX11_isAhead 68 rfl) (m10 c1 c2 c3) (fun v J10 hp => ?_) (fun _ _ h => h.elim)
        obtain ⟨r10, rfl, e10, w10⟩ := hp
        have e10 := e10.symm
        subst e10
        have w10 := w10.symm
        subst w10
        show ZZ K (0, 0) 127 [(0, .ref 312), (1, .int v1), (2, .int v2), (3, .int v3)] [.int f10, .int f9, .int f8, .int (f4 + (f5 / f6))] g10
        refine zz_idiv hb (z_dec dX11_isAhead 69 rfl) (h11 c1 c2 c3) ?_
        refine zz_iadd hb (z_dec dX11_isAhead 70 rfl) ?_
        refine zz_icmp_le (tgt := 136) hb (z_dec dX11_isAhead 71 rfl) (by decide) (fun c12 => ?_) (fun c12 => ?_)
        · refine zz_iconst (v := (0 : Int32)) hb (z_dec dX11_isAhead 74 rfl) (by decide) ?_
          exact zz_zret hb hE ⟨Nat.le_refl 0, Nat.le_refl 0⟩ (by decide) (z_dec dX11_isAhead 75 rfl) (h13 c1 c2 c3 c12)
        · refine zz_iconst (v := (1 : Int32)) hb (z_dec dX11_isAhead 72 rfl) (by decide) ?_
          refine zz_goto (tgt := 137) hb (z_dec dX11_isAhead 73 rfl) (by decide) ?_
          exact zz_zret hb hE ⟨Nat.le_refl 0, Nat.le_refl 0⟩ (by decide) (z_dec dX11_isAhead 75 rfl) (h14 c1 c2 c3 c12)
      · refine zz_aload_n hb (z_dec dX11_isAhead 34 rfl) rfl 0 rfl ?_
        refine zz_getr (k := 0) (q := 0) hb ho rfl ckX11 t0 rfl rfl (rX11_isAhead 0 rfl) rfl (z_dec dX11_isAhead 35 rfl) ?_
        refine zz_iload_n hb (z_dec dX11_isAhead 36 rfl) rfl 2 rfl ?_
        refine zz_inv (as := [.int v2]) (d := 7) (mc := (0, 0)) (P := (qE f15 g15)) (X := nX) hb ho hnl hR hE mkX10_deadline rfl ckX10 (show isT (kw K) 10 0 from isT.f (k := 0) t0 hw rfl rfl rfl (by decide)) rfl ⟨Nat.le_refl 0, Nat.le_refl 0⟩ rfl (rX11_isAhead 5 rfl) (rX11_isAhead 6 rfl) (rX11_isAhead 7 rfl) rfl (z_dec dX11_isAhead 37 rfl) (m15 c1 c2 c3) (fun v J15 hp => ?_) (fun _ _ h => h.elim)
        obtain ⟨r15, rfl, e15, w15⟩ := hp
        have e15 := e15.symm
        subst e15
        have w15 := w15.symm
        subst w15
        show ZZ K (0, 0) 68 [(0, .ref 312), (1, .int v1), (2, .int v2), (3, .int v3)] [.int f15] g15
        refine zz_aload_n hb (z_dec dX11_isAhead 38 rfl) rfl 0 rfl ?_
        refine zz_getr (k := 0) (q := 0) hb ho rfl ckX11 t0 rfl rfl (rX11_isAhead 0 rfl) rfl (z_dec dX11_isAhead 39 rfl) ?_
        refine zz_iload_n hb (z_dec dX11_isAhead 40 rfl) rfl 3 rfl ?_
        refine zz_inv (as := [.int v3]) (d := 7) (mc := (0, 0)) (P := (qE f16 g16)) (X := nX) hb ho hnl hR hE mkX10_deadline rfl ckX10 (show isT (kw K) 10 0 from isT.f (k := 0) t0 hw rfl rfl rfl (by decide)) rfl ⟨Nat.le_refl 0, Nat.le_refl 0⟩ rfl (rX11_isAhead 5 rfl) (rX11_isAhead 6 rfl) (rX11_isAhead 7 rfl) rfl (z_dec dX11_isAhead 41 rfl) (m16 c1 c2 c3) (fun v J16 hp => ?_) (fun _ _ h => h.elim)
        obtain ⟨r16, rfl, e16, w16⟩ := hp
        have e16 := e16.symm
        subst e16
        have w16 := w16.symm
        subst w16
        show ZZ K (0, 0) 76 [(0, .ref 312), (1, .int v1), (2, .int v2), (3, .int v3)] [.int f16, .int f15] g16
        refine zz_icmp_ge (tgt := 83) hb (z_dec dX11_isAhead 42 rfl) (by decide) (fun c17 => ?_) (fun c17 => ?_)
        · refine zz_iconst (v := (0 : Int32)) hb (z_dec dX11_isAhead 45 rfl) (by decide) ?_
          exact zz_zret hb hE ⟨Nat.le_refl 0, Nat.le_refl 0⟩ (by decide) (z_dec dX11_isAhead 46 rfl) (h18 c1 c2 c3 c17)
        · refine zz_iconst (v := (1 : Int32)) hb (z_dec dX11_isAhead 43 rfl) (by decide) ?_
          refine zz_goto (tgt := 84) hb (z_dec dX11_isAhead 44 rfl) (by decide) ?_
          exact zz_zret hb hE ⟨Nat.le_refl 0, Nat.le_refl 0⟩ (by decide) (z_dec dX11_isAhead 46 rfl) (h19 c1 c2 c3 c17)
    · refine zz_aload_n hb (z_dec dX11_isAhead 18 rfl) rfl 0 rfl ?_
      refine zz_getr (k := 2) (q := 313) hb ho rfl ckX11 t0 rfl rfl (rX11_isAhead 4 rfl) rfl (z_dec dX11_isAhead 19 rfl) ?_
      refine zz_iload_n hb (z_dec dX11_isAhead 20 rfl) rfl 2 rfl ?_
      refine zz_iald (j := v2.toNatClampNeg) hb (show isT (kw K) 20 313 from isT.f (k := 2) t0 hw rfl rfl rfl (by decide)) rfl (zvi rfl (h20 c1 c2)) (z_dec dX11_isAhead 21 rfl) ?_
      refine zz_aload_n hb (z_dec dX11_isAhead 22 rfl) rfl 0 rfl ?_
      refine zz_getr (k := 2) (q := 313) hb ho rfl ckX11 t0 rfl rfl (rX11_isAhead 4 rfl) rfl (z_dec dX11_isAhead 23 rfl) ?_
      refine zz_iload_n hb (z_dec dX11_isAhead 24 rfl) rfl 3 rfl ?_
      refine zz_iald (j := v3.toNatClampNeg) hb (show isT (kw K) 20 313 from isT.f (k := 2) t0 hw rfl rfl rfl (by decide)) rfl (zvi rfl (h21 c1 c2)) (z_dec dX11_isAhead 25 rfl) ?_
      refine zz_icmp_ge (tgt := 53) hb (z_dec dX11_isAhead 26 rfl) (by decide) (fun c22 => ?_) (fun c22 => ?_)
      · refine zz_iconst (v := (0 : Int32)) hb (z_dec dX11_isAhead 29 rfl) (by decide) ?_
        exact zz_zret hb hE ⟨Nat.le_refl 0, Nat.le_refl 0⟩ (by decide) (z_dec dX11_isAhead 30 rfl) (h23 c1 c2 c22)
      · refine zz_iconst (v := (1 : Int32)) hb (z_dec dX11_isAhead 27 rfl) (by decide) ?_
        refine zz_goto (tgt := 54) hb (z_dec dX11_isAhead 28 rfl) (by decide) ?_
        exact zz_zret hb hE ⟨Nat.le_refl 0, Nat.le_refl 0⟩ (by decide) (z_dec dX11_isAhead 30 rfl) (h24 c1 c2 c22)
  · refine zz_aload_n hb (z_dec dX11_isAhead 2 rfl) rfl 0 rfl ?_
    refine zz_getr (k := 0) (q := 0) hb ho rfl ckX11 t0 rfl rfl (rX11_isAhead 0 rfl) rfl (z_dec dX11_isAhead 3 rfl) ?_
    refine zz_iload_n hb (z_dec dX11_isAhead 4 rfl) rfl 2 rfl ?_
    refine zz_inv (as := [.int v2]) (d := 7) (mc := (0, 0)) (P := (qE f25 g25)) (X := nX) hb ho hnl hR hE mkX10_arrival rfl ckX10 (show isT (kw K) 10 0 from isT.f (k := 0) t0 hw rfl rfl rfl (by decide)) rfl ⟨Nat.le_refl 0, Nat.le_refl 0⟩ rfl (rX11_isAhead 1 rfl) (rX11_isAhead 2 rfl) (rX11_isAhead 3 rfl) rfl (z_dec dX11_isAhead 5 rfl) (m25 c1) (fun v J25 hp => ?_) (fun _ _ h => h.elim)
    obtain ⟨r25, rfl, e25, w25⟩ := hp
    have e25 := e25.symm
    subst e25
    have w25 := w25.symm
    subst w25
    show ZZ K (0, 0) 12 [(0, .ref 312), (1, .int v1), (2, .int v2), (3, .int v3)] [.int f25] g25
    refine zz_aload_n hb (z_dec dX11_isAhead 6 rfl) rfl 0 rfl ?_
    refine zz_getr (k := 0) (q := 0) hb ho rfl ckX11 t0 rfl rfl (rX11_isAhead 0 rfl) rfl (z_dec dX11_isAhead 7 rfl) ?_
    refine zz_iload_n hb (z_dec dX11_isAhead 8 rfl) rfl 3 rfl ?_
    refine zz_inv (as := [.int v3]) (d := 7) (mc := (0, 0)) (P := (qE f26 g26)) (X := nX) hb ho hnl hR hE mkX10_arrival rfl ckX10 (show isT (kw K) 10 0 from isT.f (k := 0) t0 hw rfl rfl rfl (by decide)) rfl ⟨Nat.le_refl 0, Nat.le_refl 0⟩ rfl (rX11_isAhead 1 rfl) (rX11_isAhead 2 rfl) (rX11_isAhead 3 rfl) rfl (z_dec dX11_isAhead 9 rfl) (m26 c1) (fun v J26 hp => ?_) (fun _ _ h => h.elim)
    obtain ⟨r26, rfl, e26, w26⟩ := hp
    have e26 := e26.symm
    subst e26
    have w26 := w26.symm
    subst w26
    show ZZ K (0, 0) 20 [(0, .ref 312), (1, .int v1), (2, .int v2), (3, .int v3)] [.int f26, .int f25] g26
    refine zz_icmp_ge (tgt := 27) hb (z_dec dX11_isAhead 10 rfl) (by decide) (fun c27 => ?_) (fun c27 => ?_)
    · refine zz_iconst (v := (0 : Int32)) hb (z_dec dX11_isAhead 13 rfl) (by decide) ?_
      exact zz_zret hb hE ⟨Nat.le_refl 0, Nat.le_refl 0⟩ (by decide) (z_dec dX11_isAhead 14 rfl) (h28 c1 c27)
    · refine zz_iconst (v := (1 : Int32)) hb (z_dec dX11_isAhead 11 rfl) (by decide) ?_
      refine zz_goto (tgt := 28) hb (z_dec dX11_isAhead 12 rfl) (by decide) ?_
      exact zz_zret hb hE ⟨Nat.le_refl 0, Nat.le_refl 0⟩ (by decide) (z_dec dX11_isAhead 14 rfl) (h29 c1 c27)
set_option maxRecDepth 20000 in
theorem bX11_select_0 {K : zK} {P : Option Value → zM → Prop} {X : String → zM → Prop} (hK : zIs K RX11 cX11_select 6 (some .int) 10 (0, 0) P X) (hw : wOK (kw K)) {I : zM} (t0 : isT (kw K) 11 312) {v1 : Int32} {f1 : Int32} {g1 : zM} (m1 : CT (kG K) (kw K) (kl K) (yX11_current, cX11_current, 1, (some .int)) 0 (0, 0) [.ref 312] I (qE f1 g1) nX) (k3 : ∀ (c2 : f1 < 0), ZZ K (0, 0) 39 [(0, .ref 312), (1, .int v1), (2, .int f1)] [] g1) (h5 : ∀ (c2 : ¬ f1 < 0) (c4 : v1 = 0), P (some (.int f1)) g1) (h7 : ∀ (c2 : ¬ f1 < 0) (c4 : ¬ v1 = 0) (c6 : v1 = (3 : Int32)), P (some (.int f1)) g1) (k9 : ∀ (c2 : ¬ f1 < 0) (c4 : ¬ v1 = 0) (c6 : ¬ v1 = (3 : Int32)) (c8 : ¬ v1 = (4 : Int32)), ZZ K (0, 0) 39 [(0, .ref 312), (1, .int v1), (2, .int f1)] [] g1) {f10 : Int32} {g10 : zM} (m10 : ∀ (c2 : ¬ f1 < 0) (c4 : ¬ v1 = 0) (c6 : ¬ v1 = (3 : Int32)) (c8 : v1 = (4 : Int32)), CT (kG K) (kw K) (kl K) (yL_quantum, cL_quantum, 1, (some .int)) 1 (0, 0) [.ref 1400] g1 (qE f10 g10) nX) (k12 : ∀ (c2 : ¬ f1 < 0) (c4 : ¬ v1 = 0) (c6 : ¬ v1 = (3 : Int32)) (c8 : v1 = (4 : Int32)) (c11 : f10 ≤ (g1 312 9)), ZZ K (0, 0) 39 [(0, .ref 312), (1, .int v1), (2, .int f1)] [] g10) (h13 : ∀ (c2 : ¬ f1 < 0) (c4 : ¬ v1 = 0) (c6 : ¬ v1 = (3 : Int32)) (c8 : v1 = (4 : Int32)) (c11 : ¬ f10 ≤ (g1 312 9)), P (some (.int f1)) g10) : ZZ K (0, 0) 0 [(0, .ref 312), (1, .int v1)] [] I := by
  obtain ⟨hb, ho, hnl, hR, hE⟩ := hK
  refine zz_aload_n hb (z_dec dX11_select 0 rfl) rfl 0 rfl ?_
  refine zz_inv (as := []) (d := 0) (mc := (0, 0)) (P := (qE f1 g1)) (X := nX) hb ho hnl hR hE mkX11_current rfl ckX11 t0 rfl ⟨Nat.le_refl 0, Nat.le_refl 0⟩ rfl (rX11_select 0 rfl) (rX11_select 1 rfl) (rX11_select 2 rfl) rfl (z_dec dX11_select 1 rfl) m1 (fun v J1 hp => ?_) (fun _ _ h => h.elim)
  obtain ⟨r1, rfl, e1, w1⟩ := hp
  have e1 := e1.symm
  subst e1
  have w1 := w1.symm
  subst w1
  show ZZ K (0, 0) 4 [(0, .ref 312), (1, .int v1)] [.int f1] g1
  refine zz_istore_n (L' := [(0, .ref 312), (1, .int v1), (2, .int f1)]) hb (z_dec dX11_select 2 rfl) rfl hnl rfl [1, 2, 0] rfl ?_
  refine zz_iload_n hb (z_dec dX11_select 3 rfl) rfl 2 rfl ?_
  refine zz_if_lt (tgt := 39) hb (z_dec dX11_select 4 rfl) (by decide) (fun c2 => ?_) (fun c2 => ?_)
  · exact (k3 c2)
  · refine zz_iload_n hb (z_dec dX11_select 5 rfl) rfl 1 rfl ?_
    refine zz_if_eq (tgt := 37) hb (z_dec dX11_select 6 rfl) (by decide) (fun c4 => ?_) (fun c4 => ?_)
    · refine zz_iload_n hb (z_dec dX11_select 19 rfl) rfl 2 rfl ?_
      exact zz_iret hb hE ⟨Nat.le_refl 0, Nat.le_refl 0⟩ (z_dec dX11_select 20 rfl) (h5 c2 c4)
    · refine zz_iload_n hb (z_dec dX11_select 7 rfl) rfl 1 rfl ?_
      refine zz_iconst (v := (3 : Int32)) hb (z_dec dX11_select 8 rfl) (by decide) ?_
      refine zz_icmp_eq (tgt := 37) hb (z_dec dX11_select 9 rfl) (by decide) (fun c6 => ?_) (fun c6 => ?_)
      · refine zz_iload_n hb (z_dec dX11_select 19 rfl) rfl 2 rfl ?_
        exact zz_iret hb hE ⟨Nat.le_refl 0, Nat.le_refl 0⟩ (z_dec dX11_select 20 rfl) (h7 c2 c4 c6)
      · refine zz_iload_n hb (z_dec dX11_select 10 rfl) rfl 1 rfl ?_
        refine zz_iconst (v := (4 : Int32)) hb (z_dec dX11_select 11 rfl) (by decide) ?_
        refine zz_icmp_ne (tgt := 39) hb (z_dec dX11_select 12 rfl) (by decide) (fun c8 => ?_) (fun c8 => ?_)
        · exact (k9 c2 c4 c6 c8)
        · refine zz_aload_n hb (z_dec dX11_select 13 rfl) rfl 0 rfl ?_
          refine zz_get (k := 9) hb ho ckX11 t0 rfl rfl (rX11_select 3 rfl) rfl (z_dec dX11_select 14 rfl) ?_
          refine zz_aload_n hb (z_dec dX11_select 15 rfl) rfl 0 rfl ?_
          refine zz_getr (k := 1) (q := 1400) hb ho rfl ckX11 t0 rfl rfl (rX11_select 4 rfl) rfl (z_dec dX11_select 16 rfl) ?_
          refine zz_invSN (as := [.ref 1400]) (d := 1) (mc := (0, 0)) (P := (qE f10 g10)) (X := nX) hb ho hnl hR hE mkL_quantum rfl rfl ⟨Nat.le_refl 0, Nat.le_refl 0⟩ rfl (List.mem_of_getElem? (i := 10) rfl) (rX11_select 5 rfl) rfl (z_dec dX11_select 17 rfl) (m10 c2 c4 c6 c8) (fun v J10 hp => ?_) (fun _ _ h => h.elim)
          obtain ⟨r10, rfl, e10, w10⟩ := hp
          have e10 := e10.symm
          subst e10
          have w10 := w10.symm
          subst w10
          show ZZ K (0, 0) 34 [(0, .ref 312), (1, .int v1), (2, .int f1)] [.int f10, .int (g1 312 9)] g10
          refine zz_icmp_ge (tgt := 39) hb (z_dec dX11_select 18 rfl) (by decide) (fun c11 => ?_) (fun c11 => ?_)
          · exact (k12 c2 c4 c6 c8 c11)
          · refine zz_iload_n hb (z_dec dX11_select 19 rfl) rfl 2 rfl ?_
            exact zz_iret hb hE ⟨Nat.le_refl 0, Nat.le_refl 0⟩ (z_dec dX11_select 20 rfl) (h13 c2 c4 c6 c8 c11)
set_option maxRecDepth 20000 in
theorem bX11_select_39 {K : zK} {P : Option Value → zM → Prop} {X : String → zM → Prop} (hK : zIs K RX11 cX11_select 6 (some .int) 10 (0, 0) P X) (hw : wOK (kw K)) {I : zM} (t0 : isT (kw K) 11 312) {v1 : Int32} {v2 : Int32} (k2 : ∀ (c1 : v1 = (1 : Int32)), ZZ K (0, 0) 58 [(0, .ref 312), (1, .int v1), (2, .int v2), (3, .int v2), (4, .int (1 : Int32))] [] I) (k4 : ∀ (c1 : ¬ v1 = (1 : Int32)) (c3 : ¬ v1 = (2 : Int32)), ZZ K (0, 0) 58 [(0, .ref 312), (1, .int v1), (2, .int v2), (3, .int (-1 : Int32)), (4, .int (1 : Int32))] [] I) (k5 : ∀ (c1 : ¬ v1 = (1 : Int32)) (c3 : v1 = (2 : Int32)), ZZ K (0, 0) 58 [(0, .ref 312), (1, .int v1), (2, .int v2), (3, .int v2), (4, .int (1 : Int32))] [] I) : ZZ K (0, 0) 39 [(0, .ref 312), (1, .int v1), (2, .int v2)] [] I := by
  obtain ⟨hb, ho, hnl, hR, hE⟩ := hK
  refine zz_iload_n hb (z_dec dX11_select 21 rfl) rfl 1 rfl ?_
  refine zz_iconst (v := (1 : Int32)) hb (z_dec dX11_select 22 rfl) (by decide) ?_
  refine zz_icmp_eq (tgt := 49) hb (z_dec dX11_select 23 rfl) (by decide) (fun c1 => ?_) (fun c1 => ?_)
  · refine zz_iload_n hb (z_dec dX11_select 27 rfl) rfl 2 rfl ?_
    refine zz_goto (tgt := 54) hb (z_dec dX11_select 28 rfl) (by decide) ?_
    refine zz_istore_n (L' := [(0, .ref 312), (1, .int v1), (2, .int v2), (3, .int v2)]) hb (z_dec dX11_select 30 rfl) rfl hnl rfl [1, 2, 3, 0] rfl ?_
    refine zz_iconst (v := (1 : Int32)) hb (z_dec dX11_select 31 rfl) (by decide) ?_
    refine zz_istore (L' := [(0, .ref 312), (1, .int v1), (2, .int v2), (3, .int v2), (4, .int (1 : Int32))]) hb (z_dec dX11_select 32 rfl) hnl rfl [1, 2, 3, 4, 0] rfl ?_
    exact (k2 c1)
  · refine zz_iload_n hb (z_dec dX11_select 24 rfl) rfl 1 rfl ?_
    refine zz_iconst (v := (2 : Int32)) hb (z_dec dX11_select 25 rfl) (by decide) ?_
    refine zz_icmp_ne (tgt := 53) hb (z_dec dX11_select 26 rfl) (by decide) (fun c3 => ?_) (fun c3 => ?_)
    · refine zz_iconst (v := (-1 : Int32)) hb (z_dec dX11_select 29 rfl) (by decide) ?_
      refine zz_istore_n (L' := [(0, .ref 312), (1, .int v1), (2, .int v2), (3, .int (-1 : Int32))]) hb (z_dec dX11_select 30 rfl) rfl hnl rfl [1, 2, 3, 0] rfl ?_
      refine zz_iconst (v := (1 : Int32)) hb (z_dec dX11_select 31 rfl) (by decide) ?_
      refine zz_istore (L' := [(0, .ref 312), (1, .int v1), (2, .int v2), (3, .int (-1 : Int32)), (4, .int (1 : Int32))]) hb (z_dec dX11_select 32 rfl) hnl rfl [1, 2, 3, 4, 0] rfl ?_
      exact (k4 c1 c3)
    · refine zz_iload_n hb (z_dec dX11_select 27 rfl) rfl 2 rfl ?_
      refine zz_goto (tgt := 54) hb (z_dec dX11_select 28 rfl) (by decide) ?_
      refine zz_istore_n (L' := [(0, .ref 312), (1, .int v1), (2, .int v2), (3, .int v2)]) hb (z_dec dX11_select 30 rfl) rfl hnl rfl [1, 2, 3, 0] rfl ?_
      refine zz_iconst (v := (1 : Int32)) hb (z_dec dX11_select 31 rfl) (by decide) ?_
      refine zz_istore (L' := [(0, .ref 312), (1, .int v1), (2, .int v2), (3, .int v2), (4, .int (1 : Int32))]) hb (z_dec dX11_select 32 rfl) hnl rfl [1, 2, 3, 4, 0] rfl ?_
      exact (k5 c1 c3)
set_option maxRecDepth 20000 in
theorem bX11_select_58 {K : zK} {P : Option Value → zM → Prop} {X : String → zM → Prop} (hK : zIs K RX11 cX11_select 6 (some .int) 10 (0, 0) P X) (hw : wOK (kw K)) {I : zM} (t0 : isT (kw K) 11 312) {v1 : Int32} {v2 : Int32} {v3 : Int32} {v4 : Int32} (h2 : ∀ (c1 : (I 312 5) < v4), P (some (.int v3)) I) (k4 : ∀ (c1 : ¬ (I 312 5) < v4) (c3 : ¬ v1 = (4 : Int32)), ZZ K (0, 0) 91 [(0, .ref 312), (1, .int v1), (2, .int v2), (3, .int v3), (4, .int v4)] [.int (v4 - (1 : Int32))] I) (h5 : ∀ (c1 : ¬ (I 312 5) < v4) (c3 : v1 = (4 : Int32)), ¬ (I 312 5) = 0) (k6 : ∀ (c1 : ¬ (I 312 5) < v4) (c3 : v1 = (4 : Int32)), ZZ K (0, 0) 91 [(0, .ref 312), (1, .int v1), (2, .int v2), (3, .int v3), (4, .int v4)] [.int (((I 312 8) + v4) - ((I 312 8) + v4) / (I 312 5) * (I 312 5))] I) : ZZ K (0, 0) 58 [(0, .ref 312), (1, .int v1), (2, .int v2), (3, .int v3), (4, .int v4)] [] I := by
  obtain ⟨hb, ho, hnl, hR, hE⟩ := hK
  refine zz_iload hb (z_dec dX11_select 33 rfl) 4 rfl ?_
  refine zz_aload_n hb (z_dec dX11_select 34 rfl) rfl 0 rfl ?_
  refine zz_get (k := 5) hb ho ckX11 t0 rfl rfl (rX11_select 6 rfl) rfl (z_dec dX11_select 35 rfl) ?_
  refine zz_icmp_gt (tgt := 137) hb (z_dec dX11_select 36 rfl) (by decide) (fun c1 => ?_) (fun c1 => ?_)
  · refine zz_iload_n hb (z_dec dX11_select 74 rfl) rfl 3 rfl ?_
    exact zz_iret hb hE ⟨Nat.le_refl 0, Nat.le_refl 0⟩ (z_dec dX11_select 75 rfl) (h2 c1)
  · refine zz_iload_n hb (z_dec dX11_select 37 rfl) rfl 1 rfl ?_
    refine zz_iconst (v := (4 : Int32)) hb (z_dec dX11_select 38 rfl) (by decide) ?_
    refine zz_icmp_ne (tgt := 87) hb (z_dec dX11_select 39 rfl) (by decide) (fun c3 => ?_) (fun c3 => ?_)
    · refine zz_iload hb (z_dec dX11_select 48 rfl) 4 rfl ?_
      refine zz_iconst (v := (1 : Int32)) hb (z_dec dX11_select 49 rfl) (by decide) ?_
      refine zz_isub hb (z_dec dX11_select 50 rfl) ?_
      exact (k4 c1 c3)
    · refine zz_aload_n hb (z_dec dX11_select 40 rfl) rfl 0 rfl ?_
      refine zz_get (k := 8) hb ho ckX11 t0 rfl rfl (rX11_select 7 rfl) rfl (z_dec dX11_select 41 rfl) ?_
      refine zz_iload hb (z_dec dX11_select 42 rfl) 4 rfl ?_
      refine zz_iadd hb (z_dec dX11_select 43 rfl) ?_
      refine zz_aload_n hb (z_dec dX11_select 44 rfl) rfl 0 rfl ?_
      refine zz_get (k := 5) hb ho ckX11 t0 rfl rfl (rX11_select 6 rfl) rfl (z_dec dX11_select 45 rfl) ?_
      refine zz_irem hb (z_dec dX11_select 46 rfl) (h5 c1 c3) ?_
      refine zz_goto (tgt := 91) hb (z_dec dX11_select 47 rfl) (by decide) ?_
      exact (k6 c1 c3)
set_option maxRecDepth 20000 in
theorem bX11_select_91 {K : zK} {P : Option Value → zM → Prop} {X : String → zM → Prop} (hK : zIs K RX11 cX11_select 6 (some .int) 10 (0, 0) P X) (hw : wOK (kw K)) {I : zM} (t0 : isT (kw K) 11 312) {v1 : Int32} {v2 : Int32} {v3 : Int32} {v4 : Int32} {vs0 : Int32} {f1 : Int32} {g1 : zM} (m1 : CT (kG K) (kw K) (kl K) (yX11_isReady, cX11_isReady, 2, (some .boolean)) 8 (0, 0) [.ref 312, .int vs0] I (qE f1 g1) nX) (k5 : ∀ (c2 : ¬ f1 = 0) (c3 : ¬ v1 = (4 : Int32)) (c4 : v3 < 0), ZZ K (0, 0) 58 [(0, .ref 312), (1, .int v1), (2, .int v2), (3, .int vs0), (4, .int (v4 + 1))] [] g1) {f6 : Int32} {g6 : zM} (m6 : ∀ (c2 : ¬ f1 = 0) (c3 : ¬ v1 = (4 : Int32)) (c4 : ¬ v3 < 0), CT (kG K) (kw K) (kl K) (yX11_isAhead, cX11_isAhead, 4, (some .boolean)) 9 (0, 0) [.ref 312, .int v1, .int vs0, .int v3] g1 (qE f6 g6) nX) (k8 : ∀ (c2 : ¬ f1 = 0) (c3 : ¬ v1 = (4 : Int32)) (c4 : ¬ v3 < 0) (c7 : f6 = 0), ZZ K (0, 0) 58 [(0, .ref 312), (1, .int v1), (2, .int v2), (3, .int v3), (4, .int (v4 + 1))] [] g6) (k9 : ∀ (c2 : ¬ f1 = 0) (c3 : ¬ v1 = (4 : Int32)) (c4 : ¬ v3 < 0) (c7 : ¬ f6 = 0), ZZ K (0, 0) 58 [(0, .ref 312), (1, .int v1), (2, .int v2), (3, .int vs0), (4, .int (v4 + 1))] [] g6) (h10 : ∀ (c2 : ¬ f1 = 0) (c3 : v1 = (4 : Int32)), P (some (.int vs0)) g1) (k11 : ∀ (c2 : f1 = 0), ZZ K (0, 0) 58 [(0, .ref 312), (1, .int v1), (2, .int v2), (3, .int v3), (4, .int (v4 + 1))] [] g1) : ZZ K (0, 0) 91 [(0, .ref 312), (1, .int v1), (2, .int v2), (3, .int v3), (4, .int v4)] [.int vs0] I := by
  obtain ⟨hb, ho, hnl, hR, hE⟩ := hK
  refine zz_istore (L' := [(0, .ref 312), (1, .int v1), (2, .int v2), (3, .int v3), (4, .int v4), (5, .int vs0)]) hb (z_dec dX11_select 51 rfl) hnl rfl [1, 2, 3, 4, 5, 0] rfl ?_
  refine zz_aload_n hb (z_dec dX11_select 52 rfl) rfl 0 rfl ?_
  refine zz_iload hb (z_dec dX11_select 53 rfl) 5 rfl ?_
  refine zz_inv (as := [.int vs0]) (d := 8) (mc := (0, 0)) (P := (qE f1 g1)) (X := nX) hb ho hnl hR hE mkX11_isReady rfl ckX11 t0 rfl ⟨Nat.le_refl 0, Nat.le_refl 0⟩ rfl (rX11_select 8 rfl) (rX11_select 9 rfl) (rX11_select 10 rfl) rfl (z_dec dX11_select 54 rfl) m1 (fun v J1 hp => ?_) (fun _ _ h => h.elim)
  obtain ⟨r1, rfl, e1, w1⟩ := hp
  have e1 := e1.symm
  subst e1
  have w1 := w1.symm
  subst w1
  show ZZ K (0, 0) 99 [(0, .ref 312), (1, .int v1), (2, .int v2), (3, .int v3), (4, .int v4), (5, .int vs0)] [.int f1] g1
  refine zz_if_ne (tgt := 105) hb (z_dec dX11_select 55 rfl) (by decide) (fun c2 => ?_) (fun c2 => ?_)
  · refine zz_iload_n hb (z_dec dX11_select 57 rfl) rfl 1 rfl ?_
    refine zz_iconst (v := (4 : Int32)) hb (z_dec dX11_select 58 rfl) (by decide) ?_
    refine zz_icmp_ne (tgt := 113) hb (z_dec dX11_select 59 rfl) (by decide) (fun c3 => ?_) (fun c3 => ?_)
    · refine zz_iload_n hb (z_dec dX11_select 62 rfl) rfl 3 rfl ?_
      refine zz_if_lt (tgt := 128) hb (z_dec dX11_select 63 rfl) (by decide) (fun c4 => ?_) (fun c4 => ?_)
      · refine zz_iload hb (z_dec dX11_select 70 rfl) 5 rfl ?_
        refine zz_istore_n (L' := [(0, .ref 312), (1, .int v1), (2, .int v2), (3, .int vs0), (4, .int v4), (5, .int vs0)]) hb (z_dec dX11_select 71 rfl) rfl hnl rfl [1, 2, 3, 0, 4, 5] rfl ?_
        refine zz_iinc (v := (v4 + 1)) (L' := [(0, .ref 312), (1, .int v1), (2, .int v2), (3, .int vs0), (4, .int (v4 + 1)), (5, .int vs0)]) hb (z_dec dX11_select 72 rfl) 4 rfl rfl hnl rfl [1, 2, 3, 4, 0, 5] rfl ?_
        refine zz_goto (tgt := 58) hb (z_dec dX11_select 73 rfl) (by decide) ?_
        refine zz_sub [0, 1, 2, 3, 4] (L' := [(0, .ref 312), (1, .int v1), (2, .int v2), (3, .int vs0), (4, .int (v4 + 1))]) rfl ?_
        exact (k5 c2 c3 c4)
      · refine zz_aload_n hb (z_dec dX11_select 64 rfl) rfl 0 rfl ?_
        refine zz_iload_n hb (z_dec dX11_select 65 rfl) rfl 1 rfl ?_
        refine zz_iload hb (z_dec dX11_select 66 rfl) 5 rfl ?_
        refine zz_iload_n hb (z_dec dX11_select 67 rfl) rfl 3 rfl ?_
        refine zz_inv (as := [.int v1, .int vs0, .int v3]) (d := 9) (mc := (0, 0)) (P := (qE f6 g6)) (X := nX) hb ho hnl hR hE mkX11_isAhead rfl ckX11 t0 rfl ⟨Nat.le_refl 0, Nat.le_refl 0⟩ rfl (rX11_select 11 rfl) (rX11_select 12 rfl) (rX11_select 13 rfl) rfl (z_dec dX11_select 68 rfl) (m6 c2 c3 c4) (fun v J6 hp => ?_) (fun _ _ h => h.elim)
        obtain ⟨r6, rfl, e6, w6⟩ := hp
        have e6 := e6.symm
        subst e6
        have w6 := w6.symm
        subst w6
        show ZZ K (0, 0) 125 [(0, .ref 312), (1, .int v1), (2, .int v2), (3, .int v3), (4, .int v4), (5, .int vs0)] [.int f6] g6
        refine zz_if_eq (tgt := 131) hb (z_dec dX11_select 69 rfl) (by decide) (fun c7 => ?_) (fun c7 => ?_)
        · refine zz_iinc (v := (v4 + 1)) (L' := [(0, .ref 312), (1, .int v1), (2, .int v2), (3, .int v3), (4, .int (v4 + 1)), (5, .int vs0)]) hb (z_dec dX11_select 72 rfl) 4 rfl rfl hnl rfl [1, 2, 3, 4, 0, 5] rfl ?_
          refine zz_goto (tgt := 58) hb (z_dec dX11_select 73 rfl) (by decide) ?_
          refine zz_sub [0, 1, 2, 3, 4] (L' := [(0, .ref 312), (1, .int v1), (2, .int v2), (3, .int v3), (4, .int (v4 + 1))]) rfl ?_
          exact (k8 c2 c3 c4 c7)
        · refine zz_iload hb (z_dec dX11_select 70 rfl) 5 rfl ?_
          refine zz_istore_n (L' := [(0, .ref 312), (1, .int v1), (2, .int v2), (3, .int vs0), (4, .int v4), (5, .int vs0)]) hb (z_dec dX11_select 71 rfl) rfl hnl rfl [1, 2, 3, 0, 4, 5] rfl ?_
          refine zz_iinc (v := (v4 + 1)) (L' := [(0, .ref 312), (1, .int v1), (2, .int v2), (3, .int vs0), (4, .int (v4 + 1)), (5, .int vs0)]) hb (z_dec dX11_select 72 rfl) 4 rfl rfl hnl rfl [1, 2, 3, 4, 0, 5] rfl ?_
          refine zz_goto (tgt := 58) hb (z_dec dX11_select 73 rfl) (by decide) ?_
          refine zz_sub [0, 1, 2, 3, 4] (L' := [(0, .ref 312), (1, .int v1), (2, .int v2), (3, .int vs0), (4, .int (v4 + 1))]) rfl ?_
          exact (k9 c2 c3 c4 c7)
    · refine zz_iload hb (z_dec dX11_select 60 rfl) 5 rfl ?_
      exact zz_iret hb hE ⟨Nat.le_refl 0, Nat.le_refl 0⟩ (z_dec dX11_select 61 rfl) (h10 c2 c3)
  · refine zz_goto (tgt := 131) hb (z_dec dX11_select 56 rfl) (by decide) ?_
    refine zz_iinc (v := (v4 + 1)) (L' := [(0, .ref 312), (1, .int v1), (2, .int v2), (3, .int v3), (4, .int (v4 + 1)), (5, .int vs0)]) hb (z_dec dX11_select 72 rfl) 4 rfl rfl hnl rfl [1, 2, 3, 4, 0, 5] rfl ?_
    refine zz_goto (tgt := 58) hb (z_dec dX11_select 73 rfl) (by decide) ?_
    refine zz_sub [0, 1, 2, 3, 4] (L' := [(0, .ref 312), (1, .int v1), (2, .int v2), (3, .int v3), (4, .int (v4 + 1))]) rfl ?_
    exact (k11 c2)
set_option maxRecDepth 20000 in
theorem bX11_write_0 {K : zK} {P : Option Value → zM → Prop} {X : String → zM → Prop} (hK : zIs K RX11 cX11_write 3 none 8 (0, 0) P X) (hw : wOK (kw K)) {I : zM} (t0 : isT (kw K) 11 312) {v1 : Int32} {f1 : Int32} {g1 : zM} (m1 : CT (kG K) (kw K) (kl K) (yX11_current, cX11_current, 1, (some .int)) 0 (0, 0) [.ref 312] I (qE f1 g1) nX) (k3 : ∀ (c2 : f1 < 0), ZZ K (0, 0) 55 [(0, .ref 312), (1, .int v1), (2, .int f1)] [] g1) (k5 : ∀ (c2 : ¬ f1 < 0) (c4 : f1 = v1), ZZ K (0, 0) 55 [(0, .ref 312), (1, .int v1), (2, .int f1)] [] g1) {f6 : Int32} {g6 : zM} (m6 : ∀ (c2 : ¬ f1 < 0) (c4 : ¬ f1 = v1), CT (kG K) (kw K) (kl K) (yX10_length, cX10_length, 2, (some .int)) 7 (0, 0) [.ref 0, .int f1] g1 (qE f6 g6) nX) (h7 : ∀ (c2 : ¬ f1 < 0) (c4 : ¬ f1 = v1), vp_in f1 12) {f8 : Int32} {g8 : zM} (m8 : ∀ (c2 : ¬ f1 < 0) (c4 : ¬ f1 = v1), CT (kG K) (kw K) (kl K) (yL_blot, cL_blot, 1, (some .int)) 1 (0, 0) [.ref 1400] g6 (qE f8 g8) nX) {f9 : Int32} {g9 : zM} (m9 : ∀ (c2 : ¬ f1 < 0) (c4 : ¬ f1 = v1), CT (kG K) (kw K) (kl K) (yJ9_min_7cf53, cJ9_min_7cf53, 2, (some .int)) 0 (0, 0) [.int f6, .int ((g6 313 f1.toNatClampNeg) + f8)] g8 (qE f9 g9) nX) (h10 : ∀ (c2 : ¬ f1 < 0) (c4 : ¬ f1 = v1), vp_in f1 12) (k11 : ∀ (c2 : ¬ f1 < 0) (c4 : ¬ f1 = v1), ZZ K (0, 0) 55 [(0, .ref 312), (1, .int v1), (2, .int f1)] [] (up (up g9 313 (f1.toNatClampNeg) f9) 312 13 (((up g9 313 (f1.toNatClampNeg) f9) 312 13) + (1 : Int32)))) : ZZ K (0, 0) 0 [(0, .ref 312), (1, .int v1)] [] I := by
  obtain ⟨hb, ho, hnl, hR, hE⟩ := hK
  refine zz_aload_n hb (z_dec dX11_write 0 rfl) rfl 0 rfl ?_
  refine zz_inv (as := []) (d := 0) (mc := (0, 0)) (P := (qE f1 g1)) (X := nX) hb ho hnl hR hE mkX11_current rfl ckX11 t0 rfl ⟨Nat.le_refl 0, Nat.le_refl 0⟩ rfl (rX11_write 0 rfl) (rX11_write 1 rfl) (rX11_write 2 rfl) rfl (z_dec dX11_write 1 rfl) m1 (fun v J1 hp => ?_) (fun _ _ h => h.elim)
  obtain ⟨r1, rfl, e1, w1⟩ := hp
  have e1 := e1.symm
  subst e1
  have w1 := w1.symm
  subst w1
  show ZZ K (0, 0) 4 [(0, .ref 312), (1, .int v1)] [.int f1] g1
  refine zz_istore_n (L' := [(0, .ref 312), (1, .int v1), (2, .int f1)]) hb (z_dec dX11_write 2 rfl) rfl hnl rfl [1, 2, 0] rfl ?_
  refine zz_iload_n hb (z_dec dX11_write 3 rfl) rfl 2 rfl ?_
  refine zz_if_lt (tgt := 55) hb (z_dec dX11_write 4 rfl) (by decide) (fun c2 => ?_) (fun c2 => ?_)
  · exact (k3 c2)
  · refine zz_iload_n hb (z_dec dX11_write 5 rfl) rfl 2 rfl ?_
    refine zz_iload_n hb (z_dec dX11_write 6 rfl) rfl 1 rfl ?_
    refine zz_icmp_eq (tgt := 55) hb (z_dec dX11_write 7 rfl) (by decide) (fun c4 => ?_) (fun c4 => ?_)
    · exact (k5 c2 c4)
    · refine zz_aload_n hb (z_dec dX11_write 8 rfl) rfl 0 rfl ?_
      refine zz_getr (k := 2) (q := 313) hb ho rfl ckX11 t0 rfl rfl (rX11_write 3 rfl) rfl (z_dec dX11_write 9 rfl) ?_
      refine zz_iload_n hb (z_dec dX11_write 10 rfl) rfl 2 rfl ?_
      refine zz_aload_n hb (z_dec dX11_write 11 rfl) rfl 0 rfl ?_
      refine zz_getr (k := 0) (q := 0) hb ho rfl ckX11 t0 rfl rfl (rX11_write 4 rfl) rfl (z_dec dX11_write 12 rfl) ?_
      refine zz_iload_n hb (z_dec dX11_write 13 rfl) rfl 2 rfl ?_
      refine zz_inv (as := [.int f1]) (d := 7) (mc := (0, 0)) (P := (qE f6 g6)) (X := nX) hb ho hnl hR hE mkX10_length rfl ckX10 (show isT (kw K) 10 0 from isT.f (k := 0) t0 hw rfl rfl rfl (by decide)) rfl ⟨Nat.le_refl 0, Nat.le_refl 0⟩ rfl (rX11_write 5 rfl) (rX11_write 6 rfl) (rX11_write 7 rfl) rfl (z_dec dX11_write 14 rfl) (m6 c2 c4) (fun v J6 hp => ?_) (fun _ _ h => h.elim)
      obtain ⟨r6, rfl, e6, w6⟩ := hp
      have e6 := e6.symm
      subst e6
      have w6 := w6.symm
      subst w6
      show ZZ K (0, 0) 27 [(0, .ref 312), (1, .int v1), (2, .int f1)] [.int f6, .int f1, .ref 313] g6
      refine zz_aload_n hb (z_dec dX11_write 15 rfl) rfl 0 rfl ?_
      refine zz_getr (k := 2) (q := 313) hb ho rfl ckX11 t0 rfl rfl (rX11_write 3 rfl) rfl (z_dec dX11_write 16 rfl) ?_
      refine zz_iload_n hb (z_dec dX11_write 17 rfl) rfl 2 rfl ?_
      refine zz_iald (j := f1.toNatClampNeg) hb (show isT (kw K) 20 313 from isT.f (k := 2) t0 hw rfl rfl rfl (by decide)) rfl (zvi rfl (h7 c2 c4)) (z_dec dX11_write 18 rfl) ?_
      refine zz_aload_n hb (z_dec dX11_write 19 rfl) rfl 0 rfl ?_
      refine zz_getr (k := 1) (q := 1400) hb ho rfl ckX11 t0 rfl rfl (rX11_write 8 rfl) rfl (z_dec dX11_write 20 rfl) ?_
      refine zz_invSN (as := [.ref 1400]) (d := 1) (mc := (0, 0)) (P := (qE f8 g8)) (X := nX) hb ho hnl hR hE mkL_blot rfl rfl ⟨Nat.le_refl 0, Nat.le_refl 0⟩ rfl (List.mem_of_getElem? (i := 13) rfl) (rX11_write 9 rfl) rfl (z_dec dX11_write 21 rfl) (m8 c2 c4) (fun v J8 hp => ?_) (fun _ _ h => h.elim)
      obtain ⟨r8, rfl, e8, w8⟩ := hp
      have e8 := e8.symm
      subst e8
      have w8 := w8.symm
      subst w8
      show ZZ K (0, 0) 40 [(0, .ref 312), (1, .int v1), (2, .int f1)] [.int f8, .int (g6 313 f1.toNatClampNeg), .int f6, .int f1, .ref 313] g8
      refine zz_iadd hb (z_dec dX11_write 22 rfl) ?_
      refine zz_invS (as := [.int f6, .int ((g6 313 f1.toNatClampNeg) + f8)]) (d := 0) (mc := (0, 0)) (P := (qE f9 g9)) (X := nX) hb ho hnl hR hE mkJ9_min_7cf53 rfl rfl ⟨Nat.le_refl 0, Nat.le_refl 0⟩ rfl (rX11_write 10 rfl) (rX11_write 11 rfl) rfl (z_dec dX11_write 23 rfl) (m9 c2 c4) (fun v J9 hp => ?_) (fun _ _ h => h.elim)
      obtain ⟨r9, rfl, e9, w9⟩ := hp
      have e9 := e9.symm
      subst e9
      have w9 := w9.symm
      subst w9
      show ZZ K (0, 0) 44 [(0, .ref 312), (1, .int v1), (2, .int f1)] [.int f9, .int f1, .ref 313] g9
      refine zz_iast (j := f1.toNatClampNeg) hb (show isT (kw K) 20 313 from isT.f (k := 2) t0 hw rfl rfl rfl (by decide)) rfl (zvi rfl (h10 c2 c4)) (z_dec dX11_write 24 rfl) ?_
      refine zz_aload_n hb (z_dec dX11_write 25 rfl) rfl 0 rfl ?_
      refine zz_dup hb (z_dec dX11_write 26 rfl) rfl ?_
      refine zz_get (k := 13) hb ho ckX11 t0 rfl rfl (rX11_write 12 rfl) rfl (z_dec dX11_write 27 rfl) ?_
      refine zz_iconst (v := (1 : Int32)) hb (z_dec dX11_write 28 rfl) (by decide) ?_
      refine zz_iadd hb (z_dec dX11_write 29 rfl) ?_
      refine zz_put (k := 13) hb ho ckX11 t0 rfl rfl (rX11_write 12 rfl) rfl rfl rfl (z_dec dX11_write 30 rfl) ?_
      exact (k11 c2 c4)
set_option maxRecDepth 20000 in
theorem bX11_write_55 {K : zK} {P : Option Value → zM → Prop} {X : String → zM → Prop} (hK : zIs K RX11 cX11_write 3 none 8 (0, 0) P X) (hw : wOK (kw K)) {I : zM} (t0 : isT (kw K) 11 312) {v1 : Int32} {v2 : Int32} (k2 : ∀ (c1 : ¬ v1 = (I 312 8)), ZZ K (0, 0) 98 [(0, .ref 312), (1, .int v1), (2, .int v2)] [.ref 312] I) {f3 : Int32} {g3 : zM} (m3 : ∀ (c1 : v1 = (I 312 8)), CT (kG K) (kw K) (kl K) (yX10_policy, cX10_policy, 1, (some .int)) 0 (0, 0) [.ref 0] I (qE f3 g3) nX) (k5 : ∀ (c1 : v1 = (I 312 8)) (c4 : ¬ f3 = (4 : Int32)), ZZ K (0, 0) 99 [(0, .ref 312), (1, .int v1), (2, .int v2)] [.int ((g3 312 9) + (1 : Int32)), .ref 312] g3) {f6 : Int32} {g6 : zM} (m6 : ∀ (c1 : v1 = (I 312 8)) (c4 : f3 = (4 : Int32)), CT (kG K) (kw K) (kl K) (yL_quantum, cL_quantum, 1, (some .int)) 1 (0, 0) [.ref 1400] g3 (qE f6 g6) nX) (k8 : ∀ (c1 : v1 = (I 312 8)) (c4 : f3 = (4 : Int32)) (c7 : f6 ≤ (g3 312 9)), ZZ K (0, 0) 98 [(0, .ref 312), (1, .int v1), (2, .int v2)] [.ref 312] g6) (k9 : ∀ (c1 : v1 = (I 312 8)) (c4 : f3 = (4 : Int32)) (c7 : ¬ f6 ≤ (g3 312 9)), ZZ K (0, 0) 99 [(0, .ref 312), (1, .int v1), (2, .int v2)] [.int ((g6 312 9) + (1 : Int32)), .ref 312] g6) : ZZ K (0, 0) 55 [(0, .ref 312), (1, .int v1), (2, .int v2)] [] I := by
  obtain ⟨hb, ho, hnl, hR, hE⟩ := hK
  refine zz_aload_n hb (z_dec dX11_write 31 rfl) rfl 0 rfl ?_
  refine zz_iload_n hb (z_dec dX11_write 32 rfl) rfl 1 rfl ?_
  refine zz_aload_n hb (z_dec dX11_write 33 rfl) rfl 0 rfl ?_
  refine zz_get (k := 8) hb ho ckX11 t0 rfl rfl (rX11_write 13 rfl) rfl (z_dec dX11_write 34 rfl) ?_
  refine zz_icmp_ne (tgt := 98) hb (z_dec dX11_write 35 rfl) (by decide) (fun c1 => ?_) (fun c1 => ?_)
  · exact (k2 c1)
  · refine zz_aload_n hb (z_dec dX11_write 36 rfl) rfl 0 rfl ?_
    refine zz_getr (k := 0) (q := 0) hb ho rfl ckX11 t0 rfl rfl (rX11_write 4 rfl) rfl (z_dec dX11_write 37 rfl) ?_
    refine zz_inv (as := []) (d := 0) (mc := (0, 0)) (P := (qE f3 g3)) (X := nX) hb ho hnl hR hE mkX10_policy rfl ckX10 (show isT (kw K) 10 0 from isT.f (k := 0) t0 hw rfl rfl rfl (by decide)) rfl ⟨Nat.le_refl 0, Nat.le_refl 0⟩ rfl (rX11_write 14 rfl) (rX11_write 15 rfl) (rX11_write 16 rfl) rfl (z_dec dX11_write 38 rfl) (m3 c1) (fun v J3 hp => ?_) (fun _ _ h => h.elim)
    obtain ⟨r3, rfl, e3, w3⟩ := hp
    have e3 := e3.symm
    subst e3
    have w3 := w3.symm
    subst w3
    show ZZ K (0, 0) 71 [(0, .ref 312), (1, .int v1), (2, .int v2)] [.int f3, .ref 312] g3
    refine zz_iconst (v := (4 : Int32)) hb (z_dec dX11_write 39 rfl) (by decide) ?_
    refine zz_icmp_ne (tgt := 89) hb (z_dec dX11_write 40 rfl) (by decide) (fun c4 => ?_) (fun c4 => ?_)
    · refine zz_aload_n hb (z_dec dX11_write 47 rfl) rfl 0 rfl ?_
      refine zz_get (k := 9) hb ho ckX11 t0 rfl rfl (rX11_write 17 rfl) rfl (z_dec dX11_write 48 rfl) ?_
      refine zz_iconst (v := (1 : Int32)) hb (z_dec dX11_write 49 rfl) (by decide) ?_
      refine zz_iadd hb (z_dec dX11_write 50 rfl) ?_
      refine zz_goto (tgt := 99) hb (z_dec dX11_write 51 rfl) (by decide) ?_
      exact (k5 c1 c4)
    · refine zz_aload_n hb (z_dec dX11_write 41 rfl) rfl 0 rfl ?_
      refine zz_get (k := 9) hb ho ckX11 t0 rfl rfl (rX11_write 17 rfl) rfl (z_dec dX11_write 42 rfl) ?_
      refine zz_aload_n hb (z_dec dX11_write 43 rfl) rfl 0 rfl ?_
      refine zz_getr (k := 1) (q := 1400) hb ho rfl ckX11 t0 rfl rfl (rX11_write 8 rfl) rfl (z_dec dX11_write 44 rfl) ?_
      refine zz_invSN (as := [.ref 1400]) (d := 1) (mc := (0, 0)) (P := (qE f6 g6)) (X := nX) hb ho hnl hR hE mkL_quantum rfl rfl ⟨Nat.le_refl 0, Nat.le_refl 0⟩ rfl (List.mem_of_getElem? (i := 10) rfl) (rX11_write 18 rfl) rfl (z_dec dX11_write 45 rfl) (m6 c1 c4) (fun v J6 hp => ?_) (fun _ _ h => h.elim)
      obtain ⟨r6, rfl, e6, w6⟩ := hp
      have e6 := e6.symm
      subst e6
      have w6 := w6.symm
      subst w6
      show ZZ K (0, 0) 86 [(0, .ref 312), (1, .int v1), (2, .int v2)] [.int f6, .int (g3 312 9), .ref 312] g6
      refine zz_icmp_ge (tgt := 98) hb (z_dec dX11_write 46 rfl) (by decide) (fun c7 => ?_) (fun c7 => ?_)
      · exact (k8 c1 c4 c7)
      · refine zz_aload_n hb (z_dec dX11_write 47 rfl) rfl 0 rfl ?_
        refine zz_get (k := 9) hb ho ckX11 t0 rfl rfl (rX11_write 17 rfl) rfl (z_dec dX11_write 48 rfl) ?_
        refine zz_iconst (v := (1 : Int32)) hb (z_dec dX11_write 49 rfl) (by decide) ?_
        refine zz_iadd hb (z_dec dX11_write 50 rfl) ?_
        refine zz_goto (tgt := 99) hb (z_dec dX11_write 51 rfl) (by decide) ?_
        exact (k9 c1 c4 c7)
set_option maxRecDepth 20000 in
theorem bX11_write_98 {K : zK} {P : Option Value → zM → Prop} {X : String → zM → Prop} (hK : zIs K RX11 cX11_write 3 none 8 (0, 0) P X) (hw : wOK (kw K)) {I : zM} (t0 : isT (kw K) 11 312) {v1 : Int32} {v2 : Int32} (ts0 : isT (kw K) 11 312) (k1 : ZZ K (0, 0) 99 [(0, .ref 312), (1, .int v1), (2, .int v2)] [.int (1 : Int32), .ref 312] I) : ZZ K (0, 0) 98 [(0, .ref 312), (1, .int v1), (2, .int v2)] [.ref 312] I := by
  obtain ⟨hb, ho, hnl, hR, hE⟩ := hK
  refine zz_iconst (v := (1 : Int32)) hb (z_dec dX11_write 52 rfl) (by decide) ?_
  exact k1
set_option maxRecDepth 20000 in
theorem bX11_write_99 {K : zK} {P : Option Value → zM → Prop} {X : String → zM → Prop} (hK : zIs K RX11 cX11_write 3 none 8 (0, 0) P X) (hw : wOK (kw K)) {I : zM} (t0 : isT (kw K) 11 312) {v1 : Int32} {v2 : Int32} (ts0 : isT (kw K) 11 312) {vs1 : Int32} (h1 : vp_in v1 12) (h2 : vp_in v1 12) (h3 : vp_in v1 12) (h4 : vp_in v1 12) (h5 : vp_in v1 12) (k7 : ∀ (c6 : ¬ ((up (up (up (up (up (up I 312 9 vs1) 312 8 v1) 313 (v1.toNatClampNeg) (((up (up I 312 9 vs1) 312 8 v1) 313 v1.toNatClampNeg) - (1 : Int32))) 315 (v1.toNatClampNeg) (((up (up (up I 312 9 vs1) 312 8 v1) 313 (v1.toNatClampNeg) (((up (up I 312 9 vs1) 312 8 v1) 313 v1.toNatClampNeg) - (1 : Int32))) 315 v1.toNatClampNeg) + (1 : Int32))) 312 15 (((up (up (up (up I 312 9 vs1) 312 8 v1) 313 (v1.toNatClampNeg) (((up (up I 312 9 vs1) 312 8 v1) 313 v1.toNatClampNeg) - (1 : Int32))) 315 (v1.toNatClampNeg) (((up (up (up I 312 9 vs1) 312 8 v1) 313 (v1.toNatClampNeg) (((up (up I 312 9 vs1) 312 8 v1) 313 v1.toNatClampNeg) - (1 : Int32))) 315 v1.toNatClampNeg) + (1 : Int32))) 312 15) + (1 : Int32))) 312 10 (((up (up (up (up (up I 312 9 vs1) 312 8 v1) 313 (v1.toNatClampNeg) (((up (up I 312 9 vs1) 312 8 v1) 313 v1.toNatClampNeg) - (1 : Int32))) 315 (v1.toNatClampNeg) (((up (up (up I 312 9 vs1) 312 8 v1) 313 (v1.toNatClampNeg) (((up (up I 312 9 vs1) 312 8 v1) 313 v1.toNatClampNeg) - (1 : Int32))) 315 v1.toNatClampNeg) + (1 : Int32))) 312 15 (((up (up (up (up I 312 9 vs1) 312 8 v1) 313 (v1.toNatClampNeg) (((up (up I 312 9 vs1) 312 8 v1) 313 v1.toNatClampNeg) - (1 : Int32))) 315 (v1.toNatClampNeg) (((up (up (up I 312 9 vs1) 312 8 v1) 313 (v1.toNatClampNeg) (((up (up I 312 9 vs1) 312 8 v1) 313 v1.toNatClampNeg) - (1 : Int32))) 315 v1.toNatClampNeg) + (1 : Int32))) 312 15) + (1 : Int32))) 312 10) - (1 : Int32))) 313 v1.toNatClampNeg) = 0), ZZ K (0, 0) 168 [(0, .ref 312), (1, .int v1), (2, .int v2)] [] (up (up (up (up (up (up I 312 9 vs1) 312 8 v1) 313 (v1.toNatClampNeg) (((up (up I 312 9 vs1) 312 8 v1) 313 v1.toNatClampNeg) - (1 : Int32))) 315 (v1.toNatClampNeg) (((up (up (up I 312 9 vs1) 312 8 v1) 313 (v1.toNatClampNeg) (((up (up I 312 9 vs1) 312 8 v1) 313 v1.toNatClampNeg) - (1 : Int32))) 315 v1.toNatClampNeg) + (1 : Int32))) 312 15 (((up (up (up (up I 312 9 vs1) 312 8 v1) 313 (v1.toNatClampNeg) (((up (up I 312 9 vs1) 312 8 v1) 313 v1.toNatClampNeg) - (1 : Int32))) 315 (v1.toNatClampNeg) (((up (up (up I 312 9 vs1) 312 8 v1) 313 (v1.toNatClampNeg) (((up (up I 312 9 vs1) 312 8 v1) 313 v1.toNatClampNeg) - (1 : Int32))) 315 v1.toNatClampNeg) + (1 : Int32))) 312 15) + (1 : Int32))) 312 10 (((up (up (up (up (up I 312 9 vs1) 312 8 v1) 313 (v1.toNatClampNeg) (((up (up I 312 9 vs1) 312 8 v1) 313 v1.toNatClampNeg) - (1 : Int32))) 315 (v1.toNatClampNeg) (((up (up (up I 312 9 vs1) 312 8 v1) 313 (v1.toNatClampNeg) (((up (up I 312 9 vs1) 312 8 v1) 313 v1.toNatClampNeg) - (1 : Int32))) 315 v1.toNatClampNeg) + (1 : Int32))) 312 15 (((up (up (up (up I 312 9 vs1) 312 8 v1) 313 (v1.toNatClampNeg) (((up (up I 312 9 vs1) 312 8 v1) 313 v1.toNatClampNeg) - (1 : Int32))) 315 (v1.toNatClampNeg) (((up (up (up I 312 9 vs1) 312 8 v1) 313 (v1.toNatClampNeg) (((up (up I 312 9 vs1) 312 8 v1) 313 v1.toNatClampNeg) - (1 : Int32))) 315 v1.toNatClampNeg) + (1 : Int32))) 312 15) + (1 : Int32))) 312 10) - (1 : Int32)))) (h8 : ∀ (c6 : ((up (up (up (up (up (up I 312 9 vs1) 312 8 v1) 313 (v1.toNatClampNeg) (((up (up I 312 9 vs1) 312 8 v1) 313 v1.toNatClampNeg) - (1 : Int32))) 315 (v1.toNatClampNeg) (((up (up (up I 312 9 vs1) 312 8 v1) 313 (v1.toNatClampNeg) (((up (up I 312 9 vs1) 312 8 v1) 313 v1.toNatClampNeg) - (1 : Int32))) 315 v1.toNatClampNeg) + (1 : Int32))) 312 15 (((up (up (up (up I 312 9 vs1) 312 8 v1) 313 (v1.toNatClampNeg) (((up (up I 312 9 vs1) 312 8 v1) 313 v1.toNatClampNeg) - (1 : Int32))) 315 (v1.toNatClampNeg) (((up (up (up I 312 9 vs1) 312 8 v1) 313 (v1.toNatClampNeg) (((up (up I 312 9 vs1) 312 8 v1) 313 v1.toNatClampNeg) - (1 : Int32))) 315 v1.toNatClampNeg) + (1 : Int32))) 312 15) + (1 : Int32))) 312 10 (((up (up (up (up (up I 312 9 vs1) 312 8 v1) 313 (v1.toNatClampNeg) (((up (up I 312 9 vs1) 312 8 v1) 313 v1.toNatClampNeg) - (1 : Int32))) 315 (v1.toNatClampNeg) (((up (up (up I 312 9 vs1) 312 8 v1) 313 (v1.toNatClampNeg) (((up (up I 312 9 vs1) 312 8 v1) 313 v1.toNatClampNeg) - (1 : Int32))) 315 v1.toNatClampNeg) + (1 : Int32))) 312 15 (((up (up (up (up I 312 9 vs1) 312 8 v1) 313 (v1.toNatClampNeg) (((up (up I 312 9 vs1) 312 8 v1) 313 v1.toNatClampNeg) - (1 : Int32))) 315 (v1.toNatClampNeg) (((up (up (up I 312 9 vs1) 312 8 v1) 313 (v1.toNatClampNeg) (((up (up I 312 9 vs1) 312 8 v1) 313 v1.toNatClampNeg) - (1 : Int32))) 315 v1.toNatClampNeg) + (1 : Int32))) 312 15) + (1 : Int32))) 312 10) - (1 : Int32))) 313 v1.toNatClampNeg) = 0), vp_in v1 12) (k9 : ∀ (c6 : ((up (up (up (up (up (up I 312 9 vs1) 312 8 v1) 313 (v1.toNatClampNeg) (((up (up I 312 9 vs1) 312 8 v1) 313 v1.toNatClampNeg) - (1 : Int32))) 315 (v1.toNatClampNeg) (((up (up (up I 312 9 vs1) 312 8 v1) 313 (v1.toNatClampNeg) (((up (up I 312 9 vs1) 312 8 v1) 313 v1.toNatClampNeg) - (1 : Int32))) 315 v1.toNatClampNeg) + (1 : Int32))) 312 15 (((up (up (up (up I 312 9 vs1) 312 8 v1) 313 (v1.toNatClampNeg) (((up (up I 312 9 vs1) 312 8 v1) 313 v1.toNatClampNeg) - (1 : Int32))) 315 (v1.toNatClampNeg) (((up (up (up I 312 9 vs1) 312 8 v1) 313 (v1.toNatClampNeg) (((up (up I 312 9 vs1) 312 8 v1) 313 v1.toNatClampNeg) - (1 : Int32))) 315 v1.toNatClampNeg) + (1 : Int32))) 312 15) + (1 : Int32))) 312 10 (((up (up (up (up (up I 312 9 vs1) 312 8 v1) 313 (v1.toNatClampNeg) (((up (up I 312 9 vs1) 312 8 v1) 313 v1.toNatClampNeg) - (1 : Int32))) 315 (v1.toNatClampNeg) (((up (up (up I 312 9 vs1) 312 8 v1) 313 (v1.toNatClampNeg) (((up (up I 312 9 vs1) 312 8 v1) 313 v1.toNatClampNeg) - (1 : Int32))) 315 v1.toNatClampNeg) + (1 : Int32))) 312 15 (((up (up (up (up I 312 9 vs1) 312 8 v1) 313 (v1.toNatClampNeg) (((up (up I 312 9 vs1) 312 8 v1) 313 v1.toNatClampNeg) - (1 : Int32))) 315 (v1.toNatClampNeg) (((up (up (up I 312 9 vs1) 312 8 v1) 313 (v1.toNatClampNeg) (((up (up I 312 9 vs1) 312 8 v1) 313 v1.toNatClampNeg) - (1 : Int32))) 315 v1.toNatClampNeg) + (1 : Int32))) 312 15) + (1 : Int32))) 312 10) - (1 : Int32))) 313 v1.toNatClampNeg) = 0), ZZ K (0, 0) 168 [(0, .ref 312), (1, .int v1), (2, .int v2)] [] (up (up (up (up (up (up (up I 312 9 vs1) 312 8 v1) 313 (v1.toNatClampNeg) (((up (up I 312 9 vs1) 312 8 v1) 313 v1.toNatClampNeg) - (1 : Int32))) 315 (v1.toNatClampNeg) (((up (up (up I 312 9 vs1) 312 8 v1) 313 (v1.toNatClampNeg) (((up (up I 312 9 vs1) 312 8 v1) 313 v1.toNatClampNeg) - (1 : Int32))) 315 v1.toNatClampNeg) + (1 : Int32))) 312 15 (((up (up (up (up I 312 9 vs1) 312 8 v1) 313 (v1.toNatClampNeg) (((up (up I 312 9 vs1) 312 8 v1) 313 v1.toNatClampNeg) - (1 : Int32))) 315 (v1.toNatClampNeg) (((up (up (up I 312 9 vs1) 312 8 v1) 313 (v1.toNatClampNeg) (((up (up I 312 9 vs1) 312 8 v1) 313 v1.toNatClampNeg) - (1 : Int32))) 315 v1.toNatClampNeg) + (1 : Int32))) 312 15) + (1 : Int32))) 312 10 (((up (up (up (up (up I 312 9 vs1) 312 8 v1) 313 (v1.toNatClampNeg) (((up (up I 312 9 vs1) 312 8 v1) 313 v1.toNatClampNeg) - (1 : Int32))) 315 (v1.toNatClampNeg) (((up (up (up I 312 9 vs1) 312 8 v1) 313 (v1.toNatClampNeg) (((up (up I 312 9 vs1) 312 8 v1) 313 v1.toNatClampNeg) - (1 : Int32))) 315 v1.toNatClampNeg) + (1 : Int32))) 312 15 (((up (up (up (up I 312 9 vs1) 312 8 v1) 313 (v1.toNatClampNeg) (((up (up I 312 9 vs1) 312 8 v1) 313 v1.toNatClampNeg) - (1 : Int32))) 315 (v1.toNatClampNeg) (((up (up (up I 312 9 vs1) 312 8 v1) 313 (v1.toNatClampNeg) (((up (up I 312 9 vs1) 312 8 v1) 313 v1.toNatClampNeg) - (1 : Int32))) 315 v1.toNatClampNeg) + (1 : Int32))) 312 15) + (1 : Int32))) 312 10) - (1 : Int32))) 314 (v1.toNatClampNeg) (((up (up (up (up (up (up I 312 9 vs1) 312 8 v1) 313 (v1.toNatClampNeg) (((up (up I 312 9 vs1) 312 8 v1) 313 v1.toNatClampNeg) - (1 : Int32))) 315 (v1.toNatClampNeg) (((up (up (up I 312 9 vs1) 312 8 v1) 313 (v1.toNatClampNeg) (((up (up I 312 9 vs1) 312 8 v1) 313 v1.toNatClampNeg) - (1 : Int32))) 315 v1.toNatClampNeg) + (1 : Int32))) 312 15 (((up (up (up (up I 312 9 vs1) 312 8 v1) 313 (v1.toNatClampNeg) (((up (up I 312 9 vs1) 312 8 v1) 313 v1.toNatClampNeg) - (1 : Int32))) 315 (v1.toNatClampNeg) (((up (up (up I 312 9 vs1) 312 8 v1) 313 (v1.toNatClampNeg) (((up (up I 312 9 vs1) 312 8 v1) 313 v1.toNatClampNeg) - (1 : Int32))) 315 v1.toNatClampNeg) + (1 : Int32))) 312 15) + (1 : Int32))) 312 10 (((up (up (up (up (up I 312 9 vs1) 312 8 v1) 313 (v1.toNatClampNeg) (((up (up I 312 9 vs1) 312 8 v1) 313 v1.toNatClampNeg) - (1 : Int32))) 315 (v1.toNatClampNeg) (((up (up (up I 312 9 vs1) 312 8 v1) 313 (v1.toNatClampNeg) (((up (up I 312 9 vs1) 312 8 v1) 313 v1.toNatClampNeg) - (1 : Int32))) 315 v1.toNatClampNeg) + (1 : Int32))) 312 15 (((up (up (up (up I 312 9 vs1) 312 8 v1) 313 (v1.toNatClampNeg) (((up (up I 312 9 vs1) 312 8 v1) 313 v1.toNatClampNeg) - (1 : Int32))) 315 (v1.toNatClampNeg) (((up (up (up I 312 9 vs1) 312 8 v1) 313 (v1.toNatClampNeg) (((up (up I 312 9 vs1) 312 8 v1) 313 v1.toNatClampNeg) - (1 : Int32))) 315 v1.toNatClampNeg) + (1 : Int32))) 312 15) + (1 : Int32))) 312 10) - (1 : Int32))) 312 6) + (1 : Int32)))) : ZZ K (0, 0) 99 [(0, .ref 312), (1, .int v1), (2, .int v2)] [.int vs1, .ref 312] I := by
  obtain ⟨hb, ho, hnl, hR, hE⟩ := hK
  refine zz_put (k := 9) hb ho ckX11 ts0 rfl rfl (rX11_write 17 rfl) rfl rfl rfl (z_dec dX11_write 53 rfl) ?_
  refine zz_aload_n hb (z_dec dX11_write 54 rfl) rfl 0 rfl ?_
  refine zz_iload_n hb (z_dec dX11_write 55 rfl) rfl 1 rfl ?_
  refine zz_put (k := 8) hb ho ckX11 t0 rfl rfl (rX11_write 13 rfl) rfl rfl rfl (z_dec dX11_write 56 rfl) ?_
  refine zz_aload_n hb (z_dec dX11_write 57 rfl) rfl 0 rfl ?_
  refine zz_getr (k := 2) (q := 313) hb ho rfl ckX11 t0 rfl rfl (rX11_write 3 rfl) rfl (z_dec dX11_write 58 rfl) ?_
  refine zz_iload_n hb (z_dec dX11_write 59 rfl) rfl 1 rfl ?_
  refine zz_dup2 hb (z_dec dX11_write 60 rfl) rfl rfl ?_
  refine zz_iald (j := v1.toNatClampNeg) hb (show isT (kw K) 20 313 from isT.f (k := 2) t0 hw rfl rfl rfl (by decide)) rfl (zvi rfl h1) (z_dec dX11_write 61 rfl) ?_
  refine zz_iconst (v := (1 : Int32)) hb (z_dec dX11_write 62 rfl) (by decide) ?_
  refine zz_isub hb (z_dec dX11_write 63 rfl) ?_
  refine zz_iast (j := v1.toNatClampNeg) hb (show isT (kw K) 20 313 from isT.f (k := 2) t0 hw rfl rfl rfl (by decide)) rfl (zvi rfl h2) (z_dec dX11_write 64 rfl) ?_
  refine zz_aload_n hb (z_dec dX11_write 65 rfl) rfl 0 rfl ?_
  refine zz_getr (k := 4) (q := 315) hb ho rfl ckX11 t0 rfl rfl (rX11_write 19 rfl) rfl (z_dec dX11_write 66 rfl) ?_
  refine zz_iload_n hb (z_dec dX11_write 67 rfl) rfl 1 rfl ?_
  refine zz_dup2 hb (z_dec dX11_write 68 rfl) rfl rfl ?_
  refine zz_iald (j := v1.toNatClampNeg) hb (show isT (kw K) 20 315 from isT.f (k := 4) t0 hw rfl rfl rfl (by decide)) rfl (zvi rfl h3) (z_dec dX11_write 69 rfl) ?_
  refine zz_iconst (v := (1 : Int32)) hb (z_dec dX11_write 70 rfl) (by decide) ?_
  refine zz_iadd hb (z_dec dX11_write 71 rfl) ?_
  refine zz_iast (j := v1.toNatClampNeg) hb (show isT (kw K) 20 315 from isT.f (k := 4) t0 hw rfl rfl rfl (by decide)) rfl (zvi rfl h4) (z_dec dX11_write 72 rfl) ?_
  refine zz_aload_n hb (z_dec dX11_write 73 rfl) rfl 0 rfl ?_
  refine zz_dup hb (z_dec dX11_write 74 rfl) rfl ?_
  refine zz_get (k := 15) hb ho ckX11 t0 rfl rfl (rX11_write 20 rfl) rfl (z_dec dX11_write 75 rfl) ?_
  refine zz_iconst (v := (1 : Int32)) hb (z_dec dX11_write 76 rfl) (by decide) ?_
  refine zz_iadd hb (z_dec dX11_write 77 rfl) ?_
  refine zz_put (k := 15) hb ho ckX11 t0 rfl rfl (rX11_write 20 rfl) rfl rfl rfl (z_dec dX11_write 78 rfl) ?_
  refine zz_aload_n hb (z_dec dX11_write 79 rfl) rfl 0 rfl ?_
  refine zz_dup hb (z_dec dX11_write 80 rfl) rfl ?_
  refine zz_get (k := 10) hb ho ckX11 t0 rfl rfl (rX11_write 21 rfl) rfl (z_dec dX11_write 81 rfl) ?_
  refine zz_iconst (v := (1 : Int32)) hb (z_dec dX11_write 82 rfl) (by decide) ?_
  refine zz_isub hb (z_dec dX11_write 83 rfl) ?_
  refine zz_put (k := 10) hb ho ckX11 t0 rfl rfl (rX11_write 21 rfl) rfl rfl rfl (z_dec dX11_write 84 rfl) ?_
  refine zz_aload_n hb (z_dec dX11_write 85 rfl) rfl 0 rfl ?_
  refine zz_getr (k := 2) (q := 313) hb ho rfl ckX11 t0 rfl rfl (rX11_write 3 rfl) rfl (z_dec dX11_write 86 rfl) ?_
  refine zz_iload_n hb (z_dec dX11_write 87 rfl) rfl 1 rfl ?_
  refine zz_iald (j := v1.toNatClampNeg) hb (show isT (kw K) 20 313 from isT.f (k := 2) t0 hw rfl rfl rfl (by decide)) rfl (zvi rfl h5) (z_dec dX11_write 88 rfl) ?_
  refine zz_if_ne (tgt := 168) hb (z_dec dX11_write 89 rfl) (by decide) (fun c6 => ?_) (fun c6 => ?_)
  · exact (k7 c6)
  · refine zz_aload_n hb (z_dec dX11_write 90 rfl) rfl 0 rfl ?_
    refine zz_getr (k := 3) (q := 314) hb ho rfl ckX11 t0 rfl rfl (rX11_write 22 rfl) rfl (z_dec dX11_write 91 rfl) ?_
    refine zz_iload_n hb (z_dec dX11_write 92 rfl) rfl 1 rfl ?_
    refine zz_aload_n hb (z_dec dX11_write 93 rfl) rfl 0 rfl ?_
    refine zz_get (k := 6) hb ho ckX11 t0 rfl rfl (rX11_write 23 rfl) rfl (z_dec dX11_write 94 rfl) ?_
    refine zz_iconst (v := (1 : Int32)) hb (z_dec dX11_write 95 rfl) (by decide) ?_
    refine zz_iadd hb (z_dec dX11_write 96 rfl) ?_
    refine zz_iast (j := v1.toNatClampNeg) hb (show isT (kw K) 20 314 from isT.f (k := 3) t0 hw rfl rfl rfl (by decide)) rfl (zvi rfl (h8 c6)) (z_dec dX11_write 97 rfl) ?_
    exact (k9 c6)
set_option maxRecDepth 20000 in
theorem bX11_write_168 {K : zK} {P : Option Value → zM → Prop} {X : String → zM → Prop} (hK : zIs K RX11 cX11_write 3 none 8 (0, 0) P X) (hw : wOK (kw K)) {I : zM} (t0 : isT (kw K) 11 312) {v1 : Int32} {v2 : Int32} (h2 : ∀ (c1 : ¬ (I 312 10) = 0), P none I) {f3 : Int32} {g3 : zM} (m3 : ∀ (c1 : (I 312 10) = 0), CT (kG K) (kw K) (kl K) (yL_refill, cL_refill, 1, (some .int)) 1 (0, 0) [.ref 1400] I (qE f3 g3) nX) (h5 : ∀ (c1 : (I 312 10) = 0) (c4 : ¬ ((up g3 312 11 f3) 312 11) = 0), P none (up g3 312 11 f3)) {f6 : Int32} {g6 : zM} (m6 : ∀ (c1 : (I 312 10) = 0) (c4 : ((up g3 312 11 f3) 312 11) = 0), CT (kG K) (kw K) (kl K) (yL_capacity, cL_capacity, 1, (some .int)) 1 (0, 0) [.ref 1400] (up g3 312 11 f3) (qE f6 g6) nX) (h7 : ∀ (c1 : (I 312 10) = 0) (c4 : ((up g3 312 11 f3) 312 11) = 0), P none (up g6 312 10 f6)) : ZZ K (0, 0) 168 [(0, .ref 312), (1, .int v1), (2, .int v2)] [] I := by
  obtain ⟨hb, ho, hnl, hR, hE⟩ := hK
  refine zz_aload_n hb (z_dec dX11_write 98 rfl) rfl 0 rfl ?_
  refine zz_get (k := 10) hb ho ckX11 t0 rfl rfl (rX11_write 21 rfl) rfl (z_dec dX11_write 99 rfl) ?_
  refine zz_if_ne (tgt := 204) hb (z_dec dX11_write 100 rfl) (by decide) (fun c1 => ?_) (fun c1 => ?_)
  · exact zz_vret hb hE ⟨Nat.le_refl 0, Nat.le_refl 0⟩ (z_dec dX11_write 114 rfl) (h2 c1)
  · refine zz_aload_n hb (z_dec dX11_write 101 rfl) rfl 0 rfl ?_
    refine zz_aload_n hb (z_dec dX11_write 102 rfl) rfl 0 rfl ?_
    refine zz_getr (k := 1) (q := 1400) hb ho rfl ckX11 t0 rfl rfl (rX11_write 8 rfl) rfl (z_dec dX11_write 103 rfl) ?_
    refine zz_invSN (as := [.ref 1400]) (d := 1) (mc := (0, 0)) (P := (qE f3 g3)) (X := nX) hb ho hnl hR hE mkL_refill rfl rfl ⟨Nat.le_refl 0, Nat.le_refl 0⟩ rfl (List.mem_of_getElem? (i := 14) rfl) (rX11_write 24 rfl) rfl (z_dec dX11_write 104 rfl) (m3 c1) (fun v J3 hp => ?_) (fun _ _ h => h.elim)
    obtain ⟨r3, rfl, e3, w3⟩ := hp
    have e3 := e3.symm
    subst e3
    have w3 := w3.symm
    subst w3
    show ZZ K (0, 0) 183 [(0, .ref 312), (1, .int v1), (2, .int v2)] [.int f3, .ref 312] g3
    refine zz_put (k := 11) hb ho ckX11 t0 rfl rfl (rX11_write 25 rfl) rfl rfl rfl (z_dec dX11_write 105 rfl) ?_
    refine zz_aload_n hb (z_dec dX11_write 106 rfl) rfl 0 rfl ?_
    refine zz_get (k := 11) hb ho ckX11 t0 rfl rfl (rX11_write 25 rfl) rfl (z_dec dX11_write 107 rfl) ?_
    refine zz_if_ne (tgt := 204) hb (z_dec dX11_write 108 rfl) (by decide) (fun c4 => ?_) (fun c4 => ?_)
    · exact zz_vret hb hE ⟨Nat.le_refl 0, Nat.le_refl 0⟩ (z_dec dX11_write 114 rfl) (h5 c1 c4)
    · refine zz_aload_n hb (z_dec dX11_write 109 rfl) rfl 0 rfl ?_
      refine zz_aload_n hb (z_dec dX11_write 110 rfl) rfl 0 rfl ?_
      refine zz_getr (k := 1) (q := 1400) hb ho rfl ckX11 t0 rfl rfl (rX11_write 8 rfl) rfl (z_dec dX11_write 111 rfl) ?_
      refine zz_invSN (as := [.ref 1400]) (d := 1) (mc := (0, 0)) (P := (qE f6 g6)) (X := nX) hb ho hnl hR hE mkL_capacity rfl rfl ⟨Nat.le_refl 0, Nat.le_refl 0⟩ rfl (List.mem_of_getElem? (i := 9) rfl) (rX11_write 26 rfl) rfl (z_dec dX11_write 112 rfl) (m6 c1 c4) (fun v J6 hp => ?_) (fun _ _ h => h.elim)
      obtain ⟨r6, rfl, e6, w6⟩ := hp
      have e6 := e6.symm
      subst e6
      have w6 := w6.symm
      subst w6
      show ZZ K (0, 0) 201 [(0, .ref 312), (1, .int v1), (2, .int v2)] [.int f6, .ref 312] g6
      refine zz_put (k := 10) hb ho ckX11 t0 rfl rfl (rX11_write 21 rfl) rfl rfl rfl (z_dec dX11_write 113 rfl) ?_
      exact zz_vret hb hE ⟨Nat.le_refl 0, Nat.le_refl 0⟩ (z_dec dX11_write 114 rfl) (h7 c1 c4)
set_option maxRecDepth 20000 in
theorem bX11_pass_0 {K : zK} {P : Option Value → zM → Prop} {X : String → zM → Prop} (hK : zIs K RX11 cX11_pass 2 none 11 (0, 0) P X) (hw : wOK (kw K)) {I : zM} (t0 : isT (kw K) 11 312) {f3 : Int32} {g3 : zM} (m3 : ∀ (c1 : (I 312 11) ≤ 0) (c2 : (I 312 12) ≤ 0), CT (kG K) (kw K) (kl K) (yX10_policy, cX10_policy, 1, (some .int)) 0 (0, 0) [.ref 0] I (qE f3 g3) nX) {f4 : Int32} {g4 : zM} (m4 : ∀ (c1 : (I 312 11) ≤ 0) (c2 : (I 312 12) ≤ 0), CT (kG K) (kw K) (kl K) (yX11_select, cX11_select, 6, (some .int)) 10 (0, 0) [.ref 312, .int f3] g3 (qE f4 g4) nX) {f6 : Int32} {g6 : zM} (m6 : ∀ (c1 : (I 312 11) ≤ 0) (c2 : (I 312 12) ≤ 0) (c5 : 0 ≤ f4), CT (kG K) (kw K) (kl K) (yX10_clerkOf, cX10_clerkOf, 2, (some .int)) 7 (0, 0) [.ref 0, .int f4] g4 (qE f6 g6) nX) (k8 : ∀ (c1 : (I 312 11) ≤ 0) (c2 : (I 312 12) ≤ 0) (c5 : 0 ≤ f4) (c7 : f6 = (g6 312 7)), ZZ K (0, 0) 150 [(0, .ref 312), (1, .int f4)] [] g6) {f9 : Int32} {g9 : zM} (m9 : ∀ (c1 : (I 312 11) ≤ 0) (c2 : (I 312 12) ≤ 0) (c5 : 0 ≤ f4) (c7 : ¬ f6 = (g6 312 7)), CT (kG K) (kw K) (kl K) (yL_handOver, cL_handOver, 1, (some .int)) 1 (0, 0) [.ref 1400] g6 (qE f9 g9) nX) (k11 : ∀ (c1 : (I 312 11) ≤ 0) (c2 : (I 312 12) ≤ 0) (c5 : 0 ≤ f4) (c7 : ¬ f6 = (g6 312 7)) (c10 : f9 ≤ 0), ZZ K (0, 0) 150 [(0, .ref 312), (1, .int f4)] [] g9) {f12 : Int32} {g12 : zM} (m12 : ∀ (c1 : (I 312 11) ≤ 0) (c2 : (I 312 12) ≤ 0) (c5 : 0 ≤ f4) (c7 : ¬ f6 = (g6 312 7)) (c10 : ¬ f9 ≤ 0), CT (kG K) (kw K) (kl K) (yX10_clerkOf, cX10_clerkOf, 2, (some .int)) 7 (0, 0) [.ref 0, .int f4] g9 (qE f12 g12) nX) {f13 : Int32} {g13 : zM} (m13 : ∀ (c1 : (I 312 11) ≤ 0) (c2 : (I 312 12) ≤ 0) (c5 : 0 ≤ f4) (c7 : ¬ f6 = (g6 312 7)) (c10 : ¬ f9 ≤ 0), CT (kG K) (kw K) (kl K) (yL_handOver, cL_handOver, 1, (some .int)) 1 (0, 0) [.ref 1400] (up (up g12 312 7 f12) 312 14 (((up g12 312 7 f12) 312 14) + (1 : Int32))) (qE f13 g13) nX) (k14 : ∀ (c1 : (I 312 11) ≤ 0) (c2 : (I 312 12) ≤ 0) (c5 : 0 ≤ f4) (c7 : ¬ f6 = (g6 312 7)) (c10 : ¬ f9 ≤ 0), ZZ K (0, 0) 196 [(0, .ref 312)] [] (up g13 312 12 (f13 - (1 : Int32)))) (k15 : ∀ (c1 : (I 312 11) ≤ 0) (c2 : (I 312 12) ≤ 0) (c5 : ¬ 0 ≤ f4), ZZ K (0, 0) 196 [(0, .ref 312)] [] (up g4 312 16 ((g4 312 16) + (1 : Int32)))) (k16 : ∀ (c1 : (I 312 11) ≤ 0) (c2 : ¬ (I 312 12) ≤ 0), ZZ K (0, 0) 196 [(0, .ref 312)] [] (up I 312 12 ((I 312 12) - (1 : Int32)))) (k18 : ∀ (c1 : ¬ (I 312 11) ≤ 0) (c17 : ¬ ((up I 312 11 ((I 312 11) - (1 : Int32))) 312 11) = 0), ZZ K (0, 0) 196 [(0, .ref 312)] [] (up I 312 11 ((I 312 11) - (1 : Int32)))) {f19 : Int32} {g19 : zM} (m19 : ∀ (c1 : ¬ (I 312 11) ≤ 0) (c17 : ((up I 312 11 ((I 312 11) - (1 : Int32))) 312 11) = 0), CT (kG K) (kw K) (kl K) (yL_capacity, cL_capacity, 1, (some .int)) 1 (0, 0) [.ref 1400] (up I 312 11 ((I 312 11) - (1 : Int32))) (qE f19 g19) nX) (k20 : ∀ (c1 : ¬ (I 312 11) ≤ 0) (c17 : ((up I 312 11 ((I 312 11) - (1 : Int32))) 312 11) = 0), ZZ K (0, 0) 196 [(0, .ref 312)] [] (up g19 312 10 f19)) : ZZ K (0, 0) 0 [(0, .ref 312)] [] I := by
  obtain ⟨hb, ho, hnl, hR, hE⟩ := hK
  refine zz_aload_n hb (z_dec dX11_pass 0 rfl) rfl 0 rfl ?_
  refine zz_get (k := 11) hb ho ckX11 t0 rfl rfl (rX11_pass 0 rfl) rfl (z_dec dX11_pass 1 rfl) ?_
  refine zz_if_le (tgt := 38) hb (z_dec dX11_pass 2 rfl) (by decide) (fun c1 => ?_) (fun c1 => ?_)
  · refine zz_aload_n hb (z_dec dX11_pass 18 rfl) rfl 0 rfl ?_
    refine zz_get (k := 12) hb ho ckX11 t0 rfl rfl (rX11_pass 4 rfl) rfl (z_dec dX11_pass 19 rfl) ?_
    refine zz_if_le (tgt := 58) hb (z_dec dX11_pass 20 rfl) (by decide) (fun c2 => ?_) (fun c2 => ?_)
    · refine zz_aload_n hb (z_dec dX11_pass 28 rfl) rfl 0 rfl ?_
      refine zz_aload_n hb (z_dec dX11_pass 29 rfl) rfl 0 rfl ?_
      refine zz_getr (k := 0) (q := 0) hb ho rfl ckX11 t0 rfl rfl (rX11_pass 5 rfl) rfl (z_dec dX11_pass 30 rfl) ?_
      refine zz_inv (as := []) (d := 0) (mc := (0, 0)) (P := (qE f3 g3)) (X := nX) hb ho hnl hR hE mkX10_policy rfl ckX10 (show isT (kw K) 10 0 from isT.f (k := 0) t0 hw rfl rfl rfl (by decide)) rfl ⟨Nat.le_refl 0, Nat.le_refl 0⟩ rfl (rX11_pass 6 rfl) (rX11_pass 7 rfl) (rX11_pass 8 rfl) rfl (z_dec dX11_pass 31 rfl) (m3 c1 c2) (fun v J3 hp => ?_) (fun _ _ h => h.elim)
      obtain ⟨r3, rfl, e3, w3⟩ := hp
      have e3 := e3.symm
      subst e3
      have w3 := w3.symm
      subst w3
      show ZZ K (0, 0) 66 [(0, .ref 312)] [.int f3, .ref 312] g3
      refine zz_inv (as := [.int f3]) (d := 10) (mc := (0, 0)) (P := (qE f4 g4)) (X := nX) hb ho hnl hR hE mkX11_select rfl ckX11 t0 rfl ⟨Nat.le_refl 0, Nat.le_refl 0⟩ rfl (rX11_pass 9 rfl) (rX11_pass 10 rfl) (rX11_pass 11 rfl) rfl (z_dec dX11_pass 32 rfl) (m4 c1 c2) (fun v J4 hp => ?_) (fun _ _ h => h.elim)
      obtain ⟨r4, rfl, e4, w4⟩ := hp
      have e4 := e4.symm
      subst e4
      have w4 := w4.symm
      subst w4
      show ZZ K (0, 0) 69 [(0, .ref 312)] [.int f4] g4
      refine zz_istore_n (L' := [(0, .ref 312), (1, .int f4)]) hb (z_dec dX11_pass 33 rfl) rfl hnl rfl [1, 0] rfl ?_
      refine zz_iload_n hb (z_dec dX11_pass 34 rfl) rfl 1 rfl ?_
      refine zz_if_ge (tgt := 87) hb (z_dec dX11_pass 35 rfl) (by decide) (fun c5 => ?_) (fun c5 => ?_)
      · refine zz_aload_n hb (z_dec dX11_pass 43 rfl) rfl 0 rfl ?_
        refine zz_getr (k := 0) (q := 0) hb ho rfl ckX11 t0 rfl rfl (rX11_pass 5 rfl) rfl (z_dec dX11_pass 44 rfl) ?_
        refine zz_iload_n hb (z_dec dX11_pass 45 rfl) rfl 1 rfl ?_
        refine zz_inv (as := [.int f4]) (d := 7) (mc := (0, 0)) (P := (qE f6 g6)) (X := nX) hb ho hnl hR hE mkX10_clerkOf rfl ckX10 (show isT (kw K) 10 0 from isT.f (k := 0) t0 hw rfl rfl rfl (by decide)) rfl ⟨Nat.le_refl 0, Nat.le_refl 0⟩ rfl (rX11_pass 13 rfl) (rX11_pass 14 rfl) (rX11_pass 15 rfl) rfl (z_dec dX11_pass 46 rfl) (m6 c1 c2 c5) (fun v J6 hp => ?_) (fun _ _ h => h.elim)
        obtain ⟨r6, rfl, e6, w6⟩ := hp
        have e6 := e6.symm
        subst e6
        have w6 := w6.symm
        subst w6
        show ZZ K (0, 0) 95 [(0, .ref 312), (1, .int f4)] [.int f6] g6
        refine zz_aload_n hb (z_dec dX11_pass 47 rfl) rfl 0 rfl ?_
        refine zz_get (k := 7) hb ho ckX11 t0 rfl rfl (rX11_pass 16 rfl) rfl (z_dec dX11_pass 48 rfl) ?_
        refine zz_icmp_eq (tgt := 150) hb (z_dec dX11_pass 49 rfl) (by decide) (fun c7 => ?_) (fun c7 => ?_)
        · exact (k8 c1 c2 c5 c7)
        · refine zz_aload_n hb (z_dec dX11_pass 50 rfl) rfl 0 rfl ?_
          refine zz_getr (k := 1) (q := 1400) hb ho rfl ckX11 t0 rfl rfl (rX11_pass 1 rfl) rfl (z_dec dX11_pass 51 rfl) ?_
          refine zz_invSN (as := [.ref 1400]) (d := 1) (mc := (0, 0)) (P := (qE f9 g9)) (X := nX) hb ho hnl hR hE mkL_handOver rfl rfl ⟨Nat.le_refl 0, Nat.le_refl 0⟩ rfl (List.mem_of_getElem? (i := 12) rfl) (rX11_pass 17 rfl) rfl (z_dec dX11_pass 52 rfl) (m9 c1 c2 c5 c7) (fun v J9 hp => ?_) (fun _ _ h => h.elim)
          obtain ⟨r9, rfl, e9, w9⟩ := hp
          have e9 := e9.symm
          subst e9
          have w9 := w9.symm
          subst w9
          show ZZ K (0, 0) 109 [(0, .ref 312), (1, .int f4)] [.int f9] g9
          refine zz_if_le (tgt := 150) hb (z_dec dX11_pass 53 rfl) (by decide) (fun c10 => ?_) (fun c10 => ?_)
          · exact (k11 c1 c2 c5 c7 c10)
          · refine zz_aload_n hb (z_dec dX11_pass 54 rfl) rfl 0 rfl ?_
            refine zz_aload_n hb (z_dec dX11_pass 55 rfl) rfl 0 rfl ?_
            refine zz_getr (k := 0) (q := 0) hb ho rfl ckX11 t0 rfl rfl (rX11_pass 5 rfl) rfl (z_dec dX11_pass 56 rfl) ?_
            refine zz_iload_n hb (z_dec dX11_pass 57 rfl) rfl 1 rfl ?_
            refine zz_inv (as := [.int f4]) (d := 7) (mc := (0, 0)) (P := (qE f12 g12)) (X := nX) hb ho hnl hR hE mkX10_clerkOf rfl ckX10 (show isT (kw K) 10 0 from isT.f (k := 0) t0 hw rfl rfl rfl (by decide)) rfl ⟨Nat.le_refl 0, Nat.le_refl 0⟩ rfl (rX11_pass 13 rfl) (rX11_pass 14 rfl) (rX11_pass 15 rfl) rfl (z_dec dX11_pass 58 rfl) (m12 c1 c2 c5 c7 c10) (fun v J12 hp => ?_) (fun _ _ h => h.elim)
            obtain ⟨r12, rfl, e12, w12⟩ := hp
            have e12 := e12.symm
            subst e12
            have w12 := w12.symm
            subst w12
            show ZZ K (0, 0) 121 [(0, .ref 312), (1, .int f4)] [.int f12, .ref 312] g12
            refine zz_put (k := 7) hb ho ckX11 t0 rfl rfl (rX11_pass 16 rfl) rfl rfl rfl (z_dec dX11_pass 59 rfl) ?_
            refine zz_aload_n hb (z_dec dX11_pass 60 rfl) rfl 0 rfl ?_
            refine zz_dup hb (z_dec dX11_pass 61 rfl) rfl ?_
            refine zz_get (k := 14) hb ho ckX11 t0 rfl rfl (rX11_pass 18 rfl) rfl (z_dec dX11_pass 62 rfl) ?_
            refine zz_iconst (v := (1 : Int32)) hb (z_dec dX11_pass 63 rfl) (by decide) ?_
            refine zz_iadd hb (z_dec dX11_pass 64 rfl) ?_
            refine zz_put (k := 14) hb ho ckX11 t0 rfl rfl (rX11_pass 18 rfl) rfl rfl rfl (z_dec dX11_pass 65 rfl) ?_
            refine zz_aload_n hb (z_dec dX11_pass 66 rfl) rfl 0 rfl ?_
            refine zz_aload_n hb (z_dec dX11_pass 67 rfl) rfl 0 rfl ?_
            refine zz_getr (k := 1) (q := 1400) hb ho rfl ckX11 t0 rfl rfl (rX11_pass 1 rfl) rfl (z_dec dX11_pass 68 rfl) ?_
            refine zz_invSN (as := [.ref 1400]) (d := 1) (mc := (0, 0)) (P := (qE f13 g13)) (X := nX) hb ho hnl hR hE mkL_handOver rfl rfl ⟨Nat.le_refl 0, Nat.le_refl 0⟩ rfl (List.mem_of_getElem? (i := 12) rfl) (rX11_pass 17 rfl) rfl (z_dec dX11_pass 69 rfl) (m13 c1 c2 c5 c7 c10) (fun v J13 hp => ?_) (fun _ _ h => h.elim)
            obtain ⟨r13, rfl, e13, w13⟩ := hp
            have e13 := e13.symm
            subst e13
            have w13 := w13.symm
            subst w13
            show ZZ K (0, 0) 142 [(0, .ref 312), (1, .int f4)] [.int f13, .ref 312] g13
            refine zz_iconst (v := (1 : Int32)) hb (z_dec dX11_pass 70 rfl) (by decide) ?_
            refine zz_isub hb (z_dec dX11_pass 71 rfl) ?_
            refine zz_put (k := 12) hb ho ckX11 t0 rfl rfl (rX11_pass 4 rfl) rfl rfl rfl (z_dec dX11_pass 72 rfl) ?_
            refine zz_goto (tgt := 196) hb (z_dec dX11_pass 73 rfl) (by decide) ?_
            refine zz_sub [0] (L' := [(0, .ref 312)]) rfl ?_
            exact (k14 c1 c2 c5 c7 c10)
      · refine zz_aload_n hb (z_dec dX11_pass 36 rfl) rfl 0 rfl ?_
        refine zz_dup hb (z_dec dX11_pass 37 rfl) rfl ?_
        refine zz_get (k := 16) hb ho ckX11 t0 rfl rfl (rX11_pass 12 rfl) rfl (z_dec dX11_pass 38 rfl) ?_
        refine zz_iconst (v := (1 : Int32)) hb (z_dec dX11_pass 39 rfl) (by decide) ?_
        refine zz_iadd hb (z_dec dX11_pass 40 rfl) ?_
        refine zz_put (k := 16) hb ho ckX11 t0 rfl rfl (rX11_pass 12 rfl) rfl rfl rfl (z_dec dX11_pass 41 rfl) ?_
        refine zz_goto (tgt := 196) hb (z_dec dX11_pass 42 rfl) (by decide) ?_
        refine zz_sub [0] (L' := [(0, .ref 312)]) rfl ?_
        exact (k15 c1 c2 c5)
    · refine zz_aload_n hb (z_dec dX11_pass 21 rfl) rfl 0 rfl ?_
      refine zz_dup hb (z_dec dX11_pass 22 rfl) rfl ?_
      refine zz_get (k := 12) hb ho ckX11 t0 rfl rfl (rX11_pass 4 rfl) rfl (z_dec dX11_pass 23 rfl) ?_
      refine zz_iconst (v := (1 : Int32)) hb (z_dec dX11_pass 24 rfl) (by decide) ?_
      refine zz_isub hb (z_dec dX11_pass 25 rfl) ?_
      refine zz_put (k := 12) hb ho ckX11 t0 rfl rfl (rX11_pass 4 rfl) rfl rfl rfl (z_dec dX11_pass 26 rfl) ?_
      refine zz_goto (tgt := 196) hb (z_dec dX11_pass 27 rfl) (by decide) ?_
      exact (k16 c1 c2)
  · refine zz_aload_n hb (z_dec dX11_pass 3 rfl) rfl 0 rfl ?_
    refine zz_dup hb (z_dec dX11_pass 4 rfl) rfl ?_
    refine zz_get (k := 11) hb ho ckX11 t0 rfl rfl (rX11_pass 0 rfl) rfl (z_dec dX11_pass 5 rfl) ?_
    refine zz_iconst (v := (1 : Int32)) hb (z_dec dX11_pass 6 rfl) (by decide) ?_
    refine zz_isub hb (z_dec dX11_pass 7 rfl) ?_
    refine zz_put (k := 11) hb ho ckX11 t0 rfl rfl (rX11_pass 0 rfl) rfl rfl rfl (z_dec dX11_pass 8 rfl) ?_
    refine zz_aload_n hb (z_dec dX11_pass 9 rfl) rfl 0 rfl ?_
    refine zz_get (k := 11) hb ho ckX11 t0 rfl rfl (rX11_pass 0 rfl) rfl (z_dec dX11_pass 10 rfl) ?_
    refine zz_if_ne (tgt := 196) hb (z_dec dX11_pass 11 rfl) (by decide) (fun c17 => ?_) (fun c17 => ?_)
    · exact (k18 c1 c17)
    · refine zz_aload_n hb (z_dec dX11_pass 12 rfl) rfl 0 rfl ?_
      refine zz_aload_n hb (z_dec dX11_pass 13 rfl) rfl 0 rfl ?_
      refine zz_getr (k := 1) (q := 1400) hb ho rfl ckX11 t0 rfl rfl (rX11_pass 1 rfl) rfl (z_dec dX11_pass 14 rfl) ?_
      refine zz_invSN (as := [.ref 1400]) (d := 1) (mc := (0, 0)) (P := (qE f19 g19)) (X := nX) hb ho hnl hR hE mkL_capacity rfl rfl ⟨Nat.le_refl 0, Nat.le_refl 0⟩ rfl (List.mem_of_getElem? (i := 9) rfl) (rX11_pass 2 rfl) rfl (z_dec dX11_pass 15 rfl) (m19 c1 c17) (fun v J19 hp => ?_) (fun _ _ h => h.elim)
      obtain ⟨r19, rfl, e19, w19⟩ := hp
      have e19 := e19.symm
      subst e19
      have w19 := w19.symm
      subst w19
      show ZZ K (0, 0) 32 [(0, .ref 312)] [.int f19, .ref 312] g19
      refine zz_put (k := 10) hb ho ckX11 t0 rfl rfl (rX11_pass 3 rfl) rfl rfl rfl (z_dec dX11_pass 16 rfl) ?_
      refine zz_goto (tgt := 196) hb (z_dec dX11_pass 17 rfl) (by decide) ?_
      exact (k20 c1 c17)
set_option maxRecDepth 20000 in
theorem bX11_pass_150 {K : zK} {P : Option Value → zM → Prop} {X : String → zM → Prop} (hK : zIs K RX11 cX11_pass 2 none 11 (0, 0) P X) (hw : wOK (kw K)) {I : zM} (t0 : isT (kw K) 11 312) {v1 : Int32} {f1 : Int32} {g1 : zM} (m1 : CT (kG K) (kw K) (kl K) (yX10_clerkOf, cX10_clerkOf, 2, (some .int)) 7 (0, 0) [.ref 0, .int v1] I (qE f1 g1) nX) (k3 : ∀ (c2 : ¬ f1 = (g1 312 7)), ZZ K (0, 0) 175 [(0, .ref 312), (1, .int v1)] [.int (1 : Int32), .int (I 312 14), .ref 312] g1) (k4 : ∀ (c2 : f1 = (g1 312 7)), ZZ K (0, 0) 175 [(0, .ref 312), (1, .int v1)] [.int (0 : Int32), .int (I 312 14), .ref 312] g1) : ZZ K (0, 0) 150 [(0, .ref 312), (1, .int v1)] [] I := by
  obtain ⟨hb, ho, hnl, hR, hE⟩ := hK
  refine zz_aload_n hb (z_dec dX11_pass 74 rfl) rfl 0 rfl ?_
  refine zz_dup hb (z_dec dX11_pass 75 rfl) rfl ?_
  refine zz_get (k := 14) hb ho ckX11 t0 rfl rfl (rX11_pass 18 rfl) rfl (z_dec dX11_pass 76 rfl) ?_
  refine zz_aload_n hb (z_dec dX11_pass 77 rfl) rfl 0 rfl ?_
  refine zz_getr (k := 0) (q := 0) hb ho rfl ckX11 t0 rfl rfl (rX11_pass 5 rfl) rfl (z_dec dX11_pass 78 rfl) ?_
  refine zz_iload_n hb (z_dec dX11_pass 79 rfl) rfl 1 rfl ?_
  refine zz_inv (as := [.int v1]) (d := 7) (mc := (0, 0)) (P := (qE f1 g1)) (X := nX) hb ho hnl hR hE mkX10_clerkOf rfl ckX10 (show isT (kw K) 10 0 from isT.f (k := 0) t0 hw rfl rfl rfl (by decide)) rfl ⟨Nat.le_refl 0, Nat.le_refl 0⟩ rfl (rX11_pass 13 rfl) (rX11_pass 14 rfl) (rX11_pass 15 rfl) rfl (z_dec dX11_pass 80 rfl) m1 (fun v J1 hp => ?_) (fun _ _ h => h.elim)
  obtain ⟨r1, rfl, e1, w1⟩ := hp
  have e1 := e1.symm
  subst e1
  have w1 := w1.symm
  subst w1
  show ZZ K (0, 0) 163 [(0, .ref 312), (1, .int v1)] [.int f1, .int (I 312 14), .ref 312] g1
  refine zz_aload_n hb (z_dec dX11_pass 81 rfl) rfl 0 rfl ?_
  refine zz_get (k := 7) hb ho ckX11 t0 rfl rfl (rX11_pass 16 rfl) rfl (z_dec dX11_pass 82 rfl) ?_
  refine zz_icmp_ne (tgt := 174) hb (z_dec dX11_pass 83 rfl) (by decide) (fun c2 => ?_) (fun c2 => ?_)
  · refine zz_iconst (v := (1 : Int32)) hb (z_dec dX11_pass 86 rfl) (by decide) ?_
    exact (k3 c2)
  · refine zz_iconst (v := (0 : Int32)) hb (z_dec dX11_pass 84 rfl) (by decide) ?_
    refine zz_goto (tgt := 175) hb (z_dec dX11_pass 85 rfl) (by decide) ?_
    exact (k4 c2)
set_option maxRecDepth 20000 in
theorem bX11_pass_175 {K : zK} {P : Option Value → zM → Prop} {X : String → zM → Prop} (hK : zIs K RX11 cX11_pass 2 none 11 (0, 0) P X) (hw : wOK (kw K)) {I : zM} (t0 : isT (kw K) 11 312) {v1 : Int32} (ts0 : isT (kw K) 11 312) {vs1 : Int32} {vs2 : Int32} {f1 : Int32} {g1 : zM} (m1 : CT (kG K) (kw K) (kl K) (yX10_clerkOf, cX10_clerkOf, 2, (some .int)) 7 (0, 0) [.ref 0, .int v1] (up I 312 14 (vs1 + vs2)) (qE f1 g1) nX) {g2 : zM} (m2 : CT (kG K) (kw K) (kl K) (yX11_write, cX11_write, 3, none) 8 (0, 0) [.ref 312, .int v1] (up g1 312 7 f1) (qV (fun J => J = g2)) nX) (k3 : ZZ K (0, 0) 196 [(0, .ref 312)] [] g2) : ZZ K (0, 0) 175 [(0, .ref 312), (1, .int v1)] [.int vs2, .int vs1, .ref 312] I := by
  obtain ⟨hb, ho, hnl, hR, hE⟩ := hK
  refine zz_iadd hb (z_dec dX11_pass 87 rfl) ?_
  refine zz_put (k := 14) hb ho ckX11 ts0 rfl rfl (rX11_pass 18 rfl) rfl rfl rfl (z_dec dX11_pass 88 rfl) ?_
  refine zz_aload_n hb (z_dec dX11_pass 89 rfl) rfl 0 rfl ?_
  refine zz_aload_n hb (z_dec dX11_pass 90 rfl) rfl 0 rfl ?_
  refine zz_getr (k := 0) (q := 0) hb ho rfl ckX11 t0 rfl rfl (rX11_pass 5 rfl) rfl (z_dec dX11_pass 91 rfl) ?_
  refine zz_iload_n hb (z_dec dX11_pass 92 rfl) rfl 1 rfl ?_
  refine zz_inv (as := [.int v1]) (d := 7) (mc := (0, 0)) (P := (qE f1 g1)) (X := nX) hb ho hnl hR hE mkX10_clerkOf rfl ckX10 (show isT (kw K) 10 0 from isT.f (k := 0) t0 hw rfl rfl rfl (by decide)) rfl ⟨Nat.le_refl 0, Nat.le_refl 0⟩ rfl (rX11_pass 13 rfl) (rX11_pass 14 rfl) (rX11_pass 15 rfl) rfl (z_dec dX11_pass 93 rfl) m1 (fun v J1 hp => ?_) (fun _ _ h => h.elim)
  obtain ⟨r1, rfl, e1, w1⟩ := hp
  have e1 := e1.symm
  subst e1
  have w1 := w1.symm
  subst w1
  show ZZ K (0, 0) 188 [(0, .ref 312), (1, .int v1)] [.int f1, .ref 312] g1
  refine zz_put (k := 7) hb ho ckX11 t0 rfl rfl (rX11_pass 16 rfl) rfl rfl rfl (z_dec dX11_pass 94 rfl) ?_
  refine zz_aload_n hb (z_dec dX11_pass 95 rfl) rfl 0 rfl ?_
  refine zz_iload_n hb (z_dec dX11_pass 96 rfl) rfl 1 rfl ?_
  refine zz_inv (as := [.int v1]) (d := 8) (mc := (0, 0)) (P := (qV (fun J => J = g2))) (X := nX) hb ho hnl hR hE mkX11_write rfl ckX11 t0 rfl ⟨Nat.le_refl 0, Nat.le_refl 0⟩ rfl (rX11_pass 19 rfl) (rX11_pass 20 rfl) (rX11_pass 21 rfl) rfl (z_dec dX11_pass 97 rfl) m2 (fun v J2 hp => ?_) (fun _ _ h => h.elim)
  obtain ⟨rfl, w2⟩ := hp
  have w2 := w2.symm
  subst w2
  show ZZ K (0, 0) 196 [(0, .ref 312), (1, .int v1)] [] g2
  refine zz_sub [0] (L' := [(0, .ref 312)]) rfl ?_
  exact k3
set_option maxRecDepth 20000 in
theorem bX11_pass_196 {K : zK} {P : Option Value → zM → Prop} {X : String → zM → Prop} (hK : zIs K RX11 cX11_pass 2 none 11 (0, 0) P X) (hw : wOK (kw K)) {I : zM} (t0 : isT (kw K) 11 312) (h1 : P none (up I 312 6 ((I 312 6) + (1 : Int32)))) : ZZ K (0, 0) 196 [(0, .ref 312)] [] I := by
  obtain ⟨hb, ho, hnl, hR, hE⟩ := hK
  refine zz_aload_n hb (z_dec dX11_pass 98 rfl) rfl 0 rfl ?_
  refine zz_dup hb (z_dec dX11_pass 99 rfl) rfl ?_
  refine zz_get (k := 6) hb ho ckX11 t0 rfl rfl (rX11_pass 22 rfl) rfl (z_dec dX11_pass 100 rfl) ?_
  refine zz_iconst (v := (1 : Int32)) hb (z_dec dX11_pass 101 rfl) (by decide) ?_
  refine zz_iadd hb (z_dec dX11_pass 102 rfl) ?_
  refine zz_put (k := 6) hb ho ckX11 t0 rfl rfl (rX11_pass 22 rfl) rfl rfl rfl (z_dec dX11_pass 103 rfl) ?_
  exact zz_vret hb hE ⟨Nat.le_refl 0, Nat.le_refl 0⟩ (z_dec dX11_pass 104 rfl) h1
set_option maxRecDepth 20000 in
theorem bX11_agrees_0 {K : zK} {P : Option Value → zM → Prop} {X : String → zM → Prop} (hK : zIs K RX11 cX11_agrees 3 (some .boolean) 11 (0, 0) P X) (hw : wOK (kw K)) {I : zM} (t0 : isT (kw K) 11 312) (k1 : ZZ K (0, 0) 4 [(0, .ref 312), (1, .int (0 : Int32)), (2, .int (0 : Int32))] [] I) : ZZ K (0, 0) 0 [(0, .ref 312)] [] I := by
  obtain ⟨hb, ho, hnl, hR, hE⟩ := hK
  refine zz_iconst (v := (0 : Int32)) hb (z_dec dX11_agrees 0 rfl) (by decide) ?_
  refine zz_istore_n (L' := [(0, .ref 312), (1, .int (0 : Int32))]) hb (z_dec dX11_agrees 1 rfl) rfl hnl rfl [1, 0] rfl ?_
  refine zz_iconst (v := (0 : Int32)) hb (z_dec dX11_agrees 2 rfl) (by decide) ?_
  refine zz_istore_n (L' := [(0, .ref 312), (1, .int (0 : Int32)), (2, .int (0 : Int32))]) hb (z_dec dX11_agrees 3 rfl) rfl hnl rfl [1, 2, 0] rfl ?_
  exact k1
set_option maxRecDepth 20000 in
theorem bX11_agrees_4 {K : zK} {P : Option Value → zM → Prop} {X : String → zM → Prop} (hK : zIs K RX11 cX11_agrees 3 (some .boolean) 11 (0, 0) P X) (hw : wOK (kw K)) {I : zM} (t0 : isT (kw K) 11 312) {v1 : Int32} {v2 : Int32} (k2 : ∀ (c1 : (I 312 5) ≤ v2), ZZ K (0, 0) 139 [(0, .ref 312), (1, .int v1), (2, .int (0 : Int32))] [] I) {f3 : Int32} {g3 : zM} (m3 : ∀ (c1 : ¬ (I 312 5) ≤ v2), CT (kG K) (kw K) (kl K) (yX10_remaining, cX10_remaining, 2, (some .int)) 7 (0, 0) [.ref 0, .int v2] I (qE f3 g3) nX) (h4 : ∀ (c1 : ¬ (I 312 5) ≤ v2), vp_in v2 12) (h6 : ∀ (c1 : ¬ (I 312 5) ≤ v2) (c5 : ¬ f3 = (g3 313 v2.toNatClampNeg)), P (some (.int (0 : Int32))) g3) {f7 : Int32} {g7 : zM} (m7 : ∀ (c1 : ¬ (I 312 5) ≤ v2) (c5 : f3 = (g3 313 v2.toNatClampNeg)), CT (kG K) (kw K) (kl K) (yX10_finishMinute, cX10_finishMinute, 2, (some .int)) 7 (0, 0) [.ref 0, .int v2] g3 (qE f7 g7) nX) (h8 : ∀ (c1 : ¬ (I 312 5) ≤ v2) (c5 : f3 = (g3 313 v2.toNatClampNeg)), vp_in v2 12) (h10 : ∀ (c1 : ¬ (I 312 5) ≤ v2) (c5 : f3 = (g3 313 v2.toNatClampNeg)) (c9 : ¬ f7 = (g7 314 v2.toNatClampNeg)), P (some (.int (0 : Int32))) g7) {f11 : Int32} {g11 : zM} (m11 : ∀ (c1 : ¬ (I 312 5) ≤ v2) (c5 : f3 = (g3 313 v2.toNatClampNeg)) (c9 : f7 = (g7 314 v2.toNatClampNeg)), CT (kG K) (kw K) (kl K) (yX10_waitingTime, cX10_waitingTime, 2, (some .int)) 7 (0, 0) [.ref 0, .int v2] g7 (qE f11 g11) nX) {f12 : Int32} {g12 : zM} (m12 : ∀ (c1 : ¬ (I 312 5) ≤ v2) (c5 : f3 = (g3 313 v2.toNatClampNeg)) (c9 : f7 = (g7 314 v2.toNatClampNeg)), CT (kG K) (kw K) (kl K) (yX11_waited, cX11_waited, 2, (some .int)) 8 (0, 0) [.ref 312, .int v2] g11 (qE f12 g12) nX) (h14 : ∀ (c1 : ¬ (I 312 5) ≤ v2) (c5 : f3 = (g3 313 v2.toNatClampNeg)) (c9 : f7 = (g7 314 v2.toNatClampNeg)) (c13 : ¬ f11 = f12), P (some (.int (0 : Int32))) g12) {f15 : Int32} {g15 : zM} (m15 : ∀ (c1 : ¬ (I 312 5) ≤ v2) (c5 : f3 = (g3 313 v2.toNatClampNeg)) (c9 : f7 = (g7 314 v2.toNatClampNeg)) (c13 : f11 = f12), CT (kG K) (kw K) (kl K) (yX10_isReady, cX10_isReady, 2, (some .boolean)) 7 (0, 0) [.ref 0, .int v2] g12 (qE f15 g15) nX) {f16 : Int32} {g16 : zM} (m16 : ∀ (c1 : ¬ (I 312 5) ≤ v2) (c5 : f3 = (g3 313 v2.toNatClampNeg)) (c9 : f7 = (g7 314 v2.toNatClampNeg)) (c13 : f11 = f12), CT (kG K) (kw K) (kl K) (yX11_isReady, cX11_isReady, 2, (some .boolean)) 8 (0, 0) [.ref 312, .int v2] g15 (qE f16 g16) nX) {f18 : Int32} {g18 : zM} (m18 : ∀ (c1 : ¬ (I 312 5) ≤ v2) (c5 : f3 = (g3 313 v2.toNatClampNeg)) (c9 : f7 = (g7 314 v2.toNatClampNeg)) (c13 : f11 = f12) (c17 : f15 = f16), CT (kG K) (kw K) (kl K) (yX10_effectivePriority, cX10_effectivePriority, 2, (some .int)) 7 (0, 0) [.ref 0, .int v2] g16 (qE f18 g18) nX) {f19 : Int32} {g19 : zM} (m19 : ∀ (c1 : ¬ (I 312 5) ≤ v2) (c5 : f3 = (g3 313 v2.toNatClampNeg)) (c9 : f7 = (g7 314 v2.toNatClampNeg)) (c13 : f11 = f12) (c17 : f15 = f16), CT (kG K) (kw K) (kl K) (yX10_priority, cX10_priority, 2, (some .int)) 7 (0, 0) [.ref 0, .int v2] g18 (qE f19 g19) nX) {f20 : Int32} {g20 : zM} (m20 : ∀ (c1 : ¬ (I 312 5) ≤ v2) (c5 : f3 = (g3 313 v2.toNatClampNeg)) (c9 : f7 = (g7 314 v2.toNatClampNeg)) (c13 : f11 = f12) (c17 : f15 = f16), CT (kG K) (kw K) (kl K) (yX11_waited, cX11_waited, 2, (some .int)) 8 (0, 0) [.ref 312, .int v2] g19 (qE f20 g20) nX) {f21 : Int32} {g21 : zM} (m21 : ∀ (c1 : ¬ (I 312 5) ≤ v2) (c5 : f3 = (g3 313 v2.toNatClampNeg)) (c9 : f7 = (g7 314 v2.toNatClampNeg)) (c13 : f11 = f12) (c17 : f15 = f16), CT (kG K) (kw K) (kl K) (yL_aging, cL_aging, 1, (some .int)) 1 (0, 0) [.ref 1400] g20 (qE f21 g21) nX) (h22 : ∀ (c1 : ¬ (I 312 5) ≤ v2) (c5 : f3 = (g3 313 v2.toNatClampNeg)) (c9 : f7 = (g7 314 v2.toNatClampNeg)) (c13 : f11 = f12) (c17 : f15 = f16), ¬ f21 = 0) {f24 : Int32} {g24 : zM} (m24 : ∀ (c1 : ¬ (I 312 5) ≤ v2) (c5 : f3 = (g3 313 v2.toNatClampNeg)) (c9 : f7 = (g7 314 v2.toNatClampNeg)) (c13 : f11 = f12) (c17 : f15 = f16) (c23 : f18 = (f19 + (f20 / f21))), CT (kG K) (kw K) (kl K) (yX11_isReady, cX11_isReady, 2, (some .boolean)) 8 (0, 0) [.ref 312, .int v2] g21 (qE f24 g24) nX) (k26 : ∀ (c1 : ¬ (I 312 5) ≤ v2) (c5 : f3 = (g3 313 v2.toNatClampNeg)) (c9 : f7 = (g7 314 v2.toNatClampNeg)) (c13 : f11 = f12) (c17 : f15 = f16) (c23 : f18 = (f19 + (f20 / f21))) (c25 : f24 = 0), ZZ K (0, 0) 4 [(0, .ref 312), (1, .int (v1 + (0 : Int32))), (2, .int (v2 + 1))] [] g24) (k27 : ∀ (c1 : ¬ (I 312 5) ≤ v2) (c5 : f3 = (g3 313 v2.toNatClampNeg)) (c9 : f7 = (g7 314 v2.toNatClampNeg)) (c13 : f11 = f12) (c17 : f15 = f16) (c23 : f18 = (f19 + (f20 / f21))) (c25 : ¬ f24 = 0), ZZ K (0, 0) 4 [(0, .ref 312), (1, .int (v1 + (1 : Int32))), (2, .int (v2 + 1))] [] g24) (h28 : ∀ (c1 : ¬ (I 312 5) ≤ v2) (c5 : f3 = (g3 313 v2.toNatClampNeg)) (c9 : f7 = (g7 314 v2.toNatClampNeg)) (c13 : f11 = f12) (c17 : f15 = f16) (c23 : ¬ f18 = (f19 + (f20 / f21))), P (some (.int (0 : Int32))) g21) (h29 : ∀ (c1 : ¬ (I 312 5) ≤ v2) (c5 : f3 = (g3 313 v2.toNatClampNeg)) (c9 : f7 = (g7 314 v2.toNatClampNeg)) (c13 : f11 = f12) (c17 : ¬ f15 = f16), P (some (.int (0 : Int32))) g16) : ZZ K (0, 0) 4 [(0, .ref 312), (1, .int v1), (2, .int v2)] [] I := by
  obtain ⟨hb, ho, hnl, hR, hE⟩ := hK
  refine zz_iload_n hb (z_dec dX11_agrees 4 rfl) rfl 2 rfl ?_
  refine zz_aload_n hb (z_dec dX11_agrees 5 rfl) rfl 0 rfl ?_
  refine zz_get (k := 5) hb ho ckX11 t0 rfl rfl (rX11_agrees 0 rfl) rfl (z_dec dX11_agrees 6 rfl) ?_
  refine zz_icmp_ge (tgt := 137) hb (z_dec dX11_agrees 7 rfl) (by decide) (fun c1 => ?_) (fun c1 => ?_)
  · refine zz_iconst (v := (0 : Int32)) hb (z_dec dX11_agrees 75 rfl) (by decide) ?_
    refine zz_istore_n (L' := [(0, .ref 312), (1, .int v1), (2, .int (0 : Int32))]) hb (z_dec dX11_agrees 76 rfl) rfl hnl rfl [1, 2, 0] rfl ?_
    exact (k2 c1)
  · refine zz_aload_n hb (z_dec dX11_agrees 8 rfl) rfl 0 rfl ?_
    refine zz_getr (k := 0) (q := 0) hb ho rfl ckX11 t0 rfl rfl (rX11_agrees 1 rfl) rfl (z_dec dX11_agrees 9 rfl) ?_
    refine zz_iload_n hb (z_dec dX11_agrees 10 rfl) rfl 2 rfl ?_
    refine zz_inv (as := [.int v2]) (d := 7) (mc := (0, 0)) (P := (qE f3 g3)) (X := nX) hb ho hnl hR hE mkX10_remaining rfl ckX10 (show isT (kw K) 10 0 from isT.f (k := 0) t0 hw rfl rfl rfl (by decide)) rfl ⟨Nat.le_refl 0, Nat.le_refl 0⟩ rfl (rX11_agrees 2 rfl) (rX11_agrees 3 rfl) (rX11_agrees 4 rfl) rfl (z_dec dX11_agrees 11 rfl) (m3 c1) (fun v J3 hp => ?_) (fun _ _ h => h.elim)
    obtain ⟨r3, rfl, e3, w3⟩ := hp
    have e3 := e3.symm
    subst e3
    have w3 := w3.symm
    subst w3
    show ZZ K (0, 0) 20 [(0, .ref 312), (1, .int v1), (2, .int v2)] [.int f3] g3
    refine zz_aload_n hb (z_dec dX11_agrees 12 rfl) rfl 0 rfl ?_
    refine zz_getr (k := 2) (q := 313) hb ho rfl ckX11 t0 rfl rfl (rX11_agrees 5 rfl) rfl (z_dec dX11_agrees 13 rfl) ?_
    refine zz_iload_n hb (z_dec dX11_agrees 14 rfl) rfl 2 rfl ?_
    refine zz_iald (j := v2.toNatClampNeg) hb (show isT (kw K) 20 313 from isT.f (k := 2) t0 hw rfl rfl rfl (by decide)) rfl (zvi rfl (h4 c1)) (z_dec dX11_agrees 15 rfl) ?_
    refine zz_icmp_ne (tgt := 78) hb (z_dec dX11_agrees 16 rfl) (by decide) (fun c5 => ?_) (fun c5 => ?_)
    · refine zz_iconst (v := (0 : Int32)) hb (z_dec dX11_agrees 42 rfl) (by decide) ?_
      exact zz_zret hb hE ⟨Nat.le_refl 0, Nat.le_refl 0⟩ (by decide) (z_dec dX11_agrees 43 rfl) (h6 c1 c5)
    · refine zz_aload_n hb (z_dec dX11_agrees 17 rfl) rfl 0 rfl ?_
      refine zz_getr (k := 0) (q := 0) hb ho rfl ckX11 t0 rfl rfl (rX11_agrees 1 rfl) rfl (z_dec dX11_agrees 18 rfl) ?_
      refine zz_iload_n hb (z_dec dX11_agrees 19 rfl) rfl 2 rfl ?_
      refine zz_inv (as := [.int v2]) (d := 7) (mc := (0, 0)) (P := (qE f7 g7)) (X := nX) hb ho hnl hR hE mkX10_finishMinute rfl ckX10 (show isT (kw K) 10 0 from isT.f (k := 0) t0 hw rfl rfl rfl (by decide)) rfl ⟨Nat.le_refl 0, Nat.le_refl 0⟩ rfl (rX11_agrees 6 rfl) (rX11_agrees 7 rfl) (rX11_agrees 8 rfl) rfl (z_dec dX11_agrees 20 rfl) (m7 c1 c5) (fun v J7 hp => ?_) (fun _ _ h => h.elim)
      obtain ⟨r7, rfl, e7, w7⟩ := hp
      have e7 := e7.symm
      subst e7
      have w7 := w7.symm
      subst w7
      show ZZ K (0, 0) 37 [(0, .ref 312), (1, .int v1), (2, .int v2)] [.int f7] g7
      refine zz_aload_n hb (z_dec dX11_agrees 21 rfl) rfl 0 rfl ?_
      refine zz_getr (k := 3) (q := 314) hb ho rfl ckX11 t0 rfl rfl (rX11_agrees 9 rfl) rfl (z_dec dX11_agrees 22 rfl) ?_
      refine zz_iload_n hb (z_dec dX11_agrees 23 rfl) rfl 2 rfl ?_
      refine zz_iald (j := v2.toNatClampNeg) hb (show isT (kw K) 20 314 from isT.f (k := 3) t0 hw rfl rfl rfl (by decide)) rfl (zvi rfl (h8 c1 c5)) (z_dec dX11_agrees 24 rfl) ?_
      refine zz_icmp_ne (tgt := 78) hb (z_dec dX11_agrees 25 rfl) (by decide) (fun c9 => ?_) (fun c9 => ?_)
      · refine zz_iconst (v := (0 : Int32)) hb (z_dec dX11_agrees 42 rfl) (by decide) ?_
        exact zz_zret hb hE ⟨Nat.le_refl 0, Nat.le_refl 0⟩ (by decide) (z_dec dX11_agrees 43 rfl) (h10 c1 c5 c9)
      · refine zz_aload_n hb (z_dec dX11_agrees 26 rfl) rfl 0 rfl ?_
        refine zz_getr (k := 0) (q := 0) hb ho rfl ckX11 t0 rfl rfl (rX11_agrees 1 rfl) rfl (z_dec dX11_agrees 27 rfl) ?_
        refine zz_iload_n hb (z_dec dX11_agrees 28 rfl) rfl 2 rfl ?_
        refine zz_inv (as := [.int v2]) (d := 7) (mc := (0, 0)) (P := (qE f11 g11)) (X := nX) hb ho hnl hR hE mkX10_waitingTime rfl ckX10 (show isT (kw K) 10 0 from isT.f (k := 0) t0 hw rfl rfl rfl (by decide)) rfl ⟨Nat.le_refl 0, Nat.le_refl 0⟩ rfl (rX11_agrees 10 rfl) (rX11_agrees 11 rfl) (rX11_agrees 12 rfl) rfl (z_dec dX11_agrees 29 rfl) (m11 c1 c5 c9) (fun v J11 hp => ?_) (fun _ _ h => h.elim)
        obtain ⟨r11, rfl, e11, w11⟩ := hp
        have e11 := e11.symm
        subst e11
        have w11 := w11.symm
        subst w11
        show ZZ K (0, 0) 54 [(0, .ref 312), (1, .int v1), (2, .int v2)] [.int f11] g11
        refine zz_aload_n hb (z_dec dX11_agrees 30 rfl) rfl 0 rfl ?_
        refine zz_iload_n hb (z_dec dX11_agrees 31 rfl) rfl 2 rfl ?_
        refine zz_inv (as := [.int v2]) (d := 8) (mc := (0, 0)) (P := (qE f12 g12)) (X := nX) hb ho hnl hR hE mkX11_waited rfl ckX11 t0 rfl ⟨Nat.le_refl 0, Nat.le_refl 0⟩ rfl (rX11_agrees 13 rfl) (rX11_agrees 14 rfl) (rX11_agrees 15 rfl) rfl (z_dec dX11_agrees 32 rfl) (m12 c1 c5 c9) (fun v J12 hp => ?_) (fun _ _ h => h.elim)
        obtain ⟨r12, rfl, e12, w12⟩ := hp
        have e12 := e12.symm
        subst e12
        have w12 := w12.symm
        subst w12
        show ZZ K (0, 0) 59 [(0, .ref 312), (1, .int v1), (2, .int v2)] [.int f12, .int f11] g12
        refine zz_icmp_ne (tgt := 78) hb (z_dec dX11_agrees 33 rfl) (by decide) (fun c13 => ?_) (fun c13 => ?_)
        · refine zz_iconst (v := (0 : Int32)) hb (z_dec dX11_agrees 42 rfl) (by decide) ?_
          exact zz_zret hb hE ⟨Nat.le_refl 0, Nat.le_refl 0⟩ (by decide) (z_dec dX11_agrees 43 rfl) (h14 c1 c5 c9 c13)
        · refine zz_aload_n hb (z_dec dX11_agrees 34 rfl) rfl 0 rfl ?_
          refine zz_getr (k := 0) (q := 0) hb ho rfl ckX11 t0 rfl rfl (rX11_agrees 1 rfl) rfl (z_dec dX11_agrees 35 rfl) ?_
          refine zz_iload_n hb (z_dec dX11_agrees 36 rfl) rfl 2 rfl ?_
          refine zz_inv (as := [.int v2]) (d := 7) (mc := (0, 0)) (P := (qE f15 g15)) (X := nX) hb ho hnl hR hE mkX10_isReady rfl ckX10 (show isT (kw K) 10 0 from isT.f (k := 0) t0 hw rfl rfl rfl (by decide)) rfl ⟨Nat.le_refl 0, Nat.le_refl 0⟩ rfl (rX11_agrees 16 rfl) (rX11_agrees 17 rfl) (rX11_agrees 18 rfl) rfl (z_dec dX11_agrees 37 rfl) (m15 c1 c5 c9 c13) (fun v J15 hp => ?_) (fun _ _ h => h.elim)
          obtain ⟨r15, rfl, e15, w15⟩ := hp
          have e15 := e15.symm
          subst e15
          have w15 := w15.symm
          subst w15
          show ZZ K (0, 0) 70 [(0, .ref 312), (1, .int v1), (2, .int v2)] [.int f15] g15
          refine zz_aload_n hb (z_dec dX11_agrees 38 rfl) rfl 0 rfl ?_
          refine zz_iload_n hb (z_dec dX11_agrees 39 rfl) rfl 2 rfl ?_
          refine zz_inv (as := [.int v2]) (d := 8) (mc := (0, 0)) (P := (qE f16 g16)) (X := nX) hb ho hnl hR hE mkX11_isReady rfl ckX11 t0 rfl ⟨Nat.le_refl 0, Nat.le_refl 0⟩ rfl (rX11_agrees 19 rfl) (rX11_agrees 20 rfl) (rX11_agrees 21 rfl) rfl (z_dec dX11_agrees 40 rfl) (m16 c1 c5 c9 c13) (fun v J16 hp => ?_) (fun _ _ h => h.elim)
          obtain ⟨r16, rfl, e16, w16⟩ := hp
          have e16 := e16.symm
          subst e16
          have w16 := w16.symm
          subst w16
          show ZZ K (0, 0) 75 [(0, .ref 312), (1, .int v1), (2, .int v2)] [.int f16, .int f15] g16
          refine zz_icmp_eq (tgt := 80) hb (z_dec dX11_agrees 41 rfl) (by decide) (fun c17 => ?_) (fun c17 => ?_)
          · refine zz_aload_n hb (z_dec dX11_agrees 44 rfl) rfl 0 rfl ?_
            refine zz_getr (k := 0) (q := 0) hb ho rfl ckX11 t0 rfl rfl (rX11_agrees 1 rfl) rfl (z_dec dX11_agrees 45 rfl) ?_
            refine zz_iload_n hb (z_dec dX11_agrees 46 rfl) rfl 2 rfl ?_
            refine zz_inv (as := [.int v2]) (d := 7) (mc := (0, 0)) (P := (qE f18 g18)) (X := nX) hb ho hnl hR hE mkX10_effectivePriority rfl ckX10 (show isT (kw K) 10 0 from isT.f (k := 0) t0 hw rfl rfl rfl (by decide)) rfl ⟨Nat.le_refl 0, Nat.le_refl 0⟩ rfl (rX11_agrees 22 rfl) (rX11_agrees 23 rfl) (rX11_agrees 24 rfl) rfl (z_dec dX11_agrees 47 rfl) (m18 c1 c5 c9 c13 c17) (fun v J18 hp => ?_) (fun _ _ h => h.elim)
            obtain ⟨r18, rfl, e18, w18⟩ := hp
            have e18 := e18.symm
            subst e18
            have w18 := w18.symm
            subst w18
            show ZZ K (0, 0) 88 [(0, .ref 312), (1, .int v1), (2, .int v2)] [.int f18] g18
            refine zz_aload_n hb (z_dec dX11_agrees 48 rfl) rfl 0 rfl ?_
            refine zz_getr (k := 0) (q := 0) hb ho rfl ckX11 t0 rfl rfl (rX11_agrees 1 rfl) rfl (z_dec dX11_agrees 49 rfl) ?_
            refine zz_iload_n hb (z_dec dX11_agrees 50 rfl) rfl 2 rfl ?_
            refine zz_inv (as := [.int v2]) (d := 7) (mc := (0, 0)) (P := (qE f19 g19)) (X := nX) hb ho hnl hR hE mkX10_priority rfl ckX10 (show isT (kw K) 10 0 from isT.f (k := 0) t0 hw rfl rfl rfl (by decide)) rfl ⟨Nat.le_refl 0, Nat.le_refl 0⟩ rfl (rX11_agrees 25 rfl) (rX11_agrees 26 rfl) (rX11_agrees 27 rfl) rfl (z_dec dX11_agrees 51 rfl) (m19 c1 c5 c9 c13 c17) (fun v J19 hp => ?_) (fun _ _ h => h.elim)
            obtain ⟨r19, rfl, e19, w19⟩ := hp
            have e19 := e19.symm
            subst e19
            have w19 := w19.symm
            subst w19
            show ZZ K (0, 0) 96 [(0, .ref 312), (1, .int v1), (2, .int v2)] [.int f19, .int f18] g19
            refine zz_aload_n hb (z_dec dX11_agrees 52 rfl) rfl 0 rfl ?_
            refine zz_iload_n hb (z_dec dX11_agrees 53 rfl) rfl 2 rfl ?_
            refine zz_inv (as := [.int v2]) (d := 8) (mc := (0, 0)) (P := (qE f20 g20)) (X := nX) hb ho hnl hR hE mkX11_waited rfl ckX11 t0 rfl ⟨Nat.le_refl 0, Nat.le_refl 0⟩ rfl (rX11_agrees 13 rfl) (rX11_agrees 14 rfl) (rX11_agrees 15 rfl) rfl (z_dec dX11_agrees 54 rfl) (m20 c1 c5 c9 c13 c17) (fun v J20 hp => ?_) (fun _ _ h => h.elim)
            obtain ⟨r20, rfl, e20, w20⟩ := hp
            have e20 := e20.symm
            subst e20
            have w20 := w20.symm
            subst w20
            show ZZ K (0, 0) 101 [(0, .ref 312), (1, .int v1), (2, .int v2)] [.int f20, .int f19, .int f18] g20
            refine zz_aload_n hb (z_dec dX11_agrees 55 rfl) rfl 0 rfl ?_
            refine zz_getr (k := 1) (q := 1400) hb ho rfl ckX11 t0 rfl rfl (rX11_agrees 28 rfl) rfl (z_dec dX11_agrees 56 rfl) ?_
            refine zz_invSN (as := [.ref 1400]) (d := 1) (mc := (0, 0)) (P := (qE f21 g21)) (X := nX) hb ho hnl hR hE mkL_aging rfl rfl ⟨Nat.le_refl 0, Nat.le_refl 0⟩ rfl (List.mem_of_getElem? (i := 11) rfl) (rX11_agrees 29 rfl) rfl (z_dec dX11_agrees 57 rfl) (m21 c1 c5 c9 c13 c17) (fun v J21 hp => ?_) (fun _ _ h => h.elim)
            obtain ⟨r21, rfl, e21, w21⟩ := hp
            have e21 := e21.symm
            subst e21
            have w21 := w21.symm
            subst w21
            show ZZ K (0, 0) 108 [(0, .ref 312), (1, .int v1), (2, .int v2)] [.int f21, .int f20, .int f19, .int f18] g21
            refine zz_idiv hb (z_dec dX11_agrees 58 rfl) (h22 c1 c5 c9 c13 c17) ?_
            refine zz_iadd hb (z_dec dX11_agrees 59 rfl) ?_
            refine zz_icmp_eq (tgt := 115) hb (z_dec dX11_agrees 60 rfl) (by decide) (fun c23 => ?_) (fun c23 => ?_)
            · refine zz_iload_n hb (z_dec dX11_agrees 63 rfl) rfl 1 rfl ?_
              refine zz_aload_n hb (z_dec dX11_agrees 64 rfl) rfl 0 rfl ?_
              refine zz_iload_n hb (z_dec dX11_agrees 65 rfl) rfl 2 rfl ?_
              refine zz_inv (as := [.int v2]) (d := 8) (mc := (0, 0)) (P := (qE f24 g24)) (X := nX) hb ho hnl hR hE mkX11_isReady rfl ckX11 t0 rfl ⟨Nat.le_refl 0, Nat.le_refl 0⟩ rfl (rX11_agrees 19 rfl) (rX11_agrees 20 rfl) (rX11_agrees 21 rfl) rfl (z_dec dX11_agrees 66 rfl) (m24 c1 c5 c9 c13 c17 c23) (fun v J24 hp => ?_) (fun _ _ h => h.elim)
              obtain ⟨r24, rfl, e24, w24⟩ := hp
              have e24 := e24.symm
              subst e24
              have w24 := w24.symm
              subst w24
              show ZZ K (0, 0) 121 [(0, .ref 312), (1, .int v1), (2, .int v2)] [.int f24, .int v1] g24
              refine zz_if_eq (tgt := 128) hb (z_dec dX11_agrees 67 rfl) (by decide) (fun c25 => ?_) (fun c25 => ?_)
              · refine zz_iconst (v := (0 : Int32)) hb (z_dec dX11_agrees 70 rfl) (by decide) ?_
                refine zz_iadd hb (z_dec dX11_agrees 71 rfl) ?_
                refine zz_istore_n (L' := [(0, .ref 312), (1, .int (v1 + (0 : Int32))), (2, .int v2)]) hb (z_dec dX11_agrees 72 rfl) rfl hnl rfl [1, 0, 2] rfl ?_
                refine zz_iinc (v := (v2 + 1)) (L' := [(0, .ref 312), (1, .int (v1 + (0 : Int32))), (2, .int (v2 + 1))]) hb (z_dec dX11_agrees 73 rfl) 2 rfl rfl hnl rfl [1, 2, 0] rfl ?_
                refine zz_goto (tgt := 4) hb (z_dec dX11_agrees 74 rfl) (by decide) ?_
                exact (k26 c1 c5 c9 c13 c17 c23 c25)
              · refine zz_iconst (v := (1 : Int32)) hb (z_dec dX11_agrees 68 rfl) (by decide) ?_
                refine zz_goto (tgt := 129) hb (z_dec dX11_agrees 69 rfl) (by decide) ?_
                refine zz_iadd hb (z_dec dX11_agrees 71 rfl) ?_
                refine zz_istore_n (L' := [(0, .ref 312), (1, .int (v1 + (1 : Int32))), (2, .int v2)]) hb (z_dec dX11_agrees 72 rfl) rfl hnl rfl [1, 0, 2] rfl ?_
                refine zz_iinc (v := (v2 + 1)) (L' := [(0, .ref 312), (1, .int (v1 + (1 : Int32))), (2, .int (v2 + 1))]) hb (z_dec dX11_agrees 73 rfl) 2 rfl rfl hnl rfl [1, 2, 0] rfl ?_
                refine zz_goto (tgt := 4) hb (z_dec dX11_agrees 74 rfl) (by decide) ?_
                exact (k27 c1 c5 c9 c13 c17 c23 c25)
            · refine zz_iconst (v := (0 : Int32)) hb (z_dec dX11_agrees 61 rfl) (by decide) ?_
              exact zz_zret hb hE ⟨Nat.le_refl 0, Nat.le_refl 0⟩ (by decide) (z_dec dX11_agrees 62 rfl) (h28 c1 c5 c9 c13 c17 c23)
          · refine zz_iconst (v := (0 : Int32)) hb (z_dec dX11_agrees 42 rfl) (by decide) ?_
            exact zz_zret hb hE ⟨Nat.le_refl 0, Nat.le_refl 0⟩ (by decide) (z_dec dX11_agrees 43 rfl) (h29 c1 c5 c9 c13 c17)
set_option maxRecDepth 20000 in
theorem bX11_agrees_139 {K : zK} {P : Option Value → zM → Prop} {X : String → zM → Prop} (hK : zIs K RX11 cX11_agrees 3 (some .boolean) 11 (0, 0) P X) (hw : wOK (kw K)) {I : zM} (t0 : isT (kw K) 11 312) {v1 : Int32} {v2 : Int32} {f2 : Int32} {g2 : zM} (m2 : ∀ (c1 : (4 : Int32) < v2), CT (kG K) (kw K) (kl K) (yX10_readyCount, cX10_readyCount, 1, (some .int)) 2 (0, 0) [.ref 0] I (qE f2 g2) nX) (h4 : ∀ (c1 : (4 : Int32) < v2) (c3 : ¬ f2 = v1), P (some (.int (0 : Int32))) g2) {f5 : Int32} {g5 : zM} (m5 : ∀ (c1 : (4 : Int32) < v2) (c3 : f2 = v1), CT (kG K) (kw K) (kl K) (yX10_minute, cX10_minute, 1, (some .int)) 0 (0, 0) [.ref 0] g2 (qE f5 g5) nX) (h7 : ∀ (c1 : (4 : Int32) < v2) (c3 : f2 = v1) (c6 : ¬ f5 = (g5 312 6)), P (some (.int (0 : Int32))) g5) {f8 : Int32} {g8 : zM} (m8 : ∀ (c1 : (4 : Int32) < v2) (c3 : f2 = v1) (c6 : f5 = (g5 312 6)), CT (kG K) (kw K) (kl K) (yX10_holder, cX10_holder, 1, (some .int)) 0 (0, 0) [.ref 0] g5 (qE f8 g8) nX) (h10 : ∀ (c1 : (4 : Int32) < v2) (c3 : f2 = v1) (c6 : f5 = (g5 312 6)) (c9 : ¬ f8 = (g8 312 7)), P (some (.int (0 : Int32))) g8) {f11 : Int32} {g11 : zM} (m11 : ∀ (c1 : (4 : Int32) < v2) (c3 : f2 = v1) (c6 : f5 = (g5 312 6)) (c9 : f8 = (g8 312 7)), CT (kG K) (kw K) (kl K) (yX10_currentLetter, cX10_currentLetter, 1, (some .int)) 0 (0, 0) [.ref 0] g8 (qE f11 g11) nX) {f12 : Int32} {g12 : zM} (m12 : ∀ (c1 : (4 : Int32) < v2) (c3 : f2 = v1) (c6 : f5 = (g5 312 6)) (c9 : f8 = (g8 312 7)), CT (kG K) (kw K) (kl K) (yX11_current, cX11_current, 1, (some .int)) 0 (0, 0) [.ref 312] g11 (qE f12 g12) nX) (h14 : ∀ (c1 : (4 : Int32) < v2) (c3 : f2 = v1) (c6 : f5 = (g5 312 6)) (c9 : f8 = (g8 312 7)) (c13 : ¬ f11 = f12), P (some (.int (0 : Int32))) g12) {f15 : Int32} {g15 : zM} (m15 : ∀ (c1 : (4 : Int32) < v2) (c3 : f2 = v1) (c6 : f5 = (g5 312 6)) (c9 : f8 = (g8 312 7)) (c13 : f11 = f12), CT (kG K) (kw K) (kl K) (yX10_ink, cX10_ink, 1, (some .int)) 0 (0, 0) [.ref 0] g12 (qE f15 g15) nX) (h17 : ∀ (c1 : (4 : Int32) < v2) (c3 : f2 = v1) (c6 : f5 = (g5 312 6)) (c9 : f8 = (g8 312 7)) (c13 : f11 = f12) (c16 : ¬ f15 = (g15 312 10)), P (some (.int (0 : Int32))) g15) {f18 : Int32} {g18 : zM} (m18 : ∀ (c1 : (4 : Int32) < v2) (c3 : f2 = v1) (c6 : f5 = (g5 312 6)) (c9 : f8 = (g8 312 7)) (c13 : f11 = f12) (c16 : f15 = (g15 312 10)), CT (kG K) (kw K) (kl K) (yX10_refillLeft, cX10_refillLeft, 1, (some .int)) 0 (0, 0) [.ref 0] g15 (qE f18 g18) nX) {f20 : Int32} {g20 : zM} (m20 : ∀ (c1 : (4 : Int32) < v2) (c3 : f2 = v1) (c6 : f5 = (g5 312 6)) (c9 : f8 = (g8 312 7)) (c13 : f11 = f12) (c16 : f15 = (g15 312 10)) (c19 : f18 = (g18 312 11)), CT (kG K) (kw K) (kl K) (yX10_lastLetter, cX10_lastLetter, 1, (some .int)) 0 (0, 0) [.ref 0] g18 (qE f20 g20) nX) (k22 : ∀ (c1 : (4 : Int32) < v2) (c3 : f2 = v1) (c6 : f5 = (g5 312 6)) (c9 : f8 = (g8 312 7)) (c13 : f11 = f12) (c16 : f15 = (g15 312 10)) (c19 : f18 = (g18 312 11)) (c21 : 0 ≤ (g20 312 8)), ZZ K (0, 0) 273 [(0, .ref 312), (1, .int v1), (2, .int v2)] [.int (g20 312 8), .int f20] g20) (k23 : ∀ (c1 : (4 : Int32) < v2) (c3 : f2 = v1) (c6 : f5 = (g5 312 6)) (c9 : f8 = (g8 312 7)) (c13 : f11 = f12) (c16 : f15 = (g15 312 10)) (c19 : f18 = (g18 312 11)) (c21 : ¬ 0 ≤ (g20 312 8)), ZZ K (0, 0) 273 [(0, .ref 312), (1, .int v1), (2, .int v2)] [.int (-1 : Int32), .int f20] g20) (h24 : ∀ (c1 : (4 : Int32) < v2) (c3 : f2 = v1) (c6 : f5 = (g5 312 6)) (c9 : f8 = (g8 312 7)) (c13 : f11 = f12) (c16 : f15 = (g15 312 10)) (c19 : ¬ f18 = (g18 312 11)), P (some (.int (0 : Int32))) g18) {f25 : Int32} {g25 : zM} (m25 : ∀ (c1 : ¬ (4 : Int32) < v2), CT (kG K) (kw K) (kl K) (yX10_selectedBy, cX10_selectedBy, 2, (some .int)) 7 (0, 0) [.ref 0, .int v2] I (qE f25 g25) nX) {f26 : Int32} {g26 : zM} (m26 : ∀ (c1 : ¬ (4 : Int32) < v2), CT (kG K) (kw K) (kl K) (yX11_select, cX11_select, 6, (some .int)) 10 (0, 0) [.ref 312, .int v2] g25 (qE f26 g26) nX) (k28 : ∀ (c1 : ¬ (4 : Int32) < v2) (c27 : f25 = f26), ZZ K (0, 0) 139 [(0, .ref 312), (1, .int v1), (2, .int (v2 + 1))] [] g26) (h29 : ∀ (c1 : ¬ (4 : Int32) < v2) (c27 : ¬ f25 = f26), P (some (.int (0 : Int32))) g26) : ZZ K (0, 0) 139 [(0, .ref 312), (1, .int v1), (2, .int v2)] [] I := by
  obtain ⟨hb, ho, hnl, hR, hE⟩ := hK
  refine zz_iload_n hb (z_dec dX11_agrees 77 rfl) rfl 2 rfl ?_
  refine zz_iconst (v := (4 : Int32)) hb (z_dec dX11_agrees 78 rfl) (by decide) ?_
  refine zz_icmp_gt (tgt := 168) hb (z_dec dX11_agrees 79 rfl) (by decide) (fun c1 => ?_) (fun c1 => ?_)
  · refine zz_aload_n hb (z_dec dX11_agrees 92 rfl) rfl 0 rfl ?_
    refine zz_getr (k := 0) (q := 0) hb ho rfl ckX11 t0 rfl rfl (rX11_agrees 1 rfl) rfl (z_dec dX11_agrees 93 rfl) ?_
    refine zz_inv (as := []) (d := 2) (mc := (0, 0)) (P := (qE f2 g2)) (X := nX) hb ho hnl hR hE mkX10_readyCount rfl ckX10 (show isT (kw K) 10 0 from isT.f (k := 0) t0 hw rfl rfl rfl (by decide)) rfl ⟨Nat.le_refl 0, Nat.le_refl 0⟩ rfl (rX11_agrees 36 rfl) (rX11_agrees 37 rfl) (rX11_agrees 38 rfl) rfl (z_dec dX11_agrees 94 rfl) (m2 c1) (fun v J2 hp => ?_) (fun _ _ h => h.elim)
    obtain ⟨r2, rfl, e2, w2⟩ := hp
    have e2 := e2.symm
    subst e2
    have w2 := w2.symm
    subst w2
    show ZZ K (0, 0) 175 [(0, .ref 312), (1, .int v1), (2, .int v2)] [.int f2] g2
    refine zz_iload_n hb (z_dec dX11_agrees 95 rfl) rfl 1 rfl ?_
    refine zz_icmp_ne (tgt := 249) hb (z_dec dX11_agrees 96 rfl) (by decide) (fun c3 => ?_) (fun c3 => ?_)
    · refine zz_iconst (v := (0 : Int32)) hb (z_dec dX11_agrees 127 rfl) (by decide) ?_
      exact zz_zret hb hE ⟨Nat.le_refl 0, Nat.le_refl 0⟩ (by decide) (z_dec dX11_agrees 128 rfl) (h4 c1 c3)
    · refine zz_aload_n hb (z_dec dX11_agrees 97 rfl) rfl 0 rfl ?_
      refine zz_getr (k := 0) (q := 0) hb ho rfl ckX11 t0 rfl rfl (rX11_agrees 1 rfl) rfl (z_dec dX11_agrees 98 rfl) ?_
      refine zz_inv (as := []) (d := 0) (mc := (0, 0)) (P := (qE f5 g5)) (X := nX) hb ho hnl hR hE mkX10_minute rfl ckX10 (show isT (kw K) 10 0 from isT.f (k := 0) t0 hw rfl rfl rfl (by decide)) rfl ⟨Nat.le_refl 0, Nat.le_refl 0⟩ rfl (rX11_agrees 39 rfl) (rX11_agrees 40 rfl) (rX11_agrees 41 rfl) rfl (z_dec dX11_agrees 99 rfl) (m5 c1 c3) (fun v J5 hp => ?_) (fun _ _ h => h.elim)
      obtain ⟨r5, rfl, e5, w5⟩ := hp
      have e5 := e5.symm
      subst e5
      have w5 := w5.symm
      subst w5
      show ZZ K (0, 0) 186 [(0, .ref 312), (1, .int v1), (2, .int v2)] [.int f5] g5
      refine zz_aload_n hb (z_dec dX11_agrees 100 rfl) rfl 0 rfl ?_
      refine zz_get (k := 6) hb ho ckX11 t0 rfl rfl (rX11_agrees 42 rfl) rfl (z_dec dX11_agrees 101 rfl) ?_
      refine zz_icmp_ne (tgt := 249) hb (z_dec dX11_agrees 102 rfl) (by decide) (fun c6 => ?_) (fun c6 => ?_)
      · refine zz_iconst (v := (0 : Int32)) hb (z_dec dX11_agrees 127 rfl) (by decide) ?_
        exact zz_zret hb hE ⟨Nat.le_refl 0, Nat.le_refl 0⟩ (by decide) (z_dec dX11_agrees 128 rfl) (h7 c1 c3 c6)
      · refine zz_aload_n hb (z_dec dX11_agrees 103 rfl) rfl 0 rfl ?_
        refine zz_getr (k := 0) (q := 0) hb ho rfl ckX11 t0 rfl rfl (rX11_agrees 1 rfl) rfl (z_dec dX11_agrees 104 rfl) ?_
        refine zz_inv (as := []) (d := 0) (mc := (0, 0)) (P := (qE f8 g8)) (X := nX) hb ho hnl hR hE mkX10_holder rfl ckX10 (show isT (kw K) 10 0 from isT.f (k := 0) t0 hw rfl rfl rfl (by decide)) rfl ⟨Nat.le_refl 0, Nat.le_refl 0⟩ rfl (rX11_agrees 43 rfl) (rX11_agrees 44 rfl) (rX11_agrees 45 rfl) rfl (z_dec dX11_agrees 105 rfl) (m8 c1 c3 c6) (fun v J8 hp => ?_) (fun _ _ h => h.elim)
        obtain ⟨r8, rfl, e8, w8⟩ := hp
        have e8 := e8.symm
        subst e8
        have w8 := w8.symm
        subst w8
        show ZZ K (0, 0) 200 [(0, .ref 312), (1, .int v1), (2, .int v2)] [.int f8] g8
        refine zz_aload_n hb (z_dec dX11_agrees 106 rfl) rfl 0 rfl ?_
        refine zz_get (k := 7) hb ho ckX11 t0 rfl rfl (rX11_agrees 46 rfl) rfl (z_dec dX11_agrees 107 rfl) ?_
        refine zz_icmp_ne (tgt := 249) hb (z_dec dX11_agrees 108 rfl) (by decide) (fun c9 => ?_) (fun c9 => ?_)
        · refine zz_iconst (v := (0 : Int32)) hb (z_dec dX11_agrees 127 rfl) (by decide) ?_
          exact zz_zret hb hE ⟨Nat.le_refl 0, Nat.le_refl 0⟩ (by decide) (z_dec dX11_agrees 128 rfl) (h10 c1 c3 c6 c9)
        · refine zz_aload_n hb (z_dec dX11_agrees 109 rfl) rfl 0 rfl ?_
          refine zz_getr (k := 0) (q := 0) hb ho rfl ckX11 t0 rfl rfl (rX11_agrees 1 rfl) rfl (z_dec dX11_agrees 110 rfl) ?_
          refine zz_inv (as := []) (d := 0) (mc := (0, 0)) (P := (qE f11 g11)) (X := nX) hb ho hnl hR hE mkX10_currentLetter rfl ckX10 (show isT (kw K) 10 0 from isT.f (k := 0) t0 hw rfl rfl rfl (by decide)) rfl ⟨Nat.le_refl 0, Nat.le_refl 0⟩ rfl (rX11_agrees 47 rfl) (rX11_agrees 48 rfl) (rX11_agrees 49 rfl) rfl (z_dec dX11_agrees 111 rfl) (m11 c1 c3 c6 c9) (fun v J11 hp => ?_) (fun _ _ h => h.elim)
          obtain ⟨r11, rfl, e11, w11⟩ := hp
          have e11 := e11.symm
          subst e11
          have w11 := w11.symm
          subst w11
          show ZZ K (0, 0) 214 [(0, .ref 312), (1, .int v1), (2, .int v2)] [.int f11] g11
          refine zz_aload_n hb (z_dec dX11_agrees 112 rfl) rfl 0 rfl ?_
          refine zz_inv (as := []) (d := 0) (mc := (0, 0)) (P := (qE f12 g12)) (X := nX) hb ho hnl hR hE mkX11_current rfl ckX11 t0 rfl ⟨Nat.le_refl 0, Nat.le_refl 0⟩ rfl (rX11_agrees 50 rfl) (rX11_agrees 51 rfl) (rX11_agrees 52 rfl) rfl (z_dec dX11_agrees 113 rfl) (m12 c1 c3 c6 c9) (fun v J12 hp => ?_) (fun _ _ h => h.elim)
          obtain ⟨r12, rfl, e12, w12⟩ := hp
          have e12 := e12.symm
          subst e12
          have w12 := w12.symm
          subst w12
          show ZZ K (0, 0) 218 [(0, .ref 312), (1, .int v1), (2, .int v2)] [.int f12, .int f11] g12
          refine zz_icmp_ne (tgt := 249) hb (z_dec dX11_agrees 114 rfl) (by decide) (fun c13 => ?_) (fun c13 => ?_)
          · refine zz_iconst (v := (0 : Int32)) hb (z_dec dX11_agrees 127 rfl) (by decide) ?_
            exact zz_zret hb hE ⟨Nat.le_refl 0, Nat.le_refl 0⟩ (by decide) (z_dec dX11_agrees 128 rfl) (h14 c1 c3 c6 c9 c13)
          · refine zz_aload_n hb (z_dec dX11_agrees 115 rfl) rfl 0 rfl ?_
            refine zz_getr (k := 0) (q := 0) hb ho rfl ckX11 t0 rfl rfl (rX11_agrees 1 rfl) rfl (z_dec dX11_agrees 116 rfl) ?_
            refine zz_inv (as := []) (d := 0) (mc := (0, 0)) (P := (qE f15 g15)) (X := nX) hb ho hnl hR hE mkX10_ink rfl ckX10 (show isT (kw K) 10 0 from isT.f (k := 0) t0 hw rfl rfl rfl (by decide)) rfl ⟨Nat.le_refl 0, Nat.le_refl 0⟩ rfl (rX11_agrees 53 rfl) (rX11_agrees 54 rfl) (rX11_agrees 55 rfl) rfl (z_dec dX11_agrees 117 rfl) (m15 c1 c3 c6 c9 c13) (fun v J15 hp => ?_) (fun _ _ h => h.elim)
            obtain ⟨r15, rfl, e15, w15⟩ := hp
            have e15 := e15.symm
            subst e15
            have w15 := w15.symm
            subst w15
            show ZZ K (0, 0) 228 [(0, .ref 312), (1, .int v1), (2, .int v2)] [.int f15] g15
            refine zz_aload_n hb (z_dec dX11_agrees 118 rfl) rfl 0 rfl ?_
            refine zz_get (k := 10) hb ho ckX11 t0 rfl rfl (rX11_agrees 56 rfl) rfl (z_dec dX11_agrees 119 rfl) ?_
            refine zz_icmp_ne (tgt := 249) hb (z_dec dX11_agrees 120 rfl) (by decide) (fun c16 => ?_) (fun c16 => ?_)
            · refine zz_iconst (v := (0 : Int32)) hb (z_dec dX11_agrees 127 rfl) (by decide) ?_
              exact zz_zret hb hE ⟨Nat.le_refl 0, Nat.le_refl 0⟩ (by decide) (z_dec dX11_agrees 128 rfl) (h17 c1 c3 c6 c9 c13 c16)
            · refine zz_aload_n hb (z_dec dX11_agrees 121 rfl) rfl 0 rfl ?_
              refine zz_getr (k := 0) (q := 0) hb ho rfl ckX11 t0 rfl rfl (rX11_agrees 1 rfl) rfl (z_dec dX11_agrees 122 rfl) ?_
              refine zz_inv (as := []) (d := 0) (mc := (0, 0)) (P := (qE f18 g18)) (X := nX) hb ho hnl hR hE mkX10_refillLeft rfl ckX10 (show isT (kw K) 10 0 from isT.f (k := 0) t0 hw rfl rfl rfl (by decide)) rfl ⟨Nat.le_refl 0, Nat.le_refl 0⟩ rfl (rX11_agrees 57 rfl) (rX11_agrees 58 rfl) (rX11_agrees 59 rfl) rfl (z_dec dX11_agrees 123 rfl) (m18 c1 c3 c6 c9 c13 c16) (fun v J18 hp => ?_) (fun _ _ h => h.elim)
              obtain ⟨r18, rfl, e18, w18⟩ := hp
              have e18 := e18.symm
              subst e18
              have w18 := w18.symm
              subst w18
              show ZZ K (0, 0) 242 [(0, .ref 312), (1, .int v1), (2, .int v2)] [.int f18] g18
              refine zz_aload_n hb (z_dec dX11_agrees 124 rfl) rfl 0 rfl ?_
              refine zz_get (k := 11) hb ho ckX11 t0 rfl rfl (rX11_agrees 60 rfl) rfl (z_dec dX11_agrees 125 rfl) ?_
              refine zz_icmp_eq (tgt := 251) hb (z_dec dX11_agrees 126 rfl) (by decide) (fun c19 => ?_) (fun c19 => ?_)
              · refine zz_aload_n hb (z_dec dX11_agrees 129 rfl) rfl 0 rfl ?_
                refine zz_getr (k := 0) (q := 0) hb ho rfl ckX11 t0 rfl rfl (rX11_agrees 1 rfl) rfl (z_dec dX11_agrees 130 rfl) ?_
                refine zz_inv (as := []) (d := 0) (mc := (0, 0)) (P := (qE f20 g20)) (X := nX) hb ho hnl hR hE mkX10_lastLetter rfl ckX10 (show isT (kw K) 10 0 from isT.f (k := 0) t0 hw rfl rfl rfl (by decide)) rfl ⟨Nat.le_refl 0, Nat.le_refl 0⟩ rfl (rX11_agrees 61 rfl) (rX11_agrees 62 rfl) (rX11_agrees 63 rfl) rfl (z_dec dX11_agrees 131 rfl) (m20 c1 c3 c6 c9 c13 c16 c19) (fun v J20 hp => ?_) (fun _ _ h => h.elim)
                obtain ⟨r20, rfl, e20, w20⟩ := hp
                have e20 := e20.symm
                subst e20
                have w20 := w20.symm
                subst w20
                show ZZ K (0, 0) 258 [(0, .ref 312), (1, .int v1), (2, .int v2)] [.int f20] g20
                refine zz_aload_n hb (z_dec dX11_agrees 132 rfl) rfl 0 rfl ?_
                refine zz_get (k := 8) hb ho ckX11 t0 rfl rfl (rX11_agrees 64 rfl) rfl (z_dec dX11_agrees 133 rfl) ?_
                refine zz_if_ge (tgt := 269) hb (z_dec dX11_agrees 134 rfl) (by decide) (fun c21 => ?_) (fun c21 => ?_)
                · refine zz_aload_n hb (z_dec dX11_agrees 137 rfl) rfl 0 rfl ?_
                  refine zz_get (k := 8) hb ho ckX11 t0 rfl rfl (rX11_agrees 64 rfl) rfl (z_dec dX11_agrees 138 rfl) ?_
                  exact (k22 c1 c3 c6 c9 c13 c16 c19 c21)
                · refine zz_iconst (v := (-1 : Int32)) hb (z_dec dX11_agrees 135 rfl) (by decide) ?_
                  refine zz_goto (tgt := 273) hb (z_dec dX11_agrees 136 rfl) (by decide) ?_
                  exact (k23 c1 c3 c6 c9 c13 c16 c19 c21)
              · refine zz_iconst (v := (0 : Int32)) hb (z_dec dX11_agrees 127 rfl) (by decide) ?_
                exact zz_zret hb hE ⟨Nat.le_refl 0, Nat.le_refl 0⟩ (by decide) (z_dec dX11_agrees 128 rfl) (h24 c1 c3 c6 c9 c13 c16 c19)
  · refine zz_aload_n hb (z_dec dX11_agrees 80 rfl) rfl 0 rfl ?_
    refine zz_getr (k := 0) (q := 0) hb ho rfl ckX11 t0 rfl rfl (rX11_agrees 1 rfl) rfl (z_dec dX11_agrees 81 rfl) ?_
    refine zz_iload_n hb (z_dec dX11_agrees 82 rfl) rfl 2 rfl ?_
    refine zz_inv (as := [.int v2]) (d := 7) (mc := (0, 0)) (P := (qE f25 g25)) (X := nX) hb ho hnl hR hE mkX10_selectedBy rfl ckX10 (show isT (kw K) 10 0 from isT.f (k := 0) t0 hw rfl rfl rfl (by decide)) rfl ⟨Nat.le_refl 0, Nat.le_refl 0⟩ rfl (rX11_agrees 30 rfl) (rX11_agrees 31 rfl) (rX11_agrees 32 rfl) rfl (z_dec dX11_agrees 83 rfl) (m25 c1) (fun v J25 hp => ?_) (fun _ _ h => h.elim)
    obtain ⟨r25, rfl, e25, w25⟩ := hp
    have e25 := e25.symm
    subst e25
    have w25 := w25.symm
    subst w25
    show ZZ K (0, 0) 152 [(0, .ref 312), (1, .int v1), (2, .int v2)] [.int f25] g25
    refine zz_aload_n hb (z_dec dX11_agrees 84 rfl) rfl 0 rfl ?_
    refine zz_iload_n hb (z_dec dX11_agrees 85 rfl) rfl 2 rfl ?_
    refine zz_inv (as := [.int v2]) (d := 10) (mc := (0, 0)) (P := (qE f26 g26)) (X := nX) hb ho hnl hR hE mkX11_select rfl ckX11 t0 rfl ⟨Nat.le_refl 0, Nat.le_refl 0⟩ rfl (rX11_agrees 33 rfl) (rX11_agrees 34 rfl) (rX11_agrees 35 rfl) rfl (z_dec dX11_agrees 86 rfl) (m26 c1) (fun v J26 hp => ?_) (fun _ _ h => h.elim)
    obtain ⟨r26, rfl, e26, w26⟩ := hp
    have e26 := e26.symm
    subst e26
    have w26 := w26.symm
    subst w26
    show ZZ K (0, 0) 157 [(0, .ref 312), (1, .int v1), (2, .int v2)] [.int f26, .int f25] g26
    refine zz_icmp_eq (tgt := 162) hb (z_dec dX11_agrees 87 rfl) (by decide) (fun c27 => ?_) (fun c27 => ?_)
    · refine zz_iinc (v := (v2 + 1)) (L' := [(0, .ref 312), (1, .int v1), (2, .int (v2 + 1))]) hb (z_dec dX11_agrees 90 rfl) 2 rfl rfl hnl rfl [1, 2, 0] rfl ?_
      refine zz_goto (tgt := 139) hb (z_dec dX11_agrees 91 rfl) (by decide) ?_
      exact (k28 c1 c27)
    · refine zz_iconst (v := (0 : Int32)) hb (z_dec dX11_agrees 88 rfl) (by decide) ?_
      exact zz_zret hb hE ⟨Nat.le_refl 0, Nat.le_refl 0⟩ (by decide) (z_dec dX11_agrees 89 rfl) (h29 c1 c27)
set_option maxRecDepth 20000 in
theorem bX11_agrees_273 {K : zK} {P : Option Value → zM → Prop} {X : String → zM → Prop} (hK : zIs K RX11 cX11_agrees 3 (some .boolean) 11 (0, 0) P X) (hw : wOK (kw K)) {I : zM} (t0 : isT (kw K) 11 312) {v1 : Int32} {v2 : Int32} {vs0 : Int32} {vs1 : Int32} (h2 : ∀ (c1 : ¬ vs0 = vs1), P (some (.int (0 : Int32))) I) {f3 : Int32} {g3 : zM} (m3 : ∀ (c1 : vs0 = vs1), CT (kG K) (kw K) (kl K) (yX10_runLength, cX10_runLength, 1, (some .int)) 0 (0, 0) [.ref 0] I (qE f3 g3) nX) {f5 : Int32} {g5 : zM} (m5 : ∀ (c1 : vs0 = vs1) (c4 : f3 = (g3 312 9)), CT (kG K) (kw K) (kl K) (yX10_handOverLeft, cX10_handOverLeft, 1, (some .int)) 0 (0, 0) [.ref 0] g3 (qE f5 g5) nX) (h7 : ∀ (c1 : vs0 = vs1) (c4 : f3 = (g3 312 9)) (c6 : ¬ f5 = (g5 312 12)), P (some (.int (0 : Int32))) g5) {f8 : Int32} {g8 : zM} (m8 : ∀ (c1 : vs0 = vs1) (c4 : f3 = (g3 312 9)) (c6 : f5 = (g5 312 12)), CT (kG K) (kw K) (kl K) (yX10_blots, cX10_blots, 1, (some .int)) 0 (0, 0) [.ref 0] g5 (qE f8 g8) nX) (h10 : ∀ (c1 : vs0 = vs1) (c4 : f3 = (g3 312 9)) (c6 : f5 = (g5 312 12)) (c9 : ¬ f8 = (g8 312 13)), P (some (.int (0 : Int32))) g8) {f11 : Int32} {g11 : zM} (m11 : ∀ (c1 : vs0 = vs1) (c4 : f3 = (g3 312 9)) (c6 : f5 = (g5 312 12)) (c9 : f8 = (g8 312 13)), CT (kG K) (kw K) (kl K) (yX10_handOvers, cX10_handOvers, 1, (some .int)) 0 (0, 0) [.ref 0] g8 (qE f11 g11) nX) (h13 : ∀ (c1 : vs0 = vs1) (c4 : f3 = (g3 312 9)) (c6 : f5 = (g5 312 12)) (c9 : f8 = (g8 312 13)) (c12 : ¬ f11 = (g11 312 14)), P (some (.int (0 : Int32))) g11) {f14 : Int32} {g14 : zM} (m14 : ∀ (c1 : vs0 = vs1) (c4 : f3 = (g3 312 9)) (c6 : f5 = (g5 312 12)) (c9 : f8 = (g8 312 13)) (c12 : f11 = (g11 312 14)), CT (kG K) (kw K) (kl K) (yX10_writtenMinutes, cX10_writtenMinutes, 1, (some .int)) 0 (0, 0) [.ref 0] g11 (qE f14 g14) nX) (h16 : ∀ (c1 : vs0 = vs1) (c4 : f3 = (g3 312 9)) (c6 : f5 = (g5 312 12)) (c9 : f8 = (g8 312 13)) (c12 : f11 = (g11 312 14)) (c15 : ¬ f14 = (g14 312 15)), P (some (.int (0 : Int32))) g14) {f17 : Int32} {g17 : zM} (m17 : ∀ (c1 : vs0 = vs1) (c4 : f3 = (g3 312 9)) (c6 : f5 = (g5 312 12)) (c9 : f8 = (g8 312 13)) (c12 : f11 = (g11 312 14)) (c15 : f14 = (g14 312 15)), CT (kG K) (kw K) (kl K) (yX10_idleMinutes, cX10_idleMinutes, 1, (some .int)) 0 (0, 0) [.ref 0] g14 (qE f17 g17) nX) {f19 : Int32} {g19 : zM} (m19 : ∀ (c1 : vs0 = vs1) (c4 : f3 = (g3 312 9)) (c6 : f5 = (g5 312 12)) (c9 : f8 = (g8 312 13)) (c12 : f11 = (g11 312 14)) (c15 : f14 = (g14 312 15)) (c18 : f17 = (g17 312 16)), CT (kG K) (kw K) (kl K) (yX10_selectedLetter, cX10_selectedLetter, 1, (some .int)) 3 (0, 0) [.ref 0] g17 (qE f19 g19) nX) {f20 : Int32} {g20 : zM} (m20 : ∀ (c1 : vs0 = vs1) (c4 : f3 = (g3 312 9)) (c6 : f5 = (g5 312 12)) (c9 : f8 = (g8 312 13)) (c12 : f11 = (g11 312 14)) (c15 : f14 = (g14 312 15)) (c18 : f17 = (g17 312 16)), CT (kG K) (kw K) (kl K) (yX10_policy, cX10_policy, 1, (some .int)) 0 (0, 0) [.ref 0] g19 (qE f20 g20) nX) {f21 : Int32} {g21 : zM} (m21 : ∀ (c1 : vs0 = vs1) (c4 : f3 = (g3 312 9)) (c6 : f5 = (g5 312 12)) (c9 : f8 = (g8 312 13)) (c12 : f11 = (g11 312 14)) (c15 : f14 = (g14 312 15)) (c18 : f17 = (g17 312 16)), CT (kG K) (kw K) (kl K) (yX10_selectedBy, cX10_selectedBy, 2, (some .int)) 7 (0, 0) [.ref 0, .int f20] g20 (qE f21 g21) nX) (h23 : ∀ (c1 : vs0 = vs1) (c4 : f3 = (g3 312 9)) (c6 : f5 = (g5 312 12)) (c9 : f8 = (g8 312 13)) (c12 : f11 = (g11 312 14)) (c15 : f14 = (g14 312 15)) (c18 : f17 = (g17 312 16)) (c22 : ¬ f19 = f21), P (some (.int (0 : Int32))) g21) {f24 : Int32} {g24 : zM} (m24 : ∀ (c1 : vs0 = vs1) (c4 : f3 = (g3 312 9)) (c6 : f5 = (g5 312 12)) (c9 : f8 = (g8 312 13)) (c12 : f11 = (g11 312 14)) (c15 : f14 = (g14 312 15)) (c18 : f17 = (g17 312 16)) (c22 : f19 = f21), CT (kG K) (kw K) (kl K) (yX10_inconsistencies, cX10_inconsistencies, 1, (some .int)) 0 (0, 0) [.ref 0] g21 (qE f24 g24) nX) (h26 : ∀ (c1 : vs0 = vs1) (c4 : f3 = (g3 312 9)) (c6 : f5 = (g5 312 12)) (c9 : f8 = (g8 312 13)) (c12 : f11 = (g11 312 14)) (c15 : f14 = (g14 312 15)) (c18 : f17 = (g17 312 16)) (c22 : f19 = f21) (c25 : ¬ f24 = 0), P (some (.int (0 : Int32))) g24) (h27 : ∀ (c1 : vs0 = vs1) (c4 : f3 = (g3 312 9)) (c6 : f5 = (g5 312 12)) (c9 : f8 = (g8 312 13)) (c12 : f11 = (g11 312 14)) (c15 : f14 = (g14 312 15)) (c18 : f17 = (g17 312 16)) (c22 : f19 = f21) (c25 : f24 = 0), P (some (.int (1 : Int32))) g24) (h28 : ∀ (c1 : vs0 = vs1) (c4 : f3 = (g3 312 9)) (c6 : f5 = (g5 312 12)) (c9 : f8 = (g8 312 13)) (c12 : f11 = (g11 312 14)) (c15 : f14 = (g14 312 15)) (c18 : ¬ f17 = (g17 312 16)), P (some (.int (0 : Int32))) g17) (h29 : ∀ (c1 : vs0 = vs1) (c4 : ¬ f3 = (g3 312 9)), P (some (.int (0 : Int32))) g3) : ZZ K (0, 0) 273 [(0, .ref 312), (1, .int v1), (2, .int v2)] [.int vs1, .int vs0] I := by
  obtain ⟨hb, ho, hnl, hR, hE⟩ := hK
  refine zz_icmp_ne (tgt := 290) hb (z_dec dX11_agrees 139 rfl) (by decide) (fun c1 => ?_) (fun c1 => ?_)
  · refine zz_iconst (v := (0 : Int32)) hb (z_dec dX11_agrees 146 rfl) (by decide) ?_
    exact zz_zret hb hE ⟨Nat.le_refl 0, Nat.le_refl 0⟩ (by decide) (z_dec dX11_agrees 147 rfl) (h2 c1)
  · refine zz_aload_n hb (z_dec dX11_agrees 140 rfl) rfl 0 rfl ?_
    refine zz_getr (k := 0) (q := 0) hb ho rfl ckX11 t0 rfl rfl (rX11_agrees 1 rfl) rfl (z_dec dX11_agrees 141 rfl) ?_
    refine zz_inv (as := []) (d := 0) (mc := (0, 0)) (P := (qE f3 g3)) (X := nX) hb ho hnl hR hE mkX10_runLength rfl ckX10 (show isT (kw K) 10 0 from isT.f (k := 0) t0 hw rfl rfl rfl (by decide)) rfl ⟨Nat.le_refl 0, Nat.le_refl 0⟩ rfl (rX11_agrees 65 rfl) (rX11_agrees 66 rfl) (rX11_agrees 67 rfl) rfl (z_dec dX11_agrees 142 rfl) (m3 c1) (fun v J3 hp => ?_) (fun _ _ h => h.elim)
    obtain ⟨r3, rfl, e3, w3⟩ := hp
    have e3 := e3.symm
    subst e3
    have w3 := w3.symm
    subst w3
    show ZZ K (0, 0) 283 [(0, .ref 312), (1, .int v1), (2, .int v2)] [.int f3] g3
    refine zz_aload_n hb (z_dec dX11_agrees 143 rfl) rfl 0 rfl ?_
    refine zz_get (k := 9) hb ho ckX11 t0 rfl rfl (rX11_agrees 68 rfl) rfl (z_dec dX11_agrees 144 rfl) ?_
    refine zz_icmp_eq (tgt := 292) hb (z_dec dX11_agrees 145 rfl) (by decide) (fun c4 => ?_) (fun c4 => ?_)
    · refine zz_aload_n hb (z_dec dX11_agrees 148 rfl) rfl 0 rfl ?_
      refine zz_getr (k := 0) (q := 0) hb ho rfl ckX11 t0 rfl rfl (rX11_agrees 1 rfl) rfl (z_dec dX11_agrees 149 rfl) ?_
      refine zz_inv (as := []) (d := 0) (mc := (0, 0)) (P := (qE f5 g5)) (X := nX) hb ho hnl hR hE mkX10_handOverLeft rfl ckX10 (show isT (kw K) 10 0 from isT.f (k := 0) t0 hw rfl rfl rfl (by decide)) rfl ⟨Nat.le_refl 0, Nat.le_refl 0⟩ rfl (rX11_agrees 69 rfl) (rX11_agrees 70 rfl) (rX11_agrees 71 rfl) rfl (z_dec dX11_agrees 150 rfl) (m5 c1 c4) (fun v J5 hp => ?_) (fun _ _ h => h.elim)
      obtain ⟨r5, rfl, e5, w5⟩ := hp
      have e5 := e5.symm
      subst e5
      have w5 := w5.symm
      subst w5
      show ZZ K (0, 0) 299 [(0, .ref 312), (1, .int v1), (2, .int v2)] [.int f5] g5
      refine zz_aload_n hb (z_dec dX11_agrees 151 rfl) rfl 0 rfl ?_
      refine zz_get (k := 12) hb ho ckX11 t0 rfl rfl (rX11_agrees 72 rfl) rfl (z_dec dX11_agrees 152 rfl) ?_
      refine zz_icmp_ne (tgt := 362) hb (z_dec dX11_agrees 153 rfl) (by decide) (fun c6 => ?_) (fun c6 => ?_)
      · refine zz_iconst (v := (0 : Int32)) hb (z_dec dX11_agrees 178 rfl) (by decide) ?_
        exact zz_zret hb hE ⟨Nat.le_refl 0, Nat.le_refl 0⟩ (by decide) (z_dec dX11_agrees 179 rfl) (h7 c1 c4 c6)
      · refine zz_aload_n hb (z_dec dX11_agrees 154 rfl) rfl 0 rfl ?_
        refine zz_getr (k := 0) (q := 0) hb ho rfl ckX11 t0 rfl rfl (rX11_agrees 1 rfl) rfl (z_dec dX11_agrees 155 rfl) ?_
        refine zz_inv (as := []) (d := 0) (mc := (0, 0)) (P := (qE f8 g8)) (X := nX) hb ho hnl hR hE mkX10_blots rfl ckX10 (show isT (kw K) 10 0 from isT.f (k := 0) t0 hw rfl rfl rfl (by decide)) rfl ⟨Nat.le_refl 0, Nat.le_refl 0⟩ rfl (rX11_agrees 73 rfl) (rX11_agrees 74 rfl) (rX11_agrees 75 rfl) rfl (z_dec dX11_agrees 156 rfl) (m8 c1 c4 c6) (fun v J8 hp => ?_) (fun _ _ h => h.elim)
        obtain ⟨r8, rfl, e8, w8⟩ := hp
        have e8 := e8.symm
        subst e8
        have w8 := w8.symm
        subst w8
        show ZZ K (0, 0) 313 [(0, .ref 312), (1, .int v1), (2, .int v2)] [.int f8] g8
        refine zz_aload_n hb (z_dec dX11_agrees 157 rfl) rfl 0 rfl ?_
        refine zz_get (k := 13) hb ho ckX11 t0 rfl rfl (rX11_agrees 76 rfl) rfl (z_dec dX11_agrees 158 rfl) ?_
        refine zz_icmp_ne (tgt := 362) hb (z_dec dX11_agrees 159 rfl) (by decide) (fun c9 => ?_) (fun c9 => ?_)
        · refine zz_iconst (v := (0 : Int32)) hb (z_dec dX11_agrees 178 rfl) (by decide) ?_
          exact zz_zret hb hE ⟨Nat.le_refl 0, Nat.le_refl 0⟩ (by decide) (z_dec dX11_agrees 179 rfl) (h10 c1 c4 c6 c9)
        · refine zz_aload_n hb (z_dec dX11_agrees 160 rfl) rfl 0 rfl ?_
          refine zz_getr (k := 0) (q := 0) hb ho rfl ckX11 t0 rfl rfl (rX11_agrees 1 rfl) rfl (z_dec dX11_agrees 161 rfl) ?_
          refine zz_inv (as := []) (d := 0) (mc := (0, 0)) (P := (qE f11 g11)) (X := nX) hb ho hnl hR hE mkX10_handOvers rfl ckX10 (show isT (kw K) 10 0 from isT.f (k := 0) t0 hw rfl rfl rfl (by decide)) rfl ⟨Nat.le_refl 0, Nat.le_refl 0⟩ rfl (rX11_agrees 77 rfl) (rX11_agrees 78 rfl) (rX11_agrees 79 rfl) rfl (z_dec dX11_agrees 162 rfl) (m11 c1 c4 c6 c9) (fun v J11 hp => ?_) (fun _ _ h => h.elim)
          obtain ⟨r11, rfl, e11, w11⟩ := hp
          have e11 := e11.symm
          subst e11
          have w11 := w11.symm
          subst w11
          show ZZ K (0, 0) 327 [(0, .ref 312), (1, .int v1), (2, .int v2)] [.int f11] g11
          refine zz_aload_n hb (z_dec dX11_agrees 163 rfl) rfl 0 rfl ?_
          refine zz_get (k := 14) hb ho ckX11 t0 rfl rfl (rX11_agrees 80 rfl) rfl (z_dec dX11_agrees 164 rfl) ?_
          refine zz_icmp_ne (tgt := 362) hb (z_dec dX11_agrees 165 rfl) (by decide) (fun c12 => ?_) (fun c12 => ?_)
          · refine zz_iconst (v := (0 : Int32)) hb (z_dec dX11_agrees 178 rfl) (by decide) ?_
            exact zz_zret hb hE ⟨Nat.le_refl 0, Nat.le_refl 0⟩ (by decide) (z_dec dX11_agrees 179 rfl) (h13 c1 c4 c6 c9 c12)
          · refine zz_aload_n hb (z_dec dX11_agrees 166 rfl) rfl 0 rfl ?_
            refine zz_getr (k := 0) (q := 0) hb ho rfl ckX11 t0 rfl rfl (rX11_agrees 1 rfl) rfl (z_dec dX11_agrees 167 rfl) ?_
            refine zz_inv (as := []) (d := 0) (mc := (0, 0)) (P := (qE f14 g14)) (X := nX) hb ho hnl hR hE mkX10_writtenMinutes rfl ckX10 (show isT (kw K) 10 0 from isT.f (k := 0) t0 hw rfl rfl rfl (by decide)) rfl ⟨Nat.le_refl 0, Nat.le_refl 0⟩ rfl (rX11_agrees 81 rfl) (rX11_agrees 82 rfl) (rX11_agrees 83 rfl) rfl (z_dec dX11_agrees 168 rfl) (m14 c1 c4 c6 c9 c12) (fun v J14 hp => ?_) (fun _ _ h => h.elim)
            obtain ⟨r14, rfl, e14, w14⟩ := hp
            have e14 := e14.symm
            subst e14
            have w14 := w14.symm
            subst w14
            show ZZ K (0, 0) 341 [(0, .ref 312), (1, .int v1), (2, .int v2)] [.int f14] g14
            refine zz_aload_n hb (z_dec dX11_agrees 169 rfl) rfl 0 rfl ?_
            refine zz_get (k := 15) hb ho ckX11 t0 rfl rfl (rX11_agrees 84 rfl) rfl (z_dec dX11_agrees 170 rfl) ?_
            refine zz_icmp_ne (tgt := 362) hb (z_dec dX11_agrees 171 rfl) (by decide) (fun c15 => ?_) (fun c15 => ?_)
            · refine zz_iconst (v := (0 : Int32)) hb (z_dec dX11_agrees 178 rfl) (by decide) ?_
              exact zz_zret hb hE ⟨Nat.le_refl 0, Nat.le_refl 0⟩ (by decide) (z_dec dX11_agrees 179 rfl) (h16 c1 c4 c6 c9 c12 c15)
            · refine zz_aload_n hb (z_dec dX11_agrees 172 rfl) rfl 0 rfl ?_
              refine zz_getr (k := 0) (q := 0) hb ho rfl ckX11 t0 rfl rfl (rX11_agrees 1 rfl) rfl (z_dec dX11_agrees 173 rfl) ?_
              refine zz_inv (as := []) (d := 0) (mc := (0, 0)) (P := (qE f17 g17)) (X := nX) hb ho hnl hR hE mkX10_idleMinutes rfl ckX10 (show isT (kw K) 10 0 from isT.f (k := 0) t0 hw rfl rfl rfl (by decide)) rfl ⟨Nat.le_refl 0, Nat.le_refl 0⟩ rfl (rX11_agrees 85 rfl) (rX11_agrees 86 rfl) (rX11_agrees 87 rfl) rfl (z_dec dX11_agrees 174 rfl) (m17 c1 c4 c6 c9 c12 c15) (fun v J17 hp => ?_) (fun _ _ h => h.elim)
              obtain ⟨r17, rfl, e17, w17⟩ := hp
              have e17 := e17.symm
              subst e17
              have w17 := w17.symm
              subst w17
              show ZZ K (0, 0) 355 [(0, .ref 312), (1, .int v1), (2, .int v2)] [.int f17] g17
              refine zz_aload_n hb (z_dec dX11_agrees 175 rfl) rfl 0 rfl ?_
              refine zz_get (k := 16) hb ho ckX11 t0 rfl rfl (rX11_agrees 88 rfl) rfl (z_dec dX11_agrees 176 rfl) ?_
              refine zz_icmp_eq (tgt := 364) hb (z_dec dX11_agrees 177 rfl) (by decide) (fun c18 => ?_) (fun c18 => ?_)
              · refine zz_aload_n hb (z_dec dX11_agrees 180 rfl) rfl 0 rfl ?_
                refine zz_getr (k := 0) (q := 0) hb ho rfl ckX11 t0 rfl rfl (rX11_agrees 1 rfl) rfl (z_dec dX11_agrees 181 rfl) ?_
                refine zz_inv (as := []) (d := 3) (mc := (0, 0)) (P := (qE f19 g19)) (X := nX) hb ho hnl hR hE mkX10_selectedLetter rfl ckX10 (show isT (kw K) 10 0 from isT.f (k := 0) t0 hw rfl rfl rfl (by decide)) rfl ⟨Nat.le_refl 0, Nat.le_refl 0⟩ rfl (rX11_agrees 89 rfl) (rX11_agrees 90 rfl) (rX11_agrees 91 rfl) rfl (z_dec dX11_agrees 182 rfl) (m19 c1 c4 c6 c9 c12 c15 c18) (fun v J19 hp => ?_) (fun _ _ h => h.elim)
                obtain ⟨r19, rfl, e19, w19⟩ := hp
                have e19 := e19.symm
                subst e19
                have w19 := w19.symm
                subst w19
                show ZZ K (0, 0) 371 [(0, .ref 312), (1, .int v1), (2, .int v2)] [.int f19] g19
                refine zz_aload_n hb (z_dec dX11_agrees 183 rfl) rfl 0 rfl ?_
                refine zz_getr (k := 0) (q := 0) hb ho rfl ckX11 t0 rfl rfl (rX11_agrees 1 rfl) rfl (z_dec dX11_agrees 184 rfl) ?_
                refine zz_aload_n hb (z_dec dX11_agrees 185 rfl) rfl 0 rfl ?_
                refine zz_getr (k := 0) (q := 0) hb ho rfl ckX11 t0 rfl rfl (rX11_agrees 1 rfl) rfl (z_dec dX11_agrees 186 rfl) ?_
                refine zz_inv (as := []) (d := 0) (mc := (0, 0)) (P := (qE f20 g20)) (X := nX) hb ho hnl hR hE mkX10_policy rfl ckX10 (show isT (kw K) 10 0 from isT.f (k := 0) t0 hw rfl rfl rfl (by decide)) rfl ⟨Nat.le_refl 0, Nat.le_refl 0⟩ rfl (rX11_agrees 92 rfl) (rX11_agrees 93 rfl) (rX11_agrees 94 rfl) rfl (z_dec dX11_agrees 187 rfl) (m20 c1 c4 c6 c9 c12 c15 c18) (fun v J20 hp => ?_) (fun _ _ h => h.elim)
                obtain ⟨r20, rfl, e20, w20⟩ := hp
                have e20 := e20.symm
                subst e20
                have w20 := w20.symm
                subst w20
                show ZZ K (0, 0) 382 [(0, .ref 312), (1, .int v1), (2, .int v2)] [.int f20, .ref 0, .int f19] g20
                refine zz_inv (as := [.int f20]) (d := 7) (mc := (0, 0)) (P := (qE f21 g21)) (X := nX) hb ho hnl hR hE mkX10_selectedBy rfl ckX10 (show isT (kw K) 10 0 from isT.f (k := 0) t0 hw rfl rfl rfl (by decide)) rfl ⟨Nat.le_refl 0, Nat.le_refl 0⟩ rfl (rX11_agrees 30 rfl) (rX11_agrees 31 rfl) (rX11_agrees 32 rfl) rfl (z_dec dX11_agrees 188 rfl) (m21 c1 c4 c6 c9 c12 c15 c18) (fun v J21 hp => ?_) (fun _ _ h => h.elim)
                obtain ⟨r21, rfl, e21, w21⟩ := hp
                have e21 := e21.symm
                subst e21
                have w21 := w21.symm
                subst w21
                show ZZ K (0, 0) 385 [(0, .ref 312), (1, .int v1), (2, .int v2)] [.int f21, .int f19] g21
                refine zz_icmp_ne (tgt := 402) hb (z_dec dX11_agrees 189 rfl) (by decide) (fun c22 => ?_) (fun c22 => ?_)
                · refine zz_iconst (v := (0 : Int32)) hb (z_dec dX11_agrees 196 rfl) (by decide) ?_
                  exact zz_zret hb hE ⟨Nat.le_refl 0, Nat.le_refl 0⟩ (by decide) (z_dec dX11_agrees 197 rfl) (h23 c1 c4 c6 c9 c12 c15 c18 c22)
                · refine zz_aload_n hb (z_dec dX11_agrees 190 rfl) rfl 0 rfl ?_
                  refine zz_getr (k := 0) (q := 0) hb ho rfl ckX11 t0 rfl rfl (rX11_agrees 1 rfl) rfl (z_dec dX11_agrees 191 rfl) ?_
                  refine zz_inv (as := []) (d := 0) (mc := (0, 0)) (P := (qE f24 g24)) (X := nX) hb ho hnl hR hE mkX10_inconsistencies rfl ckX10 (show isT (kw K) 10 0 from isT.f (k := 0) t0 hw rfl rfl rfl (by decide)) rfl ⟨Nat.le_refl 0, Nat.le_refl 0⟩ rfl (rX11_agrees 95 rfl) (rX11_agrees 96 rfl) (rX11_agrees 97 rfl) rfl (z_dec dX11_agrees 192 rfl) (m24 c1 c4 c6 c9 c12 c15 c18 c22) (fun v J24 hp => ?_) (fun _ _ h => h.elim)
                  obtain ⟨r24, rfl, e24, w24⟩ := hp
                  have e24 := e24.symm
                  subst e24
                  have w24 := w24.symm
                  subst w24
                  show ZZ K (0, 0) 395 [(0, .ref 312), (1, .int v1), (2, .int v2)] [.int f24] g24
                  refine zz_if_ne (tgt := 402) hb (z_dec dX11_agrees 193 rfl) (by decide) (fun c25 => ?_) (fun c25 => ?_)
                  · refine zz_iconst (v := (0 : Int32)) hb (z_dec dX11_agrees 196 rfl) (by decide) ?_
                    exact zz_zret hb hE ⟨Nat.le_refl 0, Nat.le_refl 0⟩ (by decide) (z_dec dX11_agrees 197 rfl) (h26 c1 c4 c6 c9 c12 c15 c18 c22 c25)
                  · refine zz_iconst (v := (1 : Int32)) hb (z_dec dX11_agrees 194 rfl) (by decide) ?_
                    refine zz_goto (tgt := 403) hb (z_dec dX11_agrees 195 rfl) (by decide) ?_
                    exact zz_zret hb hE ⟨Nat.le_refl 0, Nat.le_refl 0⟩ (by decide) (z_dec dX11_agrees 197 rfl) (h27 c1 c4 c6 c9 c12 c15 c18 c22 c25)
              · refine zz_iconst (v := (0 : Int32)) hb (z_dec dX11_agrees 178 rfl) (by decide) ?_
                exact zz_zret hb hE ⟨Nat.le_refl 0, Nat.le_refl 0⟩ (by decide) (z_dec dX11_agrees 179 rfl) (h28 c1 c4 c6 c9 c12 c15 c18)
    · refine zz_iconst (v := (0 : Int32)) hb (z_dec dX11_agrees 146 rfl) (by decide) ?_
      exact zz_zret hb hE ⟨Nat.le_refl 0, Nat.le_refl 0⟩ (by decide) (z_dec dX11_agrees 147 rfl) (h29 c1 c4)
set_option maxRecDepth 20000 in
theorem bL_pick_0 {K : zK} {P : Option Value → zM → Prop} {X : String → zM → Prop} (hK : zIs K RL cL_pick 3 (some .int) 0 (0, 0) P X) (hw : wOK (kw K)) {I : zM} {v0 n0 : Nat} {f0 : Nat → Int32} (o0 : zSA (kG K) v0 n0 f0) {v1 : Int32} {v2 : Int32} (h2 : ∀ (c1 : (Int32.ofNat n0) ≤ v1), P (some (.int (0 : Int32))) I) (h3 : ∀ (c1 : ¬ (Int32.ofNat n0) ≤ v1), vp_in v1 n0) (h4 : ∀ (c1 : ¬ (Int32.ofNat n0) ≤ v1), ¬ v2 = 0) (h5 : ∀ (c1 : ¬ (Int32.ofNat n0) ≤ v1), P (some (.int (((f0 (v1.toNatClampNeg)) &&& (2147483647 : Int32)) - ((f0 (v1.toNatClampNeg)) &&& (2147483647 : Int32)) / v2 * v2))) I) : ZZ K (0, 0) 0 [(0, .ref v0), (1, .int v1), (2, .int v2)] [] I := by
  obtain ⟨hb, ho, hnl, hR, hE⟩ := hK
  refine zz_iload_n hb (z_dec dL_pick 0 rfl) rfl 1 rfl ?_
  refine zz_aload_n hb (z_dec dL_pick 1 rfl) rfl 0 rfl ?_
  refine zz_alenS (N := n0) (f := f0) hb o0 (z_dec dL_pick 2 rfl) ?_
  refine zz_icmp_ge (tgt := 17) hb (z_dec dL_pick 3 rfl) (by decide) (fun c1 => ?_) (fun c1 => ?_)
  · refine zz_iconst (v := (0 : Int32)) hb (z_dec dL_pick 12 rfl) (by decide) ?_
    exact zz_iret hb hE ⟨Nat.le_refl 0, Nat.le_refl 0⟩ (z_dec dL_pick 13 rfl) (h2 c1)
  · refine zz_aload_n hb (z_dec dL_pick 4 rfl) rfl 0 rfl ?_
    refine zz_iload_n hb (z_dec dL_pick 5 rfl) rfl 1 rfl ?_
    refine zz_ialdS (N := n0) (f := f0) (j := v1.toNatClampNeg) hb o0 rfl (h3 c1) (z_dec dL_pick 6 rfl) ?_
    refine zz_ldci hb ho (rL_pick 0 rfl) (z_dec dL_pick 7 rfl) ?_
    refine zz_iand hb (z_dec dL_pick 8 rfl) ?_
    refine zz_iload_n hb (z_dec dL_pick 9 rfl) rfl 2 rfl ?_
    refine zz_irem hb (z_dec dL_pick 10 rfl) (h4 c1) ?_
    refine zz_goto (tgt := 18) hb (z_dec dL_pick 11 rfl) (by decide) ?_
    exact zz_iret hb hE ⟨Nat.le_refl 0, Nat.le_refl 0⟩ (z_dec dL_pick 13 rfl) (h5 c1)
set_option maxRecDepth 20000 in
theorem bL_word_0 {K : zK} {P : Option Value → zM → Prop} {X : String → zM → Prop} (hK : zIs K RL cL_word 4 (some .int) 4 (0, 0) P X) (hw : wOK (kw K)) {I : zM} {v1 : Int32} (k1 : ZZ K (0, 0) 4 [(0, .ref 1401), (1, .int v1), (2, .int (0 : Int32)), (3, .int v1)] [] I) : ZZ K (0, 0) 0 [(0, .ref 1401), (1, .int v1)] [] I := by
  obtain ⟨hb, ho, hnl, hR, hE⟩ := hK
  refine zz_iconst (v := (0 : Int32)) hb (z_dec dL_word 0 rfl) (by decide) ?_
  refine zz_istore_n (L' := [(0, .ref 1401), (1, .int v1), (2, .int (0 : Int32))]) hb (z_dec dL_word 1 rfl) rfl hnl rfl [1, 2, 0] rfl ?_
  refine zz_iload_n hb (z_dec dL_word 2 rfl) rfl 1 rfl ?_
  refine zz_istore_n (L' := [(0, .ref 1401), (1, .int v1), (2, .int (0 : Int32)), (3, .int v1)]) hb (z_dec dL_word 3 rfl) rfl hnl rfl [1, 2, 3, 0] rfl ?_
  exact k1
set_option maxRecDepth 20000 in
theorem bL_word_4 {K : zK} {P : Option Value → zM → Prop} {X : String → zM → Prop} (hK : zIs K RL cL_word 4 (some .int) 4 (0, 0) P X) (hw : wOK (kw K)) {I : zM} {v1 : Int32} {v2 : Int32} {v3 : Int32} (h2 : ∀ (c1 : (v1 + (4 : Int32)) ≤ v3), P (some (.int v2)) I) {f3 : Int32} {g3 : zM} (m3 : ∀ (c1 : ¬ (v1 + (4 : Int32)) ≤ v3), CT (kG K) (kw K) (kl K) (yJ0_length_8abf5, cJ0_length_8abf5, 1, (some .int)) 1 (0, 0) [.ref 1401] I (qE f3 g3) nX) (g4 : (gt (kG K)).1 ≠ 0) (k6 : ∀ (c1 : ¬ (v1 + (4 : Int32)) ≤ v3) (c5 : f3 ≤ v3), ZZ K (0, 0) 4 [(0, .ref 1401), (1, .int v1), (2, .int ((v2 <<< ((8 : Int32) &&& 31)) ||| (32 : Int32))), (3, .int (v3 + 1))] [] g3) {f7 : Int32} {g7 : zM} (m7 : ∀ (c1 : ¬ (v1 + (4 : Int32)) ≤ v3) (c5 : ¬ f3 ≤ v3), CT (kG K) (kw K) (kl K) (yJ0_charAt_5068e, cJ0_charAt_5068e, 2, (some .char)) 3 (0, 0) [.ref 1401, .int v3] g3 (qE f7 g7) nX) (g8 : (gt (kG K)).1 ≠ 0) (k9 : ∀ (c1 : ¬ (v1 + (4 : Int32)) ≤ v3) (c5 : ¬ f3 ≤ v3), ZZ K (0, 0) 4 [(0, .ref 1401), (1, .int v1), (2, .int ((v2 <<< ((8 : Int32) &&& 31)) ||| f7)), (3, .int (v3 + 1))] [] g7) : ZZ K (0, 0) 4 [(0, .ref 1401), (1, .int v1), (2, .int v2), (3, .int v3)] [] I := by
  obtain ⟨hb, ho, hnl, hR, hE⟩ := hK
  refine zz_iload_n hb (z_dec dL_word 4 rfl) rfl 3 rfl ?_
  refine zz_iload_n hb (z_dec dL_word 5 rfl) rfl 1 rfl ?_
  refine zz_iconst (v := (4 : Int32)) hb (z_dec dL_word 6 rfl) (by decide) ?_
  refine zz_iadd hb (z_dec dL_word 7 rfl) ?_
  refine zz_icmp_ge (tgt := 41) hb (z_dec dL_word 8 rfl) (by decide) (fun c1 => ?_) (fun c1 => ?_)
  · refine zz_iload_n hb (z_dec dL_word 25 rfl) rfl 2 rfl ?_
    exact zz_iret hb hE ⟨Nat.le_refl 0, Nat.le_refl 0⟩ (z_dec dL_word 26 rfl) (h2 c1)
  · refine zz_iload_n hb (z_dec dL_word 9 rfl) rfl 2 rfl ?_
    refine zz_bipush (v := (8 : Int32)) hb (z_dec dL_word 10 rfl) (by decide) ?_
    refine zz_ishl hb (z_dec dL_word 11 rfl) ?_
    refine zz_iload_n hb (z_dec dL_word 12 rfl) rfl 3 rfl ?_
    refine zz_aload_n hb (z_dec dL_word 13 rfl) rfl 0 rfl ?_
    refine zz_invStr (as := []) (d := 1) (mc := (0, 0)) (P := (qE f3 g3)) (X := nX) hb ho hnl hR hE mkJ0_length_8abf5 rfl (zs_txt (kG K) g4) rfl rfl ⟨Nat.le_refl 0, Nat.le_refl 0⟩ rfl (rL_word 0 rfl) (rL_word 1 rfl) (rL_word 2 rfl) rfl (z_dec dL_word 14 rfl) (m3 c1) (fun v J3 hp => ?_) (fun _ _ h => h.elim)
    obtain ⟨r3, rfl, e3, w3⟩ := hp
    have e3 := e3.symm
    subst e3
    have w3 := w3.symm
    subst w3
    show ZZ K (0, 0) 20 [(0, .ref 1401), (1, .int v1), (2, .int v2), (3, .int v3)] [.int f3, .int v3, .int (v2 <<< ((8 : Int32) &&& 31))] g3
    refine zz_icmp_ge (tgt := 31) hb (z_dec dL_word 15 rfl) (by decide) (fun c5 => ?_) (fun c5 => ?_)
    · refine zz_bipush (v := (32 : Int32)) hb (z_dec dL_word 20 rfl) (by decide) ?_
      refine zz_ior hb (z_dec dL_word 21 rfl) ?_
      refine zz_istore_n (L' := [(0, .ref 1401), (1, .int v1), (2, .int ((v2 <<< ((8 : Int32) &&& 31)) ||| (32 : Int32))), (3, .int v3)]) hb (z_dec dL_word 22 rfl) rfl hnl rfl [1, 2, 0, 3] rfl ?_
      refine zz_iinc (v := (v3 + 1)) (L' := [(0, .ref 1401), (1, .int v1), (2, .int ((v2 <<< ((8 : Int32) &&& 31)) ||| (32 : Int32))), (3, .int (v3 + 1))]) hb (z_dec dL_word 23 rfl) 3 rfl rfl hnl rfl [1, 2, 3, 0] rfl ?_
      refine zz_goto (tgt := 4) hb (z_dec dL_word 24 rfl) (by decide) ?_
      exact (k6 c1 c5)
    · refine zz_aload_n hb (z_dec dL_word 16 rfl) rfl 0 rfl ?_
      refine zz_iload_n hb (z_dec dL_word 17 rfl) rfl 3 rfl ?_
      refine zz_invStr (as := [.int v3]) (d := 3) (mc := (0, 0)) (P := (qE f7 g7)) (X := nX) hb ho hnl hR hE mkJ0_charAt_5068e rfl (zs_txt (kG K) g8) rfl rfl ⟨Nat.le_refl 0, Nat.le_refl 0⟩ rfl (rL_word 3 rfl) (rL_word 4 rfl) (rL_word 5 rfl) rfl (z_dec dL_word 18 rfl) (m7 c1 c5) (fun v J7 hp => ?_) (fun _ _ h => h.elim)
      obtain ⟨r7, rfl, e7, w7⟩ := hp
      have e7 := e7.symm
      subst e7
      have w7 := w7.symm
      subst w7
      show ZZ K (0, 0) 28 [(0, .ref 1401), (1, .int v1), (2, .int v2), (3, .int v3)] [.int f7, .int (v2 <<< ((8 : Int32) &&& 31))] g7
      refine zz_goto (tgt := 33) hb (z_dec dL_word 19 rfl) (by decide) ?_
      refine zz_ior hb (z_dec dL_word 21 rfl) ?_
      refine zz_istore_n (L' := [(0, .ref 1401), (1, .int v1), (2, .int ((v2 <<< ((8 : Int32) &&& 31)) ||| f7)), (3, .int v3)]) hb (z_dec dL_word 22 rfl) rfl hnl rfl [1, 2, 0, 3] rfl ?_
      refine zz_iinc (v := (v3 + 1)) (L' := [(0, .ref 1401), (1, .int v1), (2, .int ((v2 <<< ((8 : Int32) &&& 31)) ||| f7)), (3, .int (v3 + 1))]) hb (z_dec dL_word 23 rfl) 3 rfl rfl hnl rfl [1, 2, 3, 0] rfl ?_
      refine zz_goto (tgt := 4) hb (z_dec dL_word 24 rfl) (by decide) ?_
      exact (k9 c1 c5)
set_option maxRecDepth 20000 in
theorem bL_say_0 {K : zK} {P : Option Value → zM → Prop} {X : String → zM → Prop} (hK : zIs K RL cL_say 3 (some .boolean) 7 (0, 0) P X) (hw : wOK (kw K)) {I : zM} (t0 : isT (kw K) 10 0) {f1 : Int32} {g1 : zM} (m1 : CT (kG K) (kw K) (kl K) (yX10_truncate, cX10_truncate, 2, (some .int)) 6 (0, 0) [.ref 0, .int (0 : Int32)] I (qE f1 g1) nX) (k2 : ZZ K (0, 0) 8 [(0, .ref 0), (1, .ref 1401), (2, .int (0 : Int32))] [] g1) : ZZ K (0, 0) 0 [(0, .ref 0), (1, .ref 1401)] [] I := by
  obtain ⟨hb, ho, hnl, hR, hE⟩ := hK
  refine zz_aload_n hb (z_dec dL_say 0 rfl) rfl 0 rfl ?_
  refine zz_iconst (v := (0 : Int32)) hb (z_dec dL_say 1 rfl) (by decide) ?_
  refine zz_inv (as := [.int (0 : Int32)]) (d := 6) (mc := (0, 0)) (P := (qE f1 g1)) (X := nX) hb ho hnl hR hE mkX10_truncate rfl ckX10 t0 rfl ⟨Nat.le_refl 0, Nat.le_refl 0⟩ rfl (rL_say 0 rfl) (rL_say 1 rfl) (rL_say 2 rfl) rfl (z_dec dL_say 2 rfl) m1 (fun v J1 hp => ?_) (fun _ _ h => h.elim)
  obtain ⟨r1, rfl, e1, w1⟩ := hp
  have e1 := e1.symm
  subst e1
  have w1 := w1.symm
  subst w1
  show ZZ K (0, 0) 5 [(0, .ref 0), (1, .ref 1401)] [.int f1] g1
  refine zz_pop hb (z_dec dL_say 3 rfl) rfl ?_
  refine zz_iconst (v := (0 : Int32)) hb (z_dec dL_say 4 rfl) (by decide) ?_
  refine zz_istore_n (L' := [(0, .ref 0), (1, .ref 1401), (2, .int (0 : Int32))]) hb (z_dec dL_say 5 rfl) rfl hnl rfl [1, 2, 0] rfl ?_
  exact k2
set_option maxRecDepth 20000 in
theorem bL_say_8 {K : zK} {P : Option Value → zM → Prop} {X : String → zM → Prop} (hK : zIs K RL cL_say 3 (some .boolean) 7 (0, 0) P X) (hw : wOK (kw K)) {I : zM} (t0 : isT (kw K) 10 0) {v2 : Int32} {f1 : Int32} {g1 : zM} (m1 : CT (kG K) (kw K) (kl K) (yJ0_length_8abf5, cJ0_length_8abf5, 1, (some .int)) 1 (0, 0) [.ref 1401] I (qE f1 g1) nX) (g2 : (gt (kG K)).1 ≠ 0) {f4 : Int32} {g4 : zM} (m4 : ∀ (c3 : f1 ≤ v2), CT (kG K) (kw K) (kl K) (yJ0_length_8abf5, cJ0_length_8abf5, 1, (some .int)) 1 (0, 0) [.ref 1401] g1 (qE f4 g4) nX) (g5 : (gt (kG K)).1 ≠ 0) {f6 : Int32} {g6 : zM} (m6 : ∀ (c3 : f1 ≤ v2), CT (kG K) (kw K) (kl K) (yX10_truncate, cX10_truncate, 2, (some .int)) 6 (0, 0) [.ref 0, .int f4] g4 (qE f6 g6) nX) {f7 : Int32} {g7 : zM} (m7 : ∀ (c3 : f1 ≤ v2), CT (kG K) (kw K) (kl K) (yJ0_length_8abf5, cJ0_length_8abf5, 1, (some .int)) 1 (0, 0) [.ref 1401] g6 (qE f7 g7) nX) (g8 : (gt (kG K)).1 ≠ 0) (h10 : ∀ (c3 : f1 ≤ v2) (c9 : ¬ f6 = f7), P (some (.int (0 : Int32))) g7) (h11 : ∀ (c3 : f1 ≤ v2) (c9 : f6 = f7), P (some (.int (1 : Int32))) g7) {f12 : Int32} {g12 : zM} (m12 : ∀ (c3 : ¬ f1 ≤ v2), CT (kG K) (kw K) (kl K) (yL_word, cL_word, 4, (some .int)) 4 (0, 0) [.ref 1401, .int v2] g1 (qE f12 g12) nX) {f13 : Int32} {g13 : zM} (m13 : ∀ (c3 : ¬ f1 ≤ v2), CT (kG K) (kw K) (kl K) (yL_word, cL_word, 4, (some .int)) 4 (0, 0) [.ref 1401, .int (v2 + (4 : Int32))] g12 (qE f13 g13) nX) {f14 : Int32} {g14 : zM} (m14 : ∀ (c3 : ¬ f1 ≤ v2), CT (kG K) (kw K) (kl K) (yL_word, cL_word, 4, (some .int)) 4 (0, 0) [.ref 1401, .int (v2 + (8 : Int32))] g13 (qE f14 g14) nX) {f15 : Int32} {g15 : zM} (m15 : ∀ (c3 : ¬ f1 ≤ v2), CT (kG K) (kw K) (kl K) (yL_word, cL_word, 4, (some .int)) 4 (0, 0) [.ref 1401, .int (v2 + (12 : Int32))] g14 (qE f15 g15) nX) {f16 : Int32} {g16 : zM} (m16 : ∀ (c3 : ¬ f1 ≤ v2), CT (kG K) (kw K) (kl K) (yL_word, cL_word, 4, (some .int)) 4 (0, 0) [.ref 1401, .int (v2 + (16 : Int32))] g15 (qE f16 g16) nX) {f17 : Int32} {g17 : zM} (m17 : ∀ (c3 : ¬ f1 ≤ v2), CT (kG K) (kw K) (kl K) (yX10_append, cX10_append, 6, (some .int)) 6 (0, 0) [.ref 0, .int f12, .int f13, .int f14, .int f15, .int f16] g16 (qE f17 g17) nX) (k18 : ∀ (c3 : ¬ f1 ≤ v2), ZZ K (0, 0) 8 [(0, .ref 0), (1, .ref 1401), (2, .int (v2 + 20))] [] g17) : ZZ K (0, 0) 8 [(0, .ref 0), (1, .ref 1401), (2, .int v2)] [] I := by
  obtain ⟨hb, ho, hnl, hR, hE⟩ := hK
  refine zz_iload_n hb (z_dec dL_say 6 rfl) rfl 2 rfl ?_
  refine zz_aload_n hb (z_dec dL_say 7 rfl) rfl 1 rfl ?_
  refine zz_invStr (as := []) (d := 1) (mc := (0, 0)) (P := (qE f1 g1)) (X := nX) hb ho hnl hR hE mkJ0_length_8abf5 rfl (zs_txt (kG K) g2) rfl rfl ⟨Nat.le_refl 0, Nat.le_refl 0⟩ rfl (rL_say 3 rfl) (rL_say 4 rfl) (rL_say 5 rfl) rfl (z_dec dL_say 8 rfl) m1 (fun v J1 hp => ?_) (fun _ _ h => h.elim)
  obtain ⟨r1, rfl, e1, w1⟩ := hp
  have e1 := e1.symm
  subst e1
  have w1 := w1.symm
  subst w1
  show ZZ K (0, 0) 13 [(0, .ref 0), (1, .ref 1401), (2, .int v2)] [.int f1, .int v2] g1
  refine zz_icmp_ge (tgt := 63) hb (z_dec dL_say 9 rfl) (by decide) (fun c3 => ?_) (fun c3 => ?_)
  · refine zz_aload_n hb (z_dec dL_say 38 rfl) rfl 0 rfl ?_
    refine zz_aload_n hb (z_dec dL_say 39 rfl) rfl 1 rfl ?_
    refine zz_invStr (as := []) (d := 1) (mc := (0, 0)) (P := (qE f4 g4)) (X := nX) hb ho hnl hR hE mkJ0_length_8abf5 rfl (zs_txt (kG K) g5) rfl rfl ⟨Nat.le_refl 0, Nat.le_refl 0⟩ rfl (rL_say 3 rfl) (rL_say 4 rfl) (rL_say 5 rfl) rfl (z_dec dL_say 40 rfl) (m4 c3) (fun v J4 hp => ?_) (fun _ _ h => h.elim)
    obtain ⟨r4, rfl, e4, w4⟩ := hp
    have e4 := e4.symm
    subst e4
    have w4 := w4.symm
    subst w4
    show ZZ K (0, 0) 68 [(0, .ref 0), (1, .ref 1401), (2, .int v2)] [.int f4, .ref 0] g4
    refine zz_inv (as := [.int f4]) (d := 6) (mc := (0, 0)) (P := (qE f6 g6)) (X := nX) hb ho hnl hR hE mkX10_truncate rfl ckX10 t0 rfl ⟨Nat.le_refl 0, Nat.le_refl 0⟩ rfl (rL_say 0 rfl) (rL_say 1 rfl) (rL_say 2 rfl) rfl (z_dec dL_say 41 rfl) (m6 c3) (fun v J6 hp => ?_) (fun _ _ h => h.elim)
    obtain ⟨r6, rfl, e6, w6⟩ := hp
    have e6 := e6.symm
    subst e6
    have w6 := w6.symm
    subst w6
    show ZZ K (0, 0) 71 [(0, .ref 0), (1, .ref 1401), (2, .int v2)] [.int f6] g6
    refine zz_aload_n hb (z_dec dL_say 42 rfl) rfl 1 rfl ?_
    refine zz_invStr (as := []) (d := 1) (mc := (0, 0)) (P := (qE f7 g7)) (X := nX) hb ho hnl hR hE mkJ0_length_8abf5 rfl (zs_txt (kG K) g8) rfl rfl ⟨Nat.le_refl 0, Nat.le_refl 0⟩ rfl (rL_say 3 rfl) (rL_say 4 rfl) (rL_say 5 rfl) rfl (z_dec dL_say 43 rfl) (m7 c3) (fun v J7 hp => ?_) (fun _ _ h => h.elim)
    obtain ⟨r7, rfl, e7, w7⟩ := hp
    have e7 := e7.symm
    subst e7
    have w7 := w7.symm
    subst w7
    show ZZ K (0, 0) 75 [(0, .ref 0), (1, .ref 1401), (2, .int v2)] [.int f7, .int f6] g7
    refine zz_icmp_ne (tgt := 82) hb (z_dec dL_say 44 rfl) (by decide) (fun c9 => ?_) (fun c9 => ?_)
    · refine zz_iconst (v := (0 : Int32)) hb (z_dec dL_say 47 rfl) (by decide) ?_
      exact zz_zret hb hE ⟨Nat.le_refl 0, Nat.le_refl 0⟩ (by decide) (z_dec dL_say 48 rfl) (h10 c3 c9)
    · refine zz_iconst (v := (1 : Int32)) hb (z_dec dL_say 45 rfl) (by decide) ?_
      refine zz_goto (tgt := 83) hb (z_dec dL_say 46 rfl) (by decide) ?_
      exact zz_zret hb hE ⟨Nat.le_refl 0, Nat.le_refl 0⟩ (by decide) (z_dec dL_say 48 rfl) (h11 c3 c9)
  · refine zz_aload_n hb (z_dec dL_say 10 rfl) rfl 0 rfl ?_
    refine zz_aload_n hb (z_dec dL_say 11 rfl) rfl 1 rfl ?_
    refine zz_iload_n hb (z_dec dL_say 12 rfl) rfl 2 rfl ?_
    refine zz_invS (as := [.ref 1401, .int v2]) (d := 4) (mc := (0, 0)) (P := (qE f12 g12)) (X := nX) hb ho hnl hR hE mkL_word rfl rfl ⟨Nat.le_refl 0, Nat.le_refl 0⟩ rfl (rL_say 6 rfl) (rL_say 7 rfl) rfl (z_dec dL_say 13 rfl) (m12 c3) (fun v J12 hp => ?_) (fun _ _ h => h.elim)
    obtain ⟨r12, rfl, e12, w12⟩ := hp
    have e12 := e12.symm
    subst e12
    have w12 := w12.symm
    subst w12
    show ZZ K (0, 0) 22 [(0, .ref 0), (1, .ref 1401), (2, .int v2)] [.int f12, .ref 0] g12
    refine zz_aload_n hb (z_dec dL_say 14 rfl) rfl 1 rfl ?_
    refine zz_iload_n hb (z_dec dL_say 15 rfl) rfl 2 rfl ?_
    refine zz_iconst (v := (4 : Int32)) hb (z_dec dL_say 16 rfl) (by decide) ?_
    refine zz_iadd hb (z_dec dL_say 17 rfl) ?_
    refine zz_invS (as := [.ref 1401, .int (v2 + (4 : Int32))]) (d := 4) (mc := (0, 0)) (P := (qE f13 g13)) (X := nX) hb ho hnl hR hE mkL_word rfl rfl ⟨Nat.le_refl 0, Nat.le_refl 0⟩ rfl (rL_say 6 rfl) (rL_say 7 rfl) rfl (z_dec dL_say 18 rfl) (m13 c3) (fun v J13 hp => ?_) (fun _ _ h => h.elim)
    obtain ⟨r13, rfl, e13, w13⟩ := hp
    have e13 := e13.symm
    subst e13
    have w13 := w13.symm
    subst w13
    show ZZ K (0, 0) 29 [(0, .ref 0), (1, .ref 1401), (2, .int v2)] [.int f13, .int f12, .ref 0] g13
    refine zz_aload_n hb (z_dec dL_say 19 rfl) rfl 1 rfl ?_
    refine zz_iload_n hb (z_dec dL_say 20 rfl) rfl 2 rfl ?_
    refine zz_bipush (v := (8 : Int32)) hb (z_dec dL_say 21 rfl) (by decide) ?_
    refine zz_iadd hb (z_dec dL_say 22 rfl) ?_
    refine zz_invS (as := [.ref 1401, .int (v2 + (8 : Int32))]) (d := 4) (mc := (0, 0)) (P := (qE f14 g14)) (X := nX) hb ho hnl hR hE mkL_word rfl rfl ⟨Nat.le_refl 0, Nat.le_refl 0⟩ rfl (rL_say 6 rfl) (rL_say 7 rfl) rfl (z_dec dL_say 23 rfl) (m14 c3) (fun v J14 hp => ?_) (fun _ _ h => h.elim)
    obtain ⟨r14, rfl, e14, w14⟩ := hp
    have e14 := e14.symm
    subst e14
    have w14 := w14.symm
    subst w14
    show ZZ K (0, 0) 37 [(0, .ref 0), (1, .ref 1401), (2, .int v2)] [.int f14, .int f13, .int f12, .ref 0] g14
    refine zz_aload_n hb (z_dec dL_say 24 rfl) rfl 1 rfl ?_
    refine zz_iload_n hb (z_dec dL_say 25 rfl) rfl 2 rfl ?_
    refine zz_bipush (v := (12 : Int32)) hb (z_dec dL_say 26 rfl) (by decide) ?_
    refine zz_iadd hb (z_dec dL_say 27 rfl) ?_
    refine zz_invS (as := [.ref 1401, .int (v2 + (12 : Int32))]) (d := 4) (mc := (0, 0)) (P := (qE f15 g15)) (X := nX) hb ho hnl hR hE mkL_word rfl rfl ⟨Nat.le_refl 0, Nat.le_refl 0⟩ rfl (rL_say 6 rfl) (rL_say 7 rfl) rfl (z_dec dL_say 28 rfl) (m15 c3) (fun v J15 hp => ?_) (fun _ _ h => h.elim)
    obtain ⟨r15, rfl, e15, w15⟩ := hp
    have e15 := e15.symm
    subst e15
    have w15 := w15.symm
    subst w15
    show ZZ K (0, 0) 45 [(0, .ref 0), (1, .ref 1401), (2, .int v2)] [.int f15, .int f14, .int f13, .int f12, .ref 0] g15
    refine zz_aload_n hb (z_dec dL_say 29 rfl) rfl 1 rfl ?_
    refine zz_iload_n hb (z_dec dL_say 30 rfl) rfl 2 rfl ?_
    refine zz_bipush (v := (16 : Int32)) hb (z_dec dL_say 31 rfl) (by decide) ?_
    refine zz_iadd hb (z_dec dL_say 32 rfl) ?_
    refine zz_invS (as := [.ref 1401, .int (v2 + (16 : Int32))]) (d := 4) (mc := (0, 0)) (P := (qE f16 g16)) (X := nX) hb ho hnl hR hE mkL_word rfl rfl ⟨Nat.le_refl 0, Nat.le_refl 0⟩ rfl (rL_say 6 rfl) (rL_say 7 rfl) rfl (z_dec dL_say 33 rfl) (m16 c3) (fun v J16 hp => ?_) (fun _ _ h => h.elim)
    obtain ⟨r16, rfl, e16, w16⟩ := hp
    have e16 := e16.symm
    subst e16
    have w16 := w16.symm
    subst w16
    show ZZ K (0, 0) 53 [(0, .ref 0), (1, .ref 1401), (2, .int v2)] [.int f16, .int f15, .int f14, .int f13, .int f12, .ref 0] g16
    refine zz_inv (as := [.int f12, .int f13, .int f14, .int f15, .int f16]) (d := 6) (mc := (0, 0)) (P := (qE f17 g17)) (X := nX) hb ho hnl hR hE mkX10_append rfl ckX10 t0 rfl ⟨Nat.le_refl 0, Nat.le_refl 0⟩ rfl (rL_say 8 rfl) (rL_say 9 rfl) (rL_say 10 rfl) rfl (z_dec dL_say 34 rfl) (m17 c3) (fun v J17 hp => ?_) (fun _ _ h => h.elim)
    obtain ⟨r17, rfl, e17, w17⟩ := hp
    have e17 := e17.symm
    subst e17
    have w17 := w17.symm
    subst w17
    show ZZ K (0, 0) 56 [(0, .ref 0), (1, .ref 1401), (2, .int v2)] [.int f17] g17
    refine zz_pop hb (z_dec dL_say 35 rfl) rfl ?_
    refine zz_iinc (v := (v2 + 20)) (L' := [(0, .ref 0), (1, .ref 1401), (2, .int (v2 + 20))]) hb (z_dec dL_say 36 rfl) 2 rfl rfl hnl rfl [1, 2, 0] rfl ?_
    refine zz_goto (tgt := 8) hb (z_dec dL_say 37 rfl) (by decide) ?_
    exact (k18 c3)
set_option maxRecDepth 20000 in
theorem bL_policy_0 {K : zK} {P : Option Value → zM → Prop} {X : String → zM → Prop} (hK : zIs K RL cL_policy 1 (some .int) 1 (0, 0) P X) (hw : wOK (kw K)) {I : zM} {v0 n0 : Nat} {f0 : Nat → Int32} (o0 : zSA (kG K) v0 n0 f0) {f1 : Int32} {g1 : zM} (m1 : CT (kG K) (kw K) (kl K) (yL_pick, cL_pick, 3, (some .int)) 0 (0, 0) [.ref v0, .int (1 : Int32), .int (5 : Int32)] I (qE f1 g1) nX) (h2 : P (some (.int f1)) g1) : ZZ K (0, 0) 0 [(0, .ref v0)] [] I := by
  obtain ⟨hb, ho, hnl, hR, hE⟩ := hK
  refine zz_aload_n hb (z_dec dL_policy 0 rfl) rfl 0 rfl ?_
  refine zz_iconst (v := (1 : Int32)) hb (z_dec dL_policy 1 rfl) (by decide) ?_
  refine zz_iconst (v := (5 : Int32)) hb (z_dec dL_policy 2 rfl) (by decide) ?_
  refine zz_invS (as := [.ref v0, .int (1 : Int32), .int (5 : Int32)]) (d := 0) (mc := (0, 0)) (P := (qE f1 g1)) (X := nX) hb ho hnl hR hE mkL_pick rfl rfl ⟨Nat.le_refl 0, Nat.le_refl 0⟩ rfl (rL_policy 0 rfl) (rL_policy 1 rfl) rfl (z_dec dL_policy 3 rfl) m1 (fun v J1 hp => ?_) (fun _ _ h => h.elim)
  obtain ⟨r1, rfl, e1, w1⟩ := hp
  have e1 := e1.symm
  subst e1
  have w1 := w1.symm
  subst w1
  show ZZ K (0, 0) 6 [(0, .ref v0)] [.int f1] g1
  exact zz_iret hb hE ⟨Nat.le_refl 0, Nat.le_refl 0⟩ (z_dec dL_policy 4 rfl) h2
set_option maxRecDepth 20000 in
theorem bL_handOver_0 {K : zK} {P : Option Value → zM → Prop} {X : String → zM → Prop} (hK : zIs K RL cL_handOver 1 (some .int) 1 (0, 0) P X) (hw : wOK (kw K)) {I : zM} {v0 n0 : Nat} {f0 : Nat → Int32} (o0 : zSA (kG K) v0 n0 f0) {f1 : Int32} {g1 : zM} (m1 : CT (kG K) (kw K) (kl K) (yL_pick, cL_pick, 3, (some .int)) 0 (0, 0) [.ref v0, .int (2 : Int32), .int (4 : Int32)] I (qE f1 g1) nX) (h2 : P (some (.int f1)) g1) : ZZ K (0, 0) 0 [(0, .ref v0)] [] I := by
  obtain ⟨hb, ho, hnl, hR, hE⟩ := hK
  refine zz_aload_n hb (z_dec dL_handOver 0 rfl) rfl 0 rfl ?_
  refine zz_iconst (v := (2 : Int32)) hb (z_dec dL_handOver 1 rfl) (by decide) ?_
  refine zz_iconst (v := (4 : Int32)) hb (z_dec dL_handOver 2 rfl) (by decide) ?_
  refine zz_invS (as := [.ref v0, .int (2 : Int32), .int (4 : Int32)]) (d := 0) (mc := (0, 0)) (P := (qE f1 g1)) (X := nX) hb ho hnl hR hE mkL_pick rfl rfl ⟨Nat.le_refl 0, Nat.le_refl 0⟩ rfl (rL_handOver 0 rfl) (rL_handOver 1 rfl) rfl (z_dec dL_handOver 3 rfl) m1 (fun v J1 hp => ?_) (fun _ _ h => h.elim)
  obtain ⟨r1, rfl, e1, w1⟩ := hp
  have e1 := e1.symm
  subst e1
  have w1 := w1.symm
  subst w1
  show ZZ K (0, 0) 6 [(0, .ref v0)] [.int f1] g1
  exact zz_iret hb hE ⟨Nat.le_refl 0, Nat.le_refl 0⟩ (z_dec dL_handOver 4 rfl) h2
set_option maxRecDepth 20000 in
theorem bL_capacity_0 {K : zK} {P : Option Value → zM → Prop} {X : String → zM → Prop} (hK : zIs K RL cL_capacity 1 (some .int) 1 (0, 0) P X) (hw : wOK (kw K)) {I : zM} {v0 n0 : Nat} {f0 : Nat → Int32} (o0 : zSA (kG K) v0 n0 f0) {f1 : Int32} {g1 : zM} (m1 : CT (kG K) (kw K) (kl K) (yL_pick, cL_pick, 3, (some .int)) 0 (0, 0) [.ref v0, .int (3 : Int32), .int (12 : Int32)] I (qE f1 g1) nX) (h2 : P (some (.int ((1 : Int32) + f1))) g1) : ZZ K (0, 0) 0 [(0, .ref v0)] [] I := by
  obtain ⟨hb, ho, hnl, hR, hE⟩ := hK
  refine zz_iconst (v := (1 : Int32)) hb (z_dec dL_capacity 0 rfl) (by decide) ?_
  refine zz_aload_n hb (z_dec dL_capacity 1 rfl) rfl 0 rfl ?_
  refine zz_iconst (v := (3 : Int32)) hb (z_dec dL_capacity 2 rfl) (by decide) ?_
  refine zz_bipush (v := (12 : Int32)) hb (z_dec dL_capacity 3 rfl) (by decide) ?_
  refine zz_invS (as := [.ref v0, .int (3 : Int32), .int (12 : Int32)]) (d := 0) (mc := (0, 0)) (P := (qE f1 g1)) (X := nX) hb ho hnl hR hE mkL_pick rfl rfl ⟨Nat.le_refl 0, Nat.le_refl 0⟩ rfl (rL_capacity 0 rfl) (rL_capacity 1 rfl) rfl (z_dec dL_capacity 4 rfl) m1 (fun v J1 hp => ?_) (fun _ _ h => h.elim)
  obtain ⟨r1, rfl, e1, w1⟩ := hp
  have e1 := e1.symm
  subst e1
  have w1 := w1.symm
  subst w1
  show ZZ K (0, 0) 8 [(0, .ref v0)] [.int f1, .int (1 : Int32)] g1
  refine zz_iadd hb (z_dec dL_capacity 5 rfl) ?_
  exact zz_iret hb hE ⟨Nat.le_refl 0, Nat.le_refl 0⟩ (z_dec dL_capacity 6 rfl) h2
set_option maxRecDepth 20000 in
theorem bL_refill_0 {K : zK} {P : Option Value → zM → Prop} {X : String → zM → Prop} (hK : zIs K RL cL_refill 1 (some .int) 1 (0, 0) P X) (hw : wOK (kw K)) {I : zM} {v0 n0 : Nat} {f0 : Nat → Int32} (o0 : zSA (kG K) v0 n0 f0) {f1 : Int32} {g1 : zM} (m1 : CT (kG K) (kw K) (kl K) (yL_pick, cL_pick, 3, (some .int)) 0 (0, 0) [.ref v0, .int (4 : Int32), .int (4 : Int32)] I (qE f1 g1) nX) (h2 : P (some (.int f1)) g1) : ZZ K (0, 0) 0 [(0, .ref v0)] [] I := by
  obtain ⟨hb, ho, hnl, hR, hE⟩ := hK
  refine zz_aload_n hb (z_dec dL_refill 0 rfl) rfl 0 rfl ?_
  refine zz_iconst (v := (4 : Int32)) hb (z_dec dL_refill 1 rfl) (by decide) ?_
  refine zz_iconst (v := (4 : Int32)) hb (z_dec dL_refill 2 rfl) (by decide) ?_
  refine zz_invS (as := [.ref v0, .int (4 : Int32), .int (4 : Int32)]) (d := 0) (mc := (0, 0)) (P := (qE f1 g1)) (X := nX) hb ho hnl hR hE mkL_pick rfl rfl ⟨Nat.le_refl 0, Nat.le_refl 0⟩ rfl (rL_refill 0 rfl) (rL_refill 1 rfl) rfl (z_dec dL_refill 3 rfl) m1 (fun v J1 hp => ?_) (fun _ _ h => h.elim)
  obtain ⟨r1, rfl, e1, w1⟩ := hp
  have e1 := e1.symm
  subst e1
  have w1 := w1.symm
  subst w1
  show ZZ K (0, 0) 6 [(0, .ref v0)] [.int f1] g1
  exact zz_iret hb hE ⟨Nat.le_refl 0, Nat.le_refl 0⟩ (z_dec dL_refill 4 rfl) h2
set_option maxRecDepth 20000 in
theorem bL_quantum_0 {K : zK} {P : Option Value → zM → Prop} {X : String → zM → Prop} (hK : zIs K RL cL_quantum 1 (some .int) 1 (0, 0) P X) (hw : wOK (kw K)) {I : zM} {v0 n0 : Nat} {f0 : Nat → Int32} (o0 : zSA (kG K) v0 n0 f0) {f1 : Int32} {g1 : zM} (m1 : CT (kG K) (kw K) (kl K) (yL_pick, cL_pick, 3, (some .int)) 0 (0, 0) [.ref v0, .int (5 : Int32), .int (4 : Int32)] I (qE f1 g1) nX) (h2 : P (some (.int ((1 : Int32) + f1))) g1) : ZZ K (0, 0) 0 [(0, .ref v0)] [] I := by
  obtain ⟨hb, ho, hnl, hR, hE⟩ := hK
  refine zz_iconst (v := (1 : Int32)) hb (z_dec dL_quantum 0 rfl) (by decide) ?_
  refine zz_aload_n hb (z_dec dL_quantum 1 rfl) rfl 0 rfl ?_
  refine zz_iconst (v := (5 : Int32)) hb (z_dec dL_quantum 2 rfl) (by decide) ?_
  refine zz_iconst (v := (4 : Int32)) hb (z_dec dL_quantum 3 rfl) (by decide) ?_
  refine zz_invS (as := [.ref v0, .int (5 : Int32), .int (4 : Int32)]) (d := 0) (mc := (0, 0)) (P := (qE f1 g1)) (X := nX) hb ho hnl hR hE mkL_pick rfl rfl ⟨Nat.le_refl 0, Nat.le_refl 0⟩ rfl (rL_quantum 0 rfl) (rL_quantum 1 rfl) rfl (z_dec dL_quantum 4 rfl) m1 (fun v J1 hp => ?_) (fun _ _ h => h.elim)
  obtain ⟨r1, rfl, e1, w1⟩ := hp
  have e1 := e1.symm
  subst e1
  have w1 := w1.symm
  subst w1
  show ZZ K (0, 0) 7 [(0, .ref v0)] [.int f1, .int (1 : Int32)] g1
  refine zz_iadd hb (z_dec dL_quantum 5 rfl) ?_
  exact zz_iret hb hE ⟨Nat.le_refl 0, Nat.le_refl 0⟩ (z_dec dL_quantum 6 rfl) h2
set_option maxRecDepth 20000 in
theorem bL_aging_0 {K : zK} {P : Option Value → zM → Prop} {X : String → zM → Prop} (hK : zIs K RL cL_aging 1 (some .int) 1 (0, 0) P X) (hw : wOK (kw K)) {I : zM} {v0 n0 : Nat} {f0 : Nat → Int32} (o0 : zSA (kG K) v0 n0 f0) {f1 : Int32} {g1 : zM} (m1 : CT (kG K) (kw K) (kl K) (yL_pick, cL_pick, 3, (some .int)) 0 (0, 0) [.ref v0, .int (6 : Int32), .int (8 : Int32)] I (qE f1 g1) nX) (h2 : P (some (.int ((1 : Int32) + f1))) g1) : ZZ K (0, 0) 0 [(0, .ref v0)] [] I := by
  obtain ⟨hb, ho, hnl, hR, hE⟩ := hK
  refine zz_iconst (v := (1 : Int32)) hb (z_dec dL_aging 0 rfl) (by decide) ?_
  refine zz_aload_n hb (z_dec dL_aging 1 rfl) rfl 0 rfl ?_
  refine zz_bipush (v := (6 : Int32)) hb (z_dec dL_aging 2 rfl) (by decide) ?_
  refine zz_bipush (v := (8 : Int32)) hb (z_dec dL_aging 3 rfl) (by decide) ?_
  refine zz_invS (as := [.ref v0, .int (6 : Int32), .int (8 : Int32)]) (d := 0) (mc := (0, 0)) (P := (qE f1 g1)) (X := nX) hb ho hnl hR hE mkL_pick rfl rfl ⟨Nat.le_refl 0, Nat.le_refl 0⟩ rfl (rL_aging 0 rfl) (rL_aging 1 rfl) rfl (z_dec dL_aging 4 rfl) m1 (fun v J1 hp => ?_) (fun _ _ h => h.elim)
  obtain ⟨r1, rfl, e1, w1⟩ := hp
  have e1 := e1.symm
  subst e1
  have w1 := w1.symm
  subst w1
  show ZZ K (0, 0) 9 [(0, .ref v0)] [.int f1, .int (1 : Int32)] g1
  refine zz_iadd hb (z_dec dL_aging 5 rfl) ?_
  exact zz_iret hb hE ⟨Nat.le_refl 0, Nat.le_refl 0⟩ (z_dec dL_aging 6 rfl) h2
set_option maxRecDepth 20000 in
theorem bL_blot_0 {K : zK} {P : Option Value → zM → Prop} {X : String → zM → Prop} (hK : zIs K RL cL_blot 1 (some .int) 1 (0, 0) P X) (hw : wOK (kw K)) {I : zM} {v0 n0 : Nat} {f0 : Nat → Int32} (o0 : zSA (kG K) v0 n0 f0) {f1 : Int32} {g1 : zM} (m1 : CT (kG K) (kw K) (kl K) (yL_pick, cL_pick, 3, (some .int)) 0 (0, 0) [.ref v0, .int (7 : Int32), .int (3 : Int32)] I (qE f1 g1) nX) (h2 : P (some (.int f1)) g1) : ZZ K (0, 0) 0 [(0, .ref v0)] [] I := by
  obtain ⟨hb, ho, hnl, hR, hE⟩ := hK
  refine zz_aload_n hb (z_dec dL_blot 0 rfl) rfl 0 rfl ?_
  refine zz_bipush (v := (7 : Int32)) hb (z_dec dL_blot 1 rfl) (by decide) ?_
  refine zz_iconst (v := (3 : Int32)) hb (z_dec dL_blot 2 rfl) (by decide) ?_
  refine zz_invS (as := [.ref v0, .int (7 : Int32), .int (3 : Int32)]) (d := 0) (mc := (0, 0)) (P := (qE f1 g1)) (X := nX) hb ho hnl hR hE mkL_pick rfl rfl ⟨Nat.le_refl 0, Nat.le_refl 0⟩ rfl (rL_blot 0 rfl) (rL_blot 1 rfl) rfl (z_dec dL_blot 3 rfl) m1 (fun v J1 hp => ?_) (fun _ _ h => h.elim)
  obtain ⟨r1, rfl, e1, w1⟩ := hp
  have e1 := e1.symm
  subst e1
  have w1 := w1.symm
  subst w1
  show ZZ K (0, 0) 7 [(0, .ref v0)] [.int f1] g1
  exact zz_iret hb hE ⟨Nat.le_refl 0, Nat.le_refl 0⟩ (z_dec dL_blot 4 rfl) h2
set_option maxRecDepth 20000 in
theorem bL_act_0 {K : zK} {P : Option Value → zM → Prop} {X : String → zM → Prop} (hK : zIs K RL cL_act 4 none 8 (0, 0) P X) (hw : wOK (kw K)) {I : zM} (t0 : isT (kw K) 10 0) {v1 : Int32} {f1 : Int32} {g1 : zM} (m1 : CT (kG K) (kw K) (kl K) (yX10_letterCount, cX10_letterCount, 1, (some .int)) 0 (0, 0) [.ref 0] I (qE f1 g1) nX) (h3 : ∀ (c2 : ¬ f1 = 0), ¬ f1 = 0) (k4 : ∀ (c2 : ¬ f1 = 0), ZZ K (0, 0) 19 [(0, .ref 0), (1, .int v1), (2, .int f1)] [.int ((v1 / (16 : Int32)) - (v1 / (16 : Int32)) / f1 * f1)] g1) (k5 : ∀ (c2 : f1 = 0), ZZ K (0, 0) 19 [(0, .ref 0), (1, .int v1), (2, .int f1)] [.int (0 : Int32)] g1) : ZZ K (0, 0) 0 [(0, .ref 0), (1, .int v1)] [] I := by
  obtain ⟨hb, ho, hnl, hR, hE⟩ := hK
  refine zz_aload_n hb (z_dec dL_act 0 rfl) rfl 0 rfl ?_
  refine zz_inv (as := []) (d := 0) (mc := (0, 0)) (P := (qE f1 g1)) (X := nX) hb ho hnl hR hE mkX10_letterCount rfl ckX10 t0 rfl ⟨Nat.le_refl 0, Nat.le_refl 0⟩ rfl (rL_act 0 rfl) (rL_act 1 rfl) (rL_act 2 rfl) rfl (z_dec dL_act 1 rfl) m1 (fun v J1 hp => ?_) (fun _ _ h => h.elim)
  obtain ⟨r1, rfl, e1, w1⟩ := hp
  have e1 := e1.symm
  subst e1
  have w1 := w1.symm
  subst w1
  show ZZ K (0, 0) 4 [(0, .ref 0), (1, .int v1)] [.int f1] g1
  refine zz_istore_n (L' := [(0, .ref 0), (1, .int v1), (2, .int f1)]) hb (z_dec dL_act 2 rfl) rfl hnl rfl [1, 2, 0] rfl ?_
  refine zz_iload_n hb (z_dec dL_act 3 rfl) rfl 2 rfl ?_
  refine zz_if_ne (tgt := 13) hb (z_dec dL_act 4 rfl) (by decide) (fun c2 => ?_) (fun c2 => ?_)
  · refine zz_iload_n hb (z_dec dL_act 7 rfl) rfl 1 rfl ?_
    refine zz_bipush (v := (16 : Int32)) hb (z_dec dL_act 8 rfl) (by decide) ?_
    refine zz_idiv hb (z_dec dL_act 9 rfl) (by decide) ?_
    refine zz_iload_n hb (z_dec dL_act 10 rfl) rfl 2 rfl ?_
    refine zz_irem hb (z_dec dL_act 11 rfl) (h3 c2) ?_
    exact (k4 c2)
  · refine zz_iconst (v := (0 : Int32)) hb (z_dec dL_act 5 rfl) (by decide) ?_
    refine zz_goto (tgt := 19) hb (z_dec dL_act 6 rfl) (by decide) ?_
    exact (k5 c2)
set_option maxRecDepth 20000 in
theorem bL_act_19 {K : zK} {P : Option Value → zM → Prop} {X : String → zM → Prop} (hK : zIs K RL cL_act 4 none 8 (0, 0) P X) (hw : wOK (kw K)) {I : zM} (t0 : isT (kw K) 10 0) {v1 : Int32} {v2 : Int32} {vs0 : Int32} {f2 : Int32} {g2 : zM} (m2 : ∀ (c1 : (v1 - v1 / (9 : Int32) * (9 : Int32)).toInt < 0 ∨ 4 < (v1 - v1 / (9 : Int32) * (9 : Int32)).toInt), CT (kG K) (kw K) (kl K) (yX10_pass, cX10_pass, 2, (some .int)) 7 (0, 0) [.ref 0, .int ((1 : Int32) + ((v1 / (256 : Int32)) - (v1 / (256 : Int32)) / (6 : Int32) * (6 : Int32)))] I (qE f2 g2) nX) (h3 : ∀ (c1 : (v1 - v1 / (9 : Int32) * (9 : Int32)).toInt < 0 ∨ 4 < (v1 - v1 / (9 : Int32) * (9 : Int32)).toInt), P none g2) (h5 : ∀ (c1 : (v1 - v1 / (9 : Int32) * (9 : Int32)).toInt = 0) (c4 : (12 : Int32) ≤ v2), P none I) {f6 : Int32} {g6 : zM} (m6 : ∀ (c1 : (v1 - v1 / (9 : Int32) * (9 : Int32)).toInt = 0) (c4 : ¬ (12 : Int32) ≤ v2), CT (kG K) (kw K) (kl K) (yX10_clerkCount, cX10_clerkCount, 1, (some .int)) 0 (0, 0) [.ref 0] I (qE f6 g6) nX) (h7 : ∀ (c1 : (v1 - v1 / (9 : Int32) * (9 : Int32)).toInt = 0) (c4 : ¬ (12 : Int32) ≤ v2), ¬ f6 = 0) {f8 : Int32} {g8 : zM} (m8 : ∀ (c1 : (v1 - v1 / (9 : Int32) * (9 : Int32)).toInt = 0) (c4 : ¬ (12 : Int32) ≤ v2), CT (kG K) (kw K) (kl K) (yX10_minute, cX10_minute, 1, (some .int)) 0 (0, 0) [.ref 0] g6 (qE f8 g8) nX) {f9 : Int32} {g9 : zM} (m9 : ∀ (c1 : (v1 - v1 / (9 : Int32) * (9 : Int32)).toInt = 0) (c4 : ¬ (12 : Int32) ≤ v2), CT (kG K) (kw K) (kl K) (yX10_addLetter, cX10_addLetter, 6, (some .int)) 7 (0, 0) [.ref 0, .int ((v1 / (16 : Int32)) - (v1 / (16 : Int32)) / f6 * f6), .int ((1 : Int32) + ((v1 / (128 : Int32)) - (v1 / (128 : Int32)) / (9 : Int32) * (9 : Int32))), .int ((v1 / (2048 : Int32)) - (v1 / (2048 : Int32)) / (6 : Int32) * (6 : Int32)), .int ((f8 + (1 : Int32)) + ((v1 / (16384 : Int32)) - (v1 / (16384 : Int32)) / (40 : Int32) * (40 : Int32))), .int ((v1 / (1048576 : Int32)) - (v1 / (1048576 : Int32)) / (10 : Int32) * (10 : Int32))] g8 (qE f9 g9) nX) (h10 : ∀ (c1 : (v1 - v1 / (9 : Int32) * (9 : Int32)).toInt = 0) (c4 : ¬ (12 : Int32) ≤ v2), P none g9) (h12 : ∀ (c1 : (v1 - v1 / (9 : Int32) * (9 : Int32)).toInt = 1) (c11 : v2 ≤ 0), P none I) {f13 : Int32} {g13 : zM} (m13 : ∀ (c1 : (v1 - v1 / (9 : Int32) * (9 : Int32)).toInt = 1) (c11 : ¬ v2 ≤ 0), CT (kG K) (kw K) (kl K) (yX10_isReady, cX10_isReady, 2, (some .boolean)) 7 (0, 0) [.ref 0, .int vs0] I (qE f13 g13) nX) (h15 : ∀ (c1 : (v1 - v1 / (9 : Int32) * (9 : Int32)).toInt = 1) (c11 : ¬ v2 ≤ 0) (c14 : f13 = 0), P none g13) (h17 : ∀ (c1 : (v1 - v1 / (9 : Int32) * (9 : Int32)).toInt = 1) (c11 : ¬ v2 ≤ 0) (c14 : ¬ f13 = 0) (c16 : ¬ ((v1 / (256 : Int32)) - (v1 / (256 : Int32)) / (2 : Int32) * (2 : Int32)) = 0), P none g13) {f18 : Int32} {g18 : zM} (m18 : ∀ (c1 : (v1 - v1 / (9 : Int32) * (9 : Int32)).toInt = 1) (c11 : ¬ v2 ≤ 0) (c14 : ¬ f13 = 0) (c16 : ((v1 / (256 : Int32)) - (v1 / (256 : Int32)) / (2 : Int32) * (2 : Int32)) = 0), CT (kG K) (kw K) (kl K) (yX10_discard, cX10_discard, 2, (some .int)) 7 (0, 0) [.ref 0, .int vs0] g13 (qE f18 g18) nX) (h19 : ∀ (c1 : (v1 - v1 / (9 : Int32) * (9 : Int32)).toInt = 1) (c11 : ¬ v2 ≤ 0) (c14 : ¬ f13 = 0) (c16 : ((v1 / (256 : Int32)) - (v1 / (256 : Int32)) / (2 : Int32) * (2 : Int32)) = 0), P none g18) (h21 : ∀ (c1 : (v1 - v1 / (9 : Int32) * (9 : Int32)).toInt = 2) (c20 : v2 ≤ 0), P none I) {f22 : Int32} {g22 : zM} (m22 : ∀ (c1 : (v1 - v1 / (9 : Int32) * (9 : Int32)).toInt = 2) (c20 : ¬ v2 ≤ 0), CT (kG K) (kw K) (kl K) (yX10_setDeadline, cX10_setDeadline, 4, (some .int)) 7 (0, 0) [.ref 0, .int vs0, .int ((1 : Int32) + ((v1 / (256 : Int32)) - (v1 / (256 : Int32)) / (90 : Int32) * (90 : Int32)))] I (qE f22 g22) nX) (h23 : ∀ (c1 : (v1 - v1 / (9 : Int32) * (9 : Int32)).toInt = 2) (c20 : ¬ v2 ≤ 0), P none g22) (h25 : ∀ (c1 : (v1 - v1 / (9 : Int32) * (9 : Int32)).toInt = 3) (c24 : v2 ≤ 0), P none I) {f26 : Int32} {g26 : zM} (m26 : ∀ (c1 : (v1 - v1 / (9 : Int32) * (9 : Int32)).toInt = 3) (c24 : ¬ v2 ≤ 0), CT (kG K) (kw K) (kl K) (yX10_setPriority, cX10_setPriority, 4, (some .int)) 7 (0, 0) [.ref 0, .int vs0, .int ((v1 / (256 : Int32)) - (v1 / (256 : Int32)) / (10 : Int32) * (10 : Int32))] I (qE f26 g26) nX) (h27 : ∀ (c1 : (v1 - v1 / (9 : Int32) * (9 : Int32)).toInt = 3) (c24 : ¬ v2 ≤ 0), P none g26) {f28 : Int32} {g28 : zM} (m28 : ∀ (c1 : (v1 - v1 / (9 : Int32) * (9 : Int32)).toInt = 4), CT (kG K) (kw K) (kl K) (yX10_setPolicy, cX10_setPolicy, 3, (some .int)) 7 (0, 0) [.ref 0, .int ((v1 / (256 : Int32)) - (v1 / (256 : Int32)) / (5 : Int32) * (5 : Int32))] I (qE f28 g28) nX) (h29 : ∀ (c1 : (v1 - v1 / (9 : Int32) * (9 : Int32)).toInt = 4), P none g28) : ZZ K (0, 0) 19 [(0, .ref 0), (1, .int v1), (2, .int v2)] [.int vs0] I := by
  obtain ⟨hb, ho, hnl, hR, hE⟩ := hK
  refine zz_istore_n (L' := [(0, .ref 0), (1, .int v1), (2, .int v2), (3, .int vs0)]) hb (z_dec dL_act 12 rfl) rfl hnl rfl [1, 2, 3, 0] rfl ?_
  refine zz_iload_n hb (z_dec dL_act 13 rfl) rfl 1 rfl ?_
  refine zz_bipush (v := (9 : Int32)) hb (z_dec dL_act 14 rfl) (by decide) ?_
  refine zz_irem hb (z_dec dL_act 15 rfl) (by decide) ?_
  refine zz_tsw (td := 213) (tg := [60, 123, 154, 177, 198]) hb (z_dec dL_act 16 rfl) (by decide) rfl (by decide) (fun c1 => ?_) (fun i t hi c1 => ?_)
  · refine zz_aload_n hb (z_dec dL_act 109 rfl) rfl 0 rfl ?_
    refine zz_iconst (v := (1 : Int32)) hb (z_dec dL_act 110 rfl) (by decide) ?_
    refine zz_iload_n hb (z_dec dL_act 111 rfl) rfl 1 rfl ?_
    refine zz_sipush (v := (256 : Int32)) hb (z_dec dL_act 112 rfl) (by decide) ?_
    refine zz_idiv hb (z_dec dL_act 113 rfl) (by decide) ?_
    refine zz_bipush (v := (6 : Int32)) hb (z_dec dL_act 114 rfl) (by decide) ?_
    refine zz_irem hb (z_dec dL_act 115 rfl) (by decide) ?_
    refine zz_iadd hb (z_dec dL_act 116 rfl) ?_
    refine zz_inv (as := [.int ((1 : Int32) + ((v1 / (256 : Int32)) - (v1 / (256 : Int32)) / (6 : Int32) * (6 : Int32)))]) (d := 7) (mc := (0, 0)) (P := (qE f2 g2)) (X := nX) hb ho hnl hR hE mkX10_pass rfl ckX10 t0 rfl ⟨Nat.le_refl 0, Nat.le_refl 0⟩ rfl (rL_act 28 rfl) (rL_act 29 rfl) (rL_act 30 rfl) rfl (z_dec dL_act 117 rfl) (m2 c1) (fun v J2 hp => ?_) (fun _ _ h => h.elim)
    obtain ⟨r2, rfl, e2, w2⟩ := hp
    have e2 := e2.symm
    subst e2
    have w2 := w2.symm
    subst w2
    show ZZ K (0, 0) 227 [(0, .ref 0), (1, .int v1), (2, .int v2), (3, .int vs0)] [.int f2] g2
    refine zz_pop hb (z_dec dL_act 118 rfl) rfl ?_
    exact zz_vret hb hE ⟨Nat.le_refl 0, Nat.le_refl 0⟩ (z_dec dL_act 119 rfl) (h3 c1)
  · obtain _ | i := i
    · obtain rfl := Option.some.inj hi
      refine zz_iload_n hb (z_dec dL_act 17 rfl) rfl 2 rfl ?_
      refine zz_bipush (v := (12 : Int32)) hb (z_dec dL_act 18 rfl) (by decide) ?_
      refine zz_icmp_ge (tgt := 228) hb (z_dec dL_act 19 rfl) (by decide) (fun c4 => ?_) (fun c4 => ?_)
      · exact zz_vret hb hE ⟨Nat.le_refl 0, Nat.le_refl 0⟩ (z_dec dL_act 119 rfl) (h5 c1 c4)
      · refine zz_aload_n hb (z_dec dL_act 20 rfl) rfl 0 rfl ?_
        refine zz_iload_n hb (z_dec dL_act 21 rfl) rfl 1 rfl ?_
        refine zz_bipush (v := (16 : Int32)) hb (z_dec dL_act 22 rfl) (by decide) ?_
        refine zz_idiv hb (z_dec dL_act 23 rfl) (by decide) ?_
        refine zz_aload_n hb (z_dec dL_act 24 rfl) rfl 0 rfl ?_
        refine zz_inv (as := []) (d := 0) (mc := (0, 0)) (P := (qE f6 g6)) (X := nX) hb ho hnl hR hE mkX10_clerkCount rfl ckX10 t0 rfl ⟨Nat.le_refl 0, Nat.le_refl 0⟩ rfl (rL_act 3 rfl) (rL_act 4 rfl) (rL_act 5 rfl) rfl (z_dec dL_act 25 rfl) (m6 c1 c4) (fun v J6 hp => ?_) (fun _ _ h => h.elim)
        obtain ⟨r6, rfl, e6, w6⟩ := hp
        have e6 := e6.symm
        subst e6
        have w6 := w6.symm
        subst w6
        show ZZ K (0, 0) 75 [(0, .ref 0), (1, .int v1), (2, .int v2), (3, .int vs0)] [.int f6, .int (v1 / (16 : Int32)), .ref 0] g6
        refine zz_irem hb (z_dec dL_act 26 rfl) (h7 c1 c4) ?_
        refine zz_iconst (v := (1 : Int32)) hb (z_dec dL_act 27 rfl) (by decide) ?_
        refine zz_iload_n hb (z_dec dL_act 28 rfl) rfl 1 rfl ?_
        refine zz_sipush (v := (128 : Int32)) hb (z_dec dL_act 29 rfl) (by decide) ?_
        refine zz_idiv hb (z_dec dL_act 30 rfl) (by decide) ?_
        refine zz_bipush (v := (9 : Int32)) hb (z_dec dL_act 31 rfl) (by decide) ?_
        refine zz_irem hb (z_dec dL_act 32 rfl) (by decide) ?_
        refine zz_iadd hb (z_dec dL_act 33 rfl) ?_
        refine zz_iload_n hb (z_dec dL_act 34 rfl) rfl 1 rfl ?_
        refine zz_sipush (v := (2048 : Int32)) hb (z_dec dL_act 35 rfl) (by decide) ?_
        refine zz_idiv hb (z_dec dL_act 36 rfl) (by decide) ?_
        refine zz_bipush (v := (6 : Int32)) hb (z_dec dL_act 37 rfl) (by decide) ?_
        refine zz_irem hb (z_dec dL_act 38 rfl) (by decide) ?_
        refine zz_aload_n hb (z_dec dL_act 39 rfl) rfl 0 rfl ?_
        refine zz_inv (as := []) (d := 0) (mc := (0, 0)) (P := (qE f8 g8)) (X := nX) hb ho hnl hR hE mkX10_minute rfl ckX10 t0 rfl ⟨Nat.le_refl 0, Nat.le_refl 0⟩ rfl (rL_act 6 rfl) (rL_act 7 rfl) (rL_act 8 rfl) rfl (z_dec dL_act 40 rfl) (m8 c1 c4) (fun v J8 hp => ?_) (fun _ _ h => h.elim)
        obtain ⟨r8, rfl, e8, w8⟩ := hp
        have e8 := e8.symm
        subst e8
        have w8 := w8.symm
        subst w8
        show ZZ K (0, 0) 98 [(0, .ref 0), (1, .int v1), (2, .int v2), (3, .int vs0)] [.int f8, .int ((v1 / (2048 : Int32)) - (v1 / (2048 : Int32)) / (6 : Int32) * (6 : Int32)), .int ((1 : Int32) + ((v1 / (128 : Int32)) - (v1 / (128 : Int32)) / (9 : Int32) * (9 : Int32))), .int ((v1 / (16 : Int32)) - (v1 / (16 : Int32)) / f6 * f6), .ref 0] g8
        refine zz_iconst (v := (1 : Int32)) hb (z_dec dL_act 41 rfl) (by decide) ?_
        refine zz_iadd hb (z_dec dL_act 42 rfl) ?_
        refine zz_iload_n hb (z_dec dL_act 43 rfl) rfl 1 rfl ?_
        refine zz_sipush (v := (16384 : Int32)) hb (z_dec dL_act 44 rfl) (by decide) ?_
        refine zz_idiv hb (z_dec dL_act 45 rfl) (by decide) ?_
        refine zz_bipush (v := (40 : Int32)) hb (z_dec dL_act 46 rfl) (by decide) ?_
        refine zz_irem hb (z_dec dL_act 47 rfl) (by decide) ?_
        refine zz_iadd hb (z_dec dL_act 48 rfl) ?_
        refine zz_iload_n hb (z_dec dL_act 49 rfl) rfl 1 rfl ?_
        refine zz_ldci hb ho (rL_act 9 rfl) (z_dec dL_act 50 rfl) ?_
        refine zz_idiv hb (z_dec dL_act 51 rfl) (by decide) ?_
        refine zz_bipush (v := (10 : Int32)) hb (z_dec dL_act 52 rfl) (by decide) ?_
        refine zz_irem hb (z_dec dL_act 53 rfl) (by decide) ?_
        refine zz_inv (as := [.int ((v1 / (16 : Int32)) - (v1 / (16 : Int32)) / f6 * f6), .int ((1 : Int32) + ((v1 / (128 : Int32)) - (v1 / (128 : Int32)) / (9 : Int32) * (9 : Int32))), .int ((v1 / (2048 : Int32)) - (v1 / (2048 : Int32)) / (6 : Int32) * (6 : Int32)), .int ((f8 + (1 : Int32)) + ((v1 / (16384 : Int32)) - (v1 / (16384 : Int32)) / (40 : Int32) * (40 : Int32))), .int ((v1 / (1048576 : Int32)) - (v1 / (1048576 : Int32)) / (10 : Int32) * (10 : Int32))]) (d := 7) (mc := (0, 0)) (P := (qE f9 g9)) (X := nX) hb ho hnl hR hE mkX10_addLetter rfl ckX10 t0 rfl ⟨Nat.le_refl 0, Nat.le_refl 0⟩ rfl (rL_act 10 rfl) (rL_act 11 rfl) (rL_act 12 rfl) rfl (z_dec dL_act 54 rfl) (m9 c1 c4) (fun v J9 hp => ?_) (fun _ _ h => h.elim)
        obtain ⟨r9, rfl, e9, w9⟩ := hp
        have e9 := e9.symm
        subst e9
        have w9 := w9.symm
        subst w9
        show ZZ K (0, 0) 119 [(0, .ref 0), (1, .int v1), (2, .int v2), (3, .int vs0)] [.int f9] g9
        refine zz_pop hb (z_dec dL_act 55 rfl) rfl ?_
        refine zz_goto (tgt := 228) hb (z_dec dL_act 56 rfl) (by decide) ?_
        exact zz_vret hb hE ⟨Nat.le_refl 0, Nat.le_refl 0⟩ (z_dec dL_act 119 rfl) (h10 c1 c4)
    obtain _ | i := i
    · obtain rfl := Option.some.inj hi
      refine zz_iload_n hb (z_dec dL_act 57 rfl) rfl 2 rfl ?_
      refine zz_if_le (tgt := 228) hb (z_dec dL_act 58 rfl) (by decide) (fun c11 => ?_) (fun c11 => ?_)
      · exact zz_vret hb hE ⟨Nat.le_refl 0, Nat.le_refl 0⟩ (z_dec dL_act 119 rfl) (h12 c1 c11)
      · refine zz_aload_n hb (z_dec dL_act 59 rfl) rfl 0 rfl ?_
        refine zz_iload_n hb (z_dec dL_act 60 rfl) rfl 3 rfl ?_
        refine zz_inv (as := [.int vs0]) (d := 7) (mc := (0, 0)) (P := (qE f13 g13)) (X := nX) hb ho hnl hR hE mkX10_isReady rfl ckX10 t0 rfl ⟨Nat.le_refl 0, Nat.le_refl 0⟩ rfl (rL_act 13 rfl) (rL_act 14 rfl) (rL_act 15 rfl) rfl (z_dec dL_act 61 rfl) (m13 c1 c11) (fun v J13 hp => ?_) (fun _ _ h => h.elim)
        obtain ⟨r13, rfl, e13, w13⟩ := hp
        have e13 := e13.symm
        subst e13
        have w13 := w13.symm
        subst w13
        show ZZ K (0, 0) 132 [(0, .ref 0), (1, .int v1), (2, .int v2), (3, .int vs0)] [.int f13] g13
        refine zz_if_eq (tgt := 228) hb (z_dec dL_act 62 rfl) (by decide) (fun c14 => ?_) (fun c14 => ?_)
        · exact zz_vret hb hE ⟨Nat.le_refl 0, Nat.le_refl 0⟩ (z_dec dL_act 119 rfl) (h15 c1 c11 c14)
        · refine zz_iload_n hb (z_dec dL_act 63 rfl) rfl 1 rfl ?_
          refine zz_sipush (v := (256 : Int32)) hb (z_dec dL_act 64 rfl) (by decide) ?_
          refine zz_idiv hb (z_dec dL_act 65 rfl) (by decide) ?_
          refine zz_iconst (v := (2 : Int32)) hb (z_dec dL_act 66 rfl) (by decide) ?_
          refine zz_irem hb (z_dec dL_act 67 rfl) (by decide) ?_
          refine zz_if_ne (tgt := 228) hb (z_dec dL_act 68 rfl) (by decide) (fun c16 => ?_) (fun c16 => ?_)
          · exact zz_vret hb hE ⟨Nat.le_refl 0, Nat.le_refl 0⟩ (z_dec dL_act 119 rfl) (h17 c1 c11 c14 c16)
          · refine zz_aload_n hb (z_dec dL_act 69 rfl) rfl 0 rfl ?_
            refine zz_iload_n hb (z_dec dL_act 70 rfl) rfl 3 rfl ?_
            refine zz_inv (as := [.int vs0]) (d := 7) (mc := (0, 0)) (P := (qE f18 g18)) (X := nX) hb ho hnl hR hE mkX10_discard rfl ckX10 t0 rfl ⟨Nat.le_refl 0, Nat.le_refl 0⟩ rfl (rL_act 16 rfl) (rL_act 17 rfl) (rL_act 18 rfl) rfl (z_dec dL_act 71 rfl) (m18 c1 c11 c14 c16) (fun v J18 hp => ?_) (fun _ _ h => h.elim)
            obtain ⟨r18, rfl, e18, w18⟩ := hp
            have e18 := e18.symm
            subst e18
            have w18 := w18.symm
            subst w18
            show ZZ K (0, 0) 150 [(0, .ref 0), (1, .int v1), (2, .int v2), (3, .int vs0)] [.int f18] g18
            refine zz_pop hb (z_dec dL_act 72 rfl) rfl ?_
            refine zz_goto (tgt := 228) hb (z_dec dL_act 73 rfl) (by decide) ?_
            exact zz_vret hb hE ⟨Nat.le_refl 0, Nat.le_refl 0⟩ (z_dec dL_act 119 rfl) (h19 c1 c11 c14 c16)
    obtain _ | i := i
    · obtain rfl := Option.some.inj hi
      refine zz_iload_n hb (z_dec dL_act 74 rfl) rfl 2 rfl ?_
      refine zz_if_le (tgt := 228) hb (z_dec dL_act 75 rfl) (by decide) (fun c20 => ?_) (fun c20 => ?_)
      · exact zz_vret hb hE ⟨Nat.le_refl 0, Nat.le_refl 0⟩ (z_dec dL_act 119 rfl) (h21 c1 c20)
      · refine zz_aload_n hb (z_dec dL_act 76 rfl) rfl 0 rfl ?_
        refine zz_iload_n hb (z_dec dL_act 77 rfl) rfl 3 rfl ?_
        refine zz_iconst (v := (1 : Int32)) hb (z_dec dL_act 78 rfl) (by decide) ?_
        refine zz_iload_n hb (z_dec dL_act 79 rfl) rfl 1 rfl ?_
        refine zz_sipush (v := (256 : Int32)) hb (z_dec dL_act 80 rfl) (by decide) ?_
        refine zz_idiv hb (z_dec dL_act 81 rfl) (by decide) ?_
        refine zz_bipush (v := (90 : Int32)) hb (z_dec dL_act 82 rfl) (by decide) ?_
        refine zz_irem hb (z_dec dL_act 83 rfl) (by decide) ?_
        refine zz_iadd hb (z_dec dL_act 84 rfl) ?_
        refine zz_inv (as := [.int vs0, .int ((1 : Int32) + ((v1 / (256 : Int32)) - (v1 / (256 : Int32)) / (90 : Int32) * (90 : Int32)))]) (d := 7) (mc := (0, 0)) (P := (qE f22 g22)) (X := nX) hb ho hnl hR hE mkX10_setDeadline rfl ckX10 t0 rfl ⟨Nat.le_refl 0, Nat.le_refl 0⟩ rfl (rL_act 19 rfl) (rL_act 20 rfl) (rL_act 21 rfl) rfl (z_dec dL_act 85 rfl) (m22 c1 c20) (fun v J22 hp => ?_) (fun _ _ h => h.elim)
        obtain ⟨r22, rfl, e22, w22⟩ := hp
        have e22 := e22.symm
        subst e22
        have w22 := w22.symm
        subst w22
        show ZZ K (0, 0) 173 [(0, .ref 0), (1, .int v1), (2, .int v2), (3, .int vs0)] [.int f22] g22
        refine zz_pop hb (z_dec dL_act 86 rfl) rfl ?_
        refine zz_goto (tgt := 228) hb (z_dec dL_act 87 rfl) (by decide) ?_
        exact zz_vret hb hE ⟨Nat.le_refl 0, Nat.le_refl 0⟩ (z_dec dL_act 119 rfl) (h23 c1 c20)
    obtain _ | i := i
    · obtain rfl := Option.some.inj hi
      refine zz_iload_n hb (z_dec dL_act 88 rfl) rfl 2 rfl ?_
      refine zz_if_le (tgt := 228) hb (z_dec dL_act 89 rfl) (by decide) (fun c24 => ?_) (fun c24 => ?_)
      · exact zz_vret hb hE ⟨Nat.le_refl 0, Nat.le_refl 0⟩ (z_dec dL_act 119 rfl) (h25 c1 c24)
      · refine zz_aload_n hb (z_dec dL_act 90 rfl) rfl 0 rfl ?_
        refine zz_iload_n hb (z_dec dL_act 91 rfl) rfl 3 rfl ?_
        refine zz_iload_n hb (z_dec dL_act 92 rfl) rfl 1 rfl ?_
        refine zz_sipush (v := (256 : Int32)) hb (z_dec dL_act 93 rfl) (by decide) ?_
        refine zz_idiv hb (z_dec dL_act 94 rfl) (by decide) ?_
        refine zz_bipush (v := (10 : Int32)) hb (z_dec dL_act 95 rfl) (by decide) ?_
        refine zz_irem hb (z_dec dL_act 96 rfl) (by decide) ?_
        refine zz_inv (as := [.int vs0, .int ((v1 / (256 : Int32)) - (v1 / (256 : Int32)) / (10 : Int32) * (10 : Int32))]) (d := 7) (mc := (0, 0)) (P := (qE f26 g26)) (X := nX) hb ho hnl hR hE mkX10_setPriority rfl ckX10 t0 rfl ⟨Nat.le_refl 0, Nat.le_refl 0⟩ rfl (rL_act 22 rfl) (rL_act 23 rfl) (rL_act 24 rfl) rfl (z_dec dL_act 97 rfl) (m26 c1 c24) (fun v J26 hp => ?_) (fun _ _ h => h.elim)
        obtain ⟨r26, rfl, e26, w26⟩ := hp
        have e26 := e26.symm
        subst e26
        have w26 := w26.symm
        subst w26
        show ZZ K (0, 0) 194 [(0, .ref 0), (1, .int v1), (2, .int v2), (3, .int vs0)] [.int f26] g26
        refine zz_pop hb (z_dec dL_act 98 rfl) rfl ?_
        refine zz_goto (tgt := 228) hb (z_dec dL_act 99 rfl) (by decide) ?_
        exact zz_vret hb hE ⟨Nat.le_refl 0, Nat.le_refl 0⟩ (z_dec dL_act 119 rfl) (h27 c1 c24)
    obtain _ | i := i
    · obtain rfl := Option.some.inj hi
      refine zz_aload_n hb (z_dec dL_act 100 rfl) rfl 0 rfl ?_
      refine zz_iload_n hb (z_dec dL_act 101 rfl) rfl 1 rfl ?_
      refine zz_sipush (v := (256 : Int32)) hb (z_dec dL_act 102 rfl) (by decide) ?_
      refine zz_idiv hb (z_dec dL_act 103 rfl) (by decide) ?_
      refine zz_iconst (v := (5 : Int32)) hb (z_dec dL_act 104 rfl) (by decide) ?_
      refine zz_irem hb (z_dec dL_act 105 rfl) (by decide) ?_
      refine zz_inv (as := [.int ((v1 / (256 : Int32)) - (v1 / (256 : Int32)) / (5 : Int32) * (5 : Int32))]) (d := 7) (mc := (0, 0)) (P := (qE f28 g28)) (X := nX) hb ho hnl hR hE mkX10_setPolicy rfl ckX10 t0 rfl ⟨Nat.le_refl 0, Nat.le_refl 0⟩ rfl (rL_act 25 rfl) (rL_act 26 rfl) (rL_act 27 rfl) rfl (z_dec dL_act 106 rfl) (m28 c1) (fun v J28 hp => ?_) (fun _ _ h => h.elim)
      obtain ⟨r28, rfl, e28, w28⟩ := hp
      have e28 := e28.symm
      subst e28
      have w28 := w28.symm
      subst w28
      show ZZ K (0, 0) 209 [(0, .ref 0), (1, .int v1), (2, .int v2), (3, .int vs0)] [.int f28] g28
      refine zz_pop hb (z_dec dL_act 107 rfl) rfl ?_
      refine zz_goto (tgt := 228) hb (z_dec dL_act 108 rfl) (by decide) ?_
      exact zz_vret hb hE ⟨Nat.le_refl 0, Nat.le_refl 0⟩ (z_dec dL_act 119 rfl) (h29 c1)
    cases hi
set_option maxRecDepth 20000 in
theorem bJ9_min_7cf53_0 {K : zK} {P : Option Value → zM → Prop} {X : String → zM → Prop} (hK : zIs K RJ9 cJ9_min_7cf53 2 (some .int) 0 (0, 0) P X) (hw : wOK (kw K)) {I : zM} {v0 : Int32} {v1 : Int32} (h2 : ∀ (c1 : v1 < v0), P (some (.int v1)) I) (h3 : ∀ (c1 : ¬ v1 < v0), P (some (.int v0)) I) : ZZ K (0, 0) 0 [(0, .int v0), (1, .int v1)] [] I := by
  obtain ⟨hb, ho, hnl, hR, hE⟩ := hK
  refine zz_iload_n hb (z_dec dJ9_min_7cf53 0 rfl) rfl 0 rfl ?_
  refine zz_iload_n hb (z_dec dJ9_min_7cf53 1 rfl) rfl 1 rfl ?_
  refine zz_icmp_gt (tgt := 9) hb (z_dec dJ9_min_7cf53 2 rfl) (by decide) (fun c1 => ?_) (fun c1 => ?_)
  · refine zz_iload_n hb (z_dec dJ9_min_7cf53 5 rfl) rfl 1 rfl ?_
    exact zz_iret hb hE ⟨Nat.le_refl 0, Nat.le_refl 0⟩ (z_dec dJ9_min_7cf53 6 rfl) (h2 c1)
  · refine zz_iload_n hb (z_dec dJ9_min_7cf53 3 rfl) rfl 0 rfl ?_
    refine zz_goto (tgt := 10) hb (z_dec dJ9_min_7cf53 4 rfl) (by decide) ?_
    exact zz_iret hb hE ⟨Nat.le_refl 0, Nat.le_refl 0⟩ (z_dec dJ9_min_7cf53 6 rfl) (h3 c1)
