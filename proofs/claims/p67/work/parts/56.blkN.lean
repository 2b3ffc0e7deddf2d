/-! rows of methods that throw, where what a throw needs is asked on its way alone (written by wip/gen67/alln.py) -/
set_option maxRecDepth 20000 in
theorem nX10_requireLetter_0 {K : zK} {P : Option Value → zM → Prop} {X : String → zM → Prop} {u mc : Nat × Nat} (hK : zIs K RX10 cX10_requireLetter 2 none 6 mc P X) (hw : wOK (kw K)) {I : zM} (t0 : isT (kw K) 10 0) {v1 : Int32} {f1 : Int32} {g1 : zM} (g_1 : u.1 ≤ mc.1 ∧ u.2 ≤ mc.2) (m1 : CT (kG K) (kw K) (kl K) (yX9_hasLetter, cX9_hasLetter, 2, (some .boolean)) 0 (0, 0) [.ref 288, .int v1] I (qE f1 g1) nX) (g3 : u.1 ≤ mc.1 ∧ u.2 ≤ mc.2) (h4 : ∀ (c2 : ¬ f1 = 0), P none g1) (g5 : ∀ (c2 : f1 = 0), u.1 + 1 ≤ mc.1 ∧ u.2 + 6 ≤ mc.2) (h6 : ∀ (c2 : f1 = 0), X "java/lang/IndexOutOfBoundsException" g1) : ZZ K u 0 [(0, .ref 0), (1, .int v1)] [] I := by
  obtain ⟨hb, ho, hnl, hR, hE⟩ := hK
  refine zz_aload_n hb (z_dec dX10_requireLetter 0 rfl) rfl 0 rfl ?_
  refine zz_getr (k := 0) (q := 288) hb ho rfl ckX10 t0 rfl rfl (rX10_requireLetter 0 rfl) rfl (z_dec dX10_requireLetter 1 rfl) ?_
  refine zz_iload_n hb (z_dec dX10_requireLetter 2 rfl) rfl 1 rfl ?_
  refine zz_inv (as := [.int v1]) (d := 0) (mc := (0, 0)) (P := (qE f1 g1)) (X := nX) hb ho hnl hR hE mkX9_hasLetter rfl ckX9 (show isT (kw K) 9 288 from isT.f (k := 0) t0 hw rfl rfl rfl (by decide)) rfl g_1 rfl (rX10_requireLetter 1 rfl) (rX10_requireLetter 2 rfl) (rX10_requireLetter 3 rfl) rfl (z_dec dX10_requireLetter 3 rfl) m1 (fun v J1 hp => ?_) (fun _ _ h => h.elim)
  obtain ⟨r1, rfl, e1, w1⟩ := hp
  have e1 := e1.symm
  subst e1
  have w1 := w1.symm
  subst w1
  show ZZ K u 8 [(0, .ref 0), (1, .int v1)] [.int f1] g1
  refine zz_if_ne (tgt := 22) hb (z_dec dX10_requireLetter 4 rfl) (by decide) (fun c2 => ?_) (fun c2 => ?_)
  · exact zz_vret hb hE g3 (z_dec dX10_requireLetter 10 rfl) (h4 c2)
  · exact zz_throwW hb ho hnl hR hE zEx0 4 rfl rfl rfl (g5 c2) (z_dec dX10_requireLetter 5 rfl) (z_dec dX10_requireLetter 6 rfl) (z_dec dX10_requireLetter 7 rfl) (z_dec dX10_requireLetter 8 rfl) (z_dec dX10_requireLetter 9 rfl) (h6 c2)
set_option maxRecDepth 20000 in
theorem nX10_refuse_0 {K : zK} {P : Option Value → zM → Prop} {X : String → zM → Prop} {u mc : Nat × Nat} (hK : zIs K RX10 cX10_refuse 1 none 6 mc P X) (hw : wOK (kw K)) {I : zM} {v0 : Nat} (a2 : v0 = 1000 ∨ ∀ s : State, zOld (kG K) s → gad (kG K) v0 ≠ gad (kG K) 1000) (a4 : ∀ (c1 : v0 ≠ 1000), v0 = 1001 ∨ ∀ s : State, zOld (kG K) s → gad (kG K) v0 ≠ gad (kG K) 1001) (a6 : ∀ (c1 : v0 ≠ 1000) (c3 : v0 ≠ 1001), v0 = 1002 ∨ ∀ s : State, zOld (kG K) s → gad (kG K) v0 ≠ gad (kG K) 1002) (g7 : u.1 ≤ mc.1 ∧ u.2 ≤ mc.2) (h8 : ∀ (c1 : v0 ≠ 1000) (c3 : v0 ≠ 1001) (c5 : v0 ≠ 1002), P none I) (g9 : ∀ (c1 : v0 ≠ 1000) (c3 : v0 ≠ 1001) (c5 : v0 = 1002), u.1 + 1 ≤ mc.1 ∧ u.2 + 6 ≤ mc.2) (h10 : ∀ (c1 : v0 ≠ 1000) (c3 : v0 ≠ 1001) (c5 : v0 = 1002), X "java/lang/IllegalStateException" I) (g11 : ∀ (c1 : v0 ≠ 1000) (c3 : v0 = 1001), u.1 + 1 ≤ mc.1 ∧ u.2 + 6 ≤ mc.2) (h12 : ∀ (c1 : v0 ≠ 1000) (c3 : v0 = 1001), X "java/lang/IllegalArgumentException" I) (g13 : ∀ (c1 : v0 = 1000), u.1 + 1 ≤ mc.1 ∧ u.2 + 6 ≤ mc.2) (h14 : ∀ (c1 : v0 = 1000), X "java/lang/IndexOutOfBoundsException" I) : ZZ K u 0 [(0, .ref v0)] [] I := by
  obtain ⟨hb, ho, hnl, hR, hE⟩ := hK
  refine zz_aload_n hb (z_dec dX10_refuse 0 rfl) rfl 0 rfl ?_
  refine zz_gets (r := 1000) hb ho (zoF0 (kG K)) (rX10_refuse 0 rfl) (z_dec dX10_refuse 1 rfl) ?_
  refine zz_acmp_ne (a := v0) (b := 1000) (tgt := 18) hb (z_dec dX10_refuse 2 rfl) (by decide) a2 (fun c1 => ?_) (fun c1 => ?_)
  · refine zz_aload_n hb (z_dec dX10_refuse 8 rfl) rfl 0 rfl ?_
    refine zz_gets (r := 1001) hb ho (zoF1 (kG K)) (rX10_refuse 3 rfl) (z_dec dX10_refuse 9 rfl) ?_
    refine zz_acmp_ne (a := v0) (b := 1001) (tgt := 36) hb (z_dec dX10_refuse 10 rfl) (by decide) (a4 c1) (fun c3 => ?_) (fun c3 => ?_)
    · refine zz_aload_n hb (z_dec dX10_refuse 16 rfl) rfl 0 rfl ?_
      refine zz_gets (r := 1002) hb ho (zoF2 (kG K)) (rX10_refuse 6 rfl) (z_dec dX10_refuse 17 rfl) ?_
      refine zz_acmp_ne (a := v0) (b := 1002) (tgt := 54) hb (z_dec dX10_refuse 18 rfl) (by decide) (a6 c1 c3) (fun c5 => ?_) (fun c5 => ?_)
      · exact zz_vret hb hE g7 (z_dec dX10_refuse 24 rfl) (h8 c1 c3 c5)
      · exact zz_throwW hb ho hnl hR hE zEx2 7 rfl rfl rfl (g9 c1 c3 c5) (z_dec dX10_refuse 19 rfl) (z_dec dX10_refuse 20 rfl) (z_dec dX10_refuse 21 rfl) (z_dec dX10_refuse 22 rfl) (z_dec dX10_refuse 23 rfl) (h10 c1 c3 c5)
    · exact zz_throwW hb ho hnl hR hE zEx3 6 rfl rfl rfl (g11 c1 c3) (z_dec dX10_refuse 11 rfl) (z_dec dX10_refuse 12 rfl) (z_dec dX10_refuse 13 rfl) (z_dec dX10_refuse 14 rfl) (z_dec dX10_refuse 15 rfl) (h12 c1 c3)
  · exact zz_throwW hb ho hnl hR hE zEx0 5 rfl rfl rfl (g13 c1) (z_dec dX10_refuse 3 rfl) (z_dec dX10_refuse 4 rfl) (z_dec dX10_refuse 5 rfl) (z_dec dX10_refuse 6 rfl) (z_dec dX10_refuse 7 rfl) (h14 c1)
set_option maxRecDepth 20000 in
theorem nX10_append_0 {K : zK} {P : Option Value → zM → Prop} {X : String → zM → Prop} {u mc : Nat × Nat} (hK : zIs K RX10 cX10_append 6 (some .int) 6 mc P X) (hw : wOK (kw K)) {I : zM} (t0 : isT (kw K) 10 0) {v1 : Int32} {v2 : Int32} {v3 : Int32} {v4 : Int32} {v5 : Int32} {g2 : zM} (g_2 : u.1 ≤ mc.1 ∧ u.2 ≤ mc.2) (m2 : ∀ (c1 : (I 285 1) ≤ (580 : Int32)), CT (kG K) (kw K) (kl K) (yX4_putFour, cX4_putFour, 2, none) 1 (0, 0) [.ref 285, .int v1] I (qV (fun J => J = g2)) nX) {g3 : zM} (g_3 : u.1 ≤ mc.1 ∧ u.2 ≤ mc.2) (m3 : ∀ (c1 : (I 285 1) ≤ (580 : Int32)), CT (kG K) (kw K) (kl K) (yX4_putFour, cX4_putFour, 2, none) 1 (0, 0) [.ref 285, .int v2] g2 (qV (fun J => J = g3)) nX) {g4 : zM} (g_4 : u.1 ≤ mc.1 ∧ u.2 ≤ mc.2) (m4 : ∀ (c1 : (I 285 1) ≤ (580 : Int32)), CT (kG K) (kw K) (kl K) (yX4_putFour, cX4_putFour, 2, none) 1 (0, 0) [.ref 285, .int v3] g3 (qV (fun J => J = g4)) nX) {g5 : zM} (g_5 : u.1 ≤ mc.1 ∧ u.2 ≤ mc.2) (m5 : ∀ (c1 : (I 285 1) ≤ (580 : Int32)), CT (kG K) (kw K) (kl K) (yX4_putFour, cX4_putFour, 2, none) 1 (0, 0) [.ref 285, .int v4] g4 (qV (fun J => J = g5)) nX) {g6 : zM} (g_6 : u.1 ≤ mc.1 ∧ u.2 ≤ mc.2) (m6 : ∀ (c1 : (I 285 1) ≤ (580 : Int32)), CT (kG K) (kw K) (kl K) (yX4_putFour, cX4_putFour, 2, none) 1 (0, 0) [.ref 285, .int v5] g5 (qV (fun J => J = g6)) nX) (g7 : u.1 ≤ mc.1 ∧ u.2 ≤ mc.2) (h8 : ∀ (c1 : (I 285 1) ≤ (580 : Int32)), P (some (.int (g6 285 1))) g6) (g9 : ∀ (c1 : ¬ (I 285 1) ≤ (580 : Int32)), u.1 + 1 ≤ mc.1 ∧ u.2 + 6 ≤ mc.2) (h10 : ∀ (c1 : ¬ (I 285 1) ≤ (580 : Int32)), X "java/lang/IllegalStateException" I) : ZZ K u 0 [(0, .ref 0), (1, .int v1), (2, .int v2), (3, .int v3), (4, .int v4), (5, .int v5)] [] I := by
  obtain ⟨hb, ho, hnl, hR, hE⟩ := hK
  refine zz_aload_n hb (z_dec dX10_append 0 rfl) rfl 0 rfl ?_
  refine zz_getr (k := 2) (q := 285) hb ho rfl ckX10 t0 rfl rfl (rX10_append 0 rfl) rfl (z_dec dX10_append 1 rfl) ?_
  refine zz_get (k := 1) hb ho ckX4 (show isT (kw K) 4 285 from isT.f (k := 2) t0 hw rfl rfl rfl (by decide)) rfl rfl (rX10_append 1 rfl) rfl (z_dec dX10_append 2 rfl) ?_
  refine zz_sipush (v := (580 : Int32)) hb (z_dec dX10_append 3 rfl) (by decide) ?_
  refine zz_icmp_le (tgt := 23) hb (z_dec dX10_append 4 rfl) (by decide) (fun c1 => ?_) (fun c1 => ?_)
  · refine zz_aload_n hb (z_dec dX10_append 10 rfl) rfl 0 rfl ?_
    refine zz_getr (k := 2) (q := 285) hb ho rfl ckX10 t0 rfl rfl (rX10_append 0 rfl) rfl (z_dec dX10_append 11 rfl) ?_
    refine zz_iload_n hb (z_dec dX10_append 12 rfl) rfl 1 rfl ?_
    refine zz_inv (as := [.int v1]) (d := 1) (mc := (0, 0)) (P := (qV (fun J => J = g2))) (X := nX) hb ho hnl hR hE mkX4_putFour rfl ckX4 (show isT (kw K) 4 285 from isT.f (k := 2) t0 hw rfl rfl rfl (by decide)) rfl g_2 rfl (rX10_append 4 rfl) (rX10_append 5 rfl) (rX10_append 6 rfl) rfl (z_dec dX10_append 13 rfl) (m2 c1) (fun v J2 hp => ?_) (fun _ _ h => h.elim)
    obtain ⟨rfl, w2⟩ := hp
    have w2 := w2.symm
    subst w2
    show ZZ K u 31 [(0, .ref 0), (1, .int v1), (2, .int v2), (3, .int v3), (4, .int v4), (5, .int v5)] [] g2
    refine zz_aload_n hb (z_dec dX10_append 14 rfl) rfl 0 rfl ?_
    refine zz_getr (k := 2) (q := 285) hb ho rfl ckX10 t0 rfl rfl (rX10_append 0 rfl) rfl (z_dec dX10_append 15 rfl) ?_
    refine zz_iload_n hb (z_dec dX10_append 16 rfl) rfl 2 rfl ?_
    refine zz_inv (as := [.int v2]) (d := 1) (mc := (0, 0)) (P := (qV (fun J => J = g3))) (X := nX) hb ho hnl hR hE mkX4_putFour rfl ckX4 (show isT (kw K) 4 285 from isT.f (k := 2) t0 hw rfl rfl rfl (by decide)) rfl g_3 rfl (rX10_append 4 rfl) (rX10_append 5 rfl) (rX10_append 6 rfl) rfl (z_dec dX10_append 17 rfl) (m3 c1) (fun v J3 hp => ?_) (fun _ _ h => h.elim)
    obtain ⟨rfl, w3⟩ := hp
    have w3 := w3.symm
    subst w3
    show ZZ K u 39 [(0, .ref 0), (1, .int v1), (2, .int v2), (3, .int v3), (4, .int v4), (5, .int v5)] [] g3
    refine zz_aload_n hb (z_dec dX10_append 18 rfl) rfl 0 rfl ?_
    refine zz_getr (k := 2) (q := 285) hb ho rfl ckX10 t0 rfl rfl (rX10_append 0 rfl) rfl (z_dec dX10_append 19 rfl) ?_
    refine zz_iload_n hb (z_dec dX10_append 20 rfl) rfl 3 rfl ?_
    refine zz_inv (as := [.int v3]) (d := 1) (mc := (0, 0)) (P := (qV (fun J => J = g4))) (X := nX) hb ho hnl hR hE mkX4_putFour rfl ckX4 (show isT (kw K) 4 285 from isT.f (k := 2) t0 hw rfl rfl rfl (by decide)) rfl g_4 rfl (rX10_append 4 rfl) (rX10_append 5 rfl) (rX10_append 6 rfl) rfl (z_dec dX10_append 21 rfl) (m4 c1) (fun v J4 hp => ?_) (fun _ _ h => h.elim)
    obtain ⟨rfl, w4⟩ := hp
    have w4 := w4.symm
    subst w4
    show ZZ K u 47 [(0, .ref 0), (1, .int v1), (2, .int v2), (3, .int v3), (4, .int v4), (5, .int v5)] [] g4
    refine zz_aload_n hb (z_dec dX10_append 22 rfl) rfl 0 rfl ?_
    refine zz_getr (k := 2) (q := 285) hb ho rfl ckX10 t0 rfl rfl (rX10_append 0 rfl) rfl (z_dec dX10_append 23 rfl) ?_
    refine zz_iload hb (z_dec dX10_append 24 rfl) 4 rfl ?_
    refine zz_inv (as := [.int v4]) (d := 1) (mc := (0, 0)) (P := (qV (fun J => J = g5))) (X := nX) hb ho hnl hR hE mkX4_putFour rfl ckX4 (show isT (kw K) 4 285 from isT.f (k := 2) t0 hw rfl rfl rfl (by decide)) rfl g_5 rfl (rX10_append 4 rfl) (rX10_append 5 rfl) (rX10_append 6 rfl) rfl (z_dec dX10_append 25 rfl) (m5 c1) (fun v J5 hp => ?_) (fun _ _ h => h.elim)
    obtain ⟨rfl, w5⟩ := hp
    have w5 := w5.symm
    subst w5
    show ZZ K u 56 [(0, .ref 0), (1, .int v1), (2, .int v2), (3, .int v3), (4, .int v4), (5, .int v5)] [] g5
    refine zz_aload_n hb (z_dec dX10_append 26 rfl) rfl 0 rfl ?_
    refine zz_getr (k := 2) (q := 285) hb ho rfl ckX10 t0 rfl rfl (rX10_append 0 rfl) rfl (z_dec dX10_append 27 rfl) ?_
    refine zz_iload hb (z_dec dX10_append 28 rfl) 5 rfl ?_
    refine zz_inv (as := [.int v5]) (d := 1) (mc := (0, 0)) (P := (qV (fun J => J = g6))) (X := nX) hb ho hnl hR hE mkX4_putFour rfl ckX4 (show isT (kw K) 4 285 from isT.f (k := 2) t0 hw rfl rfl rfl (by decide)) rfl g_6 rfl (rX10_append 4 rfl) (rX10_append 5 rfl) (rX10_append 6 rfl) rfl (z_dec dX10_append 29 rfl) (m6 c1) (fun v J6 hp => ?_) (fun _ _ h => h.elim)
    obtain ⟨rfl, w6⟩ := hp
    have w6 := w6.symm
    subst w6
    show ZZ K u 65 [(0, .ref 0), (1, .int v1), (2, .int v2), (3, .int v3), (4, .int v4), (5, .int v5)] [] g6
    refine zz_aload_n hb (z_dec dX10_append 30 rfl) rfl 0 rfl ?_
    refine zz_getr (k := 2) (q := 285) hb ho rfl ckX10 t0 rfl rfl (rX10_append 0 rfl) rfl (z_dec dX10_append 31 rfl) ?_
    refine zz_get (k := 1) hb ho ckX4 (show isT (kw K) 4 285 from isT.f (k := 2) t0 hw rfl rfl rfl (by decide)) rfl rfl (rX10_append 1 rfl) rfl (z_dec dX10_append 32 rfl) ?_
    exact zz_iret hb hE g7 (z_dec dX10_append 33 rfl) (h8 c1)
  · exact zz_throw hb ho hnl hR hE zEx2 1 rfl rfl rfl (g9 c1) (z_dec dX10_append 5 rfl) (z_dec dX10_append 6 rfl) (z_dec dX10_append 7 rfl) (z_dec dX10_append 8 rfl) (z_dec dX10_append 9 rfl) (h10 c1)
set_option maxRecDepth 20000 in
theorem nX10_truncate_0 {K : zK} {P : Option Value → zM → Prop} {X : String → zM → Prop} {u mc : Nat × Nat} (hK : zIs K RX10 cX10_truncate 2 (some .int) 6 mc P X) (hw : wOK (kw K)) {I : zM} (t0 : isT (kw K) 10 0) {v1 : Int32} (g2 : ∀ (c1 : v1 < 0), u.1 + 1 ≤ mc.1 ∧ u.2 + 6 ≤ mc.2) (h3 : ∀ (c1 : v1 < 0), X "java/lang/IllegalArgumentException" I) (g5 : u.1 ≤ mc.1 ∧ u.2 ≤ mc.2) (h6 : ∀ (c1 : ¬ v1 < 0) (c4 : v1 ≤ (I 285 1)), P (some (.int v1)) (up I 285 1 v1)) (g7 : ∀ (c1 : ¬ v1 < 0) (c4 : ¬ v1 ≤ (I 285 1)), u.1 + 1 ≤ mc.1 ∧ u.2 + 6 ≤ mc.2) (h8 : ∀ (c1 : ¬ v1 < 0) (c4 : ¬ v1 ≤ (I 285 1)), X "java/lang/IllegalArgumentException" I) : ZZ K u 0 [(0, .ref 0), (1, .int v1)] [] I := by
  obtain ⟨hb, ho, hnl, hR, hE⟩ := hK
  refine zz_iload_n hb (z_dec dX10_truncate 0 rfl) rfl 1 rfl ?_
  refine zz_if_lt (tgt := 15) hb (z_dec dX10_truncate 1 rfl) (by decide) (fun c1 => ?_) (fun c1 => ?_)
  · exact zz_throw hb ho hnl hR hE zEx3 2 rfl rfl rfl (g2 c1) (z_dec dX10_truncate 7 rfl) (z_dec dX10_truncate 8 rfl) (z_dec dX10_truncate 9 rfl) (z_dec dX10_truncate 10 rfl) (z_dec dX10_truncate 11 rfl) (h3 c1)
  · refine zz_iload_n hb (z_dec dX10_truncate 2 rfl) rfl 1 rfl ?_
    refine zz_aload_n hb (z_dec dX10_truncate 3 rfl) rfl 0 rfl ?_
    refine zz_getr (k := 2) (q := 285) hb ho rfl ckX10 t0 rfl rfl (rX10_truncate 0 rfl) rfl (z_dec dX10_truncate 4 rfl) ?_
    refine zz_get (k := 1) hb ho ckX4 (show isT (kw K) 4 285 from isT.f (k := 2) t0 hw rfl rfl rfl (by decide)) rfl rfl (rX10_truncate 1 rfl) rfl (z_dec dX10_truncate 5 rfl) ?_
    refine zz_icmp_le (tgt := 25) hb (z_dec dX10_truncate 6 rfl) (by decide) (fun c4 => ?_) (fun c4 => ?_)
    · refine zz_aload_n hb (z_dec dX10_truncate 12 rfl) rfl 0 rfl ?_
      refine zz_getr (k := 2) (q := 285) hb ho rfl ckX10 t0 rfl rfl (rX10_truncate 0 rfl) rfl (z_dec dX10_truncate 13 rfl) ?_
      refine zz_iload_n hb (z_dec dX10_truncate 14 rfl) rfl 1 rfl ?_
      refine zz_put (k := 1) hb ho ckX4 (show isT (kw K) 4 285 from isT.f (k := 2) t0 hw rfl rfl rfl (by decide)) rfl rfl (rX10_truncate 1 rfl) rfl rfl rfl (z_dec dX10_truncate 15 rfl) ?_
      refine zz_iload_n hb (z_dec dX10_truncate 16 rfl) rfl 1 rfl ?_
      exact zz_iret hb hE g5 (z_dec dX10_truncate 17 rfl) (h6 c1 c4)
    · exact zz_throw hb ho hnl hR hE zEx3 2 rfl rfl rfl (g7 c1 c4) (z_dec dX10_truncate 7 rfl) (z_dec dX10_truncate 8 rfl) (z_dec dX10_truncate 9 rfl) (z_dec dX10_truncate 10 rfl) (z_dec dX10_truncate 11 rfl) (h8 c1 c4)
