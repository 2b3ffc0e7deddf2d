set_option maxRecDepth 20000 in
theorem bX10_append_0 {K : zK} {P : Option Value → zM → Prop} {X : String → zM → Prop} {u mc : Nat × Nat} (hK : zIs K RX10 cX10_append 6 (some .int) 6 mc P X) (hw : wOK (kw K)) {I : zM} (t0 : isT (kw K) 10 0) {v1 : Int32} {v2 : Int32} {v3 : Int32} {v4 : Int32} {v5 : Int32} {g2 : zM} (g_2 : u.1 ≤ mc.1 ∧ u.2 ≤ mc.2) (m2 : ∀ (c1 : (I 285 1) ≤ (580 : Int32)), CT (kG K) (kw K) (kl K) (yX4_putFour, cX4_putFour, 2, none) 1 (0, 0) [.ref 285, .int v1] I (qV (fun J => J = g2)) nX) {g3 : zM} (g_3 : u.1 ≤ mc.1 ∧ u.2 ≤ mc.2) (m3 : ∀ (c1 : (I 285 1) ≤ (580 : Int32)), CT (kG K) (kw K) (kl K) (yX4_putFour, cX4_putFour, 2, none) 1 (0, 0) [.ref 285, .int v2] g2 (qV (fun J => J = g3)) nX) {g4 : zM} (g_4 : u.1 ≤ mc.1 ∧ u.2 ≤ mc.2) (m4 : ∀ (c1 : (I 285 1) ≤ (580 : Int32)), CT (kG K) (kw K) (kl K) (yX4_putFour, cX4_putFour, 2, none) 1 (0, 0) [.ref 285, .int v3] g3 (qV (fun J => J = g4)) nX) {g5 : zM} (g_5 : u.1 ≤ mc.1 ∧ u.2 ≤ mc.2) (m5 : ∀ (c1 : (I 285 1) ≤ (580 : Int32)), CT (kG K) (kw K) (kl K) (yX4_putFour, cX4_putFour, 2, none) 1 (0, 0) [.ref 285, .int v4] g4 (qV (fun J => J = g5)) nX) {g6 : zM} (g_6 : u.1 ≤ mc.1 ∧ u.2 ≤ mc.2) (m6 : ∀ (c1 : (I 285 1) ≤ (580 : Int32)), CT (kG K) (kw K) (kl K) (yX4_putFour, cX4_putFour, 2, none) 1 (0, 0) [.ref 285, .int v5] g5 (qV (fun J => J = g6)) nX) (g7 : u.1 ≤ mc.1 ∧ u.2 ≤ mc.2) (h8 : ∀ (c1 : (I 285 1) ≤ (580 : Int32)), P (some (.int (g6 285 1))) g6) (g9 : u.1 + 1 ≤ mc.1 ∧ u.2 + 6 ≤ mc.2) (h10 : ∀ (c1 : ¬ (I 285 1) ≤ (580 : Int32)), X "java/lang/IllegalStateException" I) : ZZ K u 0 [(0, .ref 0), (1, .int v1), (2, .int v2), (3, .int v3), (4, .int v4), (5, .int v5)] [] I := by
  obtain ⟨hb, ho, hnl, hR, hE⟩ := hK
  refine zz_aload_n hb (z_dec dX10_append 0 rfl) rfl 0 rfl ?_
  refine zz_getr (k := 2) (q := 285) hb ho rfl ckX10 t0 rfl rfl (rX10_append 0 rfl) rfl (z_dec dX10_append 1 rfl) ?_
  refine zz_get (k := 1) hb ho ckX4 (show isT (kw K) 4 285 from isT.f (k := 2) t0 hw rfl rfl rfl (by decide)) rfl rfl (rX10_append 1 rfl) rfl (z_dec dX10_append 2 rfl) ?_
  refine zz_sipush (v := (580 : Int32)) hb (z_dec dX10_append 3 rfl) (by decide) ?_
  refine zz_icmp_le (tgt := 23) hb (z_dec dX10_append 4 rfl) (by decide) (fun c1 => ?_) (fun c1 => ?_)
  · refine zz_aload_n hb (z_dec dX10_append 10 rfl) rfl 0 rfl ?_
    refine zz_getr (k := 2) (q := 285) hb ho rfl ckX10 t0 rfl rfl (rX10_append 0 rfl) rfl (z_dec dX10_append 11 rfl) ?_
    refine zz_iload_n hb (z_dec dX10_append 12 rfl) rfl 1 rfl ?_
    refine zz_inv (as := [.int v1]) (d := 1) (mc := (0, 0)) (P := (qV (fun J => J = g2))) (X := nX) hb ho hnl hR hE mkX4_putFour rfl ckX4 (show isT (kw K) 4 285 from isT.f (k := 2) t0 hw rfl rfl rfl (by decide)) rfl g_2 rfl (rX10_append 4 rfl) (rX10_append 5 rfl) (rX10_append 6 rfl) rfl (z_dec dX10_append 13 rfl) (m2 c1) (fun v J2 hp => ?_) (fun _ _ h => h.elim)
    obtain ⟨rfl, w2⟩ := hp
    have w2 := w2.symm
    subst w2
    show ZZ K u 31 [(0, .ref 0), (1, .int v1), (2, .int v2), (3, .int v3), (4, .int v4), (5, .int v5)] [] g2
    refine zz_aload_n hb (z_dec dX10_append 14 rfl) rfl 0 rfl ?_
    refine zz_getr (k := 2) (q := 285) hb ho rfl ckX10 t0 rfl rfl (rX10_append 0 rfl) rfl (z_dec dX10_append 15 rfl) ?_
    refine zz_iload_n hb (z_dec dX10_append 16 rfl) rfl 2 rfl ?_
    refine zz_inv (as := [.int v2]) (d := 1) (mc := (0, 0)) (P := (qV (fun J => J = g3))) (X := nX) hb ho hnl hR hE mkX4_putFour rfl ckX4 (show isT (kw K) 4 285 from isT.f (k := 2) t0 hw rfl rfl rfl (by decide)) rfl g_3 rfl (rX10_append 4 rfl) (rX10_append 5 rfl) (rX10_append 6 rfl) rfl (z_dec dX10_append 17 rfl) (m3 c1) (fun v J3 hp => ?_) (fun _ _ h => h.elim)
    obtain ⟨rfl, w3⟩ := hp
    have w3 := w3.symm
    subst w3
    show ZZ K u 39 [(0, .ref 0), (1, .int v1), (2, .int v2), (3, .int v3), (4, .int v4), (5, .int v5)] [] g3
    refine zz_aload_n hb (z_dec dX10_append 18 rfl) rfl 0 rfl ?_
    refine zz_getr (k := 2) (q := 285) hb ho rfl ckX10 t0 rfl rfl (rX10_append 0 rfl) rfl (z_dec dX10_append 19 rfl) ?_
    refine zz_iload_n hb (z_dec dX10_append 20 rfl) rfl 3 rfl ?_
    refine zz_inv (as := [.int v3]) (d := 1) (mc := (0, 0)) (P := (qV (fun J => J = g4))) (X := nX) hb ho hnl hR hE mkX4_putFour rfl ckX4 (show isT (kw K) 4 285 from isT.f (k := 2) t0 hw rfl rfl rfl (by decide)) rfl g_4 rfl (rX10_append 4 rfl) (rX10_append 5 rfl) (rX10_append 6 rfl) rfl (z_dec dX10_append 21 rfl) (m4 c1) (fun v J4 hp => ?_) (fun _ _ h => h.elim)
    obtain ⟨rfl, w4⟩ := hp
    have w4 := w4.symm
    subst w4
    show ZZ K u 47 [(0, .ref 0), (1, .int v1), (2, .int v2), (3, .int v3), (4, .int v4), (5, .int v5)] [] g4
    refine zz_aload_n hb (z_dec dX10_append 22 rfl) rfl 0 rfl ?_
    refine zz_getr (k := 2) (q := 285) hb ho rfl ckX10 t0 rfl rfl (rX10_append 0 rfl) rfl (z_dec dX10_append 23 rfl) ?_
    refine zz_iload hb (z_dec dX10_append 24 rfl) 4 rfl ?_
    refine zz_inv (as := [.int v4]) (d := 1) (mc := (0, 0)) (P := (qV (fun J => J = g5))) (X := nX) hb ho hnl hR hE mkX4_putFour rfl ckX4 (show isT (kw K) 4 285 from isT.f (k := 2) t0 hw rfl rfl rfl (by decide)) rfl g_5 rfl (rX10_append 4 rfl) (rX10_append 5 rfl) (rX10_append 6 rfl) rfl (z_dec dX10_append 25 rfl) (m5 c1) (fun v J5 hp => ?_) (fun _ _ h => h.elim)
    obtain ⟨rfl, w5⟩ := hp
    have w5 := w5.symm
    subst w5
    show ZZ K u 56 [(0, .ref 0), (1, .int v1), (2, .int v2), (3, .int v3), (4, .int v4), (5, .int v5)] [] g5
    refine zz_aload_n hb (z_dec dX10_append 26 rfl) rfl 0 rfl ?_
    refine zz_getr (k := 2) (q := 285) hb ho rfl ckX10 t0 rfl rfl (rX10_append 0 rfl) rfl (z_dec dX10_append 27 rfl) ?_
    refine zz_iload hb (z_dec dX10_append 28 rfl) 5 rfl ?_
    refine zz_inv (as := [.int v5]) (d := 1) (mc := (0, 0)) (P := (qV (fun J => J = g6))) (X := nX) hb ho hnl hR hE mkX4_putFour rfl ckX4 (show isT (kw K) 4 285 from isT.f (k := 2) t0 hw rfl rfl rfl (by decide)) rfl g_6 rfl (rX10_append 4 rfl) (rX10_append 5 rfl) (rX10_append 6 rfl) rfl (z_dec dX10_append 29 rfl) (m6 c1) (fun v J6 hp => ?_) (fun _ _ h => h.elim)
    obtain ⟨rfl, w6⟩ := hp
    have w6 := w6.symm
    subst w6
    show ZZ K u 65 [(0, .ref 0), (1, .int v1), (2, .int v2), (3, .int v3), (4, .int v4), (5, .int v5)] [] g6
    refine zz_aload_n hb (z_dec dX10_append 30 rfl) rfl 0 rfl ?_
    refine zz_getr (k := 2) (q := 285) hb ho rfl ckX10 t0 rfl rfl (rX10_append 0 rfl) rfl (z_dec dX10_append 31 rfl) ?_
    refine zz_get (k := 1) hb ho ckX4 (show isT (kw K) 4 285 from isT.f (k := 2) t0 hw rfl rfl rfl (by decide)) rfl rfl (rX10_append 1 rfl) rfl (z_dec dX10_append 32 rfl) ?_
    exact zz_iret hb hE g7 (z_dec dX10_append 33 rfl) (h8 c1)
  · exact zz_throw hb ho hnl hR hE zEx2 1 rfl rfl rfl g9 (z_dec dX10_append 5 rfl) (z_dec dX10_append 6 rfl) (z_dec dX10_append 7 rfl) (z_dec dX10_append 8 rfl) (z_dec dX10_append 9 rfl) (h10 c1)
set_option maxRecDepth 20000 in
theorem bX10_truncate_0 {K : zK} {P : Option Value → zM → Prop} {X : String → zM → Prop} {u mc : Nat × Nat} (hK : zIs K RX10 cX10_truncate 2 (some .int) 6 mc P X) (hw : wOK (kw K)) {I : zM} (t0 : isT (kw K) 10 0) {v1 : Int32} (g2 : u.1 + 1 ≤ mc.1 ∧ u.2 + 6 ≤ mc.2) (h3 : ∀ (c1 : v1 < 0), X "java/lang/IllegalArgumentException" I) (g5 : u.1 ≤ mc.1 ∧ u.2 ≤ mc.2) (h6 : ∀ (c1 : ¬ v1 < 0) (c4 : v1 ≤ (I 285 1)), P (some (.int v1)) (up I 285 1 v1)) (g7 : u.1 + 1 ≤ mc.1 ∧ u.2 + 6 ≤ mc.2) (h8 : ∀ (c1 : ¬ v1 < 0) (c4 : ¬ v1 ≤ (I 285 1)), X "java/lang/IllegalArgumentException" I) : ZZ K u 0 [(0, .ref 0), (1, .int v1)] [] I := by
  obtain ⟨hb, ho, hnl, hR, hE⟩ := hK
  refine zz_iload_n hb (z_dec dX10_truncate 0 rfl) rfl 1 rfl ?_
  refine zz_if_lt (tgt := 15) hb (z_dec dX10_truncate 1 rfl) (by decide) (fun c1 => ?_) (fun c1 => ?_)
  · exact zz_throw hb ho hnl hR hE zEx3 2 rfl rfl rfl g2 (z_dec dX10_truncate 7 rfl) (z_dec dX10_truncate 8 rfl) (z_dec dX10_truncate 9 rfl) (z_dec dX10_truncate 10 rfl) (z_dec dX10_truncate 11 rfl) (h3 c1)
  · refine zz_iload_n hb (z_dec dX10_truncate 2 rfl) rfl 1 rfl ?_
    refine zz_aload_n hb (z_dec dX10_truncate 3 rfl) rfl 0 rfl ?_
    refine zz_getr (k := 2) (q := 285) hb ho rfl ckX10 t0 rfl rfl (rX10_truncate 0 rfl) rfl (z_dec dX10_truncate 4 rfl) ?_
    refine zz_get (k := 1) hb ho ckX4 (show isT (kw K) 4 285 from isT.f (k := 2) t0 hw rfl rfl rfl (by decide)) rfl rfl (rX10_truncate 1 rfl) rfl (z_dec dX10_truncate 5 rfl) ?_
    refine zz_icmp_le (tgt := 25) hb (z_dec dX10_truncate 6 rfl) (by decide) (fun c4 => ?_) (fun c4 => ?_)
    · refine zz_aload_n hb (z_dec dX10_truncate 12 rfl) rfl 0 rfl ?_
      refine zz_getr (k := 2) (q := 285) hb ho rfl ckX10 t0 rfl rfl (rX10_truncate 0 rfl) rfl (z_dec dX10_truncate 13 rfl) ?_
      refine zz_iload_n hb (z_dec dX10_truncate 14 rfl) rfl 1 rfl ?_
      refine zz_put (k := 1) hb ho ckX4 (show isT (kw K) 4 285 from isT.f (k := 2) t0 hw rfl rfl rfl (by decide)) rfl rfl (rX10_truncate 1 rfl) rfl rfl rfl (z_dec dX10_truncate 15 rfl) ?_
      refine zz_iload_n hb (z_dec dX10_truncate 16 rfl) rfl 1 rfl ?_
      exact zz_iret hb hE g5 (z_dec dX10_truncate 17 rfl) (h6 c1 c4)
    · exact zz_throw hb ho hnl hR hE zEx3 2 rfl rfl rfl g7 (z_dec dX10_truncate 7 rfl) (z_dec dX10_truncate 8 rfl) (z_dec dX10_truncate 9 rfl) (z_dec dX10_truncate 10 rfl) (z_dec dX10_truncate 11 rfl) (h8 c1 c4)
set_option maxRecDepth 20000 in
theorem bX10_load_0 {K : zK} {P : Option Value → zM → Prop} {X : String → zM → Prop} {u mc : Nat × Nat} (hK : zIs K RX10 cX10_load 3 (some .int) 8 mc P X) (hw : wOK (kw K)) {I : zM} (t0 : isT (kw K) 10 0) {f1 : Int32} {g1 : zM} {mc1 : Nat × Nat} {x1 : String → zM → Prop} (g_1 : u.1 + mc1.1 ≤ mc.1 ∧ u.2 + mc1.2 ≤ mc.2) (n1 : ∀ (E : String) (J : zM), x1 E J → X E J) (m1 : CT (kG K) (kw K) (kl K) (yX10_readSetup, cX10_readSetup, 2, (some .boolean)) 7 mc1 [.ref 285, .ref 1] I (qE f1 g1) x1) {g3 : zM} (g_3 : (u.1 + mc1.1, u.2 + mc1.2).1 ≤ mc.1 ∧ (u.1 + mc1.1, u.2 + mc1.2).2 ≤ mc.2) (m3 : ∀ (c2 : ¬ f1 = 0), CT (kG K) (kw K) (kl K) (yX9_copyFrom, cX9_copyFrom, 3, none) 3 (0, 0) [.ref 288, .ref 1] (up g1 285 1 (0 : Int32)) (qV (fun J => J = g3)) nX) (k4 : ∀ (c2 : ¬ f1 = 0), ZZ K (u.1 + mc1.1, u.2 + mc1.2) 55 [(0, .ref 0), (1, .int f1), (2, .int (0 : Int32))] [] (up g3 89 1 (0 : Int32))) (g5 : (u.1 + mc1.1, u.2 + mc1.2).1 + 1 ≤ mc.1 ∧ (u.1 + mc1.1, u.2 + mc1.2).2 + 6 ≤ mc.2) (h6 : ∀ (c2 : f1 = 0), X "java/lang/IllegalArgumentException" (up g1 285 1 (0 : Int32))) : ZZ K u 0 [(0, .ref 0)] [] I := by
  obtain ⟨hb, ho, hnl, hR, hE⟩ := hK
  refine zz_aload_n hb (z_dec dX10_load 0 rfl) rfl 0 rfl ?_
  refine zz_getr (k := 2) (q := 285) hb ho rfl ckX10 t0 rfl rfl (rX10_load 0 rfl) rfl (z_dec dX10_load 1 rfl) ?_
  refine zz_aload_n hb (z_dec dX10_load 2 rfl) rfl 0 rfl ?_
  refine zz_getr (k := 1) (q := 1) hb ho rfl ckX10 t0 rfl rfl (rX10_load 1 rfl) rfl (z_dec dX10_load 3 rfl) ?_
  refine zz_invS (as := [.ref 285, .ref 1]) (d := 7) (mc := mc1) (P := (qE f1 g1)) (X := x1) hb ho hnl hR hE mkX10_readSetup rfl rfl g_1 rfl (rX10_load 2 rfl) (rX10_load 3 rfl) rfl (z_dec dX10_load 4 rfl) m1 (fun v J1 hp => ?_) n1
  obtain ⟨r1, rfl, e1, w1⟩ := hp
  have e1 := e1.symm
  subst e1
  have w1 := w1.symm
  subst w1
  show ZZ K (u.1 + mc1.1, u.2 + mc1.2) 11 [(0, .ref 0)] [.int f1] g1
  refine zz_istore_n (L' := [(0, .ref 0), (1, .int f1)]) hb (z_dec dX10_load 5 rfl) rfl hnl rfl [1, 0] rfl ?_
  refine zz_aload_n hb (z_dec dX10_load 6 rfl) rfl 0 rfl ?_
  refine zz_getr (k := 2) (q := 285) hb ho rfl ckX10 t0 rfl rfl (rX10_load 0 rfl) rfl (z_dec dX10_load 7 rfl) ?_
  refine zz_iconst (v := (0 : Int32)) hb (z_dec dX10_load 8 rfl) (by decide) ?_
  refine zz_put (k := 1) hb ho ckX4 (show isT (kw K) 4 285 from isT.f (k := 2) t0 hw rfl rfl rfl (by decide)) rfl rfl (rX10_load 4 rfl) rfl rfl rfl (z_dec dX10_load 9 rfl) ?_
  refine zz_iload_n hb (z_dec dX10_load 10 rfl) rfl 1 rfl ?_
  refine zz_if_ne (tgt := 34) hb (z_dec dX10_load 11 rfl) (by decide) (fun c2 => ?_) (fun c2 => ?_)
  · refine zz_aload_n hb (z_dec dX10_load 17 rfl) rfl 0 rfl ?_
    refine zz_getr (k := 0) (q := 288) hb ho rfl ckX10 t0 rfl rfl (rX10_load 7 rfl) rfl (z_dec dX10_load 18 rfl) ?_
    refine zz_aload_n hb (z_dec dX10_load 19 rfl) rfl 0 rfl ?_
    refine zz_getr (k := 1) (q := 1) hb ho rfl ckX10 t0 rfl rfl (rX10_load 1 rfl) rfl (z_dec dX10_load 20 rfl) ?_
    refine zz_inv (as := [.ref 1]) (d := 3) (mc := (0, 0)) (P := (qV (fun J => J = g3))) (X := nX) hb ho hnl hR hE mkX9_copyFrom rfl ckX9 (show isT (kw K) 9 288 from isT.f (k := 0) t0 hw rfl rfl rfl (by decide)) rfl g_3 rfl (rX10_load 8 rfl) (rX10_load 9 rfl) (rX10_load 10 rfl) rfl (z_dec dX10_load 21 rfl) (m3 c2) (fun v J3 hp => ?_) (fun _ _ h => h.elim)
    obtain ⟨rfl, w3⟩ := hp
    have w3 := w3.symm
    subst w3
    show ZZ K (u.1 + mc1.1, u.2 + mc1.2) 45 [(0, .ref 0), (1, .int f1)] [] g3
    refine zz_aload_n hb (z_dec dX10_load 22 rfl) rfl 0 rfl ?_
    refine zz_getr (k := 5) (q := 89) hb ho rfl ckX10 t0 rfl rfl (rX10_load 11 rfl) rfl (z_dec dX10_load 23 rfl) ?_
    refine zz_iconst (v := (0 : Int32)) hb (z_dec dX10_load 24 rfl) (by decide) ?_
    refine zz_put (k := 1) hb ho ckX3 (show isT (kw K) 3 89 from isT.f (k := 5) t0 hw rfl rfl rfl (by decide)) rfl rfl (rX10_load 12 rfl) rfl rfl rfl (z_dec dX10_load 25 rfl) ?_
    refine zz_iconst (v := (0 : Int32)) hb (z_dec dX10_load 26 rfl) (by decide) ?_
    refine zz_istore_n (L' := [(0, .ref 0), (1, .int f1), (2, .int (0 : Int32))]) hb (z_dec dX10_load 27 rfl) rfl hnl rfl [1, 2, 0] rfl ?_
    exact (k4 c2)
  · exact zz_throw hb ho hnl hR hE zEx3 3 rfl rfl rfl g5 (z_dec dX10_load 12 rfl) (z_dec dX10_load 13 rfl) (z_dec dX10_load 14 rfl) (z_dec dX10_load 15 rfl) (z_dec dX10_load 16 rfl) (h6 c2)
set_option maxRecDepth 20000 in
theorem bX10_load_55 {K : zK} {P : Option Value → zM → Prop} {X : String → zM → Prop} {u mc : Nat × Nat} (hK : zIs K RX10 cX10_load 3 (some .int) 8 mc P X) (hw : wOK (kw K)) {I : zM} (t0 : isT (kw K) 10 0) {v1 : Int32} {v2 : Int32} (g2 : u.1 ≤ mc.1 ∧ u.2 ≤ mc.2) (h3 : ∀ (c1 : (2 : Int32) ≤ v2), P (some (.int (I 288 3))) I) (h4 : ∀ (c1 : ¬ (2 : Int32) ≤ v2), vp_in v2 2) (k5 : ∀ (c1 : ¬ (2 : Int32) ≤ v2), ZZ K u 55 [(0, .ref 0), (1, .int v1), (2, .int (v2 + 1))] [] (up I 236 (v2.toNatClampNeg) (vp_nar .boolean (0 : Int32)))) : ZZ K u 55 [(0, .ref 0), (1, .int v1), (2, .int v2)] [] I := by
  obtain ⟨hb, ho, hnl, hR, hE⟩ := hK
  refine zz_iload_n hb (z_dec dX10_load 28 rfl) rfl 2 rfl ?_
  refine zz_iconst (v := (2 : Int32)) hb (z_dec dX10_load 29 rfl) (by decide) ?_
  refine zz_icmp_ge (tgt := 73) hb (z_dec dX10_load 30 rfl) (by decide) (fun c1 => ?_) (fun c1 => ?_)
  · refine zz_aload_n hb (z_dec dX10_load 38 rfl) rfl 0 rfl ?_
    refine zz_getr (k := 0) (q := 288) hb ho rfl ckX10 t0 rfl rfl (rX10_load 7 rfl) rfl (z_dec dX10_load 39 rfl) ?_
    refine zz_get (k := 3) hb ho ckX9 (show isT (kw K) 9 288 from isT.f (k := 0) t0 hw rfl rfl rfl (by decide)) rfl rfl (rX10_load 14 rfl) rfl (z_dec dX10_load 40 rfl) ?_
    exact zz_iret hb hE g2 (z_dec dX10_load 41 rfl) (h3 c1)
  · refine zz_aload_n hb (z_dec dX10_load 31 rfl) rfl 0 rfl ?_
    refine zz_getr (k := 7) (q := 236) hb ho rfl ckX10 t0 rfl rfl (rX10_load 13 rfl) rfl (z_dec dX10_load 32 rfl) ?_
    refine zz_iload_n hb (z_dec dX10_load 33 rfl) rfl 2 rfl ?_
    refine zz_iconst (v := (0 : Int32)) hb (z_dec dX10_load 34 rfl) (by decide) ?_
    refine zz_zast (j := v2.toNatClampNeg) hb (show isT (kw K) 22 236 from isT.f (k := 7) t0 hw rfl rfl rfl (by decide)) rfl (zvi rfl (h4 c1)) (z_dec dX10_load 35 rfl) ?_
    refine zz_iinc (v := (v2 + 1)) (L' := [(0, .ref 0), (1, .int v1), (2, .int (v2 + 1))]) hb (z_dec dX10_load 36 rfl) 2 rfl rfl hnl rfl [1, 2, 0] rfl ?_
    refine zz_goto (tgt := 55) hb (z_dec dX10_load 37 rfl) (by decide) ?_
    exact (k5 c1)
set_option maxRecDepth 20000 in
theorem bX10_clerkCount_0 {K : zK} {P : Option Value → zM → Prop} {X : String → zM → Prop} (hK : zIs K RX10 cX10_clerkCount 1 (some .int) 0 (0, 0) P X) (hw : wOK (kw K)) {I : zM} (t0 : isT (kw K) 10 0) (h1 : P (some (.int (I 290 0))) I) : ZZ K (0, 0) 0 [(0, .ref 0)] [] I := by
  obtain ⟨hb, ho, hnl, hR, hE⟩ := hK
  refine zz_aload_n hb (z_dec dX10_clerkCount 0 rfl) rfl 0 rfl ?_
  refine zz_getr (k := 0) (q := 288) hb ho rfl ckX10 t0 rfl rfl (rX10_clerkCount 0 rfl) rfl (z_dec dX10_clerkCount 1 rfl) ?_
  refine zz_getr (k := 1) (q := 290) hb ho rfl ckX9 (show isT (kw K) 9 288 from isT.f (k := 0) t0 hw rfl rfl rfl (by decide)) rfl rfl (rX10_clerkCount 1 rfl) rfl (z_dec dX10_clerkCount 2 rfl) ?_
  refine zz_get (k := 0) hb ho ckX0 (show isT (kw K) 1 290 from isT.f (k := 1) (show isT (kw K) 9 288 from isT.f (k := 0) t0 hw rfl rfl rfl (by decide)) hw rfl rfl rfl (by decide)) rfl rfl (rX10_clerkCount 2 rfl) rfl (z_dec dX10_clerkCount 3 rfl) ?_
  exact zz_iret hb hE ⟨Nat.le_refl 0, Nat.le_refl 0⟩ (z_dec dX10_clerkCount 4 rfl) h1
set_option maxRecDepth 20000 in
theorem bX10_letterCount_0 {K : zK} {P : Option Value → zM → Prop} {X : String → zM → Prop} (hK : zIs K RX10 cX10_letterCount 1 (some .int) 0 (0, 0) P X) (hw : wOK (kw K)) {I : zM} (t0 : isT (kw K) 10 0) (h1 : P (some (.int (I 288 3))) I) : ZZ K (0, 0) 0 [(0, .ref 0)] [] I := by
  obtain ⟨hb, ho, hnl, hR, hE⟩ := hK
  refine zz_aload_n hb (z_dec dX10_letterCount 0 rfl) rfl 0 rfl ?_
  refine zz_getr (k := 0) (q := 288) hb ho rfl ckX10 t0 rfl rfl (rX10_letterCount 0 rfl) rfl (z_dec dX10_letterCount 1 rfl) ?_
  refine zz_get (k := 3) hb ho ckX9 (show isT (kw K) 9 288 from isT.f (k := 0) t0 hw rfl rfl rfl (by decide)) rfl rfl (rX10_letterCount 1 rfl) rfl (z_dec dX10_letterCount 2 rfl) ?_
  exact zz_iret hb hE ⟨Nat.le_refl 0, Nat.le_refl 0⟩ (z_dec dX10_letterCount 3 rfl) h1
set_option maxRecDepth 20000 in
theorem bX10_minute_0 {K : zK} {P : Option Value → zM → Prop} {X : String → zM → Prop} (hK : zIs K RX10 cX10_minute 1 (some .int) 0 (0, 0) P X) (hw : wOK (kw K)) {I : zM} (t0 : isT (kw K) 10 0) (h1 : P (some (.int (I 288 4))) I) : ZZ K (0, 0) 0 [(0, .ref 0)] [] I := by
  obtain ⟨hb, ho, hnl, hR, hE⟩ := hK
  refine zz_aload_n hb (z_dec dX10_minute 0 rfl) rfl 0 rfl ?_
  refine zz_getr (k := 0) (q := 288) hb ho rfl ckX10 t0 rfl rfl (rX10_minute 0 rfl) rfl (z_dec dX10_minute 1 rfl) ?_
  refine zz_get (k := 4) hb ho ckX9 (show isT (kw K) 9 288 from isT.f (k := 0) t0 hw rfl rfl rfl (by decide)) rfl rfl (rX10_minute 1 rfl) rfl (z_dec dX10_minute 2 rfl) ?_
  exact zz_iret hb hE ⟨Nat.le_refl 0, Nat.le_refl 0⟩ (z_dec dX10_minute 3 rfl) h1
set_option maxRecDepth 20000 in
theorem bX10_policy_0 {K : zK} {P : Option Value → zM → Prop} {X : String → zM → Prop} (hK : zIs K RX10 cX10_policy 1 (some .int) 0 (0, 0) P X) (hw : wOK (kw K)) {I : zM} (t0 : isT (kw K) 10 0) (h1 : P (some (.int (I 288 5))) I) : ZZ K (0, 0) 0 [(0, .ref 0)] [] I := by
  obtain ⟨hb, ho, hnl, hR, hE⟩ := hK
  refine zz_aload_n hb (z_dec dX10_policy 0 rfl) rfl 0 rfl ?_
  refine zz_getr (k := 0) (q := 288) hb ho rfl ckX10 t0 rfl rfl (rX10_policy 0 rfl) rfl (z_dec dX10_policy 1 rfl) ?_
  refine zz_get (k := 5) hb ho ckX9 (show isT (kw K) 9 288 from isT.f (k := 0) t0 hw rfl rfl rfl (by decide)) rfl rfl (rX10_policy 1 rfl) rfl (z_dec dX10_policy 2 rfl) ?_
  exact zz_iret hb hE ⟨Nat.le_refl 0, Nat.le_refl 0⟩ (z_dec dX10_policy 3 rfl) h1
set_option maxRecDepth 20000 in
theorem bX10_holder_0 {K : zK} {P : Option Value → zM → Prop} {X : String → zM → Prop} (hK : zIs K RX10 cX10_holder 1 (some .int) 0 (0, 0) P X) (hw : wOK (kw K)) {I : zM} (t0 : isT (kw K) 10 0) (h1 : P (some (.int (I 288 6))) I) : ZZ K (0, 0) 0 [(0, .ref 0)] [] I := by
  obtain ⟨hb, ho, hnl, hR, hE⟩ := hK
  refine zz_aload_n hb (z_dec dX10_holder 0 rfl) rfl 0 rfl ?_
  refine zz_getr (k := 0) (q := 288) hb ho rfl ckX10 t0 rfl rfl (rX10_holder 0 rfl) rfl (z_dec dX10_holder 1 rfl) ?_
  refine zz_get (k := 6) hb ho ckX9 (show isT (kw K) 9 288 from isT.f (k := 0) t0 hw rfl rfl rfl (by decide)) rfl rfl (rX10_holder 1 rfl) rfl (z_dec dX10_holder 2 rfl) ?_
  exact zz_iret hb hE ⟨Nat.le_refl 0, Nat.le_refl 0⟩ (z_dec dX10_holder 3 rfl) h1
set_option maxRecDepth 20000 in
theorem bX10_currentLetter_0 {K : zK} {P : Option Value → zM → Prop} {X : String → zM → Prop} (hK : zIs K RX10 cX10_currentLetter 1 (some .int) 0 (0, 0) P X) (hw : wOK (kw K)) {I : zM} (t0 : isT (kw K) 10 0) (h1 : P (some (.int (I 288 7))) I) : ZZ K (0, 0) 0 [(0, .ref 0)] [] I := by
  obtain ⟨hb, ho, hnl, hR, hE⟩ := hK
  refine zz_aload_n hb (z_dec dX10_currentLetter 0 rfl) rfl 0 rfl ?_
  refine zz_getr (k := 0) (q := 288) hb ho rfl ckX10 t0 rfl rfl (rX10_currentLetter 0 rfl) rfl (z_dec dX10_currentLetter 1 rfl) ?_
  refine zz_get (k := 7) hb ho ckX9 (show isT (kw K) 9 288 from isT.f (k := 0) t0 hw rfl rfl rfl (by decide)) rfl rfl (rX10_currentLetter 1 rfl) rfl (z_dec dX10_currentLetter 2 rfl) ?_
  exact zz_iret hb hE ⟨Nat.le_refl 0, Nat.le_refl 0⟩ (z_dec dX10_currentLetter 3 rfl) h1
set_option maxRecDepth 20000 in
theorem bX10_lastLetter_0 {K : zK} {P : Option Value → zM → Prop} {X : String → zM → Prop} (hK : zIs K RX10 cX10_lastLetter 1 (some .int) 0 (0, 0) P X) (hw : wOK (kw K)) {I : zM} (t0 : isT (kw K) 10 0) (h1 : P (some (.int (I 288 8))) I) : ZZ K (0, 0) 0 [(0, .ref 0)] [] I := by
  obtain ⟨hb, ho, hnl, hR, hE⟩ := hK
  refine zz_aload_n hb (z_dec dX10_lastLetter 0 rfl) rfl 0 rfl ?_
  refine zz_getr (k := 0) (q := 288) hb ho rfl ckX10 t0 rfl rfl (rX10_lastLetter 0 rfl) rfl (z_dec dX10_lastLetter 1 rfl) ?_
  refine zz_get (k := 8) hb ho ckX9 (show isT (kw K) 9 288 from isT.f (k := 0) t0 hw rfl rfl rfl (by decide)) rfl rfl (rX10_lastLetter 1 rfl) rfl (z_dec dX10_lastLetter 2 rfl) ?_
  exact zz_iret hb hE ⟨Nat.le_refl 0, Nat.le_refl 0⟩ (z_dec dX10_lastLetter 3 rfl) h1
set_option maxRecDepth 20000 in
theorem bX10_runLength_0 {K : zK} {P : Option Value → zM → Prop} {X : String → zM → Prop} (hK : zIs K RX10 cX10_runLength 1 (some .int) 0 (0, 0) P X) (hw : wOK (kw K)) {I : zM} (t0 : isT (kw K) 10 0) (h1 : P (some (.int (I 288 9))) I) : ZZ K (0, 0) 0 [(0, .ref 0)] [] I := by
  obtain ⟨hb, ho, hnl, hR, hE⟩ := hK
  refine zz_aload_n hb (z_dec dX10_runLength 0 rfl) rfl 0 rfl ?_
  refine zz_getr (k := 0) (q := 288) hb ho rfl ckX10 t0 rfl rfl (rX10_runLength 0 rfl) rfl (z_dec dX10_runLength 1 rfl) ?_
  refine zz_get (k := 9) hb ho ckX9 (show isT (kw K) 9 288 from isT.f (k := 0) t0 hw rfl rfl rfl (by decide)) rfl rfl (rX10_runLength 1 rfl) rfl (z_dec dX10_runLength 2 rfl) ?_
  exact zz_iret hb hE ⟨Nat.le_refl 0, Nat.le_refl 0⟩ (z_dec dX10_runLength 3 rfl) h1
set_option maxRecDepth 20000 in
theorem bX10_ink_0 {K : zK} {P : Option Value → zM → Prop} {X : String → zM → Prop} (hK : zIs K RX10 cX10_ink 1 (some .int) 0 (0, 0) P X) (hw : wOK (kw K)) {I : zM} (t0 : isT (kw K) 10 0) (h1 : P (some (.int (I 288 10))) I) : ZZ K (0, 0) 0 [(0, .ref 0)] [] I := by
  obtain ⟨hb, ho, hnl, hR, hE⟩ := hK
  refine zz_aload_n hb (z_dec dX10_ink 0 rfl) rfl 0 rfl ?_
  refine zz_getr (k := 0) (q := 288) hb ho rfl ckX10 t0 rfl rfl (rX10_ink 0 rfl) rfl (z_dec dX10_ink 1 rfl) ?_
  refine zz_get (k := 10) hb ho ckX9 (show isT (kw K) 9 288 from isT.f (k := 0) t0 hw rfl rfl rfl (by decide)) rfl rfl (rX10_ink 1 rfl) rfl (z_dec dX10_ink 2 rfl) ?_
  exact zz_iret hb hE ⟨Nat.le_refl 0, Nat.le_refl 0⟩ (z_dec dX10_ink 3 rfl) h1
set_option maxRecDepth 20000 in
theorem bX10_refillLeft_0 {K : zK} {P : Option Value → zM → Prop} {X : String → zM → Prop} (hK : zIs K RX10 cX10_refillLeft 1 (some .int) 0 (0, 0) P X) (hw : wOK (kw K)) {I : zM} (t0 : isT (kw K) 10 0) (h1 : P (some (.int (I 288 11))) I) : ZZ K (0, 0) 0 [(0, .ref 0)] [] I := by
  obtain ⟨hb, ho, hnl, hR, hE⟩ := hK
  refine zz_aload_n hb (z_dec dX10_refillLeft 0 rfl) rfl 0 rfl ?_
  refine zz_getr (k := 0) (q := 288) hb ho rfl ckX10 t0 rfl rfl (rX10_refillLeft 0 rfl) rfl (z_dec dX10_refillLeft 1 rfl) ?_
  refine zz_get (k := 11) hb ho ckX9 (show isT (kw K) 9 288 from isT.f (k := 0) t0 hw rfl rfl rfl (by decide)) rfl rfl (rX10_refillLeft 1 rfl) rfl (z_dec dX10_refillLeft 2 rfl) ?_
  exact zz_iret hb hE ⟨Nat.le_refl 0, Nat.le_refl 0⟩ (z_dec dX10_refillLeft 3 rfl) h1
set_option maxRecDepth 20000 in
theorem bX10_handOverLeft_0 {K : zK} {P : Option Value → zM → Prop} {X : String → zM → Prop} (hK : zIs K RX10 cX10_handOverLeft 1 (some .int) 0 (0, 0) P X) (hw : wOK (kw K)) {I : zM} (t0 : isT (kw K) 10 0) (h1 : P (some (.int (I 288 12))) I) : ZZ K (0, 0) 0 [(0, .ref 0)] [] I := by
  obtain ⟨hb, ho, hnl, hR, hE⟩ := hK
  refine zz_aload_n hb (z_dec dX10_handOverLeft 0 rfl) rfl 0 rfl ?_
  refine zz_getr (k := 0) (q := 288) hb ho rfl ckX10 t0 rfl rfl (rX10_handOverLeft 0 rfl) rfl (z_dec dX10_handOverLeft 1 rfl) ?_
  refine zz_get (k := 12) hb ho ckX9 (show isT (kw K) 9 288 from isT.f (k := 0) t0 hw rfl rfl rfl (by decide)) rfl rfl (rX10_handOverLeft 1 rfl) rfl (z_dec dX10_handOverLeft 2 rfl) ?_
  exact zz_iret hb hE ⟨Nat.le_refl 0, Nat.le_refl 0⟩ (z_dec dX10_handOverLeft 3 rfl) h1
set_option maxRecDepth 20000 in
theorem bX10_clerkOf_0 {K : zK} {P : Option Value → zM → Prop} {X : String → zM → Prop} {u mc : Nat × Nat} (hK : zIs K RX10 cX10_clerkOf 2 (some .int) 7 mc P X) (hw : wOK (kw K)) {I : zM} (t0 : isT (kw K) 10 0) {v1 : Int32} {g1 : zM} {mc1 : Nat × Nat} {x1 : String → zM → Prop} {p1 : Prop} (g_1 : u.1 + mc1.1 ≤ mc.1 ∧ u.2 + mc1.2 ≤ mc.2) (n1 : ∀ (E : String) (J : zM), x1 E J → X E J) (m1 : CT (kG K) (kw K) (kl K) (yX10_requireLetter, cX10_requireLetter, 2, none) 6 mc1 [.ref 0, .int v1] I (qV (fun J => J = g1 ∧ p1)) x1) (h2 : ∀ (cp1 : p1), vp_in v1 12) (g3 : (u.1 + mc1.1, u.2 + mc1.2).1 ≤ mc.1 ∧ (u.1 + mc1.1, u.2 + mc1.2).2 ≤ mc.2) (h4 : ∀ (cp1 : p1), P (some (.int (g1 (LR 299 v1.toNatClampNeg) 0))) g1) : ZZ K u 0 [(0, .ref 0), (1, .int v1)] [] I := by
  obtain ⟨hb, ho, hnl, hR, hE⟩ := hK
  refine zz_aload_n hb (z_dec dX10_clerkOf 0 rfl) rfl 0 rfl ?_
  refine zz_iload_n hb (z_dec dX10_clerkOf 1 rfl) rfl 1 rfl ?_
  refine zz_inv (as := [.int v1]) (d := 6) (mc := mc1) (P := (qV (fun J => J = g1 ∧ p1))) (X := x1) hb ho hnl hR hE mkX10_requireLetter rfl ckX10 t0 rfl g_1 rfl (rX10_clerkOf 0 rfl) (rX10_clerkOf 1 rfl) (rX10_clerkOf 2 rfl) rfl (z_dec dX10_clerkOf 2 rfl) m1 (fun v J1 hp => ?_) n1
  obtain ⟨rfl, w1, cp1⟩ := hp
  have w1 := w1.symm
  subst w1
  show ZZ K (u.1 + mc1.1, u.2 + mc1.2) 5 [(0, .ref 0), (1, .int v1)] [] g1
  refine zz_aload_n hb (z_dec dX10_clerkOf 3 rfl) rfl 0 rfl ?_
  refine zz_getr (k := 0) (q := 288) hb ho rfl ckX10 t0 rfl rfl (rX10_clerkOf 3 rfl) rfl (z_dec dX10_clerkOf 4 rfl) ?_
  refine zz_getr (k := 2) (q := 299) hb ho rfl ckX9 (show isT (kw K) 9 288 from isT.f (k := 0) t0 hw rfl rfl rfl (by decide)) rfl rfl (rX10_clerkOf 4 rfl) rfl (z_dec dX10_clerkOf 5 rfl) ?_
  refine zz_iload_n hb (z_dec dX10_clerkOf 6 rfl) rfl 1 rfl ?_
  refine zz_aald (j := v1.toNatClampNeg) (q := (LR 299 v1.toNatClampNeg)) hb (show isT (kw K) 31 299 from isT.f (k := 2) (show isT (kw K) 9 288 from isT.f (k := 0) t0 hw rfl rfl rfl (by decide)) hw rfl rfl rfl (by decide)) (by decide) rfl rfl (zvi rfl (h2 cp1)) (z_dec dX10_clerkOf 7 rfl) ?_
  refine zz_get (k := 0) hb ho ckX5 (show isT (kw K) 5 (LR 299 v1.toNatClampNeg) from isT.a (i := v1) (show isT (kw K) 31 299 from isT.f (k := 2) (show isT (kw K) 9 288 from isT.f (k := 0) t0 hw rfl rfl rfl (by decide)) hw rfl rfl rfl (by decide)) hw (zvi rfl (h2 cp1)) rfl (fun _ => rfl) (by decide)) rfl rfl (rX10_clerkOf 5 rfl) rfl (z_dec dX10_clerkOf 8 rfl) ?_
  exact zz_iret hb hE g3 (z_dec dX10_clerkOf 9 rfl) (h4 cp1)
set_option maxRecDepth 20000 in
theorem bX10_length_0 {K : zK} {P : Option Value → zM → Prop} {X : String → zM → Prop} {u mc : Nat × Nat} (hK : zIs K RX10 cX10_length 2 (some .int) 7 mc P X) (hw : wOK (kw K)) {I : zM} (t0 : isT (kw K) 10 0) {v1 : Int32} {g1 : zM} {mc1 : Nat × Nat} {x1 : String → zM → Prop} {p1 : Prop} (g_1 : u.1 + mc1.1 ≤ mc.1 ∧ u.2 + mc1.2 ≤ mc.2) (n1 : ∀ (E : String) (J : zM), x1 E J → X E J) (m1 : CT (kG K) (kw K) (kl K) (yX10_requireLetter, cX10_requireLetter, 2, none) 6 mc1 [.ref 0, .int v1] I (qV (fun J => J = g1 ∧ p1)) x1) (h2 : ∀ (cp1 : p1), vp_in v1 12) (g3 : (u.1 + mc1.1, u.2 + mc1.2).1 ≤ mc.1 ∧ (u.1 + mc1.1, u.2 + mc1.2).2 ≤ mc.2) (h4 : ∀ (cp1 : p1), P (some (.int (g1 (LR 299 v1.toNatClampNeg) 1))) g1) : ZZ K u 0 [(0, .ref 0), (1, .int v1)] [] I := by
  obtain ⟨hb, ho, hnl, hR, hE⟩ := hK
  refine zz_aload_n hb (z_dec dX10_length 0 rfl) rfl 0 rfl ?_
  refine zz_iload_n hb (z_dec dX10_length 1 rfl) rfl 1 rfl ?_
  refine zz_inv (as := [.int v1]) (d := 6) (mc := mc1) (P := (qV (fun J => J = g1 ∧ p1))) (X := x1) hb ho hnl hR hE mkX10_requireLetter rfl ckX10 t0 rfl g_1 rfl (rX10_length 0 rfl) (rX10_length 1 rfl) (rX10_length 2 rfl) rfl (z_dec dX10_length 2 rfl) m1 (fun v J1 hp => ?_) n1
  obtain ⟨rfl, w1, cp1⟩ := hp
  have w1 := w1.symm
  subst w1
  show ZZ K (u.1 + mc1.1, u.2 + mc1.2) 5 [(0, .ref 0), (1, .int v1)] [] g1
  refine zz_aload_n hb (z_dec dX10_length 3 rfl) rfl 0 rfl ?_
  refine zz_getr (k := 0) (q := 288) hb ho rfl ckX10 t0 rfl rfl (rX10_length 3 rfl) rfl (z_dec dX10_length 4 rfl) ?_
  refine zz_getr (k := 2) (q := 299) hb ho rfl ckX9 (show isT (kw K) 9 288 from isT.f (k := 0) t0 hw rfl rfl rfl (by decide)) rfl rfl (rX10_length 4 rfl) rfl (z_dec dX10_length 5 rfl) ?_
  refine zz_iload_n hb (z_dec dX10_length 6 rfl) rfl 1 rfl ?_
  refine zz_aald (j := v1.toNatClampNeg) (q := (LR 299 v1.toNatClampNeg)) hb (show isT (kw K) 31 299 from isT.f (k := 2) (show isT (kw K) 9 288 from isT.f (k := 0) t0 hw rfl rfl rfl (by decide)) hw rfl rfl rfl (by decide)) (by decide) rfl rfl (zvi rfl (h2 cp1)) (z_dec dX10_length 7 rfl) ?_
  refine zz_get (k := 1) hb ho ckX5 (show isT (kw K) 5 (LR 299 v1.toNatClampNeg) from isT.a (i := v1) (show isT (kw K) 31 299 from isT.f (k := 2) (show isT (kw K) 9 288 from isT.f (k := 0) t0 hw rfl rfl rfl (by decide)) hw rfl rfl rfl (by decide)) hw (zvi rfl (h2 cp1)) rfl (fun _ => rfl) (by decide)) rfl rfl (rX10_length 5 rfl) rfl (z_dec dX10_length 8 rfl) ?_
  exact zz_iret hb hE g3 (z_dec dX10_length 9 rfl) (h4 cp1)
set_option maxRecDepth 20000 in
theorem bX10_arrival_0 {K : zK} {P : Option Value → zM → Prop} {X : String → zM → Prop} {u mc : Nat × Nat} (hK : zIs K RX10 cX10_arrival 2 (some .int) 7 mc P X) (hw : wOK (kw K)) {I : zM} (t0 : isT (kw K) 10 0) {v1 : Int32} {g1 : zM} {mc1 : Nat × Nat} {x1 : String → zM → Prop} {p1 : Prop} (g_1 : u.1 + mc1.1 ≤ mc.1 ∧ u.2 + mc1.2 ≤ mc.2) (n1 : ∀ (E : String) (J : zM), x1 E J → X E J) (m1 : CT (kG K) (kw K) (kl K) (yX10_requireLetter, cX10_requireLetter, 2, none) 6 mc1 [.ref 0, .int v1] I (qV (fun J => J = g1 ∧ p1)) x1) (h2 : ∀ (cp1 : p1), vp_in v1 12) (g3 : (u.1 + mc1.1, u.2 + mc1.2).1 ≤ mc.1 ∧ (u.1 + mc1.1, u.2 + mc1.2).2 ≤ mc.2) (h4 : ∀ (cp1 : p1), P (some (.int (g1 (LR 299 v1.toNatClampNeg) 2))) g1) : ZZ K u 0 [(0, .ref 0), (1, .int v1)] [] I := by
  obtain ⟨hb, ho, hnl, hR, hE⟩ := hK
  refine zz_aload_n hb (z_dec dX10_arrival 0 rfl) rfl 0 rfl ?_
  refine zz_iload_n hb (z_dec dX10_arrival 1 rfl) rfl 1 rfl ?_
  refine zz_inv (as := [.int v1]) (d := 6) (mc := mc1) (P := (qV (fun J => J = g1 ∧ p1))) (X := x1) hb ho hnl hR hE mkX10_requireLetter rfl ckX10 t0 rfl g_1 rfl (rX10_arrival 0 rfl) (rX10_arrival 1 rfl) (rX10_arrival 2 rfl) rfl (z_dec dX10_arrival 2 rfl) m1 (fun v J1 hp => ?_) n1
  obtain ⟨rfl, w1, cp1⟩ := hp
  have w1 := w1.symm
  subst w1
  show ZZ K (u.1 + mc1.1, u.2 + mc1.2) 5 [(0, .ref 0), (1, .int v1)] [] g1
  refine zz_aload_n hb (z_dec dX10_arrival 3 rfl) rfl 0 rfl ?_
  refine zz_getr (k := 0) (q := 288) hb ho rfl ckX10 t0 rfl rfl (rX10_arrival 3 rfl) rfl (z_dec dX10_arrival 4 rfl) ?_
  refine zz_getr (k := 2) (q := 299) hb ho rfl ckX9 (show isT (kw K) 9 288 from isT.f (k := 0) t0 hw rfl rfl rfl (by decide)) rfl rfl (rX10_arrival 4 rfl) rfl (z_dec dX10_arrival 5 rfl) ?_
  refine zz_iload_n hb (z_dec dX10_arrival 6 rfl) rfl 1 rfl ?_
  refine zz_aald (j := v1.toNatClampNeg) (q := (LR 299 v1.toNatClampNeg)) hb (show isT (kw K) 31 299 from isT.f (k := 2) (show isT (kw K) 9 288 from isT.f (k := 0) t0 hw rfl rfl rfl (by decide)) hw rfl rfl rfl (by decide)) (by decide) rfl rfl (zvi rfl (h2 cp1)) (z_dec dX10_arrival 7 rfl) ?_
  refine zz_get (k := 2) hb ho ckX5 (show isT (kw K) 5 (LR 299 v1.toNatClampNeg) from isT.a (i := v1) (show isT (kw K) 31 299 from isT.f (k := 2) (show isT (kw K) 9 288 from isT.f (k := 0) t0 hw rfl rfl rfl (by decide)) hw rfl rfl rfl (by decide)) hw (zvi rfl (h2 cp1)) rfl (fun _ => rfl) (by decide)) rfl rfl (rX10_arrival 5 rfl) rfl (z_dec dX10_arrival 8 rfl) ?_
  exact zz_iret hb hE g3 (z_dec dX10_arrival 9 rfl) (h4 cp1)
set_option maxRecDepth 20000 in
theorem bX10_deadline_0 {K : zK} {P : Option Value → zM → Prop} {X : String → zM → Prop} {u mc : Nat × Nat} (hK : zIs K RX10 cX10_deadline 2 (some .int) 7 mc P X) (hw : wOK (kw K)) {I : zM} (t0 : isT (kw K) 10 0) {v1 : Int32} {g1 : zM} {mc1 : Nat × Nat} {x1 : String → zM → Prop} {p1 : Prop} (g_1 : u.1 + mc1.1 ≤ mc.1 ∧ u.2 + mc1.2 ≤ mc.2) (n1 : ∀ (E : String) (J : zM), x1 E J → X E J) (m1 : CT (kG K) (kw K) (kl K) (yX10_requireLetter, cX10_requireLetter, 2, none) 6 mc1 [.ref 0, .int v1] I (qV (fun J => J = g1 ∧ p1)) x1) (h2 : ∀ (cp1 : p1), vp_in v1 12) (g3 : (u.1 + mc1.1, u.2 + mc1.2).1 ≤ mc.1 ∧ (u.1 + mc1.1, u.2 + mc1.2).2 ≤ mc.2) (h4 : ∀ (cp1 : p1), P (some (.int (g1 (LR 299 v1.toNatClampNeg) 3))) g1) : ZZ K u 0 [(0, .ref 0), (1, .int v1)] [] I := by
  obtain ⟨hb, ho, hnl, hR, hE⟩ := hK
  refine zz_aload_n hb (z_dec dX10_deadline 0 rfl) rfl 0 rfl ?_
  refine zz_iload_n hb (z_dec dX10_deadline 1 rfl) rfl 1 rfl ?_
  refine zz_inv (as := [.int v1]) (d := 6) (mc := mc1) (P := (qV (fun J => J = g1 ∧ p1))) (X := x1) hb ho hnl hR hE mkX10_requireLetter rfl ckX10 t0 rfl g_1 rfl (rX10_deadline 0 rfl) (rX10_deadline 1 rfl) (rX10_deadline 2 rfl) rfl (z_dec dX10_deadline 2 rfl) m1 (fun v J1 hp => ?_) n1
  obtain ⟨rfl, w1, cp1⟩ := hp
  have w1 := w1.symm
  subst w1
  show ZZ K (u.1 + mc1.1, u.2 + mc1.2) 5 [(0, .ref 0), (1, .int v1)] [] g1
  refine zz_aload_n hb (z_dec dX10_deadline 3 rfl) rfl 0 rfl ?_
  refine zz_getr (k := 0) (q := 288) hb ho rfl ckX10 t0 rfl rfl (rX10_deadline 3 rfl) rfl (z_dec dX10_deadline 4 rfl) ?_
  refine zz_getr (k := 2) (q := 299) hb ho rfl ckX9 (show isT (kw K) 9 288 from isT.f (k := 0) t0 hw rfl rfl rfl (by decide)) rfl rfl (rX10_deadline 4 rfl) rfl (z_dec dX10_deadline 5 rfl) ?_
  refine zz_iload_n hb (z_dec dX10_deadline 6 rfl) rfl 1 rfl ?_
  refine zz_aald (j := v1.toNatClampNeg) (q := (LR 299 v1.toNatClampNeg)) hb (show isT (kw K) 31 299 from isT.f (k := 2) (show isT (kw K) 9 288 from isT.f (k := 0) t0 hw rfl rfl rfl (by decide)) hw rfl rfl rfl (by decide)) (by decide) rfl rfl (zvi rfl (h2 cp1)) (z_dec dX10_deadline 7 rfl) ?_
  refine zz_get (k := 3) hb ho ckX5 (show isT (kw K) 5 (LR 299 v1.toNatClampNeg) from isT.a (i := v1) (show isT (kw K) 31 299 from isT.f (k := 2) (show isT (kw K) 9 288 from isT.f (k := 0) t0 hw rfl rfl rfl (by decide)) hw rfl rfl rfl (by decide)) hw (zvi rfl (h2 cp1)) rfl (fun _ => rfl) (by decide)) rfl rfl (rX10_deadline 5 rfl) rfl (z_dec dX10_deadline 8 rfl) ?_
  exact zz_iret hb hE g3 (z_dec dX10_deadline 9 rfl) (h4 cp1)
set_option maxRecDepth 20000 in
theorem bX10_priority_0 {K : zK} {P : Option Value → zM → Prop} {X : String → zM → Prop} {u mc : Nat × Nat} (hK : zIs K RX10 cX10_priority 2 (some .int) 7 mc P X) (hw : wOK (kw K)) {I : zM} (t0 : isT (kw K) 10 0) {v1 : Int32} {g1 : zM} {mc1 : Nat × Nat} {x1 : String → zM → Prop} {p1 : Prop} (g_1 : u.1 + mc1.1 ≤ mc.1 ∧ u.2 + mc1.2 ≤ mc.2) (n1 : ∀ (E : String) (J : zM), x1 E J → X E J) (m1 : CT (kG K) (kw K) (kl K) (yX10_requireLetter, cX10_requireLetter, 2, none) 6 mc1 [.ref 0, .int v1] I (qV (fun J => J = g1 ∧ p1)) x1) (h2 : ∀ (cp1 : p1), vp_in v1 12) (g3 : (u.1 + mc1.1, u.2 + mc1.2).1 ≤ mc.1 ∧ (u.1 + mc1.1, u.2 + mc1.2).2 ≤ mc.2) (h4 : ∀ (cp1 : p1), P (some (.int (g1 (LR 299 v1.toNatClampNeg) 4))) g1) : ZZ K u 0 [(0, .ref 0), (1, .int v1)] [] I := by
  obtain ⟨hb, ho, hnl, hR, hE⟩ := hK
  refine zz_aload_n hb (z_dec dX10_priority 0 rfl) rfl 0 rfl ?_
  refine zz_iload_n hb (z_dec dX10_priority 1 rfl) rfl 1 rfl ?_
  refine zz_inv (as := [.int v1]) (d := 6) (mc := mc1) (P := (qV (fun J => J = g1 ∧ p1))) (X := x1) hb ho hnl hR hE mkX10_requireLetter rfl ckX10 t0 rfl g_1 rfl (rX10_priority 0 rfl) (rX10_priority 1 rfl) (rX10_priority 2 rfl) rfl (z_dec dX10_priority 2 rfl) m1 (fun v J1 hp => ?_) n1
  obtain ⟨rfl, w1, cp1⟩ := hp
  have w1 := w1.symm
  subst w1
  show ZZ K (u.1 + mc1.1, u.2 + mc1.2) 5 [(0, .ref 0), (1, .int v1)] [] g1
  refine zz_aload_n hb (z_dec dX10_priority 3 rfl) rfl 0 rfl ?_
  refine zz_getr (k := 0) (q := 288) hb ho rfl ckX10 t0 rfl rfl (rX10_priority 3 rfl) rfl (z_dec dX10_priority 4 rfl) ?_
  refine zz_getr (k := 2) (q := 299) hb ho rfl ckX9 (show isT (kw K) 9 288 from isT.f (k := 0) t0 hw rfl rfl rfl (by decide)) rfl rfl (rX10_priority 4 rfl) rfl (z_dec dX10_priority 5 rfl) ?_
  refine zz_iload_n hb (z_dec dX10_priority 6 rfl) rfl 1 rfl ?_
  refine zz_aald (j := v1.toNatClampNeg) (q := (LR 299 v1.toNatClampNeg)) hb (show isT (kw K) 31 299 from isT.f (k := 2) (show isT (kw K) 9 288 from isT.f (k := 0) t0 hw rfl rfl rfl (by decide)) hw rfl rfl rfl (by decide)) (by decide) rfl rfl (zvi rfl (h2 cp1)) (z_dec dX10_priority 7 rfl) ?_
  refine zz_get (k := 4) hb ho ckX5 (show isT (kw K) 5 (LR 299 v1.toNatClampNeg) from isT.a (i := v1) (show isT (kw K) 31 299 from isT.f (k := 2) (show isT (kw K) 9 288 from isT.f (k := 0) t0 hw rfl rfl rfl (by decide)) hw rfl rfl rfl (by decide)) hw (zvi rfl (h2 cp1)) rfl (fun _ => rfl) (by decide)) rfl rfl (rX10_priority 5 rfl) rfl (z_dec dX10_priority 8 rfl) ?_
  exact zz_iret hb hE g3 (z_dec dX10_priority 9 rfl) (h4 cp1)
set_option maxRecDepth 20000 in
theorem bX10_remaining_0 {K : zK} {P : Option Value → zM → Prop} {X : String → zM → Prop} {u mc : Nat × Nat} (hK : zIs K RX10 cX10_remaining 2 (some .int) 7 mc P X) (hw : wOK (kw K)) {I : zM} (t0 : isT (kw K) 10 0) {v1 : Int32} {g1 : zM} {mc1 : Nat × Nat} {x1 : String → zM → Prop} {p1 : Prop} (g_1 : u.1 + mc1.1 ≤ mc.1 ∧ u.2 + mc1.2 ≤ mc.2) (n1 : ∀ (E : String) (J : zM), x1 E J → X E J) (m1 : CT (kG K) (kw K) (kl K) (yX10_requireLetter, cX10_requireLetter, 2, none) 6 mc1 [.ref 0, .int v1] I (qV (fun J => J = g1 ∧ p1)) x1) (h2 : ∀ (cp1 : p1), vp_in v1 12) (g3 : (u.1 + mc1.1, u.2 + mc1.2).1 ≤ mc.1 ∧ (u.1 + mc1.1, u.2 + mc1.2).2 ≤ mc.2) (h4 : ∀ (cp1 : p1), P (some (.int (g1 (LR 299 v1.toNatClampNeg) 5))) g1) : ZZ K u 0 [(0, .ref 0), (1, .int v1)] [] I := by
  obtain ⟨hb, ho, hnl, hR, hE⟩ := hK
  refine zz_aload_n hb (z_dec dX10_remaining 0 rfl) rfl 0 rfl ?_
  refine zz_iload_n hb (z_dec dX10_remaining 1 rfl) rfl 1 rfl ?_
  refine zz_inv (as := [.int v1]) (d := 6) (mc := mc1) (P := (qV (fun J => J = g1 ∧ p1))) (X := x1) hb ho hnl hR hE mkX10_requireLetter rfl ckX10 t0 rfl g_1 rfl (rX10_remaining 0 rfl) (rX10_remaining 1 rfl) (rX10_remaining 2 rfl) rfl (z_dec dX10_remaining 2 rfl) m1 (fun v J1 hp => ?_) n1
  obtain ⟨rfl, w1, cp1⟩ := hp
  have w1 := w1.symm
  subst w1
  show ZZ K (u.1 + mc1.1, u.2 + mc1.2) 5 [(0, .ref 0), (1, .int v1)] [] g1
  refine zz_aload_n hb (z_dec dX10_remaining 3 rfl) rfl 0 rfl ?_
  refine zz_getr (k := 0) (q := 288) hb ho rfl ckX10 t0 rfl rfl (rX10_remaining 3 rfl) rfl (z_dec dX10_remaining 4 rfl) ?_
  refine zz_getr (k := 2) (q := 299) hb ho rfl ckX9 (show isT (kw K) 9 288 from isT.f (k := 0) t0 hw rfl rfl rfl (by decide)) rfl rfl (rX10_remaining 4 rfl) rfl (z_dec dX10_remaining 5 rfl) ?_
  refine zz_iload_n hb (z_dec dX10_remaining 6 rfl) rfl 1 rfl ?_
  refine zz_aald (j := v1.toNatClampNeg) (q := (LR 299 v1.toNatClampNeg)) hb (show isT (kw K) 31 299 from isT.f (k := 2) (show isT (kw K) 9 288 from isT.f (k := 0) t0 hw rfl rfl rfl (by decide)) hw rfl rfl rfl (by decide)) (by decide) rfl rfl (zvi rfl (h2 cp1)) (z_dec dX10_remaining 7 rfl) ?_
  refine zz_get (k := 5) hb ho ckX5 (show isT (kw K) 5 (LR 299 v1.toNatClampNeg) from isT.a (i := v1) (show isT (kw K) 31 299 from isT.f (k := 2) (show isT (kw K) 9 288 from isT.f (k := 0) t0 hw rfl rfl rfl (by decide)) hw rfl rfl rfl (by decide)) hw (zvi rfl (h2 cp1)) rfl (fun _ => rfl) (by decide)) rfl rfl (rX10_remaining 5 rfl) rfl (z_dec dX10_remaining 8 rfl) ?_
  exact zz_iret hb hE g3 (z_dec dX10_remaining 9 rfl) (h4 cp1)
set_option maxRecDepth 20000 in
theorem bX10_finishMinute_0 {K : zK} {P : Option Value → zM → Prop} {X : String → zM → Prop} {u mc : Nat × Nat} (hK : zIs K RX10 cX10_finishMinute 2 (some .int) 7 mc P X) (hw : wOK (kw K)) {I : zM} (t0 : isT (kw K) 10 0) {v1 : Int32} {g1 : zM} {mc1 : Nat × Nat} {x1 : String → zM → Prop} {p1 : Prop} (g_1 : u.1 + mc1.1 ≤ mc.1 ∧ u.2 + mc1.2 ≤ mc.2) (n1 : ∀ (E : String) (J : zM), x1 E J → X E J) (m1 : CT (kG K) (kw K) (kl K) (yX10_requireLetter, cX10_requireLetter, 2, none) 6 mc1 [.ref 0, .int v1] I (qV (fun J => J = g1 ∧ p1)) x1) (h2 : ∀ (cp1 : p1), vp_in v1 12) (g3 : (u.1 + mc1.1, u.2 + mc1.2).1 ≤ mc.1 ∧ (u.1 + mc1.1, u.2 + mc1.2).2 ≤ mc.2) (h4 : ∀ (cp1 : p1), P (some (.int (g1 (LR 299 v1.toNatClampNeg) 6))) g1) : ZZ K u 0 [(0, .ref 0), (1, .int v1)] [] I := by
  obtain ⟨hb, ho, hnl, hR, hE⟩ := hK
  refine zz_aload_n hb (z_dec dX10_finishMinute 0 rfl) rfl 0 rfl ?_
  refine zz_iload_n hb (z_dec dX10_finishMinute 1 rfl) rfl 1 rfl ?_
  refine zz_inv (as := [.int v1]) (d := 6) (mc := mc1) (P := (qV (fun J => J = g1 ∧ p1))) (X := x1) hb ho hnl hR hE mkX10_requireLetter rfl ckX10 t0 rfl g_1 rfl (rX10_finishMinute 0 rfl) (rX10_finishMinute 1 rfl) (rX10_finishMinute 2 rfl) rfl (z_dec dX10_finishMinute 2 rfl) m1 (fun v J1 hp => ?_) n1
  obtain ⟨rfl, w1, cp1⟩ := hp
  have w1 := w1.symm
  subst w1
  show ZZ K (u.1 + mc1.1, u.2 + mc1.2) 5 [(0, .ref 0), (1, .int v1)] [] g1
  refine zz_aload_n hb (z_dec dX10_finishMinute 3 rfl) rfl 0 rfl ?_
  refine zz_getr (k := 0) (q := 288) hb ho rfl ckX10 t0 rfl rfl (rX10_finishMinute 3 rfl) rfl (z_dec dX10_finishMinute 4 rfl) ?_
  refine zz_getr (k := 2) (q := 299) hb ho rfl ckX9 (show isT (kw K) 9 288 from isT.f (k := 0) t0 hw rfl rfl rfl (by decide)) rfl rfl (rX10_finishMinute 4 rfl) rfl (z_dec dX10_finishMinute 5 rfl) ?_
  refine zz_iload_n hb (z_dec dX10_finishMinute 6 rfl) rfl 1 rfl ?_
  refine zz_aald (j := v1.toNatClampNeg) (q := (LR 299 v1.toNatClampNeg)) hb (show isT (kw K) 31 299 from isT.f (k := 2) (show isT (kw K) 9 288 from isT.f (k := 0) t0 hw rfl rfl rfl (by decide)) hw rfl rfl rfl (by decide)) (by decide) rfl rfl (zvi rfl (h2 cp1)) (z_dec dX10_finishMinute 7 rfl) ?_
  refine zz_get (k := 6) hb ho ckX5 (show isT (kw K) 5 (LR 299 v1.toNatClampNeg) from isT.a (i := v1) (show isT (kw K) 31 299 from isT.f (k := 2) (show isT (kw K) 9 288 from isT.f (k := 0) t0 hw rfl rfl rfl (by decide)) hw rfl rfl rfl (by decide)) hw (zvi rfl (h2 cp1)) rfl (fun _ => rfl) (by decide)) rfl rfl (rX10_finishMinute 5 rfl) rfl (z_dec dX10_finishMinute 8 rfl) ?_
  exact zz_iret hb hE g3 (z_dec dX10_finishMinute 9 rfl) (h4 cp1)
set_option maxRecDepth 20000 in
theorem bX10_waitingTime_0 {K : zK} {P : Option Value → zM → Prop} {X : String → zM → Prop} {u mc : Nat × Nat} (hK : zIs K RX10 cX10_waitingTime 2 (some .int) 7 mc P X) (hw : wOK (kw K)) {I : zM} (t0 : isT (kw K) 10 0) {v1 : Int32} {g1 : zM} {mc1 : Nat × Nat} {x1 : String → zM → Prop} {p1 : Prop} (g_1 : u.1 + mc1.1 ≤ mc.1 ∧ u.2 + mc1.2 ≤ mc.2) (n1 : ∀ (E : String) (J : zM), x1 E J → X E J) (m1 : CT (kG K) (kw K) (kl K) (yX10_requireLetter, cX10_requireLetter, 2, none) 6 mc1 [.ref 0, .int v1] I (qV (fun J => J = g1 ∧ p1)) x1) (h2 : ∀ (cp1 : p1), vp_in v1 12) {f3 : Int32} {g3 : zM} (g_3 : (u.1 + mc1.1, u.2 + mc1.2).1 ≤ mc.1 ∧ (u.1 + mc1.1, u.2 + mc1.2).2 ≤ mc.2) (m3 : ∀ (cp1 : p1), CT (kG K) (kw K) (kl K) (yX5_waitedAt, cX5_waitedAt, 3, (some .int)) 0 (0, 0) [.ref (LR 299 v1.toNatClampNeg), .int (g1 288 4)] g1 (qE f3 g3) nX) (g4 : (u.1 + mc1.1, u.2 + mc1.2).1 ≤ mc.1 ∧ (u.1 + mc1.1, u.2 + mc1.2).2 ≤ mc.2) (h5 : ∀ (cp1 : p1), P (some (.int f3)) g3) : ZZ K u 0 [(0, .ref 0), (1, .int v1)] [] I := by
  obtain ⟨hb, ho, hnl, hR, hE⟩ := hK
  refine zz_aload_n hb (z_dec dX10_waitingTime 0 rfl) rfl 0 rfl ?_
  refine zz_iload_n hb (z_dec dX10_waitingTime 1 rfl) rfl 1 rfl ?_
  refine zz_inv (as := [.int v1]) (d := 6) (mc := mc1) (P := (qV (fun J => J = g1 ∧ p1))) (X := x1) hb ho hnl hR hE mkX10_requireLetter rfl ckX10 t0 rfl g_1 rfl (rX10_waitingTime 0 rfl) (rX10_waitingTime 1 rfl) (rX10_waitingTime 2 rfl) rfl (z_dec dX10_waitingTime 2 rfl) m1 (fun v J1 hp => ?_) n1
  obtain ⟨rfl, w1, cp1⟩ := hp
  have w1 := w1.symm
  subst w1
  show ZZ K (u.1 + mc1.1, u.2 + mc1.2) 5 [(0, .ref 0), (1, .int v1)] [] g1
  refine zz_aload_n hb (z_dec dX10_waitingTime 3 rfl) rfl 0 rfl ?_
  refine zz_getr (k := 0) (q := 288) hb ho rfl ckX10 t0 rfl rfl (rX10_waitingTime 3 rfl) rfl (z_dec dX10_waitingTime 4 rfl) ?_
  refine zz_getr (k := 2) (q := 299) hb ho rfl ckX9 (show isT (kw K) 9 288 from isT.f (k := 0) t0 hw rfl rfl rfl (by decide)) rfl rfl (rX10_waitingTime 4 rfl) rfl (z_dec dX10_waitingTime 5 rfl) ?_
  refine zz_iload_n hb (z_dec dX10_waitingTime 6 rfl) rfl 1 rfl ?_
  refine zz_aald (j := v1.toNatClampNeg) (q := (LR 299 v1.toNatClampNeg)) hb (show isT (kw K) 31 299 from isT.f (k := 2) (show isT (kw K) 9 288 from isT.f (k := 0) t0 hw rfl rfl rfl (by decide)) hw rfl rfl rfl (by decide)) (by decide) rfl rfl (zvi rfl (h2 cp1)) (z_dec dX10_waitingTime 7 rfl) ?_
  refine zz_aload_n hb (z_dec dX10_waitingTime 8 rfl) rfl 0 rfl ?_
  refine zz_getr (k := 0) (q := 288) hb ho rfl ckX10 t0 rfl rfl (rX10_waitingTime 3 rfl) rfl (z_dec dX10_waitingTime 9 rfl) ?_
  refine zz_get (k := 4) hb ho ckX9 (show isT (kw K) 9 288 from isT.f (k := 0) t0 hw rfl rfl rfl (by decide)) rfl rfl (rX10_waitingTime 5 rfl) rfl (z_dec dX10_waitingTime 10 rfl) ?_
  refine zz_inv (as := [.int (g1 288 4)]) (d := 0) (mc := (0, 0)) (P := (qE f3 g3)) (X := nX) hb ho hnl hR hE mkX5_waitedAt rfl ckX5 (show isT (kw K) 5 (LR 299 v1.toNatClampNeg) from isT.a (i := v1) (show isT (kw K) 31 299 from isT.f (k := 2) (show isT (kw K) 9 288 from isT.f (k := 0) t0 hw rfl rfl rfl (by decide)) hw rfl rfl rfl (by decide)) hw (zvi rfl (h2 cp1)) rfl (fun _ => rfl) (by decide)) rfl g_3 rfl (rX10_waitingTime 6 rfl) (rX10_waitingTime 7 rfl) (rX10_waitingTime 8 rfl) rfl (z_dec dX10_waitingTime 11 rfl) (m3 cp1) (fun v J3 hp => ?_) (fun _ _ h => h.elim)
  obtain ⟨r3, rfl, e3, w3⟩ := hp
  have e3 := e3.symm
  subst e3
  have w3 := w3.symm
  subst w3
  show ZZ K (u.1 + mc1.1, u.2 + mc1.2) 24 [(0, .ref 0), (1, .int v1)] [.int f3] g3
  exact zz_iret hb hE g4 (z_dec dX10_waitingTime 12 rfl) (h5 cp1)
set_option maxRecDepth 20000 in
theorem bX10_effectivePriority_0 {K : zK} {P : Option Value → zM → Prop} {X : String → zM → Prop} {u mc : Nat × Nat} (hK : zIs K RX10 cX10_effectivePriority 2 (some .int) 7 mc P X) (hw : wOK (kw K)) {I : zM} (t0 : isT (kw K) 10 0) {v1 : Int32} {g1 : zM} {mc1 : Nat × Nat} {x1 : String → zM → Prop} {p1 : Prop} (g_1 : u.1 + mc1.1 ≤ mc.1 ∧ u.2 + mc1.2 ≤ mc.2) (n1 : ∀ (E : String) (J : zM), x1 E J → X E J) (m1 : CT (kG K) (kw K) (kl K) (yX10_requireLetter, cX10_requireLetter, 2, none) 6 mc1 [.ref 0, .int v1] I (qV (fun J => J = g1 ∧ p1)) x1) (h2 : ∀ (cp1 : p1), vp_in v1 12) (h3 : ∀ (cp1 : p1), vp_in v1 12) {f4 : Int32} {g4 : zM} (g_4 : (u.1 + mc1.1, u.2 + mc1.2).1 ≤ mc.1 ∧ (u.1 + mc1.1, u.2 + mc1.2).2 ≤ mc.2) (m4 : ∀ (cp1 : p1), CT (kG K) (kw K) (kl K) (yX5_waitedAt, cX5_waitedAt, 3, (some .int)) 0 (0, 0) [.ref (LR 299 v1.toNatClampNeg), .int (g1 288 4)] g1 (qE f4 g4) nX) {f5 : Int32} {g5 : zM} (g_5 : (u.1 + mc1.1, u.2 + mc1.2).1 ≤ mc.1 ∧ (u.1 + mc1.1, u.2 + mc1.2).2 ≤ mc.2) (m5 : ∀ (cp1 : p1), CT (kG K) (kw K) (kl K) (yX8_effective, cX8_effective, 3, (some .int)) 0 (0, 0) [.ref 289, .int (g1 (LR 299 v1.toNatClampNeg) 4), .int f4] g4 (qE f5 g5) nX) (g6 : (u.1 + mc1.1, u.2 + mc1.2).1 ≤ mc.1 ∧ (u.1 + mc1.1, u.2 + mc1.2).2 ≤ mc.2) (h7 : ∀ (cp1 : p1), P (some (.int f5)) g5) : ZZ K u 0 [(0, .ref 0), (1, .int v1)] [] I := by
  obtain ⟨hb, ho, hnl, hR, hE⟩ := hK
  refine zz_aload_n hb (z_dec dX10_effectivePriority 0 rfl) rfl 0 rfl ?_
  refine zz_iload_n hb (z_dec dX10_effectivePriority 1 rfl) rfl 1 rfl ?_
  refine zz_inv (as := [.int v1]) (d := 6) (mc := mc1) (P := (qV (fun J => J = g1 ∧ p1))) (X := x1) hb ho hnl hR hE mkX10_requireLetter rfl ckX10 t0 rfl g_1 rfl (rX10_effectivePriority 0 rfl) (rX10_effectivePriority 1 rfl) (rX10_effectivePriority 2 rfl) rfl (z_dec dX10_effectivePriority 2 rfl) m1 (fun v J1 hp => ?_) n1
  obtain ⟨rfl, w1, cp1⟩ := hp
  have w1 := w1.symm
  subst w1
  show ZZ K (u.1 + mc1.1, u.2 + mc1.2) 5 [(0, .ref 0), (1, .int v1)] [] g1
  refine zz_aload_n hb (z_dec dX10_effectivePriority 3 rfl) rfl 0 rfl ?_
  refine zz_getr (k := 0) (q := 288) hb ho rfl ckX10 t0 rfl rfl (rX10_effectivePriority 3 rfl) rfl (z_dec dX10_effectivePriority 4 rfl) ?_
  refine zz_getr (k := 0) (q := 289) hb ho rfl ckX9 (show isT (kw K) 9 288 from isT.f (k := 0) t0 hw rfl rfl rfl (by decide)) rfl rfl (rX10_effectivePriority 4 rfl) rfl (z_dec dX10_effectivePriority 5 rfl) ?_
  refine zz_aload_n hb (z_dec dX10_effectivePriority 6 rfl) rfl 0 rfl ?_
  refine zz_getr (k := 0) (q := 288) hb ho rfl ckX10 t0 rfl rfl (rX10_effectivePriority 3 rfl) rfl (z_dec dX10_effectivePriority 7 rfl) ?_
  refine zz_getr (k := 2) (q := 299) hb ho rfl ckX9 (show isT (kw K) 9 288 from isT.f (k := 0) t0 hw rfl rfl rfl (by decide)) rfl rfl (rX10_effectivePriority 5 rfl) rfl (z_dec dX10_effectivePriority 8 rfl) ?_
  refine zz_iload_n hb (z_dec dX10_effectivePriority 9 rfl) rfl 1 rfl ?_
  refine zz_aald (j := v1.toNatClampNeg) (q := (LR 299 v1.toNatClampNeg)) hb (show isT (kw K) 31 299 from isT.f (k := 2) (show isT (kw K) 9 288 from isT.f (k := 0) t0 hw rfl rfl rfl (by decide)) hw rfl rfl rfl (by decide)) (by decide) rfl rfl (zvi rfl (h2 cp1)) (z_dec dX10_effectivePriority 10 rfl) ?_
  refine zz_get (k := 4) hb ho ckX5 (show isT (kw K) 5 (LR 299 v1.toNatClampNeg) from isT.a (i := v1) (show isT (kw K) 31 299 from isT.f (k := 2) (show isT (kw K) 9 288 from isT.f (k := 0) t0 hw rfl rfl rfl (by decide)) hw rfl rfl rfl (by decide)) hw (zvi rfl (h2 cp1)) rfl (fun _ => rfl) (by decide)) rfl rfl (rX10_effectivePriority 6 rfl) rfl (z_dec dX10_effectivePriority 11 rfl) ?_
  refine zz_aload_n hb (z_dec dX10_effectivePriority 12 rfl) rfl 0 rfl ?_
  refine zz_getr (k := 0) (q := 288) hb ho rfl ckX10 t0 rfl rfl (rX10_effectivePriority 3 rfl) rfl (z_dec dX10_effectivePriority 13 rfl) ?_
  refine zz_getr (k := 2) (q := 299) hb ho rfl ckX9 (show isT (kw K) 9 288 from isT.f (k := 0) t0 hw rfl rfl rfl (by decide)) rfl rfl (rX10_effectivePriority 5 rfl) rfl (z_dec dX10_effectivePriority 14 rfl) ?_
  refine zz_iload_n hb (z_dec dX10_effectivePriority 15 rfl) rfl 1 rfl ?_
  refine zz_aald (j := v1.toNatClampNeg) (q := (LR 299 v1.toNatClampNeg)) hb (show isT (kw K) 31 299 from isT.f (k := 2) (show isT (kw K) 9 288 from isT.f (k := 0) t0 hw rfl rfl rfl (by decide)) hw rfl rfl rfl (by decide)) (by decide) rfl rfl (zvi rfl (h3 cp1)) (z_dec dX10_effectivePriority 16 rfl) ?_
  refine zz_aload_n hb (z_dec dX10_effectivePriority 17 rfl) rfl 0 rfl ?_
  refine zz_getr (k := 0) (q := 288) hb ho rfl ckX10 t0 rfl rfl (rX10_effectivePriority 3 rfl) rfl (z_dec dX10_effectivePriority 18 rfl) ?_
  refine zz_get (k := 4) hb ho ckX9 (show isT (kw K) 9 288 from isT.f (k := 0) t0 hw rfl rfl rfl (by decide)) rfl rfl (rX10_effectivePriority 7 rfl) rfl (z_dec dX10_effectivePriority 19 rfl) ?_
  refine zz_inv (as := [.int (g1 288 4)]) (d := 0) (mc := (0, 0)) (P := (qE f4 g4)) (X := nX) hb ho hnl hR hE mkX5_waitedAt rfl ckX5 (show isT (kw K) 5 (LR 299 v1.toNatClampNeg) from isT.a (i := v1) (show isT (kw K) 31 299 from isT.f (k := 2) (show isT (kw K) 9 288 from isT.f (k := 0) t0 hw rfl rfl rfl (by decide)) hw rfl rfl rfl (by decide)) hw (zvi rfl (h3 cp1)) rfl (fun _ => rfl) (by decide)) rfl g_4 rfl (rX10_effectivePriority 8 rfl) (rX10_effectivePriority 9 rfl) (rX10_effectivePriority 10 rfl) rfl (z_dec dX10_effectivePriority 20 rfl) (m4 cp1) (fun v J4 hp => ?_) (fun _ _ h => h.elim)
  obtain ⟨r4, rfl, e4, w4⟩ := hp
  have e4 := e4.symm
  subst e4
  have w4 := w4.symm
  subst w4
  show ZZ K (u.1 + mc1.1, u.2 + mc1.2) 43 [(0, .ref 0), (1, .int v1)] [.int f4, .int (g1 (LR 299 v1.toNatClampNeg) 4), .ref 289] g4
  refine zz_inv (as := [.int (g1 (LR 299 v1.toNatClampNeg) 4), .int f4]) (d := 0) (mc := (0, 0)) (P := (qE f5 g5)) (X := nX) hb ho hnl hR hE mkX8_effective rfl ckX8 (show isT (kw K) 8 289 from isT.f (k := 0) (show isT (kw K) 9 288 from isT.f (k := 0) t0 hw rfl rfl rfl (by decide)) hw rfl rfl rfl (by decide)) rfl g_5 rfl (rX10_effectivePriority 11 rfl) (rX10_effectivePriority 12 rfl) (rX10_effectivePriority 13 rfl) rfl (z_dec dX10_effectivePriority 21 rfl) (m5 cp1) (fun v J5 hp => ?_) (fun _ _ h => h.elim)
  obtain ⟨r5, rfl, e5, w5⟩ := hp
  have e5 := e5.symm
  subst e5
  have w5 := w5.symm
  subst w5
  show ZZ K (u.1 + mc1.1, u.2 + mc1.2) 46 [(0, .ref 0), (1, .int v1)] [.int f5] g5
  exact zz_iret hb hE g6 (z_dec dX10_effectivePriority 22 rfl) (h7 cp1)
set_option maxRecDepth 20000 in
theorem bX10_isReady_0 {K : zK} {P : Option Value → zM → Prop} {X : String → zM → Prop} {u mc : Nat × Nat} (hK : zIs K RX10 cX10_isReady 2 (some .boolean) 7 mc P X) (hw : wOK (kw K)) {I : zM} (t0 : isT (kw K) 10 0) {v1 : Int32} {g1 : zM} {mc1 : Nat × Nat} {x1 : String → zM → Prop} {p1 : Prop} (g_1 : u.1 + mc1.1 ≤ mc.1 ∧ u.2 + mc1.2 ≤ mc.2) (n1 : ∀ (E : String) (J : zM), x1 E J → X E J) (m1 : CT (kG K) (kw K) (kl K) (yX10_requireLetter, cX10_requireLetter, 2, none) 6 mc1 [.ref 0, .int v1] I (qV (fun J => J = g1 ∧ p1)) x1) (h2 : ∀ (cp1 : p1), vp_in v1 12) {f3 : Int32} {g3 : zM} (g_3 : (u.1 + mc1.1, u.2 + mc1.2).1 ≤ mc.1 ∧ (u.1 + mc1.1, u.2 + mc1.2).2 ≤ mc.2) (m3 : ∀ (cp1 : p1), CT (kG K) (kw K) (kl K) (yX5_isReadyAt, cX5_isReadyAt, 2, (some .boolean)) 0 (0, 0) [.ref (LR 299 v1.toNatClampNeg), .int (g1 288 4)] g1 (qE f3 g3) nX) (g4 : (u.1 + mc1.1, u.2 + mc1.2).1 ≤ mc.1 ∧ (u.1 + mc1.1, u.2 + mc1.2).2 ≤ mc.2) (h5 : ∀ (cp1 : p1), P (some (.int f3)) g3) (z6 : ∀ (cp1 : p1), f3 = 0 ∨ f3 = 1) : ZZ K u 0 [(0, .ref 0), (1, .int v1)] [] I := by
  obtain ⟨hb, ho, hnl, hR, hE⟩ := hK
  refine zz_aload_n hb (z_dec dX10_isReady 0 rfl) rfl 0 rfl ?_
  refine zz_iload_n hb (z_dec dX10_isReady 1 rfl) rfl 1 rfl ?_
  refine zz_inv (as := [.int v1]) (d := 6) (mc := mc1) (P := (qV (fun J => J = g1 ∧ p1))) (X := x1) hb ho hnl hR hE mkX10_requireLetter rfl ckX10 t0 rfl g_1 rfl (rX10_isReady 0 rfl) (rX10_isReady 1 rfl) (rX10_isReady 2 rfl) rfl (z_dec dX10_isReady 2 rfl) m1 (fun v J1 hp => ?_) n1
  obtain ⟨rfl, w1, cp1⟩ := hp
  have w1 := w1.symm
  subst w1
  show ZZ K (u.1 + mc1.1, u.2 + mc1.2) 5 [(0, .ref 0), (1, .int v1)] [] g1
  refine zz_aload_n hb (z_dec dX10_isReady 3 rfl) rfl 0 rfl ?_
  refine zz_getr (k := 0) (q := 288) hb ho rfl ckX10 t0 rfl rfl (rX10_isReady 3 rfl) rfl (z_dec dX10_isReady 4 rfl) ?_
  refine zz_getr (k := 2) (q := 299) hb ho rfl ckX9 (show isT (kw K) 9 288 from isT.f (k := 0) t0 hw rfl rfl rfl (by decide)) rfl rfl (rX10_isReady 4 rfl) rfl (z_dec dX10_isReady 5 rfl) ?_
  refine zz_iload_n hb (z_dec dX10_isReady 6 rfl) rfl 1 rfl ?_
  refine zz_aald (j := v1.toNatClampNeg) (q := (LR 299 v1.toNatClampNeg)) hb (show isT (kw K) 31 299 from isT.f (k := 2) (show isT (kw K) 9 288 from isT.f (k := 0) t0 hw rfl rfl rfl (by decide)) hw rfl rfl rfl (by decide)) (by decide) rfl rfl (zvi rfl (h2 cp1)) (z_dec dX10_isReady 7 rfl) ?_
  refine zz_aload_n hb (z_dec dX10_isReady 8 rfl) rfl 0 rfl ?_
  refine zz_getr (k := 0) (q := 288) hb ho rfl ckX10 t0 rfl rfl (rX10_isReady 3 rfl) rfl (z_dec dX10_isReady 9 rfl) ?_
  refine zz_get (k := 4) hb ho ckX9 (show isT (kw K) 9 288 from isT.f (k := 0) t0 hw rfl rfl rfl (by decide)) rfl rfl (rX10_isReady 5 rfl) rfl (z_dec dX10_isReady 10 rfl) ?_
  refine zz_inv (as := [.int (g1 288 4)]) (d := 0) (mc := (0, 0)) (P := (qE f3 g3)) (X := nX) hb ho hnl hR hE mkX5_isReadyAt rfl ckX5 (show isT (kw K) 5 (LR 299 v1.toNatClampNeg) from isT.a (i := v1) (show isT (kw K) 31 299 from isT.f (k := 2) (show isT (kw K) 9 288 from isT.f (k := 0) t0 hw rfl rfl rfl (by decide)) hw rfl rfl rfl (by decide)) hw (zvi rfl (h2 cp1)) rfl (fun _ => rfl) (by decide)) rfl g_3 rfl (rX10_isReady 6 rfl) (rX10_isReady 7 rfl) (rX10_isReady 8 rfl) rfl (z_dec dX10_isReady 11 rfl) (m3 cp1) (fun v J3 hp => ?_) (fun _ _ h => h.elim)
  obtain ⟨r3, rfl, e3, w3⟩ := hp
  have e3 := e3.symm
  subst e3
  have w3 := w3.symm
  subst w3
  show ZZ K (u.1 + mc1.1, u.2 + mc1.2) 24 [(0, .ref 0), (1, .int v1)] [.int f3] g3
  exact zz_zret hb hE g4 (z6 cp1) (z_dec dX10_isReady 12 rfl) (h5 cp1)
set_option maxRecDepth 20000 in
theorem bX10_readyCount_0 {K : zK} {P : Option Value → zM → Prop} {X : String → zM → Prop} (hK : zIs K RX10 cX10_readyCount 1 (some .int) 2 (0, 0) P X) (hw : wOK (kw K)) {I : zM} (t0 : isT (kw K) 10 0) {f1 : Int32} {g1 : zM} (m1 : CT (kG K) (kw K) (kl K) (yX9_countReady, cX9_countReady, 3, (some .int)) 1 (0, 0) [.ref 288] I (qE f1 g1) nX) (h2 : P (some (.int f1)) g1) : ZZ K (0, 0) 0 [(0, .ref 0)] [] I := by
  obtain ⟨hb, ho, hnl, hR, hE⟩ := hK
  refine zz_aload_n hb (z_dec dX10_readyCount 0 rfl) rfl 0 rfl ?_
  refine zz_getr (k := 0) (q := 288) hb ho rfl ckX10 t0 rfl rfl (rX10_readyCount 0 rfl) rfl (z_dec dX10_readyCount 1 rfl) ?_
  refine zz_inv (as := []) (d := 1) (mc := (0, 0)) (P := (qE f1 g1)) (X := nX) hb ho hnl hR hE mkX9_countReady rfl ckX9 (show isT (kw K) 9 288 from isT.f (k := 0) t0 hw rfl rfl rfl (by decide)) rfl ⟨Nat.le_refl 0, Nat.le_refl 0⟩ rfl (rX10_readyCount 1 rfl) (rX10_readyCount 2 rfl) (rX10_readyCount 3 rfl) rfl (z_dec dX10_readyCount 2 rfl) m1 (fun v J1 hp => ?_) (fun _ _ h => h.elim)
  obtain ⟨r1, rfl, e1, w1⟩ := hp
  have e1 := e1.symm
  subst e1
  have w1 := w1.symm
  subst w1
  show ZZ K (0, 0) 7 [(0, .ref 0)] [.int f1] g1
  exact zz_iret hb hE ⟨Nat.le_refl 0, Nat.le_refl 0⟩ (z_dec dX10_readyCount 3 rfl) h2
set_option maxRecDepth 20000 in
theorem bX10_selectedLetter_0 {K : zK} {P : Option Value → zM → Prop} {X : String → zM → Prop} (hK : zIs K RX10 cX10_selectedLetter 1 (some .int) 3 (0, 0) P X) (hw : wOK (kw K)) {I : zM} (t0 : isT (kw K) 10 0) {f1 : Int32} {g1 : zM} (m1 : CT (kG K) (kw K) (kl K) (yX9_selectBy, cX9_selectBy, 6, (some .int)) 2 (0, 0) [.ref 288, .int (I 288 5)] I (qE f1 g1) nX) (h2 : P (some (.int f1)) g1) : ZZ K (0, 0) 0 [(0, .ref 0)] [] I := by
  obtain ⟨hb, ho, hnl, hR, hE⟩ := hK
  refine zz_aload_n hb (z_dec dX10_selectedLetter 0 rfl) rfl 0 rfl ?_
  refine zz_getr (k := 0) (q := 288) hb ho rfl ckX10 t0 rfl rfl (rX10_selectedLetter 0 rfl) rfl (z_dec dX10_selectedLetter 1 rfl) ?_
  refine zz_aload_n hb (z_dec dX10_selectedLetter 2 rfl) rfl 0 rfl ?_
  refine zz_getr (k := 0) (q := 288) hb ho rfl ckX10 t0 rfl rfl (rX10_selectedLetter 0 rfl) rfl (z_dec dX10_selectedLetter 3 rfl) ?_
  refine zz_get (k := 5) hb ho ckX9 (show isT (kw K) 9 288 from isT.f (k := 0) t0 hw rfl rfl rfl (by decide)) rfl rfl (rX10_selectedLetter 1 rfl) rfl (z_dec dX10_selectedLetter 4 rfl) ?_
  refine zz_inv (as := [.int (I 288 5)]) (d := 2) (mc := (0, 0)) (P := (qE f1 g1)) (X := nX) hb ho hnl hR hE mkX9_selectBy rfl ckX9 (show isT (kw K) 9 288 from isT.f (k := 0) t0 hw rfl rfl rfl (by decide)) rfl ⟨Nat.le_refl 0, Nat.le_refl 0⟩ rfl (rX10_selectedLetter 2 rfl) (rX10_selectedLetter 3 rfl) (rX10_selectedLetter 4 rfl) rfl (z_dec dX10_selectedLetter 5 rfl) m1 (fun v J1 hp => ?_) (fun _ _ h => h.elim)
  obtain ⟨r1, rfl, e1, w1⟩ := hp
  have e1 := e1.symm
  subst e1
  have w1 := w1.symm
  subst w1
  show ZZ K (0, 0) 14 [(0, .ref 0)] [.int f1] g1
  exact zz_iret hb hE ⟨Nat.le_refl 0, Nat.le_refl 0⟩ (z_dec dX10_selectedLetter 6 rfl) h2
set_option maxRecDepth 20000 in
theorem bX10_selectedBy_0 {K : zK} {P : Option Value → zM → Prop} {X : String → zM → Prop} {u mc : Nat × Nat} (hK : zIs K RX10 cX10_selectedBy 2 (some .int) 7 mc P X) (hw : wOK (kw K)) {I : zM} (t0 : isT (kw K) 10 0) {v1 : Int32} {f1 : Nat} {g1 : zM} (g_1 : u.1 ≤ mc.1 ∧ u.2 ≤ mc.2) (m1 : CT (kG K) (kw K) (kl K) (yX10_policyFault, cX10_policyFault, 1, (some (.object "PenOffice$Fault"))) 1 (0, 0) [.int v1] I (qEr f1 g1) nX) {g2 : zM} {mc2 : Nat × Nat} {x2 : String → zM → Prop} {p2 : Prop} (g_2 : u.1 + mc2.1 ≤ mc.1 ∧ u.2 + mc2.2 ≤ mc.2) (n2 : ∀ (E : String) (J : zM), x2 E J → X E J) (m2 : CT (kG K) (kw K) (kl K) (yX10_refuse, cX10_refuse, 1, none) 6 mc2 [.ref f1] g1 (qV (fun J => J = g2 ∧ p2)) x2) {f3 : Int32} {g3 : zM} (g_3 : (u.1 + mc2.1, u.2 + mc2.2).1 ≤ mc.1 ∧ (u.1 + mc2.1, u.2 + mc2.2).2 ≤ mc.2) (m3 : ∀ (cp2 : p2), CT (kG K) (kw K) (kl K) (yX9_selectBy, cX9_selectBy, 6, (some .int)) 2 (0, 0) [.ref 288, .int v1] g2 (qE f3 g3) nX) (g4 : (u.1 + mc2.1, u.2 + mc2.2).1 ≤ mc.1 ∧ (u.1 + mc2.1, u.2 + mc2.2).2 ≤ mc.2) (h5 : ∀ (cp2 : p2), P (some (.int f3)) g3) : ZZ K u 0 [(0, .ref 0), (1, .int v1)] [] I := by
  obtain ⟨hb, ho, hnl, hR, hE⟩ := hK
  refine zz_iload_n hb (z_dec dX10_selectedBy 0 rfl) rfl 1 rfl ?_
  refine zz_invS (as := [.int v1]) (d := 1) (mc := (0, 0)) (P := (qEr f1 g1)) (X := nX) hb ho hnl hR hE mkX10_policyFault rfl rfl g_1 rfl (rX10_selectedBy 0 rfl) (rX10_selectedBy 1 rfl) rfl (z_dec dX10_selectedBy 1 rfl) m1 (fun v J1 hp => ?_) (fun _ _ h => h.elim)
  obtain ⟨r1, rfl, e1, w1⟩ := hp
  have e1 := e1.symm
  subst e1
  have w1 := w1.symm
  subst w1
  show ZZ K u 4 [(0, .ref 0), (1, .int v1)] [.ref f1] g1
  refine zz_invS (as := [.ref f1]) (d := 6) (mc := mc2) (P := (qV (fun J => J = g2 ∧ p2))) (X := x2) hb ho hnl hR hE mkX10_refuse rfl rfl g_2 rfl (rX10_selectedBy 2 rfl) (rX10_selectedBy 3 rfl) rfl (z_dec dX10_selectedBy 2 rfl) m2 (fun v J2 hp => ?_) n2
  obtain ⟨rfl, w2, cp2⟩ := hp
  have w2 := w2.symm
  subst w2
  show ZZ K (u.1 + mc2.1, u.2 + mc2.2) 7 [(0, .ref 0), (1, .int v1)] [] g2
  refine zz_aload_n hb (z_dec dX10_selectedBy 3 rfl) rfl 0 rfl ?_
  refine zz_getr (k := 0) (q := 288) hb ho rfl ckX10 t0 rfl rfl (rX10_selectedBy 4 rfl) rfl (z_dec dX10_selectedBy 4 rfl) ?_
  refine zz_iload_n hb (z_dec dX10_selectedBy 5 rfl) rfl 1 rfl ?_
  refine zz_inv (as := [.int v1]) (d := 2) (mc := (0, 0)) (P := (qE f3 g3)) (X := nX) hb ho hnl hR hE mkX9_selectBy rfl ckX9 (show isT (kw K) 9 288 from isT.f (k := 0) t0 hw rfl rfl rfl (by decide)) rfl g_3 rfl (rX10_selectedBy 5 rfl) (rX10_selectedBy 6 rfl) (rX10_selectedBy 7 rfl) rfl (z_dec dX10_selectedBy 6 rfl) (m3 cp2) (fun v J3 hp => ?_) (fun _ _ h => h.elim)
  obtain ⟨r3, rfl, e3, w3⟩ := hp
  have e3 := e3.symm
  subst e3
  have w3 := w3.symm
  subst w3
  show ZZ K (u.1 + mc2.1, u.2 + mc2.2) 15 [(0, .ref 0), (1, .int v1)] [.int f3] g3
  exact zz_iret hb hE g4 (z_dec dX10_selectedBy 7 rfl) (h5 cp2)
set_option maxRecDepth 20000 in
theorem bX10_finishedCount_0 {K : zK} {P : Option Value → zM → Prop} {X : String → zM → Prop} (hK : zIs K RX10 cX10_finishedCount 1 (some .int) 1 (0, 0) P X) (hw : wOK (kw K)) {I : zM} (t0 : isT (kw K) 10 0) {f1 : Int32} {g1 : zM} (m1 : CT (kG K) (kw K) (kl K) (yX9_countOpen, cX9_countOpen, 3, (some .int)) 0 (0, 0) [.ref 288] I (qE f1 g1) nX) (h2 : P (some (.int ((I 288 3) - f1))) g1) : ZZ K (0, 0) 0 [(0, .ref 0)] [] I := by
  obtain ⟨hb, ho, hnl, hR, hE⟩ := hK
  refine zz_aload_n hb (z_dec dX10_finishedCount 0 rfl) rfl 0 rfl ?_
  refine zz_getr (k := 0) (q := 288) hb ho rfl ckX10 t0 rfl rfl (rX10_finishedCount 0 rfl) rfl (z_dec dX10_finishedCount 1 rfl) ?_
  refine zz_get (k := 3) hb ho ckX9 (show isT (kw K) 9 288 from isT.f (k := 0) t0 hw rfl rfl rfl (by decide)) rfl rfl (rX10_finishedCount 1 rfl) rfl (z_dec dX10_finishedCount 2 rfl) ?_
  refine zz_aload_n hb (z_dec dX10_finishedCount 3 rfl) rfl 0 rfl ?_
  refine zz_getr (k := 0) (q := 288) hb ho rfl ckX10 t0 rfl rfl (rX10_finishedCount 0 rfl) rfl (z_dec dX10_finishedCount 4 rfl) ?_
  refine zz_inv (as := []) (d := 0) (mc := (0, 0)) (P := (qE f1 g1)) (X := nX) hb ho hnl hR hE mkX9_countOpen rfl ckX9 (show isT (kw K) 9 288 from isT.f (k := 0) t0 hw rfl rfl rfl (by decide)) rfl ⟨Nat.le_refl 0, Nat.le_refl 0⟩ rfl (rX10_finishedCount 2 rfl) (rX10_finishedCount 3 rfl) (rX10_finishedCount 4 rfl) rfl (z_dec dX10_finishedCount 5 rfl) m1 (fun v J1 hp => ?_) (fun _ _ h => h.elim)
  obtain ⟨r1, rfl, e1, w1⟩ := hp
  have e1 := e1.symm
  subst e1
  have w1 := w1.symm
  subst w1
  show ZZ K (0, 0) 14 [(0, .ref 0)] [.int f1, .int (I 288 3)] g1
  refine zz_isub hb (z_dec dX10_finishedCount 6 rfl) ?_
  exact zz_iret hb hE ⟨Nat.le_refl 0, Nat.le_refl 0⟩ (z_dec dX10_finishedCount 7 rfl) h2
set_option maxRecDepth 20000 in
theorem bX10_blots_0 {K : zK} {P : Option Value → zM → Prop} {X : String → zM → Prop} (hK : zIs K RX10 cX10_blots 1 (some .int) 0 (0, 0) P X) (hw : wOK (kw K)) {I : zM} (t0 : isT (kw K) 10 0) (h1 : P (some (.int (I 288 13))) I) : ZZ K (0, 0) 0 [(0, .ref 0)] [] I := by
  obtain ⟨hb, ho, hnl, hR, hE⟩ := hK
  refine zz_aload_n hb (z_dec dX10_blots 0 rfl) rfl 0 rfl ?_
  refine zz_getr (k := 0) (q := 288) hb ho rfl ckX10 t0 rfl rfl (rX10_blots 0 rfl) rfl (z_dec dX10_blots 1 rfl) ?_
  refine zz_get (k := 13) hb ho ckX9 (show isT (kw K) 9 288 from isT.f (k := 0) t0 hw rfl rfl rfl (by decide)) rfl rfl (rX10_blots 1 rfl) rfl (z_dec dX10_blots 2 rfl) ?_
  exact zz_iret hb hE ⟨Nat.le_refl 0, Nat.le_refl 0⟩ (z_dec dX10_blots 3 rfl) h1
set_option maxRecDepth 20000 in
theorem bX10_handOvers_0 {K : zK} {P : Option Value → zM → Prop} {X : String → zM → Prop} (hK : zIs K RX10 cX10_handOvers 1 (some .int) 0 (0, 0) P X) (hw : wOK (kw K)) {I : zM} (t0 : isT (kw K) 10 0) (h1 : P (some (.int (I 288 14))) I) : ZZ K (0, 0) 0 [(0, .ref 0)] [] I := by
  obtain ⟨hb, ho, hnl, hR, hE⟩ := hK
  refine zz_aload_n hb (z_dec dX10_handOvers 0 rfl) rfl 0 rfl ?_
  refine zz_getr (k := 0) (q := 288) hb ho rfl ckX10 t0 rfl rfl (rX10_handOvers 0 rfl) rfl (z_dec dX10_handOvers 1 rfl) ?_
  refine zz_get (k := 14) hb ho ckX9 (show isT (kw K) 9 288 from isT.f (k := 0) t0 hw rfl rfl rfl (by decide)) rfl rfl (rX10_handOvers 1 rfl) rfl (z_dec dX10_handOvers 2 rfl) ?_
  exact zz_iret hb hE ⟨Nat.le_refl 0, Nat.le_refl 0⟩ (z_dec dX10_handOvers 3 rfl) h1
set_option maxRecDepth 20000 in
theorem bX10_writtenMinutes_0 {K : zK} {P : Option Value → zM → Prop} {X : String → zM → Prop} (hK : zIs K RX10 cX10_writtenMinutes 1 (some .int) 0 (0, 0) P X) (hw : wOK (kw K)) {I : zM} (t0 : isT (kw K) 10 0) (h1 : P (some (.int (I 288 15))) I) : ZZ K (0, 0) 0 [(0, .ref 0)] [] I := by
  obtain ⟨hb, ho, hnl, hR, hE⟩ := hK
  refine zz_aload_n hb (z_dec dX10_writtenMinutes 0 rfl) rfl 0 rfl ?_
  refine zz_getr (k := 0) (q := 288) hb ho rfl ckX10 t0 rfl rfl (rX10_writtenMinutes 0 rfl) rfl (z_dec dX10_writtenMinutes 1 rfl) ?_
  refine zz_get (k := 15) hb ho ckX9 (show isT (kw K) 9 288 from isT.f (k := 0) t0 hw rfl rfl rfl (by decide)) rfl rfl (rX10_writtenMinutes 1 rfl) rfl (z_dec dX10_writtenMinutes 2 rfl) ?_
  exact zz_iret hb hE ⟨Nat.le_refl 0, Nat.le_refl 0⟩ (z_dec dX10_writtenMinutes 3 rfl) h1
set_option maxRecDepth 20000 in
theorem bX10_idleMinutes_0 {K : zK} {P : Option Value → zM → Prop} {X : String → zM → Prop} (hK : zIs K RX10 cX10_idleMinutes 1 (some .int) 0 (0, 0) P X) (hw : wOK (kw K)) {I : zM} (t0 : isT (kw K) 10 0) (h1 : P (some (.int (I 288 16))) I) : ZZ K (0, 0) 0 [(0, .ref 0)] [] I := by
  obtain ⟨hb, ho, hnl, hR, hE⟩ := hK
  refine zz_aload_n hb (z_dec dX10_idleMinutes 0 rfl) rfl 0 rfl ?_
  refine zz_getr (k := 0) (q := 288) hb ho rfl ckX10 t0 rfl rfl (rX10_idleMinutes 0 rfl) rfl (z_dec dX10_idleMinutes 1 rfl) ?_
  refine zz_get (k := 16) hb ho ckX9 (show isT (kw K) 9 288 from isT.f (k := 0) t0 hw rfl rfl rfl (by decide)) rfl rfl (rX10_idleMinutes 1 rfl) rfl (z_dec dX10_idleMinutes 2 rfl) ?_
  exact zz_iret hb hE ⟨Nat.le_refl 0, Nat.le_refl 0⟩ (z_dec dX10_idleMinutes 3 rfl) h1
set_option maxRecDepth 20000 in
theorem bX10_inconsistencies_0 {K : zK} {P : Option Value → zM → Prop} {X : String → zM → Prop} (hK : zIs K RX10 cX10_inconsistencies 1 (some .int) 0 (0, 0) P X) (hw : wOK (kw K)) {I : zM} (t0 : isT (kw K) 10 0) (h1 : P (some (.int (((((I 288 4) - (I 288 15)) - (I 288 16)) - (I 288 17)) - (I 288 18)))) I) : ZZ K (0, 0) 0 [(0, .ref 0)] [] I := by
  obtain ⟨hb, ho, hnl, hR, hE⟩ := hK
  refine zz_aload_n hb (z_dec dX10_inconsistencies 0 rfl) rfl 0 rfl ?_
  refine zz_getr (k := 0) (q := 288) hb ho rfl ckX10 t0 rfl rfl (rX10_inconsistencies 0 rfl) rfl (z_dec dX10_inconsistencies 1 rfl) ?_
  refine zz_get (k := 4) hb ho ckX9 (show isT (kw K) 9 288 from isT.f (k := 0) t0 hw rfl rfl rfl (by decide)) rfl rfl (rX10_inconsistencies 1 rfl) rfl (z_dec dX10_inconsistencies 2 rfl) ?_
  refine zz_aload_n hb (z_dec dX10_inconsistencies 3 rfl) rfl 0 rfl ?_
  refine zz_getr (k := 0) (q := 288) hb ho rfl ckX10 t0 rfl rfl (rX10_inconsistencies 0 rfl) rfl (z_dec dX10_inconsistencies 4 rfl) ?_
  refine zz_get (k := 15) hb ho ckX9 (show isT (kw K) 9 288 from isT.f (k := 0) t0 hw rfl rfl rfl (by decide)) rfl rfl (rX10_inconsistencies 2 rfl) rfl (z_dec dX10_inconsistencies 5 rfl) ?_
  refine zz_isub hb (z_dec dX10_inconsistencies 6 rfl) ?_
  refine zz_aload_n hb (z_dec dX10_inconsistencies 7 rfl) rfl 0 rfl ?_
  refine zz_getr (k := 0) (q := 288) hb ho rfl ckX10 t0 rfl rfl (rX10_inconsistencies 0 rfl) rfl (z_dec dX10_inconsistencies 8 rfl) ?_
  refine zz_get (k := 16) hb ho ckX9 (show isT (kw K) 9 288 from isT.f (k := 0) t0 hw rfl rfl rfl (by decide)) rfl rfl (rX10_inconsistencies 3 rfl) rfl (z_dec dX10_inconsistencies 9 rfl) ?_
  refine zz_isub hb (z_dec dX10_inconsistencies 10 rfl) ?_
  refine zz_aload_n hb (z_dec dX10_inconsistencies 11 rfl) rfl 0 rfl ?_
  refine zz_getr (k := 0) (q := 288) hb ho rfl ckX10 t0 rfl rfl (rX10_inconsistencies 0 rfl) rfl (z_dec dX10_inconsistencies 12 rfl) ?_
  refine zz_get (k := 17) hb ho ckX9 (show isT (kw K) 9 288 from isT.f (k := 0) t0 hw rfl rfl rfl (by decide)) rfl rfl (rX10_inconsistencies 4 rfl) rfl (z_dec dX10_inconsistencies 13 rfl) ?_
  refine zz_isub hb (z_dec dX10_inconsistencies 14 rfl) ?_
  refine zz_aload_n hb (z_dec dX10_inconsistencies 15 rfl) rfl 0 rfl ?_
  refine zz_getr (k := 0) (q := 288) hb ho rfl ckX10 t0 rfl rfl (rX10_inconsistencies 0 rfl) rfl (z_dec dX10_inconsistencies 16 rfl) ?_
  refine zz_get (k := 18) hb ho ckX9 (show isT (kw K) 9 288 from isT.f (k := 0) t0 hw rfl rfl rfl (by decide)) rfl rfl (rX10_inconsistencies 5 rfl) rfl (z_dec dX10_inconsistencies 17 rfl) ?_
  refine zz_isub hb (z_dec dX10_inconsistencies 18 rfl) ?_
  exact zz_iret hb hE ⟨Nat.le_refl 0, Nat.le_refl 0⟩ (z_dec dX10_inconsistencies 19 rfl) h1
set_option maxRecDepth 20000 in
theorem bX10_addLetter_0 {K : zK} {P : Option Value → zM → Prop} {X : String → zM → Prop} {u mc : Nat × Nat} (hK : zIs K RX10 cX10_addLetter 6 (some .int) 7 mc P X) (hw : wOK (kw K)) {I : zM} (t0 : isT (kw K) 10 0) {v1 : Int32} {v2 : Int32} {v3 : Int32} {v4 : Int32} {v5 : Int32} {f1 : Nat} {g1 : zM} (g_1 : u.1 ≤ mc.1 ∧ u.2 ≤ mc.2) (m1 : CT (kG K) (kw K) (kl K) (yX10_addFault, cX10_addFault, 6, (some (.object "PenOffice$Fault"))) 1 (0, 0) [.ref 0, .int v1, .int v2, .int v3, .int v4, .int v5] I (qEr f1 g1) nX) {g2 : zM} {mc2 : Nat × Nat} {x2 : String → zM → Prop} {p2 : Prop} (g_2 : u.1 + mc2.1 ≤ mc.1 ∧ u.2 + mc2.2 ≤ mc.2) (n2 : ∀ (E : String) (J : zM), x2 E J → X E J) (m2 : CT (kG K) (kw K) (kl K) (yX10_refuse, cX10_refuse, 1, none) 6 mc2 [.ref f1] g1 (qV (fun J => J = g2 ∧ p2)) x2) {g3 : zM} (g_3 : (u.1 + mc2.1, u.2 + mc2.2).1 ≤ mc.1 ∧ (u.1 + mc2.1, u.2 + mc2.2).2 ≤ mc.2) (m3 : ∀ (cp2 : p2), CT (kG K) (kw K) (kl K) (yX3_keep, cX3_keep, 2, none) 4 (0, 0) [.ref 89, .ref 288] g2 (qV (fun J => J = g3)) nX) {f4 : Int32} {g4 : zM} (g_4 : (u.1 + mc2.1, u.2 + mc2.2).1 ≤ mc.1 ∧ (u.1 + mc2.1, u.2 + mc2.2).2 ≤ mc.2) (m4 : ∀ (cp2 : p2), CT (kG K) (kw K) (kl K) (yX9_putLetter, cX9_putLetter, 7, (some .int)) 0 (0, 0) [.ref 288, .int v1, .int v2, .int ((g3 288 4) + v3), .int v4, .int v5] g3 (qE f4 g4) nX) (g5 : (u.1 + mc2.1, u.2 + mc2.2).1 ≤ mc.1 ∧ (u.1 + mc2.1, u.2 + mc2.2).2 ≤ mc.2) (h6 : ∀ (cp2 : p2), P (some (.int f4)) g4) : ZZ K u 0 [(0, .ref 0), (1, .int v1), (2, .int v2), (3, .int v3), (4, .int v4), (5, .int v5)] [] I := by
  obtain ⟨hb, ho, hnl, hR, hE⟩ := hK
  refine zz_aload_n hb (z_dec dX10_addLetter 0 rfl) rfl 0 rfl ?_
  refine zz_iload_n hb (z_dec dX10_addLetter 1 rfl) rfl 1 rfl ?_
  refine zz_iload_n hb (z_dec dX10_addLetter 2 rfl) rfl 2 rfl ?_
  refine zz_iload_n hb (z_dec dX10_addLetter 3 rfl) rfl 3 rfl ?_
  refine zz_iload hb (z_dec dX10_addLetter 4 rfl) 4 rfl ?_
  refine zz_iload hb (z_dec dX10_addLetter 5 rfl) 5 rfl ?_
  refine zz_inv (as := [.int v1, .int v2, .int v3, .int v4, .int v5]) (d := 1) (mc := (0, 0)) (P := (qEr f1 g1)) (X := nX) hb ho hnl hR hE mkX10_addFault rfl ckX10 t0 rfl g_1 rfl (rX10_addLetter 0 rfl) (rX10_addLetter 1 rfl) (rX10_addLetter 2 rfl) rfl (z_dec dX10_addLetter 6 rfl) m1 (fun v J1 hp => ?_) (fun _ _ h => h.elim)
  obtain ⟨r1, rfl, e1, w1⟩ := hp
  have e1 := e1.symm
  subst e1
  have w1 := w1.symm
  subst w1
  show ZZ K u 11 [(0, .ref 0), (1, .int v1), (2, .int v2), (3, .int v3), (4, .int v4), (5, .int v5)] [.ref f1] g1
  refine zz_invS (as := [.ref f1]) (d := 6) (mc := mc2) (P := (qV (fun J => J = g2 ∧ p2))) (X := x2) hb ho hnl hR hE mkX10_refuse rfl rfl g_2 rfl (rX10_addLetter 3 rfl) (rX10_addLetter 4 rfl) rfl (z_dec dX10_addLetter 7 rfl) m2 (fun v J2 hp => ?_) n2
  obtain ⟨rfl, w2, cp2⟩ := hp
  have w2 := w2.symm
  subst w2
  show ZZ K (u.1 + mc2.1, u.2 + mc2.2) 14 [(0, .ref 0), (1, .int v1), (2, .int v2), (3, .int v3), (4, .int v4), (5, .int v5)] [] g2
  refine zz_aload_n hb (z_dec dX10_addLetter 8 rfl) rfl 0 rfl ?_
  refine zz_getr (k := 5) (q := 89) hb ho rfl ckX10 t0 rfl rfl (rX10_addLetter 5 rfl) rfl (z_dec dX10_addLetter 9 rfl) ?_
  refine zz_aload_n hb (z_dec dX10_addLetter 10 rfl) rfl 0 rfl ?_
  refine zz_getr (k := 0) (q := 288) hb ho rfl ckX10 t0 rfl rfl (rX10_addLetter 6 rfl) rfl (z_dec dX10_addLetter 11 rfl) ?_
  refine zz_inv (as := [.ref 288]) (d := 4) (mc := (0, 0)) (P := (qV (fun J => J = g3))) (X := nX) hb ho hnl hR hE mkX3_keep rfl ckX3 (show isT (kw K) 3 89 from isT.f (k := 5) t0 hw rfl rfl rfl (by decide)) rfl g_3 rfl (rX10_addLetter 7 rfl) (rX10_addLetter 8 rfl) (rX10_addLetter 9 rfl) rfl (z_dec dX10_addLetter 12 rfl) (m3 cp2) (fun v J3 hp => ?_) (fun _ _ h => h.elim)
  obtain ⟨rfl, w3⟩ := hp
  have w3 := w3.symm
  subst w3
  show ZZ K (u.1 + mc2.1, u.2 + mc2.2) 25 [(0, .ref 0), (1, .int v1), (2, .int v2), (3, .int v3), (4, .int v4), (5, .int v5)] [] g3
  refine zz_aload_n hb (z_dec dX10_addLetter 13 rfl) rfl 0 rfl ?_
  refine zz_getr (k := 0) (q := 288) hb ho rfl ckX10 t0 rfl rfl (rX10_addLetter 6 rfl) rfl (z_dec dX10_addLetter 14 rfl) ?_
  refine zz_iload_n hb (z_dec dX10_addLetter 15 rfl) rfl 1 rfl ?_
  refine zz_iload_n hb (z_dec dX10_addLetter 16 rfl) rfl 2 rfl ?_
  refine zz_aload_n hb (z_dec dX10_addLetter 17 rfl) rfl 0 rfl ?_
  refine zz_getr (k := 0) (q := 288) hb ho rfl ckX10 t0 rfl rfl (rX10_addLetter 6 rfl) rfl (z_dec dX10_addLetter 18 rfl) ?_
  refine zz_get (k := 4) hb ho ckX9 (show isT (kw K) 9 288 from isT.f (k := 0) t0 hw rfl rfl rfl (by decide)) rfl rfl (rX10_addLetter 10 rfl) rfl (z_dec dX10_addLetter 19 rfl) ?_
  refine zz_iload_n hb (z_dec dX10_addLetter 20 rfl) rfl 3 rfl ?_
  refine zz_iadd hb (z_dec dX10_addLetter 21 rfl) ?_
  refine zz_iload hb (z_dec dX10_addLetter 22 rfl) 4 rfl ?_
  refine zz_iload hb (z_dec dX10_addLetter 23 rfl) 5 rfl ?_
  refine zz_inv (as := [.int v1, .int v2, .int ((g3 288 4) + v3), .int v4, .int v5]) (d := 0) (mc := (0, 0)) (P := (qE f4 g4)) (X := nX) hb ho hnl hR hE mkX9_putLetter rfl ckX9 (show isT (kw K) 9 288 from isT.f (k := 0) t0 hw rfl rfl rfl (by decide)) rfl g_4 rfl (rX10_addLetter 11 rfl) (rX10_addLetter 12 rfl) (rX10_addLetter 13 rfl) rfl (z_dec dX10_addLetter 24 rfl) (m4 cp2) (fun v J4 hp => ?_) (fun _ _ h => h.elim)
  obtain ⟨r4, rfl, e4, w4⟩ := hp
  have e4 := e4.symm
  subst e4
  have w4 := w4.symm
  subst w4
  show ZZ K (u.1 + mc2.1, u.2 + mc2.2) 47 [(0, .ref 0), (1, .int v1), (2, .int v2), (3, .int v3), (4, .int v4), (5, .int v5)] [.int f4] g4
  exact zz_iret hb hE g5 (z_dec dX10_addLetter 25 rfl) (h6 cp2)
set_option maxRecDepth 20000 in
theorem bX10_pass_0 {K : zK} {P : Option Value → zM → Prop} {X : String → zM → Prop} {u mc : Nat × Nat} (hK : zIs K RX10 cX10_pass 2 (some .int) 7 mc P X) (hw : wOK (kw K)) {I : zM} (t0 : isT (kw K) 10 0) {v1 : Int32} {f1 : Nat} {g1 : zM} (g_1 : u.1 ≤ mc.1 ∧ u.2 ≤ mc.2) (m1 : CT (kG K) (kw K) (kl K) (yX10_passFault, cX10_passFault, 2, (some (.object "PenOffice$Fault"))) 1 (0, 0) [.ref 0, .int v1] I (qEr f1 g1) nX) {g2 : zM} {mc2 : Nat × Nat} {x2 : String → zM → Prop} {p2 : Prop} (g_2 : u.1 + mc2.1 ≤ mc.1 ∧ u.2 + mc2.2 ≤ mc.2) (n2 : ∀ (E : String) (J : zM), x2 E J → X E J) (m2 : CT (kG K) (kw K) (kl K) (yX10_refuse, cX10_refuse, 1, none) 6 mc2 [.ref f1] g1 (qV (fun J => J = g2 ∧ p2)) x2) {g3 : zM} (g_3 : (u.1 + mc2.1, u.2 + mc2.2).1 ≤ mc.1 ∧ (u.1 + mc2.1, u.2 + mc2.2).2 ≤ mc.2) (m3 : ∀ (cp2 : p2), CT (kG K) (kw K) (kl K) (yX3_keep, cX3_keep, 2, none) 4 (0, 0) [.ref 89, .ref 288] g2 (qV (fun J => J = g3)) nX) {f4 : Int32} {g4 : zM} (g_4 : (u.1 + mc2.1, u.2 + mc2.2).1 ≤ mc.1 ∧ (u.1 + mc2.1, u.2 + mc2.2).2 ≤ mc.2) (m4 : ∀ (cp2 : p2), CT (kG K) (kw K) (kl K) (yX9_runMinutes, cX9_runMinutes, 4, (some .int)) 4 (0, 0) [.ref 288, .int v1] g3 (qE f4 g4) nX) (g5 : (u.1 + mc2.1, u.2 + mc2.2).1 ≤ mc.1 ∧ (u.1 + mc2.1, u.2 + mc2.2).2 ≤ mc.2) (h6 : ∀ (cp2 : p2), P (some (.int f4)) g4) : ZZ K u 0 [(0, .ref 0), (1, .int v1)] [] I := by
  obtain ⟨hb, ho, hnl, hR, hE⟩ := hK
  refine zz_aload_n hb (z_dec dX10_pass 0 rfl) rfl 0 rfl ?_
  refine zz_iload_n hb (z_dec dX10_pass 1 rfl) rfl 1 rfl ?_
  refine zz_inv (as := [.int v1]) (d := 1) (mc := (0, 0)) (P := (qEr f1 g1)) (X := nX) hb ho hnl hR hE mkX10_passFault rfl ckX10 t0 rfl g_1 rfl (rX10_pass 0 rfl) (rX10_pass 1 rfl) (rX10_pass 2 rfl) rfl (z_dec dX10_pass 2 rfl) m1 (fun v J1 hp => ?_) (fun _ _ h => h.elim)
  obtain ⟨r1, rfl, e1, w1⟩ := hp
  have e1 := e1.symm
  subst e1
  have w1 := w1.symm
  subst w1
  show ZZ K u 5 [(0, .ref 0), (1, .int v1)] [.ref f1] g1
  refine zz_invS (as := [.ref f1]) (d := 6) (mc := mc2) (P := (qV (fun J => J = g2 ∧ p2))) (X := x2) hb ho hnl hR hE mkX10_refuse rfl rfl g_2 rfl (rX10_pass 3 rfl) (rX10_pass 4 rfl) rfl (z_dec dX10_pass 3 rfl) m2 (fun v J2 hp => ?_) n2
  obtain ⟨rfl, w2, cp2⟩ := hp
  have w2 := w2.symm
  subst w2
  show ZZ K (u.1 + mc2.1, u.2 + mc2.2) 8 [(0, .ref 0), (1, .int v1)] [] g2
  refine zz_aload_n hb (z_dec dX10_pass 4 rfl) rfl 0 rfl ?_
  refine zz_getr (k := 5) (q := 89) hb ho rfl ckX10 t0 rfl rfl (rX10_pass 5 rfl) rfl (z_dec dX10_pass 5 rfl) ?_
  refine zz_aload_n hb (z_dec dX10_pass 6 rfl) rfl 0 rfl ?_
  refine zz_getr (k := 0) (q := 288) hb ho rfl ckX10 t0 rfl rfl (rX10_pass 6 rfl) rfl (z_dec dX10_pass 7 rfl) ?_
  refine zz_inv (as := [.ref 288]) (d := 4) (mc := (0, 0)) (P := (qV (fun J => J = g3))) (X := nX) hb ho hnl hR hE mkX3_keep rfl ckX3 (show isT (kw K) 3 89 from isT.f (k := 5) t0 hw rfl rfl rfl (by decide)) rfl g_3 rfl (rX10_pass 7 rfl) (rX10_pass 8 rfl) (rX10_pass 9 rfl) rfl (z_dec dX10_pass 8 rfl) (m3 cp2) (fun v J3 hp => ?_) (fun _ _ h => h.elim)
  obtain ⟨rfl, w3⟩ := hp
  have w3 := w3.symm
  subst w3
  show ZZ K (u.1 + mc2.1, u.2 + mc2.2) 19 [(0, .ref 0), (1, .int v1)] [] g3
  refine zz_aload_n hb (z_dec dX10_pass 9 rfl) rfl 0 rfl ?_
  refine zz_getr (k := 0) (q := 288) hb ho rfl ckX10 t0 rfl rfl (rX10_pass 6 rfl) rfl (z_dec dX10_pass 10 rfl) ?_
  refine zz_iload_n hb (z_dec dX10_pass 11 rfl) rfl 1 rfl ?_
  refine zz_inv (as := [.int v1]) (d := 4) (mc := (0, 0)) (P := (qE f4 g4)) (X := nX) hb ho hnl hR hE mkX9_runMinutes rfl ckX9 (show isT (kw K) 9 288 from isT.f (k := 0) t0 hw rfl rfl rfl (by decide)) rfl g_4 rfl (rX10_pass 10 rfl) (rX10_pass 11 rfl) (rX10_pass 12 rfl) rfl (z_dec dX10_pass 12 rfl) (m4 cp2) (fun v J4 hp => ?_) (fun _ _ h => h.elim)
  obtain ⟨r4, rfl, e4, w4⟩ := hp
  have e4 := e4.symm
  subst e4
  have w4 := w4.symm
  subst w4
  show ZZ K (u.1 + mc2.1, u.2 + mc2.2) 27 [(0, .ref 0), (1, .int v1)] [.int f4] g4
  exact zz_iret hb hE g5 (z_dec dX10_pass 13 rfl) (h6 cp2)
set_option maxRecDepth 20000 in
theorem bX10_setPolicy_0 {K : zK} {P : Option Value → zM → Prop} {X : String → zM → Prop} {u mc : Nat × Nat} (hK : zIs K RX10 cX10_setPolicy 3 (some .int) 7 mc P X) (hw : wOK (kw K)) {I : zM} (t0 : isT (kw K) 10 0) {v1 : Int32} {f1 : Nat} {g1 : zM} (g_1 : u.1 ≤ mc.1 ∧ u.2 ≤ mc.2) (m1 : CT (kG K) (kw K) (kl K) (yX10_policyFault, cX10_policyFault, 1, (some (.object "PenOffice$Fault"))) 1 (0, 0) [.int v1] I (qEr f1 g1) nX) {g2 : zM} {mc2 : Nat × Nat} {x2 : String → zM → Prop} {p2 : Prop} (g_2 : u.1 + mc2.1 ≤ mc.1 ∧ u.2 + mc2.2 ≤ mc.2) (n2 : ∀ (E : String) (J : zM), x2 E J → X E J) (m2 : CT (kG K) (kw K) (kl K) (yX10_refuse, cX10_refuse, 1, none) 6 mc2 [.ref f1] g1 (qV (fun J => J = g2 ∧ p2)) x2) {g3 : zM} (g_3 : (u.1 + mc2.1, u.2 + mc2.2).1 ≤ mc.1 ∧ (u.1 + mc2.1, u.2 + mc2.2).2 ≤ mc.2) (m3 : ∀ (cp2 : p2), CT (kG K) (kw K) (kl K) (yX3_keep, cX3_keep, 2, none) 4 (0, 0) [.ref 89, .ref 288] g2 (qV (fun J => J = g3)) nX) (g4 : (u.1 + mc2.1, u.2 + mc2.2).1 ≤ mc.1 ∧ (u.1 + mc2.1, u.2 + mc2.2).2 ≤ mc.2) (h5 : ∀ (cp2 : p2), P (some (.int (g3 288 5))) (up g3 288 5 v1)) : ZZ K u 0 [(0, .ref 0), (1, .int v1)] [] I := by
  obtain ⟨hb, ho, hnl, hR, hE⟩ := hK
  refine zz_iload_n hb (z_dec dX10_setPolicy 0 rfl) rfl 1 rfl ?_
  refine zz_invS (as := [.int v1]) (d := 1) (mc := (0, 0)) (P := (qEr f1 g1)) (X := nX) hb ho hnl hR hE mkX10_policyFault rfl rfl g_1 rfl (rX10_setPolicy 0 rfl) (rX10_setPolicy 1 rfl) rfl (z_dec dX10_setPolicy 1 rfl) m1 (fun v J1 hp => ?_) (fun _ _ h => h.elim)
  obtain ⟨r1, rfl, e1, w1⟩ := hp
  have e1 := e1.symm
  subst e1
  have w1 := w1.symm
  subst w1
  show ZZ K u 4 [(0, .ref 0), (1, .int v1)] [.ref f1] g1
  refine zz_invS (as := [.ref f1]) (d := 6) (mc := mc2) (P := (qV (fun J => J = g2 ∧ p2))) (X := x2) hb ho hnl hR hE mkX10_refuse rfl rfl g_2 rfl (rX10_setPolicy 2 rfl) (rX10_setPolicy 3 rfl) rfl (z_dec dX10_setPolicy 2 rfl) m2 (fun v J2 hp => ?_) n2
  obtain ⟨rfl, w2, cp2⟩ := hp
  have w2 := w2.symm
  subst w2
  show ZZ K (u.1 + mc2.1, u.2 + mc2.2) 7 [(0, .ref 0), (1, .int v1)] [] g2
  refine zz_aload_n hb (z_dec dX10_setPolicy 3 rfl) rfl 0 rfl ?_
  refine zz_getr (k := 5) (q := 89) hb ho rfl ckX10 t0 rfl rfl (rX10_setPolicy 4 rfl) rfl (z_dec dX10_setPolicy 4 rfl) ?_
  refine zz_aload_n hb (z_dec dX10_setPolicy 5 rfl) rfl 0 rfl ?_
  refine zz_getr (k := 0) (q := 288) hb ho rfl ckX10 t0 rfl rfl (rX10_setPolicy 5 rfl) rfl (z_dec dX10_setPolicy 6 rfl) ?_
  refine zz_inv (as := [.ref 288]) (d := 4) (mc := (0, 0)) (P := (qV (fun J => J = g3))) (X := nX) hb ho hnl hR hE mkX3_keep rfl ckX3 (show isT (kw K) 3 89 from isT.f (k := 5) t0 hw rfl rfl rfl (by decide)) rfl g_3 rfl (rX10_setPolicy 6 rfl) (rX10_setPolicy 7 rfl) (rX10_setPolicy 8 rfl) rfl (z_dec dX10_setPolicy 7 rfl) (m3 cp2) (fun v J3 hp => ?_) (fun _ _ h => h.elim)
  obtain ⟨rfl, w3⟩ := hp
  have w3 := w3.symm
  subst w3
  show ZZ K (u.1 + mc2.1, u.2 + mc2.2) 18 [(0, .ref 0), (1, .int v1)] [] g3
  refine zz_aload_n hb (z_dec dX10_setPolicy 8 rfl) rfl 0 rfl ?_
  refine zz_getr (k := 0) (q := 288) hb ho rfl ckX10 t0 rfl rfl (rX10_setPolicy 5 rfl) rfl (z_dec dX10_setPolicy 9 rfl) ?_
  refine zz_get (k := 5) hb ho ckX9 (show isT (kw K) 9 288 from isT.f (k := 0) t0 hw rfl rfl rfl (by decide)) rfl rfl (rX10_setPolicy 9 rfl) rfl (z_dec dX10_setPolicy 10 rfl) ?_
  refine zz_istore_n (L' := [(0, .ref 0), (1, .int v1), (2, .int (g3 288 5))]) hb (z_dec dX10_setPolicy 11 rfl) rfl hnl rfl [1, 2, 0] rfl ?_
  refine zz_aload_n hb (z_dec dX10_setPolicy 12 rfl) rfl 0 rfl ?_
  refine zz_getr (k := 0) (q := 288) hb ho rfl ckX10 t0 rfl rfl (rX10_setPolicy 5 rfl) rfl (z_dec dX10_setPolicy 13 rfl) ?_
  refine zz_iload_n hb (z_dec dX10_setPolicy 14 rfl) rfl 1 rfl ?_
  refine zz_put (k := 5) hb ho ckX9 (show isT (kw K) 9 288 from isT.f (k := 0) t0 hw rfl rfl rfl (by decide)) rfl rfl (rX10_setPolicy 9 rfl) rfl rfl rfl (z_dec dX10_setPolicy 15 rfl) ?_
  refine zz_iload_n hb (z_dec dX10_setPolicy 16 rfl) rfl 2 rfl ?_
  exact zz_iret hb hE g4 (z_dec dX10_setPolicy 17 rfl) (h5 cp2)
set_option maxRecDepth 20000 in
theorem bX10_setDeadline_0 {K : zK} {P : Option Value → zM → Prop} {X : String → zM → Prop} {u mc : Nat × Nat} (hK : zIs K RX10 cX10_setDeadline 4 (some .int) 7 mc P X) (hw : wOK (kw K)) {I : zM} (t0 : isT (kw K) 10 0) {v1 : Int32} {v2 : Int32} {f1 : Nat} {g1 : zM} (g_1 : u.1 ≤ mc.1 ∧ u.2 ≤ mc.2) (m1 : CT (kG K) (kw K) (kl K) (yX10_deadlineFault, cX10_deadlineFault, 3, (some (.object "PenOffice$Fault"))) 1 (0, 0) [.ref 0, .int v1, .int v2] I (qEr f1 g1) nX) {g2 : zM} {mc2 : Nat × Nat} {x2 : String → zM → Prop} {p2 : Prop} (g_2 : u.1 + mc2.1 ≤ mc.1 ∧ u.2 + mc2.2 ≤ mc.2) (n2 : ∀ (E : String) (J : zM), x2 E J → X E J) (m2 : CT (kG K) (kw K) (kl K) (yX10_refuse, cX10_refuse, 1, none) 6 mc2 [.ref f1] g1 (qV (fun J => J = g2 ∧ p2)) x2) {g3 : zM} (g_3 : (u.1 + mc2.1, u.2 + mc2.2).1 ≤ mc.1 ∧ (u.1 + mc2.1, u.2 + mc2.2).2 ≤ mc.2) (m3 : ∀ (cp2 : p2), CT (kG K) (kw K) (kl K) (yX3_keep, cX3_keep, 2, none) 4 (0, 0) [.ref 89, .ref 288] g2 (qV (fun J => J = g3)) nX) (h4 : ∀ (cp2 : p2), vp_in v1 12) (h5 : ∀ (cp2 : p2), vp_in v1 12) (g6 : (u.1 + mc2.1, u.2 + mc2.2).1 ≤ mc.1 ∧ (u.1 + mc2.1, u.2 + mc2.2).2 ≤ mc.2) (h7 : ∀ (cp2 : p2), P (some (.int (g3 (LR 299 v1.toNatClampNeg) 3))) (up g3 (LR 299 v1.toNatClampNeg) 3 v2)) : ZZ K u 0 [(0, .ref 0), (1, .int v1), (2, .int v2)] [] I := by
  obtain ⟨hb, ho, hnl, hR, hE⟩ := hK
  refine zz_aload_n hb (z_dec dX10_setDeadline 0 rfl) rfl 0 rfl ?_
  refine zz_iload_n hb (z_dec dX10_setDeadline 1 rfl) rfl 1 rfl ?_
  refine zz_iload_n hb (z_dec dX10_setDeadline 2 rfl) rfl 2 rfl ?_
  refine zz_inv (as := [.int v1, .int v2]) (d := 1) (mc := (0, 0)) (P := (qEr f1 g1)) (X := nX) hb ho hnl hR hE mkX10_deadlineFault rfl ckX10 t0 rfl g_1 rfl (rX10_setDeadline 0 rfl) (rX10_setDeadline 1 rfl) (rX10_setDeadline 2 rfl) rfl (z_dec dX10_setDeadline 3 rfl) m1 (fun v J1 hp => ?_) (fun _ _ h => h.elim)
  obtain ⟨r1, rfl, e1, w1⟩ := hp
  have e1 := e1.symm
  subst e1
  have w1 := w1.symm
  subst w1
  show ZZ K u 6 [(0, .ref 0), (1, .int v1), (2, .int v2)] [.ref f1] g1
  refine zz_invS (as := [.ref f1]) (d := 6) (mc := mc2) (P := (qV (fun J => J = g2 ∧ p2))) (X := x2) hb ho hnl hR hE mkX10_refuse rfl rfl g_2 rfl (rX10_setDeadline 3 rfl) (rX10_setDeadline 4 rfl) rfl (z_dec dX10_setDeadline 4 rfl) m2 (fun v J2 hp => ?_) n2
  obtain ⟨rfl, w2, cp2⟩ := hp
  have w2 := w2.symm
  subst w2
  show ZZ K (u.1 + mc2.1, u.2 + mc2.2) 9 [(0, .ref 0), (1, .int v1), (2, .int v2)] [] g2
  refine zz_aload_n hb (z_dec dX10_setDeadline 5 rfl) rfl 0 rfl ?_
  refine zz_getr (k := 5) (q := 89) hb ho rfl ckX10 t0 rfl rfl (rX10_setDeadline 5 rfl) rfl (z_dec dX10_setDeadline 6 rfl) ?_
  refine zz_aload_n hb (z_dec dX10_setDeadline 7 rfl) rfl 0 rfl ?_
  refine zz_getr (k := 0) (q := 288) hb ho rfl ckX10 t0 rfl rfl (rX10_setDeadline 6 rfl) rfl (z_dec dX10_setDeadline 8 rfl) ?_
  refine zz_inv (as := [.ref 288]) (d := 4) (mc := (0, 0)) (P := (qV (fun J => J = g3))) (X := nX) hb ho hnl hR hE mkX3_keep rfl ckX3 (show isT (kw K) 3 89 from isT.f (k := 5) t0 hw rfl rfl rfl (by decide)) rfl g_3 rfl (rX10_setDeadline 7 rfl) (rX10_setDeadline 8 rfl) (rX10_setDeadline 9 rfl) rfl (z_dec dX10_setDeadline 9 rfl) (m3 cp2) (fun v J3 hp => ?_) (fun _ _ h => h.elim)
  obtain ⟨rfl, w3⟩ := hp
  have w3 := w3.symm
  subst w3
  show ZZ K (u.1 + mc2.1, u.2 + mc2.2) 20 [(0, .ref 0), (1, .int v1), (2, .int v2)] [] g3
  refine zz_aload_n hb (z_dec dX10_setDeadline 10 rfl) rfl 0 rfl ?_
  refine zz_getr (k := 0) (q := 288) hb ho rfl ckX10 t0 rfl rfl (rX10_setDeadline 6 rfl) rfl (z_dec dX10_setDeadline 11 rfl) ?_
  refine zz_getr (k := 2) (q := 299) hb ho rfl ckX9 (show isT (kw K) 9 288 from isT.f (k := 0) t0 hw rfl rfl rfl (by decide)) rfl rfl (rX10_setDeadline 10 rfl) rfl (z_dec dX10_setDeadline 12 rfl) ?_
  refine zz_iload_n hb (z_dec dX10_setDeadline 13 rfl) rfl 1 rfl ?_
  refine zz_aald (j := v1.toNatClampNeg) (q := (LR 299 v1.toNatClampNeg)) hb (show isT (kw K) 31 299 from isT.f (k := 2) (show isT (kw K) 9 288 from isT.f (k := 0) t0 hw rfl rfl rfl (by decide)) hw rfl rfl rfl (by decide)) (by decide) rfl rfl (zvi rfl (h4 cp2)) (z_dec dX10_setDeadline 14 rfl) ?_
  refine zz_get (k := 3) hb ho ckX5 (show isT (kw K) 5 (LR 299 v1.toNatClampNeg) from isT.a (i := v1) (show isT (kw K) 31 299 from isT.f (k := 2) (show isT (kw K) 9 288 from isT.f (k := 0) t0 hw rfl rfl rfl (by decide)) hw rfl rfl rfl (by decide)) hw (zvi rfl (h4 cp2)) rfl (fun _ => rfl) (by decide)) rfl rfl (rX10_setDeadline 11 rfl) rfl (z_dec dX10_setDeadline 15 rfl) ?_
  refine zz_istore_n (L' := [(0, .ref 0), (1, .int v1), (2, .int v2), (3, .int (g3 (LR 299 v1.toNatClampNeg) 3))]) hb (z_dec dX10_setDeadline 16 rfl) rfl hnl rfl [1, 2, 3, 0] rfl ?_
  refine zz_aload_n hb (z_dec dX10_setDeadline 17 rfl) rfl 0 rfl ?_
  refine zz_getr (k := 0) (q := 288) hb ho rfl ckX10 t0 rfl rfl (rX10_setDeadline 6 rfl) rfl (z_dec dX10_setDeadline 18 rfl) ?_
  refine zz_getr (k := 2) (q := 299) hb ho rfl ckX9 (show isT (kw K) 9 288 from isT.f (k := 0) t0 hw rfl rfl rfl (by decide)) rfl rfl (rX10_setDeadline 10 rfl) rfl (z_dec dX10_setDeadline 19 rfl) ?_
  refine zz_iload_n hb (z_dec dX10_setDeadline 20 rfl) rfl 1 rfl ?_
  refine zz_aald (j := v1.toNatClampNeg) (q := (LR 299 v1.toNatClampNeg)) hb (show isT (kw K) 31 299 from isT.f (k := 2) (show isT (kw K) 9 288 from isT.f (k := 0) t0 hw rfl rfl rfl (by decide)) hw rfl rfl rfl (by decide)) (by decide) rfl rfl (zvi rfl (h5 cp2)) (z_dec dX10_setDeadline 21 rfl) ?_
  refine zz_iload_n hb (z_dec dX10_setDeadline 22 rfl) rfl 2 rfl ?_
  refine zz_put (k := 3) hb ho ckX5 (show isT (kw K) 5 (LR 299 v1.toNatClampNeg) from isT.a (i := v1) (show isT (kw K) 31 299 from isT.f (k := 2) (show isT (kw K) 9 288 from isT.f (k := 0) t0 hw rfl rfl rfl (by decide)) hw rfl rfl rfl (by decide)) hw (zvi rfl (h5 cp2)) rfl (fun _ => rfl) (by decide)) rfl rfl (rX10_setDeadline 11 rfl) rfl rfl rfl (z_dec dX10_setDeadline 23 rfl) ?_
  refine zz_iload_n hb (z_dec dX10_setDeadline 24 rfl) rfl 3 rfl ?_
  exact zz_iret hb hE g6 (z_dec dX10_setDeadline 25 rfl) (h7 cp2)
set_option maxRecDepth 20000 in
theorem bX10_setPriority_0 {K : zK} {P : Option Value → zM → Prop} {X : String → zM → Prop} {u mc : Nat × Nat} (hK : zIs K RX10 cX10_setPriority 4 (some .int) 7 mc P X) (hw : wOK (kw K)) {I : zM} (t0 : isT (kw K) 10 0) {v1 : Int32} {v2 : Int32} {f1 : Nat} {g1 : zM} (g_1 : u.1 ≤ mc.1 ∧ u.2 ≤ mc.2) (m1 : CT (kG K) (kw K) (kl K) (yX10_priorityFault, cX10_priorityFault, 3, (some (.object "PenOffice$Fault"))) 1 (0, 0) [.ref 0, .int v1, .int v2] I (qEr f1 g1) nX) {g2 : zM} {mc2 : Nat × Nat} {x2 : String → zM → Prop} {p2 : Prop} (g_2 : u.1 + mc2.1 ≤ mc.1 ∧ u.2 + mc2.2 ≤ mc.2) (n2 : ∀ (E : String) (J : zM), x2 E J → X E J) (m2 : CT (kG K) (kw K) (kl K) (yX10_refuse, cX10_refuse, 1, none) 6 mc2 [.ref f1] g1 (qV (fun J => J = g2 ∧ p2)) x2) {g3 : zM} (g_3 : (u.1 + mc2.1, u.2 + mc2.2).1 ≤ mc.1 ∧ (u.1 + mc2.1, u.2 + mc2.2).2 ≤ mc.2) (m3 : ∀ (cp2 : p2), CT (kG K) (kw K) (kl K) (yX3_keep, cX3_keep, 2, none) 4 (0, 0) [.ref 89, .ref 288] g2 (qV (fun J => J = g3)) nX) (h4 : ∀ (cp2 : p2), vp_in v1 12) (h5 : ∀ (cp2 : p2), vp_in v1 12) (g6 : (u.1 + mc2.1, u.2 + mc2.2).1 ≤ mc.1 ∧ (u.1 + mc2.1, u.2 + mc2.2).2 ≤ mc.2) (h7 : ∀ (cp2 : p2), P (some (.int (g3 (LR 299 v1.toNatClampNeg) 4))) (up g3 (LR 299 v1.toNatClampNeg) 4 v2)) : ZZ K u 0 [(0, .ref 0), (1, .int v1), (2, .int v2)] [] I := by
  obtain ⟨hb, ho, hnl, hR, hE⟩ := hK
  refine zz_aload_n hb (z_dec dX10_setPriority 0 rfl) rfl 0 rfl ?_
  refine zz_iload_n hb (z_dec dX10_setPriority 1 rfl) rfl 1 rfl ?_
  refine zz_iload_n hb (z_dec dX10_setPriority 2 rfl) rfl 2 rfl ?_
  refine zz_inv (as := [.int v1, .int v2]) (d := 1) (mc := (0, 0)) (P := (qEr f1 g1)) (X := nX) hb ho hnl hR hE mkX10_priorityFault rfl ckX10 t0 rfl g_1 rfl (rX10_setPriority 0 rfl) (rX10_setPriority 1 rfl) (rX10_setPriority 2 rfl) rfl (z_dec dX10_setPriority 3 rfl) m1 (fun v J1 hp => ?_) (fun _ _ h => h.elim)
  obtain ⟨r1, rfl, e1, w1⟩ := hp
  have e1 := e1.symm
  subst e1
  have w1 := w1.symm
  subst w1
  show ZZ K u 6 [(0, .ref 0), (1, .int v1), (2, .int v2)] [.ref f1] g1
  refine zz_invS (as := [.ref f1]) (d := 6) (mc := mc2) (P := (qV (fun J => J = g2 ∧ p2))) (X := x2) hb ho hnl hR hE mkX10_refuse rfl rfl g_2 rfl (rX10_setPriority 3 rfl) (rX10_setPriority 4 rfl) rfl (z_dec dX10_setPriority 4 rfl) m2 (fun v J2 hp => ?_) n2
  obtain ⟨rfl, w2, cp2⟩ := hp
  have w2 := w2.symm
  subst w2
  show ZZ K (u.1 + mc2.1, u.2 + mc2.2) 9 [(0, .ref 0), (1, .int v1), (2, .int v2)] [] g2
  refine zz_aload_n hb (z_dec dX10_setPriority 5 rfl) rfl 0 rfl ?_
  refine zz_getr (k := 5) (q := 89) hb ho rfl ckX10 t0 rfl rfl (rX10_setPriority 5 rfl) rfl (z_dec dX10_setPriority 6 rfl) ?_
  refine zz_aload_n hb (z_dec dX10_setPriority 7 rfl) rfl 0 rfl ?_
  refine zz_getr (k := 0) (q := 288) hb ho rfl ckX10 t0 rfl rfl (rX10_setPriority 6 rfl) rfl (z_dec dX10_setPriority 8 rfl) ?_
  refine zz_inv (as := [.ref 288]) (d := 4) (mc := (0, 0)) (P := (qV (fun J => J = g3))) (X := nX) hb ho hnl hR hE mkX3_keep rfl ckX3 (show isT (kw K) 3 89 from isT.f (k := 5) t0 hw rfl rfl rfl (by decide)) rfl g_3 rfl (rX10_setPriority 7 rfl) (rX10_setPriority 8 rfl) (rX10_setPriority 9 rfl) rfl (z_dec dX10_setPriority 9 rfl) (m3 cp2) (fun v J3 hp => ?_) (fun _ _ h => h.elim)
  obtain ⟨rfl, w3⟩ := hp
  have w3 := w3.symm
  subst w3
  show ZZ K (u.1 + mc2.1, u.2 + mc2.2) 20 [(0, .ref 0), (1, .int v1), (2, .int v2)] [] g3
  refine zz_aload_n hb (z_dec dX10_setPriority 10 rfl) rfl 0 rfl ?_
  refine zz_getr (k := 0) (q := 288) hb ho rfl ckX10 t0 rfl rfl (rX10_setPriority 6 rfl) rfl (z_dec dX10_setPriority 11 rfl) ?_
  refine zz_getr (k := 2) (q := 299) hb ho rfl ckX9 (show isT (kw K) 9 288 from isT.f (k := 0) t0 hw rfl rfl rfl (by decide)) rfl rfl (rX10_setPriority 10 rfl) rfl (z_dec dX10_setPriority 12 rfl) ?_
  refine zz_iload_n hb (z_dec dX10_setPriority 13 rfl) rfl 1 rfl ?_
  refine zz_aald (j := v1.toNatClampNeg) (q := (LR 299 v1.toNatClampNeg)) hb (show isT (kw K) 31 299 from isT.f (k := 2) (show isT (kw K) 9 288 from isT.f (k := 0) t0 hw rfl rfl rfl (by decide)) hw rfl rfl rfl (by decide)) (by decide) rfl rfl (zvi rfl (h4 cp2)) (z_dec dX10_setPriority 14 rfl) ?_
  refine zz_get (k := 4) hb ho ckX5 (show isT (kw K) 5 (LR 299 v1.toNatClampNeg) from isT.a (i := v1) (show isT (kw K) 31 299 from isT.f (k := 2) (show isT (kw K) 9 288 from isT.f (k := 0) t0 hw rfl rfl rfl (by decide)) hw rfl rfl rfl (by decide)) hw (zvi rfl (h4 cp2)) rfl (fun _ => rfl) (by decide)) rfl rfl (rX10_setPriority 11 rfl) rfl (z_dec dX10_setPriority 15 rfl) ?_
  refine zz_istore_n (L' := [(0, .ref 0), (1, .int v1), (2, .int v2), (3, .int (g3 (LR 299 v1.toNatClampNeg) 4))]) hb (z_dec dX10_setPriority 16 rfl) rfl hnl rfl [1, 2, 3, 0] rfl ?_
  refine zz_aload_n hb (z_dec dX10_setPriority 17 rfl) rfl 0 rfl ?_
  refine zz_getr (k := 0) (q := 288) hb ho rfl ckX10 t0 rfl rfl (rX10_setPriority 6 rfl) rfl (z_dec dX10_setPriority 18 rfl) ?_
  refine zz_getr (k := 2) (q := 299) hb ho rfl ckX9 (show isT (kw K) 9 288 from isT.f (k := 0) t0 hw rfl rfl rfl (by decide)) rfl rfl (rX10_setPriority 10 rfl) rfl (z_dec dX10_setPriority 19 rfl) ?_
  refine zz_iload_n hb (z_dec dX10_setPriority 20 rfl) rfl 1 rfl ?_
  refine zz_aald (j := v1.toNatClampNeg) (q := (LR 299 v1.toNatClampNeg)) hb (show isT (kw K) 31 299 from isT.f (k := 2) (show isT (kw K) 9 288 from isT.f (k := 0) t0 hw rfl rfl rfl (by decide)) hw rfl rfl rfl (by decide)) (by decide) rfl rfl (zvi rfl (h5 cp2)) (z_dec dX10_setPriority 21 rfl) ?_
  refine zz_iload_n hb (z_dec dX10_setPriority 22 rfl) rfl 2 rfl ?_
  refine zz_put (k := 4) hb ho ckX5 (show isT (kw K) 5 (LR 299 v1.toNatClampNeg) from isT.a (i := v1) (show isT (kw K) 31 299 from isT.f (k := 2) (show isT (kw K) 9 288 from isT.f (k := 0) t0 hw rfl rfl rfl (by decide)) hw rfl rfl rfl (by decide)) hw (zvi rfl (h5 cp2)) rfl (fun _ => rfl) (by decide)) rfl rfl (rX10_setPriority 11 rfl) rfl rfl rfl (z_dec dX10_setPriority 23 rfl) ?_
  refine zz_iload_n hb (z_dec dX10_setPriority 24 rfl) rfl 3 rfl ?_
  exact zz_iret hb hE g6 (z_dec dX10_setPriority 25 rfl) (h7 cp2)
set_option maxRecDepth 20000 in
theorem bX10_discard_0 {K : zK} {P : Option Value → zM → Prop} {X : String → zM → Prop} {u mc : Nat × Nat} (hK : zIs K RX10 cX10_discard 2 (some .int) 7 mc P X) (hw : wOK (kw K)) {I : zM} (t0 : isT (kw K) 10 0) {v1 : Int32} {f1 : Nat} {g1 : zM} (g_1 : u.1 ≤ mc.1 ∧ u.2 ≤ mc.2) (m1 : CT (kG K) (kw K) (kl K) (yX10_discardFault, cX10_discardFault, 2, (some (.object "PenOffice$Fault"))) 1 (0, 0) [.ref 0, .int v1] I (qEr f1 g1) nX) {g2 : zM} {mc2 : Nat × Nat} {x2 : String → zM → Prop} {p2 : Prop} (g_2 : u.1 + mc2.1 ≤ mc.1 ∧ u.2 + mc2.2 ≤ mc.2) (n2 : ∀ (E : String) (J : zM), x2 E J → X E J) (m2 : CT (kG K) (kw K) (kl K) (yX10_refuse, cX10_refuse, 1, none) 6 mc2 [.ref f1] g1 (qV (fun J => J = g2 ∧ p2)) x2) {g3 : zM} (g_3 : (u.1 + mc2.1, u.2 + mc2.2).1 ≤ mc.1 ∧ (u.1 + mc2.1, u.2 + mc2.2).2 ≤ mc.2) (m3 : ∀ (cp2 : p2), CT (kG K) (kw K) (kl K) (yX3_keep, cX3_keep, 2, none) 4 (0, 0) [.ref 89, .ref 288] g2 (qV (fun J => J = g3)) nX) {f4 : Int32} {g4 : zM} (g_4 : (u.1 + mc2.1, u.2 + mc2.2).1 ≤ mc.1 ∧ (u.1 + mc2.1, u.2 + mc2.2).2 ≤ mc.2) (m4 : ∀ (cp2 : p2), CT (kG K) (kw K) (kl K) (yX9_dropLetter, cX9_dropLetter, 4, (some .int)) 0 (0, 0) [.ref 288, .int v1] g3 (qE f4 g4) nX) (g5 : (u.1 + mc2.1, u.2 + mc2.2).1 ≤ mc.1 ∧ (u.1 + mc2.1, u.2 + mc2.2).2 ≤ mc.2) (h6 : ∀ (cp2 : p2), P (some (.int f4)) g4) : ZZ K u 0 [(0, .ref 0), (1, .int v1)] [] I := by
  obtain ⟨hb, ho, hnl, hR, hE⟩ := hK
  refine zz_aload_n hb (z_dec dX10_discard 0 rfl) rfl 0 rfl ?_
  refine zz_iload_n hb (z_dec dX10_discard 1 rfl) rfl 1 rfl ?_
  refine zz_inv (as := [.int v1]) (d := 1) (mc := (0, 0)) (P := (qEr f1 g1)) (X := nX) hb ho hnl hR hE mkX10_discardFault rfl ckX10 t0 rfl g_1 rfl (rX10_discard 0 rfl) (rX10_discard 1 rfl) (rX10_discard 2 rfl) rfl (z_dec dX10_discard 2 rfl) m1 (fun v J1 hp => ?_) (fun _ _ h => h.elim)
  obtain ⟨r1, rfl, e1, w1⟩ := hp
  have e1 := e1.symm
  subst e1
  have w1 := w1.symm
  subst w1
  show ZZ K u 5 [(0, .ref 0), (1, .int v1)] [.ref f1] g1
  refine zz_invS (as := [.ref f1]) (d := 6) (mc := mc2) (P := (qV (fun J => J = g2 ∧ p2))) (X := x2) hb ho hnl hR hE mkX10_refuse rfl rfl g_2 rfl (rX10_discard 3 rfl) (rX10_discard 4 rfl) rfl (z_dec dX10_discard 3 rfl) m2 (fun v J2 hp => ?_) n2
  obtain ⟨rfl, w2, cp2⟩ := hp
  have w2 := w2.symm
  subst w2
  show ZZ K (u.1 + mc2.1, u.2 + mc2.2) 8 [(0, .ref 0), (1, .int v1)] [] g2
  refine zz_aload_n hb (z_dec dX10_discard 4 rfl) rfl 0 rfl ?_
  refine zz_getr (k := 5) (q := 89) hb ho rfl ckX10 t0 rfl rfl (rX10_discard 5 rfl) rfl (z_dec dX10_discard 5 rfl) ?_
  refine zz_aload_n hb (z_dec dX10_discard 6 rfl) rfl 0 rfl ?_
  refine zz_getr (k := 0) (q := 288) hb ho rfl ckX10 t0 rfl rfl (rX10_discard 6 rfl) rfl (z_dec dX10_discard 7 rfl) ?_
  refine zz_inv (as := [.ref 288]) (d := 4) (mc := (0, 0)) (P := (qV (fun J => J = g3))) (X := nX) hb ho hnl hR hE mkX3_keep rfl ckX3 (show isT (kw K) 3 89 from isT.f (k := 5) t0 hw rfl rfl rfl (by decide)) rfl g_3 rfl (rX10_discard 7 rfl) (rX10_discard 8 rfl) (rX10_discard 9 rfl) rfl (z_dec dX10_discard 8 rfl) (m3 cp2) (fun v J3 hp => ?_) (fun _ _ h => h.elim)
  obtain ⟨rfl, w3⟩ := hp
  have w3 := w3.symm
  subst w3
  show ZZ K (u.1 + mc2.1, u.2 + mc2.2) 19 [(0, .ref 0), (1, .int v1)] [] g3
  refine zz_aload_n hb (z_dec dX10_discard 9 rfl) rfl 0 rfl ?_
  refine zz_getr (k := 0) (q := 288) hb ho rfl ckX10 t0 rfl rfl (rX10_discard 6 rfl) rfl (z_dec dX10_discard 10 rfl) ?_
  refine zz_iload_n hb (z_dec dX10_discard 11 rfl) rfl 1 rfl ?_
  refine zz_inv (as := [.int v1]) (d := 0) (mc := (0, 0)) (P := (qE f4 g4)) (X := nX) hb ho hnl hR hE mkX9_dropLetter rfl ckX9 (show isT (kw K) 9 288 from isT.f (k := 0) t0 hw rfl rfl rfl (by decide)) rfl g_4 rfl (rX10_discard 10 rfl) (rX10_discard 11 rfl) (rX10_discard 12 rfl) rfl (z_dec dX10_discard 12 rfl) (m4 cp2) (fun v J4 hp => ?_) (fun _ _ h => h.elim)
  obtain ⟨r4, rfl, e4, w4⟩ := hp
  have e4 := e4.symm
  subst e4
  have w4 := w4.symm
  subst w4
  show ZZ K (u.1 + mc2.1, u.2 + mc2.2) 27 [(0, .ref 0), (1, .int v1)] [.int f4] g4
  exact zz_iret hb hE g5 (z_dec dX10_discard 13 rfl) (h6 cp2)
set_option maxRecDepth 20000 in
theorem bX10_requireLetter_0 {K : zK} {P : Option Value → zM → Prop} {X : String → zM → Prop} {u mc : Nat × Nat} (hK : zIs K RX10 cX10_requireLetter 2 none 6 mc P X) (hw : wOK (kw K)) {I : zM} (t0 : isT (kw K) 10 0) {v1 : Int32} {f1 : Int32} {g1 : zM} (g_1 : u.1 ≤ mc.1 ∧ u.2 ≤ mc.2) (m1 : CT (kG K) (kw K) (kl K) (yX9_hasLetter, cX9_hasLetter, 2, (some .boolean)) 0 (0, 0) [.ref 288, .int v1] I (qE f1 g1) nX) (g3 : u.1 ≤ mc.1 ∧ u.2 ≤ mc.2) (h4 : ∀ (c2 : ¬ f1 = 0), P none g1) (g5 : u.1 + 1 ≤ mc.1 ∧ u.2 + 6 ≤ mc.2) (h6 : ∀ (c2 : f1 = 0), X "java/lang/IndexOutOfBoundsException" g1) : ZZ K u 0 [(0, .ref 0), (1, .int v1)] [] I := by
  obtain ⟨hb, ho, hnl, hR, hE⟩ := hK
  refine zz_aload_n hb (z_dec dX10_requireLetter 0 rfl) rfl 0 rfl ?_
  refine zz_getr (k := 0) (q := 288) hb ho rfl ckX10 t0 rfl rfl (rX10_requireLetter 0 rfl) rfl (z_dec dX10_requireLetter 1 rfl) ?_
  refine zz_iload_n hb (z_dec dX10_requireLetter 2 rfl) rfl 1 rfl ?_
  refine zz_inv (as := [.int v1]) (d := 0) (mc := (0, 0)) (P := (qE f1 g1)) (X := nX) hb ho hnl hR hE mkX9_hasLetter rfl ckX9 (show isT (kw K) 9 288 from isT.f (k := 0) t0 hw rfl rfl rfl (by decide)) rfl g_1 rfl (rX10_requireLetter 1 rfl) (rX10_requireLetter 2 rfl) (rX10_requireLetter 3 rfl) rfl (z_dec dX10_requireLetter 3 rfl) m1 (fun v J1 hp => ?_) (fun _ _ h => h.elim)
  obtain ⟨r1, rfl, e1, w1⟩ := hp
  have e1 := e1.symm
  subst e1
  have w1 := w1.symm
  subst w1
  show ZZ K u 8 [(0, .ref 0), (1, .int v1)] [.int f1] g1
  refine zz_if_ne (tgt := 22) hb (z_dec dX10_requireLetter 4 rfl) (by decide) (fun c2 => ?_) (fun c2 => ?_)
  · exact zz_vret hb hE g3 (z_dec dX10_requireLetter 10 rfl) (h4 c2)
  · exact zz_throwW hb ho hnl hR hE zEx0 4 rfl rfl rfl g5 (z_dec dX10_requireLetter 5 rfl) (z_dec dX10_requireLetter 6 rfl) (z_dec dX10_requireLetter 7 rfl) (z_dec dX10_requireLetter 8 rfl) (z_dec dX10_requireLetter 9 rfl) (h6 c2)
set_option maxRecDepth 20000 in
theorem bX10_refuse_0 {K : zK} {P : Option Value → zM → Prop} {X : String → zM → Prop} {u mc : Nat × Nat} (hK : zIs K RX10 cX10_refuse 1 none 6 mc P X) (hw : wOK (kw K)) {I : zM} {v0 : Nat} (a2 : v0 = 1000 ∨ ∀ s : State, zOld (kG K) s → gad (kG K) v0 ≠ gad (kG K) 1000) (a4 : ∀ (c1 : v0 ≠ 1000), v0 = 1001 ∨ ∀ s : State, zOld (kG K) s → gad (kG K) v0 ≠ gad (kG K) 1001) (a6 : ∀ (c1 : v0 ≠ 1000) (c3 : v0 ≠ 1001), v0 = 1002 ∨ ∀ s : State, zOld (kG K) s → gad (kG K) v0 ≠ gad (kG K) 1002) (g7 : u.1 ≤ mc.1 ∧ u.2 ≤ mc.2) (h8 : ∀ (c1 : v0 ≠ 1000) (c3 : v0 ≠ 1001) (c5 : v0 ≠ 1002), P none I) (g9 : u.1 + 1 ≤ mc.1 ∧ u.2 + 6 ≤ mc.2) (h10 : ∀ (c1 : v0 ≠ 1000) (c3 : v0 ≠ 1001) (c5 : v0 = 1002), X "java/lang/IllegalStateException" I) (g11 : u.1 + 1 ≤ mc.1 ∧ u.2 + 6 ≤ mc.2) (h12 : ∀ (c1 : v0 ≠ 1000) (c3 : v0 = 1001), X "java/lang/IllegalArgumentException" I) (g13 : u.1 + 1 ≤ mc.1 ∧ u.2 + 6 ≤ mc.2) (h14 : ∀ (c1 : v0 = 1000), X "java/lang/IndexOutOfBoundsException" I) : ZZ K u 0 [(0, .ref v0)] [] I := by
  obtain ⟨hb, ho, hnl, hR, hE⟩ := hK
  refine zz_aload_n hb (z_dec dX10_refuse 0 rfl) rfl 0 rfl ?_
  refine zz_gets (r := 1000) hb ho (zoF0 (kG K)) (rX10_refuse 0 rfl) (z_dec dX10_refuse 1 rfl) ?_
  refine zz_acmp_ne (a := v0) (b := 1000) (tgt := 18) hb (z_dec dX10_refuse 2 rfl) (by decide) a2 (fun c1 => ?_) (fun c1 => ?_)
  · refine zz_aload_n hb (z_dec dX10_refuse 8 rfl) rfl 0 rfl ?_
    refine zz_gets (r := 1001) hb ho (zoF1 (kG K)) (rX10_refuse 3 rfl) (z_dec dX10_refuse 9 rfl) ?_
    refine zz_acmp_ne (a := v0) (b := 1001) (tgt := 36) hb (z_dec dX10_refuse 10 rfl) (by decide) (a4 c1) (fun c3 => ?_) (fun c3 => ?_)
    · refine zz_aload_n hb (z_dec dX10_refuse 16 rfl) rfl 0 rfl ?_
      refine zz_gets (r := 1002) hb ho (zoF2 (kG K)) (rX10_refuse 6 rfl) (z_dec dX10_refuse 17 rfl) ?_
      refine zz_acmp_ne (a := v0) (b := 1002) (tgt := 54) hb (z_dec dX10_refuse 18 rfl) (by decide) (a6 c1 c3) (fun c5 => ?_) (fun c5 => ?_)
      · exact zz_vret hb hE g7 (z_dec dX10_refuse 24 rfl) (h8 c1 c3 c5)
      · exact zz_throwW hb ho hnl hR hE zEx2 7 rfl rfl rfl g9 (z_dec dX10_refuse 19 rfl) (z_dec dX10_refuse 20 rfl) (z_dec dX10_refuse 21 rfl) (z_dec dX10_refuse 22 rfl) (z_dec dX10_refuse 23 rfl) (h10 c1 c3 c5)
    · exact zz_throwW hb ho hnl hR hE zEx3 6 rfl rfl rfl g11 (z_dec dX10_refuse 11 rfl) (z_dec dX10_refuse 12 rfl) (z_dec dX10_refuse 13 rfl) (z_dec dX10_refuse 14 rfl) (z_dec dX10_refuse 15 rfl) (h12 c1 c3)
  · exact zz_throwW hb ho hnl hR hE zEx0 5 rfl rfl rfl g13 (z_dec dX10_refuse 3 rfl) (z_dec dX10_refuse 4 rfl) (z_dec dX10_refuse 5 rfl) (z_dec dX10_refuse 6 rfl) (z_dec dX10_refuse 7 rfl) (h14 c1)
set_option maxRecDepth 20000 in
theorem bX10_addFault_0 {K : zK} {P : Option Value → zM → Prop} {X : String → zM → Prop} (hK : zIs K RX10 cX10_addFault 6 (some (.object "PenOffice$Fault")) 1 (0, 0) P X) (hw : wOK (kw K)) {I : zM} (t0 : isT (kw K) 10 0) {v1 : Int32} {v2 : Int32} {v3 : Int32} {v4 : Int32} {v5 : Int32} {f1 : Int32} {g1 : zM} (m1 : CT (kG K) (kw K) (kl K) (yX9_hasClerk, cX9_hasClerk, 2, (some .boolean)) 0 (0, 0) [.ref 288, .int v1] I (qE f1 g1) nX) {f3 : Int32} {g3 : zM} (m3 : ∀ (c2 : ¬ f1 = 0), CT (kG K) (kw K) (kl K) (yX10_outside, cX10_outside, 3, (some .boolean)) 0 (0, 0) [.int v2, .int (1 : Int32), .int (30 : Int32)] g1 (qE f3 g3) nX) (h5 : ∀ (c2 : ¬ f1 = 0) (c4 : ¬ f3 = 0), P (some (.ref 1001)) g3) {f6 : Int32} {g6 : zM} (m6 : ∀ (c2 : ¬ f1 = 0) (c4 : f3 = 0), CT (kG K) (kw K) (kl K) (yX10_outside, cX10_outside, 3, (some .boolean)) 0 (0, 0) [.int v3, .int (0 : Int32), .int (999 : Int32)] g3 (qE f6 g6) nX) (h8 : ∀ (c2 : ¬ f1 = 0) (c4 : f3 = 0) (c7 : ¬ f6 = 0), P (some (.ref 1001)) g6) {f9 : Int32} {g9 : zM} (m9 : ∀ (c2 : ¬ f1 = 0) (c4 : f3 = 0) (c7 : f6 = 0), CT (kG K) (kw K) (kl K) (yX10_outside, cX10_outside, 3, (some .boolean)) 0 (0, 0) [.int v4, .int (1 : Int32), .int (999 : Int32)] g6 (qE f9 g9) nX) (h11 : ∀ (c2 : ¬ f1 = 0) (c4 : f3 = 0) (c7 : f6 = 0) (c10 : ¬ f9 = 0), P (some (.ref 1001)) g9) {f12 : Int32} {g12 : zM} (m12 : ∀ (c2 : ¬ f1 = 0) (c4 : f3 = 0) (c7 : f6 = 0) (c10 : f9 = 0), CT (kG K) (kw K) (kl K) (yX10_outside, cX10_outside, 3, (some .boolean)) 0 (0, 0) [.int v5, .int (0 : Int32), .int (9 : Int32)] g9 (qE f12 g12) nX) (h15 : ∀ (c2 : ¬ f1 = 0) (c4 : f3 = 0) (c7 : f6 = 0) (c10 : f9 = 0) (c13 : f12 = 0) (c14 : (12 : Int32) ≤ (g12 288 3)), P (some (.ref 1002)) g12) (h17 : ∀ (c2 : ¬ f1 = 0) (c4 : f3 = 0) (c7 : f6 = 0) (c10 : f9 = 0) (c13 : f12 = 0) (c14 : ¬ (12 : Int32) ≤ (g12 288 3)) (c16 : ((g12 288 4) + v3) ≤ (2000 : Int32)), P (some (.ref 1003)) g12) (h18 : ∀ (c2 : ¬ f1 = 0) (c4 : f3 = 0) (c7 : f6 = 0) (c10 : f9 = 0) (c13 : f12 = 0) (c14 : ¬ (12 : Int32) ≤ (g12 288 3)) (c16 : ¬ ((g12 288 4) + v3) ≤ (2000 : Int32)), P (some (.ref 1002)) g12) (h19 : ∀ (c2 : ¬ f1 = 0) (c4 : f3 = 0) (c7 : f6 = 0) (c10 : f9 = 0) (c13 : ¬ f12 = 0), P (some (.ref 1001)) g12) (h20 : ∀ (c2 : f1 = 0), P (some (.ref 1000)) g1) : ZZ K (0, 0) 0 [(0, .ref 0), (1, .int v1), (2, .int v2), (3, .int v3), (4, .int v4), (5, .int v5)] [] I := by
  obtain ⟨hb, ho, hnl, hR, hE⟩ := hK
  refine zz_aload_n hb (z_dec dX10_addFault 0 rfl) rfl 0 rfl ?_
  refine zz_getr (k := 0) (q := 288) hb ho rfl ckX10 t0 rfl rfl (rX10_addFault 0 rfl) rfl (z_dec dX10_addFault 1 rfl) ?_
  refine zz_iload_n hb (z_dec dX10_addFault 2 rfl) rfl 1 rfl ?_
  refine zz_inv (as := [.int v1]) (d := 0) (mc := (0, 0)) (P := (qE f1 g1)) (X := nX) hb ho hnl hR hE mkX9_hasClerk rfl ckX9 (show isT (kw K) 9 288 from isT.f (k := 0) t0 hw rfl rfl rfl (by decide)) rfl ⟨Nat.le_refl 0, Nat.le_refl 0⟩ rfl (rX10_addFault 1 rfl) (rX10_addFault 2 rfl) (rX10_addFault 3 rfl) rfl (z_dec dX10_addFault 3 rfl) m1 (fun v J1 hp => ?_) (fun _ _ h => h.elim)
  obtain ⟨r1, rfl, e1, w1⟩ := hp
  have e1 := e1.symm
  subst e1
  have w1 := w1.symm
  subst w1
  show ZZ K (0, 0) 8 [(0, .ref 0), (1, .int v1), (2, .int v2), (3, .int v3), (4, .int v4), (5, .int v5)] [.int f1] g1
  refine zz_if_ne (tgt := 15) hb (z_dec dX10_addFault 4 rfl) (by decide) (fun c2 => ?_) (fun c2 => ?_)
  · refine zz_iload_n hb (z_dec dX10_addFault 7 rfl) rfl 2 rfl ?_
    refine zz_iconst (v := (1 : Int32)) hb (z_dec dX10_addFault 8 rfl) (by decide) ?_
    refine zz_bipush (v := (30 : Int32)) hb (z_dec dX10_addFault 9 rfl) (by decide) ?_
    refine zz_invS (as := [.int v2, .int (1 : Int32), .int (30 : Int32)]) (d := 0) (mc := (0, 0)) (P := (qE f3 g3)) (X := nX) hb ho hnl hR hE mkX10_outside rfl rfl ⟨Nat.le_refl 0, Nat.le_refl 0⟩ rfl (rX10_addFault 5 rfl) (rX10_addFault 6 rfl) rfl (z_dec dX10_addFault 10 rfl) (m3 c2) (fun v J3 hp => ?_) (fun _ _ h => h.elim)
    obtain ⟨r3, rfl, e3, w3⟩ := hp
    have e3 := e3.symm
    subst e3
    have w3 := w3.symm
    subst w3
    show ZZ K (0, 0) 22 [(0, .ref 0), (1, .int v1), (2, .int v2), (3, .int v3), (4, .int v4), (5, .int v5)] [.int f3] g3
    refine zz_if_ne (tgt := 59) hb (z_dec dX10_addFault 11 rfl) (by decide) (fun c4 => ?_) (fun c4 => ?_)
    · refine zz_gets (r := 1001) hb ho (zoF1 (kG K)) (rX10_addFault 7 rfl) (z_dec dX10_addFault 27 rfl) ?_
      exact zz_aret hb hE ⟨Nat.le_refl 0, Nat.le_refl 0⟩ (z_dec dX10_addFault 28 rfl) (h5 c2 c4)
    · refine zz_iload_n hb (z_dec dX10_addFault 12 rfl) rfl 3 rfl ?_
      refine zz_iconst (v := (0 : Int32)) hb (z_dec dX10_addFault 13 rfl) (by decide) ?_
      refine zz_sipush (v := (999 : Int32)) hb (z_dec dX10_addFault 14 rfl) (by decide) ?_
      refine zz_invS (as := [.int v3, .int (0 : Int32), .int (999 : Int32)]) (d := 0) (mc := (0, 0)) (P := (qE f6 g6)) (X := nX) hb ho hnl hR hE mkX10_outside rfl rfl ⟨Nat.le_refl 0, Nat.le_refl 0⟩ rfl (rX10_addFault 5 rfl) (rX10_addFault 6 rfl) rfl (z_dec dX10_addFault 15 rfl) (m6 c2 c4) (fun v J6 hp => ?_) (fun _ _ h => h.elim)
      obtain ⟨r6, rfl, e6, w6⟩ := hp
      have e6 := e6.symm
      subst e6
      have w6 := w6.symm
      subst w6
      show ZZ K (0, 0) 33 [(0, .ref 0), (1, .int v1), (2, .int v2), (3, .int v3), (4, .int v4), (5, .int v5)] [.int f6] g6
      refine zz_if_ne (tgt := 59) hb (z_dec dX10_addFault 16 rfl) (by decide) (fun c7 => ?_) (fun c7 => ?_)
      · refine zz_gets (r := 1001) hb ho (zoF1 (kG K)) (rX10_addFault 7 rfl) (z_dec dX10_addFault 27 rfl) ?_
        exact zz_aret hb hE ⟨Nat.le_refl 0, Nat.le_refl 0⟩ (z_dec dX10_addFault 28 rfl) (h8 c2 c4 c7)
      · refine zz_iload hb (z_dec dX10_addFault 17 rfl) 4 rfl ?_
        refine zz_iconst (v := (1 : Int32)) hb (z_dec dX10_addFault 18 rfl) (by decide) ?_
        refine zz_sipush (v := (999 : Int32)) hb (z_dec dX10_addFault 19 rfl) (by decide) ?_
        refine zz_invS (as := [.int v4, .int (1 : Int32), .int (999 : Int32)]) (d := 0) (mc := (0, 0)) (P := (qE f9 g9)) (X := nX) hb ho hnl hR hE mkX10_outside rfl rfl ⟨Nat.le_refl 0, Nat.le_refl 0⟩ rfl (rX10_addFault 5 rfl) (rX10_addFault 6 rfl) rfl (z_dec dX10_addFault 20 rfl) (m9 c2 c4 c7) (fun v J9 hp => ?_) (fun _ _ h => h.elim)
        obtain ⟨r9, rfl, e9, w9⟩ := hp
        have e9 := e9.symm
        subst e9
        have w9 := w9.symm
        subst w9
        show ZZ K (0, 0) 45 [(0, .ref 0), (1, .int v1), (2, .int v2), (3, .int v3), (4, .int v4), (5, .int v5)] [.int f9] g9
        refine zz_if_ne (tgt := 59) hb (z_dec dX10_addFault 21 rfl) (by decide) (fun c10 => ?_) (fun c10 => ?_)
        · refine zz_gets (r := 1001) hb ho (zoF1 (kG K)) (rX10_addFault 7 rfl) (z_dec dX10_addFault 27 rfl) ?_
          exact zz_aret hb hE ⟨Nat.le_refl 0, Nat.le_refl 0⟩ (z_dec dX10_addFault 28 rfl) (h11 c2 c4 c7 c10)
        · refine zz_iload hb (z_dec dX10_addFault 22 rfl) 5 rfl ?_
          refine zz_iconst (v := (0 : Int32)) hb (z_dec dX10_addFault 23 rfl) (by decide) ?_
          refine zz_bipush (v := (9 : Int32)) hb (z_dec dX10_addFault 24 rfl) (by decide) ?_
          refine zz_invS (as := [.int v5, .int (0 : Int32), .int (9 : Int32)]) (d := 0) (mc := (0, 0)) (P := (qE f12 g12)) (X := nX) hb ho hnl hR hE mkX10_outside rfl rfl ⟨Nat.le_refl 0, Nat.le_refl 0⟩ rfl (rX10_addFault 5 rfl) (rX10_addFault 6 rfl) rfl (z_dec dX10_addFault 25 rfl) (m12 c2 c4 c7 c10) (fun v J12 hp => ?_) (fun _ _ h => h.elim)
          obtain ⟨r12, rfl, e12, w12⟩ := hp
          have e12 := e12.symm
          subst e12
          have w12 := w12.symm
          subst w12
          show ZZ K (0, 0) 56 [(0, .ref 0), (1, .int v1), (2, .int v2), (3, .int v3), (4, .int v4), (5, .int v5)] [.int f12] g12
          refine zz_if_eq (tgt := 63) hb (z_dec dX10_addFault 26 rfl) (by decide) (fun c13 => ?_) (fun c13 => ?_)
          · refine zz_aload_n hb (z_dec dX10_addFault 29 rfl) rfl 0 rfl ?_
            refine zz_getr (k := 0) (q := 288) hb ho rfl ckX10 t0 rfl rfl (rX10_addFault 0 rfl) rfl (z_dec dX10_addFault 30 rfl) ?_
            refine zz_get (k := 3) hb ho ckX9 (show isT (kw K) 9 288 from isT.f (k := 0) t0 hw rfl rfl rfl (by decide)) rfl rfl (rX10_addFault 8 rfl) rfl (z_dec dX10_addFault 31 rfl) ?_
            refine zz_bipush (v := (12 : Int32)) hb (z_dec dX10_addFault 32 rfl) (by decide) ?_
            refine zz_icmp_ge (tgt := 90) hb (z_dec dX10_addFault 33 rfl) (by decide) (fun c14 => ?_) (fun c14 => ?_)
            · refine zz_gets (r := 1002) hb ho (zoF2 (kG K)) (rX10_addFault 10 rfl) (z_dec dX10_addFault 41 rfl) ?_
              exact zz_aret hb hE ⟨Nat.le_refl 0, Nat.le_refl 0⟩ (z_dec dX10_addFault 42 rfl) (h15 c2 c4 c7 c10 c13 c14)
            · refine zz_aload_n hb (z_dec dX10_addFault 34 rfl) rfl 0 rfl ?_
              refine zz_getr (k := 0) (q := 288) hb ho rfl ckX10 t0 rfl rfl (rX10_addFault 0 rfl) rfl (z_dec dX10_addFault 35 rfl) ?_
              refine zz_get (k := 4) hb ho ckX9 (show isT (kw K) 9 288 from isT.f (k := 0) t0 hw rfl rfl rfl (by decide)) rfl rfl (rX10_addFault 9 rfl) rfl (z_dec dX10_addFault 36 rfl) ?_
              refine zz_iload_n hb (z_dec dX10_addFault 37 rfl) rfl 3 rfl ?_
              refine zz_iadd hb (z_dec dX10_addFault 38 rfl) ?_
              refine zz_sipush (v := (2000 : Int32)) hb (z_dec dX10_addFault 39 rfl) (by decide) ?_
              refine zz_icmp_le (tgt := 94) hb (z_dec dX10_addFault 40 rfl) (by decide) (fun c16 => ?_) (fun c16 => ?_)
              · refine zz_gets (r := 1003) hb ho (zoF3 (kG K)) (rX10_addFault 11 rfl) (z_dec dX10_addFault 43 rfl) ?_
                exact zz_aret hb hE ⟨Nat.le_refl 0, Nat.le_refl 0⟩ (z_dec dX10_addFault 44 rfl) (h17 c2 c4 c7 c10 c13 c14 c16)
              · refine zz_gets (r := 1002) hb ho (zoF2 (kG K)) (rX10_addFault 10 rfl) (z_dec dX10_addFault 41 rfl) ?_
                exact zz_aret hb hE ⟨Nat.le_refl 0, Nat.le_refl 0⟩ (z_dec dX10_addFault 42 rfl) (h18 c2 c4 c7 c10 c13 c14 c16)
          · refine zz_gets (r := 1001) hb ho (zoF1 (kG K)) (rX10_addFault 7 rfl) (z_dec dX10_addFault 27 rfl) ?_
            exact zz_aret hb hE ⟨Nat.le_refl 0, Nat.le_refl 0⟩ (z_dec dX10_addFault 28 rfl) (h19 c2 c4 c7 c10 c13)
  · refine zz_gets (r := 1000) hb ho (zoF0 (kG K)) (rX10_addFault 4 rfl) (z_dec dX10_addFault 5 rfl) ?_
    exact zz_aret hb hE ⟨Nat.le_refl 0, Nat.le_refl 0⟩ (z_dec dX10_addFault 6 rfl) (h20 c2)
set_option maxRecDepth 20000 in
theorem bX10_passFault_0 {K : zK} {P : Option Value → zM → Prop} {X : String → zM → Prop} (hK : zIs K RX10 cX10_passFault 2 (some (.object "PenOffice$Fault")) 1 (0, 0) P X) (hw : wOK (kw K)) {I : zM} (t0 : isT (kw K) 10 0) {v1 : Int32} {f1 : Int32} {g1 : zM} (m1 : CT (kG K) (kw K) (kl K) (yX10_outside, cX10_outside, 3, (some .boolean)) 0 (0, 0) [.int v1, .int (1 : Int32), .int (300 : Int32)] I (qE f1 g1) nX) (h4 : ∀ (c2 : f1 = 0) (c3 : ((g1 288 4) + v1) ≤ (2000 : Int32)), P (some (.ref 1003)) g1) (h5 : ∀ (c2 : f1 = 0) (c3 : ¬ ((g1 288 4) + v1) ≤ (2000 : Int32)), P (some (.ref 1002)) g1) (h6 : ∀ (c2 : ¬ f1 = 0), P (some (.ref 1001)) g1) : ZZ K (0, 0) 0 [(0, .ref 0), (1, .int v1)] [] I := by
  obtain ⟨hb, ho, hnl, hR, hE⟩ := hK
  refine zz_iload_n hb (z_dec dX10_passFault 0 rfl) rfl 1 rfl ?_
  refine zz_iconst (v := (1 : Int32)) hb (z_dec dX10_passFault 1 rfl) (by decide) ?_
  refine zz_sipush (v := (300 : Int32)) hb (z_dec dX10_passFault 2 rfl) (by decide) ?_
  refine zz_invS (as := [.int v1, .int (1 : Int32), .int (300 : Int32)]) (d := 0) (mc := (0, 0)) (P := (qE f1 g1)) (X := nX) hb ho hnl hR hE mkX10_outside rfl rfl ⟨Nat.le_refl 0, Nat.le_refl 0⟩ rfl (rX10_passFault 0 rfl) (rX10_passFault 1 rfl) rfl (z_dec dX10_passFault 3 rfl) m1 (fun v J1 hp => ?_) (fun _ _ h => h.elim)
  obtain ⟨r1, rfl, e1, w1⟩ := hp
  have e1 := e1.symm
  subst e1
  have w1 := w1.symm
  subst w1
  show ZZ K (0, 0) 8 [(0, .ref 0), (1, .int v1)] [.int f1] g1
  refine zz_if_eq (tgt := 15) hb (z_dec dX10_passFault 4 rfl) (by decide) (fun c2 => ?_) (fun c2 => ?_)
  · refine zz_aload_n hb (z_dec dX10_passFault 7 rfl) rfl 0 rfl ?_
    refine zz_getr (k := 0) (q := 288) hb ho rfl ckX10 t0 rfl rfl (rX10_passFault 3 rfl) rfl (z_dec dX10_passFault 8 rfl) ?_
    refine zz_get (k := 4) hb ho ckX9 (show isT (kw K) 9 288 from isT.f (k := 0) t0 hw rfl rfl rfl (by decide)) rfl rfl (rX10_passFault 4 rfl) rfl (z_dec dX10_passFault 9 rfl) ?_
    refine zz_iload_n hb (z_dec dX10_passFault 10 rfl) rfl 1 rfl ?_
    refine zz_iadd hb (z_dec dX10_passFault 11 rfl) ?_
    refine zz_sipush (v := (2000 : Int32)) hb (z_dec dX10_passFault 12 rfl) (by decide) ?_
    refine zz_icmp_le (tgt := 36) hb (z_dec dX10_passFault 13 rfl) (by decide) (fun c3 => ?_) (fun c3 => ?_)
    · refine zz_gets (r := 1003) hb ho (zoF3 (kG K)) (rX10_passFault 6 rfl) (z_dec dX10_passFault 16 rfl) ?_
      exact zz_aret hb hE ⟨Nat.le_refl 0, Nat.le_refl 0⟩ (z_dec dX10_passFault 17 rfl) (h4 c2 c3)
    · refine zz_gets (r := 1002) hb ho (zoF2 (kG K)) (rX10_passFault 5 rfl) (z_dec dX10_passFault 14 rfl) ?_
      refine zz_goto (tgt := 39) hb (z_dec dX10_passFault 15 rfl) (by decide) ?_
      exact zz_aret hb hE ⟨Nat.le_refl 0, Nat.le_refl 0⟩ (z_dec dX10_passFault 17 rfl) (h5 c2 c3)
  · refine zz_gets (r := 1001) hb ho (zoF1 (kG K)) (rX10_passFault 2 rfl) (z_dec dX10_passFault 5 rfl) ?_
    exact zz_aret hb hE ⟨Nat.le_refl 0, Nat.le_refl 0⟩ (z_dec dX10_passFault 6 rfl) (h6 c2)
set_option maxRecDepth 20000 in
theorem bX10_policyFault_0 {K : zK} {P : Option Value → zM → Prop} {X : String → zM → Prop} (hK : zIs K RX10 cX10_policyFault 1 (some (.object "PenOffice$Fault")) 1 (0, 0) P X) (hw : wOK (kw K)) {I : zM} {v0 : Int32} {f1 : Int32} {g1 : zM} (m1 : CT (kG K) (kw K) (kl K) (yX10_outside, cX10_outside, 3, (some .boolean)) 0 (0, 0) [.int v0, .int (0 : Int32), .int (4 : Int32)] I (qE f1 g1) nX) (h3 : ∀ (c2 : f1 = 0), P (some (.ref 1003)) g1) (h4 : ∀ (c2 : ¬ f1 = 0), P (some (.ref 1001)) g1) : ZZ K (0, 0) 0 [(0, .int v0)] [] I := by
  obtain ⟨hb, ho, hnl, hR, hE⟩ := hK
  refine zz_iload_n hb (z_dec dX10_policyFault 0 rfl) rfl 0 rfl ?_
  refine zz_iconst (v := (0 : Int32)) hb (z_dec dX10_policyFault 1 rfl) (by decide) ?_
  refine zz_iconst (v := (4 : Int32)) hb (z_dec dX10_policyFault 2 rfl) (by decide) ?_
  refine zz_invS (as := [.int v0, .int (0 : Int32), .int (4 : Int32)]) (d := 0) (mc := (0, 0)) (P := (qE f1 g1)) (X := nX) hb ho hnl hR hE mkX10_outside rfl rfl ⟨Nat.le_refl 0, Nat.le_refl 0⟩ rfl (rX10_policyFault 0 rfl) (rX10_policyFault 1 rfl) rfl (z_dec dX10_policyFault 3 rfl) m1 (fun v J1 hp => ?_) (fun _ _ h => h.elim)
  obtain ⟨r1, rfl, e1, w1⟩ := hp
  have e1 := e1.symm
  subst e1
  have w1 := w1.symm
  subst w1
  show ZZ K (0, 0) 6 [(0, .int v0)] [.int f1] g1
  refine zz_if_eq (tgt := 15) hb (z_dec dX10_policyFault 4 rfl) (by decide) (fun c2 => ?_) (fun c2 => ?_)
  · refine zz_gets (r := 1003) hb ho (zoF3 (kG K)) (rX10_policyFault 3 rfl) (z_dec dX10_policyFault 7 rfl) ?_
    exact zz_aret hb hE ⟨Nat.le_refl 0, Nat.le_refl 0⟩ (z_dec dX10_policyFault 8 rfl) (h3 c2)
  · refine zz_gets (r := 1001) hb ho (zoF1 (kG K)) (rX10_policyFault 2 rfl) (z_dec dX10_policyFault 5 rfl) ?_
    refine zz_goto (tgt := 18) hb (z_dec dX10_policyFault 6 rfl) (by decide) ?_
    exact zz_aret hb hE ⟨Nat.le_refl 0, Nat.le_refl 0⟩ (z_dec dX10_policyFault 8 rfl) (h4 c2)
set_option maxRecDepth 20000 in
theorem bX10_deadlineFault_0 {K : zK} {P : Option Value → zM → Prop} {X : String → zM → Prop} (hK : zIs K RX10 cX10_deadlineFault 3 (some (.object "PenOffice$Fault")) 1 (0, 0) P X) (hw : wOK (kw K)) {I : zM} (t0 : isT (kw K) 10 0) {v1 : Int32} {v2 : Int32} {f1 : Int32} {g1 : zM} (m1 : CT (kG K) (kw K) (kl K) (yX9_hasLetter, cX9_hasLetter, 2, (some .boolean)) 0 (0, 0) [.ref 288, .int v1] I (qE f1 g1) nX) {f3 : Int32} {g3 : zM} (m3 : ∀ (c2 : ¬ f1 = 0), CT (kG K) (kw K) (kl K) (yX10_outside, cX10_outside, 3, (some .boolean)) 0 (0, 0) [.int v2, .int (1 : Int32), .int (999 : Int32)] g1 (qE f3 g3) nX) (h5 : ∀ (c2 : ¬ f1 = 0) (c4 : f3 = 0), P (some (.ref 1003)) g3) (h6 : ∀ (c2 : ¬ f1 = 0) (c4 : ¬ f3 = 0), P (some (.ref 1001)) g3) (h7 : ∀ (c2 : f1 = 0), P (some (.ref 1000)) g1) : ZZ K (0, 0) 0 [(0, .ref 0), (1, .int v1), (2, .int v2)] [] I := by
  obtain ⟨hb, ho, hnl, hR, hE⟩ := hK
  refine zz_aload_n hb (z_dec dX10_deadlineFault 0 rfl) rfl 0 rfl ?_
  refine zz_getr (k := 0) (q := 288) hb ho rfl ckX10 t0 rfl rfl (rX10_deadlineFault 0 rfl) rfl (z_dec dX10_deadlineFault 1 rfl) ?_
  refine zz_iload_n hb (z_dec dX10_deadlineFault 2 rfl) rfl 1 rfl ?_
  refine zz_inv (as := [.int v1]) (d := 0) (mc := (0, 0)) (P := (qE f1 g1)) (X := nX) hb ho hnl hR hE mkX9_hasLetter rfl ckX9 (show isT (kw K) 9 288 from isT.f (k := 0) t0 hw rfl rfl rfl (by decide)) rfl ⟨Nat.le_refl 0, Nat.le_refl 0⟩ rfl (rX10_deadlineFault 1 rfl) (rX10_deadlineFault 2 rfl) (rX10_deadlineFault 3 rfl) rfl (z_dec dX10_deadlineFault 3 rfl) m1 (fun v J1 hp => ?_) (fun _ _ h => h.elim)
  obtain ⟨r1, rfl, e1, w1⟩ := hp
  have e1 := e1.symm
  subst e1
  have w1 := w1.symm
  subst w1
  show ZZ K (0, 0) 8 [(0, .ref 0), (1, .int v1), (2, .int v2)] [.int f1] g1
  refine zz_if_ne (tgt := 15) hb (z_dec dX10_deadlineFault 4 rfl) (by decide) (fun c2 => ?_) (fun c2 => ?_)
  · refine zz_iload_n hb (z_dec dX10_deadlineFault 7 rfl) rfl 2 rfl ?_
    refine zz_iconst (v := (1 : Int32)) hb (z_dec dX10_deadlineFault 8 rfl) (by decide) ?_
    refine zz_sipush (v := (999 : Int32)) hb (z_dec dX10_deadlineFault 9 rfl) (by decide) ?_
    refine zz_invS (as := [.int v2, .int (1 : Int32), .int (999 : Int32)]) (d := 0) (mc := (0, 0)) (P := (qE f3 g3)) (X := nX) hb ho hnl hR hE mkX10_outside rfl rfl ⟨Nat.le_refl 0, Nat.le_refl 0⟩ rfl (rX10_deadlineFault 5 rfl) (rX10_deadlineFault 6 rfl) rfl (z_dec dX10_deadlineFault 10 rfl) (m3 c2) (fun v J3 hp => ?_) (fun _ _ h => h.elim)
    obtain ⟨r3, rfl, e3, w3⟩ := hp
    have e3 := e3.symm
    subst e3
    have w3 := w3.symm
    subst w3
    show ZZ K (0, 0) 23 [(0, .ref 0), (1, .int v1), (2, .int v2)] [.int f3] g3
    refine zz_if_eq (tgt := 32) hb (z_dec dX10_deadlineFault 11 rfl) (by decide) (fun c4 => ?_) (fun c4 => ?_)
    · refine zz_gets (r := 1003) hb ho (zoF3 (kG K)) (rX10_deadlineFault 8 rfl) (z_dec dX10_deadlineFault 14 rfl) ?_
      exact zz_aret hb hE ⟨Nat.le_refl 0, Nat.le_refl 0⟩ (z_dec dX10_deadlineFault 15 rfl) (h5 c2 c4)
    · refine zz_gets (r := 1001) hb ho (zoF1 (kG K)) (rX10_deadlineFault 7 rfl) (z_dec dX10_deadlineFault 12 rfl) ?_
      refine zz_goto (tgt := 35) hb (z_dec dX10_deadlineFault 13 rfl) (by decide) ?_
      exact zz_aret hb hE ⟨Nat.le_refl 0, Nat.le_refl 0⟩ (z_dec dX10_deadlineFault 15 rfl) (h6 c2 c4)
  · refine zz_gets (r := 1000) hb ho (zoF0 (kG K)) (rX10_deadlineFault 4 rfl) (z_dec dX10_deadlineFault 5 rfl) ?_
    exact zz_aret hb hE ⟨Nat.le_refl 0, Nat.le_refl 0⟩ (z_dec dX10_deadlineFault 6 rfl) (h7 c2)
set_option maxRecDepth 20000 in
theorem bX10_priorityFault_0 {K : zK} {P : Option Value → zM → Prop} {X : String → zM → Prop} (hK : zIs K RX10 cX10_priorityFault 3 (some (.object "PenOffice$Fault")) 1 (0, 0) P X) (hw : wOK (kw K)) {I : zM} (t0 : isT (kw K) 10 0) {v1 : Int32} {v2 : Int32} {f1 : Int32} {g1 : zM} (m1 : CT (kG K) (kw K) (kl K) (yX9_hasLetter, cX9_hasLetter, 2, (some .boolean)) 0 (0, 0) [.ref 288, .int v1] I (qE f1 g1) nX) {f3 : Int32} {g3 : zM} (m3 : ∀ (c2 : ¬ f1 = 0), CT (kG K) (kw K) (kl K) (yX10_outside, cX10_outside, 3, (some .boolean)) 0 (0, 0) [.int v2, .int (0 : Int32), .int (9 : Int32)] g1 (qE f3 g3) nX) (h5 : ∀ (c2 : ¬ f1 = 0) (c4 : f3 = 0), P (some (.ref 1003)) g3) (h6 : ∀ (c2 : ¬ f1 = 0) (c4 : ¬ f3 = 0), P (some (.ref 1001)) g3) (h7 : ∀ (c2 : f1 = 0), P (some (.ref 1000)) g1) : ZZ K (0, 0) 0 [(0, .ref 0), (1, .int v1), (2, .int v2)] [] I := by
  obtain ⟨hb, ho, hnl, hR, hE⟩ := hK
  refine zz_aload_n hb (z_dec dX10_priorityFault 0 rfl) rfl 0 rfl ?_
  refine zz_getr (k := 0) (q := 288) hb ho rfl ckX10 t0 rfl rfl (rX10_priorityFault 0 rfl) rfl (z_dec dX10_priorityFault 1 rfl) ?_
  refine zz_iload_n hb (z_dec dX10_priorityFault 2 rfl) rfl 1 rfl ?_
  refine zz_inv (as := [.int v1]) (d := 0) (mc := (0, 0)) (P := (qE f1 g1)) (X := nX) hb ho hnl hR hE mkX9_hasLetter rfl ckX9 (show isT (kw K) 9 288 from isT.f (k := 0) t0 hw rfl rfl rfl (by decide)) rfl ⟨Nat.le_refl 0, Nat.le_refl 0⟩ rfl (rX10_priorityFault 1 rfl) (rX10_priorityFault 2 rfl) (rX10_priorityFault 3 rfl) rfl (z_dec dX10_priorityFault 3 rfl) m1 (fun v J1 hp => ?_) (fun _ _ h => h.elim)
  obtain ⟨r1, rfl, e1, w1⟩ := hp
  have e1 := e1.symm
  subst e1
  have w1 := w1.symm
  subst w1
  show ZZ K (0, 0) 8 [(0, .ref 0), (1, .int v1), (2, .int v2)] [.int f1] g1
  refine zz_if_ne (tgt := 15) hb (z_dec dX10_priorityFault 4 rfl) (by decide) (fun c2 => ?_) (fun c2 => ?_)
  · refine zz_iload_n hb (z_dec dX10_priorityFault 7 rfl) rfl 2 rfl ?_
    refine zz_iconst (v := (0 : Int32)) hb (z_dec dX10_priorityFault 8 rfl) (by decide) ?_
    refine zz_bipush (v := (9 : Int32)) hb (z_dec dX10_priorityFault 9 rfl) (by decide) ?_
    refine zz_invS (as := [.int v2, .int (0 : Int32), .int (9 : Int32)]) (d := 0) (mc := (0, 0)) (P := (qE f3 g3)) (X := nX) hb ho hnl hR hE mkX10_outside rfl rfl ⟨Nat.le_refl 0, Nat.le_refl 0⟩ rfl (rX10_priorityFault 5 rfl) (rX10_priorityFault 6 rfl) rfl (z_dec dX10_priorityFault 10 rfl) (m3 c2) (fun v J3 hp => ?_) (fun _ _ h => h.elim)
    obtain ⟨r3, rfl, e3, w3⟩ := hp
    have e3 := e3.symm
    subst e3
    have w3 := w3.symm
    subst w3
    show ZZ K (0, 0) 22 [(0, .ref 0), (1, .int v1), (2, .int v2)] [.int f3] g3
    refine zz_if_eq (tgt := 31) hb (z_dec dX10_priorityFault 11 rfl) (by decide) (fun c4 => ?_) (fun c4 => ?_)
    · refine zz_gets (r := 1003) hb ho (zoF3 (kG K)) (rX10_priorityFault 8 rfl) (z_dec dX10_priorityFault 14 rfl) ?_
      exact zz_aret hb hE ⟨Nat.le_refl 0, Nat.le_refl 0⟩ (z_dec dX10_priorityFault 15 rfl) (h5 c2 c4)
    · refine zz_gets (r := 1001) hb ho (zoF1 (kG K)) (rX10_priorityFault 7 rfl) (z_dec dX10_priorityFault 12 rfl) ?_
      refine zz_goto (tgt := 34) hb (z_dec dX10_priorityFault 13 rfl) (by decide) ?_
      exact zz_aret hb hE ⟨Nat.le_refl 0, Nat.le_refl 0⟩ (z_dec dX10_priorityFault 15 rfl) (h6 c2 c4)
  · refine zz_gets (r := 1000) hb ho (zoF0 (kG K)) (rX10_priorityFault 4 rfl) (z_dec dX10_priorityFault 5 rfl) ?_
    exact zz_aret hb hE ⟨Nat.le_refl 0, Nat.le_refl 0⟩ (z_dec dX10_priorityFault 6 rfl) (h7 c2)
set_option maxRecDepth 20000 in
theorem bX10_discardFault_0 {K : zK} {P : Option Value → zM → Prop} {X : String → zM → Prop} (hK : zIs K RX10 cX10_discardFault 2 (some (.object "PenOffice$Fault")) 1 (0, 0) P X) (hw : wOK (kw K)) {I : zM} (t0 : isT (kw K) 10 0) {v1 : Int32} {f1 : Int32} {g1 : zM} (m1 : CT (kG K) (kw K) (kl K) (yX9_hasLetter, cX9_hasLetter, 2, (some .boolean)) 0 (0, 0) [.ref 288, .int v1] I (qE f1 g1) nX) (h3 : ∀ (c2 : ¬ f1 = 0), vp_in v1 12) {f4 : Int32} {g4 : zM} (m4 : ∀ (c2 : ¬ f1 = 0), CT (kG K) (kw K) (kl K) (yX5_isReadyAt, cX5_isReadyAt, 2, (some .boolean)) 0 (0, 0) [.ref (LR 299 v1.toNatClampNeg), .int (g1 288 4)] g1 (qE f4 g4) nX) (h6 : ∀ (c2 : ¬ f1 = 0) (c5 : f4 = 0), P (some (.ref 1002)) g4) (h7 : ∀ (c2 : ¬ f1 = 0) (c5 : ¬ f4 = 0), P (some (.ref 1003)) g4) (h8 : ∀ (c2 : f1 = 0), P (some (.ref 1000)) g1) : ZZ K (0, 0) 0 [(0, .ref 0), (1, .int v1)] [] I := by
  obtain ⟨hb, ho, hnl, hR, hE⟩ := hK
  refine zz_aload_n hb (z_dec dX10_discardFault 0 rfl) rfl 0 rfl ?_
  refine zz_getr (k := 0) (q := 288) hb ho rfl ckX10 t0 rfl rfl (rX10_discardFault 0 rfl) rfl (z_dec dX10_discardFault 1 rfl) ?_
  refine zz_iload_n hb (z_dec dX10_discardFault 2 rfl) rfl 1 rfl ?_
  refine zz_inv (as := [.int v1]) (d := 0) (mc := (0, 0)) (P := (qE f1 g1)) (X := nX) hb ho hnl hR hE mkX9_hasLetter rfl ckX9 (show isT (kw K) 9 288 from isT.f (k := 0) t0 hw rfl rfl rfl (by decide)) rfl ⟨Nat.le_refl 0, Nat.le_refl 0⟩ rfl (rX10_discardFault 1 rfl) (rX10_discardFault 2 rfl) (rX10_discardFault 3 rfl) rfl (z_dec dX10_discardFault 3 rfl) m1 (fun v J1 hp => ?_) (fun _ _ h => h.elim)
  obtain ⟨r1, rfl, e1, w1⟩ := hp
  have e1 := e1.symm
  subst e1
  have w1 := w1.symm
  subst w1
  show ZZ K (0, 0) 8 [(0, .ref 0), (1, .int v1)] [.int f1] g1
  refine zz_if_ne (tgt := 15) hb (z_dec dX10_discardFault 4 rfl) (by decide) (fun c2 => ?_) (fun c2 => ?_)
  · refine zz_aload_n hb (z_dec dX10_discardFault 7 rfl) rfl 0 rfl ?_
    refine zz_getr (k := 0) (q := 288) hb ho rfl ckX10 t0 rfl rfl (rX10_discardFault 0 rfl) rfl (z_dec dX10_discardFault 8 rfl) ?_
    refine zz_getr (k := 2) (q := 299) hb ho rfl ckX9 (show isT (kw K) 9 288 from isT.f (k := 0) t0 hw rfl rfl rfl (by decide)) rfl rfl (rX10_discardFault 5 rfl) rfl (z_dec dX10_discardFault 9 rfl) ?_
    refine zz_iload_n hb (z_dec dX10_discardFault 10 rfl) rfl 1 rfl ?_
    refine zz_aald (j := v1.toNatClampNeg) (q := (LR 299 v1.toNatClampNeg)) hb (show isT (kw K) 31 299 from isT.f (k := 2) (show isT (kw K) 9 288 from isT.f (k := 0) t0 hw rfl rfl rfl (by decide)) hw rfl rfl rfl (by decide)) (by decide) rfl rfl (zvi rfl (h3 c2)) (z_dec dX10_discardFault 11 rfl) ?_
    refine zz_aload_n hb (z_dec dX10_discardFault 12 rfl) rfl 0 rfl ?_
    refine zz_getr (k := 0) (q := 288) hb ho rfl ckX10 t0 rfl rfl (rX10_discardFault 0 rfl) rfl (z_dec dX10_discardFault 13 rfl) ?_
    refine zz_get (k := 4) hb ho ckX9 (show isT (kw K) 9 288 from isT.f (k := 0) t0 hw rfl rfl rfl (by decide)) rfl rfl (rX10_discardFault 6 rfl) rfl (z_dec dX10_discardFault 14 rfl) ?_
    refine zz_inv (as := [.int (g1 288 4)]) (d := 0) (mc := (0, 0)) (P := (qE f4 g4)) (X := nX) hb ho hnl hR hE mkX5_isReadyAt rfl ckX5 (show isT (kw K) 5 (LR 299 v1.toNatClampNeg) from isT.a (i := v1) (show isT (kw K) 31 299 from isT.f (k := 2) (show isT (kw K) 9 288 from isT.f (k := 0) t0 hw rfl rfl rfl (by decide)) hw rfl rfl rfl (by decide)) hw (zvi rfl (h3 c2)) rfl (fun _ => rfl) (by decide)) rfl ⟨Nat.le_refl 0, Nat.le_refl 0⟩ rfl (rX10_discardFault 7 rfl) (rX10_discardFault 8 rfl) (rX10_discardFault 9 rfl) rfl (z_dec dX10_discardFault 15 rfl) (m4 c2) (fun v J4 hp => ?_) (fun _ _ h => h.elim)
    obtain ⟨r4, rfl, e4, w4⟩ := hp
    have e4 := e4.symm
    subst e4
    have w4 := w4.symm
    subst w4
    show ZZ K (0, 0) 34 [(0, .ref 0), (1, .int v1)] [.int f4] g4
    refine zz_if_eq (tgt := 43) hb (z_dec dX10_discardFault 16 rfl) (by decide) (fun c5 => ?_) (fun c5 => ?_)
    · refine zz_gets (r := 1002) hb ho (zoF2 (kG K)) (rX10_discardFault 11 rfl) (z_dec dX10_discardFault 19 rfl) ?_
      exact zz_aret hb hE ⟨Nat.le_refl 0, Nat.le_refl 0⟩ (z_dec dX10_discardFault 20 rfl) (h6 c2 c5)
    · refine zz_gets (r := 1003) hb ho (zoF3 (kG K)) (rX10_discardFault 10 rfl) (z_dec dX10_discardFault 17 rfl) ?_
      refine zz_goto (tgt := 46) hb (z_dec dX10_discardFault 18 rfl) (by decide) ?_
      exact zz_aret hb hE ⟨Nat.le_refl 0, Nat.le_refl 0⟩ (z_dec dX10_discardFault 20 rfl) (h7 c2 c5)
  · refine zz_gets (r := 1000) hb ho (zoF0 (kG K)) (rX10_discardFault 4 rfl) (z_dec dX10_discardFault 5 rfl) ?_
    exact zz_aret hb hE ⟨Nat.le_refl 0, Nat.le_refl 0⟩ (z_dec dX10_discardFault 6 rfl) (h8 c2)
set_option maxRecDepth 20000 in
theorem bX10_outside_0 {K : zK} {P : Option Value → zM → Prop} {X : String → zM → Prop} (hK : zIs K RX10 cX10_outside 3 (some .boolean) 0 (0, 0) P X) (hw : wOK (kw K)) {I : zM} {v0 : Int32} {v1 : Int32} {v2 : Int32} (h2 : ∀ (c1 : v0 < v1), P (some (.int (1 : Int32))) I) (h4 : ∀ (c1 : ¬ v0 < v1) (c3 : v0 ≤ v2), P (some (.int (0 : Int32))) I) (h5 : ∀ (c1 : ¬ v0 < v1) (c3 : ¬ v0 ≤ v2), P (some (.int (1 : Int32))) I) : ZZ K (0, 0) 0 [(0, .int v0), (1, .int v1), (2, .int v2)] [] I := by
  obtain ⟨hb, ho, hnl, hR, hE⟩ := hK
  refine zz_iload_n hb (z_dec dX10_outside 0 rfl) rfl 0 rfl ?_
  refine zz_iload_n hb (z_dec dX10_outside 1 rfl) rfl 1 rfl ?_
  refine zz_icmp_lt (tgt := 10) hb (z_dec dX10_outside 2 rfl) (by decide) (fun c1 => ?_) (fun c1 => ?_)
  · refine zz_iconst (v := (1 : Int32)) hb (z_dec dX10_outside 6 rfl) (by decide) ?_
    refine zz_goto (tgt := 15) hb (z_dec dX10_outside 7 rfl) (by decide) ?_
    exact zz_zret hb hE ⟨Nat.le_refl 0, Nat.le_refl 0⟩ (by decide) (z_dec dX10_outside 9 rfl) (h2 c1)
  · refine zz_iload_n hb (z_dec dX10_outside 3 rfl) rfl 0 rfl ?_
    refine zz_iload_n hb (z_dec dX10_outside 4 rfl) rfl 2 rfl ?_
    refine zz_icmp_le (tgt := 14) hb (z_dec dX10_outside 5 rfl) (by decide) (fun c3 => ?_) (fun c3 => ?_)
    · refine zz_iconst (v := (0 : Int32)) hb (z_dec dX10_outside 8 rfl) (by decide) ?_
      exact zz_zret hb hE ⟨Nat.le_refl 0, Nat.le_refl 0⟩ (by decide) (z_dec dX10_outside 9 rfl) (h4 c1 c3)
    · refine zz_iconst (v := (1 : Int32)) hb (z_dec dX10_outside 6 rfl) (by decide) ?_
      refine zz_goto (tgt := 15) hb (z_dec dX10_outside 7 rfl) (by decide) ?_
      exact zz_zret hb hE ⟨Nat.le_refl 0, Nat.le_refl 0⟩ (by decide) (z_dec dX10_outside 9 rfl) (h5 c1 c3)
set_option maxRecDepth 20000 in
theorem bX10_readSetup_0 {K : zK} {P : Option Value → zM → Prop} {X : String → zM → Prop} {u mc : Nat × Nat} (hK : zIs K RX10 cX10_readSetup 2 (some .boolean) 7 mc P X) (hw : wOK (kw K)) {I : zM} (t0 : isT (kw K) 4 285) {v1 : Nat} (t1 : isT (kw K) 9 v1) {g1 : zM} (g_1 : u.1 ≤ mc.1 ∧ u.2 ≤ mc.2) (m1 : CT (kG K) (kw K) (kl K) (yX4_begin, cX4_begin, 1, none) 2 (0, 0) [.ref 285] I (qV (fun J => J = g1)) nX) {f2 : Int32} {g2 : zM} {mc2 : Nat × Nat} {x2 : String → zM → Prop} (g_2 : u.1 + mc2.1 ≤ mc.1 ∧ u.2 + mc2.2 ≤ mc.2) (n2 : ∀ (E : String) (J : zM), x2 E J → X E J) (m2 : CT (kG K) (kw K) (kl K) (yX10_readSettings, cX10_readSettings, 2, (some .boolean)) 6 mc2 [.ref 285, .ref v1] g1 (qE f2 g2) x2) (g4 : (u.1 + mc2.1, u.2 + mc2.2).1 ≤ mc.1 ∧ (u.1 + mc2.1, u.2 + mc2.2).2 ≤ mc.2) (h5 : ∀ (c3 : f2 = 0), P (some (.int (0 : Int32))) g2) {f6 : Int32} {g6 : zM} {mc6 : Nat × Nat} {x6 : String → zM → Prop} (g_6 : (u.1 + mc2.1, u.2 + mc2.2).1 + mc6.1 ≤ mc.1 ∧ (u.1 + mc2.1, u.2 + mc2.2).2 + mc6.2 ≤ mc.2) (n6 : ∀ (c3 : ¬ f2 = 0), ∀ (E : String) (J : zM), x6 E J → X E J) (m6 : ∀ (c3 : ¬ f2 = 0), CT (kG K) (kw K) (kl K) (yX10_readClerks, cX10_readClerks, 3, (some .boolean)) 5 mc6 [.ref 285, .ref (LR v1 1)] g2 (qE f6 g6) x6) {g8 : zM} (g_8 : ((u.1 + mc2.1, u.2 + mc2.2).1 + mc6.1, (u.1 + mc2.1, u.2 + mc2.2).2 + mc6.2).1 ≤ mc.1 ∧ ((u.1 + mc2.1, u.2 + mc2.2).1 + mc6.1, (u.1 + mc2.1, u.2 + mc2.2).2 + mc6.2).2 ≤ mc.2) (m8 : ∀ (c3 : ¬ f2 = 0) (c7 : ¬ f6 = 0), CT (kG K) (kw K) (kl K) (yX9_begin, cX9_begin, 1, none) 0 (0, 0) [.ref v1] g6 (qV (fun J => J = g8)) nX) {f9 : Int32} {g9 : zM} {mc9 : Nat × Nat} {x9 : String → zM → Prop} (g_9 : ((u.1 + mc2.1, u.2 + mc2.2).1 + mc6.1, (u.1 + mc2.1, u.2 + mc2.2).2 + mc6.2).1 + mc9.1 ≤ mc.1 ∧ ((u.1 + mc2.1, u.2 + mc2.2).1 + mc6.1, (u.1 + mc2.1, u.2 + mc2.2).2 + mc6.2).2 + mc9.2 ≤ mc.2) (n9 : ∀ (c3 : ¬ f2 = 0) (c7 : ¬ f6 = 0), ∀ (E : String) (J : zM), x9 E J → X E J) (m9 : ∀ (c3 : ¬ f2 = 0) (c7 : ¬ f6 = 0), CT (kG K) (kw K) (kl K) (yX10_readLetters, cX10_readLetters, 4, (some .boolean)) 5 mc9 [.ref 285, .ref v1] g8 (qE f9 g9) x9) (g10 : (((u.1 + mc2.1, u.2 + mc2.2).1 + mc6.1, (u.1 + mc2.1, u.2 + mc2.2).2 + mc6.2).1 + mc9.1, ((u.1 + mc2.1, u.2 + mc2.2).1 + mc6.1, (u.1 + mc2.1, u.2 + mc2.2).2 + mc6.2).2 + mc9.2).1 ≤ mc.1 ∧ (((u.1 + mc2.1, u.2 + mc2.2).1 + mc6.1, (u.1 + mc2.1, u.2 + mc2.2).2 + mc6.2).1 + mc9.1, ((u.1 + mc2.1, u.2 + mc2.2).1 + mc6.1, (u.1 + mc2.1, u.2 + mc2.2).2 + mc6.2).2 + mc9.2).2 ≤ mc.2) (h11 : ∀ (c3 : ¬ f2 = 0) (c7 : ¬ f6 = 0), P (some (.int f9)) g9) (z12 : ∀ (c3 : ¬ f2 = 0) (c7 : ¬ f6 = 0), f9 = 0 ∨ f9 = 1) (g13 : ((u.1 + mc2.1, u.2 + mc2.2).1 + mc6.1, (u.1 + mc2.1, u.2 + mc2.2).2 + mc6.2).1 ≤ mc.1 ∧ ((u.1 + mc2.1, u.2 + mc2.2).1 + mc6.1, (u.1 + mc2.1, u.2 + mc2.2).2 + mc6.2).2 ≤ mc.2) (h14 : ∀ (c3 : ¬ f2 = 0) (c7 : f6 = 0), P (some (.int (0 : Int32))) g6) : ZZ K u 0 [(0, .ref 285), (1, .ref v1)] [] I := by
  obtain ⟨hb, ho, hnl, hR, hE⟩ := hK
  refine zz_aload_n hb (z_dec dX10_readSetup 0 rfl) rfl 0 rfl ?_
  refine zz_inv (as := []) (d := 2) (mc := (0, 0)) (P := (qV (fun J => J = g1))) (X := nX) hb ho hnl hR hE mkX4_begin rfl ckX4 t0 rfl g_1 rfl (rX10_readSetup 0 rfl) (rX10_readSetup 1 rfl) (rX10_readSetup 2 rfl) rfl (z_dec dX10_readSetup 1 rfl) m1 (fun v J1 hp => ?_) (fun _ _ h => h.elim)
  obtain ⟨rfl, w1⟩ := hp
  have w1 := w1.symm
  subst w1
  show ZZ K u 4 [(0, .ref 285), (1, .ref v1)] [] g1
  refine zz_aload_n hb (z_dec dX10_readSetup 2 rfl) rfl 0 rfl ?_
  refine zz_aload_n hb (z_dec dX10_readSetup 3 rfl) rfl 1 rfl ?_
  refine zz_invS (as := [.ref 285, .ref v1]) (d := 6) (mc := mc2) (P := (qE f2 g2)) (X := x2) hb ho hnl hR hE mkX10_readSettings rfl rfl g_2 rfl (rX10_readSetup 3 rfl) (rX10_readSetup 4 rfl) rfl (z_dec dX10_readSetup 4 rfl) m2 (fun v J2 hp => ?_) n2
  obtain ⟨r2, rfl, e2, w2⟩ := hp
  have e2 := e2.symm
  subst e2
  have w2 := w2.symm
  subst w2
  show ZZ K (u.1 + mc2.1, u.2 + mc2.2) 9 [(0, .ref 285), (1, .ref v1)] [.int f2] g2
  refine zz_if_eq (tgt := 23) hb (z_dec dX10_readSetup 5 rfl) (by decide) (fun c3 => ?_) (fun c3 => ?_)
  · refine zz_iconst (v := (0 : Int32)) hb (z_dec dX10_readSetup 11 rfl) (by decide) ?_
    exact zz_zret hb hE g4 (by decide) (z_dec dX10_readSetup 12 rfl) (h5 c3)
  · refine zz_aload_n hb (z_dec dX10_readSetup 6 rfl) rfl 0 rfl ?_
    refine zz_aload_n hb (z_dec dX10_readSetup 7 rfl) rfl 1 rfl ?_
    refine zz_getr (k := 1) (q := (LR v1 1)) hb ho rfl ckX9 t1 rfl rfl (rX10_readSetup 5 rfl) rfl (z_dec dX10_readSetup 8 rfl) ?_
    refine zz_invS (as := [.ref 285, .ref (LR v1 1)]) (d := 5) (mc := mc6) (P := (qE f6 g6)) (X := x6) hb ho hnl hR hE mkX10_readClerks rfl rfl g_6 rfl (rX10_readSetup 6 rfl) (rX10_readSetup 7 rfl) rfl (z_dec dX10_readSetup 9 rfl) (m6 c3) (fun v J6 hp => ?_) (n6 c3)
    obtain ⟨r6, rfl, e6, w6⟩ := hp
    have e6 := e6.symm
    subst e6
    have w6 := w6.symm
    subst w6
    show ZZ K ((u.1 + mc2.1, u.2 + mc2.2).1 + mc6.1, (u.1 + mc2.1, u.2 + mc2.2).2 + mc6.2) 20 [(0, .ref 285), (1, .ref v1)] [.int f6] g6
    refine zz_if_ne (tgt := 25) hb (z_dec dX10_readSetup 10 rfl) (by decide) (fun c7 => ?_) (fun c7 => ?_)
    · refine zz_aload_n hb (z_dec dX10_readSetup 13 rfl) rfl 1 rfl ?_
      refine zz_inv (as := []) (d := 0) (mc := (0, 0)) (P := (qV (fun J => J = g8))) (X := nX) hb ho hnl hR hE mkX9_begin rfl ckX9 t1 rfl g_8 rfl (rX10_readSetup 8 rfl) (rX10_readSetup 9 rfl) (rX10_readSetup 10 rfl) rfl (z_dec dX10_readSetup 14 rfl) (m8 c3 c7) (fun v J8 hp => ?_) (fun _ _ h => h.elim)
      obtain ⟨rfl, w8⟩ := hp
      have w8 := w8.symm
      subst w8
      show ZZ K ((u.1 + mc2.1, u.2 + mc2.2).1 + mc6.1, (u.1 + mc2.1, u.2 + mc2.2).2 + mc6.2) 29 [(0, .ref 285), (1, .ref v1)] [] g8
      refine zz_aload_n hb (z_dec dX10_readSetup 15 rfl) rfl 0 rfl ?_
      refine zz_aload_n hb (z_dec dX10_readSetup 16 rfl) rfl 1 rfl ?_
      refine zz_invS (as := [.ref 285, .ref v1]) (d := 5) (mc := mc9) (P := (qE f9 g9)) (X := x9) hb ho hnl hR hE mkX10_readLetters rfl rfl g_9 rfl (rX10_readSetup 11 rfl) (rX10_readSetup 12 rfl) rfl (z_dec dX10_readSetup 17 rfl) (m9 c3 c7) (fun v J9 hp => ?_) (n9 c3 c7)
      obtain ⟨r9, rfl, e9, w9⟩ := hp
      have e9 := e9.symm
      subst e9
      have w9 := w9.symm
      subst w9
      show ZZ K (((u.1 + mc2.1, u.2 + mc2.2).1 + mc6.1, (u.1 + mc2.1, u.2 + mc2.2).2 + mc6.2).1 + mc9.1, ((u.1 + mc2.1, u.2 + mc2.2).1 + mc6.1, (u.1 + mc2.1, u.2 + mc2.2).2 + mc6.2).2 + mc9.2) 34 [(0, .ref 285), (1, .ref v1)] [.int f9] g9
      exact zz_zret hb hE g10 (z12 c3 c7) (z_dec dX10_readSetup 18 rfl) (h11 c3 c7)
    · refine zz_iconst (v := (0 : Int32)) hb (z_dec dX10_readSetup 11 rfl) (by decide) ?_
      exact zz_zret hb hE g13 (by decide) (z_dec dX10_readSetup 12 rfl) (h14 c3 c7)
set_option maxRecDepth 20000 in
theorem bX10_readSettings_0 {K : zK} {P : Option Value → zM → Prop} {X : String → zM → Prop} {u mc : Nat × Nat} (hK : zIs K RX10 cX10_readSettings 2 (some .boolean) 6 mc P X) (hw : wOK (kw K)) {I : zM} (t0 : isT (kw K) 4 285) {v1 : Nat} (t1 : isT (kw K) 9 v1) {f1 : Int32} {g1 : zM} {mc1 : Nat × Nat} {x1 : String → zM → Prop} (g_1 : u.1 + mc1.1 ≤ mc.1 ∧ u.2 + mc1.2 ≤ mc.2) (n1 : ∀ (E : String) (J : zM), x1 E J → X E J) (m1 : CT (kG K) (kw K) (kl K) (yX4_takeKeyword, cX4_takeKeyword, 2, (some .boolean)) 5 mc1 [.ref 285, .ref 1100] I (qE f1 g1) x1) (g3 : (u.1 + mc1.1, u.2 + mc1.2).1 ≤ mc.1 ∧ (u.1 + mc1.1, u.2 + mc1.2).2 ≤ mc.2) (h4 : ∀ (c2 : f1 = 0), P (some (.int (0 : Int32))) g1) {f5 : Int32} {g5 : zM} (g_5 : (u.1 + mc1.1, u.2 + mc1.2).1 ≤ mc.1 ∧ (u.1 + mc1.1, u.2 + mc1.2).2 ≤ mc.2) (m5 : ∀ (c2 : ¬ f1 = 0), CT (kG K) (kw K) (kl K) (yX4_takeNumbers, cX4_takeNumbers, 4, (some .boolean)) 2 (0, 0) [.ref 285, .ref 1010, .ref 1011] g1 (qE f5 g5) nX) {f7 : Int32} {g7 : zM} (g_7 : (u.1 + mc1.1, u.2 + mc1.2).1 ≤ mc.1 ∧ (u.1 + mc1.1, u.2 + mc1.2).2 ≤ mc.2) (m7 : ∀ (c2 : ¬ f1 = 0) (c6 : ¬ f5 = 0), CT (kG K) (kw K) (kl K) (yX4_takeSemicolon, cX4_takeSemicolon, 1, (some .boolean)) 2 (0, 0) [.ref 285] (up (up (up (up (up (up (up g5 v1 5 (g5 287 0)) (LR v1 0) 0 ((up g5 v1 5 (g5 287 0)) 287 1)) (LR v1 0) 1 ((up (up g5 v1 5 (g5 287 0)) (LR v1 0) 0 ((up g5 v1 5 (g5 287 0)) 287 1)) 287 2)) (LR v1 0) 2 ((up (up (up g5 v1 5 (g5 287 0)) (LR v1 0) 0 ((up g5 v1 5 (g5 287 0)) 287 1)) (LR v1 0) 1 ((up (up g5 v1 5 (g5 287 0)) (LR v1 0) 0 ((up g5 v1 5 (g5 287 0)) 287 1)) 287 2)) 287 3)) (LR v1 0) 3 ((up (up (up (up g5 v1 5 (g5 287 0)) (LR v1 0) 0 ((up g5 v1 5 (g5 287 0)) 287 1)) (LR v1 0) 1 ((up (up g5 v1 5 (g5 287 0)) (LR v1 0) 0 ((up g5 v1 5 (g5 287 0)) 287 1)) 287 2)) (LR v1 0) 2 ((up (up (up g5 v1 5 (g5 287 0)) (LR v1 0) 0 ((up g5 v1 5 (g5 287 0)) 287 1)) (LR v1 0) 1 ((up (up g5 v1 5 (g5 287 0)) (LR v1 0) 0 ((up g5 v1 5 (g5 287 0)) 287 1)) 287 2)) 287 3)) 287 4)) (LR v1 0) 4 ((up (up (up (up (up g5 v1 5 (g5 287 0)) (LR v1 0) 0 ((up g5 v1 5 (g5 287 0)) 287 1)) (LR v1 0) 1 ((up (up g5 v1 5 (g5 287 0)) (LR v1 0) 0 ((up g5 v1 5 (g5 287 0)) 287 1)) 287 2)) (LR v1 0) 2 ((up (up (up g5 v1 5 (g5 287 0)) (LR v1 0) 0 ((up g5 v1 5 (g5 287 0)) 287 1)) (LR v1 0) 1 ((up (up g5 v1 5 (g5 287 0)) (LR v1 0) 0 ((up g5 v1 5 (g5 287 0)) 287 1)) 287 2)) 287 3)) (LR v1 0) 3 ((up (up (up (up g5 v1 5 (g5 287 0)) (LR v1 0) 0 ((up g5 v1 5 (g5 287 0)) 287 1)) (LR v1 0) 1 ((up (up g5 v1 5 (g5 287 0)) (LR v1 0) 0 ((up g5 v1 5 (g5 287 0)) 287 1)) 287 2)) (LR v1 0) 2 ((up (up (up g5 v1 5 (g5 287 0)) (LR v1 0) 0 ((up g5 v1 5 (g5 287 0)) 287 1)) (LR v1 0) 1 ((up (up g5 v1 5 (g5 287 0)) (LR v1 0) 0 ((up g5 v1 5 (g5 287 0)) 287 1)) 287 2)) 287 3)) 287 4)) 287 5)) (LR v1 0) 5 ((up (up (up (up (up (up g5 v1 5 (g5 287 0)) (LR v1 0) 0 ((up g5 v1 5 (g5 287 0)) 287 1)) (LR v1 0) 1 ((up (up g5 v1 5 (g5 287 0)) (LR v1 0) 0 ((up g5 v1 5 (g5 287 0)) 287 1)) 287 2)) (LR v1 0) 2 ((up (up (up g5 v1 5 (g5 287 0)) (LR v1 0) 0 ((up g5 v1 5 (g5 287 0)) 287 1)) (LR v1 0) 1 ((up (up g5 v1 5 (g5 287 0)) (LR v1 0) 0 ((up g5 v1 5 (g5 287 0)) 287 1)) 287 2)) 287 3)) (LR v1 0) 3 ((up (up (up (up g5 v1 5 (g5 287 0)) (LR v1 0) 0 ((up g5 v1 5 (g5 287 0)) 287 1)) (LR v1 0) 1 ((up (up g5 v1 5 (g5 287 0)) (LR v1 0) 0 ((up g5 v1 5 (g5 287 0)) 287 1)) 287 2)) (LR v1 0) 2 ((up (up (up g5 v1 5 (g5 287 0)) (LR v1 0) 0 ((up g5 v1 5 (g5 287 0)) 287 1)) (LR v1 0) 1 ((up (up g5 v1 5 (g5 287 0)) (LR v1 0) 0 ((up g5 v1 5 (g5 287 0)) 287 1)) 287 2)) 287 3)) 287 4)) (LR v1 0) 4 ((up (up (up (up (up g5 v1 5 (g5 287 0)) (LR v1 0) 0 ((up g5 v1 5 (g5 287 0)) 287 1)) (LR v1 0) 1 ((up (up g5 v1 5 (g5 287 0)) (LR v1 0) 0 ((up g5 v1 5 (g5 287 0)) 287 1)) 287 2)) (LR v1 0) 2 ((up (up (up g5 v1 5 (g5 287 0)) (LR v1 0) 0 ((up g5 v1 5 (g5 287 0)) 287 1)) (LR v1 0) 1 ((up (up g5 v1 5 (g5 287 0)) (LR v1 0) 0 ((up g5 v1 5 (g5 287 0)) 287 1)) 287 2)) 287 3)) (LR v1 0) 3 ((up (up (up (up g5 v1 5 (g5 287 0)) (LR v1 0) 0 ((up g5 v1 5 (g5 287 0)) 287 1)) (LR v1 0) 1 ((up (up g5 v1 5 (g5 287 0)) (LR v1 0) 0 ((up g5 v1 5 (g5 287 0)) 287 1)) 287 2)) (LR v1 0) 2 ((up (up (up g5 v1 5 (g5 287 0)) (LR v1 0) 0 ((up g5 v1 5 (g5 287 0)) 287 1)) (LR v1 0) 1 ((up (up g5 v1 5 (g5 287 0)) (LR v1 0) 0 ((up g5 v1 5 (g5 287 0)) 287 1)) 287 2)) 287 3)) 287 4)) 287 5)) 287 6)) (qE f7 g7) nX) (g8 : (u.1 + mc1.1, u.2 + mc1.2).1 ≤ mc.1 ∧ (u.1 + mc1.1, u.2 + mc1.2).2 ≤ mc.2) (h9 : ∀ (c2 : ¬ f1 = 0) (c6 : ¬ f5 = 0), P (some (.int f7)) g7) (z10 : ∀ (c2 : ¬ f1 = 0) (c6 : ¬ f5 = 0), f7 = 0 ∨ f7 = 1) (g11 : (u.1 + mc1.1, u.2 + mc1.2).1 ≤ mc.1 ∧ (u.1 + mc1.1, u.2 + mc1.2).2 ≤ mc.2) (h12 : ∀ (c2 : ¬ f1 = 0) (c6 : f5 = 0), P (some (.int (0 : Int32))) g5) : ZZ K u 0 [(0, .ref 285), (1, .ref v1)] [] I := by
  obtain ⟨hb, ho, hnl, hR, hE⟩ := hK
  refine zz_aload_n hb (z_dec dX10_readSettings 0 rfl) rfl 0 rfl ?_
  refine zz_ldcw hb ho 8 rfl (z_dec dX10_readSettings 1 rfl) ?_
  refine zz_inv (as := [.ref 1100]) (d := 5) (mc := mc1) (P := (qE f1 g1)) (X := x1) hb ho hnl hR hE mkX4_takeKeyword rfl ckX4 t0 rfl g_1 rfl (rX10_readSettings 0 rfl) (rX10_readSettings 1 rfl) (rX10_readSettings 2 rfl) rfl (z_dec dX10_readSettings 2 rfl) m1 (fun v J1 hp => ?_) n1
  obtain ⟨r1, rfl, e1, w1⟩ := hp
  have e1 := e1.symm
  subst e1
  have w1 := w1.symm
  subst w1
  show ZZ K (u.1 + mc1.1, u.2 + mc1.2) 7 [(0, .ref 285), (1, .ref v1)] [.int f1] g1
  refine zz_if_eq (tgt := 23) hb (z_dec dX10_readSettings 3 rfl) (by decide) (fun c2 => ?_) (fun c2 => ?_)
  · refine zz_iconst (v := (0 : Int32)) hb (z_dec dX10_readSettings 9 rfl) (by decide) ?_
    exact zz_zret hb hE g3 (by decide) (z_dec dX10_readSettings 10 rfl) (h4 c2)
  · refine zz_aload_n hb (z_dec dX10_readSettings 4 rfl) rfl 0 rfl ?_
    refine zz_gets (r := 1010) hb ho (zoZ0 (kG K)) (rX10_readSettings 3 rfl) (z_dec dX10_readSettings 5 rfl) ?_
    refine zz_gets (r := 1011) hb ho (zoZ1 (kG K)) (rX10_readSettings 4 rfl) (z_dec dX10_readSettings 6 rfl) ?_
    refine zz_inv (as := [.ref 1010, .ref 1011]) (d := 2) (mc := (0, 0)) (P := (qE f5 g5)) (X := nX) hb ho hnl hR hE mkX4_takeNumbers rfl ckX4 t0 rfl g_5 rfl (rX10_readSettings 5 rfl) (rX10_readSettings 6 rfl) (rX10_readSettings 7 rfl) rfl (z_dec dX10_readSettings 7 rfl) (m5 c2) (fun v J5 hp => ?_) (fun _ _ h => h.elim)
    obtain ⟨r5, rfl, e5, w5⟩ := hp
    have e5 := e5.symm
    subst e5
    have w5 := w5.symm
    subst w5
    show ZZ K (u.1 + mc1.1, u.2 + mc1.2) 20 [(0, .ref 285), (1, .ref v1)] [.int f5] g5
    refine zz_if_ne (tgt := 25) hb (z_dec dX10_readSettings 8 rfl) (by decide) (fun c6 => ?_) (fun c6 => ?_)
    · refine zz_aload_n hb (z_dec dX10_readSettings 11 rfl) rfl 1 rfl ?_
      refine zz_aload_n hb (z_dec dX10_readSettings 12 rfl) rfl 0 rfl ?_
      refine zz_getr (k := 5) (q := 287) hb ho rfl ckX4 t0 rfl rfl (rX10_readSettings 8 rfl) rfl (z_dec dX10_readSettings 13 rfl) ?_
      refine zz_iconst (v := (0 : Int32)) hb (z_dec dX10_readSettings 14 rfl) (by decide) ?_
      refine zz_iald (j := 0) hb (show isT (kw K) 20 287 from isT.f (k := 5) t0 hw rfl rfl rfl (by decide)) rfl (zvi rfl (zin rfl)) (z_dec dX10_readSettings 15 rfl) ?_
      refine zz_put (k := 5) hb ho ckX9 t1 rfl rfl (rX10_readSettings 9 rfl) rfl rfl rfl (z_dec dX10_readSettings 16 rfl) ?_
      refine zz_aload_n hb (z_dec dX10_readSettings 17 rfl) rfl 1 rfl ?_
      refine zz_getr (k := 0) (q := (LR v1 0)) hb ho rfl ckX9 t1 rfl rfl (rX10_readSettings 10 rfl) rfl (z_dec dX10_readSettings 18 rfl) ?_
      refine zz_aload_n hb (z_dec dX10_readSettings 19 rfl) rfl 0 rfl ?_
      refine zz_getr (k := 5) (q := 287) hb ho rfl ckX4 t0 rfl rfl (rX10_readSettings 8 rfl) rfl (z_dec dX10_readSettings 20 rfl) ?_
      refine zz_iconst (v := (1 : Int32)) hb (z_dec dX10_readSettings 21 rfl) (by decide) ?_
      refine zz_iald (j := 1) hb (show isT (kw K) 20 287 from isT.f (k := 5) t0 hw rfl rfl rfl (by decide)) rfl (zvi rfl (zin rfl)) (z_dec dX10_readSettings 22 rfl) ?_
      refine zz_put (k := 0) hb ho ckX8 (show isT (kw K) 8 (LR v1 0) from isT.f (k := 0) t1 hw rfl rfl rfl (by decide)) rfl rfl (rX10_readSettings 11 rfl) rfl rfl rfl (z_dec dX10_readSettings 23 rfl) ?_
      refine zz_aload_n hb (z_dec dX10_readSettings 24 rfl) rfl 1 rfl ?_
      refine zz_getr (k := 0) (q := (LR v1 0)) hb ho rfl ckX9 t1 rfl rfl (rX10_readSettings 10 rfl) rfl (z_dec dX10_readSettings 25 rfl) ?_
      refine zz_aload_n hb (z_dec dX10_readSettings 26 rfl) rfl 0 rfl ?_
      refine zz_getr (k := 5) (q := 287) hb ho rfl ckX4 t0 rfl rfl (rX10_readSettings 8 rfl) rfl (z_dec dX10_readSettings 27 rfl) ?_
      refine zz_iconst (v := (2 : Int32)) hb (z_dec dX10_readSettings 28 rfl) (by decide) ?_
      refine zz_iald (j := 2) hb (show isT (kw K) 20 287 from isT.f (k := 5) t0 hw rfl rfl rfl (by decide)) rfl (zvi rfl (zin rfl)) (z_dec dX10_readSettings 29 rfl) ?_
      refine zz_put (k := 1) hb ho ckX8 (show isT (kw K) 8 (LR v1 0) from isT.f (k := 0) t1 hw rfl rfl rfl (by decide)) rfl rfl (rX10_readSettings 12 rfl) rfl rfl rfl (z_dec dX10_readSettings 30 rfl) ?_
      refine zz_aload_n hb (z_dec dX10_readSettings 31 rfl) rfl 1 rfl ?_
      refine zz_getr (k := 0) (q := (LR v1 0)) hb ho rfl ckX9 t1 rfl rfl (rX10_readSettings 10 rfl) rfl (z_dec dX10_readSettings 32 rfl) ?_
      refine zz_aload_n hb (z_dec dX10_readSettings 33 rfl) rfl 0 rfl ?_
      refine zz_getr (k := 5) (q := 287) hb ho rfl ckX4 t0 rfl rfl (rX10_readSettings 8 rfl) rfl (z_dec dX10_readSettings 34 rfl) ?_
      refine zz_iconst (v := (3 : Int32)) hb (z_dec dX10_readSettings 35 rfl) (by decide) ?_
      refine zz_iald (j := 3) hb (show isT (kw K) 20 287 from isT.f (k := 5) t0 hw rfl rfl rfl (by decide)) rfl (zvi rfl (zin rfl)) (z_dec dX10_readSettings 36 rfl) ?_
      refine zz_put (k := 2) hb ho ckX8 (show isT (kw K) 8 (LR v1 0) from isT.f (k := 0) t1 hw rfl rfl rfl (by decide)) rfl rfl (rX10_readSettings 13 rfl) rfl rfl rfl (z_dec dX10_readSettings 37 rfl) ?_
      refine zz_aload_n hb (z_dec dX10_readSettings 38 rfl) rfl 1 rfl ?_
      refine zz_getr (k := 0) (q := (LR v1 0)) hb ho rfl ckX9 t1 rfl rfl (rX10_readSettings 10 rfl) rfl (z_dec dX10_readSettings 39 rfl) ?_
      refine zz_aload_n hb (z_dec dX10_readSettings 40 rfl) rfl 0 rfl ?_
      refine zz_getr (k := 5) (q := 287) hb ho rfl ckX4 t0 rfl rfl (rX10_readSettings 8 rfl) rfl (z_dec dX10_readSettings 41 rfl) ?_
      refine zz_iconst (v := (4 : Int32)) hb (z_dec dX10_readSettings 42 rfl) (by decide) ?_
      refine zz_iald (j := 4) hb (show isT (kw K) 20 287 from isT.f (k := 5) t0 hw rfl rfl rfl (by decide)) rfl (zvi rfl (zin rfl)) (z_dec dX10_readSettings 43 rfl) ?_
      refine zz_put (k := 3) hb ho ckX8 (show isT (kw K) 8 (LR v1 0) from isT.f (k := 0) t1 hw rfl rfl rfl (by decide)) rfl rfl (rX10_readSettings 14 rfl) rfl rfl rfl (z_dec dX10_readSettings 44 rfl) ?_
      refine zz_aload_n hb (z_dec dX10_readSettings 45 rfl) rfl 1 rfl ?_
      refine zz_getr (k := 0) (q := (LR v1 0)) hb ho rfl ckX9 t1 rfl rfl (rX10_readSettings 10 rfl) rfl (z_dec dX10_readSettings 46 rfl) ?_
      refine zz_aload_n hb (z_dec dX10_readSettings 47 rfl) rfl 0 rfl ?_
      refine zz_getr (k := 5) (q := 287) hb ho rfl ckX4 t0 rfl rfl (rX10_readSettings 8 rfl) rfl (z_dec dX10_readSettings 48 rfl) ?_
      refine zz_iconst (v := (5 : Int32)) hb (z_dec dX10_readSettings 49 rfl) (by decide) ?_
      refine zz_iald (j := 5) hb (show isT (kw K) 20 287 from isT.f (k := 5) t0 hw rfl rfl rfl (by decide)) rfl (zvi rfl (zin rfl)) (z_dec dX10_readSettings 50 rfl) ?_
      refine zz_put (k := 4) hb ho ckX8 (show isT (kw K) 8 (LR v1 0) from isT.f (k := 0) t1 hw rfl rfl rfl (by decide)) rfl rfl (rX10_readSettings 15 rfl) rfl rfl rfl (z_dec dX10_readSettings 51 rfl) ?_
      refine zz_aload_n hb (z_dec dX10_readSettings 52 rfl) rfl 1 rfl ?_
      refine zz_getr (k := 0) (q := (LR v1 0)) hb ho rfl ckX9 t1 rfl rfl (rX10_readSettings 10 rfl) rfl (z_dec dX10_readSettings 53 rfl) ?_
      refine zz_aload_n hb (z_dec dX10_readSettings 54 rfl) rfl 0 rfl ?_
      refine zz_getr (k := 5) (q := 287) hb ho rfl ckX4 t0 rfl rfl (rX10_readSettings 8 rfl) rfl (z_dec dX10_readSettings 55 rfl) ?_
      refine zz_bipush (v := (6 : Int32)) hb (z_dec dX10_readSettings 56 rfl) (by decide) ?_
      refine zz_iald (j := 6) hb (show isT (kw K) 20 287 from isT.f (k := 5) t0 hw rfl rfl rfl (by decide)) rfl (zvi rfl (zin rfl)) (z_dec dX10_readSettings 57 rfl) ?_
      refine zz_put (k := 5) hb ho ckX8 (show isT (kw K) 8 (LR v1 0) from isT.f (k := 0) t1 hw rfl rfl rfl (by decide)) rfl rfl (rX10_readSettings 16 rfl) rfl rfl rfl (z_dec dX10_readSettings 58 rfl) ?_
      refine zz_aload_n hb (z_dec dX10_readSettings 59 rfl) rfl 0 rfl ?_
      refine zz_inv (as := []) (d := 2) (mc := (0, 0)) (P := (qE f7 g7)) (X := nX) hb ho hnl hR hE mkX4_takeSemicolon rfl ckX4 t0 rfl g_7 rfl (rX10_readSettings 17 rfl) (rX10_readSettings 18 rfl) (rX10_readSettings 19 rfl) rfl (z_dec dX10_readSettings 60 rfl) (m7 c2 c6) (fun v J7 hp => ?_) (fun _ _ h => h.elim)
      obtain ⟨r7, rfl, e7, w7⟩ := hp
      have e7 := e7.symm
      subst e7
      have w7 := w7.symm
      subst w7
      show ZZ K (u.1 + mc1.1, u.2 + mc1.2) 118 [(0, .ref 285), (1, .ref v1)] [.int f7] g7
      exact zz_zret hb hE g8 (z10 c2 c6) (z_dec dX10_readSettings 61 rfl) (h9 c2 c6)
    · refine zz_iconst (v := (0 : Int32)) hb (z_dec dX10_readSettings 9 rfl) (by decide) ?_
      exact zz_zret hb hE g11 (by decide) (z_dec dX10_readSettings 10 rfl) (h12 c2 c6)
set_option maxRecDepth 20000 in
theorem bX10_readClerks_0 {K : zK} {P : Option Value → zM → Prop} {X : String → zM → Prop} {u mc : Nat × Nat} (hK : zIs K RX10 cX10_readClerks 3 (some .boolean) 5 mc P X) (hw : wOK (kw K)) {I : zM} (t0 : isT (kw K) 4 285) {v1 : Nat} (t1 : isT (kw K) 1 v1) (k1 : ZZ K u 7 [(0, .ref 285), (1, .ref v1), (2, .int (0 : Int32))] [] (up I v1 0 (0 : Int32))) : ZZ K u 0 [(0, .ref 285), (1, .ref v1)] [] I := by
  obtain ⟨hb, ho, hnl, hR, hE⟩ := hK
  refine zz_aload_n hb (z_dec dX10_readClerks 0 rfl) rfl 1 rfl ?_
  refine zz_iconst (v := (0 : Int32)) hb (z_dec dX10_readClerks 1 rfl) (by decide) ?_
  refine zz_put (k := 0) hb ho ckX0 t1 rfl rfl (rX10_readClerks 0 rfl) rfl rfl rfl (z_dec dX10_readClerks 2 rfl) ?_
  refine zz_iconst (v := (0 : Int32)) hb (z_dec dX10_readClerks 3 rfl) (by decide) ?_
  refine zz_istore_n (L' := [(0, .ref 285), (1, .ref v1), (2, .int (0 : Int32))]) hb (z_dec dX10_readClerks 4 rfl) rfl hnl rfl [1, 2, 0] rfl ?_
  exact k1
set_option maxRecDepth 20000 in
theorem bX10_readClerks_7 {K : zK} {P : Option Value → zM → Prop} {X : String → zM → Prop} {u mc : Nat × Nat} (hK : zIs K RX10 cX10_readClerks 3 (some .boolean) 5 mc P X) (hw : wOK (kw K)) {I : zM} (t0 : isT (kw K) 4 285) {v1 : Nat} (t1 : isT (kw K) 1 v1) {v2 : Int32} (g2 : u.1 ≤ mc.1 ∧ u.2 ≤ mc.2) (h3 : ∀ (c1 : (6 : Int32) < v2), P (some (.int (1 : Int32))) I) {f4 : Int32} {g4 : zM} {mc4 : Nat × Nat} {x4 : String → zM → Prop} (g_4 : u.1 + mc4.1 ≤ mc.1 ∧ u.2 + mc4.2 ≤ mc.2) (n4 : ∀ (c1 : ¬ (6 : Int32) < v2), ∀ (E : String) (J : zM), x4 E J → X E J) (m4 : ∀ (c1 : ¬ (6 : Int32) < v2), CT (kG K) (kw K) (kl K) (yX4_isAtWord, cX4_isAtWord, 3, (some .boolean)) 4 mc4 [.ref 285, .ref 1101] I (qE f4 g4) x4) {g7 : zM} (g_7 : (u.1 + mc4.1, u.2 + mc4.2).1 ≤ mc.1 ∧ (u.1 + mc4.1, u.2 + mc4.2).2 ≤ mc.2) (m7 : ∀ (c1 : ¬ (6 : Int32) < v2) (c5 : ¬ f4 = 0) (c6 : ¬ v2 = (6 : Int32)), CT (kG K) (kw K) (kl K) (yX4_advance, cX4_advance, 1, none) 1 (0, 0) [.ref 285] g4 (qV (fun J => J = g7)) nX) {f8 : Int32} {g8 : zM} (g_8 : (u.1 + mc4.1, u.2 + mc4.2).1 ≤ mc.1 ∧ (u.1 + mc4.1, u.2 + mc4.2).2 ≤ mc.2) (m8 : ∀ (c1 : ¬ (6 : Int32) < v2) (c5 : ¬ f4 = 0) (c6 : ¬ v2 = (6 : Int32)), CT (kG K) (kw K) (kl K) (yX4_isAtName, cX4_isAtName, 1, (some .boolean)) 1 (0, 0) [.ref 285] g7 (qE f8 g8) nX) {f10 : Int32} {g10 : zM} (g_10 : (u.1 + mc4.1, u.2 + mc4.2).1 ≤ mc.1 ∧ (u.1 + mc4.1, u.2 + mc4.2).2 ≤ mc.2) (m10 : ∀ (c1 : ¬ (6 : Int32) < v2) (c5 : ¬ f4 = 0) (c6 : ¬ v2 = (6 : Int32)) (c9 : ¬ f8 = 0), CT (kG K) (kw K) (kl K) (yX0_find, cX0_find, 5, (some .int)) 1 (0, 0) [.ref v1, .ref 286, .int (g8 285 3), .int (g8 285 4)] g8 (qE f10 g10) nX) {g12 : zM} (g_12 : (u.1 + mc4.1, u.2 + mc4.2).1 ≤ mc.1 ∧ (u.1 + mc4.1, u.2 + mc4.2).2 ≤ mc.2) (m12 : ∀ (c1 : ¬ (6 : Int32) < v2) (c5 : ¬ f4 = 0) (c6 : ¬ v2 = (6 : Int32)) (c9 : ¬ f8 = 0) (c11 : f10 = (-1 : Int32)), CT (kG K) (kw K) (kl K) (yX0_add, cX0_add, 5, none) 0 (0, 0) [.ref v1, .ref 286, .int (g10 285 3), .int (g10 285 4)] g10 (qV (fun J => J = g12)) nX) {g13 : zM} (g_13 : (u.1 + mc4.1, u.2 + mc4.2).1 ≤ mc.1 ∧ (u.1 + mc4.1, u.2 + mc4.2).2 ≤ mc.2) (m13 : ∀ (c1 : ¬ (6 : Int32) < v2) (c5 : ¬ f4 = 0) (c6 : ¬ v2 = (6 : Int32)) (c9 : ¬ f8 = 0) (c11 : f10 = (-1 : Int32)), CT (kG K) (kw K) (kl K) (yX4_advance, cX4_advance, 1, none) 1 (0, 0) [.ref 285] g12 (qV (fun J => J = g13)) nX) {f14 : Int32} {g14 : zM} (g_14 : (u.1 + mc4.1, u.2 + mc4.2).1 ≤ mc.1 ∧ (u.1 + mc4.1, u.2 + mc4.2).2 ≤ mc.2) (m14 : ∀ (c1 : ¬ (6 : Int32) < v2) (c5 : ¬ f4 = 0) (c6 : ¬ v2 = (6 : Int32)) (c9 : ¬ f8 = 0) (c11 : f10 = (-1 : Int32)), CT (kG K) (kw K) (kl K) (yX4_takeSemicolon, cX4_takeSemicolon, 1, (some .boolean)) 2 (0, 0) [.ref 285] g13 (qE f14 g14) nX) (k16 : ∀ (c1 : ¬ (6 : Int32) < v2) (c5 : ¬ f4 = 0) (c6 : ¬ v2 = (6 : Int32)) (c9 : ¬ f8 = 0) (c11 : f10 = (-1 : Int32)) (c15 : ¬ f14 = 0), ZZ K (u.1 + mc4.1, u.2 + mc4.2) 7 [(0, .ref 285), (1, .ref v1), (2, .int (v2 + 1))] [] g14) (g17 : (u.1 + mc4.1, u.2 + mc4.2).1 ≤ mc.1 ∧ (u.1 + mc4.1, u.2 + mc4.2).2 ≤ mc.2) (h18 : ∀ (c1 : ¬ (6 : Int32) < v2) (c5 : ¬ f4 = 0) (c6 : ¬ v2 = (6 : Int32)) (c9 : ¬ f8 = 0) (c11 : f10 = (-1 : Int32)) (c15 : f14 = 0), P (some (.int (0 : Int32))) g14) {f19 : Int32} {g19 : zM} (g_19 : (u.1 + mc4.1, u.2 + mc4.2).1 ≤ mc.1 ∧ (u.1 + mc4.1, u.2 + mc4.2).2 ≤ mc.2) (m19 : ∀ (c1 : ¬ (6 : Int32) < v2) (c5 : ¬ f4 = 0) (c6 : ¬ v2 = (6 : Int32)) (c9 : ¬ f8 = 0) (c11 : ¬ f10 = (-1 : Int32)), CT (kG K) (kw K) (kl K) (yX4_fail, cX4_fail, 2, (some .boolean)) 0 (0, 0) [.ref 285, .int (3 : Int32)] g10 (qE f19 g19) nX) (g20 : (u.1 + mc4.1, u.2 + mc4.2).1 ≤ mc.1 ∧ (u.1 + mc4.1, u.2 + mc4.2).2 ≤ mc.2) (h21 : ∀ (c1 : ¬ (6 : Int32) < v2) (c5 : ¬ f4 = 0) (c6 : ¬ v2 = (6 : Int32)) (c9 : ¬ f8 = 0) (c11 : ¬ f10 = (-1 : Int32)), P (some (.int f19)) g19) (z22 : ∀ (c1 : ¬ (6 : Int32) < v2) (c5 : ¬ f4 = 0) (c6 : ¬ v2 = (6 : Int32)) (c9 : ¬ f8 = 0) (c11 : ¬ f10 = (-1 : Int32)), f19 = 0 ∨ f19 = 1) (g23 : (u.1 + mc4.1, u.2 + mc4.2).1 ≤ mc.1 ∧ (u.1 + mc4.1, u.2 + mc4.2).2 ≤ mc.2) (h24 : ∀ (c1 : ¬ (6 : Int32) < v2) (c5 : ¬ f4 = 0) (c6 : ¬ v2 = (6 : Int32)) (c9 : f8 = 0), P (some (.int (0 : Int32))) g8) {f25 : Int32} {g25 : zM} (g_25 : (u.1 + mc4.1, u.2 + mc4.2).1 ≤ mc.1 ∧ (u.1 + mc4.1, u.2 + mc4.2).2 ≤ mc.2) (m25 : ∀ (c1 : ¬ (6 : Int32) < v2) (c5 : ¬ f4 = 0) (c6 : v2 = (6 : Int32)), CT (kG K) (kw K) (kl K) (yX4_fail, cX4_fail, 2, (some .boolean)) 0 (0, 0) [.ref 285, .int (4 : Int32)] g4 (qE f25 g25) nX) (g26 : (u.1 + mc4.1, u.2 + mc4.2).1 ≤ mc.1 ∧ (u.1 + mc4.1, u.2 + mc4.2).2 ≤ mc.2) (h27 : ∀ (c1 : ¬ (6 : Int32) < v2) (c5 : ¬ f4 = 0) (c6 : v2 = (6 : Int32)), P (some (.int f25)) g25) (z28 : ∀ (c1 : ¬ (6 : Int32) < v2) (c5 : ¬ f4 = 0) (c6 : v2 = (6 : Int32)), f25 = 0 ∨ f25 = 1) (g30 : (u.1 + mc4.1, u.2 + mc4.2).1 ≤ mc.1 ∧ (u.1 + mc4.1, u.2 + mc4.2).2 ≤ mc.2) (h31 : ∀ (c1 : ¬ (6 : Int32) < v2) (c5 : f4 = 0) (c29 : (2 : Int32) ≤ v2), P (some (.int (1 : Int32))) g4) {f32 : Int32} {g32 : zM} (g_32 : (u.1 + mc4.1, u.2 + mc4.2).1 ≤ mc.1 ∧ (u.1 + mc4.1, u.2 + mc4.2).2 ≤ mc.2) (m32 : ∀ (c1 : ¬ (6 : Int32) < v2) (c5 : f4 = 0) (c29 : ¬ (2 : Int32) ≤ v2), CT (kG K) (kw K) (kl K) (yX4_fail, cX4_fail, 2, (some .boolean)) 0 (0, 0) [.ref 285, .int (1 : Int32)] g4 (qE f32 g32) nX) (g34 : (u.1 + mc4.1, u.2 + mc4.2).1 ≤ mc.1 ∧ (u.1 + mc4.1, u.2 + mc4.2).2 ≤ mc.2) (h35 : ∀ (c1 : ¬ (6 : Int32) < v2) (c5 : f4 = 0) (c29 : ¬ (2 : Int32) ≤ v2) (c33 : f32 = 0), P (some (.int (0 : Int32))) g32) (g36 : (u.1 + mc4.1, u.2 + mc4.2).1 ≤ mc.1 ∧ (u.1 + mc4.1, u.2 + mc4.2).2 ≤ mc.2) (h37 : ∀ (c1 : ¬ (6 : Int32) < v2) (c5 : f4 = 0) (c29 : ¬ (2 : Int32) ≤ v2) (c33 : ¬ f32 = 0), P (some (.int (1 : Int32))) g32) : ZZ K u 7 [(0, .ref 285), (1, .ref v1), (2, .int v2)] [] I := by
  obtain ⟨hb, ho, hnl, hR, hE⟩ := hK
  refine zz_iload_n hb (z_dec dX10_readClerks 5 rfl) rfl 2 rfl ?_
  refine zz_bipush (v := (6 : Int32)) hb (z_dec dX10_readClerks 6 rfl) (by decide) ?_
  refine zz_icmp_gt (tgt := 128) hb (z_dec dX10_readClerks 7 rfl) (by decide) (fun c1 => ?_) (fun c1 => ?_)
  · refine zz_iconst (v := (1 : Int32)) hb (z_dec dX10_readClerks 68 rfl) (by decide) ?_
    exact zz_zret hb hE g2 (by decide) (z_dec dX10_readClerks 69 rfl) (h3 c1)
  · refine zz_aload_n hb (z_dec dX10_readClerks 8 rfl) rfl 0 rfl ?_
    refine zz_ldcw hb ho 9 rfl (z_dec dX10_readClerks 9 rfl) ?_
    refine zz_inv (as := [.ref 1101]) (d := 4) (mc := mc4) (P := (qE f4 g4)) (X := x4) hb ho hnl hR hE mkX4_isAtWord rfl ckX4 t0 rfl g_4 rfl (rX10_readClerks 1 rfl) (rX10_readClerks 2 rfl) (rX10_readClerks 3 rfl) rfl (z_dec dX10_readClerks 10 rfl) (m4 c1) (fun v J4 hp => ?_) (n4 c1)
    obtain ⟨r4, rfl, e4, w4⟩ := hp
    have e4 := e4.symm
    subst e4
    have w4 := w4.symm
    subst w4
    show ZZ K (u.1 + mc4.1, u.2 + mc4.2) 20 [(0, .ref 285), (1, .ref v1), (2, .int v2)] [.int f4] g4
    refine zz_if_ne (tgt := 42) hb (z_dec dX10_readClerks 11 rfl) (by decide) (fun c5 => ?_) (fun c5 => ?_)
    · refine zz_iload_n hb (z_dec dX10_readClerks 23 rfl) rfl 2 rfl ?_
      refine zz_bipush (v := (6 : Int32)) hb (z_dec dX10_readClerks 24 rfl) (by decide) ?_
      refine zz_icmp_ne (tgt := 54) hb (z_dec dX10_readClerks 25 rfl) (by decide) (fun c6 => ?_) (fun c6 => ?_)
      · refine zz_aload_n hb (z_dec dX10_readClerks 30 rfl) rfl 0 rfl ?_
        refine zz_inv (as := []) (d := 1) (mc := (0, 0)) (P := (qV (fun J => J = g7))) (X := nX) hb ho hnl hR hE mkX4_advance rfl ckX4 t0 rfl g_7 rfl (rX10_readClerks 7 rfl) (rX10_readClerks 8 rfl) (rX10_readClerks 9 rfl) rfl (z_dec dX10_readClerks 31 rfl) (m7 c1 c5 c6) (fun v J7 hp => ?_) (fun _ _ h => h.elim)
        obtain ⟨rfl, w7⟩ := hp
        have w7 := w7.symm
        subst w7
        show ZZ K (u.1 + mc4.1, u.2 + mc4.2) 58 [(0, .ref 285), (1, .ref v1), (2, .int v2)] [] g7
        refine zz_aload_n hb (z_dec dX10_readClerks 32 rfl) rfl 0 rfl ?_
        refine zz_inv (as := []) (d := 1) (mc := (0, 0)) (P := (qE f8 g8)) (X := nX) hb ho hnl hR hE mkX4_isAtName rfl ckX4 t0 rfl g_8 rfl (rX10_readClerks 10 rfl) (rX10_readClerks 11 rfl) (rX10_readClerks 12 rfl) rfl (z_dec dX10_readClerks 33 rfl) (m8 c1 c5 c6) (fun v J8 hp => ?_) (fun _ _ h => h.elim)
        obtain ⟨r8, rfl, e8, w8⟩ := hp
        have e8 := e8.symm
        subst e8
        have w8 := w8.symm
        subst w8
        show ZZ K (u.1 + mc4.1, u.2 + mc4.2) 62 [(0, .ref 285), (1, .ref v1), (2, .int v2)] [.int f8] g8
        refine zz_if_ne (tgt := 67) hb (z_dec dX10_readClerks 34 rfl) (by decide) (fun c9 => ?_) (fun c9 => ?_)
        · refine zz_aload_n hb (z_dec dX10_readClerks 37 rfl) rfl 1 rfl ?_
          refine zz_aload_n hb (z_dec dX10_readClerks 38 rfl) rfl 0 rfl ?_
          refine zz_getr (k := 0) (q := 286) hb ho rfl ckX4 t0 rfl rfl (rX10_readClerks 13 rfl) rfl (z_dec dX10_readClerks 39 rfl) ?_
          refine zz_aload_n hb (z_dec dX10_readClerks 40 rfl) rfl 0 rfl ?_
          refine zz_get (k := 3) hb ho ckX4 t0 rfl rfl (rX10_readClerks 14 rfl) rfl (z_dec dX10_readClerks 41 rfl) ?_
          refine zz_aload_n hb (z_dec dX10_readClerks 42 rfl) rfl 0 rfl ?_
          refine zz_get (k := 4) hb ho ckX4 t0 rfl rfl (rX10_readClerks 15 rfl) rfl (z_dec dX10_readClerks 43 rfl) ?_
          refine zz_inv (as := [.ref 286, .int (g8 285 3), .int (g8 285 4)]) (d := 1) (mc := (0, 0)) (P := (qE f10 g10)) (X := nX) hb ho hnl hR hE mkX0_find rfl ckX0 t1 rfl g_10 rfl (rX10_readClerks 16 rfl) (rX10_readClerks 17 rfl) (rX10_readClerks 18 rfl) rfl (z_dec dX10_readClerks 44 rfl) (m10 c1 c5 c6 c9) (fun v J10 hp => ?_) (fun _ _ h => h.elim)
          obtain ⟨r10, rfl, e10, w10⟩ := hp
          have e10 := e10.symm
          subst e10
          have w10 := w10.symm
          subst w10
          show ZZ K (u.1 + mc4.1, u.2 + mc4.2) 83 [(0, .ref 285), (1, .ref v1), (2, .int v2)] [.int f10] g10
          refine zz_iconst (v := (-1 : Int32)) hb (z_dec dX10_readClerks 45 rfl) (by decide) ?_
          refine zz_icmp_eq (tgt := 93) hb (z_dec dX10_readClerks 46 rfl) (by decide) (fun c11 => ?_) (fun c11 => ?_)
          · refine zz_aload_n hb (z_dec dX10_readClerks 51 rfl) rfl 1 rfl ?_
            refine zz_aload_n hb (z_dec dX10_readClerks 52 rfl) rfl 0 rfl ?_
            refine zz_getr (k := 0) (q := 286) hb ho rfl ckX4 t0 rfl rfl (rX10_readClerks 13 rfl) rfl (z_dec dX10_readClerks 53 rfl) ?_
            refine zz_aload_n hb (z_dec dX10_readClerks 54 rfl) rfl 0 rfl ?_
            refine zz_get (k := 3) hb ho ckX4 t0 rfl rfl (rX10_readClerks 14 rfl) rfl (z_dec dX10_readClerks 55 rfl) ?_
            refine zz_aload_n hb (z_dec dX10_readClerks 56 rfl) rfl 0 rfl ?_
            refine zz_get (k := 4) hb ho ckX4 t0 rfl rfl (rX10_readClerks 15 rfl) rfl (z_dec dX10_readClerks 57 rfl) ?_
            refine zz_inv (as := [.ref 286, .int (g10 285 3), .int (g10 285 4)]) (d := 0) (mc := (0, 0)) (P := (qV (fun J => J = g12))) (X := nX) hb ho hnl hR hE mkX0_add rfl ckX0 t1 rfl g_12 rfl (rX10_readClerks 19 rfl) (rX10_readClerks 20 rfl) (rX10_readClerks 21 rfl) rfl (z_dec dX10_readClerks 58 rfl) (m12 c1 c5 c6 c9 c11) (fun v J12 hp => ?_) (fun _ _ h => h.elim)
            obtain ⟨rfl, w12⟩ := hp
            have w12 := w12.symm
            subst w12
            show ZZ K (u.1 + mc4.1, u.2 + mc4.2) 109 [(0, .ref 285), (1, .ref v1), (2, .int v2)] [] g12
            refine zz_aload_n hb (z_dec dX10_readClerks 59 rfl) rfl 0 rfl ?_
            refine zz_inv (as := []) (d := 1) (mc := (0, 0)) (P := (qV (fun J => J = g13))) (X := nX) hb ho hnl hR hE mkX4_advance rfl ckX4 t0 rfl g_13 rfl (rX10_readClerks 7 rfl) (rX10_readClerks 8 rfl) (rX10_readClerks 9 rfl) rfl (z_dec dX10_readClerks 60 rfl) (m13 c1 c5 c6 c9 c11) (fun v J13 hp => ?_) (fun _ _ h => h.elim)
            obtain ⟨rfl, w13⟩ := hp
            have w13 := w13.symm
            subst w13
            show ZZ K (u.1 + mc4.1, u.2 + mc4.2) 113 [(0, .ref 285), (1, .ref v1), (2, .int v2)] [] g13
            refine zz_aload_n hb (z_dec dX10_readClerks 61 rfl) rfl 0 rfl ?_
            refine zz_inv (as := []) (d := 2) (mc := (0, 0)) (P := (qE f14 g14)) (X := nX) hb ho hnl hR hE mkX4_takeSemicolon rfl ckX4 t0 rfl g_14 rfl (rX10_readClerks 22 rfl) (rX10_readClerks 23 rfl) (rX10_readClerks 24 rfl) rfl (z_dec dX10_readClerks 62 rfl) (m14 c1 c5 c6 c9 c11) (fun v J14 hp => ?_) (fun _ _ h => h.elim)
            obtain ⟨r14, rfl, e14, w14⟩ := hp
            have e14 := e14.symm
            subst e14
            have w14 := w14.symm
            subst w14
            show ZZ K (u.1 + mc4.1, u.2 + mc4.2) 117 [(0, .ref 285), (1, .ref v1), (2, .int v2)] [.int f14] g14
            refine zz_if_ne (tgt := 122) hb (z_dec dX10_readClerks 63 rfl) (by decide) (fun c15 => ?_) (fun c15 => ?_)
            · refine zz_iinc (v := (v2 + 1)) (L' := [(0, .ref 285), (1, .ref v1), (2, .int (v2 + 1))]) hb (z_dec dX10_readClerks 66 rfl) 2 rfl rfl hnl rfl [1, 2, 0] rfl ?_
              refine zz_goto (tgt := 7) hb (z_dec dX10_readClerks 67 rfl) (by decide) ?_
              exact (k16 c1 c5 c6 c9 c11 c15)
            · refine zz_iconst (v := (0 : Int32)) hb (z_dec dX10_readClerks 64 rfl) (by decide) ?_
              exact zz_zret hb hE g17 (by decide) (z_dec dX10_readClerks 65 rfl) (h18 c1 c5 c6 c9 c11 c15)
          · refine zz_aload_n hb (z_dec dX10_readClerks 47 rfl) rfl 0 rfl ?_
            refine zz_iconst (v := (3 : Int32)) hb (z_dec dX10_readClerks 48 rfl) (by decide) ?_
            refine zz_inv (as := [.int (3 : Int32)]) (d := 0) (mc := (0, 0)) (P := (qE f19 g19)) (X := nX) hb ho hnl hR hE mkX4_fail rfl ckX4 t0 rfl g_19 rfl (rX10_readClerks 4 rfl) (rX10_readClerks 5 rfl) (rX10_readClerks 6 rfl) rfl (z_dec dX10_readClerks 49 rfl) (m19 c1 c5 c6 c9 c11) (fun v J19 hp => ?_) (fun _ _ h => h.elim)
            obtain ⟨r19, rfl, e19, w19⟩ := hp
            have e19 := e19.symm
            subst e19
            have w19 := w19.symm
            subst w19
            show ZZ K (u.1 + mc4.1, u.2 + mc4.2) 92 [(0, .ref 285), (1, .ref v1), (2, .int v2)] [.int f19] g19
            exact zz_zret hb hE g20 (z22 c1 c5 c6 c9 c11) (z_dec dX10_readClerks 50 rfl) (h21 c1 c5 c6 c9 c11)
        · refine zz_iconst (v := (0 : Int32)) hb (z_dec dX10_readClerks 35 rfl) (by decide) ?_
          exact zz_zret hb hE g23 (by decide) (z_dec dX10_readClerks 36 rfl) (h24 c1 c5 c6 c9)
      · refine zz_aload_n hb (z_dec dX10_readClerks 26 rfl) rfl 0 rfl ?_
        refine zz_iconst (v := (4 : Int32)) hb (z_dec dX10_readClerks 27 rfl) (by decide) ?_
        refine zz_inv (as := [.int (4 : Int32)]) (d := 0) (mc := (0, 0)) (P := (qE f25 g25)) (X := nX) hb ho hnl hR hE mkX4_fail rfl ckX4 t0 rfl g_25 rfl (rX10_readClerks 4 rfl) (rX10_readClerks 5 rfl) (rX10_readClerks 6 rfl) rfl (z_dec dX10_readClerks 28 rfl) (m25 c1 c5 c6) (fun v J25 hp => ?_) (fun _ _ h => h.elim)
        obtain ⟨r25, rfl, e25, w25⟩ := hp
        have e25 := e25.symm
        subst e25
        have w25 := w25.symm
        subst w25
        show ZZ K (u.1 + mc4.1, u.2 + mc4.2) 53 [(0, .ref 285), (1, .ref v1), (2, .int v2)] [.int f25] g25
        exact zz_zret hb hE g26 (z28 c1 c5 c6) (z_dec dX10_readClerks 29 rfl) (h27 c1 c5 c6)
    · refine zz_iload_n hb (z_dec dX10_readClerks 12 rfl) rfl 2 rfl ?_
      refine zz_iconst (v := (2 : Int32)) hb (z_dec dX10_readClerks 13 rfl) (by decide) ?_
      refine zz_icmp_ge (tgt := 36) hb (z_dec dX10_readClerks 14 rfl) (by decide) (fun c29 => ?_) (fun c29 => ?_)
      · refine zz_iconst (v := (1 : Int32)) hb (z_dec dX10_readClerks 19 rfl) (by decide) ?_
        refine zz_goto (tgt := 41) hb (z_dec dX10_readClerks 20 rfl) (by decide) ?_
        exact zz_zret hb hE g30 (by decide) (z_dec dX10_readClerks 22 rfl) (h31 c1 c5 c29)
      · refine zz_aload_n hb (z_dec dX10_readClerks 15 rfl) rfl 0 rfl ?_
        refine zz_iconst (v := (1 : Int32)) hb (z_dec dX10_readClerks 16 rfl) (by decide) ?_
        refine zz_inv (as := [.int (1 : Int32)]) (d := 0) (mc := (0, 0)) (P := (qE f32 g32)) (X := nX) hb ho hnl hR hE mkX4_fail rfl ckX4 t0 rfl g_32 rfl (rX10_readClerks 4 rfl) (rX10_readClerks 5 rfl) (rX10_readClerks 6 rfl) rfl (z_dec dX10_readClerks 17 rfl) (m32 c1 c5 c29) (fun v J32 hp => ?_) (fun _ _ h => h.elim)
        obtain ⟨r32, rfl, e32, w32⟩ := hp
        have e32 := e32.symm
        subst e32
        have w32 := w32.symm
        subst w32
        show ZZ K (u.1 + mc4.1, u.2 + mc4.2) 33 [(0, .ref 285), (1, .ref v1), (2, .int v2)] [.int f32] g32
        refine zz_if_eq (tgt := 40) hb (z_dec dX10_readClerks 18 rfl) (by decide) (fun c33 => ?_) (fun c33 => ?_)
        · refine zz_iconst (v := (0 : Int32)) hb (z_dec dX10_readClerks 21 rfl) (by decide) ?_
          exact zz_zret hb hE g34 (by decide) (z_dec dX10_readClerks 22 rfl) (h35 c1 c5 c29 c33)
        · refine zz_iconst (v := (1 : Int32)) hb (z_dec dX10_readClerks 19 rfl) (by decide) ?_
          refine zz_goto (tgt := 41) hb (z_dec dX10_readClerks 20 rfl) (by decide) ?_
          exact zz_zret hb hE g36 (by decide) (z_dec dX10_readClerks 22 rfl) (h37 c1 c5 c29 c33)
set_option maxRecDepth 20000 in
theorem bX10_readLetters_0 {K : zK} {P : Option Value → zM → Prop} {X : String → zM → Prop} {u mc : Nat × Nat} (hK : zIs K RX10 cX10_readLetters 4 (some .boolean) 5 mc P X) (hw : wOK (kw K)) {I : zM} (t0 : isT (kw K) 4 285) {v1 : Nat} (t1 : isT (kw K) 9 v1) (k1 : ZZ K u 2 [(0, .ref 285), (1, .ref v1), (2, .int (0 : Int32))] [] I) : ZZ K u 0 [(0, .ref 285), (1, .ref v1)] [] I := by
  obtain ⟨hb, ho, hnl, hR, hE⟩ := hK
  refine zz_iconst (v := (0 : Int32)) hb (z_dec dX10_readLetters 0 rfl) (by decide) ?_
  refine zz_istore_n (L' := [(0, .ref 285), (1, .ref v1), (2, .int (0 : Int32))]) hb (z_dec dX10_readLetters 1 rfl) rfl hnl rfl [1, 2, 0] rfl ?_
  exact k1
set_option maxRecDepth 20000 in
theorem bX10_readLetters_2 {K : zK} {P : Option Value → zM → Prop} {X : String → zM → Prop} {u mc : Nat × Nat} (hK : zIs K RX10 cX10_readLetters 4 (some .boolean) 5 mc P X) (hw : wOK (kw K)) {I : zM} (t0 : isT (kw K) 4 285) {v1 : Nat} (t1 : isT (kw K) 9 v1) {v2 : Int32} (g2 : u.1 ≤ mc.1 ∧ u.2 ≤ mc.2) (h3 : ∀ (c1 : (12 : Int32) < v2), P (some (.int (1 : Int32))) I) (g5 : u.1 ≤ mc.1 ∧ u.2 ≤ mc.2) (h6 : ∀ (c1 : ¬ (12 : Int32) < v2) (c4 : (I 285 2) = 0), P (some (.int (1 : Int32))) I) {f7 : Int32} {g7 : zM} {mc7 : Nat × Nat} {x7 : String → zM → Prop} (g_7 : u.1 + mc7.1 ≤ mc.1 ∧ u.2 + mc7.2 ≤ mc.2) (n7 : ∀ (c1 : ¬ (12 : Int32) < v2) (c4 : ¬ (I 285 2) = 0), ∀ (E : String) (J : zM), x7 E J → X E J) (m7 : ∀ (c1 : ¬ (12 : Int32) < v2) (c4 : ¬ (I 285 2) = 0), CT (kG K) (kw K) (kl K) (yX4_isAtWord, cX4_isAtWord, 3, (some .boolean)) 4 mc7 [.ref 285, .ref 1102] I (qE f7 g7) x7) {g10 : zM} (g_10 : (u.1 + mc7.1, u.2 + mc7.2).1 ≤ mc.1 ∧ (u.1 + mc7.1, u.2 + mc7.2).2 ≤ mc.2) (m10 : ∀ (c1 : ¬ (12 : Int32) < v2) (c4 : ¬ (I 285 2) = 0) (c8 : ¬ f7 = 0) (c9 : ¬ v2 = (12 : Int32)), CT (kG K) (kw K) (kl K) (yX4_advance, cX4_advance, 1, none) 1 (0, 0) [.ref 285] g7 (qV (fun J => J = g10)) nX) {f11 : Int32} {g11 : zM} (g_11 : (u.1 + mc7.1, u.2 + mc7.2).1 ≤ mc.1 ∧ (u.1 + mc7.1, u.2 + mc7.2).2 ≤ mc.2) (m11 : ∀ (c1 : ¬ (12 : Int32) < v2) (c4 : ¬ (I 285 2) = 0) (c8 : ¬ f7 = 0) (c9 : ¬ v2 = (12 : Int32)), CT (kG K) (kw K) (kl K) (yX4_takeClerk, cX4_takeClerk, 3, (some .int)) 2 (0, 0) [.ref 285, .ref (LR v1 1)] g10 (qE f11 g11) nX) (g13 : (u.1 + mc7.1, u.2 + mc7.2).1 ≤ mc.1 ∧ (u.1 + mc7.1, u.2 + mc7.2).2 ≤ mc.2) (h14 : ∀ (c1 : ¬ (12 : Int32) < v2) (c4 : ¬ (I 285 2) = 0) (c8 : ¬ f7 = 0) (c9 : ¬ v2 = (12 : Int32)) (c12 : f11 = (-1 : Int32)), P (some (.int (0 : Int32))) g11) {f15 : Int32} {g15 : zM} (g_15 : (u.1 + mc7.1, u.2 + mc7.2).1 ≤ mc.1 ∧ (u.1 + mc7.1, u.2 + mc7.2).2 ≤ mc.2) (m15 : ∀ (c1 : ¬ (12 : Int32) < v2) (c4 : ¬ (I 285 2) = 0) (c8 : ¬ f7 = 0) (c9 : ¬ v2 = (12 : Int32)) (c12 : ¬ f11 = (-1 : Int32)), CT (kG K) (kw K) (kl K) (yX4_takeNumbers, cX4_takeNumbers, 4, (some .boolean)) 2 (0, 0) [.ref 285, .ref 1012, .ref 1013] g11 (qE f15 g15) nX) (g17 : (u.1 + mc7.1, u.2 + mc7.2).1 ≤ mc.1 ∧ (u.1 + mc7.1, u.2 + mc7.2).2 ≤ mc.2) (h18 : ∀ (c1 : ¬ (12 : Int32) < v2) (c4 : ¬ (I 285 2) = 0) (c8 : ¬ f7 = 0) (c9 : ¬ v2 = (12 : Int32)) (c12 : ¬ f11 = (-1 : Int32)) (c16 : f15 = 0), P (some (.int (0 : Int32))) g15) {f19 : Int32} {g19 : zM} (g_19 : (u.1 + mc7.1, u.2 + mc7.2).1 ≤ mc.1 ∧ (u.1 + mc7.1, u.2 + mc7.2).2 ≤ mc.2) (m19 : ∀ (c1 : ¬ (12 : Int32) < v2) (c4 : ¬ (I 285 2) = 0) (c8 : ¬ f7 = 0) (c9 : ¬ v2 = (12 : Int32)) (c12 : ¬ f11 = (-1 : Int32)) (c16 : ¬ f15 = 0), CT (kG K) (kw K) (kl K) (yX4_takeSemicolon, cX4_takeSemicolon, 1, (some .boolean)) 2 (0, 0) [.ref 285] g15 (qE f19 g19) nX) {f21 : Int32} {g21 : zM} (g_21 : (u.1 + mc7.1, u.2 + mc7.2).1 ≤ mc.1 ∧ (u.1 + mc7.1, u.2 + mc7.2).2 ≤ mc.2) (m21 : ∀ (c1 : ¬ (12 : Int32) < v2) (c4 : ¬ (I 285 2) = 0) (c8 : ¬ f7 = 0) (c9 : ¬ v2 = (12 : Int32)) (c12 : ¬ f11 = (-1 : Int32)) (c16 : ¬ f15 = 0) (c20 : ¬ f19 = 0), CT (kG K) (kw K) (kl K) (yX9_putLetter, cX9_putLetter, 7, (some .int)) 0 (0, 0) [.ref v1, .int f11, .int (g19 287 0), .int (g19 287 1), .int (g19 287 2), .int (g19 287 3)] g19 (qE f21 g21) nX) (k22 : ∀ (c1 : ¬ (12 : Int32) < v2) (c4 : ¬ (I 285 2) = 0) (c8 : ¬ f7 = 0) (c9 : ¬ v2 = (12 : Int32)) (c12 : ¬ f11 = (-1 : Int32)) (c16 : ¬ f15 = 0) (c20 : ¬ f19 = 0), ZZ K (u.1 + mc7.1, u.2 + mc7.2) 2 [(0, .ref 285), (1, .ref v1), (2, .int (v2 + 1))] [] g21) (g23 : (u.1 + mc7.1, u.2 + mc7.2).1 ≤ mc.1 ∧ (u.1 + mc7.1, u.2 + mc7.2).2 ≤ mc.2) (h24 : ∀ (c1 : ¬ (12 : Int32) < v2) (c4 : ¬ (I 285 2) = 0) (c8 : ¬ f7 = 0) (c9 : ¬ v2 = (12 : Int32)) (c12 : ¬ f11 = (-1 : Int32)) (c16 : ¬ f15 = 0) (c20 : f19 = 0), P (some (.int (0 : Int32))) g19) {f25 : Int32} {g25 : zM} (g_25 : (u.1 + mc7.1, u.2 + mc7.2).1 ≤ mc.1 ∧ (u.1 + mc7.1, u.2 + mc7.2).2 ≤ mc.2) (m25 : ∀ (c1 : ¬ (12 : Int32) < v2) (c4 : ¬ (I 285 2) = 0) (c8 : ¬ f7 = 0) (c9 : v2 = (12 : Int32)), CT (kG K) (kw K) (kl K) (yX4_fail, cX4_fail, 2, (some .boolean)) 0 (0, 0) [.ref 285, .int (4 : Int32)] g7 (qE f25 g25) nX) (g26 : (u.1 + mc7.1, u.2 + mc7.2).1 ≤ mc.1 ∧ (u.1 + mc7.1, u.2 + mc7.2).2 ≤ mc.2) (h27 : ∀ (c1 : ¬ (12 : Int32) < v2) (c4 : ¬ (I 285 2) = 0) (c8 : ¬ f7 = 0) (c9 : v2 = (12 : Int32)), P (some (.int f25)) g25) (z28 : ∀ (c1 : ¬ (12 : Int32) < v2) (c4 : ¬ (I 285 2) = 0) (c8 : ¬ f7 = 0) (c9 : v2 = (12 : Int32)), f25 = 0 ∨ f25 = 1) {f29 : Int32} {g29 : zM} (g_29 : (u.1 + mc7.1, u.2 + mc7.2).1 ≤ mc.1 ∧ (u.1 + mc7.1, u.2 + mc7.2).2 ≤ mc.2) (m29 : ∀ (c1 : ¬ (12 : Int32) < v2) (c4 : ¬ (I 285 2) = 0) (c8 : f7 = 0), CT (kG K) (kw K) (kl K) (yX4_fail, cX4_fail, 2, (some .boolean)) 0 (0, 0) [.ref 285, .int (1 : Int32)] g7 (qE f29 g29) nX) (g30 : (u.1 + mc7.1, u.2 + mc7.2).1 ≤ mc.1 ∧ (u.1 + mc7.1, u.2 + mc7.2).2 ≤ mc.2) (h31 : ∀ (c1 : ¬ (12 : Int32) < v2) (c4 : ¬ (I 285 2) = 0) (c8 : f7 = 0), P (some (.int f29)) g29) (z32 : ∀ (c1 : ¬ (12 : Int32) < v2) (c4 : ¬ (I 285 2) = 0) (c8 : f7 = 0), f29 = 0 ∨ f29 = 1) : ZZ K u 2 [(0, .ref 285), (1, .ref v1), (2, .int v2)] [] I := by
  obtain ⟨hb, ho, hnl, hR, hE⟩ := hK
  refine zz_iload_n hb (z_dec dX10_readLetters 2 rfl) rfl 2 rfl ?_
  refine zz_bipush (v := (12 : Int32)) hb (z_dec dX10_readLetters 3 rfl) (by decide) ?_
  refine zz_icmp_gt (tgt := 119) hb (z_dec dX10_readLetters 4 rfl) (by decide) (fun c1 => ?_) (fun c1 => ?_)
  · refine zz_iconst (v := (1 : Int32)) hb (z_dec dX10_readLetters 65 rfl) (by decide) ?_
    exact zz_zret hb hE g2 (by decide) (z_dec dX10_readLetters 66 rfl) (h3 c1)
  · refine zz_aload_n hb (z_dec dX10_readLetters 5 rfl) rfl 0 rfl ?_
    refine zz_get (k := 2) hb ho ckX4 t0 rfl rfl (rX10_readLetters 0 rfl) rfl (z_dec dX10_readLetters 6 rfl) ?_
    refine zz_if_eq (tgt := 119) hb (z_dec dX10_readLetters 7 rfl) (by decide) (fun c4 => ?_) (fun c4 => ?_)
    · refine zz_iconst (v := (1 : Int32)) hb (z_dec dX10_readLetters 65 rfl) (by decide) ?_
      exact zz_zret hb hE g5 (by decide) (z_dec dX10_readLetters 66 rfl) (h6 c1 c4)
    · refine zz_aload_n hb (z_dec dX10_readLetters 8 rfl) rfl 0 rfl ?_
      refine zz_ldcw hb ho 10 rfl (z_dec dX10_readLetters 9 rfl) ?_
      refine zz_inv (as := [.ref 1102]) (d := 4) (mc := mc7) (P := (qE f7 g7)) (X := x7) hb ho hnl hR hE mkX4_isAtWord rfl ckX4 t0 rfl g_7 rfl (rX10_readLetters 1 rfl) (rX10_readLetters 2 rfl) (rX10_readLetters 3 rfl) rfl (z_dec dX10_readLetters 10 rfl) (m7 c1 c4) (fun v J7 hp => ?_) (n7 c1 c4)
      obtain ⟨r7, rfl, e7, w7⟩ := hp
      have e7 := e7.symm
      subst e7
      have w7 := w7.symm
      subst w7
      show ZZ K (u.1 + mc7.1, u.2 + mc7.2) 22 [(0, .ref 285), (1, .ref v1), (2, .int v2)] [.int f7] g7
      refine zz_if_ne (tgt := 31) hb (z_dec dX10_readLetters 11 rfl) (by decide) (fun c8 => ?_) (fun c8 => ?_)
      · refine zz_iload_n hb (z_dec dX10_readLetters 16 rfl) rfl 2 rfl ?_
        refine zz_bipush (v := (12 : Int32)) hb (z_dec dX10_readLetters 17 rfl) (by decide) ?_
        refine zz_icmp_ne (tgt := 43) hb (z_dec dX10_readLetters 18 rfl) (by decide) (fun c9 => ?_) (fun c9 => ?_)
        · refine zz_aload_n hb (z_dec dX10_readLetters 23 rfl) rfl 0 rfl ?_
          refine zz_inv (as := []) (d := 1) (mc := (0, 0)) (P := (qV (fun J => J = g10))) (X := nX) hb ho hnl hR hE mkX4_advance rfl ckX4 t0 rfl g_10 rfl (rX10_readLetters 7 rfl) (rX10_readLetters 8 rfl) (rX10_readLetters 9 rfl) rfl (z_dec dX10_readLetters 24 rfl) (m10 c1 c4 c8 c9) (fun v J10 hp => ?_) (fun _ _ h => h.elim)
          obtain ⟨rfl, w10⟩ := hp
          have w10 := w10.symm
          subst w10
          show ZZ K (u.1 + mc7.1, u.2 + mc7.2) 47 [(0, .ref 285), (1, .ref v1), (2, .int v2)] [] g10
          refine zz_aload_n hb (z_dec dX10_readLetters 25 rfl) rfl 0 rfl ?_
          refine zz_aload_n hb (z_dec dX10_readLetters 26 rfl) rfl 1 rfl ?_
          refine zz_getr (k := 1) (q := (LR v1 1)) hb ho rfl ckX9 t1 rfl rfl (rX10_readLetters 10 rfl) rfl (z_dec dX10_readLetters 27 rfl) ?_
          refine zz_inv (as := [.ref (LR v1 1)]) (d := 2) (mc := (0, 0)) (P := (qE f11 g11)) (X := nX) hb ho hnl hR hE mkX4_takeClerk rfl ckX4 t0 rfl g_11 rfl (rX10_readLetters 11 rfl) (rX10_readLetters 12 rfl) (rX10_readLetters 13 rfl) rfl (z_dec dX10_readLetters 28 rfl) (m11 c1 c4 c8 c9) (fun v J11 hp => ?_) (fun _ _ h => h.elim)
          obtain ⟨r11, rfl, e11, w11⟩ := hp
          have e11 := e11.symm
          subst e11
          have w11 := w11.symm
          subst w11
          show ZZ K (u.1 + mc7.1, u.2 + mc7.2) 55 [(0, .ref 285), (1, .ref v1), (2, .int v2)] [.int f11] g11
          refine zz_istore_n (L' := [(0, .ref 285), (1, .ref v1), (2, .int v2), (3, .int f11)]) hb (z_dec dX10_readLetters 29 rfl) rfl hnl rfl [1, 2, 3, 0] rfl ?_
          refine zz_iload_n hb (z_dec dX10_readLetters 30 rfl) rfl 3 rfl ?_
          refine zz_iconst (v := (-1 : Int32)) hb (z_dec dX10_readLetters 31 rfl) (by decide) ?_
          refine zz_icmp_eq (tgt := 81) hb (z_dec dX10_readLetters 32 rfl) (by decide) (fun c12 => ?_) (fun c12 => ?_)
          · refine zz_iconst (v := (0 : Int32)) hb (z_dec dX10_readLetters 41 rfl) (by decide) ?_
            exact zz_zret hb hE g13 (by decide) (z_dec dX10_readLetters 42 rfl) (h14 c1 c4 c8 c9 c12)
          · refine zz_aload_n hb (z_dec dX10_readLetters 33 rfl) rfl 0 rfl ?_
            refine zz_gets (r := 1012) hb ho (zoZ2 (kG K)) (rX10_readLetters 14 rfl) (z_dec dX10_readLetters 34 rfl) ?_
            refine zz_gets (r := 1013) hb ho (zoZ3 (kG K)) (rX10_readLetters 15 rfl) (z_dec dX10_readLetters 35 rfl) ?_
            refine zz_inv (as := [.ref 1012, .ref 1013]) (d := 2) (mc := (0, 0)) (P := (qE f15 g15)) (X := nX) hb ho hnl hR hE mkX4_takeNumbers rfl ckX4 t0 rfl g_15 rfl (rX10_readLetters 16 rfl) (rX10_readLetters 17 rfl) (rX10_readLetters 18 rfl) rfl (z_dec dX10_readLetters 36 rfl) (m15 c1 c4 c8 c9 c12) (fun v J15 hp => ?_) (fun _ _ h => h.elim)
            obtain ⟨r15, rfl, e15, w15⟩ := hp
            have e15 := e15.symm
            subst e15
            have w15 := w15.symm
            subst w15
            show ZZ K (u.1 + mc7.1, u.2 + mc7.2) 71 [(0, .ref 285), (1, .ref v1), (2, .int v2), (3, .int f11)] [.int f15] g15
            refine zz_if_eq (tgt := 81) hb (z_dec dX10_readLetters 37 rfl) (by decide) (fun c16 => ?_) (fun c16 => ?_)
            · refine zz_iconst (v := (0 : Int32)) hb (z_dec dX10_readLetters 41 rfl) (by decide) ?_
              exact zz_zret hb hE g17 (by decide) (z_dec dX10_readLetters 42 rfl) (h18 c1 c4 c8 c9 c12 c16)
            · refine zz_aload_n hb (z_dec dX10_readLetters 38 rfl) rfl 0 rfl ?_
              refine zz_inv (as := []) (d := 2) (mc := (0, 0)) (P := (qE f19 g19)) (X := nX) hb ho hnl hR hE mkX4_takeSemicolon rfl ckX4 t0 rfl g_19 rfl (rX10_readLetters 19 rfl) (rX10_readLetters 20 rfl) (rX10_readLetters 21 rfl) rfl (z_dec dX10_readLetters 39 rfl) (m19 c1 c4 c8 c9 c12 c16) (fun v J19 hp => ?_) (fun _ _ h => h.elim)
              obtain ⟨r19, rfl, e19, w19⟩ := hp
              have e19 := e19.symm
              subst e19
              have w19 := w19.symm
              subst w19
              show ZZ K (u.1 + mc7.1, u.2 + mc7.2) 78 [(0, .ref 285), (1, .ref v1), (2, .int v2), (3, .int f11)] [.int f19] g19
              refine zz_if_ne (tgt := 83) hb (z_dec dX10_readLetters 40 rfl) (by decide) (fun c20 => ?_) (fun c20 => ?_)
              · refine zz_aload_n hb (z_dec dX10_readLetters 43 rfl) rfl 1 rfl ?_
                refine zz_iload_n hb (z_dec dX10_readLetters 44 rfl) rfl 3 rfl ?_
                refine zz_aload_n hb (z_dec dX10_readLetters 45 rfl) rfl 0 rfl ?_
                refine zz_getr (k := 5) (q := 287) hb ho rfl ckX4 t0 rfl rfl (rX10_readLetters 22 rfl) rfl (z_dec dX10_readLetters 46 rfl) ?_
                refine zz_iconst (v := (0 : Int32)) hb (z_dec dX10_readLetters 47 rfl) (by decide) ?_
                refine zz_iald (j := 0) hb (show isT (kw K) 20 287 from isT.f (k := 5) t0 hw rfl rfl rfl (by decide)) rfl (zvi rfl (zin rfl)) (z_dec dX10_readLetters 48 rfl) ?_
                refine zz_aload_n hb (z_dec dX10_readLetters 49 rfl) rfl 0 rfl ?_
                refine zz_getr (k := 5) (q := 287) hb ho rfl ckX4 t0 rfl rfl (rX10_readLetters 22 rfl) rfl (z_dec dX10_readLetters 50 rfl) ?_
                refine zz_iconst (v := (1 : Int32)) hb (z_dec dX10_readLetters 51 rfl) (by decide) ?_
                refine zz_iald (j := 1) hb (show isT (kw K) 20 287 from isT.f (k := 5) t0 hw rfl rfl rfl (by decide)) rfl (zvi rfl (zin rfl)) (z_dec dX10_readLetters 52 rfl) ?_
                refine zz_aload_n hb (z_dec dX10_readLetters 53 rfl) rfl 0 rfl ?_
                refine zz_getr (k := 5) (q := 287) hb ho rfl ckX4 t0 rfl rfl (rX10_readLetters 22 rfl) rfl (z_dec dX10_readLetters 54 rfl) ?_
                refine zz_iconst (v := (2 : Int32)) hb (z_dec dX10_readLetters 55 rfl) (by decide) ?_
                refine zz_iald (j := 2) hb (show isT (kw K) 20 287 from isT.f (k := 5) t0 hw rfl rfl rfl (by decide)) rfl (zvi rfl (zin rfl)) (z_dec dX10_readLetters 56 rfl) ?_
                refine zz_aload_n hb (z_dec dX10_readLetters 57 rfl) rfl 0 rfl ?_
                refine zz_getr (k := 5) (q := 287) hb ho rfl ckX4 t0 rfl rfl (rX10_readLetters 22 rfl) rfl (z_dec dX10_readLetters 58 rfl) ?_
                refine zz_iconst (v := (3 : Int32)) hb (z_dec dX10_readLetters 59 rfl) (by decide) ?_
                refine zz_iald (j := 3) hb (show isT (kw K) 20 287 from isT.f (k := 5) t0 hw rfl rfl rfl (by decide)) rfl (zvi rfl (zin rfl)) (z_dec dX10_readLetters 60 rfl) ?_
                refine zz_inv (as := [.int f11, .int (g19 287 0), .int (g19 287 1), .int (g19 287 2), .int (g19 287 3)]) (d := 0) (mc := (0, 0)) (P := (qE f21 g21)) (X := nX) hb ho hnl hR hE mkX9_putLetter rfl ckX9 t1 rfl g_21 rfl (rX10_readLetters 23 rfl) (rX10_readLetters 24 rfl) (rX10_readLetters 25 rfl) rfl (z_dec dX10_readLetters 61 rfl) (m21 c1 c4 c8 c9 c12 c16 c20) (fun v J21 hp => ?_) (fun _ _ h => h.elim)
                obtain ⟨r21, rfl, e21, w21⟩ := hp
                have e21 := e21.symm
                subst e21
                have w21 := w21.symm
                subst w21
                show ZZ K (u.1 + mc7.1, u.2 + mc7.2) 112 [(0, .ref 285), (1, .ref v1), (2, .int v2), (3, .int f11)] [.int f21] g21
                refine zz_pop hb (z_dec dX10_readLetters 62 rfl) rfl ?_
                refine zz_iinc (v := (v2 + 1)) (L' := [(0, .ref 285), (1, .ref v1), (2, .int (v2 + 1)), (3, .int f11)]) hb (z_dec dX10_readLetters 63 rfl) 2 rfl rfl hnl rfl [1, 2, 0, 3] rfl ?_
                refine zz_goto (tgt := 2) hb (z_dec dX10_readLetters 64 rfl) (by decide) ?_
                refine zz_sub [0, 1, 2] (L' := [(0, .ref 285), (1, .ref v1), (2, .int (v2 + 1))]) rfl ?_
                exact (k22 c1 c4 c8 c9 c12 c16 c20)
              · refine zz_iconst (v := (0 : Int32)) hb (z_dec dX10_readLetters 41 rfl) (by decide) ?_
                exact zz_zret hb hE g23 (by decide) (z_dec dX10_readLetters 42 rfl) (h24 c1 c4 c8 c9 c12 c16 c20)
        · refine zz_aload_n hb (z_dec dX10_readLetters 19 rfl) rfl 0 rfl ?_
          refine zz_iconst (v := (4 : Int32)) hb (z_dec dX10_readLetters 20 rfl) (by decide) ?_
          refine zz_inv (as := [.int (4 : Int32)]) (d := 0) (mc := (0, 0)) (P := (qE f25 g25)) (X := nX) hb ho hnl hR hE mkX4_fail rfl ckX4 t0 rfl g_25 rfl (rX10_readLetters 4 rfl) (rX10_readLetters 5 rfl) (rX10_readLetters 6 rfl) rfl (z_dec dX10_readLetters 21 rfl) (m25 c1 c4 c8 c9) (fun v J25 hp => ?_) (fun _ _ h => h.elim)
          obtain ⟨r25, rfl, e25, w25⟩ := hp
          have e25 := e25.symm
          subst e25
          have w25 := w25.symm
          subst w25
          show ZZ K (u.1 + mc7.1, u.2 + mc7.2) 42 [(0, .ref 285), (1, .ref v1), (2, .int v2)] [.int f25] g25
          exact zz_zret hb hE g26 (z28 c1 c4 c8 c9) (z_dec dX10_readLetters 22 rfl) (h27 c1 c4 c8 c9)
      · refine zz_aload_n hb (z_dec dX10_readLetters 12 rfl) rfl 0 rfl ?_
        refine zz_iconst (v := (1 : Int32)) hb (z_dec dX10_readLetters 13 rfl) (by decide) ?_
        refine zz_inv (as := [.int (1 : Int32)]) (d := 0) (mc := (0, 0)) (P := (qE f29 g29)) (X := nX) hb ho hnl hR hE mkX4_fail rfl ckX4 t0 rfl g_29 rfl (rX10_readLetters 4 rfl) (rX10_readLetters 5 rfl) (rX10_readLetters 6 rfl) rfl (z_dec dX10_readLetters 14 rfl) (m29 c1 c4 c8) (fun v J29 hp => ?_) (fun _ _ h => h.elim)
        obtain ⟨r29, rfl, e29, w29⟩ := hp
        have e29 := e29.symm
        subst e29
        have w29 := w29.symm
        subst w29
        show ZZ K (u.1 + mc7.1, u.2 + mc7.2) 30 [(0, .ref 285), (1, .ref v1), (2, .int v2)] [.int f29] g29
        exact zz_zret hb hE g30 (z32 c1 c4 c8) (z_dec dX10_readLetters 15 rfl) (h31 c1 c4 c8)
