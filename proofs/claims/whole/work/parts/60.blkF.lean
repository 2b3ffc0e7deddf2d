/-! block rows with numbers with a point (written by wip/gen/allf.py) -/
set_option maxRecDepth 20000 in
theorem fX10_utilization_0 {K : zK} {P : Option Value → zM → Prop} {X : String → zM → Prop} (hK : zIs K RX10 cX10_utilization 1 (some .float) 0 (0, 0) P X) (hw : wOK (kw K)) {I : zM} (t0 : isT (kw K) 10 0) (h2 : ∀ (c1 : 0 < (I 288 4)), vf_n32 (FP.fdiv (FP.i2f (I 288 15)) (FP.i2f (I 288 4)))) (h3 : ∀ (c1 : 0 < (I 288 4)), P (some (.float (FP.fdiv (FP.i2f (I 288 15)) (FP.i2f (I 288 4))))) I) (h4 : ∀ (c1 : ¬ 0 < (I 288 4)), P (some (.float FP.fconst0)) I) : ZZ K (0, 0) 0 [(0, .ref 0)] [] I := by
  obtain ⟨hb, ho, hnl, hR, hE⟩ := hK
  refine zz_aload_n hb (z_dec dX10_utilization 0 rfl) rfl 0 rfl ?_
  refine zz_getr (k := 0) (q := 288) hb ho rfl ckX10 t0 rfl rfl (rX10_utilization 0 rfl) rfl (z_dec dX10_utilization 1 rfl) ?_
  refine zz_get (k := 4) hb ho ckX9 (show isT (kw K) 9 288 from isT.f (k := 0) t0 hw rfl rfl rfl (by decide)) rfl rfl (rX10_utilization 1 rfl) rfl (z_dec dX10_utilization 2 rfl) ?_
  refine zz_if_gt (tgt := 12) hb (z_dec dX10_utilization 3 rfl) (by decide) (fun c1 => ?_) (fun c1 => ?_)
  · refine zz_aload_n hb (z_dec dX10_utilization 6 rfl) rfl 0 rfl ?_
    refine zz_getr (k := 0) (q := 288) hb ho rfl ckX10 t0 rfl rfl (rX10_utilization 0 rfl) rfl (z_dec dX10_utilization 7 rfl) ?_
    refine zz_get (k := 15) hb ho ckX9 (show isT (kw K) 9 288 from isT.f (k := 0) t0 hw rfl rfl rfl (by decide)) rfl rfl (rX10_utilization 2 rfl) rfl (z_dec dX10_utilization 8 rfl) ?_
    refine zz_i2f hb (z_dec dX10_utilization 9 rfl) ?_
    refine zz_aload_n hb (z_dec dX10_utilization 10 rfl) rfl 0 rfl ?_
    refine zz_getr (k := 0) (q := 288) hb ho rfl ckX10 t0 rfl rfl (rX10_utilization 0 rfl) rfl (z_dec dX10_utilization 11 rfl) ?_
    refine zz_get (k := 4) hb ho ckX9 (show isT (kw K) 9 288 from isT.f (k := 0) t0 hw rfl rfl rfl (by decide)) rfl rfl (rX10_utilization 1 rfl) rfl (z_dec dX10_utilization 12 rfl) ?_
    refine zz_i2f hb (z_dec dX10_utilization 13 rfl) ?_
    refine zz_fdiv hb (z_dec dX10_utilization 14 rfl) (h2 c1) ?_
    exact zz_fret hb hE ⟨Nat.le_refl 0, Nat.le_refl 0⟩ (z_dec dX10_utilization 15 rfl) (h3 c1)
  · refine zz_fconst0 hb (z_dec dX10_utilization 4 rfl) ?_
    exact zz_fret hb hE ⟨Nat.le_refl 0, Nat.le_refl 0⟩ (z_dec dX10_utilization 5 rfl) (h4 c1)
set_option maxRecDepth 20000 in
theorem fX10_meanTurnaround_0 {K : zK} {P : Option Value → zM → Prop} {X : String → zM → Prop} (hK : zIs K RX10 cX10_meanTurnaround 2 (some .double) 1 (0, 0) P X) (hw : wOK (kw K)) {I : zM} (t0 : isT (kw K) 10 0) {f1 : Int32} {g1 : zM} (m1 : CT (kG K) (kw K) (kl K) (yX9_countOpen, cX9_countOpen, 3, (some .int)) 0 (0, 0) [.ref 288] I (qE f1 g1) nX) {f3 : Int32} {g3 : zM} (m3 : ∀ (c2 : 0 < ((I 288 3) - f1)), CT (kG K) (kw K) (kl K) (yX9_totalTurnaround, cX9_totalTurnaround, 3, (some .int)) 0 (0, 0) [.ref 288] g1 (qE f3 g3) nX) (h4 : ∀ (c2 : 0 < ((I 288 3) - f1)), vf_n64 (FP.ddiv (FP.i2d f3) (FP.i2d ((I 288 3) - f1)))) (h5 : ∀ (c2 : 0 < ((I 288 3) - f1)), P (some (.double (FP.ddiv (FP.i2d f3) (FP.i2d ((I 288 3) - f1))))) g3) (h6 : ∀ (c2 : ¬ 0 < ((I 288 3) - f1)), P (some (.double FP.dconst0)) g1) : ZZ K (0, 0) 0 [(0, .ref 0)] [] I := by
  obtain ⟨hb, ho, hnl, hR, hE⟩ := hK
  refine zz_aload_n hb (z_dec dX10_meanTurnaround 0 rfl) rfl 0 rfl ?_
  refine zz_getr (k := 0) (q := 288) hb ho rfl ckX10 t0 rfl rfl (rX10_meanTurnaround 0 rfl) rfl (z_dec dX10_meanTurnaround 1 rfl) ?_
  refine zz_get (k := 3) hb ho ckX9 (show isT (kw K) 9 288 from isT.f (k := 0) t0 hw rfl rfl rfl (by decide)) rfl rfl (rX10_meanTurnaround 1 rfl) rfl (z_dec dX10_meanTurnaround 2 rfl) ?_
  refine zz_aload_n hb (z_dec dX10_meanTurnaround 3 rfl) rfl 0 rfl ?_
  refine zz_getr (k := 0) (q := 288) hb ho rfl ckX10 t0 rfl rfl (rX10_meanTurnaround 0 rfl) rfl (z_dec dX10_meanTurnaround 4 rfl) ?_
  refine zz_inv (as := []) (d := 0) (mc := (0, 0)) (P := (qE f1 g1)) (X := nX) hb ho hnl hR hE mkX9_countOpen rfl ckX9 (show isT (kw K) 9 288 from isT.f (k := 0) t0 hw rfl rfl rfl (by decide)) rfl ⟨Nat.le_refl 0, Nat.le_refl 0⟩ rfl (rX10_meanTurnaround 2 rfl) (rX10_meanTurnaround 3 rfl) (rX10_meanTurnaround 4 rfl) rfl (z_dec dX10_meanTurnaround 5 rfl) m1 (fun v J1 hp => ?_) (fun _ _ h => h.elim)
  obtain ⟨r1, rfl, e1, w1⟩ := hp
  have e1 := e1.symm
  subst e1
  have w1 := w1.symm
  subst w1
  show ZZ K (0, 0) 14 [(0, .ref 0)] [.int f1, .int (I 288 3)] g1
  refine zz_isub hb (z_dec dX10_meanTurnaround 6 rfl) ?_
  refine zz_istore_n (L' := [(0, .ref 0), (1, .int ((I 288 3) - f1))]) hb (z_dec dX10_meanTurnaround 7 rfl) rfl hnl rfl [1, 0] rfl ?_
  refine zz_iload_n hb (z_dec dX10_meanTurnaround 8 rfl) rfl 1 rfl ?_
  refine zz_if_gt (tgt := 22) hb (z_dec dX10_meanTurnaround 9 rfl) (by decide) (fun c2 => ?_) (fun c2 => ?_)
  · refine zz_aload_n hb (z_dec dX10_meanTurnaround 12 rfl) rfl 0 rfl ?_
    refine zz_getr (k := 0) (q := 288) hb ho rfl ckX10 t0 rfl rfl (rX10_meanTurnaround 0 rfl) rfl (z_dec dX10_meanTurnaround 13 rfl) ?_
    refine zz_inv (as := []) (d := 0) (mc := (0, 0)) (P := (qE f3 g3)) (X := nX) hb ho hnl hR hE mkX9_totalTurnaround rfl ckX9 (show isT (kw K) 9 288 from isT.f (k := 0) t0 hw rfl rfl rfl (by decide)) rfl ⟨Nat.le_refl 0, Nat.le_refl 0⟩ rfl (rX10_meanTurnaround 5 rfl) (rX10_meanTurnaround 6 rfl) (rX10_meanTurnaround 7 rfl) rfl (z_dec dX10_meanTurnaround 14 rfl) (m3 c2) (fun v J3 hp => ?_) (fun _ _ h => h.elim)
    obtain ⟨r3, rfl, e3, w3⟩ := hp
    have e3 := e3.symm
    subst e3
    have w3 := w3.symm
    subst w3
    show ZZ K (0, 0) 29 [(0, .ref 0), (1, .int ((I 288 3) - f1))] [.int f3] g3
    refine zz_i2d hb (z_dec dX10_meanTurnaround 15 rfl) ?_
    refine zz_iload_n hb (z_dec dX10_meanTurnaround 16 rfl) rfl 1 rfl ?_
    refine zz_i2d hb (z_dec dX10_meanTurnaround 17 rfl) ?_
    refine zz_ddiv hb (z_dec dX10_meanTurnaround 18 rfl) (h4 c2) ?_
    exact zz_dret hb hE ⟨Nat.le_refl 0, Nat.le_refl 0⟩ (z_dec dX10_meanTurnaround 19 rfl) (h5 c2)
  · refine zz_dconst0 hb (z_dec dX10_meanTurnaround 10 rfl) ?_
    exact zz_dret hb hE ⟨Nat.le_refl 0, Nat.le_refl 0⟩ (z_dec dX10_meanTurnaround 11 rfl) (h6 c2)
set_option maxRecDepth 20000 in
theorem fX11_utilization_0 {K : zK} {P : Option Value → zM → Prop} {X : String → zM → Prop} (hK : zIs K RX11 cX11_utilization 1 (some .float) 0 (0, 0) P X) (hw : wOK (kw K)) {I : zM} (t0 : isT (kw K) 11 312) (h2 : ∀ (c1 : ¬ ((up I 312 9 (0 : Int32)) 313 9) = 0), vf_n32 (FP.fdiv (FP.i2f ((up I 312 9 (0 : Int32)) 313 18)) (FP.i2f ((up I 312 9 (0 : Int32)) 313 9)))) (h3 : ∀ (c1 : ¬ ((up I 312 9 (0 : Int32)) 313 9) = 0), P (some (.float (FP.fdiv (FP.i2f ((up I 312 9 (0 : Int32)) 313 18)) (FP.i2f ((up I 312 9 (0 : Int32)) 313 9))))) (up I 312 9 (0 : Int32))) (h4 : ∀ (c1 : ((up I 312 9 (0 : Int32)) 313 9) = 0), P (some (.float FP.fconst0)) (up I 312 9 (0 : Int32))) : ZZ K (0, 0) 0 [(0, .ref 312)] [] I := by
  obtain ⟨hb, ho, hnl, hR, hE⟩ := hK
  refine zz_aload_n hb (z_dec dX11_utilization 0 rfl) rfl 0 rfl ?_
  refine zz_iconst (v := (0 : Int32)) hb (z_dec dX11_utilization 1 rfl) (by decide) ?_
  refine zz_put (k := 9) hb ho ckX11 t0 rfl rfl (rX11_utilization 0 rfl) rfl rfl rfl (z_dec dX11_utilization 2 rfl) ?_
  refine zz_aload_n hb (z_dec dX11_utilization 3 rfl) rfl 0 rfl ?_
  refine zz_getr (k := 0) (q := 313) hb ho rfl ckX11 t0 rfl rfl (rX11_utilization 1 rfl) rfl (z_dec dX11_utilization 4 rfl) ?_
  refine zz_bipush (v := (9 : Int32)) hb (z_dec dX11_utilization 5 rfl) (by decide) ?_
  refine zz_iald (j := 9) hb (show isT (kw K) 20 313 from isT.f (k := 0) t0 hw rfl rfl rfl (by decide)) rfl (zvi rfl (zin rfl)) (z_dec dX11_utilization 6 rfl) ?_
  refine zz_if_ne (tgt := 19) hb (z_dec dX11_utilization 7 rfl) (by decide) (fun c1 => ?_) (fun c1 => ?_)
  · refine zz_aload_n hb (z_dec dX11_utilization 10 rfl) rfl 0 rfl ?_
    refine zz_getr (k := 0) (q := 313) hb ho rfl ckX11 t0 rfl rfl (rX11_utilization 1 rfl) rfl (z_dec dX11_utilization 11 rfl) ?_
    refine zz_bipush (v := (18 : Int32)) hb (z_dec dX11_utilization 12 rfl) (by decide) ?_
    refine zz_iald (j := 18) hb (show isT (kw K) 20 313 from isT.f (k := 0) t0 hw rfl rfl rfl (by decide)) rfl (zvi rfl (zin rfl)) (z_dec dX11_utilization 13 rfl) ?_
    refine zz_i2f hb (z_dec dX11_utilization 14 rfl) ?_
    refine zz_aload_n hb (z_dec dX11_utilization 15 rfl) rfl 0 rfl ?_
    refine zz_getr (k := 0) (q := 313) hb ho rfl ckX11 t0 rfl rfl (rX11_utilization 1 rfl) rfl (z_dec dX11_utilization 16 rfl) ?_
    refine zz_bipush (v := (9 : Int32)) hb (z_dec dX11_utilization 17 rfl) (by decide) ?_
    refine zz_iald (j := 9) hb (show isT (kw K) 20 313 from isT.f (k := 0) t0 hw rfl rfl rfl (by decide)) rfl (zvi rfl (zin rfl)) (z_dec dX11_utilization 18 rfl) ?_
    refine zz_i2f hb (z_dec dX11_utilization 19 rfl) ?_
    refine zz_fdiv hb (z_dec dX11_utilization 20 rfl) (h2 c1) ?_
    exact zz_fret hb hE ⟨Nat.le_refl 0, Nat.le_refl 0⟩ (z_dec dX11_utilization 21 rfl) (h3 c1)
  · refine zz_fconst0 hb (z_dec dX11_utilization 8 rfl) ?_
    refine zz_goto (tgt := 36) hb (z_dec dX11_utilization 9 rfl) (by decide) ?_
    exact zz_fret hb hE ⟨Nat.le_refl 0, Nat.le_refl 0⟩ (z_dec dX11_utilization 21 rfl) (h4 c1)
set_option maxRecDepth 20000 in
theorem fX11_meanTurnaround_0 {K : zK} {P : Option Value → zM → Prop} {X : String → zM → Prop} (hK : zIs K RX11 cX11_meanTurnaround 3 (some .double) 3 (0, 0) P X) (hw : wOK (kw K)) {I : zM} (t0 : isT (kw K) 11 312) (k1 : ZZ K (0, 0) 9 [(0, .ref 312), (1, .int (0 : Int32)), (2, .int (0 : Int32))] [] (up I 312 9 (0 : Int32))) : ZZ K (0, 0) 0 [(0, .ref 312)] [] I := by
  obtain ⟨hb, ho, hnl, hR, hE⟩ := hK
  refine zz_aload_n hb (z_dec dX11_meanTurnaround 0 rfl) rfl 0 rfl ?_
  refine zz_iconst (v := (0 : Int32)) hb (z_dec dX11_meanTurnaround 1 rfl) (by decide) ?_
  refine zz_put (k := 9) hb ho ckX11 t0 rfl rfl (rX11_meanTurnaround 0 rfl) rfl rfl rfl (z_dec dX11_meanTurnaround 2 rfl) ?_
  refine zz_iconst (v := (0 : Int32)) hb (z_dec dX11_meanTurnaround 3 rfl) (by decide) ?_
  refine zz_istore_n (L' := [(0, .ref 312), (1, .int (0 : Int32))]) hb (z_dec dX11_meanTurnaround 4 rfl) rfl hnl rfl [1, 0] rfl ?_
  refine zz_iconst (v := (0 : Int32)) hb (z_dec dX11_meanTurnaround 5 rfl) (by decide) ?_
  refine zz_istore_n (L' := [(0, .ref 312), (1, .int (0 : Int32)), (2, .int (0 : Int32))]) hb (z_dec dX11_meanTurnaround 6 rfl) rfl hnl rfl [1, 2, 0] rfl ?_
  exact k1
set_option maxRecDepth 20000 in
theorem fX11_meanTurnaround_9 {K : zK} {P : Option Value → zM → Prop} {X : String → zM → Prop} (hK : zIs K RX11 cX11_meanTurnaround 3 (some .double) 3 (0, 0) P X) (hw : wOK (kw K)) {I : zM} (t0 : isT (kw K) 11 312) {v1 : Int32} {v2 : Int32} {f2 : Int32} {g2 : zM} (m2 : ∀ (c1 : (I 313 8) ≤ v2), CT (kG K) (kw K) (kl K) (yX11_doneCount, cX11_doneCount, 3, (some .int)) 2 (0, 0) [.ref 312] I (qE f2 g2) nX) (h4 : ∀ (c1 : (I 313 8) ≤ v2) (c3 : ¬ f2 = 0), vf_n64 (FP.ddiv (FP.i2d v1) (FP.i2d f2))) (h5 : ∀ (c1 : (I 313 8) ≤ v2) (c3 : ¬ f2 = 0), P (some (.double (FP.ddiv (FP.i2d v1) (FP.i2d f2)))) g2) (h6 : ∀ (c1 : (I 313 8) ≤ v2) (c3 : f2 = 0), P (some (.double FP.dconst0)) g2) {f7 : Int32} {g7 : zM} (m7 : ∀ (c1 : ¬ (I 313 8) ≤ v2), CT (kG K) (kw K) (kl K) (yX11_isDone, cX11_isDone, 2, (some .boolean)) 1 (0, 0) [.ref 312, .int v2] I (qE f7 g7) nX) (k9 : ∀ (c1 : ¬ (I 313 8) ≤ v2) (c8 : f7 = 0), ZZ K (0, 0) 9 [(0, .ref 312), (1, .int (v1 + (0 : Int32))), (2, .int (v2 + 1))] [] g7) {f10 : Int32} {g10 : zM} (m10 : ∀ (c1 : ¬ (I 313 8) ≤ v2) (c8 : ¬ f7 = 0), CT (kG K) (kw K) (kl K) (yX11_of, cX11_of, 3, (some .int)) 0 (0, 0) [.ref 312, .int v2, .int (6 : Int32)] g7 (qE f10 g10) nX) {f11 : Int32} {g11 : zM} (m11 : ∀ (c1 : ¬ (I 313 8) ≤ v2) (c8 : ¬ f7 = 0), CT (kG K) (kw K) (kl K) (yX11_of, cX11_of, 3, (some .int)) 0 (0, 0) [.ref 312, .int v2, .int (2 : Int32)] g10 (qE f11 g11) nX) (k12 : ∀ (c1 : ¬ (I 313 8) ≤ v2) (c8 : ¬ f7 = 0), ZZ K (0, 0) 9 [(0, .ref 312), (1, .int (v1 + (f10 - f11))), (2, .int (v2 + 1))] [] g11) : ZZ K (0, 0) 9 [(0, .ref 312), (1, .int v1), (2, .int v2)] [] I := by
  obtain ⟨hb, ho, hnl, hR, hE⟩ := hK
  refine zz_iload_n hb (z_dec dX11_meanTurnaround 7 rfl) rfl 2 rfl ?_
  refine zz_aload_n hb (z_dec dX11_meanTurnaround 8 rfl) rfl 0 rfl ?_
  refine zz_getr (k := 0) (q := 313) hb ho rfl ckX11 t0 rfl rfl (rX11_meanTurnaround 1 rfl) rfl (z_dec dX11_meanTurnaround 9 rfl) ?_
  refine zz_bipush (v := (8 : Int32)) hb (z_dec dX11_meanTurnaround 10 rfl) (by decide) ?_
  refine zz_iald (j := 8) hb (show isT (kw K) 20 313 from isT.f (k := 0) t0 hw rfl rfl rfl (by decide)) rfl (zvi rfl (zin rfl)) (z_dec dX11_meanTurnaround 11 rfl) ?_
  refine zz_icmp_ge (tgt := 55) hb (z_dec dX11_meanTurnaround 12 rfl) (by decide) (fun c1 => ?_) (fun c1 => ?_)
  · refine zz_aload_n hb (z_dec dX11_meanTurnaround 33 rfl) rfl 0 rfl ?_
    refine zz_inv (as := []) (d := 2) (mc := (0, 0)) (P := (qE f2 g2)) (X := nX) hb ho hnl hR hE mkX11_doneCount rfl ckX11 t0 rfl ⟨Nat.le_refl 0, Nat.le_refl 0⟩ rfl (rX11_meanTurnaround 8 rfl) (rX11_meanTurnaround 9 rfl) (rX11_meanTurnaround 10 rfl) rfl (z_dec dX11_meanTurnaround 34 rfl) (m2 c1) (fun v J2 hp => ?_) (fun _ _ h => h.elim)
    obtain ⟨r2, rfl, e2, w2⟩ := hp
    have e2 := e2.symm
    subst e2
    have w2 := w2.symm
    subst w2
    show ZZ K (0, 0) 59 [(0, .ref 312), (1, .int v1), (2, .int v2)] [.int f2] g2
    refine zz_istore_n (L' := [(0, .ref 312), (1, .int v1), (2, .int f2)]) hb (z_dec dX11_meanTurnaround 35 rfl) rfl hnl rfl [1, 2, 0] rfl ?_
    refine zz_iload_n hb (z_dec dX11_meanTurnaround 36 rfl) rfl 2 rfl ?_
    refine zz_if_ne (tgt := 68) hb (z_dec dX11_meanTurnaround 37 rfl) (by decide) (fun c3 => ?_) (fun c3 => ?_)
    · refine zz_iload_n hb (z_dec dX11_meanTurnaround 40 rfl) rfl 1 rfl ?_
      refine zz_i2d hb (z_dec dX11_meanTurnaround 41 rfl) ?_
      refine zz_iload_n hb (z_dec dX11_meanTurnaround 42 rfl) rfl 2 rfl ?_
      refine zz_i2d hb (z_dec dX11_meanTurnaround 43 rfl) ?_
      refine zz_ddiv hb (z_dec dX11_meanTurnaround 44 rfl) (h4 c1 c3) ?_
      exact zz_dret hb hE ⟨Nat.le_refl 0, Nat.le_refl 0⟩ (z_dec dX11_meanTurnaround 45 rfl) (h5 c1 c3)
    · refine zz_dconst0 hb (z_dec dX11_meanTurnaround 38 rfl) ?_
      refine zz_goto (tgt := 73) hb (z_dec dX11_meanTurnaround 39 rfl) (by decide) ?_
      exact zz_dret hb hE ⟨Nat.le_refl 0, Nat.le_refl 0⟩ (z_dec dX11_meanTurnaround 45 rfl) (h6 c1 c3)
  · refine zz_iload_n hb (z_dec dX11_meanTurnaround 13 rfl) rfl 1 rfl ?_
    refine zz_aload_n hb (z_dec dX11_meanTurnaround 14 rfl) rfl 0 rfl ?_
    refine zz_iload_n hb (z_dec dX11_meanTurnaround 15 rfl) rfl 2 rfl ?_
    refine zz_inv (as := [.int v2]) (d := 1) (mc := (0, 0)) (P := (qE f7 g7)) (X := nX) hb ho hnl hR hE mkX11_isDone rfl ckX11 t0 rfl ⟨Nat.le_refl 0, Nat.le_refl 0⟩ rfl (rX11_meanTurnaround 2 rfl) (rX11_meanTurnaround 3 rfl) (rX11_meanTurnaround 4 rfl) rfl (z_dec dX11_meanTurnaround 16 rfl) (m7 c1) (fun v J7 hp => ?_) (fun _ _ h => h.elim)
    obtain ⟨r7, rfl, e7, w7⟩ := hp
    have e7 := e7.symm
    subst e7
    have w7 := w7.symm
    subst w7
    show ZZ K (0, 0) 26 [(0, .ref 312), (1, .int v1), (2, .int v2)] [.int f7, .int v1] g7
    refine zz_if_eq (tgt := 46) hb (z_dec dX11_meanTurnaround 17 rfl) (by decide) (fun c8 => ?_) (fun c8 => ?_)
    · refine zz_iconst (v := (0 : Int32)) hb (z_dec dX11_meanTurnaround 28 rfl) (by decide) ?_
      refine zz_iadd hb (z_dec dX11_meanTurnaround 29 rfl) ?_
      refine zz_istore_n (L' := [(0, .ref 312), (1, .int (v1 + (0 : Int32))), (2, .int v2)]) hb (z_dec dX11_meanTurnaround 30 rfl) rfl hnl rfl [1, 0, 2] rfl ?_
      refine zz_iinc (v := (v2 + 1)) (L' := [(0, .ref 312), (1, .int (v1 + (0 : Int32))), (2, .int (v2 + 1))]) hb (z_dec dX11_meanTurnaround 31 rfl) 2 rfl rfl hnl rfl [1, 2, 0] rfl ?_
      refine zz_goto (tgt := 9) hb (z_dec dX11_meanTurnaround 32 rfl) (by decide) ?_
      exact (k9 c1 c8)
    · refine zz_aload_n hb (z_dec dX11_meanTurnaround 18 rfl) rfl 0 rfl ?_
      refine zz_iload_n hb (z_dec dX11_meanTurnaround 19 rfl) rfl 2 rfl ?_
      refine zz_bipush (v := (6 : Int32)) hb (z_dec dX11_meanTurnaround 20 rfl) (by decide) ?_
      refine zz_inv (as := [.int v2, .int (6 : Int32)]) (d := 0) (mc := (0, 0)) (P := (qE f10 g10)) (X := nX) hb ho hnl hR hE mkX11_of rfl ckX11 t0 rfl ⟨Nat.le_refl 0, Nat.le_refl 0⟩ rfl (rX11_meanTurnaround 5 rfl) (rX11_meanTurnaround 6 rfl) (rX11_meanTurnaround 7 rfl) rfl (z_dec dX11_meanTurnaround 21 rfl) (m10 c1 c8) (fun v J10 hp => ?_) (fun _ _ h => h.elim)
      obtain ⟨r10, rfl, e10, w10⟩ := hp
      have e10 := e10.symm
      subst e10
      have w10 := w10.symm
      subst w10
      show ZZ K (0, 0) 36 [(0, .ref 312), (1, .int v1), (2, .int v2)] [.int f10, .int v1] g10
      refine zz_aload_n hb (z_dec dX11_meanTurnaround 22 rfl) rfl 0 rfl ?_
      refine zz_iload_n hb (z_dec dX11_meanTurnaround 23 rfl) rfl 2 rfl ?_
      refine zz_iconst (v := (2 : Int32)) hb (z_dec dX11_meanTurnaround 24 rfl) (by decide) ?_
      refine zz_inv (as := [.int v2, .int (2 : Int32)]) (d := 0) (mc := (0, 0)) (P := (qE f11 g11)) (X := nX) hb ho hnl hR hE mkX11_of rfl ckX11 t0 rfl ⟨Nat.le_refl 0, Nat.le_refl 0⟩ rfl (rX11_meanTurnaround 5 rfl) (rX11_meanTurnaround 6 rfl) (rX11_meanTurnaround 7 rfl) rfl (z_dec dX11_meanTurnaround 25 rfl) (m11 c1 c8) (fun v J11 hp => ?_) (fun _ _ h => h.elim)
      obtain ⟨r11, rfl, e11, w11⟩ := hp
      have e11 := e11.symm
      subst e11
      have w11 := w11.symm
      subst w11
      show ZZ K (0, 0) 42 [(0, .ref 312), (1, .int v1), (2, .int v2)] [.int f11, .int f10, .int v1] g11
      refine zz_isub hb (z_dec dX11_meanTurnaround 26 rfl) ?_
      refine zz_goto (tgt := 47) hb (z_dec dX11_meanTurnaround 27 rfl) (by decide) ?_
      refine zz_iadd hb (z_dec dX11_meanTurnaround 29 rfl) ?_
      refine zz_istore_n (L' := [(0, .ref 312), (1, .int (v1 + (f10 - f11))), (2, .int v2)]) hb (z_dec dX11_meanTurnaround 30 rfl) rfl hnl rfl [1, 0, 2] rfl ?_
      refine zz_iinc (v := (v2 + 1)) (L' := [(0, .ref 312), (1, .int (v1 + (f10 - f11))), (2, .int (v2 + 1))]) hb (z_dec dX11_meanTurnaround 31 rfl) 2 rfl rfl hnl rfl [1, 2, 0] rfl ?_
      refine zz_goto (tgt := 9) hb (z_dec dX11_meanTurnaround 32 rfl) (by decide) ?_
      exact (k12 c1 c8)
