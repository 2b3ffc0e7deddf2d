set_option maxRecDepth 20000 in
theorem bX11_thrown_0 {K : zK} {P : Option Value → zM → Prop} {X : String → zM → Prop} (hK : zIs K RX11 cX11_thrown 1 (some .int) 0 (0, 0) P X) (hw : wOK (kw K)) {I : zM} (t0 : isT (kw K) 11 312) (h1 : P (some (.int (I 312 9))) I) : ZZ K (0, 0) 0 [(0, .ref 312)] [] I := by
  obtain ⟨hb, ho, hnl, hR, hE⟩ := hK
  refine zz_aload_n hb (z_dec dX11_thrown 0 rfl) rfl 0 rfl ?_
  refine zz_get (k := 9) hb ho ckX11 t0 rfl rfl (rX11_thrown 0 rfl) rfl (z_dec dX11_thrown 1 rfl) ?_
  exact zz_iret hb hE ⟨Nat.le_refl 0, Nat.le_refl 0⟩ (z_dec dX11_thrown 2 rfl) h1
set_option maxRecDepth 20000 in
theorem bX11_fails_0 {K : zK} {P : Option Value → zM → Prop} {X : String → zM → Prop} (hK : zIs K RX11 cX11_fails 4 (some .boolean) 0 (0, 0) P X) (hw : wOK (kw K)) {I : zM} (t0 : isT (kw K) 11 312) {v1 : Int32} {v2 : Int32} {v3 : Int32} (k4 : ∀ (c1 : v1 = 0) (c2 : v2 = 0) (c3 : v3 = 0), ZZ K (0, 0) 26 [(0, .ref 312), (1, .int v1), (2, .int v2), (3, .int v3)] [.int (0 : Int32), .ref 312] I) (k5 : ∀ (c1 : v1 = 0) (c2 : v2 = 0) (c3 : ¬ v3 = 0), ZZ K (0, 0) 26 [(0, .ref 312), (1, .int v1), (2, .int v2), (3, .int v3)] [.int (3 : Int32), .ref 312] I) (k6 : ∀ (c1 : v1 = 0) (c2 : ¬ v2 = 0), ZZ K (0, 0) 26 [(0, .ref 312), (1, .int v1), (2, .int v2), (3, .int v3)] [.int (2 : Int32), .ref 312] I) (k7 : ∀ (c1 : ¬ v1 = 0), ZZ K (0, 0) 26 [(0, .ref 312), (1, .int v1), (2, .int v2), (3, .int v3)] [.int (1 : Int32), .ref 312] I) : ZZ K (0, 0) 0 [(0, .ref 312), (1, .int v1), (2, .int v2), (3, .int v3)] [] I := by
  obtain ⟨hb, ho, hnl, hR, hE⟩ := hK
  refine zz_aload_n hb (z_dec dX11_fails 0 rfl) rfl 0 rfl ?_
  refine zz_iload_n hb (z_dec dX11_fails 1 rfl) rfl 1 rfl ?_
  refine zz_if_eq (tgt := 9) hb (z_dec dX11_fails 2 rfl) (by decide) (fun c1 => ?_) (fun c1 => ?_)
  · refine zz_iload_n hb (z_dec dX11_fails 5 rfl) rfl 2 rfl ?_
    refine zz_if_eq (tgt := 17) hb (z_dec dX11_fails 6 rfl) (by decide) (fun c2 => ?_) (fun c2 => ?_)
    · refine zz_iload_n hb (z_dec dX11_fails 9 rfl) rfl 3 rfl ?_
      refine zz_if_eq (tgt := 25) hb (z_dec dX11_fails 10 rfl) (by decide) (fun c3 => ?_) (fun c3 => ?_)
      · refine zz_iconst (v := (0 : Int32)) hb (z_dec dX11_fails 13 rfl) (by decide) ?_
        exact (k4 c1 c2 c3)
      · refine zz_iconst (v := (3 : Int32)) hb (z_dec dX11_fails 11 rfl) (by decide) ?_
        refine zz_goto (tgt := 26) hb (z_dec dX11_fails 12 rfl) (by decide) ?_
        exact (k5 c1 c2 c3)
    · refine zz_iconst (v := (2 : Int32)) hb (z_dec dX11_fails 7 rfl) (by decide) ?_
      refine zz_goto (tgt := 26) hb (z_dec dX11_fails 8 rfl) (by decide) ?_
      exact (k6 c1 c2)
  · refine zz_iconst (v := (1 : Int32)) hb (z_dec dX11_fails 3 rfl) (by decide) ?_
    refine zz_goto (tgt := 26) hb (z_dec dX11_fails 4 rfl) (by decide) ?_
    exact (k7 c1)
set_option maxRecDepth 20000 in
theorem bX11_fails_26 {K : zK} {P : Option Value → zM → Prop} {X : String → zM → Prop} (hK : zIs K RX11 cX11_fails 4 (some .boolean) 0 (0, 0) P X) (hw : wOK (kw K)) {I : zM} (t0 : isT (kw K) 11 312) {v1 : Int32} {v2 : Int32} {v3 : Int32} (ts0 : isT (kw K) 11 312) {vs1 : Int32} (h2 : ∀ (c1 : ((up I 312 9 vs1) 312 9) ≤ 0), P (some (.int (0 : Int32))) (up I 312 9 vs1)) (h3 : ∀ (c1 : ¬ ((up I 312 9 vs1) 312 9) ≤ 0), P (some (.int (1 : Int32))) (up I 312 9 vs1)) : ZZ K (0, 0) 26 [(0, .ref 312), (1, .int v1), (2, .int v2), (3, .int v3)] [.int vs1, .ref 312] I := by
  obtain ⟨hb, ho, hnl, hR, hE⟩ := hK
  refine zz_put (k := 9) hb ho ckX11 ts0 rfl rfl (rX11_fails 0 rfl) rfl rfl rfl (z_dec dX11_fails 14 rfl) ?_
  refine zz_aload_n hb (z_dec dX11_fails 15 rfl) rfl 0 rfl ?_
  refine zz_get (k := 9) hb ho ckX11 t0 rfl rfl (rX11_fails 0 rfl) rfl (z_dec dX11_fails 16 rfl) ?_
  refine zz_if_le (tgt := 40) hb (z_dec dX11_fails 17 rfl) (by decide) (fun c1 => ?_) (fun c1 => ?_)
  · refine zz_iconst (v := (0 : Int32)) hb (z_dec dX11_fails 20 rfl) (by decide) ?_
    exact zz_zret hb hE ⟨Nat.le_refl 0, Nat.le_refl 0⟩ (by decide) (z_dec dX11_fails 21 rfl) (h2 c1)
  · refine zz_iconst (v := (1 : Int32)) hb (z_dec dX11_fails 18 rfl) (by decide) ?_
    refine zz_goto (tgt := 41) hb (z_dec dX11_fails 19 rfl) (by decide) ?_
    exact zz_zret hb hE ⟨Nat.le_refl 0, Nat.le_refl 0⟩ (by decide) (z_dec dX11_fails 21 rfl) (h3 c1)
set_option maxRecDepth 20000 in
theorem bX11_in_0 {K : zK} {P : Option Value → zM → Prop} {X : String → zM → Prop} (hK : zIs K RX11 cX11_in 3 (some .boolean) 0 (0, 0) P X) (hw : wOK (kw K)) {I : zM} {v0 : Int32} {v1 : Int32} {v2 : Int32} (h2 : ∀ (c1 : v0 < v1), P (some (.int (0 : Int32))) I) (h4 : ∀ (c1 : ¬ v0 < v1) (c3 : v2 < v0), P (some (.int (0 : Int32))) I) (h5 : ∀ (c1 : ¬ v0 < v1) (c3 : ¬ v2 < v0), P (some (.int (1 : Int32))) I) : ZZ K (0, 0) 0 [(0, .int v0), (1, .int v1), (2, .int v2)] [] I := by
  obtain ⟨hb, ho, hnl, hR, hE⟩ := hK
  refine zz_iload_n hb (z_dec dX11_in 0 rfl) rfl 0 rfl ?_
  refine zz_iload_n hb (z_dec dX11_in 1 rfl) rfl 1 rfl ?_
  refine zz_icmp_lt (tgt := 14) hb (z_dec dX11_in 2 rfl) (by decide) (fun c1 => ?_) (fun c1 => ?_)
  · refine zz_iconst (v := (0 : Int32)) hb (z_dec dX11_in 8 rfl) (by decide) ?_
    exact zz_zret hb hE ⟨Nat.le_refl 0, Nat.le_refl 0⟩ (by decide) (z_dec dX11_in 9 rfl) (h2 c1)
  · refine zz_iload_n hb (z_dec dX11_in 3 rfl) rfl 0 rfl ?_
    refine zz_iload_n hb (z_dec dX11_in 4 rfl) rfl 2 rfl ?_
    refine zz_icmp_gt (tgt := 14) hb (z_dec dX11_in 5 rfl) (by decide) (fun c3 => ?_) (fun c3 => ?_)
    · refine zz_iconst (v := (0 : Int32)) hb (z_dec dX11_in 8 rfl) (by decide) ?_
      exact zz_zret hb hE ⟨Nat.le_refl 0, Nat.le_refl 0⟩ (by decide) (z_dec dX11_in 9 rfl) (h4 c1 c3)
    · refine zz_iconst (v := (1 : Int32)) hb (z_dec dX11_in 6 rfl) (by decide) ?_
      refine zz_goto (tgt := 15) hb (z_dec dX11_in 7 rfl) (by decide) ?_
      exact zz_zret hb hE ⟨Nat.le_refl 0, Nat.le_refl 0⟩ (by decide) (z_dec dX11_in 9 rfl) (h5 c1 c3)
set_option maxRecDepth 20000 in
theorem bX11_isClerk_0 {K : zK} {P : Option Value → zM → Prop} {X : String → zM → Prop} (hK : zIs K RX11 cX11_isClerk 2 (some .boolean) 1 (0, 0) P X) (hw : wOK (kw K)) {I : zM} (t0 : isT (kw K) 11 312) {v1 : Int32} {f1 : Int32} {g1 : zM} (m1 : CT (kG K) (kw K) (kl K) (yX11_in, cX11_in, 3, (some .boolean)) 0 (0, 0) [.int v1, .int (0 : Int32), .int ((I 313 7) - (1 : Int32))] I (qE f1 g1) nX) (h2 : P (some (.int f1)) g1) (z3 : f1 = 0 ∨ f1 = 1) : ZZ K (0, 0) 0 [(0, .ref 312), (1, .int v1)] [] I := by
  obtain ⟨hb, ho, hnl, hR, hE⟩ := hK
  refine zz_iload_n hb (z_dec dX11_isClerk 0 rfl) rfl 1 rfl ?_
  refine zz_iconst (v := (0 : Int32)) hb (z_dec dX11_isClerk 1 rfl) (by decide) ?_
  refine zz_aload_n hb (z_dec dX11_isClerk 2 rfl) rfl 0 rfl ?_
  refine zz_getr (k := 0) (q := 313) hb ho rfl ckX11 t0 rfl rfl (rX11_isClerk 0 rfl) rfl (z_dec dX11_isClerk 3 rfl) ?_
  refine zz_bipush (v := (7 : Int32)) hb (z_dec dX11_isClerk 4 rfl) (by decide) ?_
  refine zz_iald (j := 7) hb (show isT (kw K) 20 313 from isT.f (k := 0) t0 hw rfl rfl rfl (by decide)) rfl (zvi rfl (zin rfl)) (z_dec dX11_isClerk 5 rfl) ?_
  refine zz_iconst (v := (1 : Int32)) hb (z_dec dX11_isClerk 6 rfl) (by decide) ?_
  refine zz_isub hb (z_dec dX11_isClerk 7 rfl) ?_
  refine zz_invS (as := [.int v1, .int (0 : Int32), .int ((I 313 7) - (1 : Int32))]) (d := 0) (mc := (0, 0)) (P := (qE f1 g1)) (X := nX) hb ho hnl hR hE mkX11_in rfl rfl ⟨Nat.le_refl 0, Nat.le_refl 0⟩ rfl (rX11_isClerk 1 rfl) (rX11_isClerk 2 rfl) rfl (z_dec dX11_isClerk 8 rfl) m1 (fun v J1 hp => ?_) (fun _ _ h => h.elim)
  obtain ⟨r1, rfl, e1, w1⟩ := hp
  have e1 := e1.symm
  subst e1
  have w1 := w1.symm
  subst w1
  show ZZ K (0, 0) 14 [(0, .ref 312), (1, .int v1)] [.int f1] g1
  exact zz_zret hb hE ⟨Nat.le_refl 0, Nat.le_refl 0⟩ z3 (z_dec dX11_isClerk 9 rfl) h2
set_option maxRecDepth 20000 in
theorem bX11_isLetter_0 {K : zK} {P : Option Value → zM → Prop} {X : String → zM → Prop} (hK : zIs K RX11 cX11_isLetter 2 (some .boolean) 1 (0, 0) P X) (hw : wOK (kw K)) {I : zM} (t0 : isT (kw K) 11 312) {v1 : Int32} {f1 : Int32} {g1 : zM} (m1 : CT (kG K) (kw K) (kl K) (yX11_in, cX11_in, 3, (some .boolean)) 0 (0, 0) [.int v1, .int (0 : Int32), .int ((I 313 8) - (1 : Int32))] I (qE f1 g1) nX) (h2 : P (some (.int f1)) g1) (z3 : f1 = 0 ∨ f1 = 1) : ZZ K (0, 0) 0 [(0, .ref 312), (1, .int v1)] [] I := by
  obtain ⟨hb, ho, hnl, hR, hE⟩ := hK
  refine zz_iload_n hb (z_dec dX11_isLetter 0 rfl) rfl 1 rfl ?_
  refine zz_iconst (v := (0 : Int32)) hb (z_dec dX11_isLetter 1 rfl) (by decide) ?_
  refine zz_aload_n hb (z_dec dX11_isLetter 2 rfl) rfl 0 rfl ?_
  refine zz_getr (k := 0) (q := 313) hb ho rfl ckX11 t0 rfl rfl (rX11_isLetter 0 rfl) rfl (z_dec dX11_isLetter 3 rfl) ?_
  refine zz_bipush (v := (8 : Int32)) hb (z_dec dX11_isLetter 4 rfl) (by decide) ?_
  refine zz_iald (j := 8) hb (show isT (kw K) 20 313 from isT.f (k := 0) t0 hw rfl rfl rfl (by decide)) rfl (zvi rfl (zin rfl)) (z_dec dX11_isLetter 5 rfl) ?_
  refine zz_iconst (v := (1 : Int32)) hb (z_dec dX11_isLetter 6 rfl) (by decide) ?_
  refine zz_isub hb (z_dec dX11_isLetter 7 rfl) ?_
  refine zz_invS (as := [.int v1, .int (0 : Int32), .int ((I 313 8) - (1 : Int32))]) (d := 0) (mc := (0, 0)) (P := (qE f1 g1)) (X := nX) hb ho hnl hR hE mkX11_in rfl rfl ⟨Nat.le_refl 0, Nat.le_refl 0⟩ rfl (rX11_isLetter 1 rfl) (rX11_isLetter 2 rfl) rfl (z_dec dX11_isLetter 8 rfl) m1 (fun v J1 hp => ?_) (fun _ _ h => h.elim)
  obtain ⟨r1, rfl, e1, w1⟩ := hp
  have e1 := e1.symm
  subst e1
  have w1 := w1.symm
  subst w1
  show ZZ K (0, 0) 14 [(0, .ref 312), (1, .int v1)] [.int f1] g1
  exact zz_zret hb hE ⟨Nat.le_refl 0, Nat.le_refl 0⟩ z3 (z_dec dX11_isLetter 9 rfl) h2
set_option maxRecDepth 20000 in
theorem bX11_of_0 {K : zK} {P : Option Value → zM → Prop} {X : String → zM → Prop} (hK : zIs K RX11 cX11_of 3 (some .int) 0 (0, 0) P X) (hw : wOK (kw K)) {I : zM} (t0 : isT (kw K) 11 312) {v1 : Int32} {v2 : Int32} (h1 : vp_in (((64 : Int32) + (v1 * (8 : Int32))) + v2) 1600) (h2 : P (some (.int (I 313 (((64 : Int32) + (v1 * (8 : Int32))) + v2).toNatClampNeg))) I) : ZZ K (0, 0) 0 [(0, .ref 312), (1, .int v1), (2, .int v2)] [] I := by
  obtain ⟨hb, ho, hnl, hR, hE⟩ := hK
  refine zz_aload_n hb (z_dec dX11_of 0 rfl) rfl 0 rfl ?_
  refine zz_getr (k := 0) (q := 313) hb ho rfl ckX11 t0 rfl rfl (rX11_of 0 rfl) rfl (z_dec dX11_of 1 rfl) ?_
  refine zz_bipush (v := (64 : Int32)) hb (z_dec dX11_of 2 rfl) (by decide) ?_
  refine zz_iload_n hb (z_dec dX11_of 3 rfl) rfl 1 rfl ?_
  refine zz_bipush (v := (8 : Int32)) hb (z_dec dX11_of 4 rfl) (by decide) ?_
  refine zz_imul hb (z_dec dX11_of 5 rfl) ?_
  refine zz_iadd hb (z_dec dX11_of 6 rfl) ?_
  refine zz_iload_n hb (z_dec dX11_of 7 rfl) rfl 2 rfl ?_
  refine zz_iadd hb (z_dec dX11_of 8 rfl) ?_
  refine zz_iald (j := (((64 : Int32) + (v1 * (8 : Int32))) + v2).toNatClampNeg) hb (show isT (kw K) 20 313 from isT.f (k := 0) t0 hw rfl rfl rfl (by decide)) rfl (zvi rfl h1) (z_dec dX11_of 9 rfl) ?_
  exact zz_iret hb hE ⟨Nat.le_refl 0, Nat.le_refl 0⟩ (z_dec dX11_of 10 rfl) h2
set_option maxRecDepth 20000 in
theorem bX11_set_0 {K : zK} {P : Option Value → zM → Prop} {X : String → zM → Prop} (hK : zIs K RX11 cX11_set 4 none 0 (0, 0) P X) (hw : wOK (kw K)) {I : zM} (t0 : isT (kw K) 11 312) {v1 : Int32} {v2 : Int32} {v3 : Int32} (h1 : vp_in (((64 : Int32) + (v1 * (8 : Int32))) + v2) 1600) (h2 : P none (up I 313 ((((64 : Int32) + (v1 * (8 : Int32))) + v2).toNatClampNeg) v3)) : ZZ K (0, 0) 0 [(0, .ref 312), (1, .int v1), (2, .int v2), (3, .int v3)] [] I := by
  obtain ⟨hb, ho, hnl, hR, hE⟩ := hK
  refine zz_aload_n hb (z_dec dX11_set 0 rfl) rfl 0 rfl ?_
  refine zz_getr (k := 0) (q := 313) hb ho rfl ckX11 t0 rfl rfl (rX11_set 0 rfl) rfl (z_dec dX11_set 1 rfl) ?_
  refine zz_bipush (v := (64 : Int32)) hb (z_dec dX11_set 2 rfl) (by decide) ?_
  refine zz_iload_n hb (z_dec dX11_set 3 rfl) rfl 1 rfl ?_
  refine zz_bipush (v := (8 : Int32)) hb (z_dec dX11_set 4 rfl) (by decide) ?_
  refine zz_imul hb (z_dec dX11_set 5 rfl) ?_
  refine zz_iadd hb (z_dec dX11_set 6 rfl) ?_
  refine zz_iload_n hb (z_dec dX11_set 7 rfl) rfl 2 rfl ?_
  refine zz_iadd hb (z_dec dX11_set 8 rfl) ?_
  refine zz_iload_n hb (z_dec dX11_set 9 rfl) rfl 3 rfl ?_
  refine zz_iast (j := (((64 : Int32) + (v1 * (8 : Int32))) + v2).toNatClampNeg) hb (show isT (kw K) 20 313 from isT.f (k := 0) t0 hw rfl rfl rfl (by decide)) rfl (zvi rfl h1) (z_dec dX11_set 10 rfl) ?_
  exact zz_vret hb hE ⟨Nat.le_refl 0, Nat.le_refl 0⟩ (z_dec dX11_set 11 rfl) h2
set_option maxRecDepth 20000 in
theorem bX11_copyBlock_0 {K : zK} {P : Option Value → zM → Prop} {X : String → zM → Prop} (hK : zIs K RX11 cX11_copyBlock 4 none 0 (0, 0) P X) (hw : wOK (kw K)) {I : zM} (t0 : isT (kw K) 11 312) {v1 : Int32} {v2 : Int32} (k1 : ZZ K (0, 0) 2 [(0, .ref 312), (1, .int v1), (2, .int v2), (3, .int (0 : Int32))] [] I) : ZZ K (0, 0) 0 [(0, .ref 312), (1, .int v1), (2, .int v2)] [] I := by
  obtain ⟨hb, ho, hnl, hR, hE⟩ := hK
  refine zz_iconst (v := (0 : Int32)) hb (z_dec dX11_copyBlock 0 rfl) (by decide) ?_
  refine zz_istore_n (L' := [(0, .ref 312), (1, .int v1), (2, .int v2), (3, .int (0 : Int32))]) hb (z_dec dX11_copyBlock 1 rfl) rfl hnl rfl [1, 2, 3, 0] rfl ?_
  exact k1
set_option maxRecDepth 20000 in
theorem bX11_copyBlock_2 {K : zK} {P : Option Value → zM → Prop} {X : String → zM → Prop} (hK : zIs K RX11 cX11_copyBlock 4 none 0 (0, 0) P X) (hw : wOK (kw K)) {I : zM} (t0 : isT (kw K) 11 312) {v1 : Int32} {v2 : Int32} {v3 : Int32} (h2 : ∀ (c1 : (160 : Int32) ≤ v3), P none I) (h3 : ∀ (c1 : ¬ (160 : Int32) ≤ v3), vp_in ((v1 * (160 : Int32)) + v3) 1600) (h4 : ∀ (c1 : ¬ (160 : Int32) ≤ v3), vp_in ((v2 * (160 : Int32)) + v3) 1600) (k5 : ∀ (c1 : ¬ (160 : Int32) ≤ v3), ZZ K (0, 0) 2 [(0, .ref 312), (1, .int v1), (2, .int v2), (3, .int (v3 + 1))] [] (up I 313 (((v2 * (160 : Int32)) + v3).toNatClampNeg) (I 313 ((v1 * (160 : Int32)) + v3).toNatClampNeg))) : ZZ K (0, 0) 2 [(0, .ref 312), (1, .int v1), (2, .int v2), (3, .int v3)] [] I := by
  obtain ⟨hb, ho, hnl, hR, hE⟩ := hK
  refine zz_iload_n hb (z_dec dX11_copyBlock 2 rfl) rfl 3 rfl ?_
  refine zz_sipush (v := (160 : Int32)) hb (z_dec dX11_copyBlock 3 rfl) (by decide) ?_
  refine zz_icmp_ge (tgt := 39) hb (z_dec dX11_copyBlock 4 rfl) (by decide) (fun c1 => ?_) (fun c1 => ?_)
  · exact zz_vret hb hE ⟨Nat.le_refl 0, Nat.le_refl 0⟩ (z_dec dX11_copyBlock 23 rfl) (h2 c1)
  · refine zz_aload_n hb (z_dec dX11_copyBlock 5 rfl) rfl 0 rfl ?_
    refine zz_getr (k := 0) (q := 313) hb ho rfl ckX11 t0 rfl rfl (rX11_copyBlock 0 rfl) rfl (z_dec dX11_copyBlock 6 rfl) ?_
    refine zz_iload_n hb (z_dec dX11_copyBlock 7 rfl) rfl 2 rfl ?_
    refine zz_sipush (v := (160 : Int32)) hb (z_dec dX11_copyBlock 8 rfl) (by decide) ?_
    refine zz_imul hb (z_dec dX11_copyBlock 9 rfl) ?_
    refine zz_iload_n hb (z_dec dX11_copyBlock 10 rfl) rfl 3 rfl ?_
    refine zz_iadd hb (z_dec dX11_copyBlock 11 rfl) ?_
    refine zz_aload_n hb (z_dec dX11_copyBlock 12 rfl) rfl 0 rfl ?_
    refine zz_getr (k := 0) (q := 313) hb ho rfl ckX11 t0 rfl rfl (rX11_copyBlock 0 rfl) rfl (z_dec dX11_copyBlock 13 rfl) ?_
    refine zz_iload_n hb (z_dec dX11_copyBlock 14 rfl) rfl 1 rfl ?_
    refine zz_sipush (v := (160 : Int32)) hb (z_dec dX11_copyBlock 15 rfl) (by decide) ?_
    refine zz_imul hb (z_dec dX11_copyBlock 16 rfl) ?_
    refine zz_iload_n hb (z_dec dX11_copyBlock 17 rfl) rfl 3 rfl ?_
    refine zz_iadd hb (z_dec dX11_copyBlock 18 rfl) ?_
    refine zz_iald (j := ((v1 * (160 : Int32)) + v3).toNatClampNeg) hb (show isT (kw K) 20 313 from isT.f (k := 0) t0 hw rfl rfl rfl (by decide)) rfl (zvi rfl (h3 c1)) (z_dec dX11_copyBlock 19 rfl) ?_
    refine zz_iast (j := ((v2 * (160 : Int32)) + v3).toNatClampNeg) hb (show isT (kw K) 20 313 from isT.f (k := 0) t0 hw rfl rfl rfl (by decide)) rfl (zvi rfl (h4 c1)) (z_dec dX11_copyBlock 20 rfl) ?_
    refine zz_iinc (v := (v3 + 1)) (L' := [(0, .ref 312), (1, .int v1), (2, .int v2), (3, .int (v3 + 1))]) hb (z_dec dX11_copyBlock 21 rfl) 3 rfl rfl hnl rfl [1, 2, 3, 0] rfl ?_
    refine zz_goto (tgt := 2) hb (z_dec dX11_copyBlock 22 rfl) (by decide) ?_
    exact (k5 c1)
set_option maxRecDepth 20000 in
theorem bX11_remember_0 {K : zK} {P : Option Value → zM → Prop} {X : String → zM → Prop} (hK : zIs K RX11 cX11_remember 3 none 1 (0, 0) P X) (hw : wOK (kw K)) {I : zM} (t0 : isT (kw K) 11 312) {v1 : Int32} (k2 : ∀ (c1 : ¬ (I 312 2) = (6 : Int32)), ZZ K (0, 0) 41 [(0, .ref 312), (1, .int v1)] [] I) (k3 : ∀ (c1 : (I 312 2) = (6 : Int32)), ZZ K (0, 0) 11 [(0, .ref 312), (1, .int v1), (2, .int (1 : Int32))] [] I) : ZZ K (0, 0) 0 [(0, .ref 312), (1, .int v1)] [] I := by
  obtain ⟨hb, ho, hnl, hR, hE⟩ := hK
  refine zz_aload_n hb (z_dec dX11_remember 0 rfl) rfl 0 rfl ?_
  refine zz_get (k := 2) hb ho ckX11 t0 rfl rfl (rX11_remember 0 rfl) rfl (z_dec dX11_remember 1 rfl) ?_
  refine zz_bipush (v := (6 : Int32)) hb (z_dec dX11_remember 2 rfl) (by decide) ?_
  refine zz_icmp_ne (tgt := 41) hb (z_dec dX11_remember 3 rfl) (by decide) (fun c1 => ?_) (fun c1 => ?_)
  · exact (k2 c1)
  · refine zz_iconst (v := (1 : Int32)) hb (z_dec dX11_remember 4 rfl) (by decide) ?_
    refine zz_istore_n (L' := [(0, .ref 312), (1, .int v1), (2, .int (1 : Int32))]) hb (z_dec dX11_remember 5 rfl) rfl hnl rfl [1, 2, 0] rfl ?_
    exact (k3 c1)
set_option maxRecDepth 20000 in
theorem bX11_remember_11 {K : zK} {P : Option Value → zM → Prop} {X : String → zM → Prop} (hK : zIs K RX11 cX11_remember 3 none 1 (0, 0) P X) (hw : wOK (kw K)) {I : zM} (t0 : isT (kw K) 11 312) {v1 : Int32} {v2 : Int32} (k2 : ∀ (c1 : (6 : Int32) ≤ v2), ZZ K (0, 0) 41 [(0, .ref 312), (1, .int v1)] [] (up I 312 2 ((I 312 2) - (1 : Int32)))) {g3 : zM} (m3 : ∀ (c1 : ¬ (6 : Int32) ≤ v2), CT (kG K) (kw K) (kl K) (yX11_copyBlock, cX11_copyBlock, 4, none) 0 (0, 0) [.ref 312, .int (v2 + (1 : Int32)), .int v2] I (qV (fun J => J = g3)) nX) (k4 : ∀ (c1 : ¬ (6 : Int32) ≤ v2), ZZ K (0, 0) 11 [(0, .ref 312), (1, .int v1), (2, .int (v2 + 1))] [] g3) : ZZ K (0, 0) 11 [(0, .ref 312), (1, .int v1), (2, .int v2)] [] I := by
  obtain ⟨hb, ho, hnl, hR, hE⟩ := hK
  refine zz_iload_n hb (z_dec dX11_remember 6 rfl) rfl 2 rfl ?_
  refine zz_bipush (v := (6 : Int32)) hb (z_dec dX11_remember 7 rfl) (by decide) ?_
  refine zz_icmp_ge (tgt := 31) hb (z_dec dX11_remember 8 rfl) (by decide) (fun c1 => ?_) (fun c1 => ?_)
  · refine zz_aload_n hb (z_dec dX11_remember 17 rfl) rfl 0 rfl ?_
    refine zz_dup hb (z_dec dX11_remember 18 rfl) rfl ?_
    refine zz_get (k := 2) hb ho ckX11 t0 rfl rfl (rX11_remember 0 rfl) rfl (z_dec dX11_remember 19 rfl) ?_
    refine zz_iconst (v := (1 : Int32)) hb (z_dec dX11_remember 20 rfl) (by decide) ?_
    refine zz_isub hb (z_dec dX11_remember 21 rfl) ?_
    refine zz_put (k := 2) hb ho ckX11 t0 rfl rfl (rX11_remember 0 rfl) rfl rfl rfl (z_dec dX11_remember 22 rfl) ?_
    refine zz_sub [0, 1] (L' := [(0, .ref 312), (1, .int v1)]) rfl ?_
    exact (k2 c1)
  · refine zz_aload_n hb (z_dec dX11_remember 9 rfl) rfl 0 rfl ?_
    refine zz_iload_n hb (z_dec dX11_remember 10 rfl) rfl 2 rfl ?_
    refine zz_iconst (v := (1 : Int32)) hb (z_dec dX11_remember 11 rfl) (by decide) ?_
    refine zz_iadd hb (z_dec dX11_remember 12 rfl) ?_
    refine zz_iload_n hb (z_dec dX11_remember 13 rfl) rfl 2 rfl ?_
    refine zz_inv (as := [.int (v2 + (1 : Int32)), .int v2]) (d := 0) (mc := (0, 0)) (P := (qV (fun J => J = g3))) (X := nX) hb ho hnl hR hE mkX11_copyBlock rfl ckX11 t0 rfl ⟨Nat.le_refl 0, Nat.le_refl 0⟩ rfl (rX11_remember 1 rfl) (rX11_remember 2 rfl) (rX11_remember 3 rfl) rfl (z_dec dX11_remember 14 rfl) (m3 c1) (fun v J3 hp => ?_) (fun _ _ h => h.elim)
    obtain ⟨rfl, w3⟩ := hp
    have w3 := w3.symm
    subst w3
    show ZZ K (0, 0) 25 [(0, .ref 312), (1, .int v1), (2, .int v2)] [] g3
    refine zz_iinc (v := (v2 + 1)) (L' := [(0, .ref 312), (1, .int v1), (2, .int (v2 + 1))]) hb (z_dec dX11_remember 15 rfl) 2 rfl rfl hnl rfl [1, 2, 0] rfl ?_
    refine zz_goto (tgt := 11) hb (z_dec dX11_remember 16 rfl) (by decide) ?_
    exact (k4 c1)
set_option maxRecDepth 20000 in
theorem bX11_remember_41 {K : zK} {P : Option Value → zM → Prop} {X : String → zM → Prop} (hK : zIs K RX11 cX11_remember 3 none 1 (0, 0) P X) (hw : wOK (kw K)) {I : zM} (t0 : isT (kw K) 11 312) {v1 : Int32} {g1 : zM} (m1 : CT (kG K) (kw K) (kl K) (yX11_copyBlock, cX11_copyBlock, 4, none) 0 (0, 0) [.ref 312, .int v1, .int ((up I 312 2 ((I 312 2) + (1 : Int32))) 312 2)] (up I 312 2 ((I 312 2) + (1 : Int32))) (qV (fun J => J = g1)) nX) (h2 : P none g1) : ZZ K (0, 0) 41 [(0, .ref 312), (1, .int v1)] [] I := by
  obtain ⟨hb, ho, hnl, hR, hE⟩ := hK
  refine zz_aload_n hb (z_dec dX11_remember 23 rfl) rfl 0 rfl ?_
  refine zz_dup hb (z_dec dX11_remember 24 rfl) rfl ?_
  refine zz_get (k := 2) hb ho ckX11 t0 rfl rfl (rX11_remember 0 rfl) rfl (z_dec dX11_remember 25 rfl) ?_
  refine zz_iconst (v := (1 : Int32)) hb (z_dec dX11_remember 26 rfl) (by decide) ?_
  refine zz_iadd hb (z_dec dX11_remember 27 rfl) ?_
  refine zz_put (k := 2) hb ho ckX11 t0 rfl rfl (rX11_remember 0 rfl) rfl rfl rfl (z_dec dX11_remember 28 rfl) ?_
  refine zz_aload_n hb (z_dec dX11_remember 29 rfl) rfl 0 rfl ?_
  refine zz_iload_n hb (z_dec dX11_remember 30 rfl) rfl 1 rfl ?_
  refine zz_aload_n hb (z_dec dX11_remember 31 rfl) rfl 0 rfl ?_
  refine zz_get (k := 2) hb ho ckX11 t0 rfl rfl (rX11_remember 0 rfl) rfl (z_dec dX11_remember 32 rfl) ?_
  refine zz_inv (as := [.int v1, .int ((up I 312 2 ((I 312 2) + (1 : Int32))) 312 2)]) (d := 0) (mc := (0, 0)) (P := (qV (fun J => J = g1))) (X := nX) hb ho hnl hR hE mkX11_copyBlock rfl ckX11 t0 rfl ⟨Nat.le_refl 0, Nat.le_refl 0⟩ rfl (rX11_remember 1 rfl) (rX11_remember 2 rfl) (rX11_remember 3 rfl) rfl (z_dec dX11_remember 33 rfl) m1 (fun v J1 hp => ?_) (fun _ _ h => h.elim)
  obtain ⟨rfl, w1⟩ := hp
  have w1 := w1.symm
  subst w1
  show ZZ K (0, 0) 60 [(0, .ref 312), (1, .int v1)] [] g1
  exact zz_vret hb hE ⟨Nat.le_refl 0, Nat.le_refl 0⟩ (z_dec dX11_remember 34 rfl) h2
set_option maxRecDepth 20000 in
theorem bX11_isDone_0 {K : zK} {P : Option Value → zM → Prop} {X : String → zM → Prop} (hK : zIs K RX11 cX11_isDone 2 (some .boolean) 1 (0, 0) P X) (hw : wOK (kw K)) {I : zM} (t0 : isT (kw K) 11 312) {v1 : Int32} {f1 : Int32} {g1 : zM} (m1 : CT (kG K) (kw K) (kl K) (yX11_of, cX11_of, 3, (some .int)) 0 (0, 0) [.ref 312, .int v1, .int (5 : Int32)] I (qE f1 g1) nX) (h3 : ∀ (c2 : ¬ f1 = 0), P (some (.int (0 : Int32))) g1) (h4 : ∀ (c2 : f1 = 0), P (some (.int (1 : Int32))) g1) : ZZ K (0, 0) 0 [(0, .ref 312), (1, .int v1)] [] I := by
  obtain ⟨hb, ho, hnl, hR, hE⟩ := hK
  refine zz_aload_n hb (z_dec dX11_isDone 0 rfl) rfl 0 rfl ?_
  refine zz_iload_n hb (z_dec dX11_isDone 1 rfl) rfl 1 rfl ?_
  refine zz_iconst (v := (5 : Int32)) hb (z_dec dX11_isDone 2 rfl) (by decide) ?_
  refine zz_inv (as := [.int v1, .int (5 : Int32)]) (d := 0) (mc := (0, 0)) (P := (qE f1 g1)) (X := nX) hb ho hnl hR hE mkX11_of rfl ckX11 t0 rfl ⟨Nat.le_refl 0, Nat.le_refl 0⟩ rfl (rX11_isDone 0 rfl) (rX11_isDone 1 rfl) (rX11_isDone 2 rfl) rfl (z_dec dX11_isDone 3 rfl) m1 (fun v J1 hp => ?_) (fun _ _ h => h.elim)
  obtain ⟨r1, rfl, e1, w1⟩ := hp
  have e1 := e1.symm
  subst e1
  have w1 := w1.symm
  subst w1
  show ZZ K (0, 0) 6 [(0, .ref 312), (1, .int v1)] [.int f1] g1
  refine zz_if_ne (tgt := 13) hb (z_dec dX11_isDone 4 rfl) (by decide) (fun c2 => ?_) (fun c2 => ?_)
  · refine zz_iconst (v := (0 : Int32)) hb (z_dec dX11_isDone 7 rfl) (by decide) ?_
    exact zz_zret hb hE ⟨Nat.le_refl 0, Nat.le_refl 0⟩ (by decide) (z_dec dX11_isDone 8 rfl) (h3 c2)
  · refine zz_iconst (v := (1 : Int32)) hb (z_dec dX11_isDone 5 rfl) (by decide) ?_
    refine zz_goto (tgt := 14) hb (z_dec dX11_isDone 6 rfl) (by decide) ?_
    exact zz_zret hb hE ⟨Nat.le_refl 0, Nat.le_refl 0⟩ (by decide) (z_dec dX11_isDone 8 rfl) (h4 c2)
set_option maxRecDepth 20000 in
theorem bX11_hasArrived_0 {K : zK} {P : Option Value → zM → Prop} {X : String → zM → Prop} (hK : zIs K RX11 cX11_hasArrived 2 (some .boolean) 1 (0, 0) P X) (hw : wOK (kw K)) {I : zM} (t0 : isT (kw K) 11 312) {v1 : Int32} {f1 : Int32} {g1 : zM} (m1 : CT (kG K) (kw K) (kl K) (yX11_of, cX11_of, 3, (some .int)) 0 (0, 0) [.ref 312, .int v1, .int (2 : Int32)] I (qE f1 g1) nX) (h3 : ∀ (c2 : (g1 313 9) < f1), P (some (.int (0 : Int32))) g1) (h4 : ∀ (c2 : ¬ (g1 313 9) < f1), P (some (.int (1 : Int32))) g1) : ZZ K (0, 0) 0 [(0, .ref 312), (1, .int v1)] [] I := by
  obtain ⟨hb, ho, hnl, hR, hE⟩ := hK
  refine zz_aload_n hb (z_dec dX11_hasArrived 0 rfl) rfl 0 rfl ?_
  refine zz_iload_n hb (z_dec dX11_hasArrived 1 rfl) rfl 1 rfl ?_
  refine zz_iconst (v := (2 : Int32)) hb (z_dec dX11_hasArrived 2 rfl) (by decide) ?_
  refine zz_inv (as := [.int v1, .int (2 : Int32)]) (d := 0) (mc := (0, 0)) (P := (qE f1 g1)) (X := nX) hb ho hnl hR hE mkX11_of rfl ckX11 t0 rfl ⟨Nat.le_refl 0, Nat.le_refl 0⟩ rfl (rX11_hasArrived 0 rfl) (rX11_hasArrived 1 rfl) (rX11_hasArrived 2 rfl) rfl (z_dec dX11_hasArrived 3 rfl) m1 (fun v J1 hp => ?_) (fun _ _ h => h.elim)
  obtain ⟨r1, rfl, e1, w1⟩ := hp
  have e1 := e1.symm
  subst e1
  have w1 := w1.symm
  subst w1
  show ZZ K (0, 0) 6 [(0, .ref 312), (1, .int v1)] [.int f1] g1
  refine zz_aload_n hb (z_dec dX11_hasArrived 4 rfl) rfl 0 rfl ?_
  refine zz_getr (k := 0) (q := 313) hb ho rfl ckX11 t0 rfl rfl (rX11_hasArrived 3 rfl) rfl (z_dec dX11_hasArrived 5 rfl) ?_
  refine zz_bipush (v := (9 : Int32)) hb (z_dec dX11_hasArrived 6 rfl) (by decide) ?_
  refine zz_iald (j := 9) hb (show isT (kw K) 20 313 from isT.f (k := 0) t0 hw rfl rfl rfl (by decide)) rfl (zvi rfl (zin rfl)) (z_dec dX11_hasArrived 7 rfl) ?_
  refine zz_icmp_gt (tgt := 20) hb (z_dec dX11_hasArrived 8 rfl) (by decide) (fun c2 => ?_) (fun c2 => ?_)
  · refine zz_iconst (v := (0 : Int32)) hb (z_dec dX11_hasArrived 11 rfl) (by decide) ?_
    exact zz_zret hb hE ⟨Nat.le_refl 0, Nat.le_refl 0⟩ (by decide) (z_dec dX11_hasArrived 12 rfl) (h3 c2)
  · refine zz_iconst (v := (1 : Int32)) hb (z_dec dX11_hasArrived 9 rfl) (by decide) ?_
    refine zz_goto (tgt := 21) hb (z_dec dX11_hasArrived 10 rfl) (by decide) ?_
    exact zz_zret hb hE ⟨Nat.le_refl 0, Nat.le_refl 0⟩ (by decide) (z_dec dX11_hasArrived 12 rfl) (h4 c2)
set_option maxRecDepth 20000 in
theorem bX11_isOpen_0 {K : zK} {P : Option Value → zM → Prop} {X : String → zM → Prop} (hK : zIs K RX11 cX11_isOpen 2 (some .boolean) 2 (0, 0) P X) (hw : wOK (kw K)) {I : zM} (t0 : isT (kw K) 11 312) {v1 : Int32} {f1 : Int32} {g1 : zM} (m1 : CT (kG K) (kw K) (kl K) (yX11_hasArrived, cX11_hasArrived, 2, (some .boolean)) 1 (0, 0) [.ref 312, .int v1] I (qE f1 g1) nX) (h3 : ∀ (c2 : f1 = 0), P (some (.int (0 : Int32))) g1) {f4 : Int32} {g4 : zM} (m4 : ∀ (c2 : ¬ f1 = 0), CT (kG K) (kw K) (kl K) (yX11_isDone, cX11_isDone, 2, (some .boolean)) 1 (0, 0) [.ref 312, .int v1] g1 (qE f4 g4) nX) (h6 : ∀ (c2 : ¬ f1 = 0) (c5 : ¬ f4 = 0), P (some (.int (0 : Int32))) g4) (h7 : ∀ (c2 : ¬ f1 = 0) (c5 : f4 = 0), P (some (.int (1 : Int32))) g4) : ZZ K (0, 0) 0 [(0, .ref 312), (1, .int v1)] [] I := by
  obtain ⟨hb, ho, hnl, hR, hE⟩ := hK
  refine zz_aload_n hb (z_dec dX11_isOpen 0 rfl) rfl 0 rfl ?_
  refine zz_iload_n hb (z_dec dX11_isOpen 1 rfl) rfl 1 rfl ?_
  refine zz_inv (as := [.int v1]) (d := 1) (mc := (0, 0)) (P := (qE f1 g1)) (X := nX) hb ho hnl hR hE mkX11_hasArrived rfl ckX11 t0 rfl ⟨Nat.le_refl 0, Nat.le_refl 0⟩ rfl (rX11_isOpen 0 rfl) (rX11_isOpen 1 rfl) (rX11_isOpen 2 rfl) rfl (z_dec dX11_isOpen 2 rfl) m1 (fun v J1 hp => ?_) (fun _ _ h => h.elim)
  obtain ⟨r1, rfl, e1, w1⟩ := hp
  have e1 := e1.symm
  subst e1
  have w1 := w1.symm
  subst w1
  show ZZ K (0, 0) 5 [(0, .ref 312), (1, .int v1)] [.int f1] g1
  refine zz_if_eq (tgt := 20) hb (z_dec dX11_isOpen 3 rfl) (by decide) (fun c2 => ?_) (fun c2 => ?_)
  · refine zz_iconst (v := (0 : Int32)) hb (z_dec dX11_isOpen 10 rfl) (by decide) ?_
    exact zz_zret hb hE ⟨Nat.le_refl 0, Nat.le_refl 0⟩ (by decide) (z_dec dX11_isOpen 11 rfl) (h3 c2)
  · refine zz_aload_n hb (z_dec dX11_isOpen 4 rfl) rfl 0 rfl ?_
    refine zz_iload_n hb (z_dec dX11_isOpen 5 rfl) rfl 1 rfl ?_
    refine zz_inv (as := [.int v1]) (d := 1) (mc := (0, 0)) (P := (qE f4 g4)) (X := nX) hb ho hnl hR hE mkX11_isDone rfl ckX11 t0 rfl ⟨Nat.le_refl 0, Nat.le_refl 0⟩ rfl (rX11_isOpen 3 rfl) (rX11_isOpen 4 rfl) (rX11_isOpen 5 rfl) rfl (z_dec dX11_isOpen 6 rfl) (m4 c2) (fun v J4 hp => ?_) (fun _ _ h => h.elim)
    obtain ⟨r4, rfl, e4, w4⟩ := hp
    have e4 := e4.symm
    subst e4
    have w4 := w4.symm
    subst w4
    show ZZ K (0, 0) 13 [(0, .ref 312), (1, .int v1)] [.int f4] g4
    refine zz_if_ne (tgt := 20) hb (z_dec dX11_isOpen 7 rfl) (by decide) (fun c5 => ?_) (fun c5 => ?_)
    · refine zz_iconst (v := (0 : Int32)) hb (z_dec dX11_isOpen 10 rfl) (by decide) ?_
      exact zz_zret hb hE ⟨Nat.le_refl 0, Nat.le_refl 0⟩ (by decide) (z_dec dX11_isOpen 11 rfl) (h6 c2 c5)
    · refine zz_iconst (v := (1 : Int32)) hb (z_dec dX11_isOpen 8 rfl) (by decide) ?_
      refine zz_goto (tgt := 21) hb (z_dec dX11_isOpen 9 rfl) (by decide) ?_
      exact zz_zret hb hE ⟨Nat.le_refl 0, Nat.le_refl 0⟩ (by decide) (z_dec dX11_isOpen 11 rfl) (h7 c2 c5)
set_option maxRecDepth 20000 in
theorem bX11_current_0 {K : zK} {P : Option Value → zM → Prop} {X : String → zM → Prop} (hK : zIs K RX11 cX11_current 1 (some .int) 2 (0, 0) P X) (hw : wOK (kw K)) {I : zM} (t0 : isT (kw K) 11 312) (h2 : ∀ (c1 : (I 313 11) = (-1 : Int32)), P (some (.int (-1 : Int32))) I) {f3 : Int32} {g3 : zM} (m3 : ∀ (c1 : ¬ (I 313 11) = (-1 : Int32)), CT (kG K) (kw K) (kl K) (yX11_isDone, cX11_isDone, 2, (some .boolean)) 1 (0, 0) [.ref 312, .int (I 313 11)] I (qE f3 g3) nX) (h5 : ∀ (c1 : ¬ (I 313 11) = (-1 : Int32)) (c4 : ¬ f3 = 0), P (some (.int (-1 : Int32))) g3) (h6 : ∀ (c1 : ¬ (I 313 11) = (-1 : Int32)) (c4 : f3 = 0), P (some (.int (g3 313 11))) g3) : ZZ K (0, 0) 0 [(0, .ref 312)] [] I := by
  obtain ⟨hb, ho, hnl, hR, hE⟩ := hK
  refine zz_aload_n hb (z_dec dX11_current 0 rfl) rfl 0 rfl ?_
  refine zz_getr (k := 0) (q := 313) hb ho rfl ckX11 t0 rfl rfl (rX11_current 0 rfl) rfl (z_dec dX11_current 1 rfl) ?_
  refine zz_bipush (v := (11 : Int32)) hb (z_dec dX11_current 2 rfl) (by decide) ?_
  refine zz_iald (j := 11) hb (show isT (kw K) 20 313 from isT.f (k := 0) t0 hw rfl rfl rfl (by decide)) rfl (zvi rfl (zin rfl)) (z_dec dX11_current 3 rfl) ?_
  refine zz_iconst (v := (-1 : Int32)) hb (z_dec dX11_current 4 rfl) (by decide) ?_
  refine zz_icmp_eq (tgt := 35) hb (z_dec dX11_current 5 rfl) (by decide) (fun c1 => ?_) (fun c1 => ?_)
  · refine zz_iconst (v := (-1 : Int32)) hb (z_dec dX11_current 18 rfl) (by decide) ?_
    exact zz_iret hb hE ⟨Nat.le_refl 0, Nat.le_refl 0⟩ (z_dec dX11_current 19 rfl) (h2 c1)
  · refine zz_aload_n hb (z_dec dX11_current 6 rfl) rfl 0 rfl ?_
    refine zz_aload_n hb (z_dec dX11_current 7 rfl) rfl 0 rfl ?_
    refine zz_getr (k := 0) (q := 313) hb ho rfl ckX11 t0 rfl rfl (rX11_current 0 rfl) rfl (z_dec dX11_current 8 rfl) ?_
    refine zz_bipush (v := (11 : Int32)) hb (z_dec dX11_current 9 rfl) (by decide) ?_
    refine zz_iald (j := 11) hb (show isT (kw K) 20 313 from isT.f (k := 0) t0 hw rfl rfl rfl (by decide)) rfl (zvi rfl (zin rfl)) (z_dec dX11_current 10 rfl) ?_
    refine zz_inv (as := [.int (I 313 11)]) (d := 1) (mc := (0, 0)) (P := (qE f3 g3)) (X := nX) hb ho hnl hR hE mkX11_isDone rfl ckX11 t0 rfl ⟨Nat.le_refl 0, Nat.le_refl 0⟩ rfl (rX11_current 1 rfl) (rX11_current 2 rfl) (rX11_current 3 rfl) rfl (z_dec dX11_current 11 rfl) (m3 c1) (fun v J3 hp => ?_) (fun _ _ h => h.elim)
    obtain ⟨r3, rfl, e3, w3⟩ := hp
    have e3 := e3.symm
    subst e3
    have w3 := w3.symm
    subst w3
    show ZZ K (0, 0) 22 [(0, .ref 312)] [.int f3] g3
    refine zz_if_ne (tgt := 35) hb (z_dec dX11_current 12 rfl) (by decide) (fun c4 => ?_) (fun c4 => ?_)
    · refine zz_iconst (v := (-1 : Int32)) hb (z_dec dX11_current 18 rfl) (by decide) ?_
      exact zz_iret hb hE ⟨Nat.le_refl 0, Nat.le_refl 0⟩ (z_dec dX11_current 19 rfl) (h5 c1 c4)
    · refine zz_aload_n hb (z_dec dX11_current 13 rfl) rfl 0 rfl ?_
      refine zz_getr (k := 0) (q := 313) hb ho rfl ckX11 t0 rfl rfl (rX11_current 0 rfl) rfl (z_dec dX11_current 14 rfl) ?_
      refine zz_bipush (v := (11 : Int32)) hb (z_dec dX11_current 15 rfl) (by decide) ?_
      refine zz_iald (j := 11) hb (show isT (kw K) 20 313 from isT.f (k := 0) t0 hw rfl rfl rfl (by decide)) rfl (zvi rfl (zin rfl)) (z_dec dX11_current 16 rfl) ?_
      refine zz_goto (tgt := 36) hb (z_dec dX11_current 17 rfl) (by decide) ?_
      exact zz_iret hb hE ⟨Nat.le_refl 0, Nat.le_refl 0⟩ (z_dec dX11_current 19 rfl) (h6 c1 c4)
set_option maxRecDepth 20000 in
theorem bX11_waited_0 {K : zK} {P : Option Value → zM → Prop} {X : String → zM → Prop} (hK : zIs K RX11 cX11_waited 3 (some .int) 2 (0, 0) P X) (hw : wOK (kw K)) {I : zM} (t0 : isT (kw K) 11 312) {v1 : Int32} {f1 : Int32} {g1 : zM} (m1 : CT (kG K) (kw K) (kl K) (yX11_hasArrived, cX11_hasArrived, 2, (some .boolean)) 1 (0, 0) [.ref 312, .int v1] I (qE f1 g1) nX) {f3 : Int32} {g3 : zM} (m3 : ∀ (c2 : ¬ f1 = 0), CT (kG K) (kw K) (kl K) (yX11_isDone, cX11_isDone, 2, (some .boolean)) 1 (0, 0) [.ref 312, .int v1] g1 (qE f3 g3) nX) (k5 : ∀ (c2 : ¬ f1 = 0) (c4 : f3 = 0), ZZ K (0, 0) 35 [(0, .ref 312), (1, .int v1)] [.int (g3 313 9)] g3) {f6 : Int32} {g6 : zM} (m6 : ∀ (c2 : ¬ f1 = 0) (c4 : ¬ f3 = 0), CT (kG K) (kw K) (kl K) (yX11_of, cX11_of, 3, (some .int)) 0 (0, 0) [.ref 312, .int v1, .int (6 : Int32)] g3 (qE f6 g6) nX) (k7 : ∀ (c2 : ¬ f1 = 0) (c4 : ¬ f3 = 0), ZZ K (0, 0) 35 [(0, .ref 312), (1, .int v1)] [.int f6] g6) (h8 : ∀ (c2 : f1 = 0), P (some (.int (0 : Int32))) g1) : ZZ K (0, 0) 0 [(0, .ref 312), (1, .int v1)] [] I := by
  obtain ⟨hb, ho, hnl, hR, hE⟩ := hK
  refine zz_aload_n hb (z_dec dX11_waited 0 rfl) rfl 0 rfl ?_
  refine zz_iload_n hb (z_dec dX11_waited 1 rfl) rfl 1 rfl ?_
  refine zz_inv (as := [.int v1]) (d := 1) (mc := (0, 0)) (P := (qE f1 g1)) (X := nX) hb ho hnl hR hE mkX11_hasArrived rfl ckX11 t0 rfl ⟨Nat.le_refl 0, Nat.le_refl 0⟩ rfl (rX11_waited 0 rfl) (rX11_waited 1 rfl) (rX11_waited 2 rfl) rfl (z_dec dX11_waited 2 rfl) m1 (fun v J1 hp => ?_) (fun _ _ h => h.elim)
  obtain ⟨r1, rfl, e1, w1⟩ := hp
  have e1 := e1.symm
  subst e1
  have w1 := w1.symm
  subst w1
  show ZZ K (0, 0) 5 [(0, .ref 312), (1, .int v1)] [.int f1] g1
  refine zz_if_ne (tgt := 10) hb (z_dec dX11_waited 3 rfl) (by decide) (fun c2 => ?_) (fun c2 => ?_)
  · refine zz_aload_n hb (z_dec dX11_waited 6 rfl) rfl 0 rfl ?_
    refine zz_iload_n hb (z_dec dX11_waited 7 rfl) rfl 1 rfl ?_
    refine zz_inv (as := [.int v1]) (d := 1) (mc := (0, 0)) (P := (qE f3 g3)) (X := nX) hb ho hnl hR hE mkX11_isDone rfl ckX11 t0 rfl ⟨Nat.le_refl 0, Nat.le_refl 0⟩ rfl (rX11_waited 3 rfl) (rX11_waited 4 rfl) (rX11_waited 5 rfl) rfl (z_dec dX11_waited 8 rfl) (m3 c2) (fun v J3 hp => ?_) (fun _ _ h => h.elim)
    obtain ⟨r3, rfl, e3, w3⟩ := hp
    have e3 := e3.symm
    subst e3
    have w3 := w3.symm
    subst w3
    show ZZ K (0, 0) 15 [(0, .ref 312), (1, .int v1)] [.int f3] g3
    refine zz_if_eq (tgt := 28) hb (z_dec dX11_waited 9 rfl) (by decide) (fun c4 => ?_) (fun c4 => ?_)
    · refine zz_aload_n hb (z_dec dX11_waited 15 rfl) rfl 0 rfl ?_
      refine zz_getr (k := 0) (q := 313) hb ho rfl ckX11 t0 rfl rfl (rX11_waited 9 rfl) rfl (z_dec dX11_waited 16 rfl) ?_
      refine zz_bipush (v := (9 : Int32)) hb (z_dec dX11_waited 17 rfl) (by decide) ?_
      refine zz_iald (j := 9) hb (show isT (kw K) 20 313 from isT.f (k := 0) t0 hw rfl rfl rfl (by decide)) rfl (zvi rfl (zin rfl)) (z_dec dX11_waited 18 rfl) ?_
      exact (k5 c2 c4)
    · refine zz_aload_n hb (z_dec dX11_waited 10 rfl) rfl 0 rfl ?_
      refine zz_iload_n hb (z_dec dX11_waited 11 rfl) rfl 1 rfl ?_
      refine zz_bipush (v := (6 : Int32)) hb (z_dec dX11_waited 12 rfl) (by decide) ?_
      refine zz_inv (as := [.int v1, .int (6 : Int32)]) (d := 0) (mc := (0, 0)) (P := (qE f6 g6)) (X := nX) hb ho hnl hR hE mkX11_of rfl ckX11 t0 rfl ⟨Nat.le_refl 0, Nat.le_refl 0⟩ rfl (rX11_waited 6 rfl) (rX11_waited 7 rfl) (rX11_waited 8 rfl) rfl (z_dec dX11_waited 13 rfl) (m6 c2 c4) (fun v J6 hp => ?_) (fun _ _ h => h.elim)
      obtain ⟨r6, rfl, e6, w6⟩ := hp
      have e6 := e6.symm
      subst e6
      have w6 := w6.symm
      subst w6
      show ZZ K (0, 0) 25 [(0, .ref 312), (1, .int v1)] [.int f6] g6
      refine zz_goto (tgt := 35) hb (z_dec dX11_waited 14 rfl) (by decide) ?_
      exact (k7 c2 c4)
  · refine zz_iconst (v := (0 : Int32)) hb (z_dec dX11_waited 4 rfl) (by decide) ?_
    exact zz_iret hb hE ⟨Nat.le_refl 0, Nat.le_refl 0⟩ (z_dec dX11_waited 5 rfl) (h8 c2)
set_option maxRecDepth 20000 in
theorem bX11_waited_35 {K : zK} {P : Option Value → zM → Prop} {X : String → zM → Prop} (hK : zIs K RX11 cX11_waited 3 (some .int) 2 (0, 0) P X) (hw : wOK (kw K)) {I : zM} (t0 : isT (kw K) 11 312) {v1 : Int32} {vs0 : Int32} {f1 : Int32} {g1 : zM} (m1 : CT (kG K) (kw K) (kl K) (yX11_of, cX11_of, 3, (some .int)) 0 (0, 0) [.ref 312, .int v1, .int (2 : Int32)] I (qE f1 g1) nX) {f2 : Int32} {g2 : zM} (m2 : CT (kG K) (kw K) (kl K) (yX11_of, cX11_of, 3, (some .int)) 0 (0, 0) [.ref 312, .int v1, .int (7 : Int32)] g1 (qE f2 g2) nX) (h3 : P (some (.int ((vs0 - f1) - f2))) g2) : ZZ K (0, 0) 35 [(0, .ref 312), (1, .int v1)] [.int vs0] I := by
  obtain ⟨hb, ho, hnl, hR, hE⟩ := hK
  refine zz_istore_n (L' := [(0, .ref 312), (1, .int v1), (2, .int vs0)]) hb (z_dec dX11_waited 19 rfl) rfl hnl rfl [1, 2, 0] rfl ?_
  refine zz_iload_n hb (z_dec dX11_waited 20 rfl) rfl 2 rfl ?_
  refine zz_aload_n hb (z_dec dX11_waited 21 rfl) rfl 0 rfl ?_
  refine zz_iload_n hb (z_dec dX11_waited 22 rfl) rfl 1 rfl ?_
  refine zz_iconst (v := (2 : Int32)) hb (z_dec dX11_waited 23 rfl) (by decide) ?_
  refine zz_inv (as := [.int v1, .int (2 : Int32)]) (d := 0) (mc := (0, 0)) (P := (qE f1 g1)) (X := nX) hb ho hnl hR hE mkX11_of rfl ckX11 t0 rfl ⟨Nat.le_refl 0, Nat.le_refl 0⟩ rfl (rX11_waited 6 rfl) (rX11_waited 7 rfl) (rX11_waited 8 rfl) rfl (z_dec dX11_waited 24 rfl) m1 (fun v J1 hp => ?_) (fun _ _ h => h.elim)
  obtain ⟨r1, rfl, e1, w1⟩ := hp
  have e1 := e1.symm
  subst e1
  have w1 := w1.symm
  subst w1
  show ZZ K (0, 0) 43 [(0, .ref 312), (1, .int v1), (2, .int vs0)] [.int f1, .int vs0] g1
  refine zz_isub hb (z_dec dX11_waited 25 rfl) ?_
  refine zz_aload_n hb (z_dec dX11_waited 26 rfl) rfl 0 rfl ?_
  refine zz_iload_n hb (z_dec dX11_waited 27 rfl) rfl 1 rfl ?_
  refine zz_bipush (v := (7 : Int32)) hb (z_dec dX11_waited 28 rfl) (by decide) ?_
  refine zz_inv (as := [.int v1, .int (7 : Int32)]) (d := 0) (mc := (0, 0)) (P := (qE f2 g2)) (X := nX) hb ho hnl hR hE mkX11_of rfl ckX11 t0 rfl ⟨Nat.le_refl 0, Nat.le_refl 0⟩ rfl (rX11_waited 6 rfl) (rX11_waited 7 rfl) (rX11_waited 8 rfl) rfl (z_dec dX11_waited 29 rfl) m2 (fun v J2 hp => ?_) (fun _ _ h => h.elim)
  obtain ⟨r2, rfl, e2, w2⟩ := hp
  have e2 := e2.symm
  subst e2
  have w2 := w2.symm
  subst w2
  show ZZ K (0, 0) 51 [(0, .ref 312), (1, .int v1), (2, .int vs0)] [.int f2, .int (vs0 - f1)] g2
  refine zz_isub hb (z_dec dX11_waited 30 rfl) ?_
  exact zz_iret hb hE ⟨Nat.le_refl 0, Nat.le_refl 0⟩ (z_dec dX11_waited 31 rfl) h3
set_option maxRecDepth 20000 in
theorem bX11_urgency_0 {K : zK} {P : Option Value → zM → Prop} {X : String → zM → Prop} (hK : zIs K RX11 cX11_urgency 2 (some .int) 3 (0, 0) P X) (hw : wOK (kw K)) {I : zM} (t0 : isT (kw K) 11 312) {v1 : Int32} {f1 : Int32} {g1 : zM} (m1 : CT (kG K) (kw K) (kl K) (yX11_of, cX11_of, 3, (some .int)) 0 (0, 0) [.ref 312, .int v1, .int (4 : Int32)] I (qE f1 g1) nX) {f2 : Int32} {g2 : zM} (m2 : CT (kG K) (kw K) (kl K) (yX11_waited, cX11_waited, 3, (some .int)) 2 (0, 0) [.ref 312, .int v1] g1 (qE f2 g2) nX) (h3 : ¬ (g2 313 5) = 0) (h4 : P (some (.int (f1 + (f2 / (g2 313 5))))) g2) : ZZ K (0, 0) 0 [(0, .ref 312), (1, .int v1)] [] I := by
  obtain ⟨hb, ho, hnl, hR, hE⟩ := hK
  refine zz_aload_n hb (z_dec dX11_urgency 0 rfl) rfl 0 rfl ?_
  refine zz_iload_n hb (z_dec dX11_urgency 1 rfl) rfl 1 rfl ?_
  refine zz_iconst (v := (4 : Int32)) hb (z_dec dX11_urgency 2 rfl) (by decide) ?_
  refine zz_inv (as := [.int v1, .int (4 : Int32)]) (d := 0) (mc := (0, 0)) (P := (qE f1 g1)) (X := nX) hb ho hnl hR hE mkX11_of rfl ckX11 t0 rfl ⟨Nat.le_refl 0, Nat.le_refl 0⟩ rfl (rX11_urgency 0 rfl) (rX11_urgency 1 rfl) (rX11_urgency 2 rfl) rfl (z_dec dX11_urgency 3 rfl) m1 (fun v J1 hp => ?_) (fun _ _ h => h.elim)
  obtain ⟨r1, rfl, e1, w1⟩ := hp
  have e1 := e1.symm
  subst e1
  have w1 := w1.symm
  subst w1
  show ZZ K (0, 0) 6 [(0, .ref 312), (1, .int v1)] [.int f1] g1
  refine zz_aload_n hb (z_dec dX11_urgency 4 rfl) rfl 0 rfl ?_
  refine zz_iload_n hb (z_dec dX11_urgency 5 rfl) rfl 1 rfl ?_
  refine zz_inv (as := [.int v1]) (d := 2) (mc := (0, 0)) (P := (qE f2 g2)) (X := nX) hb ho hnl hR hE mkX11_waited rfl ckX11 t0 rfl ⟨Nat.le_refl 0, Nat.le_refl 0⟩ rfl (rX11_urgency 3 rfl) (rX11_urgency 4 rfl) (rX11_urgency 5 rfl) rfl (z_dec dX11_urgency 6 rfl) m2 (fun v J2 hp => ?_) (fun _ _ h => h.elim)
  obtain ⟨r2, rfl, e2, w2⟩ := hp
  have e2 := e2.symm
  subst e2
  have w2 := w2.symm
  subst w2
  show ZZ K (0, 0) 11 [(0, .ref 312), (1, .int v1)] [.int f2, .int f1] g2
  refine zz_aload_n hb (z_dec dX11_urgency 7 rfl) rfl 0 rfl ?_
  refine zz_getr (k := 0) (q := 313) hb ho rfl ckX11 t0 rfl rfl (rX11_urgency 6 rfl) rfl (z_dec dX11_urgency 8 rfl) ?_
  refine zz_iconst (v := (5 : Int32)) hb (z_dec dX11_urgency 9 rfl) (by decide) ?_
  refine zz_iald (j := 5) hb (show isT (kw K) 20 313 from isT.f (k := 0) t0 hw rfl rfl rfl (by decide)) rfl (zvi rfl (zin rfl)) (z_dec dX11_urgency 10 rfl) ?_
  refine zz_idiv hb (z_dec dX11_urgency 11 rfl) h3 ?_
  refine zz_iadd hb (z_dec dX11_urgency 12 rfl) ?_
  exact zz_iret hb hE ⟨Nat.le_refl 0, Nat.le_refl 0⟩ (z_dec dX11_urgency 13 rfl) h4
set_option maxRecDepth 20000 in
theorem bX11_isLate_0 {K : zK} {P : Option Value → zM → Prop} {X : String → zM → Prop} (hK : zIs K RX11 cX11_isLate 2 (some .boolean) 2 (0, 0) P X) (hw : wOK (kw K)) {I : zM} (t0 : isT (kw K) 11 312) {v1 : Int32} {f1 : Int32} {g1 : zM} (m1 : CT (kG K) (kw K) (kl K) (yX11_isDone, cX11_isDone, 2, (some .boolean)) 1 (0, 0) [.ref 312, .int v1] I (qE f1 g1) nX) (h3 : ∀ (c2 : f1 = 0), P (some (.int (0 : Int32))) g1) {f4 : Int32} {g4 : zM} (m4 : ∀ (c2 : ¬ f1 = 0), CT (kG K) (kw K) (kl K) (yX11_of, cX11_of, 3, (some .int)) 0 (0, 0) [.ref 312, .int v1, .int (6 : Int32)] g1 (qE f4 g4) nX) {f5 : Int32} {g5 : zM} (m5 : ∀ (c2 : ¬ f1 = 0), CT (kG K) (kw K) (kl K) (yX11_of, cX11_of, 3, (some .int)) 0 (0, 0) [.ref 312, .int v1, .int (3 : Int32)] g4 (qE f5 g5) nX) (h7 : ∀ (c2 : ¬ f1 = 0) (c6 : f4 ≤ f5), P (some (.int (0 : Int32))) g5) (h8 : ∀ (c2 : ¬ f1 = 0) (c6 : ¬ f4 ≤ f5), P (some (.int (1 : Int32))) g5) : ZZ K (0, 0) 0 [(0, .ref 312), (1, .int v1)] [] I := by
  obtain ⟨hb, ho, hnl, hR, hE⟩ := hK
  refine zz_aload_n hb (z_dec dX11_isLate 0 rfl) rfl 0 rfl ?_
  refine zz_iload_n hb (z_dec dX11_isLate 1 rfl) rfl 1 rfl ?_
  refine zz_inv (as := [.int v1]) (d := 1) (mc := (0, 0)) (P := (qE f1 g1)) (X := nX) hb ho hnl hR hE mkX11_isDone rfl ckX11 t0 rfl ⟨Nat.le_refl 0, Nat.le_refl 0⟩ rfl (rX11_isLate 0 rfl) (rX11_isLate 1 rfl) (rX11_isLate 2 rfl) rfl (z_dec dX11_isLate 2 rfl) m1 (fun v J1 hp => ?_) (fun _ _ h => h.elim)
  obtain ⟨r1, rfl, e1, w1⟩ := hp
  have e1 := e1.symm
  subst e1
  have w1 := w1.symm
  subst w1
  show ZZ K (0, 0) 5 [(0, .ref 312), (1, .int v1)] [.int f1] g1
  refine zz_if_eq (tgt := 28) hb (z_dec dX11_isLate 3 rfl) (by decide) (fun c2 => ?_) (fun c2 => ?_)
  · refine zz_iconst (v := (0 : Int32)) hb (z_dec dX11_isLate 15 rfl) (by decide) ?_
    exact zz_zret hb hE ⟨Nat.le_refl 0, Nat.le_refl 0⟩ (by decide) (z_dec dX11_isLate 16 rfl) (h3 c2)
  · refine zz_aload_n hb (z_dec dX11_isLate 4 rfl) rfl 0 rfl ?_
    refine zz_iload_n hb (z_dec dX11_isLate 5 rfl) rfl 1 rfl ?_
    refine zz_bipush (v := (6 : Int32)) hb (z_dec dX11_isLate 6 rfl) (by decide) ?_
    refine zz_inv (as := [.int v1, .int (6 : Int32)]) (d := 0) (mc := (0, 0)) (P := (qE f4 g4)) (X := nX) hb ho hnl hR hE mkX11_of rfl ckX11 t0 rfl ⟨Nat.le_refl 0, Nat.le_refl 0⟩ rfl (rX11_isLate 3 rfl) (rX11_isLate 4 rfl) (rX11_isLate 5 rfl) rfl (z_dec dX11_isLate 7 rfl) (m4 c2) (fun v J4 hp => ?_) (fun _ _ h => h.elim)
    obtain ⟨r4, rfl, e4, w4⟩ := hp
    have e4 := e4.symm
    subst e4
    have w4 := w4.symm
    subst w4
    show ZZ K (0, 0) 15 [(0, .ref 312), (1, .int v1)] [.int f4] g4
    refine zz_aload_n hb (z_dec dX11_isLate 8 rfl) rfl 0 rfl ?_
    refine zz_iload_n hb (z_dec dX11_isLate 9 rfl) rfl 1 rfl ?_
    refine zz_iconst (v := (3 : Int32)) hb (z_dec dX11_isLate 10 rfl) (by decide) ?_
    refine zz_inv (as := [.int v1, .int (3 : Int32)]) (d := 0) (mc := (0, 0)) (P := (qE f5 g5)) (X := nX) hb ho hnl hR hE mkX11_of rfl ckX11 t0 rfl ⟨Nat.le_refl 0, Nat.le_refl 0⟩ rfl (rX11_isLate 3 rfl) (rX11_isLate 4 rfl) (rX11_isLate 5 rfl) rfl (z_dec dX11_isLate 11 rfl) (m5 c2) (fun v J5 hp => ?_) (fun _ _ h => h.elim)
    obtain ⟨r5, rfl, e5, w5⟩ := hp
    have e5 := e5.symm
    subst e5
    have w5 := w5.symm
    subst w5
    show ZZ K (0, 0) 21 [(0, .ref 312), (1, .int v1)] [.int f5, .int f4] g5
    refine zz_icmp_le (tgt := 28) hb (z_dec dX11_isLate 12 rfl) (by decide) (fun c6 => ?_) (fun c6 => ?_)
    · refine zz_iconst (v := (0 : Int32)) hb (z_dec dX11_isLate 15 rfl) (by decide) ?_
      exact zz_zret hb hE ⟨Nat.le_refl 0, Nat.le_refl 0⟩ (by decide) (z_dec dX11_isLate 16 rfl) (h7 c2 c6)
    · refine zz_iconst (v := (1 : Int32)) hb (z_dec dX11_isLate 13 rfl) (by decide) ?_
      refine zz_goto (tgt := 29) hb (z_dec dX11_isLate 14 rfl) (by decide) ?_
      exact zz_zret hb hE ⟨Nat.le_refl 0, Nat.le_refl 0⟩ (by decide) (z_dec dX11_isLate 16 rfl) (h8 c2 c6)
set_option maxRecDepth 20000 in
theorem bX11_badness_0 {K : zK} {P : Option Value → zM → Prop} {X : String → zM → Prop} (hK : zIs K RX11 cX11_badness 3 (some .int) 4 (0, 0) P X) (hw : wOK (kw K)) {I : zM} (t0 : isT (kw K) 11 312) {v1 : Int32} {v2 : Int32} {f2 : Int32} {g2 : zM} (m2 : ∀ (c1 : v2.toInt < 0 ∨ 2 < v2.toInt), CT (kG K) (kw K) (kl K) (yX11_urgency, cX11_urgency, 2, (some .int)) 3 (0, 0) [.ref 312, .int v1] I (qE f2 g2) nX) (h3 : ∀ (c1 : v2.toInt < 0 ∨ 2 < v2.toInt), P (some (.int (-f2))) g2) {f4 : Int32} {g4 : zM} (m4 : ∀ (c1 : v2.toInt = 0), CT (kG K) (kw K) (kl K) (yX11_of, cX11_of, 3, (some .int)) 0 (0, 0) [.ref 312, .int v1, .int (2 : Int32)] I (qE f4 g4) nX) (h5 : ∀ (c1 : v2.toInt = 0), P (some (.int f4)) g4) {f6 : Int32} {g6 : zM} (m6 : ∀ (c1 : v2.toInt = 1), CT (kG K) (kw K) (kl K) (yX11_of, cX11_of, 3, (some .int)) 0 (0, 0) [.ref 312, .int v1, .int (5 : Int32)] I (qE f6 g6) nX) (h7 : ∀ (c1 : v2.toInt = 1), P (some (.int f6)) g6) {f8 : Int32} {g8 : zM} (m8 : ∀ (c1 : v2.toInt = 2), CT (kG K) (kw K) (kl K) (yX11_of, cX11_of, 3, (some .int)) 0 (0, 0) [.ref 312, .int v1, .int (3 : Int32)] I (qE f8 g8) nX) (h9 : ∀ (c1 : v2.toInt = 2), P (some (.int f8)) g8) : ZZ K (0, 0) 0 [(0, .ref 312), (1, .int v1), (2, .int v2)] [] I := by
  obtain ⟨hb, ho, hnl, hR, hE⟩ := hK
  refine zz_iload_n hb (z_dec dX11_badness 0 rfl) rfl 2 rfl ?_
  refine zz_tsw (td := 49) (tg := [28, 35, 42]) hb (z_dec dX11_badness 1 rfl) (by decide) rfl (by decide) (fun c1 => ?_) (fun i t hi c1 => ?_)
  · refine zz_aload_n hb (z_dec dX11_badness 17 rfl) rfl 0 rfl ?_
    refine zz_iload_n hb (z_dec dX11_badness 18 rfl) rfl 1 rfl ?_
    refine zz_inv (as := [.int v1]) (d := 3) (mc := (0, 0)) (P := (qE f2 g2)) (X := nX) hb ho hnl hR hE mkX11_urgency rfl ckX11 t0 rfl ⟨Nat.le_refl 0, Nat.le_refl 0⟩ rfl (rX11_badness 3 rfl) (rX11_badness 4 rfl) (rX11_badness 5 rfl) rfl (z_dec dX11_badness 19 rfl) (m2 c1) (fun v J2 hp => ?_) (fun _ _ h => h.elim)
    obtain ⟨r2, rfl, e2, w2⟩ := hp
    have e2 := e2.symm
    subst e2
    have w2 := w2.symm
    subst w2
    show ZZ K (0, 0) 54 [(0, .ref 312), (1, .int v1), (2, .int v2)] [.int f2] g2
    refine zz_ineg hb (z_dec dX11_badness 20 rfl) ?_
    exact zz_iret hb hE ⟨Nat.le_refl 0, Nat.le_refl 0⟩ (z_dec dX11_badness 21 rfl) (h3 c1)
  · obtain _ | i := i
    · obtain rfl := Option.some.inj hi
      refine zz_aload_n hb (z_dec dX11_badness 2 rfl) rfl 0 rfl ?_
      refine zz_iload_n hb (z_dec dX11_badness 3 rfl) rfl 1 rfl ?_
      refine zz_iconst (v := (2 : Int32)) hb (z_dec dX11_badness 4 rfl) (by decide) ?_
      refine zz_inv (as := [.int v1, .int (2 : Int32)]) (d := 0) (mc := (0, 0)) (P := (qE f4 g4)) (X := nX) hb ho hnl hR hE mkX11_of rfl ckX11 t0 rfl ⟨Nat.le_refl 0, Nat.le_refl 0⟩ rfl (rX11_badness 0 rfl) (rX11_badness 1 rfl) (rX11_badness 2 rfl) rfl (z_dec dX11_badness 5 rfl) (m4 c1) (fun v J4 hp => ?_) (fun _ _ h => h.elim)
      obtain ⟨r4, rfl, e4, w4⟩ := hp
      have e4 := e4.symm
      subst e4
      have w4 := w4.symm
      subst w4
      show ZZ K (0, 0) 34 [(0, .ref 312), (1, .int v1), (2, .int v2)] [.int f4] g4
      exact zz_iret hb hE ⟨Nat.le_refl 0, Nat.le_refl 0⟩ (z_dec dX11_badness 6 rfl) (h5 c1)
    obtain _ | i := i
    · obtain rfl := Option.some.inj hi
      refine zz_aload_n hb (z_dec dX11_badness 7 rfl) rfl 0 rfl ?_
      refine zz_iload_n hb (z_dec dX11_badness 8 rfl) rfl 1 rfl ?_
      refine zz_iconst (v := (5 : Int32)) hb (z_dec dX11_badness 9 rfl) (by decide) ?_
      refine zz_inv (as := [.int v1, .int (5 : Int32)]) (d := 0) (mc := (0, 0)) (P := (qE f6 g6)) (X := nX) hb ho hnl hR hE mkX11_of rfl ckX11 t0 rfl ⟨Nat.le_refl 0, Nat.le_refl 0⟩ rfl (rX11_badness 0 rfl) (rX11_badness 1 rfl) (rX11_badness 2 rfl) rfl (z_dec dX11_badness 10 rfl) (m6 c1) (fun v J6 hp => ?_) (fun _ _ h => h.elim)
      obtain ⟨r6, rfl, e6, w6⟩ := hp
      have e6 := e6.symm
      subst e6
      have w6 := w6.symm
      subst w6
      show ZZ K (0, 0) 41 [(0, .ref 312), (1, .int v1), (2, .int v2)] [.int f6] g6
      exact zz_iret hb hE ⟨Nat.le_refl 0, Nat.le_refl 0⟩ (z_dec dX11_badness 11 rfl) (h7 c1)
    obtain _ | i := i
    · obtain rfl := Option.some.inj hi
      refine zz_aload_n hb (z_dec dX11_badness 12 rfl) rfl 0 rfl ?_
      refine zz_iload_n hb (z_dec dX11_badness 13 rfl) rfl 1 rfl ?_
      refine zz_iconst (v := (3 : Int32)) hb (z_dec dX11_badness 14 rfl) (by decide) ?_
      refine zz_inv (as := [.int v1, .int (3 : Int32)]) (d := 0) (mc := (0, 0)) (P := (qE f8 g8)) (X := nX) hb ho hnl hR hE mkX11_of rfl ckX11 t0 rfl ⟨Nat.le_refl 0, Nat.le_refl 0⟩ rfl (rX11_badness 0 rfl) (rX11_badness 1 rfl) (rX11_badness 2 rfl) rfl (z_dec dX11_badness 15 rfl) (m8 c1) (fun v J8 hp => ?_) (fun _ _ h => h.elim)
      obtain ⟨r8, rfl, e8, w8⟩ := hp
      have e8 := e8.symm
      subst e8
      have w8 := w8.symm
      subst w8
      show ZZ K (0, 0) 48 [(0, .ref 312), (1, .int v1), (2, .int v2)] [.int f8] g8
      exact zz_iret hb hE ⟨Nat.le_refl 0, Nat.le_refl 0⟩ (z_dec dX11_badness 16 rfl) (h9 c1)
    cases hi
set_option maxRecDepth 20000 in
theorem bX11_best_0 {K : zK} {P : Option Value → zM → Prop} {X : String → zM → Prop} (hK : zIs K RX11 cX11_best 4 (some .int) 5 (0, 0) P X) (hw : wOK (kw K)) {I : zM} (t0 : isT (kw K) 11 312) {v1 : Int32} (k1 : ZZ K (0, 0) 4 [(0, .ref 312), (1, .int v1), (2, .int (-1 : Int32)), (3, .int (0 : Int32))] [] I) : ZZ K (0, 0) 0 [(0, .ref 312), (1, .int v1)] [] I := by
  obtain ⟨hb, ho, hnl, hR, hE⟩ := hK
  refine zz_iconst (v := (-1 : Int32)) hb (z_dec dX11_best 0 rfl) (by decide) ?_
  refine zz_istore_n (L' := [(0, .ref 312), (1, .int v1), (2, .int (-1 : Int32))]) hb (z_dec dX11_best 1 rfl) rfl hnl rfl [1, 2, 0] rfl ?_
  refine zz_iconst (v := (0 : Int32)) hb (z_dec dX11_best 2 rfl) (by decide) ?_
  refine zz_istore_n (L' := [(0, .ref 312), (1, .int v1), (2, .int (-1 : Int32)), (3, .int (0 : Int32))]) hb (z_dec dX11_best 3 rfl) rfl hnl rfl [1, 2, 3, 0] rfl ?_
  exact k1
set_option maxRecDepth 20000 in
theorem bX11_best_4 {K : zK} {P : Option Value → zM → Prop} {X : String → zM → Prop} (hK : zIs K RX11 cX11_best 4 (some .int) 5 (0, 0) P X) (hw : wOK (kw K)) {I : zM} (t0 : isT (kw K) 11 312) {v1 : Int32} {v2 : Int32} {v3 : Int32} (h2 : ∀ (c1 : (I 313 8) ≤ v3), P (some (.int v2)) I) {f3 : Int32} {g3 : zM} (m3 : ∀ (c1 : ¬ (I 313 8) ≤ v3), CT (kG K) (kw K) (kl K) (yX11_isOpen, cX11_isOpen, 2, (some .boolean)) 2 (0, 0) [.ref 312, .int v3] I (qE f3 g3) nX) (k5 : ∀ (c1 : ¬ (I 313 8) ≤ v3) (c4 : f3 = 0), ZZ K (0, 0) 4 [(0, .ref 312), (1, .int v1), (2, .int v2), (3, .int (v3 + 1))] [] g3) (k7 : ∀ (c1 : ¬ (I 313 8) ≤ v3) (c4 : ¬ f3 = 0) (c6 : v2 = (-1 : Int32)), ZZ K (0, 0) 4 [(0, .ref 312), (1, .int v1), (2, .int v3), (3, .int (v3 + 1))] [] g3) {f8 : Int32} {g8 : zM} (m8 : ∀ (c1 : ¬ (I 313 8) ≤ v3) (c4 : ¬ f3 = 0) (c6 : ¬ v2 = (-1 : Int32)), CT (kG K) (kw K) (kl K) (yX11_badness, cX11_badness, 3, (some .int)) 4 (0, 0) [.ref 312, .int v3, .int v1] g3 (qE f8 g8) nX) {f9 : Int32} {g9 : zM} (m9 : ∀ (c1 : ¬ (I 313 8) ≤ v3) (c4 : ¬ f3 = 0) (c6 : ¬ v2 = (-1 : Int32)), CT (kG K) (kw K) (kl K) (yX11_badness, cX11_badness, 3, (some .int)) 4 (0, 0) [.ref 312, .int v2, .int v1] g8 (qE f9 g9) nX) (k11 : ∀ (c1 : ¬ (I 313 8) ≤ v3) (c4 : ¬ f3 = 0) (c6 : ¬ v2 = (-1 : Int32)) (c10 : f9 ≤ f8), ZZ K (0, 0) 4 [(0, .ref 312), (1, .int v1), (2, .int v2), (3, .int (v3 + 1))] [] g9) (k12 : ∀ (c1 : ¬ (I 313 8) ≤ v3) (c4 : ¬ f3 = 0) (c6 : ¬ v2 = (-1 : Int32)) (c10 : ¬ f9 ≤ f8), ZZ K (0, 0) 4 [(0, .ref 312), (1, .int v1), (2, .int v3), (3, .int (v3 + 1))] [] g9) : ZZ K (0, 0) 4 [(0, .ref 312), (1, .int v1), (2, .int v2), (3, .int v3)] [] I := by
  obtain ⟨hb, ho, hnl, hR, hE⟩ := hK
  refine zz_iload_n hb (z_dec dX11_best 4 rfl) rfl 3 rfl ?_
  refine zz_aload_n hb (z_dec dX11_best 5 rfl) rfl 0 rfl ?_
  refine zz_getr (k := 0) (q := 313) hb ho rfl ckX11 t0 rfl rfl (rX11_best 0 rfl) rfl (z_dec dX11_best 6 rfl) ?_
  refine zz_bipush (v := (8 : Int32)) hb (z_dec dX11_best 7 rfl) (by decide) ?_
  refine zz_iald (j := 8) hb (show isT (kw K) 20 313 from isT.f (k := 0) t0 hw rfl rfl rfl (by decide)) rfl (zvi rfl (zin rfl)) (z_dec dX11_best 8 rfl) ?_
  refine zz_icmp_ge (tgt := 51) hb (z_dec dX11_best 9 rfl) (by decide) (fun c1 => ?_) (fun c1 => ?_)
  · refine zz_iload_n hb (z_dec dX11_best 30 rfl) rfl 2 rfl ?_
    exact zz_iret hb hE ⟨Nat.le_refl 0, Nat.le_refl 0⟩ (z_dec dX11_best 31 rfl) (h2 c1)
  · refine zz_aload_n hb (z_dec dX11_best 10 rfl) rfl 0 rfl ?_
    refine zz_iload_n hb (z_dec dX11_best 11 rfl) rfl 3 rfl ?_
    refine zz_inv (as := [.int v3]) (d := 2) (mc := (0, 0)) (P := (qE f3 g3)) (X := nX) hb ho hnl hR hE mkX11_isOpen rfl ckX11 t0 rfl ⟨Nat.le_refl 0, Nat.le_refl 0⟩ rfl (rX11_best 1 rfl) (rX11_best 2 rfl) (rX11_best 3 rfl) rfl (z_dec dX11_best 12 rfl) (m3 c1) (fun v J3 hp => ?_) (fun _ _ h => h.elim)
    obtain ⟨r3, rfl, e3, w3⟩ := hp
    have e3 := e3.symm
    subst e3
    have w3 := w3.symm
    subst w3
    show ZZ K (0, 0) 20 [(0, .ref 312), (1, .int v1), (2, .int v2), (3, .int v3)] [.int f3] g3
    refine zz_if_eq (tgt := 45) hb (z_dec dX11_best 13 rfl) (by decide) (fun c4 => ?_) (fun c4 => ?_)
    · refine zz_iinc (v := (v3 + 1)) (L' := [(0, .ref 312), (1, .int v1), (2, .int v2), (3, .int (v3 + 1))]) hb (z_dec dX11_best 28 rfl) 3 rfl rfl hnl rfl [1, 2, 3, 0] rfl ?_
      refine zz_goto (tgt := 4) hb (z_dec dX11_best 29 rfl) (by decide) ?_
      exact (k5 c1 c4)
    · refine zz_iload_n hb (z_dec dX11_best 14 rfl) rfl 2 rfl ?_
      refine zz_iconst (v := (-1 : Int32)) hb (z_dec dX11_best 15 rfl) (by decide) ?_
      refine zz_icmp_eq (tgt := 43) hb (z_dec dX11_best 16 rfl) (by decide) (fun c6 => ?_) (fun c6 => ?_)
      · refine zz_iload_n hb (z_dec dX11_best 26 rfl) rfl 3 rfl ?_
        refine zz_istore_n (L' := [(0, .ref 312), (1, .int v1), (2, .int v3), (3, .int v3)]) hb (z_dec dX11_best 27 rfl) rfl hnl rfl [1, 2, 0, 3] rfl ?_
        refine zz_iinc (v := (v3 + 1)) (L' := [(0, .ref 312), (1, .int v1), (2, .int v3), (3, .int (v3 + 1))]) hb (z_dec dX11_best 28 rfl) 3 rfl rfl hnl rfl [1, 2, 3, 0] rfl ?_
        refine zz_goto (tgt := 4) hb (z_dec dX11_best 29 rfl) (by decide) ?_
        exact (k7 c1 c4 c6)
      · refine zz_aload_n hb (z_dec dX11_best 17 rfl) rfl 0 rfl ?_
        refine zz_iload_n hb (z_dec dX11_best 18 rfl) rfl 3 rfl ?_
        refine zz_iload_n hb (z_dec dX11_best 19 rfl) rfl 1 rfl ?_
        refine zz_inv (as := [.int v3, .int v1]) (d := 4) (mc := (0, 0)) (P := (qE f8 g8)) (X := nX) hb ho hnl hR hE mkX11_badness rfl ckX11 t0 rfl ⟨Nat.le_refl 0, Nat.le_refl 0⟩ rfl (rX11_best 4 rfl) (rX11_best 5 rfl) (rX11_best 6 rfl) rfl (z_dec dX11_best 20 rfl) (m8 c1 c4 c6) (fun v J8 hp => ?_) (fun _ _ h => h.elim)
        obtain ⟨r8, rfl, e8, w8⟩ := hp
        have e8 := e8.symm
        subst e8
        have w8 := w8.symm
        subst w8
        show ZZ K (0, 0) 34 [(0, .ref 312), (1, .int v1), (2, .int v2), (3, .int v3)] [.int f8] g8
        refine zz_aload_n hb (z_dec dX11_best 21 rfl) rfl 0 rfl ?_
        refine zz_iload_n hb (z_dec dX11_best 22 rfl) rfl 2 rfl ?_
        refine zz_iload_n hb (z_dec dX11_best 23 rfl) rfl 1 rfl ?_
        refine zz_inv (as := [.int v2, .int v1]) (d := 4) (mc := (0, 0)) (P := (qE f9 g9)) (X := nX) hb ho hnl hR hE mkX11_badness rfl ckX11 t0 rfl ⟨Nat.le_refl 0, Nat.le_refl 0⟩ rfl (rX11_best 4 rfl) (rX11_best 5 rfl) (rX11_best 6 rfl) rfl (z_dec dX11_best 24 rfl) (m9 c1 c4 c6) (fun v J9 hp => ?_) (fun _ _ h => h.elim)
        obtain ⟨r9, rfl, e9, w9⟩ := hp
        have e9 := e9.symm
        subst e9
        have w9 := w9.symm
        subst w9
        show ZZ K (0, 0) 40 [(0, .ref 312), (1, .int v1), (2, .int v2), (3, .int v3)] [.int f9, .int f8] g9
        refine zz_icmp_ge (tgt := 45) hb (z_dec dX11_best 25 rfl) (by decide) (fun c10 => ?_) (fun c10 => ?_)
        · refine zz_iinc (v := (v3 + 1)) (L' := [(0, .ref 312), (1, .int v1), (2, .int v2), (3, .int (v3 + 1))]) hb (z_dec dX11_best 28 rfl) 3 rfl rfl hnl rfl [1, 2, 3, 0] rfl ?_
          refine zz_goto (tgt := 4) hb (z_dec dX11_best 29 rfl) (by decide) ?_
          exact (k11 c1 c4 c6 c10)
        · refine zz_iload_n hb (z_dec dX11_best 26 rfl) rfl 3 rfl ?_
          refine zz_istore_n (L' := [(0, .ref 312), (1, .int v1), (2, .int v3), (3, .int v3)]) hb (z_dec dX11_best 27 rfl) rfl hnl rfl [1, 2, 0, 3] rfl ?_
          refine zz_iinc (v := (v3 + 1)) (L' := [(0, .ref 312), (1, .int v1), (2, .int v3), (3, .int (v3 + 1))]) hb (z_dec dX11_best 28 rfl) 3 rfl rfl hnl rfl [1, 2, 3, 0] rfl ?_
          refine zz_goto (tgt := 4) hb (z_dec dX11_best 29 rfl) (by decide) ?_
          exact (k12 c1 c4 c6 c10)
set_option maxRecDepth 20000 in
theorem bX11_nextInTurn_0 {K : zK} {P : Option Value → zM → Prop} {X : String → zM → Prop} (hK : zIs K RX11 cX11_nextInTurn 3 (some .int) 3 (0, 0) P X) (hw : wOK (kw K)) {I : zM} (t0 : isT (kw K) 11 312) (k1 : ZZ K (0, 0) 2 [(0, .ref 312), (1, .int (1 : Int32))] [] I) : ZZ K (0, 0) 0 [(0, .ref 312)] [] I := by
  obtain ⟨hb, ho, hnl, hR, hE⟩ := hK
  refine zz_iconst (v := (1 : Int32)) hb (z_dec dX11_nextInTurn 0 rfl) (by decide) ?_
  refine zz_istore_n (L' := [(0, .ref 312), (1, .int (1 : Int32))]) hb (z_dec dX11_nextInTurn 1 rfl) rfl hnl rfl [1, 0] rfl ?_
  exact k1
set_option maxRecDepth 20000 in
theorem bX11_nextInTurn_2 {K : zK} {P : Option Value → zM → Prop} {X : String → zM → Prop} (hK : zIs K RX11 cX11_nextInTurn 3 (some .int) 3 (0, 0) P X) (hw : wOK (kw K)) {I : zM} (t0 : isT (kw K) 11 312) {v1 : Int32} (h2 : ∀ (c1 : (I 313 8) < v1), P (some (.int (-1 : Int32))) I) (h3 : ∀ (c1 : ¬ (I 313 8) < v1), ¬ (I 313 8) = 0) {f4 : Int32} {g4 : zM} (m4 : ∀ (c1 : ¬ (I 313 8) < v1), CT (kG K) (kw K) (kl K) (yX11_isOpen, cX11_isOpen, 2, (some .boolean)) 2 (0, 0) [.ref 312, .int (((I 313 11) + v1) - ((I 313 11) + v1) / (I 313 8) * (I 313 8))] I (qE f4 g4) nX) (k6 : ∀ (c1 : ¬ (I 313 8) < v1) (c5 : f4 = 0), ZZ K (0, 0) 2 [(0, .ref 312), (1, .int (v1 + 1))] [] g4) (h7 : ∀ (c1 : ¬ (I 313 8) < v1) (c5 : ¬ f4 = 0), P (some (.int (((I 313 11) + v1) - ((I 313 11) + v1) / (I 313 8) * (I 313 8)))) g4) : ZZ K (0, 0) 2 [(0, .ref 312), (1, .int v1)] [] I := by
  obtain ⟨hb, ho, hnl, hR, hE⟩ := hK
  refine zz_iload_n hb (z_dec dX11_nextInTurn 2 rfl) rfl 1 rfl ?_
  refine zz_aload_n hb (z_dec dX11_nextInTurn 3 rfl) rfl 0 rfl ?_
  refine zz_getr (k := 0) (q := 313) hb ho rfl ckX11 t0 rfl rfl (rX11_nextInTurn 0 rfl) rfl (z_dec dX11_nextInTurn 4 rfl) ?_
  refine zz_bipush (v := (8 : Int32)) hb (z_dec dX11_nextInTurn 5 rfl) (by decide) ?_
  refine zz_iald (j := 8) hb (show isT (kw K) 20 313 from isT.f (k := 0) t0 hw rfl rfl rfl (by decide)) rfl (zvi rfl (zin rfl)) (z_dec dX11_nextInTurn 6 rfl) ?_
  refine zz_icmp_gt (tgt := 47) hb (z_dec dX11_nextInTurn 7 rfl) (by decide) (fun c1 => ?_) (fun c1 => ?_)
  · refine zz_iconst (v := (-1 : Int32)) hb (z_dec dX11_nextInTurn 28 rfl) (by decide) ?_
    exact zz_iret hb hE ⟨Nat.le_refl 0, Nat.le_refl 0⟩ (z_dec dX11_nextInTurn 29 rfl) (h2 c1)
  · refine zz_aload_n hb (z_dec dX11_nextInTurn 8 rfl) rfl 0 rfl ?_
    refine zz_getr (k := 0) (q := 313) hb ho rfl ckX11 t0 rfl rfl (rX11_nextInTurn 0 rfl) rfl (z_dec dX11_nextInTurn 9 rfl) ?_
    refine zz_bipush (v := (11 : Int32)) hb (z_dec dX11_nextInTurn 10 rfl) (by decide) ?_
    refine zz_iald (j := 11) hb (show isT (kw K) 20 313 from isT.f (k := 0) t0 hw rfl rfl rfl (by decide)) rfl (zvi rfl (zin rfl)) (z_dec dX11_nextInTurn 11 rfl) ?_
    refine zz_iload_n hb (z_dec dX11_nextInTurn 12 rfl) rfl 1 rfl ?_
    refine zz_iadd hb (z_dec dX11_nextInTurn 13 rfl) ?_
    refine zz_aload_n hb (z_dec dX11_nextInTurn 14 rfl) rfl 0 rfl ?_
    refine zz_getr (k := 0) (q := 313) hb ho rfl ckX11 t0 rfl rfl (rX11_nextInTurn 0 rfl) rfl (z_dec dX11_nextInTurn 15 rfl) ?_
    refine zz_bipush (v := (8 : Int32)) hb (z_dec dX11_nextInTurn 16 rfl) (by decide) ?_
    refine zz_iald (j := 8) hb (show isT (kw K) 20 313 from isT.f (k := 0) t0 hw rfl rfl rfl (by decide)) rfl (zvi rfl (zin rfl)) (z_dec dX11_nextInTurn 17 rfl) ?_
    refine zz_irem hb (z_dec dX11_nextInTurn 18 rfl) (h3 c1) ?_
    refine zz_istore_n (L' := [(0, .ref 312), (1, .int v1), (2, .int (((I 313 11) + v1) - ((I 313 11) + v1) / (I 313 8) * (I 313 8)))]) hb (z_dec dX11_nextInTurn 19 rfl) rfl hnl rfl [1, 2, 0] rfl ?_
    refine zz_aload_n hb (z_dec dX11_nextInTurn 20 rfl) rfl 0 rfl ?_
    refine zz_iload_n hb (z_dec dX11_nextInTurn 21 rfl) rfl 2 rfl ?_
    refine zz_inv (as := [.int (((I 313 11) + v1) - ((I 313 11) + v1) / (I 313 8) * (I 313 8))]) (d := 2) (mc := (0, 0)) (P := (qE f4 g4)) (X := nX) hb ho hnl hR hE mkX11_isOpen rfl ckX11 t0 rfl ⟨Nat.le_refl 0, Nat.le_refl 0⟩ rfl (rX11_nextInTurn 1 rfl) (rX11_nextInTurn 2 rfl) (rX11_nextInTurn 3 rfl) rfl (z_dec dX11_nextInTurn 22 rfl) (m4 c1) (fun v J4 hp => ?_) (fun _ _ h => h.elim)
    obtain ⟨r4, rfl, e4, w4⟩ := hp
    have e4 := e4.symm
    subst e4
    have w4 := w4.symm
    subst w4
    show ZZ K (0, 0) 36 [(0, .ref 312), (1, .int v1), (2, .int (((I 313 11) + v1) - ((I 313 11) + v1) / (I 313 8) * (I 313 8)))] [.int f4] g4
    refine zz_if_eq (tgt := 41) hb (z_dec dX11_nextInTurn 23 rfl) (by decide) (fun c5 => ?_) (fun c5 => ?_)
    · refine zz_iinc (v := (v1 + 1)) (L' := [(0, .ref 312), (1, .int (v1 + 1)), (2, .int (((I 313 11) + v1) - ((I 313 11) + v1) / (I 313 8) * (I 313 8)))]) hb (z_dec dX11_nextInTurn 26 rfl) 1 rfl rfl hnl rfl [1, 0, 2] rfl ?_
      refine zz_goto (tgt := 2) hb (z_dec dX11_nextInTurn 27 rfl) (by decide) ?_
      refine zz_sub [0, 1] (L' := [(0, .ref 312), (1, .int (v1 + 1))]) rfl ?_
      exact (k6 c1 c5)
    · refine zz_iload_n hb (z_dec dX11_nextInTurn 24 rfl) rfl 2 rfl ?_
      exact zz_iret hb hE ⟨Nat.le_refl 0, Nat.le_refl 0⟩ (z_dec dX11_nextInTurn 25 rfl) (h7 c1 c5)
set_option maxRecDepth 20000 in
theorem bX11_select_0 {K : zK} {P : Option Value → zM → Prop} {X : String → zM → Prop} (hK : zIs K RX11 cX11_select 4 (some .int) 6 (0, 0) P X) (hw : wOK (kw K)) {I : zM} (t0 : isT (kw K) 11 312) {v1 : Int32} {f1 : Int32} {g1 : zM} (m1 : CT (kG K) (kw K) (kl K) (yX11_current, cX11_current, 1, (some .int)) 2 (0, 0) [.ref 312] I (qE f1 g1) nX) {f3 : Int32} {g3 : zM} (m3 : ∀ (c2 : v1.toInt < 0 ∨ 4 < v1.toInt), CT (kG K) (kw K) (kl K) (yX11_best, cX11_best, 4, (some .int)) 5 (0, 0) [.ref 312, .int v1] g1 (qE f3 g3) nX) (h5 : ∀ (c2 : v1.toInt < 0 ∨ 4 < v1.toInt) (c4 : f1 = (-1 : Int32)), P (some (.int f3)) g3) {f6 : Int32} {g6 : zM} (m6 : ∀ (c2 : v1.toInt < 0 ∨ 4 < v1.toInt) (c4 : ¬ f1 = (-1 : Int32)), CT (kG K) (kw K) (kl K) (yX11_badness, cX11_badness, 3, (some .int)) 4 (0, 0) [.ref 312, .int f1, .int v1] g3 (qE f6 g6) nX) {f7 : Int32} {g7 : zM} (m7 : ∀ (c2 : v1.toInt < 0 ∨ 4 < v1.toInt) (c4 : ¬ f1 = (-1 : Int32)), CT (kG K) (kw K) (kl K) (yX11_badness, cX11_badness, 3, (some .int)) 4 (0, 0) [.ref 312, .int f3, .int v1] g6 (qE f7 g7) nX) (h9 : ∀ (c2 : v1.toInt < 0 ∨ 4 < v1.toInt) (c4 : ¬ f1 = (-1 : Int32)) (c8 : f7 < f6), P (some (.int f3)) g7) (h10 : ∀ (c2 : v1.toInt < 0 ∨ 4 < v1.toInt) (c4 : ¬ f1 = (-1 : Int32)) (c8 : ¬ f7 < f6), P (some (.int f1)) g7) {f12 : Int32} {g12 : zM} (m12 : ∀ (c2 : v1.toInt = 0) (c11 : f1 = (-1 : Int32)), CT (kG K) (kw K) (kl K) (yX11_best, cX11_best, 4, (some .int)) 5 (0, 0) [.ref 312, .int v1] g1 (qE f12 g12) nX) (h13 : ∀ (c2 : v1.toInt = 0) (c11 : f1 = (-1 : Int32)), P (some (.int f12)) g12) (h14 : ∀ (c2 : v1.toInt = 0) (c11 : ¬ f1 = (-1 : Int32)), P (some (.int f1)) g1) {f15 : Int32} {g15 : zM} (m15 : ∀ (c2 : v1.toInt = 1), CT (kG K) (kw K) (kl K) (yX11_best, cX11_best, 4, (some .int)) 5 (0, 0) [.ref 312, .int v1] g1 (qE f15 g15) nX) (h17 : ∀ (c2 : v1.toInt = 1) (c16 : f1 = (-1 : Int32)), P (some (.int f15)) g15) {f18 : Int32} {g18 : zM} (m18 : ∀ (c2 : v1.toInt = 1) (c16 : ¬ f1 = (-1 : Int32)), CT (kG K) (kw K) (kl K) (yX11_badness, cX11_badness, 3, (some .int)) 4 (0, 0) [.ref 312, .int f1, .int v1] g15 (qE f18 g18) nX) {f19 : Int32} {g19 : zM} (m19 : ∀ (c2 : v1.toInt = 1) (c16 : ¬ f1 = (-1 : Int32)), CT (kG K) (kw K) (kl K) (yX11_badness, cX11_badness, 3, (some .int)) 4 (0, 0) [.ref 312, .int f15, .int v1] g18 (qE f19 g19) nX) (h21 : ∀ (c2 : v1.toInt = 1) (c16 : ¬ f1 = (-1 : Int32)) (c20 : f19 < f18), P (some (.int f15)) g19) (h22 : ∀ (c2 : v1.toInt = 1) (c16 : ¬ f1 = (-1 : Int32)) (c20 : ¬ f19 < f18), P (some (.int f1)) g19) {f23 : Int32} {g23 : zM} (m23 : ∀ (c2 : v1.toInt = 2), CT (kG K) (kw K) (kl K) (yX11_best, cX11_best, 4, (some .int)) 5 (0, 0) [.ref 312, .int v1] g1 (qE f23 g23) nX) (h25 : ∀ (c2 : v1.toInt = 2) (c24 : f1 = (-1 : Int32)), P (some (.int f23)) g23) {f26 : Int32} {g26 : zM} (m26 : ∀ (c2 : v1.toInt = 2) (c24 : ¬ f1 = (-1 : Int32)), CT (kG K) (kw K) (kl K) (yX11_badness, cX11_badness, 3, (some .int)) 4 (0, 0) [.ref 312, .int f1, .int v1] g23 (qE f26 g26) nX) {f27 : Int32} {g27 : zM} (m27 : ∀ (c2 : v1.toInt = 2) (c24 : ¬ f1 = (-1 : Int32)), CT (kG K) (kw K) (kl K) (yX11_badness, cX11_badness, 3, (some .int)) 4 (0, 0) [.ref 312, .int f23, .int v1] g26 (qE f27 g27) nX) (h29 : ∀ (c2 : v1.toInt = 2) (c24 : ¬ f1 = (-1 : Int32)) (c28 : f27 < f26), P (some (.int f23)) g27) (h30 : ∀ (c2 : v1.toInt = 2) (c24 : ¬ f1 = (-1 : Int32)) (c28 : ¬ f27 < f26), P (some (.int f1)) g27) {f32 : Int32} {g32 : zM} (m32 : ∀ (c2 : v1.toInt = 3) (c31 : f1 = (-1 : Int32)), CT (kG K) (kw K) (kl K) (yX11_best, cX11_best, 4, (some .int)) 5 (0, 0) [.ref 312, .int v1] g1 (qE f32 g32) nX) (h33 : ∀ (c2 : v1.toInt = 3) (c31 : f1 = (-1 : Int32)), P (some (.int f32)) g32) (h34 : ∀ (c2 : v1.toInt = 3) (c31 : ¬ f1 = (-1 : Int32)), P (some (.int f1)) g1) (k36 : ∀ (c2 : v1.toInt = 4) (c35 : f1 = (-1 : Int32)), ZZ K (0, 0) 80 [(0, .ref 312), (1, .int v1), (2, .int f1)] [] g1) (k38 : ∀ (c2 : v1.toInt = 4) (c35 : ¬ f1 = (-1 : Int32)) (c37 : (g1 313 4) ≤ (g1 313 12)), ZZ K (0, 0) 80 [(0, .ref 312), (1, .int v1), (2, .int f1)] [] g1) (h39 : ∀ (c2 : v1.toInt = 4) (c35 : ¬ f1 = (-1 : Int32)) (c37 : ¬ (g1 313 4) ≤ (g1 313 12)), P (some (.int f1)) g1) : ZZ K (0, 0) 0 [(0, .ref 312), (1, .int v1)] [] I := by
  obtain ⟨hb, ho, hnl, hR, hE⟩ := hK
  refine zz_aload_n hb (z_dec dX11_select 0 rfl) rfl 0 rfl ?_
  refine zz_inv (as := []) (d := 2) (mc := (0, 0)) (P := (qE f1 g1)) (X := nX) hb ho hnl hR hE mkX11_current rfl ckX11 t0 rfl ⟨Nat.le_refl 0, Nat.le_refl 0⟩ rfl (rX11_select 0 rfl) (rX11_select 1 rfl) (rX11_select 2 rfl) rfl (z_dec dX11_select 1 rfl) m1 (fun v J1 hp => ?_) (fun _ _ h => h.elim)
  obtain ⟨r1, rfl, e1, w1⟩ := hp
  have e1 := e1.symm
  subst e1
  have w1 := w1.symm
  subst w1
  show ZZ K (0, 0) 4 [(0, .ref 312), (1, .int v1)] [.int f1] g1
  refine zz_istore_n (L' := [(0, .ref 312), (1, .int v1), (2, .int f1)]) hb (z_dec dX11_select 2 rfl) rfl hnl rfl [1, 2, 0] rfl ?_
  refine zz_iload_n hb (z_dec dX11_select 3 rfl) rfl 1 rfl ?_
  refine zz_tsw (td := 85) (tg := [40, 85, 85, 40, 55]) hb (z_dec dX11_select 4 rfl) (by decide) rfl (by decide) (fun c2 => ?_) (fun i t hi c2 => ?_)
  · refine zz_aload_n hb (z_dec dX11_select 31 rfl) rfl 0 rfl ?_
    refine zz_iload_n hb (z_dec dX11_select 32 rfl) rfl 1 rfl ?_
    refine zz_inv (as := [.int v1]) (d := 5) (mc := (0, 0)) (P := (qE f3 g3)) (X := nX) hb ho hnl hR hE mkX11_best rfl ckX11 t0 rfl ⟨Nat.le_refl 0, Nat.le_refl 0⟩ rfl (rX11_select 3 rfl) (rX11_select 4 rfl) (rX11_select 5 rfl) rfl (z_dec dX11_select 33 rfl) (m3 c2) (fun v J3 hp => ?_) (fun _ _ h => h.elim)
    obtain ⟨r3, rfl, e3, w3⟩ := hp
    have e3 := e3.symm
    subst e3
    have w3 := w3.symm
    subst w3
    show ZZ K (0, 0) 90 [(0, .ref 312), (1, .int v1), (2, .int f1)] [.int f3] g3
    refine zz_istore_n (L' := [(0, .ref 312), (1, .int v1), (2, .int f1), (3, .int f3)]) hb (z_dec dX11_select 34 rfl) rfl hnl rfl [1, 2, 3, 0] rfl ?_
    refine zz_iload_n hb (z_dec dX11_select 35 rfl) rfl 2 rfl ?_
    refine zz_iconst (v := (-1 : Int32)) hb (z_dec dX11_select 36 rfl) (by decide) ?_
    refine zz_icmp_eq (tgt := 115) hb (z_dec dX11_select 37 rfl) (by decide) (fun c4 => ?_) (fun c4 => ?_)
    · refine zz_iload_n hb (z_dec dX11_select 49 rfl) rfl 3 rfl ?_
      exact zz_iret hb hE ⟨Nat.le_refl 0, Nat.le_refl 0⟩ (z_dec dX11_select 50 rfl) (h5 c2 c4)
    · refine zz_aload_n hb (z_dec dX11_select 38 rfl) rfl 0 rfl ?_
      refine zz_iload_n hb (z_dec dX11_select 39 rfl) rfl 2 rfl ?_
      refine zz_iload_n hb (z_dec dX11_select 40 rfl) rfl 1 rfl ?_
      refine zz_inv (as := [.int f1, .int v1]) (d := 4) (mc := (0, 0)) (P := (qE f6 g6)) (X := nX) hb ho hnl hR hE mkX11_badness rfl ckX11 t0 rfl ⟨Nat.le_refl 0, Nat.le_refl 0⟩ rfl (rX11_select 10 rfl) (rX11_select 11 rfl) (rX11_select 12 rfl) rfl (z_dec dX11_select 41 rfl) (m6 c2 c4) (fun v J6 hp => ?_) (fun _ _ h => h.elim)
      obtain ⟨r6, rfl, e6, w6⟩ := hp
      have e6 := e6.symm
      subst e6
      have w6 := w6.symm
      subst w6
      show ZZ K (0, 0) 102 [(0, .ref 312), (1, .int v1), (2, .int f1), (3, .int f3)] [.int f6] g6
      refine zz_aload_n hb (z_dec dX11_select 42 rfl) rfl 0 rfl ?_
      refine zz_iload_n hb (z_dec dX11_select 43 rfl) rfl 3 rfl ?_
      refine zz_iload_n hb (z_dec dX11_select 44 rfl) rfl 1 rfl ?_
      refine zz_inv (as := [.int f3, .int v1]) (d := 4) (mc := (0, 0)) (P := (qE f7 g7)) (X := nX) hb ho hnl hR hE mkX11_badness rfl ckX11 t0 rfl ⟨Nat.le_refl 0, Nat.le_refl 0⟩ rfl (rX11_select 10 rfl) (rX11_select 11 rfl) (rX11_select 12 rfl) rfl (z_dec dX11_select 45 rfl) (m7 c2 c4) (fun v J7 hp => ?_) (fun _ _ h => h.elim)
      obtain ⟨r7, rfl, e7, w7⟩ := hp
      have e7 := e7.symm
      subst e7
      have w7 := w7.symm
      subst w7
      show ZZ K (0, 0) 108 [(0, .ref 312), (1, .int v1), (2, .int f1), (3, .int f3)] [.int f7, .int f6] g7
      refine zz_icmp_gt (tgt := 115) hb (z_dec dX11_select 46 rfl) (by decide) (fun c8 => ?_) (fun c8 => ?_)
      · refine zz_iload_n hb (z_dec dX11_select 49 rfl) rfl 3 rfl ?_
        exact zz_iret hb hE ⟨Nat.le_refl 0, Nat.le_refl 0⟩ (z_dec dX11_select 50 rfl) (h9 c2 c4 c8)
      · refine zz_iload_n hb (z_dec dX11_select 47 rfl) rfl 2 rfl ?_
        refine zz_goto (tgt := 116) hb (z_dec dX11_select 48 rfl) (by decide) ?_
        exact zz_iret hb hE ⟨Nat.le_refl 0, Nat.le_refl 0⟩ (z_dec dX11_select 50 rfl) (h10 c2 c4 c8)
  · obtain _ | i := i
    · obtain rfl := Option.some.inj hi
      refine zz_iload_n hb (z_dec dX11_select 5 rfl) rfl 2 rfl ?_
      refine zz_iconst (v := (-1 : Int32)) hb (z_dec dX11_select 6 rfl) (by decide) ?_
      refine zz_icmp_eq (tgt := 49) hb (z_dec dX11_select 7 rfl) (by decide) (fun c11 => ?_) (fun c11 => ?_)
      · refine zz_aload_n hb (z_dec dX11_select 10 rfl) rfl 0 rfl ?_
        refine zz_iload_n hb (z_dec dX11_select 11 rfl) rfl 1 rfl ?_
        refine zz_inv (as := [.int v1]) (d := 5) (mc := (0, 0)) (P := (qE f12 g12)) (X := nX) hb ho hnl hR hE mkX11_best rfl ckX11 t0 rfl ⟨Nat.le_refl 0, Nat.le_refl 0⟩ rfl (rX11_select 3 rfl) (rX11_select 4 rfl) (rX11_select 5 rfl) rfl (z_dec dX11_select 12 rfl) (m12 c2 c11) (fun v J12 hp => ?_) (fun _ _ h => h.elim)
        obtain ⟨r12, rfl, e12, w12⟩ := hp
        have e12 := e12.symm
        subst e12
        have w12 := w12.symm
        subst w12
        show ZZ K (0, 0) 54 [(0, .ref 312), (1, .int v1), (2, .int f1)] [.int f12] g12
        exact zz_iret hb hE ⟨Nat.le_refl 0, Nat.le_refl 0⟩ (z_dec dX11_select 13 rfl) (h13 c2 c11)
      · refine zz_iload_n hb (z_dec dX11_select 8 rfl) rfl 2 rfl ?_
        refine zz_goto (tgt := 54) hb (z_dec dX11_select 9 rfl) (by decide) ?_
        exact zz_iret hb hE ⟨Nat.le_refl 0, Nat.le_refl 0⟩ (z_dec dX11_select 13 rfl) (h14 c2 c11)
    obtain _ | i := i
    · obtain rfl := Option.some.inj hi
      refine zz_aload_n hb (z_dec dX11_select 31 rfl) rfl 0 rfl ?_
      refine zz_iload_n hb (z_dec dX11_select 32 rfl) rfl 1 rfl ?_
      refine zz_inv (as := [.int v1]) (d := 5) (mc := (0, 0)) (P := (qE f15 g15)) (X := nX) hb ho hnl hR hE mkX11_best rfl ckX11 t0 rfl ⟨Nat.le_refl 0, Nat.le_refl 0⟩ rfl (rX11_select 3 rfl) (rX11_select 4 rfl) (rX11_select 5 rfl) rfl (z_dec dX11_select 33 rfl) (m15 c2) (fun v J15 hp => ?_) (fun _ _ h => h.elim)
      obtain ⟨r15, rfl, e15, w15⟩ := hp
      have e15 := e15.symm
      subst e15
      have w15 := w15.symm
      subst w15
      show ZZ K (0, 0) 90 [(0, .ref 312), (1, .int v1), (2, .int f1)] [.int f15] g15
      refine zz_istore_n (L' := [(0, .ref 312), (1, .int v1), (2, .int f1), (3, .int f15)]) hb (z_dec dX11_select 34 rfl) rfl hnl rfl [1, 2, 3, 0] rfl ?_
      refine zz_iload_n hb (z_dec dX11_select 35 rfl) rfl 2 rfl ?_
      refine zz_iconst (v := (-1 : Int32)) hb (z_dec dX11_select 36 rfl) (by decide) ?_
      refine zz_icmp_eq (tgt := 115) hb (z_dec dX11_select 37 rfl) (by decide) (fun c16 => ?_) (fun c16 => ?_)
      · refine zz_iload_n hb (z_dec dX11_select 49 rfl) rfl 3 rfl ?_
        exact zz_iret hb hE ⟨Nat.le_refl 0, Nat.le_refl 0⟩ (z_dec dX11_select 50 rfl) (h17 c2 c16)
      · refine zz_aload_n hb (z_dec dX11_select 38 rfl) rfl 0 rfl ?_
        refine zz_iload_n hb (z_dec dX11_select 39 rfl) rfl 2 rfl ?_
        refine zz_iload_n hb (z_dec dX11_select 40 rfl) rfl 1 rfl ?_
        refine zz_inv (as := [.int f1, .int v1]) (d := 4) (mc := (0, 0)) (P := (qE f18 g18)) (X := nX) hb ho hnl hR hE mkX11_badness rfl ckX11 t0 rfl ⟨Nat.le_refl 0, Nat.le_refl 0⟩ rfl (rX11_select 10 rfl) (rX11_select 11 rfl) (rX11_select 12 rfl) rfl (z_dec dX11_select 41 rfl) (m18 c2 c16) (fun v J18 hp => ?_) (fun _ _ h => h.elim)
        obtain ⟨r18, rfl, e18, w18⟩ := hp
        have e18 := e18.symm
        subst e18
        have w18 := w18.symm
        subst w18
        show ZZ K (0, 0) 102 [(0, .ref 312), (1, .int v1), (2, .int f1), (3, .int f15)] [.int f18] g18
        refine zz_aload_n hb (z_dec dX11_select 42 rfl) rfl 0 rfl ?_
        refine zz_iload_n hb (z_dec dX11_select 43 rfl) rfl 3 rfl ?_
        refine zz_iload_n hb (z_dec dX11_select 44 rfl) rfl 1 rfl ?_
        refine zz_inv (as := [.int f15, .int v1]) (d := 4) (mc := (0, 0)) (P := (qE f19 g19)) (X := nX) hb ho hnl hR hE mkX11_badness rfl ckX11 t0 rfl ⟨Nat.le_refl 0, Nat.le_refl 0⟩ rfl (rX11_select 10 rfl) (rX11_select 11 rfl) (rX11_select 12 rfl) rfl (z_dec dX11_select 45 rfl) (m19 c2 c16) (fun v J19 hp => ?_) (fun _ _ h => h.elim)
        obtain ⟨r19, rfl, e19, w19⟩ := hp
        have e19 := e19.symm
        subst e19
        have w19 := w19.symm
        subst w19
        show ZZ K (0, 0) 108 [(0, .ref 312), (1, .int v1), (2, .int f1), (3, .int f15)] [.int f19, .int f18] g19
        refine zz_icmp_gt (tgt := 115) hb (z_dec dX11_select 46 rfl) (by decide) (fun c20 => ?_) (fun c20 => ?_)
        · refine zz_iload_n hb (z_dec dX11_select 49 rfl) rfl 3 rfl ?_
          exact zz_iret hb hE ⟨Nat.le_refl 0, Nat.le_refl 0⟩ (z_dec dX11_select 50 rfl) (h21 c2 c16 c20)
        · refine zz_iload_n hb (z_dec dX11_select 47 rfl) rfl 2 rfl ?_
          refine zz_goto (tgt := 116) hb (z_dec dX11_select 48 rfl) (by decide) ?_
          exact zz_iret hb hE ⟨Nat.le_refl 0, Nat.le_refl 0⟩ (z_dec dX11_select 50 rfl) (h22 c2 c16 c20)
    obtain _ | i := i
    · obtain rfl := Option.some.inj hi
      refine zz_aload_n hb (z_dec dX11_select 31 rfl) rfl 0 rfl ?_
      refine zz_iload_n hb (z_dec dX11_select 32 rfl) rfl 1 rfl ?_
      refine zz_inv (as := [.int v1]) (d := 5) (mc := (0, 0)) (P := (qE f23 g23)) (X := nX) hb ho hnl hR hE mkX11_best rfl ckX11 t0 rfl ⟨Nat.le_refl 0, Nat.le_refl 0⟩ rfl (rX11_select 3 rfl) (rX11_select 4 rfl) (rX11_select 5 rfl) rfl (z_dec dX11_select 33 rfl) (m23 c2) (fun v J23 hp => ?_) (fun _ _ h => h.elim)
      obtain ⟨r23, rfl, e23, w23⟩ := hp
      have e23 := e23.symm
      subst e23
      have w23 := w23.symm
      subst w23
      show ZZ K (0, 0) 90 [(0, .ref 312), (1, .int v1), (2, .int f1)] [.int f23] g23
      refine zz_istore_n (L' := [(0, .ref 312), (1, .int v1), (2, .int f1), (3, .int f23)]) hb (z_dec dX11_select 34 rfl) rfl hnl rfl [1, 2, 3, 0] rfl ?_
      refine zz_iload_n hb (z_dec dX11_select 35 rfl) rfl 2 rfl ?_
      refine zz_iconst (v := (-1 : Int32)) hb (z_dec dX11_select 36 rfl) (by decide) ?_
      refine zz_icmp_eq (tgt := 115) hb (z_dec dX11_select 37 rfl) (by decide) (fun c24 => ?_) (fun c24 => ?_)
      · refine zz_iload_n hb (z_dec dX11_select 49 rfl) rfl 3 rfl ?_
        exact zz_iret hb hE ⟨Nat.le_refl 0, Nat.le_refl 0⟩ (z_dec dX11_select 50 rfl) (h25 c2 c24)
      · refine zz_aload_n hb (z_dec dX11_select 38 rfl) rfl 0 rfl ?_
        refine zz_iload_n hb (z_dec dX11_select 39 rfl) rfl 2 rfl ?_
        refine zz_iload_n hb (z_dec dX11_select 40 rfl) rfl 1 rfl ?_
        refine zz_inv (as := [.int f1, .int v1]) (d := 4) (mc := (0, 0)) (P := (qE f26 g26)) (X := nX) hb ho hnl hR hE mkX11_badness rfl ckX11 t0 rfl ⟨Nat.le_refl 0, Nat.le_refl 0⟩ rfl (rX11_select 10 rfl) (rX11_select 11 rfl) (rX11_select 12 rfl) rfl (z_dec dX11_select 41 rfl) (m26 c2 c24) (fun v J26 hp => ?_) (fun _ _ h => h.elim)
        obtain ⟨r26, rfl, e26, w26⟩ := hp
        have e26 := e26.symm
        subst e26
        have w26 := w26.symm
        subst w26
        show ZZ K (0, 0) 102 [(0, .ref 312), (1, .int v1), (2, .int f1), (3, .int f23)] [.int f26] g26
        refine zz_aload_n hb (z_dec dX11_select 42 rfl) rfl 0 rfl ?_
        refine zz_iload_n hb (z_dec dX11_select 43 rfl) rfl 3 rfl ?_
        refine zz_iload_n hb (z_dec dX11_select 44 rfl) rfl 1 rfl ?_
        refine zz_inv (as := [.int f23, .int v1]) (d := 4) (mc := (0, 0)) (P := (qE f27 g27)) (X := nX) hb ho hnl hR hE mkX11_badness rfl ckX11 t0 rfl ⟨Nat.le_refl 0, Nat.le_refl 0⟩ rfl (rX11_select 10 rfl) (rX11_select 11 rfl) (rX11_select 12 rfl) rfl (z_dec dX11_select 45 rfl) (m27 c2 c24) (fun v J27 hp => ?_) (fun _ _ h => h.elim)
        obtain ⟨r27, rfl, e27, w27⟩ := hp
        have e27 := e27.symm
        subst e27
        have w27 := w27.symm
        subst w27
        show ZZ K (0, 0) 108 [(0, .ref 312), (1, .int v1), (2, .int f1), (3, .int f23)] [.int f27, .int f26] g27
        refine zz_icmp_gt (tgt := 115) hb (z_dec dX11_select 46 rfl) (by decide) (fun c28 => ?_) (fun c28 => ?_)
        · refine zz_iload_n hb (z_dec dX11_select 49 rfl) rfl 3 rfl ?_
          exact zz_iret hb hE ⟨Nat.le_refl 0, Nat.le_refl 0⟩ (z_dec dX11_select 50 rfl) (h29 c2 c24 c28)
        · refine zz_iload_n hb (z_dec dX11_select 47 rfl) rfl 2 rfl ?_
          refine zz_goto (tgt := 116) hb (z_dec dX11_select 48 rfl) (by decide) ?_
          exact zz_iret hb hE ⟨Nat.le_refl 0, Nat.le_refl 0⟩ (z_dec dX11_select 50 rfl) (h30 c2 c24 c28)
    obtain _ | i := i
    · obtain rfl := Option.some.inj hi
      refine zz_iload_n hb (z_dec dX11_select 5 rfl) rfl 2 rfl ?_
      refine zz_iconst (v := (-1 : Int32)) hb (z_dec dX11_select 6 rfl) (by decide) ?_
      refine zz_icmp_eq (tgt := 49) hb (z_dec dX11_select 7 rfl) (by decide) (fun c31 => ?_) (fun c31 => ?_)
      · refine zz_aload_n hb (z_dec dX11_select 10 rfl) rfl 0 rfl ?_
        refine zz_iload_n hb (z_dec dX11_select 11 rfl) rfl 1 rfl ?_
        refine zz_inv (as := [.int v1]) (d := 5) (mc := (0, 0)) (P := (qE f32 g32)) (X := nX) hb ho hnl hR hE mkX11_best rfl ckX11 t0 rfl ⟨Nat.le_refl 0, Nat.le_refl 0⟩ rfl (rX11_select 3 rfl) (rX11_select 4 rfl) (rX11_select 5 rfl) rfl (z_dec dX11_select 12 rfl) (m32 c2 c31) (fun v J32 hp => ?_) (fun _ _ h => h.elim)
        obtain ⟨r32, rfl, e32, w32⟩ := hp
        have e32 := e32.symm
        subst e32
        have w32 := w32.symm
        subst w32
        show ZZ K (0, 0) 54 [(0, .ref 312), (1, .int v1), (2, .int f1)] [.int f32] g32
        exact zz_iret hb hE ⟨Nat.le_refl 0, Nat.le_refl 0⟩ (z_dec dX11_select 13 rfl) (h33 c2 c31)
      · refine zz_iload_n hb (z_dec dX11_select 8 rfl) rfl 2 rfl ?_
        refine zz_goto (tgt := 54) hb (z_dec dX11_select 9 rfl) (by decide) ?_
        exact zz_iret hb hE ⟨Nat.le_refl 0, Nat.le_refl 0⟩ (z_dec dX11_select 13 rfl) (h34 c2 c31)
    obtain _ | i := i
    · obtain rfl := Option.some.inj hi
      refine zz_iload_n hb (z_dec dX11_select 14 rfl) rfl 2 rfl ?_
      refine zz_iconst (v := (-1 : Int32)) hb (z_dec dX11_select 15 rfl) (by decide) ?_
      refine zz_icmp_eq (tgt := 80) hb (z_dec dX11_select 16 rfl) (by decide) (fun c35 => ?_) (fun c35 => ?_)
      · exact (k36 c2 c35)
      · refine zz_aload_n hb (z_dec dX11_select 17 rfl) rfl 0 rfl ?_
        refine zz_getr (k := 0) (q := 313) hb ho rfl ckX11 t0 rfl rfl (rX11_select 6 rfl) rfl (z_dec dX11_select 18 rfl) ?_
        refine zz_bipush (v := (12 : Int32)) hb (z_dec dX11_select 19 rfl) (by decide) ?_
        refine zz_iald (j := 12) hb (show isT (kw K) 20 313 from isT.f (k := 0) t0 hw rfl rfl rfl (by decide)) rfl (zvi rfl (zin rfl)) (z_dec dX11_select 20 rfl) ?_
        refine zz_aload_n hb (z_dec dX11_select 21 rfl) rfl 0 rfl ?_
        refine zz_getr (k := 0) (q := 313) hb ho rfl ckX11 t0 rfl rfl (rX11_select 6 rfl) rfl (z_dec dX11_select 22 rfl) ?_
        refine zz_iconst (v := (4 : Int32)) hb (z_dec dX11_select 23 rfl) (by decide) ?_
        refine zz_iald (j := 4) hb (show isT (kw K) 20 313 from isT.f (k := 0) t0 hw rfl rfl rfl (by decide)) rfl (zvi rfl (zin rfl)) (z_dec dX11_select 24 rfl) ?_
        refine zz_icmp_ge (tgt := 80) hb (z_dec dX11_select 25 rfl) (by decide) (fun c37 => ?_) (fun c37 => ?_)
        · exact (k38 c2 c35 c37)
        · refine zz_iload_n hb (z_dec dX11_select 26 rfl) rfl 2 rfl ?_
          refine zz_goto (tgt := 84) hb (z_dec dX11_select 27 rfl) (by decide) ?_
          exact zz_iret hb hE ⟨Nat.le_refl 0, Nat.le_refl 0⟩ (z_dec dX11_select 30 rfl) (h39 c2 c35 c37)
    cases hi
set_option maxRecDepth 20000 in
theorem bX11_select_80 {K : zK} {P : Option Value → zM → Prop} {X : String → zM → Prop} (hK : zIs K RX11 cX11_select 4 (some .int) 6 (0, 0) P X) (hw : wOK (kw K)) {I : zM} (t0 : isT (kw K) 11 312) {v1 : Int32} {v2 : Int32} {f1 : Int32} {g1 : zM} (m1 : CT (kG K) (kw K) (kl K) (yX11_nextInTurn, cX11_nextInTurn, 3, (some .int)) 3 (0, 0) [.ref 312] I (qE f1 g1) nX) (h2 : P (some (.int f1)) g1) : ZZ K (0, 0) 80 [(0, .ref 312), (1, .int v1), (2, .int v2)] [] I := by
  obtain ⟨hb, ho, hnl, hR, hE⟩ := hK
  refine zz_aload_n hb (z_dec dX11_select 28 rfl) rfl 0 rfl ?_
  refine zz_inv (as := []) (d := 3) (mc := (0, 0)) (P := (qE f1 g1)) (X := nX) hb ho hnl hR hE mkX11_nextInTurn rfl ckX11 t0 rfl ⟨Nat.le_refl 0, Nat.le_refl 0⟩ rfl (rX11_select 7 rfl) (rX11_select 8 rfl) (rX11_select 9 rfl) rfl (z_dec dX11_select 29 rfl) m1 (fun v J1 hp => ?_) (fun _ _ h => h.elim)
  obtain ⟨r1, rfl, e1, w1⟩ := hp
  have e1 := e1.symm
  subst e1
  have w1 := w1.symm
  subst w1
  show ZZ K (0, 0) 84 [(0, .ref 312), (1, .int v1), (2, .int v2)] [.int f1] g1
  exact zz_iret hb hE ⟨Nat.le_refl 0, Nat.le_refl 0⟩ (z_dec dX11_select 30 rfl) h2
set_option maxRecDepth 20000 in
theorem bX11_refill_0 {K : zK} {P : Option Value → zM → Prop} {X : String → zM → Prop} (hK : zIs K RX11 cX11_refill 1 none 0 (0, 0) P X) (hw : wOK (kw K)) {I : zM} (t0 : isT (kw K) 11 312) (h2 : ∀ (c1 : ¬ ((up (up I 313 20 ((I 313 20) + (1 : Int32))) 313 14 (((up I 313 20 ((I 313 20) + (1 : Int32))) 313 14) - (1 : Int32))) 313 14) = 0), P none (up (up I 313 20 ((I 313 20) + (1 : Int32))) 313 14 (((up I 313 20 ((I 313 20) + (1 : Int32))) 313 14) - (1 : Int32)))) (h3 : ∀ (c1 : ((up (up I 313 20 ((I 313 20) + (1 : Int32))) 313 14 (((up I 313 20 ((I 313 20) + (1 : Int32))) 313 14) - (1 : Int32))) 313 14) = 0), P none (up (up (up I 313 20 ((I 313 20) + (1 : Int32))) 313 14 (((up I 313 20 ((I 313 20) + (1 : Int32))) 313 14) - (1 : Int32))) 313 13 ((up (up I 313 20 ((I 313 20) + (1 : Int32))) 313 14 (((up I 313 20 ((I 313 20) + (1 : Int32))) 313 14) - (1 : Int32))) 313 2))) : ZZ K (0, 0) 0 [(0, .ref 312)] [] I := by
  obtain ⟨hb, ho, hnl, hR, hE⟩ := hK
  refine zz_aload_n hb (z_dec dX11_refill 0 rfl) rfl 0 rfl ?_
  refine zz_getr (k := 0) (q := 313) hb ho rfl ckX11 t0 rfl rfl (rX11_refill 0 rfl) rfl (z_dec dX11_refill 1 rfl) ?_
  refine zz_bipush (v := (20 : Int32)) hb (z_dec dX11_refill 2 rfl) (by decide) ?_
  refine zz_dup2 hb (z_dec dX11_refill 3 rfl) rfl rfl ?_
  refine zz_iald (j := 20) hb (show isT (kw K) 20 313 from isT.f (k := 0) t0 hw rfl rfl rfl (by decide)) rfl (zvi rfl (zin rfl)) (z_dec dX11_refill 4 rfl) ?_
  refine zz_iconst (v := (1 : Int32)) hb (z_dec dX11_refill 5 rfl) (by decide) ?_
  refine zz_iadd hb (z_dec dX11_refill 6 rfl) ?_
  refine zz_iast (j := 20) hb (show isT (kw K) 20 313 from isT.f (k := 0) t0 hw rfl rfl rfl (by decide)) rfl (zvi rfl (zin rfl)) (z_dec dX11_refill 7 rfl) ?_
  refine zz_aload_n hb (z_dec dX11_refill 8 rfl) rfl 0 rfl ?_
  refine zz_getr (k := 0) (q := 313) hb ho rfl ckX11 t0 rfl rfl (rX11_refill 0 rfl) rfl (z_dec dX11_refill 9 rfl) ?_
  refine zz_bipush (v := (14 : Int32)) hb (z_dec dX11_refill 10 rfl) (by decide) ?_
  refine zz_dup2 hb (z_dec dX11_refill 11 rfl) rfl rfl ?_
  refine zz_iald (j := 14) hb (show isT (kw K) 20 313 from isT.f (k := 0) t0 hw rfl rfl rfl (by decide)) rfl (zvi rfl (zin rfl)) (z_dec dX11_refill 12 rfl) ?_
  refine zz_iconst (v := (1 : Int32)) hb (z_dec dX11_refill 13 rfl) (by decide) ?_
  refine zz_isub hb (z_dec dX11_refill 14 rfl) ?_
  refine zz_iast (j := 14) hb (show isT (kw K) 20 313 from isT.f (k := 0) t0 hw rfl rfl rfl (by decide)) rfl (zvi rfl (zin rfl)) (z_dec dX11_refill 15 rfl) ?_
  refine zz_aload_n hb (z_dec dX11_refill 16 rfl) rfl 0 rfl ?_
  refine zz_getr (k := 0) (q := 313) hb ho rfl ckX11 t0 rfl rfl (rX11_refill 0 rfl) rfl (z_dec dX11_refill 17 rfl) ?_
  refine zz_bipush (v := (14 : Int32)) hb (z_dec dX11_refill 18 rfl) (by decide) ?_
  refine zz_iald (j := 14) hb (show isT (kw K) 20 313 from isT.f (k := 0) t0 hw rfl rfl rfl (by decide)) rfl (zvi rfl (zin rfl)) (z_dec dX11_refill 19 rfl) ?_
  refine zz_if_ne (tgt := 45) hb (z_dec dX11_refill 20 rfl) (by decide) (fun c1 => ?_) (fun c1 => ?_)
  · exact zz_vret hb hE ⟨Nat.le_refl 0, Nat.le_refl 0⟩ (z_dec dX11_refill 29 rfl) (h2 c1)
  · refine zz_aload_n hb (z_dec dX11_refill 21 rfl) rfl 0 rfl ?_
    refine zz_getr (k := 0) (q := 313) hb ho rfl ckX11 t0 rfl rfl (rX11_refill 0 rfl) rfl (z_dec dX11_refill 22 rfl) ?_
    refine zz_bipush (v := (13 : Int32)) hb (z_dec dX11_refill 23 rfl) (by decide) ?_
    refine zz_aload_n hb (z_dec dX11_refill 24 rfl) rfl 0 rfl ?_
    refine zz_getr (k := 0) (q := 313) hb ho rfl ckX11 t0 rfl rfl (rX11_refill 0 rfl) rfl (z_dec dX11_refill 25 rfl) ?_
    refine zz_iconst (v := (2 : Int32)) hb (z_dec dX11_refill 26 rfl) (by decide) ?_
    refine zz_iald (j := 2) hb (show isT (kw K) 20 313 from isT.f (k := 0) t0 hw rfl rfl rfl (by decide)) rfl (zvi rfl (zin rfl)) (z_dec dX11_refill 27 rfl) ?_
    refine zz_iast (j := 13) hb (show isT (kw K) 20 313 from isT.f (k := 0) t0 hw rfl rfl rfl (by decide)) rfl (zvi rfl (zin rfl)) (z_dec dX11_refill 28 rfl) ?_
    exact zz_vret hb hE ⟨Nat.le_refl 0, Nat.le_refl 0⟩ (z_dec dX11_refill 29 rfl) (h3 c1)
set_option maxRecDepth 20000 in
theorem bX11_write_0 {K : zK} {P : Option Value → zM → Prop} {X : String → zM → Prop} (hK : zIs K RX11 cX11_write 4 none 3 (0, 0) P X) (hw : wOK (kw K)) {I : zM} (t0 : isT (kw K) 11 312) {v1 : Int32} {f1 : Int32} {g1 : zM} (m1 : CT (kG K) (kw K) (kl K) (yX11_current, cX11_current, 1, (some .int)) 2 (0, 0) [.ref 312] I (qE f1 g1) nX) (k3 : ∀ (c2 : f1 = (-1 : Int32)), ZZ K (0, 0) 67 [(0, .ref 312), (1, .int v1), (2, .int f1)] [] g1) (k5 : ∀ (c2 : ¬ f1 = (-1 : Int32)) (c4 : f1 = v1), ZZ K (0, 0) 67 [(0, .ref 312), (1, .int v1), (2, .int f1)] [] g1) {f6 : Int32} {g6 : zM} (m6 : ∀ (c2 : ¬ f1 = (-1 : Int32)) (c4 : ¬ f1 = v1), CT (kG K) (kw K) (kl K) (yX11_of, cX11_of, 3, (some .int)) 0 (0, 0) [.ref 312, .int f1, .int (5 : Int32)] g1 (qE f6 g6) nX) {f7 : Int32} {g7 : zM} (m7 : ∀ (c2 : ¬ f1 = (-1 : Int32)) (c4 : ¬ f1 = v1), CT (kG K) (kw K) (kl K) (yX11_of, cX11_of, 3, (some .int)) 0 (0, 0) [.ref 312, .int f1, .int (1 : Int32)] g6 (qE f7 g7) nX) (k9 : ∀ (c2 : ¬ f1 = (-1 : Int32)) (c4 : ¬ f1 = v1) (c8 : (f6 + (g6 313 6)) ≤ f7), ZZ K (0, 0) 53 [(0, .ref 312), (1, .int v1), (2, .int f1), (3, .int (f6 + (g6 313 6)))] [.int (f6 + (g6 313 6)), .int (5 : Int32), .int f1, .ref 312] g7) {f10 : Int32} {g10 : zM} (m10 : ∀ (c2 : ¬ f1 = (-1 : Int32)) (c4 : ¬ f1 = v1) (c8 : ¬ (f6 + (g6 313 6)) ≤ f7), CT (kG K) (kw K) (kl K) (yX11_of, cX11_of, 3, (some .int)) 0 (0, 0) [.ref 312, .int f1, .int (1 : Int32)] g7 (qE f10 g10) nX) (k11 : ∀ (c2 : ¬ f1 = (-1 : Int32)) (c4 : ¬ f1 = v1) (c8 : ¬ (f6 + (g6 313 6)) ≤ f7), ZZ K (0, 0) 53 [(0, .ref 312), (1, .int v1), (2, .int f1), (3, .int (f6 + (g6 313 6)))] [.int f10, .int (5 : Int32), .int f1, .ref 312] g10) : ZZ K (0, 0) 0 [(0, .ref 312), (1, .int v1)] [] I := by
  obtain ⟨hb, ho, hnl, hR, hE⟩ := hK
  refine zz_aload_n hb (z_dec dX11_write 0 rfl) rfl 0 rfl ?_
  refine zz_inv (as := []) (d := 2) (mc := (0, 0)) (P := (qE f1 g1)) (X := nX) hb ho hnl hR hE mkX11_current rfl ckX11 t0 rfl ⟨Nat.le_refl 0, Nat.le_refl 0⟩ rfl (rX11_write 0 rfl) (rX11_write 1 rfl) (rX11_write 2 rfl) rfl (z_dec dX11_write 1 rfl) m1 (fun v J1 hp => ?_) (fun _ _ h => h.elim)
  obtain ⟨r1, rfl, e1, w1⟩ := hp
  have e1 := e1.symm
  subst e1
  have w1 := w1.symm
  subst w1
  show ZZ K (0, 0) 4 [(0, .ref 312), (1, .int v1)] [.int f1] g1
  refine zz_istore_n (L' := [(0, .ref 312), (1, .int v1), (2, .int f1)]) hb (z_dec dX11_write 2 rfl) rfl hnl rfl [1, 2, 0] rfl ?_
  refine zz_iload_n hb (z_dec dX11_write 3 rfl) rfl 2 rfl ?_
  refine zz_iconst (v := (-1 : Int32)) hb (z_dec dX11_write 4 rfl) (by decide) ?_
  refine zz_icmp_eq (tgt := 67) hb (z_dec dX11_write 5 rfl) (by decide) (fun c2 => ?_) (fun c2 => ?_)
  · exact (k3 c2)
  · refine zz_iload_n hb (z_dec dX11_write 6 rfl) rfl 2 rfl ?_
    refine zz_iload_n hb (z_dec dX11_write 7 rfl) rfl 1 rfl ?_
    refine zz_icmp_eq (tgt := 67) hb (z_dec dX11_write 8 rfl) (by decide) (fun c4 => ?_) (fun c4 => ?_)
    · exact (k5 c2 c4)
    · refine zz_aload_n hb (z_dec dX11_write 9 rfl) rfl 0 rfl ?_
      refine zz_iload_n hb (z_dec dX11_write 10 rfl) rfl 2 rfl ?_
      refine zz_iconst (v := (5 : Int32)) hb (z_dec dX11_write 11 rfl) (by decide) ?_
      refine zz_inv (as := [.int f1, .int (5 : Int32)]) (d := 0) (mc := (0, 0)) (P := (qE f6 g6)) (X := nX) hb ho hnl hR hE mkX11_of rfl ckX11 t0 rfl ⟨Nat.le_refl 0, Nat.le_refl 0⟩ rfl (rX11_write 3 rfl) (rX11_write 4 rfl) (rX11_write 5 rfl) rfl (z_dec dX11_write 12 rfl) (m6 c2 c4) (fun v J6 hp => ?_) (fun _ _ h => h.elim)
      obtain ⟨r6, rfl, e6, w6⟩ := hp
      have e6 := e6.symm
      subst e6
      have w6 := w6.symm
      subst w6
      show ZZ K (0, 0) 21 [(0, .ref 312), (1, .int v1), (2, .int f1)] [.int f6] g6
      refine zz_aload_n hb (z_dec dX11_write 13 rfl) rfl 0 rfl ?_
      refine zz_getr (k := 0) (q := 313) hb ho rfl ckX11 t0 rfl rfl (rX11_write 6 rfl) rfl (z_dec dX11_write 14 rfl) ?_
      refine zz_bipush (v := (6 : Int32)) hb (z_dec dX11_write 15 rfl) (by decide) ?_
      refine zz_iald (j := 6) hb (show isT (kw K) 20 313 from isT.f (k := 0) t0 hw rfl rfl rfl (by decide)) rfl (zvi rfl (zin rfl)) (z_dec dX11_write 16 rfl) ?_
      refine zz_iadd hb (z_dec dX11_write 17 rfl) ?_
      refine zz_istore_n (L' := [(0, .ref 312), (1, .int v1), (2, .int f1), (3, .int (f6 + (g6 313 6)))]) hb (z_dec dX11_write 18 rfl) rfl hnl rfl [1, 2, 3, 0] rfl ?_
      refine zz_aload_n hb (z_dec dX11_write 19 rfl) rfl 0 rfl ?_
      refine zz_iload_n hb (z_dec dX11_write 20 rfl) rfl 2 rfl ?_
      refine zz_iconst (v := (5 : Int32)) hb (z_dec dX11_write 21 rfl) (by decide) ?_
      refine zz_iload_n hb (z_dec dX11_write 22 rfl) rfl 3 rfl ?_
      refine zz_aload_n hb (z_dec dX11_write 23 rfl) rfl 0 rfl ?_
      refine zz_iload_n hb (z_dec dX11_write 24 rfl) rfl 2 rfl ?_
      refine zz_iconst (v := (1 : Int32)) hb (z_dec dX11_write 25 rfl) (by decide) ?_
      refine zz_inv (as := [.int f1, .int (1 : Int32)]) (d := 0) (mc := (0, 0)) (P := (qE f7 g7)) (X := nX) hb ho hnl hR hE mkX11_of rfl ckX11 t0 rfl ⟨Nat.le_refl 0, Nat.le_refl 0⟩ rfl (rX11_write 3 rfl) (rX11_write 4 rfl) (rX11_write 5 rfl) rfl (z_dec dX11_write 26 rfl) (m7 c2 c4) (fun v J7 hp => ?_) (fun _ _ h => h.elim)
      obtain ⟨r7, rfl, e7, w7⟩ := hp
      have e7 := e7.symm
      subst e7
      have w7 := w7.symm
      subst w7
      show ZZ K (0, 0) 40 [(0, .ref 312), (1, .int v1), (2, .int f1), (3, .int (f6 + (g6 313 6)))] [.int f7, .int (f6 + (g6 313 6)), .int (5 : Int32), .int f1, .ref 312] g7
      refine zz_icmp_le (tgt := 52) hb (z_dec dX11_write 27 rfl) (by decide) (fun c8 => ?_) (fun c8 => ?_)
      · refine zz_iload_n hb (z_dec dX11_write 33 rfl) rfl 3 rfl ?_
        exact (k9 c2 c4 c8)
      · refine zz_aload_n hb (z_dec dX11_write 28 rfl) rfl 0 rfl ?_
        refine zz_iload_n hb (z_dec dX11_write 29 rfl) rfl 2 rfl ?_
        refine zz_iconst (v := (1 : Int32)) hb (z_dec dX11_write 30 rfl) (by decide) ?_
        refine zz_inv (as := [.int f1, .int (1 : Int32)]) (d := 0) (mc := (0, 0)) (P := (qE f10 g10)) (X := nX) hb ho hnl hR hE mkX11_of rfl ckX11 t0 rfl ⟨Nat.le_refl 0, Nat.le_refl 0⟩ rfl (rX11_write 3 rfl) (rX11_write 4 rfl) (rX11_write 5 rfl) rfl (z_dec dX11_write 31 rfl) (m10 c2 c4 c8) (fun v J10 hp => ?_) (fun _ _ h => h.elim)
        obtain ⟨r10, rfl, e10, w10⟩ := hp
        have e10 := e10.symm
        subst e10
        have w10 := w10.symm
        subst w10
        show ZZ K (0, 0) 49 [(0, .ref 312), (1, .int v1), (2, .int f1), (3, .int (f6 + (g6 313 6)))] [.int f10, .int (5 : Int32), .int f1, .ref 312] g10
        refine zz_goto (tgt := 53) hb (z_dec dX11_write 32 rfl) (by decide) ?_
        exact (k11 c2 c4 c8)
set_option maxRecDepth 20000 in
theorem bX11_write_53 {K : zK} {P : Option Value → zM → Prop} {X : String → zM → Prop} (hK : zIs K RX11 cX11_write 4 none 3 (0, 0) P X) (hw : wOK (kw K)) {I : zM} (t0 : isT (kw K) 11 312) {v1 : Int32} {v2 : Int32} {v3 : Int32} (ts0 : isT (kw K) 11 312) {vs1 : Int32} {vs2 : Int32} {vs3 : Int32} {g1 : zM} (m1 : CT (kG K) (kw K) (kl K) (yX11_set, cX11_set, 4, none) 0 (0, 0) [.ref 312, .int vs1, .int vs2, .int vs3] I (qV (fun J => J = g1)) nX) (k2 : ZZ K (0, 0) 67 [(0, .ref 312), (1, .int v1), (2, .int v2)] [] (up g1 313 16 ((g1 313 16) + (1 : Int32)))) : ZZ K (0, 0) 53 [(0, .ref 312), (1, .int v1), (2, .int v2), (3, .int v3)] [.int vs3, .int vs2, .int vs1, .ref 312] I := by
  obtain ⟨hb, ho, hnl, hR, hE⟩ := hK
  refine zz_inv (as := [.int vs1, .int vs2, .int vs3]) (d := 0) (mc := (0, 0)) (P := (qV (fun J => J = g1))) (X := nX) hb ho hnl hR hE mkX11_set rfl ckX11 ts0 rfl ⟨Nat.le_refl 0, Nat.le_refl 0⟩ rfl (rX11_write 7 rfl) (rX11_write 8 rfl) (rX11_write 9 rfl) rfl (z_dec dX11_write 34 rfl) m1 (fun v J1 hp => ?_) (fun _ _ h => h.elim)
  obtain ⟨rfl, w1⟩ := hp
  have w1 := w1.symm
  subst w1
  show ZZ K (0, 0) 56 [(0, .ref 312), (1, .int v1), (2, .int v2), (3, .int v3)] [] g1
  refine zz_aload_n hb (z_dec dX11_write 35 rfl) rfl 0 rfl ?_
  refine zz_getr (k := 0) (q := 313) hb ho rfl ckX11 t0 rfl rfl (rX11_write 6 rfl) rfl (z_dec dX11_write 36 rfl) ?_
  refine zz_bipush (v := (16 : Int32)) hb (z_dec dX11_write 37 rfl) (by decide) ?_
  refine zz_dup2 hb (z_dec dX11_write 38 rfl) rfl rfl ?_
  refine zz_iald (j := 16) hb (show isT (kw K) 20 313 from isT.f (k := 0) t0 hw rfl rfl rfl (by decide)) rfl (zvi rfl (zin rfl)) (z_dec dX11_write 39 rfl) ?_
  refine zz_iconst (v := (1 : Int32)) hb (z_dec dX11_write 40 rfl) (by decide) ?_
  refine zz_iadd hb (z_dec dX11_write 41 rfl) ?_
  refine zz_iast (j := 16) hb (show isT (kw K) 20 313 from isT.f (k := 0) t0 hw rfl rfl rfl (by decide)) rfl (zvi rfl (zin rfl)) (z_dec dX11_write 42 rfl) ?_
  refine zz_sub [0, 1, 2] (L' := [(0, .ref 312), (1, .int v1), (2, .int v2)]) rfl ?_
  exact k2
set_option maxRecDepth 20000 in
theorem bX11_write_67 {K : zK} {P : Option Value → zM → Prop} {X : String → zM → Prop} (hK : zIs K RX11 cX11_write 4 none 3 (0, 0) P X) (hw : wOK (kw K)) {I : zM} (t0 : isT (kw K) 11 312) {v1 : Int32} {v2 : Int32} (k2 : ∀ (c1 : ¬ v2 = v1), ZZ K (0, 0) 102 [(0, .ref 312), (1, .int v1), (2, .int v2)] [] I) (k4 : ∀ (c1 : v2 = v1) (c3 : ¬ (I 313 0) = (4 : Int32)), ZZ K (0, 0) 103 [(0, .ref 312), (1, .int v1), (2, .int v2)] [.int (1 : Int32)] I) (k6 : ∀ (c1 : v2 = v1) (c3 : (I 313 0) = (4 : Int32)) (c5 : (I 313 4) ≤ (I 313 12)), ZZ K (0, 0) 102 [(0, .ref 312), (1, .int v1), (2, .int v2)] [] I) (k7 : ∀ (c1 : v2 = v1) (c3 : (I 313 0) = (4 : Int32)) (c5 : ¬ (I 313 4) ≤ (I 313 12)), ZZ K (0, 0) 103 [(0, .ref 312), (1, .int v1), (2, .int v2)] [.int (1 : Int32)] I) : ZZ K (0, 0) 67 [(0, .ref 312), (1, .int v1), (2, .int v2)] [] I := by
  obtain ⟨hb, ho, hnl, hR, hE⟩ := hK
  refine zz_iload_n hb (z_dec dX11_write 43 rfl) rfl 2 rfl ?_
  refine zz_iload_n hb (z_dec dX11_write 44 rfl) rfl 1 rfl ?_
  refine zz_icmp_ne (tgt := 102) hb (z_dec dX11_write 45 rfl) (by decide) (fun c1 => ?_) (fun c1 => ?_)
  · exact (k2 c1)
  · refine zz_aload_n hb (z_dec dX11_write 46 rfl) rfl 0 rfl ?_
    refine zz_getr (k := 0) (q := 313) hb ho rfl ckX11 t0 rfl rfl (rX11_write 6 rfl) rfl (z_dec dX11_write 47 rfl) ?_
    refine zz_iconst (v := (0 : Int32)) hb (z_dec dX11_write 48 rfl) (by decide) ?_
    refine zz_iald (j := 0) hb (show isT (kw K) 20 313 from isT.f (k := 0) t0 hw rfl rfl rfl (by decide)) rfl (zvi rfl (zin rfl)) (z_dec dX11_write 49 rfl) ?_
    refine zz_iconst (v := (4 : Int32)) hb (z_dec dX11_write 50 rfl) (by decide) ?_
    refine zz_icmp_ne (tgt := 98) hb (z_dec dX11_write 51 rfl) (by decide) (fun c3 => ?_) (fun c3 => ?_)
    · refine zz_iconst (v := (1 : Int32)) hb (z_dec dX11_write 61 rfl) (by decide) ?_
      refine zz_goto (tgt := 103) hb (z_dec dX11_write 62 rfl) (by decide) ?_
      exact (k4 c1 c3)
    · refine zz_aload_n hb (z_dec dX11_write 52 rfl) rfl 0 rfl ?_
      refine zz_getr (k := 0) (q := 313) hb ho rfl ckX11 t0 rfl rfl (rX11_write 6 rfl) rfl (z_dec dX11_write 53 rfl) ?_
      refine zz_bipush (v := (12 : Int32)) hb (z_dec dX11_write 54 rfl) (by decide) ?_
      refine zz_iald (j := 12) hb (show isT (kw K) 20 313 from isT.f (k := 0) t0 hw rfl rfl rfl (by decide)) rfl (zvi rfl (zin rfl)) (z_dec dX11_write 55 rfl) ?_
      refine zz_aload_n hb (z_dec dX11_write 56 rfl) rfl 0 rfl ?_
      refine zz_getr (k := 0) (q := 313) hb ho rfl ckX11 t0 rfl rfl (rX11_write 6 rfl) rfl (z_dec dX11_write 57 rfl) ?_
      refine zz_iconst (v := (4 : Int32)) hb (z_dec dX11_write 58 rfl) (by decide) ?_
      refine zz_iald (j := 4) hb (show isT (kw K) 20 313 from isT.f (k := 0) t0 hw rfl rfl rfl (by decide)) rfl (zvi rfl (zin rfl)) (z_dec dX11_write 59 rfl) ?_
      refine zz_icmp_ge (tgt := 102) hb (z_dec dX11_write 60 rfl) (by decide) (fun c5 => ?_) (fun c5 => ?_)
      · exact (k6 c1 c3 c5)
      · refine zz_iconst (v := (1 : Int32)) hb (z_dec dX11_write 61 rfl) (by decide) ?_
        refine zz_goto (tgt := 103) hb (z_dec dX11_write 62 rfl) (by decide) ?_
        exact (k7 c1 c3 c5)
set_option maxRecDepth 20000 in
theorem bX11_write_102 {K : zK} {P : Option Value → zM → Prop} {X : String → zM → Prop} (hK : zIs K RX11 cX11_write 4 none 3 (0, 0) P X) (hw : wOK (kw K)) {I : zM} (t0 : isT (kw K) 11 312) {v1 : Int32} {v2 : Int32} (k1 : ZZ K (0, 0) 103 [(0, .ref 312), (1, .int v1), (2, .int v2)] [.int (0 : Int32)] I) : ZZ K (0, 0) 102 [(0, .ref 312), (1, .int v1), (2, .int v2)] [] I := by
  obtain ⟨hb, ho, hnl, hR, hE⟩ := hK
  refine zz_iconst (v := (0 : Int32)) hb (z_dec dX11_write 63 rfl) (by decide) ?_
  exact k1
set_option maxRecDepth 20000 in
theorem bX11_write_103 {K : zK} {P : Option Value → zM → Prop} {X : String → zM → Prop} (hK : zIs K RX11 cX11_write 4 none 3 (0, 0) P X) (hw : wOK (kw K)) {I : zM} (t0 : isT (kw K) 11 312) {v1 : Int32} {v2 : Int32} {vs0 : Int32} (k2 : ∀ (c1 : vs0 = 0), ZZ K (0, 0) 127 [(0, .ref 312), (1, .int v1), (2, .int v2), (3, .int vs0)] [.int (1 : Int32), .int (12 : Int32), .ref 313] I) (k3 : ∀ (c1 : ¬ vs0 = 0), ZZ K (0, 0) 127 [(0, .ref 312), (1, .int v1), (2, .int v2), (3, .int vs0)] [.int ((I 313 12) + (1 : Int32)), .int (12 : Int32), .ref 313] I) : ZZ K (0, 0) 103 [(0, .ref 312), (1, .int v1), (2, .int v2)] [.int vs0] I := by
  obtain ⟨hb, ho, hnl, hR, hE⟩ := hK
  refine zz_istore_n (L' := [(0, .ref 312), (1, .int v1), (2, .int v2), (3, .int vs0)]) hb (z_dec dX11_write 64 rfl) rfl hnl rfl [1, 2, 3, 0] rfl ?_
  refine zz_aload_n hb (z_dec dX11_write 65 rfl) rfl 0 rfl ?_
  refine zz_getr (k := 0) (q := 313) hb ho rfl ckX11 t0 rfl rfl (rX11_write 6 rfl) rfl (z_dec dX11_write 66 rfl) ?_
  refine zz_bipush (v := (12 : Int32)) hb (z_dec dX11_write 67 rfl) (by decide) ?_
  refine zz_iload_n hb (z_dec dX11_write 68 rfl) rfl 3 rfl ?_
  refine zz_if_eq (tgt := 126) hb (z_dec dX11_write 69 rfl) (by decide) (fun c1 => ?_) (fun c1 => ?_)
  · refine zz_iconst (v := (1 : Int32)) hb (z_dec dX11_write 77 rfl) (by decide) ?_
    exact (k2 c1)
  · refine zz_aload_n hb (z_dec dX11_write 70 rfl) rfl 0 rfl ?_
    refine zz_getr (k := 0) (q := 313) hb ho rfl ckX11 t0 rfl rfl (rX11_write 6 rfl) rfl (z_dec dX11_write 71 rfl) ?_
    refine zz_bipush (v := (12 : Int32)) hb (z_dec dX11_write 72 rfl) (by decide) ?_
    refine zz_iald (j := 12) hb (show isT (kw K) 20 313 from isT.f (k := 0) t0 hw rfl rfl rfl (by decide)) rfl (zvi rfl (zin rfl)) (z_dec dX11_write 73 rfl) ?_
    refine zz_iconst (v := (1 : Int32)) hb (z_dec dX11_write 74 rfl) (by decide) ?_
    refine zz_iadd hb (z_dec dX11_write 75 rfl) ?_
    refine zz_goto (tgt := 127) hb (z_dec dX11_write 76 rfl) (by decide) ?_
    exact (k3 c1)
set_option maxRecDepth 20000 in
theorem bX11_write_127 {K : zK} {P : Option Value → zM → Prop} {X : String → zM → Prop} (hK : zIs K RX11 cX11_write 4 none 3 (0, 0) P X) (hw : wOK (kw K)) {I : zM} (t0 : isT (kw K) 11 312) {v1 : Int32} {v2 : Int32} {v3 : Int32} (ts0 : isT (kw K) 20 313) {vs1 : Int32} {vs2 : Int32} (h1 : vp_in vs1 1600) {f2 : Int32} {g2 : zM} (m2 : CT (kG K) (kw K) (kl K) (yX11_of, cX11_of, 3, (some .int)) 0 (0, 0) [.ref 312, .int v1, .int (5 : Int32)] (up (up I 313 (vs1.toNatClampNeg) vs2) 313 11 v1) (qE f2 g2) nX) {g3 : zM} (m3 : CT (kG K) (kw K) (kl K) (yX11_set, cX11_set, 4, none) 0 (0, 0) [.ref 312, .int v1, .int (5 : Int32), .int (f2 - (1 : Int32))] g2 (qV (fun J => J = g3)) nX) {f4 : Int32} {g4 : zM} (m4 : CT (kG K) (kw K) (kl K) (yX11_of, cX11_of, 3, (some .int)) 0 (0, 0) [.ref 312, .int v1, .int (7 : Int32)] g3 (qE f4 g4) nX) {g5 : zM} (m5 : CT (kG K) (kw K) (kl K) (yX11_set, cX11_set, 4, none) 0 (0, 0) [.ref 312, .int v1, .int (7 : Int32), .int (f4 + (1 : Int32))] g4 (qV (fun J => J = g5)) nX) {f6 : Int32} {g6 : zM} (m6 : CT (kG K) (kw K) (kl K) (yX11_isDone, cX11_isDone, 2, (some .boolean)) 1 (0, 0) [.ref 312, .int v1] (up g5 313 18 ((g5 313 18) + (1 : Int32))) (qE f6 g6) nX) (k8 : ∀ (c7 : f6 = 0), ZZ K (0, 0) 201 [(0, .ref 312), (1, .int v1), (2, .int v2), (3, .int v3)] [] g6) {g9 : zM} (m9 : ∀ (c7 : ¬ f6 = 0), CT (kG K) (kw K) (kl K) (yX11_set, cX11_set, 4, none) 0 (0, 0) [.ref 312, .int v1, .int (6 : Int32), .int ((g6 313 9) + (1 : Int32))] g6 (qV (fun J => J = g9)) nX) (k10 : ∀ (c7 : ¬ f6 = 0), ZZ K (0, 0) 201 [(0, .ref 312), (1, .int v1), (2, .int v2), (3, .int v3)] [] g9) : ZZ K (0, 0) 127 [(0, .ref 312), (1, .int v1), (2, .int v2), (3, .int v3)] [.int vs2, .int vs1, .ref 313] I := by
  obtain ⟨hb, ho, hnl, hR, hE⟩ := hK
  refine zz_iast (j := vs1.toNatClampNeg) hb ts0 rfl (zvi rfl h1) (z_dec dX11_write 78 rfl) ?_
  refine zz_aload_n hb (z_dec dX11_write 79 rfl) rfl 0 rfl ?_
  refine zz_getr (k := 0) (q := 313) hb ho rfl ckX11 t0 rfl rfl (rX11_write 6 rfl) rfl (z_dec dX11_write 80 rfl) ?_
  refine zz_bipush (v := (11 : Int32)) hb (z_dec dX11_write 81 rfl) (by decide) ?_
  refine zz_iload_n hb (z_dec dX11_write 82 rfl) rfl 1 rfl ?_
  refine zz_iast (j := 11) hb (show isT (kw K) 20 313 from isT.f (k := 0) t0 hw rfl rfl rfl (by decide)) rfl (zvi rfl (zin rfl)) (z_dec dX11_write 83 rfl) ?_
  refine zz_aload_n hb (z_dec dX11_write 84 rfl) rfl 0 rfl ?_
  refine zz_iload_n hb (z_dec dX11_write 85 rfl) rfl 1 rfl ?_
  refine zz_iconst (v := (5 : Int32)) hb (z_dec dX11_write 86 rfl) (by decide) ?_
  refine zz_aload_n hb (z_dec dX11_write 87 rfl) rfl 0 rfl ?_
  refine zz_iload_n hb (z_dec dX11_write 88 rfl) rfl 1 rfl ?_
  refine zz_iconst (v := (5 : Int32)) hb (z_dec dX11_write 89 rfl) (by decide) ?_
  refine zz_inv (as := [.int v1, .int (5 : Int32)]) (d := 0) (mc := (0, 0)) (P := (qE f2 g2)) (X := nX) hb ho hnl hR hE mkX11_of rfl ckX11 t0 rfl ⟨Nat.le_refl 0, Nat.le_refl 0⟩ rfl (rX11_write 3 rfl) (rX11_write 4 rfl) (rX11_write 5 rfl) rfl (z_dec dX11_write 90 rfl) m2 (fun v J2 hp => ?_) (fun _ _ h => h.elim)
  obtain ⟨r2, rfl, e2, w2⟩ := hp
  have e2 := e2.symm
  subst e2
  have w2 := w2.symm
  subst w2
  show ZZ K (0, 0) 145 [(0, .ref 312), (1, .int v1), (2, .int v2), (3, .int v3)] [.int f2, .int (5 : Int32), .int v1, .ref 312] g2
  refine zz_iconst (v := (1 : Int32)) hb (z_dec dX11_write 91 rfl) (by decide) ?_
  refine zz_isub hb (z_dec dX11_write 92 rfl) ?_
  refine zz_inv (as := [.int v1, .int (5 : Int32), .int (f2 - (1 : Int32))]) (d := 0) (mc := (0, 0)) (P := (qV (fun J => J = g3))) (X := nX) hb ho hnl hR hE mkX11_set rfl ckX11 t0 rfl ⟨Nat.le_refl 0, Nat.le_refl 0⟩ rfl (rX11_write 7 rfl) (rX11_write 8 rfl) (rX11_write 9 rfl) rfl (z_dec dX11_write 93 rfl) m3 (fun v J3 hp => ?_) (fun _ _ h => h.elim)
  obtain ⟨rfl, w3⟩ := hp
  have w3 := w3.symm
  subst w3
  show ZZ K (0, 0) 150 [(0, .ref 312), (1, .int v1), (2, .int v2), (3, .int v3)] [] g3
  refine zz_aload_n hb (z_dec dX11_write 94 rfl) rfl 0 rfl ?_
  refine zz_iload_n hb (z_dec dX11_write 95 rfl) rfl 1 rfl ?_
  refine zz_bipush (v := (7 : Int32)) hb (z_dec dX11_write 96 rfl) (by decide) ?_
  refine zz_aload_n hb (z_dec dX11_write 97 rfl) rfl 0 rfl ?_
  refine zz_iload_n hb (z_dec dX11_write 98 rfl) rfl 1 rfl ?_
  refine zz_bipush (v := (7 : Int32)) hb (z_dec dX11_write 99 rfl) (by decide) ?_
  refine zz_inv (as := [.int v1, .int (7 : Int32)]) (d := 0) (mc := (0, 0)) (P := (qE f4 g4)) (X := nX) hb ho hnl hR hE mkX11_of rfl ckX11 t0 rfl ⟨Nat.le_refl 0, Nat.le_refl 0⟩ rfl (rX11_write 3 rfl) (rX11_write 4 rfl) (rX11_write 5 rfl) rfl (z_dec dX11_write 100 rfl) m4 (fun v J4 hp => ?_) (fun _ _ h => h.elim)
  obtain ⟨r4, rfl, e4, w4⟩ := hp
  have e4 := e4.symm
  subst e4
  have w4 := w4.symm
  subst w4
  show ZZ K (0, 0) 161 [(0, .ref 312), (1, .int v1), (2, .int v2), (3, .int v3)] [.int f4, .int (7 : Int32), .int v1, .ref 312] g4
  refine zz_iconst (v := (1 : Int32)) hb (z_dec dX11_write 101 rfl) (by decide) ?_
  refine zz_iadd hb (z_dec dX11_write 102 rfl) ?_
  refine zz_inv (as := [.int v1, .int (7 : Int32), .int (f4 + (1 : Int32))]) (d := 0) (mc := (0, 0)) (P := (qV (fun J => J = g5))) (X := nX) hb ho hnl hR hE mkX11_set rfl ckX11 t0 rfl ⟨Nat.le_refl 0, Nat.le_refl 0⟩ rfl (rX11_write 7 rfl) (rX11_write 8 rfl) (rX11_write 9 rfl) rfl (z_dec dX11_write 103 rfl) m5 (fun v J5 hp => ?_) (fun _ _ h => h.elim)
  obtain ⟨rfl, w5⟩ := hp
  have w5 := w5.symm
  subst w5
  show ZZ K (0, 0) 166 [(0, .ref 312), (1, .int v1), (2, .int v2), (3, .int v3)] [] g5
  refine zz_aload_n hb (z_dec dX11_write 104 rfl) rfl 0 rfl ?_
  refine zz_getr (k := 0) (q := 313) hb ho rfl ckX11 t0 rfl rfl (rX11_write 6 rfl) rfl (z_dec dX11_write 105 rfl) ?_
  refine zz_bipush (v := (18 : Int32)) hb (z_dec dX11_write 106 rfl) (by decide) ?_
  refine zz_dup2 hb (z_dec dX11_write 107 rfl) rfl rfl ?_
  refine zz_iald (j := 18) hb (show isT (kw K) 20 313 from isT.f (k := 0) t0 hw rfl rfl rfl (by decide)) rfl (zvi rfl (zin rfl)) (z_dec dX11_write 108 rfl) ?_
  refine zz_iconst (v := (1 : Int32)) hb (z_dec dX11_write 109 rfl) (by decide) ?_
  refine zz_iadd hb (z_dec dX11_write 110 rfl) ?_
  refine zz_iast (j := 18) hb (show isT (kw K) 20 313 from isT.f (k := 0) t0 hw rfl rfl rfl (by decide)) rfl (zvi rfl (zin rfl)) (z_dec dX11_write 111 rfl) ?_
  refine zz_aload_n hb (z_dec dX11_write 112 rfl) rfl 0 rfl ?_
  refine zz_iload_n hb (z_dec dX11_write 113 rfl) rfl 1 rfl ?_
  refine zz_inv (as := [.int v1]) (d := 1) (mc := (0, 0)) (P := (qE f6 g6)) (X := nX) hb ho hnl hR hE mkX11_isDone rfl ckX11 t0 rfl ⟨Nat.le_refl 0, Nat.le_refl 0⟩ rfl (rX11_write 10 rfl) (rX11_write 11 rfl) (rX11_write 12 rfl) rfl (z_dec dX11_write 114 rfl) m6 (fun v J6 hp => ?_) (fun _ _ h => h.elim)
  obtain ⟨r6, rfl, e6, w6⟩ := hp
  have e6 := e6.symm
  subst e6
  have w6 := w6.symm
  subst w6
  show ZZ K (0, 0) 182 [(0, .ref 312), (1, .int v1), (2, .int v2), (3, .int v3)] [.int f6] g6
  refine zz_if_eq (tgt := 201) hb (z_dec dX11_write 115 rfl) (by decide) (fun c7 => ?_) (fun c7 => ?_)
  · exact (k8 c7)
  · refine zz_aload_n hb (z_dec dX11_write 116 rfl) rfl 0 rfl ?_
    refine zz_iload_n hb (z_dec dX11_write 117 rfl) rfl 1 rfl ?_
    refine zz_bipush (v := (6 : Int32)) hb (z_dec dX11_write 118 rfl) (by decide) ?_
    refine zz_aload_n hb (z_dec dX11_write 119 rfl) rfl 0 rfl ?_
    refine zz_getr (k := 0) (q := 313) hb ho rfl ckX11 t0 rfl rfl (rX11_write 6 rfl) rfl (z_dec dX11_write 120 rfl) ?_
    refine zz_bipush (v := (9 : Int32)) hb (z_dec dX11_write 121 rfl) (by decide) ?_
    refine zz_iald (j := 9) hb (show isT (kw K) 20 313 from isT.f (k := 0) t0 hw rfl rfl rfl (by decide)) rfl (zvi rfl (zin rfl)) (z_dec dX11_write 122 rfl) ?_
    refine zz_iconst (v := (1 : Int32)) hb (z_dec dX11_write 123 rfl) (by decide) ?_
    refine zz_iadd hb (z_dec dX11_write 124 rfl) ?_
    refine zz_inv (as := [.int v1, .int (6 : Int32), .int ((g6 313 9) + (1 : Int32))]) (d := 0) (mc := (0, 0)) (P := (qV (fun J => J = g9))) (X := nX) hb ho hnl hR hE mkX11_set rfl ckX11 t0 rfl ⟨Nat.le_refl 0, Nat.le_refl 0⟩ rfl (rX11_write 7 rfl) (rX11_write 8 rfl) (rX11_write 9 rfl) rfl (z_dec dX11_write 125 rfl) (m9 c7) (fun v J9 hp => ?_) (fun _ _ h => h.elim)
    obtain ⟨rfl, w9⟩ := hp
    have w9 := w9.symm
    subst w9
    show ZZ K (0, 0) 201 [(0, .ref 312), (1, .int v1), (2, .int v2), (3, .int v3)] [] g9
    exact (k10 c7)
set_option maxRecDepth 20000 in
theorem bX11_write_201 {K : zK} {P : Option Value → zM → Prop} {X : String → zM → Prop} (hK : zIs K RX11 cX11_write 4 none 3 (0, 0) P X) (hw : wOK (kw K)) {I : zM} (t0 : isT (kw K) 11 312) {v1 : Int32} {v2 : Int32} {v3 : Int32} (h3 : ∀ (c1 : ((up I 313 13 ((I 313 13) - (1 : Int32))) 313 13) ≤ 0) (c2 : ¬ ((up (up I 313 13 ((I 313 13) - (1 : Int32))) 313 14 ((up I 313 13 ((I 313 13) - (1 : Int32))) 313 3)) 313 14) = 0), P none (up (up I 313 13 ((I 313 13) - (1 : Int32))) 313 14 ((up I 313 13 ((I 313 13) - (1 : Int32))) 313 3))) (h4 : ∀ (c1 : ((up I 313 13 ((I 313 13) - (1 : Int32))) 313 13) ≤ 0) (c2 : ((up (up I 313 13 ((I 313 13) - (1 : Int32))) 313 14 ((up I 313 13 ((I 313 13) - (1 : Int32))) 313 3)) 313 14) = 0), P none (up (up (up I 313 13 ((I 313 13) - (1 : Int32))) 313 14 ((up I 313 13 ((I 313 13) - (1 : Int32))) 313 3)) 313 13 ((up (up I 313 13 ((I 313 13) - (1 : Int32))) 313 14 ((up I 313 13 ((I 313 13) - (1 : Int32))) 313 3)) 313 2))) (h5 : ∀ (c1 : ¬ ((up I 313 13 ((I 313 13) - (1 : Int32))) 313 13) ≤ 0), P none (up I 313 13 ((I 313 13) - (1 : Int32)))) : ZZ K (0, 0) 201 [(0, .ref 312), (1, .int v1), (2, .int v2), (3, .int v3)] [] I := by
  obtain ⟨hb, ho, hnl, hR, hE⟩ := hK
  refine zz_aload_n hb (z_dec dX11_write 126 rfl) rfl 0 rfl ?_
  refine zz_getr (k := 0) (q := 313) hb ho rfl ckX11 t0 rfl rfl (rX11_write 6 rfl) rfl (z_dec dX11_write 127 rfl) ?_
  refine zz_bipush (v := (13 : Int32)) hb (z_dec dX11_write 128 rfl) (by decide) ?_
  refine zz_dup2 hb (z_dec dX11_write 129 rfl) rfl rfl ?_
  refine zz_iald (j := 13) hb (show isT (kw K) 20 313 from isT.f (k := 0) t0 hw rfl rfl rfl (by decide)) rfl (zvi rfl (zin rfl)) (z_dec dX11_write 130 rfl) ?_
  refine zz_iconst (v := (1 : Int32)) hb (z_dec dX11_write 131 rfl) (by decide) ?_
  refine zz_isub hb (z_dec dX11_write 132 rfl) ?_
  refine zz_iast (j := 13) hb (show isT (kw K) 20 313 from isT.f (k := 0) t0 hw rfl rfl rfl (by decide)) rfl (zvi rfl (zin rfl)) (z_dec dX11_write 133 rfl) ?_
  refine zz_aload_n hb (z_dec dX11_write 134 rfl) rfl 0 rfl ?_
  refine zz_getr (k := 0) (q := 313) hb ho rfl ckX11 t0 rfl rfl (rX11_write 6 rfl) rfl (z_dec dX11_write 135 rfl) ?_
  refine zz_bipush (v := (13 : Int32)) hb (z_dec dX11_write 136 rfl) (by decide) ?_
  refine zz_iald (j := 13) hb (show isT (kw K) 20 313 from isT.f (k := 0) t0 hw rfl rfl rfl (by decide)) rfl (zvi rfl (zin rfl)) (z_dec dX11_write 137 rfl) ?_
  refine zz_if_le (tgt := 223) hb (z_dec dX11_write 138 rfl) (by decide) (fun c1 => ?_) (fun c1 => ?_)
  · refine zz_aload_n hb (z_dec dX11_write 140 rfl) rfl 0 rfl ?_
    refine zz_getr (k := 0) (q := 313) hb ho rfl ckX11 t0 rfl rfl (rX11_write 6 rfl) rfl (z_dec dX11_write 141 rfl) ?_
    refine zz_bipush (v := (14 : Int32)) hb (z_dec dX11_write 142 rfl) (by decide) ?_
    refine zz_aload_n hb (z_dec dX11_write 143 rfl) rfl 0 rfl ?_
    refine zz_getr (k := 0) (q := 313) hb ho rfl ckX11 t0 rfl rfl (rX11_write 6 rfl) rfl (z_dec dX11_write 144 rfl) ?_
    refine zz_iconst (v := (3 : Int32)) hb (z_dec dX11_write 145 rfl) (by decide) ?_
    refine zz_iald (j := 3) hb (show isT (kw K) 20 313 from isT.f (k := 0) t0 hw rfl rfl rfl (by decide)) rfl (zvi rfl (zin rfl)) (z_dec dX11_write 146 rfl) ?_
    refine zz_iast (j := 14) hb (show isT (kw K) 20 313 from isT.f (k := 0) t0 hw rfl rfl rfl (by decide)) rfl (zvi rfl (zin rfl)) (z_dec dX11_write 147 rfl) ?_
    refine zz_aload_n hb (z_dec dX11_write 148 rfl) rfl 0 rfl ?_
    refine zz_getr (k := 0) (q := 313) hb ho rfl ckX11 t0 rfl rfl (rX11_write 6 rfl) rfl (z_dec dX11_write 149 rfl) ?_
    refine zz_bipush (v := (14 : Int32)) hb (z_dec dX11_write 150 rfl) (by decide) ?_
    refine zz_iald (j := 14) hb (show isT (kw K) 20 313 from isT.f (k := 0) t0 hw rfl rfl rfl (by decide)) rfl (zvi rfl (zin rfl)) (z_dec dX11_write 151 rfl) ?_
    refine zz_if_ne (tgt := 259) hb (z_dec dX11_write 152 rfl) (by decide) (fun c2 => ?_) (fun c2 => ?_)
    · exact zz_vret hb hE ⟨Nat.le_refl 0, Nat.le_refl 0⟩ (z_dec dX11_write 161 rfl) (h3 c1 c2)
    · refine zz_aload_n hb (z_dec dX11_write 153 rfl) rfl 0 rfl ?_
      refine zz_getr (k := 0) (q := 313) hb ho rfl ckX11 t0 rfl rfl (rX11_write 6 rfl) rfl (z_dec dX11_write 154 rfl) ?_
      refine zz_bipush (v := (13 : Int32)) hb (z_dec dX11_write 155 rfl) (by decide) ?_
      refine zz_aload_n hb (z_dec dX11_write 156 rfl) rfl 0 rfl ?_
      refine zz_getr (k := 0) (q := 313) hb ho rfl ckX11 t0 rfl rfl (rX11_write 6 rfl) rfl (z_dec dX11_write 157 rfl) ?_
      refine zz_iconst (v := (2 : Int32)) hb (z_dec dX11_write 158 rfl) (by decide) ?_
      refine zz_iald (j := 2) hb (show isT (kw K) 20 313 from isT.f (k := 0) t0 hw rfl rfl rfl (by decide)) rfl (zvi rfl (zin rfl)) (z_dec dX11_write 159 rfl) ?_
      refine zz_iast (j := 13) hb (show isT (kw K) 20 313 from isT.f (k := 0) t0 hw rfl rfl rfl (by decide)) rfl (zvi rfl (zin rfl)) (z_dec dX11_write 160 rfl) ?_
      exact zz_vret hb hE ⟨Nat.le_refl 0, Nat.le_refl 0⟩ (z_dec dX11_write 161 rfl) (h4 c1 c2)
  · exact zz_vret hb hE ⟨Nat.le_refl 0, Nat.le_refl 0⟩ (z_dec dX11_write 139 rfl) (h5 c1)
set_option maxRecDepth 20000 in
theorem bX11_workOn_0 {K : zK} {P : Option Value → zM → Prop} {X : String → zM → Prop} (hK : zIs K RX11 cX11_workOn 2 none 4 (0, 0) P X) (hw : wOK (kw K)) {I : zM} (t0 : isT (kw K) 11 312) {v1 : Int32} {f1 : Int32} {g1 : zM} (m1 : CT (kG K) (kw K) (kl K) (yX11_of, cX11_of, 3, (some .int)) 0 (0, 0) [.ref 312, .int v1, .int (0 : Int32)] I (qE f1 g1) nX) (k3 : ∀ (c2 : f1 = (g1 313 10)), ZZ K (0, 0) 53 [(0, .ref 312), (1, .int v1)] [] g1) {f4 : Int32} {g4 : zM} (m4 : ∀ (c2 : ¬ f1 = (g1 313 10)), CT (kG K) (kw K) (kl K) (yX11_of, cX11_of, 3, (some .int)) 0 (0, 0) [.ref 312, .int v1, .int (0 : Int32)] g1 (qE f4 g4) nX) (k5 : ∀ (c2 : ¬ f1 = (g1 313 10)), ZZ K (0, 0) 53 [(0, .ref 312), (1, .int v1)] [] (up (up (up g4 313 10 f4) 313 17 (((up g4 313 10 f4) 313 17) + (1 : Int32))) 313 15 ((up (up g4 313 10 f4) 313 17 (((up g4 313 10 f4) 313 17) + (1 : Int32))) 313 1))) : ZZ K (0, 0) 0 [(0, .ref 312), (1, .int v1)] [] I := by
  obtain ⟨hb, ho, hnl, hR, hE⟩ := hK
  refine zz_aload_n hb (z_dec dX11_workOn 0 rfl) rfl 0 rfl ?_
  refine zz_iload_n hb (z_dec dX11_workOn 1 rfl) rfl 1 rfl ?_
  refine zz_iconst (v := (0 : Int32)) hb (z_dec dX11_workOn 2 rfl) (by decide) ?_
  refine zz_inv (as := [.int v1, .int (0 : Int32)]) (d := 0) (mc := (0, 0)) (P := (qE f1 g1)) (X := nX) hb ho hnl hR hE mkX11_of rfl ckX11 t0 rfl ⟨Nat.le_refl 0, Nat.le_refl 0⟩ rfl (rX11_workOn 0 rfl) (rX11_workOn 1 rfl) (rX11_workOn 2 rfl) rfl (z_dec dX11_workOn 3 rfl) m1 (fun v J1 hp => ?_) (fun _ _ h => h.elim)
  obtain ⟨r1, rfl, e1, w1⟩ := hp
  have e1 := e1.symm
  subst e1
  have w1 := w1.symm
  subst w1
  show ZZ K (0, 0) 6 [(0, .ref 312), (1, .int v1)] [.int f1] g1
  refine zz_aload_n hb (z_dec dX11_workOn 4 rfl) rfl 0 rfl ?_
  refine zz_getr (k := 0) (q := 313) hb ho rfl ckX11 t0 rfl rfl (rX11_workOn 3 rfl) rfl (z_dec dX11_workOn 5 rfl) ?_
  refine zz_bipush (v := (10 : Int32)) hb (z_dec dX11_workOn 6 rfl) (by decide) ?_
  refine zz_iald (j := 10) hb (show isT (kw K) 20 313 from isT.f (k := 0) t0 hw rfl rfl rfl (by decide)) rfl (zvi rfl (zin rfl)) (z_dec dX11_workOn 7 rfl) ?_
  refine zz_icmp_eq (tgt := 53) hb (z_dec dX11_workOn 8 rfl) (by decide) (fun c2 => ?_) (fun c2 => ?_)
  · exact (k3 c2)
  · refine zz_aload_n hb (z_dec dX11_workOn 9 rfl) rfl 0 rfl ?_
    refine zz_getr (k := 0) (q := 313) hb ho rfl ckX11 t0 rfl rfl (rX11_workOn 3 rfl) rfl (z_dec dX11_workOn 10 rfl) ?_
    refine zz_bipush (v := (10 : Int32)) hb (z_dec dX11_workOn 11 rfl) (by decide) ?_
    refine zz_aload_n hb (z_dec dX11_workOn 12 rfl) rfl 0 rfl ?_
    refine zz_iload_n hb (z_dec dX11_workOn 13 rfl) rfl 1 rfl ?_
    refine zz_iconst (v := (0 : Int32)) hb (z_dec dX11_workOn 14 rfl) (by decide) ?_
    refine zz_inv (as := [.int v1, .int (0 : Int32)]) (d := 0) (mc := (0, 0)) (P := (qE f4 g4)) (X := nX) hb ho hnl hR hE mkX11_of rfl ckX11 t0 rfl ⟨Nat.le_refl 0, Nat.le_refl 0⟩ rfl (rX11_workOn 0 rfl) (rX11_workOn 1 rfl) (rX11_workOn 2 rfl) rfl (z_dec dX11_workOn 15 rfl) (m4 c2) (fun v J4 hp => ?_) (fun _ _ h => h.elim)
    obtain ⟨r4, rfl, e4, w4⟩ := hp
    have e4 := e4.symm
    subst e4
    have w4 := w4.symm
    subst w4
    show ZZ K (0, 0) 28 [(0, .ref 312), (1, .int v1)] [.int f4, .int (10 : Int32), .ref 313] g4
    refine zz_iast (j := 10) hb (show isT (kw K) 20 313 from isT.f (k := 0) t0 hw rfl rfl rfl (by decide)) rfl (zvi rfl (zin rfl)) (z_dec dX11_workOn 16 rfl) ?_
    refine zz_aload_n hb (z_dec dX11_workOn 17 rfl) rfl 0 rfl ?_
    refine zz_getr (k := 0) (q := 313) hb ho rfl ckX11 t0 rfl rfl (rX11_workOn 3 rfl) rfl (z_dec dX11_workOn 18 rfl) ?_
    refine zz_bipush (v := (17 : Int32)) hb (z_dec dX11_workOn 19 rfl) (by decide) ?_
    refine zz_dup2 hb (z_dec dX11_workOn 20 rfl) rfl rfl ?_
    refine zz_iald (j := 17) hb (show isT (kw K) 20 313 from isT.f (k := 0) t0 hw rfl rfl rfl (by decide)) rfl (zvi rfl (zin rfl)) (z_dec dX11_workOn 21 rfl) ?_
    refine zz_iconst (v := (1 : Int32)) hb (z_dec dX11_workOn 22 rfl) (by decide) ?_
    refine zz_iadd hb (z_dec dX11_workOn 23 rfl) ?_
    refine zz_iast (j := 17) hb (show isT (kw K) 20 313 from isT.f (k := 0) t0 hw rfl rfl rfl (by decide)) rfl (zvi rfl (zin rfl)) (z_dec dX11_workOn 24 rfl) ?_
    refine zz_aload_n hb (z_dec dX11_workOn 25 rfl) rfl 0 rfl ?_
    refine zz_getr (k := 0) (q := 313) hb ho rfl ckX11 t0 rfl rfl (rX11_workOn 3 rfl) rfl (z_dec dX11_workOn 26 rfl) ?_
    refine zz_bipush (v := (15 : Int32)) hb (z_dec dX11_workOn 27 rfl) (by decide) ?_
    refine zz_aload_n hb (z_dec dX11_workOn 28 rfl) rfl 0 rfl ?_
    refine zz_getr (k := 0) (q := 313) hb ho rfl ckX11 t0 rfl rfl (rX11_workOn 3 rfl) rfl (z_dec dX11_workOn 29 rfl) ?_
    refine zz_iconst (v := (1 : Int32)) hb (z_dec dX11_workOn 30 rfl) (by decide) ?_
    refine zz_iald (j := 1) hb (show isT (kw K) 20 313 from isT.f (k := 0) t0 hw rfl rfl rfl (by decide)) rfl (zvi rfl (zin rfl)) (z_dec dX11_workOn 31 rfl) ?_
    refine zz_iast (j := 15) hb (show isT (kw K) 20 313 from isT.f (k := 0) t0 hw rfl rfl rfl (by decide)) rfl (zvi rfl (zin rfl)) (z_dec dX11_workOn 32 rfl) ?_
    exact (k5 c2)
set_option maxRecDepth 20000 in
theorem bX11_workOn_53 {K : zK} {P : Option Value → zM → Prop} {X : String → zM → Prop} (hK : zIs K RX11 cX11_workOn 2 none 4 (0, 0) P X) (hw : wOK (kw K)) {I : zM} (t0 : isT (kw K) 11 312) {v1 : Int32} {g2 : zM} (m2 : ∀ (c1 : (I 313 15) ≤ 0), CT (kG K) (kw K) (kl K) (yX11_write, cX11_write, 4, none) 3 (0, 0) [.ref 312, .int v1] I (qV (fun J => J = g2)) nX) (h3 : ∀ (c1 : (I 313 15) ≤ 0), P none g2) (h4 : ∀ (c1 : ¬ (I 313 15) ≤ 0), P none (up (up I 313 15 ((I 313 15) - (1 : Int32))) 313 21 (((up I 313 15 ((I 313 15) - (1 : Int32))) 313 21) + (1 : Int32)))) : ZZ K (0, 0) 53 [(0, .ref 312), (1, .int v1)] [] I := by
  obtain ⟨hb, ho, hnl, hR, hE⟩ := hK
  refine zz_aload_n hb (z_dec dX11_workOn 33 rfl) rfl 0 rfl ?_
  refine zz_getr (k := 0) (q := 313) hb ho rfl ckX11 t0 rfl rfl (rX11_workOn 3 rfl) rfl (z_dec dX11_workOn 34 rfl) ?_
  refine zz_bipush (v := (15 : Int32)) hb (z_dec dX11_workOn 35 rfl) (by decide) ?_
  refine zz_iald (j := 15) hb (show isT (kw K) 20 313 from isT.f (k := 0) t0 hw rfl rfl rfl (by decide)) rfl (zvi rfl (zin rfl)) (z_dec dX11_workOn 36 rfl) ?_
  refine zz_if_le (tgt := 88) hb (z_dec dX11_workOn 37 rfl) (by decide) (fun c1 => ?_) (fun c1 => ?_)
  · refine zz_aload_n hb (z_dec dX11_workOn 55 rfl) rfl 0 rfl ?_
    refine zz_iload_n hb (z_dec dX11_workOn 56 rfl) rfl 1 rfl ?_
    refine zz_inv (as := [.int v1]) (d := 3) (mc := (0, 0)) (P := (qV (fun J => J = g2))) (X := nX) hb ho hnl hR hE mkX11_write rfl ckX11 t0 rfl ⟨Nat.le_refl 0, Nat.le_refl 0⟩ rfl (rX11_workOn 4 rfl) (rX11_workOn 5 rfl) (rX11_workOn 6 rfl) rfl (z_dec dX11_workOn 57 rfl) (m2 c1) (fun v J2 hp => ?_) (fun _ _ h => h.elim)
    obtain ⟨rfl, w2⟩ := hp
    have w2 := w2.symm
    subst w2
    show ZZ K (0, 0) 93 [(0, .ref 312), (1, .int v1)] [] g2
    exact zz_vret hb hE ⟨Nat.le_refl 0, Nat.le_refl 0⟩ (z_dec dX11_workOn 58 rfl) (h3 c1)
  · refine zz_aload_n hb (z_dec dX11_workOn 38 rfl) rfl 0 rfl ?_
    refine zz_getr (k := 0) (q := 313) hb ho rfl ckX11 t0 rfl rfl (rX11_workOn 3 rfl) rfl (z_dec dX11_workOn 39 rfl) ?_
    refine zz_bipush (v := (15 : Int32)) hb (z_dec dX11_workOn 40 rfl) (by decide) ?_
    refine zz_dup2 hb (z_dec dX11_workOn 41 rfl) rfl rfl ?_
    refine zz_iald (j := 15) hb (show isT (kw K) 20 313 from isT.f (k := 0) t0 hw rfl rfl rfl (by decide)) rfl (zvi rfl (zin rfl)) (z_dec dX11_workOn 42 rfl) ?_
    refine zz_iconst (v := (1 : Int32)) hb (z_dec dX11_workOn 43 rfl) (by decide) ?_
    refine zz_isub hb (z_dec dX11_workOn 44 rfl) ?_
    refine zz_iast (j := 15) hb (show isT (kw K) 20 313 from isT.f (k := 0) t0 hw rfl rfl rfl (by decide)) rfl (zvi rfl (zin rfl)) (z_dec dX11_workOn 45 rfl) ?_
    refine zz_aload_n hb (z_dec dX11_workOn 46 rfl) rfl 0 rfl ?_
    refine zz_getr (k := 0) (q := 313) hb ho rfl ckX11 t0 rfl rfl (rX11_workOn 3 rfl) rfl (z_dec dX11_workOn 47 rfl) ?_
    refine zz_bipush (v := (21 : Int32)) hb (z_dec dX11_workOn 48 rfl) (by decide) ?_
    refine zz_dup2 hb (z_dec dX11_workOn 49 rfl) rfl rfl ?_
    refine zz_iald (j := 21) hb (show isT (kw K) 20 313 from isT.f (k := 0) t0 hw rfl rfl rfl (by decide)) rfl (zvi rfl (zin rfl)) (z_dec dX11_workOn 50 rfl) ?_
    refine zz_iconst (v := (1 : Int32)) hb (z_dec dX11_workOn 51 rfl) (by decide) ?_
    refine zz_iadd hb (z_dec dX11_workOn 52 rfl) ?_
    refine zz_iast (j := 21) hb (show isT (kw K) 20 313 from isT.f (k := 0) t0 hw rfl rfl rfl (by decide)) rfl (zvi rfl (zin rfl)) (z_dec dX11_workOn 53 rfl) ?_
    refine zz_goto (tgt := 93) hb (z_dec dX11_workOn 54 rfl) (by decide) ?_
    exact zz_vret hb hE ⟨Nat.le_refl 0, Nat.le_refl 0⟩ (z_dec dX11_workOn 58 rfl) (h4 c1)
set_option maxRecDepth 20000 in
theorem bX11_passMinute_0 {K : zK} {P : Option Value → zM → Prop} {X : String → zM → Prop} (hK : zIs K RX11 cX11_passMinute 2 none 7 (0, 0) P X) (hw : wOK (kw K)) {I : zM} (t0 : isT (kw K) 11 312) {f3 : Int32} {g3 : zM} (m3 : ∀ (c1 : (I 313 14) ≤ 0) (c2 : (I 313 15) ≤ 0), CT (kG K) (kw K) (kl K) (yX11_select, cX11_select, 4, (some .int)) 6 (0, 0) [.ref 312, .int (I 313 0)] I (qE f3 g3) nX) {g5 : zM} (m5 : ∀ (c1 : (I 313 14) ≤ 0) (c2 : (I 313 15) ≤ 0) (c4 : ¬ f3 = (-1 : Int32)), CT (kG K) (kw K) (kl K) (yX11_workOn, cX11_workOn, 2, none) 4 (0, 0) [.ref 312, .int f3] g3 (qV (fun J => J = g5)) nX) (k6 : ∀ (c1 : (I 313 14) ≤ 0) (c2 : (I 313 15) ≤ 0) (c4 : ¬ f3 = (-1 : Int32)), ZZ K (0, 0) 87 [(0, .ref 312)] [] g5) (k7 : ∀ (c1 : (I 313 14) ≤ 0) (c2 : (I 313 15) ≤ 0) (c4 : f3 = (-1 : Int32)), ZZ K (0, 0) 87 [(0, .ref 312)] [] (up g3 313 19 ((g3 313 19) + (1 : Int32)))) (k8 : ∀ (c1 : (I 313 14) ≤ 0) (c2 : ¬ (I 313 15) ≤ 0), ZZ K (0, 0) 87 [(0, .ref 312)] [] (up (up I 313 15 ((I 313 15) - (1 : Int32))) 313 21 (((up I 313 15 ((I 313 15) - (1 : Int32))) 313 21) + (1 : Int32)))) {g9 : zM} (m9 : ∀ (c1 : ¬ (I 313 14) ≤ 0), CT (kG K) (kw K) (kl K) (yX11_refill, cX11_refill, 1, none) 0 (0, 0) [.ref 312] I (qV (fun J => J = g9)) nX) (k10 : ∀ (c1 : ¬ (I 313 14) ≤ 0), ZZ K (0, 0) 87 [(0, .ref 312)] [] g9) : ZZ K (0, 0) 0 [(0, .ref 312)] [] I := by
  obtain ⟨hb, ho, hnl, hR, hE⟩ := hK
  refine zz_aload_n hb (z_dec dX11_passMinute 0 rfl) rfl 0 rfl ?_
  refine zz_getr (k := 0) (q := 313) hb ho rfl ckX11 t0 rfl rfl (rX11_passMinute 0 rfl) rfl (z_dec dX11_passMinute 1 rfl) ?_
  refine zz_bipush (v := (14 : Int32)) hb (z_dec dX11_passMinute 2 rfl) (by decide) ?_
  refine zz_iald (j := 14) hb (show isT (kw K) 20 313 from isT.f (k := 0) t0 hw rfl rfl rfl (by decide)) rfl (zvi rfl (zin rfl)) (z_dec dX11_passMinute 3 rfl) ?_
  refine zz_if_le (tgt := 17) hb (z_dec dX11_passMinute 4 rfl) (by decide) (fun c1 => ?_) (fun c1 => ?_)
  · refine zz_aload_n hb (z_dec dX11_passMinute 8 rfl) rfl 0 rfl ?_
    refine zz_getr (k := 0) (q := 313) hb ho rfl ckX11 t0 rfl rfl (rX11_passMinute 0 rfl) rfl (z_dec dX11_passMinute 9 rfl) ?_
    refine zz_bipush (v := (15 : Int32)) hb (z_dec dX11_passMinute 10 rfl) (by decide) ?_
    refine zz_iald (j := 15) hb (show isT (kw K) 20 313 from isT.f (k := 0) t0 hw rfl rfl rfl (by decide)) rfl (zvi rfl (zin rfl)) (z_dec dX11_passMinute 11 rfl) ?_
    refine zz_if_le (tgt := 52) hb (z_dec dX11_passMinute 12 rfl) (by decide) (fun c2 => ?_) (fun c2 => ?_)
    · refine zz_aload_n hb (z_dec dX11_passMinute 30 rfl) rfl 0 rfl ?_
      refine zz_aload_n hb (z_dec dX11_passMinute 31 rfl) rfl 0 rfl ?_
      refine zz_getr (k := 0) (q := 313) hb ho rfl ckX11 t0 rfl rfl (rX11_passMinute 0 rfl) rfl (z_dec dX11_passMinute 32 rfl) ?_
      refine zz_iconst (v := (0 : Int32)) hb (z_dec dX11_passMinute 33 rfl) (by decide) ?_
      refine zz_iald (j := 0) hb (show isT (kw K) 20 313 from isT.f (k := 0) t0 hw rfl rfl rfl (by decide)) rfl (zvi rfl (zin rfl)) (z_dec dX11_passMinute 34 rfl) ?_
      refine zz_inv (as := [.int (I 313 0)]) (d := 6) (mc := (0, 0)) (P := (qE f3 g3)) (X := nX) hb ho hnl hR hE mkX11_select rfl ckX11 t0 rfl ⟨Nat.le_refl 0, Nat.le_refl 0⟩ rfl (rX11_passMinute 4 rfl) (rX11_passMinute 5 rfl) (rX11_passMinute 6 rfl) rfl (z_dec dX11_passMinute 35 rfl) (m3 c1 c2) (fun v J3 hp => ?_) (fun _ _ h => h.elim)
      obtain ⟨r3, rfl, e3, w3⟩ := hp
      have e3 := e3.symm
      subst e3
      have w3 := w3.symm
      subst w3
      show ZZ K (0, 0) 62 [(0, .ref 312)] [.int f3] g3
      refine zz_istore_n (L' := [(0, .ref 312), (1, .int f3)]) hb (z_dec dX11_passMinute 36 rfl) rfl hnl rfl [1, 0] rfl ?_
      refine zz_iload_n hb (z_dec dX11_passMinute 37 rfl) rfl 1 rfl ?_
      refine zz_iconst (v := (-1 : Int32)) hb (z_dec dX11_passMinute 38 rfl) (by decide) ?_
      refine zz_icmp_ne (tgt := 82) hb (z_dec dX11_passMinute 39 rfl) (by decide) (fun c4 => ?_) (fun c4 => ?_)
      · refine zz_aload_n hb (z_dec dX11_passMinute 49 rfl) rfl 0 rfl ?_
        refine zz_iload_n hb (z_dec dX11_passMinute 50 rfl) rfl 1 rfl ?_
        refine zz_inv (as := [.int f3]) (d := 4) (mc := (0, 0)) (P := (qV (fun J => J = g5))) (X := nX) hb ho hnl hR hE mkX11_workOn rfl ckX11 t0 rfl ⟨Nat.le_refl 0, Nat.le_refl 0⟩ rfl (rX11_passMinute 7 rfl) (rX11_passMinute 8 rfl) (rX11_passMinute 9 rfl) rfl (z_dec dX11_passMinute 51 rfl) (m5 c1 c2 c4) (fun v J5 hp => ?_) (fun _ _ h => h.elim)
        obtain ⟨rfl, w5⟩ := hp
        have w5 := w5.symm
        subst w5
        show ZZ K (0, 0) 87 [(0, .ref 312), (1, .int f3)] [] g5
        refine zz_sub [0] (L' := [(0, .ref 312)]) rfl ?_
        exact (k6 c1 c2 c4)
      · refine zz_aload_n hb (z_dec dX11_passMinute 40 rfl) rfl 0 rfl ?_
        refine zz_getr (k := 0) (q := 313) hb ho rfl ckX11 t0 rfl rfl (rX11_passMinute 0 rfl) rfl (z_dec dX11_passMinute 41 rfl) ?_
        refine zz_bipush (v := (19 : Int32)) hb (z_dec dX11_passMinute 42 rfl) (by decide) ?_
        refine zz_dup2 hb (z_dec dX11_passMinute 43 rfl) rfl rfl ?_
        refine zz_iald (j := 19) hb (show isT (kw K) 20 313 from isT.f (k := 0) t0 hw rfl rfl rfl (by decide)) rfl (zvi rfl (zin rfl)) (z_dec dX11_passMinute 44 rfl) ?_
        refine zz_iconst (v := (1 : Int32)) hb (z_dec dX11_passMinute 45 rfl) (by decide) ?_
        refine zz_iadd hb (z_dec dX11_passMinute 46 rfl) ?_
        refine zz_iast (j := 19) hb (show isT (kw K) 20 313 from isT.f (k := 0) t0 hw rfl rfl rfl (by decide)) rfl (zvi rfl (zin rfl)) (z_dec dX11_passMinute 47 rfl) ?_
        refine zz_goto (tgt := 87) hb (z_dec dX11_passMinute 48 rfl) (by decide) ?_
        refine zz_sub [0] (L' := [(0, .ref 312)]) rfl ?_
        exact (k7 c1 c2 c4)
    · refine zz_aload_n hb (z_dec dX11_passMinute 13 rfl) rfl 0 rfl ?_
      refine zz_getr (k := 0) (q := 313) hb ho rfl ckX11 t0 rfl rfl (rX11_passMinute 0 rfl) rfl (z_dec dX11_passMinute 14 rfl) ?_
      refine zz_bipush (v := (15 : Int32)) hb (z_dec dX11_passMinute 15 rfl) (by decide) ?_
      refine zz_dup2 hb (z_dec dX11_passMinute 16 rfl) rfl rfl ?_
      refine zz_iald (j := 15) hb (show isT (kw K) 20 313 from isT.f (k := 0) t0 hw rfl rfl rfl (by decide)) rfl (zvi rfl (zin rfl)) (z_dec dX11_passMinute 17 rfl) ?_
      refine zz_iconst (v := (1 : Int32)) hb (z_dec dX11_passMinute 18 rfl) (by decide) ?_
      refine zz_isub hb (z_dec dX11_passMinute 19 rfl) ?_
      refine zz_iast (j := 15) hb (show isT (kw K) 20 313 from isT.f (k := 0) t0 hw rfl rfl rfl (by decide)) rfl (zvi rfl (zin rfl)) (z_dec dX11_passMinute 20 rfl) ?_
      refine zz_aload_n hb (z_dec dX11_passMinute 21 rfl) rfl 0 rfl ?_
      refine zz_getr (k := 0) (q := 313) hb ho rfl ckX11 t0 rfl rfl (rX11_passMinute 0 rfl) rfl (z_dec dX11_passMinute 22 rfl) ?_
      refine zz_bipush (v := (21 : Int32)) hb (z_dec dX11_passMinute 23 rfl) (by decide) ?_
      refine zz_dup2 hb (z_dec dX11_passMinute 24 rfl) rfl rfl ?_
      refine zz_iald (j := 21) hb (show isT (kw K) 20 313 from isT.f (k := 0) t0 hw rfl rfl rfl (by decide)) rfl (zvi rfl (zin rfl)) (z_dec dX11_passMinute 25 rfl) ?_
      refine zz_iconst (v := (1 : Int32)) hb (z_dec dX11_passMinute 26 rfl) (by decide) ?_
      refine zz_iadd hb (z_dec dX11_passMinute 27 rfl) ?_
      refine zz_iast (j := 21) hb (show isT (kw K) 20 313 from isT.f (k := 0) t0 hw rfl rfl rfl (by decide)) rfl (zvi rfl (zin rfl)) (z_dec dX11_passMinute 28 rfl) ?_
      refine zz_goto (tgt := 87) hb (z_dec dX11_passMinute 29 rfl) (by decide) ?_
      exact (k8 c1 c2)
  · refine zz_aload_n hb (z_dec dX11_passMinute 5 rfl) rfl 0 rfl ?_
    refine zz_inv (as := []) (d := 0) (mc := (0, 0)) (P := (qV (fun J => J = g9))) (X := nX) hb ho hnl hR hE mkX11_refill rfl ckX11 t0 rfl ⟨Nat.le_refl 0, Nat.le_refl 0⟩ rfl (rX11_passMinute 1 rfl) (rX11_passMinute 2 rfl) (rX11_passMinute 3 rfl) rfl (z_dec dX11_passMinute 6 rfl) (m9 c1) (fun v J9 hp => ?_) (fun _ _ h => h.elim)
    obtain ⟨rfl, w9⟩ := hp
    have w9 := w9.symm
    subst w9
    show ZZ K (0, 0) 14 [(0, .ref 312)] [] g9
    refine zz_goto (tgt := 87) hb (z_dec dX11_passMinute 7 rfl) (by decide) ?_
    exact (k10 c1)
set_option maxRecDepth 20000 in
theorem bX11_passMinute_87 {K : zK} {P : Option Value → zM → Prop} {X : String → zM → Prop} (hK : zIs K RX11 cX11_passMinute 2 none 7 (0, 0) P X) (hw : wOK (kw K)) {I : zM} (t0 : isT (kw K) 11 312) (h1 : P none (up I 313 9 ((I 313 9) + (1 : Int32)))) : ZZ K (0, 0) 87 [(0, .ref 312)] [] I := by
  obtain ⟨hb, ho, hnl, hR, hE⟩ := hK
  refine zz_aload_n hb (z_dec dX11_passMinute 52 rfl) rfl 0 rfl ?_
  refine zz_getr (k := 0) (q := 313) hb ho rfl ckX11 t0 rfl rfl (rX11_passMinute 0 rfl) rfl (z_dec dX11_passMinute 53 rfl) ?_
  refine zz_bipush (v := (9 : Int32)) hb (z_dec dX11_passMinute 54 rfl) (by decide) ?_
  refine zz_dup2 hb (z_dec dX11_passMinute 55 rfl) rfl rfl ?_
  refine zz_iald (j := 9) hb (show isT (kw K) 20 313 from isT.f (k := 0) t0 hw rfl rfl rfl (by decide)) rfl (zvi rfl (zin rfl)) (z_dec dX11_passMinute 56 rfl) ?_
  refine zz_iconst (v := (1 : Int32)) hb (z_dec dX11_passMinute 57 rfl) (by decide) ?_
  refine zz_iadd hb (z_dec dX11_passMinute 58 rfl) ?_
  refine zz_iast (j := 9) hb (show isT (kw K) 20 313 from isT.f (k := 0) t0 hw rfl rfl rfl (by decide)) rfl (zvi rfl (zin rfl)) (z_dec dX11_passMinute 59 rfl) ?_
  exact zz_vret hb hE ⟨Nat.le_refl 0, Nat.le_refl 0⟩ (z_dec dX11_passMinute 60 rfl) h1
set_option maxRecDepth 20000 in
theorem bX11_doneCount_0 {K : zK} {P : Option Value → zM → Prop} {X : String → zM → Prop} (hK : zIs K RX11 cX11_doneCount 3 (some .int) 2 (0, 0) P X) (hw : wOK (kw K)) {I : zM} (t0 : isT (kw K) 11 312) (k1 : ZZ K (0, 0) 4 [(0, .ref 312), (1, .int (0 : Int32)), (2, .int (0 : Int32))] [] I) : ZZ K (0, 0) 0 [(0, .ref 312)] [] I := by
  obtain ⟨hb, ho, hnl, hR, hE⟩ := hK
  refine zz_iconst (v := (0 : Int32)) hb (z_dec dX11_doneCount 0 rfl) (by decide) ?_
  refine zz_istore_n (L' := [(0, .ref 312), (1, .int (0 : Int32))]) hb (z_dec dX11_doneCount 1 rfl) rfl hnl rfl [1, 0] rfl ?_
  refine zz_iconst (v := (0 : Int32)) hb (z_dec dX11_doneCount 2 rfl) (by decide) ?_
  refine zz_istore_n (L' := [(0, .ref 312), (1, .int (0 : Int32)), (2, .int (0 : Int32))]) hb (z_dec dX11_doneCount 3 rfl) rfl hnl rfl [1, 2, 0] rfl ?_
  exact k1
set_option maxRecDepth 20000 in
theorem bX11_doneCount_4 {K : zK} {P : Option Value → zM → Prop} {X : String → zM → Prop} (hK : zIs K RX11 cX11_doneCount 3 (some .int) 2 (0, 0) P X) (hw : wOK (kw K)) {I : zM} (t0 : isT (kw K) 11 312) {v1 : Int32} {v2 : Int32} (h2 : ∀ (c1 : (I 313 8) ≤ v2), P (some (.int v1)) I) {f3 : Int32} {g3 : zM} (m3 : ∀ (c1 : ¬ (I 313 8) ≤ v2), CT (kG K) (kw K) (kl K) (yX11_isDone, cX11_isDone, 2, (some .boolean)) 1 (0, 0) [.ref 312, .int v2] I (qE f3 g3) nX) (k5 : ∀ (c1 : ¬ (I 313 8) ≤ v2) (c4 : f3 = 0), ZZ K (0, 0) 4 [(0, .ref 312), (1, .int (v1 + (0 : Int32))), (2, .int (v2 + 1))] [] g3) (k6 : ∀ (c1 : ¬ (I 313 8) ≤ v2) (c4 : ¬ f3 = 0), ZZ K (0, 0) 4 [(0, .ref 312), (1, .int (v1 + (1 : Int32))), (2, .int (v2 + 1))] [] g3) : ZZ K (0, 0) 4 [(0, .ref 312), (1, .int v1), (2, .int v2)] [] I := by
  obtain ⟨hb, ho, hnl, hR, hE⟩ := hK
  refine zz_iload_n hb (z_dec dX11_doneCount 4 rfl) rfl 2 rfl ?_
  refine zz_aload_n hb (z_dec dX11_doneCount 5 rfl) rfl 0 rfl ?_
  refine zz_getr (k := 0) (q := 313) hb ho rfl ckX11 t0 rfl rfl (rX11_doneCount 0 rfl) rfl (z_dec dX11_doneCount 6 rfl) ?_
  refine zz_bipush (v := (8 : Int32)) hb (z_dec dX11_doneCount 7 rfl) (by decide) ?_
  refine zz_iald (j := 8) hb (show isT (kw K) 20 313 from isT.f (k := 0) t0 hw rfl rfl rfl (by decide)) rfl (zvi rfl (zin rfl)) (z_dec dX11_doneCount 8 rfl) ?_
  refine zz_icmp_ge (tgt := 37) hb (z_dec dX11_doneCount 9 rfl) (by decide) (fun c1 => ?_) (fun c1 => ?_)
  · refine zz_iload_n hb (z_dec dX11_doneCount 22 rfl) rfl 1 rfl ?_
    exact zz_iret hb hE ⟨Nat.le_refl 0, Nat.le_refl 0⟩ (z_dec dX11_doneCount 23 rfl) (h2 c1)
  · refine zz_iload_n hb (z_dec dX11_doneCount 10 rfl) rfl 1 rfl ?_
    refine zz_aload_n hb (z_dec dX11_doneCount 11 rfl) rfl 0 rfl ?_
    refine zz_iload_n hb (z_dec dX11_doneCount 12 rfl) rfl 2 rfl ?_
    refine zz_inv (as := [.int v2]) (d := 1) (mc := (0, 0)) (P := (qE f3 g3)) (X := nX) hb ho hnl hR hE mkX11_isDone rfl ckX11 t0 rfl ⟨Nat.le_refl 0, Nat.le_refl 0⟩ rfl (rX11_doneCount 1 rfl) (rX11_doneCount 2 rfl) (rX11_doneCount 3 rfl) rfl (z_dec dX11_doneCount 13 rfl) (m3 c1) (fun v J3 hp => ?_) (fun _ _ h => h.elim)
    obtain ⟨r3, rfl, e3, w3⟩ := hp
    have e3 := e3.symm
    subst e3
    have w3 := w3.symm
    subst w3
    show ZZ K (0, 0) 21 [(0, .ref 312), (1, .int v1), (2, .int v2)] [.int f3, .int v1] g3
    refine zz_if_eq (tgt := 28) hb (z_dec dX11_doneCount 14 rfl) (by decide) (fun c4 => ?_) (fun c4 => ?_)
    · refine zz_iconst (v := (0 : Int32)) hb (z_dec dX11_doneCount 17 rfl) (by decide) ?_
      refine zz_iadd hb (z_dec dX11_doneCount 18 rfl) ?_
      refine zz_istore_n (L' := [(0, .ref 312), (1, .int (v1 + (0 : Int32))), (2, .int v2)]) hb (z_dec dX11_doneCount 19 rfl) rfl hnl rfl [1, 0, 2] rfl ?_
      refine zz_iinc (v := (v2 + 1)) (L' := [(0, .ref 312), (1, .int (v1 + (0 : Int32))), (2, .int (v2 + 1))]) hb (z_dec dX11_doneCount 20 rfl) 2 rfl rfl hnl rfl [1, 2, 0] rfl ?_
      refine zz_goto (tgt := 4) hb (z_dec dX11_doneCount 21 rfl) (by decide) ?_
      exact (k5 c1 c4)
    · refine zz_iconst (v := (1 : Int32)) hb (z_dec dX11_doneCount 15 rfl) (by decide) ?_
      refine zz_goto (tgt := 29) hb (z_dec dX11_doneCount 16 rfl) (by decide) ?_
      refine zz_iadd hb (z_dec dX11_doneCount 18 rfl) ?_
      refine zz_istore_n (L' := [(0, .ref 312), (1, .int (v1 + (1 : Int32))), (2, .int v2)]) hb (z_dec dX11_doneCount 19 rfl) rfl hnl rfl [1, 0, 2] rfl ?_
      refine zz_iinc (v := (v2 + 1)) (L' := [(0, .ref 312), (1, .int (v1 + (1 : Int32))), (2, .int (v2 + 1))]) hb (z_dec dX11_doneCount 20 rfl) 2 rfl rfl hnl rfl [1, 2, 0] rfl ?_
      refine zz_goto (tgt := 4) hb (z_dec dX11_doneCount 21 rfl) (by decide) ?_
      exact (k6 c1 c4)
set_option maxRecDepth 20000 in
theorem bX11_lates_0 {K : zK} {P : Option Value → zM → Prop} {X : String → zM → Prop} (hK : zIs K RX11 cX11_lates 3 (some .int) 3 (0, 0) P X) (hw : wOK (kw K)) {I : zM} (t0 : isT (kw K) 11 312) (k1 : ZZ K (0, 0) 4 [(0, .ref 312), (1, .int (0 : Int32)), (2, .int (0 : Int32))] [] I) : ZZ K (0, 0) 0 [(0, .ref 312)] [] I := by
  obtain ⟨hb, ho, hnl, hR, hE⟩ := hK
  refine zz_iconst (v := (0 : Int32)) hb (z_dec dX11_lates 0 rfl) (by decide) ?_
  refine zz_istore_n (L' := [(0, .ref 312), (1, .int (0 : Int32))]) hb (z_dec dX11_lates 1 rfl) rfl hnl rfl [1, 0] rfl ?_
  refine zz_iconst (v := (0 : Int32)) hb (z_dec dX11_lates 2 rfl) (by decide) ?_
  refine zz_istore_n (L' := [(0, .ref 312), (1, .int (0 : Int32)), (2, .int (0 : Int32))]) hb (z_dec dX11_lates 3 rfl) rfl hnl rfl [1, 2, 0] rfl ?_
  exact k1
set_option maxRecDepth 20000 in
theorem bX11_lates_4 {K : zK} {P : Option Value → zM → Prop} {X : String → zM → Prop} (hK : zIs K RX11 cX11_lates 3 (some .int) 3 (0, 0) P X) (hw : wOK (kw K)) {I : zM} (t0 : isT (kw K) 11 312) {v1 : Int32} {v2 : Int32} (h2 : ∀ (c1 : (I 313 8) ≤ v2), P (some (.int v1)) I) {f3 : Int32} {g3 : zM} (m3 : ∀ (c1 : ¬ (I 313 8) ≤ v2), CT (kG K) (kw K) (kl K) (yX11_isLate, cX11_isLate, 2, (some .boolean)) 2 (0, 0) [.ref 312, .int v2] I (qE f3 g3) nX) (k5 : ∀ (c1 : ¬ (I 313 8) ≤ v2) (c4 : f3 = 0), ZZ K (0, 0) 4 [(0, .ref 312), (1, .int (v1 + (0 : Int32))), (2, .int (v2 + 1))] [] g3) (k6 : ∀ (c1 : ¬ (I 313 8) ≤ v2) (c4 : ¬ f3 = 0), ZZ K (0, 0) 4 [(0, .ref 312), (1, .int (v1 + (1 : Int32))), (2, .int (v2 + 1))] [] g3) : ZZ K (0, 0) 4 [(0, .ref 312), (1, .int v1), (2, .int v2)] [] I := by
  obtain ⟨hb, ho, hnl, hR, hE⟩ := hK
  refine zz_iload_n hb (z_dec dX11_lates 4 rfl) rfl 2 rfl ?_
  refine zz_aload_n hb (z_dec dX11_lates 5 rfl) rfl 0 rfl ?_
  refine zz_getr (k := 0) (q := 313) hb ho rfl ckX11 t0 rfl rfl (rX11_lates 0 rfl) rfl (z_dec dX11_lates 6 rfl) ?_
  refine zz_bipush (v := (8 : Int32)) hb (z_dec dX11_lates 7 rfl) (by decide) ?_
  refine zz_iald (j := 8) hb (show isT (kw K) 20 313 from isT.f (k := 0) t0 hw rfl rfl rfl (by decide)) rfl (zvi rfl (zin rfl)) (z_dec dX11_lates 8 rfl) ?_
  refine zz_icmp_ge (tgt := 37) hb (z_dec dX11_lates 9 rfl) (by decide) (fun c1 => ?_) (fun c1 => ?_)
  · refine zz_iload_n hb (z_dec dX11_lates 22 rfl) rfl 1 rfl ?_
    exact zz_iret hb hE ⟨Nat.le_refl 0, Nat.le_refl 0⟩ (z_dec dX11_lates 23 rfl) (h2 c1)
  · refine zz_iload_n hb (z_dec dX11_lates 10 rfl) rfl 1 rfl ?_
    refine zz_aload_n hb (z_dec dX11_lates 11 rfl) rfl 0 rfl ?_
    refine zz_iload_n hb (z_dec dX11_lates 12 rfl) rfl 2 rfl ?_
    refine zz_inv (as := [.int v2]) (d := 2) (mc := (0, 0)) (P := (qE f3 g3)) (X := nX) hb ho hnl hR hE mkX11_isLate rfl ckX11 t0 rfl ⟨Nat.le_refl 0, Nat.le_refl 0⟩ rfl (rX11_lates 1 rfl) (rX11_lates 2 rfl) (rX11_lates 3 rfl) rfl (z_dec dX11_lates 13 rfl) (m3 c1) (fun v J3 hp => ?_) (fun _ _ h => h.elim)
    obtain ⟨r3, rfl, e3, w3⟩ := hp
    have e3 := e3.symm
    subst e3
    have w3 := w3.symm
    subst w3
    show ZZ K (0, 0) 21 [(0, .ref 312), (1, .int v1), (2, .int v2)] [.int f3, .int v1] g3
    refine zz_if_eq (tgt := 28) hb (z_dec dX11_lates 14 rfl) (by decide) (fun c4 => ?_) (fun c4 => ?_)
    · refine zz_iconst (v := (0 : Int32)) hb (z_dec dX11_lates 17 rfl) (by decide) ?_
      refine zz_iadd hb (z_dec dX11_lates 18 rfl) ?_
      refine zz_istore_n (L' := [(0, .ref 312), (1, .int (v1 + (0 : Int32))), (2, .int v2)]) hb (z_dec dX11_lates 19 rfl) rfl hnl rfl [1, 0, 2] rfl ?_
      refine zz_iinc (v := (v2 + 1)) (L' := [(0, .ref 312), (1, .int (v1 + (0 : Int32))), (2, .int (v2 + 1))]) hb (z_dec dX11_lates 20 rfl) 2 rfl rfl hnl rfl [1, 2, 0] rfl ?_
      refine zz_goto (tgt := 4) hb (z_dec dX11_lates 21 rfl) (by decide) ?_
      exact (k5 c1 c4)
    · refine zz_iconst (v := (1 : Int32)) hb (z_dec dX11_lates 15 rfl) (by decide) ?_
      refine zz_goto (tgt := 29) hb (z_dec dX11_lates 16 rfl) (by decide) ?_
      refine zz_iadd hb (z_dec dX11_lates 18 rfl) ?_
      refine zz_istore_n (L' := [(0, .ref 312), (1, .int (v1 + (1 : Int32))), (2, .int v2)]) hb (z_dec dX11_lates 19 rfl) rfl hnl rfl [1, 0, 2] rfl ?_
      refine zz_iinc (v := (v2 + 1)) (L' := [(0, .ref 312), (1, .int (v1 + (1 : Int32))), (2, .int (v2 + 1))]) hb (z_dec dX11_lates 20 rfl) 2 rfl rfl hnl rfl [1, 2, 0] rfl ?_
      refine zz_goto (tgt := 4) hb (z_dec dX11_lates 21 rfl) (by decide) ?_
      exact (k6 c1 c4)
set_option maxRecDepth 20000 in
theorem bX11_passMinutes_0 {K : zK} {P : Option Value → zM → Prop} {X : String → zM → Prop} (hK : zIs K RX11 cX11_passMinutes 4 (some .int) 8 (0, 0) P X) (hw : wOK (kw K)) {I : zM} (t0 : isT (kw K) 11 312) {v1 : Int32} {f1 : Int32} {g1 : zM} (m1 : CT (kG K) (kw K) (kl K) (yX11_doneCount, cX11_doneCount, 3, (some .int)) 2 (0, 0) [.ref 312] I (qE f1 g1) nX) (k2 : ZZ K (0, 0) 7 [(0, .ref 312), (1, .int v1), (2, .int f1), (3, .int (0 : Int32))] [] g1) : ZZ K (0, 0) 0 [(0, .ref 312), (1, .int v1)] [] I := by
  obtain ⟨hb, ho, hnl, hR, hE⟩ := hK
  refine zz_aload_n hb (z_dec dX11_passMinutes 0 rfl) rfl 0 rfl ?_
  refine zz_inv (as := []) (d := 2) (mc := (0, 0)) (P := (qE f1 g1)) (X := nX) hb ho hnl hR hE mkX11_doneCount rfl ckX11 t0 rfl ⟨Nat.le_refl 0, Nat.le_refl 0⟩ rfl (rX11_passMinutes 0 rfl) (rX11_passMinutes 1 rfl) (rX11_passMinutes 2 rfl) rfl (z_dec dX11_passMinutes 1 rfl) m1 (fun v J1 hp => ?_) (fun _ _ h => h.elim)
  obtain ⟨r1, rfl, e1, w1⟩ := hp
  have e1 := e1.symm
  subst e1
  have w1 := w1.symm
  subst w1
  show ZZ K (0, 0) 4 [(0, .ref 312), (1, .int v1)] [.int f1] g1
  refine zz_istore_n (L' := [(0, .ref 312), (1, .int v1), (2, .int f1)]) hb (z_dec dX11_passMinutes 2 rfl) rfl hnl rfl [1, 2, 0] rfl ?_
  refine zz_iconst (v := (0 : Int32)) hb (z_dec dX11_passMinutes 3 rfl) (by decide) ?_
  refine zz_istore_n (L' := [(0, .ref 312), (1, .int v1), (2, .int f1), (3, .int (0 : Int32))]) hb (z_dec dX11_passMinutes 4 rfl) rfl hnl rfl [1, 2, 3, 0] rfl ?_
  exact k2
set_option maxRecDepth 20000 in
theorem bX11_passMinutes_7 {K : zK} {P : Option Value → zM → Prop} {X : String → zM → Prop} (hK : zIs K RX11 cX11_passMinutes 4 (some .int) 8 (0, 0) P X) (hw : wOK (kw K)) {I : zM} (t0 : isT (kw K) 11 312) {v1 : Int32} {v2 : Int32} {v3 : Int32} {f2 : Int32} {g2 : zM} (m2 : ∀ (c1 : v1 ≤ v3), CT (kG K) (kw K) (kl K) (yX11_doneCount, cX11_doneCount, 3, (some .int)) 2 (0, 0) [.ref 312] I (qE f2 g2) nX) (h3 : ∀ (c1 : v1 ≤ v3), P (some (.int (f2 - v2))) g2) {g4 : zM} (m4 : ∀ (c1 : ¬ v1 ≤ v3), CT (kG K) (kw K) (kl K) (yX11_passMinute, cX11_passMinute, 2, none) 7 (0, 0) [.ref 312] I (qV (fun J => J = g4)) nX) (k5 : ∀ (c1 : ¬ v1 ≤ v3), ZZ K (0, 0) 7 [(0, .ref 312), (1, .int v1), (2, .int v2), (3, .int (v3 + 1))] [] g4) : ZZ K (0, 0) 7 [(0, .ref 312), (1, .int v1), (2, .int v2), (3, .int v3)] [] I := by
  obtain ⟨hb, ho, hnl, hR, hE⟩ := hK
  refine zz_iload_n hb (z_dec dX11_passMinutes 5 rfl) rfl 3 rfl ?_
  refine zz_iload_n hb (z_dec dX11_passMinutes 6 rfl) rfl 1 rfl ?_
  refine zz_icmp_ge (tgt := 22) hb (z_dec dX11_passMinutes 7 rfl) (by decide) (fun c1 => ?_) (fun c1 => ?_)
  · refine zz_aload_n hb (z_dec dX11_passMinutes 12 rfl) rfl 0 rfl ?_
    refine zz_inv (as := []) (d := 2) (mc := (0, 0)) (P := (qE f2 g2)) (X := nX) hb ho hnl hR hE mkX11_doneCount rfl ckX11 t0 rfl ⟨Nat.le_refl 0, Nat.le_refl 0⟩ rfl (rX11_passMinutes 0 rfl) (rX11_passMinutes 1 rfl) (rX11_passMinutes 2 rfl) rfl (z_dec dX11_passMinutes 13 rfl) (m2 c1) (fun v J2 hp => ?_) (fun _ _ h => h.elim)
    obtain ⟨r2, rfl, e2, w2⟩ := hp
    have e2 := e2.symm
    subst e2
    have w2 := w2.symm
    subst w2
    show ZZ K (0, 0) 26 [(0, .ref 312), (1, .int v1), (2, .int v2), (3, .int v3)] [.int f2] g2
    refine zz_iload_n hb (z_dec dX11_passMinutes 14 rfl) rfl 2 rfl ?_
    refine zz_isub hb (z_dec dX11_passMinutes 15 rfl) ?_
    exact zz_iret hb hE ⟨Nat.le_refl 0, Nat.le_refl 0⟩ (z_dec dX11_passMinutes 16 rfl) (h3 c1)
  · refine zz_aload_n hb (z_dec dX11_passMinutes 8 rfl) rfl 0 rfl ?_
    refine zz_inv (as := []) (d := 7) (mc := (0, 0)) (P := (qV (fun J => J = g4))) (X := nX) hb ho hnl hR hE mkX11_passMinute rfl ckX11 t0 rfl ⟨Nat.le_refl 0, Nat.le_refl 0⟩ rfl (rX11_passMinutes 3 rfl) (rX11_passMinutes 4 rfl) (rX11_passMinutes 5 rfl) rfl (z_dec dX11_passMinutes 9 rfl) (m4 c1) (fun v J4 hp => ?_) (fun _ _ h => h.elim)
    obtain ⟨rfl, w4⟩ := hp
    have w4 := w4.symm
    subst w4
    show ZZ K (0, 0) 16 [(0, .ref 312), (1, .int v1), (2, .int v2), (3, .int v3)] [] g4
    refine zz_iinc (v := (v3 + 1)) (L' := [(0, .ref 312), (1, .int v1), (2, .int v2), (3, .int (v3 + 1))]) hb (z_dec dX11_passMinutes 10 rfl) 3 rfl rfl hnl rfl [1, 2, 3, 0] rfl ?_
    refine zz_goto (tgt := 7) hb (z_dec dX11_passMinutes 11 rfl) (by decide) ?_
    exact (k5 c1)
set_option maxRecDepth 20000 in
theorem bX11_canAdd_0 {K : zK} {P : Option Value → zM → Prop} {X : String → zM → Prop} (hK : zIs K RX11 cX11_canAdd 2 (some .boolean) 0 (0, 0) P X) (hw : wOK (kw K)) {I : zM} (t0 : isT (kw K) 11 312) {v1 : Int32} (h2 : ∀ (c1 : (12 : Int32) ≤ (I 313 8)), P (some (.int (0 : Int32))) I) (h4 : ∀ (c1 : ¬ (12 : Int32) ≤ (I 313 8)) (c3 : (2000 : Int32) < ((I 313 9) + v1)), P (some (.int (0 : Int32))) I) (h5 : ∀ (c1 : ¬ (12 : Int32) ≤ (I 313 8)) (c3 : ¬ (2000 : Int32) < ((I 313 9) + v1)), P (some (.int (1 : Int32))) I) : ZZ K (0, 0) 0 [(0, .ref 312), (1, .int v1)] [] I := by
  obtain ⟨hb, ho, hnl, hR, hE⟩ := hK
  refine zz_aload_n hb (z_dec dX11_canAdd 0 rfl) rfl 0 rfl ?_
  refine zz_getr (k := 0) (q := 313) hb ho rfl ckX11 t0 rfl rfl (rX11_canAdd 0 rfl) rfl (z_dec dX11_canAdd 1 rfl) ?_
  refine zz_bipush (v := (8 : Int32)) hb (z_dec dX11_canAdd 2 rfl) (by decide) ?_
  refine zz_iald (j := 8) hb (show isT (kw K) 20 313 from isT.f (k := 0) t0 hw rfl rfl rfl (by decide)) rfl (zvi rfl (zin rfl)) (z_dec dX11_canAdd 3 rfl) ?_
  refine zz_bipush (v := (12 : Int32)) hb (z_dec dX11_canAdd 4 rfl) (by decide) ?_
  refine zz_icmp_ge (tgt := 31) hb (z_dec dX11_canAdd 5 rfl) (by decide) (fun c1 => ?_) (fun c1 => ?_)
  · refine zz_iconst (v := (0 : Int32)) hb (z_dec dX11_canAdd 16 rfl) (by decide) ?_
    exact zz_zret hb hE ⟨Nat.le_refl 0, Nat.le_refl 0⟩ (by decide) (z_dec dX11_canAdd 17 rfl) (h2 c1)
  · refine zz_aload_n hb (z_dec dX11_canAdd 6 rfl) rfl 0 rfl ?_
    refine zz_getr (k := 0) (q := 313) hb ho rfl ckX11 t0 rfl rfl (rX11_canAdd 0 rfl) rfl (z_dec dX11_canAdd 7 rfl) ?_
    refine zz_bipush (v := (9 : Int32)) hb (z_dec dX11_canAdd 8 rfl) (by decide) ?_
    refine zz_iald (j := 9) hb (show isT (kw K) 20 313 from isT.f (k := 0) t0 hw rfl rfl rfl (by decide)) rfl (zvi rfl (zin rfl)) (z_dec dX11_canAdd 9 rfl) ?_
    refine zz_iload_n hb (z_dec dX11_canAdd 10 rfl) rfl 1 rfl ?_
    refine zz_iadd hb (z_dec dX11_canAdd 11 rfl) ?_
    refine zz_sipush (v := (2000 : Int32)) hb (z_dec dX11_canAdd 12 rfl) (by decide) ?_
    refine zz_icmp_gt (tgt := 31) hb (z_dec dX11_canAdd 13 rfl) (by decide) (fun c3 => ?_) (fun c3 => ?_)
    · refine zz_iconst (v := (0 : Int32)) hb (z_dec dX11_canAdd 16 rfl) (by decide) ?_
      exact zz_zret hb hE ⟨Nat.le_refl 0, Nat.le_refl 0⟩ (by decide) (z_dec dX11_canAdd 17 rfl) (h4 c1 c3)
    · refine zz_iconst (v := (1 : Int32)) hb (z_dec dX11_canAdd 14 rfl) (by decide) ?_
      refine zz_goto (tgt := 32) hb (z_dec dX11_canAdd 15 rfl) (by decide) ?_
      exact zz_zret hb hE ⟨Nat.le_refl 0, Nat.le_refl 0⟩ (by decide) (z_dec dX11_canAdd 17 rfl) (h5 c1 c3)
set_option maxRecDepth 20000 in
theorem bX11_isLetterData_0 {K : zK} {P : Option Value → zM → Prop} {X : String → zM → Prop} (hK : zIs K RX11 cX11_isLetterData 4 (some .boolean) 1 (0, 0) P X) (hw : wOK (kw K)) {I : zM} {v0 : Int32} {v1 : Int32} {v2 : Int32} {v3 : Int32} {f1 : Int32} {g1 : zM} (m1 : CT (kG K) (kw K) (kl K) (yX11_in, cX11_in, 3, (some .boolean)) 0 (0, 0) [.int v0, .int (1 : Int32), .int (30 : Int32)] I (qE f1 g1) nX) (h3 : ∀ (c2 : f1 = 0), P (some (.int (0 : Int32))) g1) {f4 : Int32} {g4 : zM} (m4 : ∀ (c2 : ¬ f1 = 0), CT (kG K) (kw K) (kl K) (yX11_in, cX11_in, 3, (some .boolean)) 0 (0, 0) [.int v1, .int (0 : Int32), .int (999 : Int32)] g1 (qE f4 g4) nX) (h6 : ∀ (c2 : ¬ f1 = 0) (c5 : f4 = 0), P (some (.int (0 : Int32))) g4) {f7 : Int32} {g7 : zM} (m7 : ∀ (c2 : ¬ f1 = 0) (c5 : ¬ f4 = 0), CT (kG K) (kw K) (kl K) (yX11_in, cX11_in, 3, (some .boolean)) 0 (0, 0) [.int v2, .int (1 : Int32), .int (999 : Int32)] g4 (qE f7 g7) nX) (h9 : ∀ (c2 : ¬ f1 = 0) (c5 : ¬ f4 = 0) (c8 : f7 = 0), P (some (.int (0 : Int32))) g7) {f10 : Int32} {g10 : zM} (m10 : ∀ (c2 : ¬ f1 = 0) (c5 : ¬ f4 = 0) (c8 : ¬ f7 = 0), CT (kG K) (kw K) (kl K) (yX11_in, cX11_in, 3, (some .boolean)) 0 (0, 0) [.int v3, .int (0 : Int32), .int (9 : Int32)] g7 (qE f10 g10) nX) (h12 : ∀ (c2 : ¬ f1 = 0) (c5 : ¬ f4 = 0) (c8 : ¬ f7 = 0) (c11 : f10 = 0), P (some (.int (0 : Int32))) g10) (h13 : ∀ (c2 : ¬ f1 = 0) (c5 : ¬ f4 = 0) (c8 : ¬ f7 = 0) (c11 : ¬ f10 = 0), P (some (.int (1 : Int32))) g10) : ZZ K (0, 0) 0 [(0, .int v0), (1, .int v1), (2, .int v2), (3, .int v3)] [] I := by
  obtain ⟨hb, ho, hnl, hR, hE⟩ := hK
  refine zz_iload_n hb (z_dec dX11_isLetterData 0 rfl) rfl 0 rfl ?_
  refine zz_iconst (v := (1 : Int32)) hb (z_dec dX11_isLetterData 1 rfl) (by decide) ?_
  refine zz_bipush (v := (30 : Int32)) hb (z_dec dX11_isLetterData 2 rfl) (by decide) ?_
  refine zz_invS (as := [.int v0, .int (1 : Int32), .int (30 : Int32)]) (d := 0) (mc := (0, 0)) (P := (qE f1 g1)) (X := nX) hb ho hnl hR hE mkX11_in rfl rfl ⟨Nat.le_refl 0, Nat.le_refl 0⟩ rfl (rX11_isLetterData 0 rfl) (rX11_isLetterData 1 rfl) rfl (z_dec dX11_isLetterData 3 rfl) m1 (fun v J1 hp => ?_) (fun _ _ h => h.elim)
  obtain ⟨r1, rfl, e1, w1⟩ := hp
  have e1 := e1.symm
  subst e1
  have w1 := w1.symm
  subst w1
  show ZZ K (0, 0) 7 [(0, .int v0), (1, .int v1), (2, .int v2), (3, .int v3)] [.int f1] g1
  refine zz_if_eq (tgt := 46) hb (z_dec dX11_isLetterData 4 rfl) (by decide) (fun c2 => ?_) (fun c2 => ?_)
  · refine zz_iconst (v := (0 : Int32)) hb (z_dec dX11_isLetterData 22 rfl) (by decide) ?_
    exact zz_zret hb hE ⟨Nat.le_refl 0, Nat.le_refl 0⟩ (by decide) (z_dec dX11_isLetterData 23 rfl) (h3 c2)
  · refine zz_iload_n hb (z_dec dX11_isLetterData 5 rfl) rfl 1 rfl ?_
    refine zz_iconst (v := (0 : Int32)) hb (z_dec dX11_isLetterData 6 rfl) (by decide) ?_
    refine zz_sipush (v := (999 : Int32)) hb (z_dec dX11_isLetterData 7 rfl) (by decide) ?_
    refine zz_invS (as := [.int v1, .int (0 : Int32), .int (999 : Int32)]) (d := 0) (mc := (0, 0)) (P := (qE f4 g4)) (X := nX) hb ho hnl hR hE mkX11_in rfl rfl ⟨Nat.le_refl 0, Nat.le_refl 0⟩ rfl (rX11_isLetterData 0 rfl) (rX11_isLetterData 1 rfl) rfl (z_dec dX11_isLetterData 8 rfl) (m4 c2) (fun v J4 hp => ?_) (fun _ _ h => h.elim)
    obtain ⟨r4, rfl, e4, w4⟩ := hp
    have e4 := e4.symm
    subst e4
    have w4 := w4.symm
    subst w4
    show ZZ K (0, 0) 18 [(0, .int v0), (1, .int v1), (2, .int v2), (3, .int v3)] [.int f4] g4
    refine zz_if_eq (tgt := 46) hb (z_dec dX11_isLetterData 9 rfl) (by decide) (fun c5 => ?_) (fun c5 => ?_)
    · refine zz_iconst (v := (0 : Int32)) hb (z_dec dX11_isLetterData 22 rfl) (by decide) ?_
      exact zz_zret hb hE ⟨Nat.le_refl 0, Nat.le_refl 0⟩ (by decide) (z_dec dX11_isLetterData 23 rfl) (h6 c2 c5)
    · refine zz_iload_n hb (z_dec dX11_isLetterData 10 rfl) rfl 2 rfl ?_
      refine zz_iconst (v := (1 : Int32)) hb (z_dec dX11_isLetterData 11 rfl) (by decide) ?_
      refine zz_sipush (v := (999 : Int32)) hb (z_dec dX11_isLetterData 12 rfl) (by decide) ?_
      refine zz_invS (as := [.int v2, .int (1 : Int32), .int (999 : Int32)]) (d := 0) (mc := (0, 0)) (P := (qE f7 g7)) (X := nX) hb ho hnl hR hE mkX11_in rfl rfl ⟨Nat.le_refl 0, Nat.le_refl 0⟩ rfl (rX11_isLetterData 0 rfl) (rX11_isLetterData 1 rfl) rfl (z_dec dX11_isLetterData 13 rfl) (m7 c2 c5) (fun v J7 hp => ?_) (fun _ _ h => h.elim)
      obtain ⟨r7, rfl, e7, w7⟩ := hp
      have e7 := e7.symm
      subst e7
      have w7 := w7.symm
      subst w7
      show ZZ K (0, 0) 29 [(0, .int v0), (1, .int v1), (2, .int v2), (3, .int v3)] [.int f7] g7
      refine zz_if_eq (tgt := 46) hb (z_dec dX11_isLetterData 14 rfl) (by decide) (fun c8 => ?_) (fun c8 => ?_)
      · refine zz_iconst (v := (0 : Int32)) hb (z_dec dX11_isLetterData 22 rfl) (by decide) ?_
        exact zz_zret hb hE ⟨Nat.le_refl 0, Nat.le_refl 0⟩ (by decide) (z_dec dX11_isLetterData 23 rfl) (h9 c2 c5 c8)
      · refine zz_iload_n hb (z_dec dX11_isLetterData 15 rfl) rfl 3 rfl ?_
        refine zz_iconst (v := (0 : Int32)) hb (z_dec dX11_isLetterData 16 rfl) (by decide) ?_
        refine zz_bipush (v := (9 : Int32)) hb (z_dec dX11_isLetterData 17 rfl) (by decide) ?_
        refine zz_invS (as := [.int v3, .int (0 : Int32), .int (9 : Int32)]) (d := 0) (mc := (0, 0)) (P := (qE f10 g10)) (X := nX) hb ho hnl hR hE mkX11_in rfl rfl ⟨Nat.le_refl 0, Nat.le_refl 0⟩ rfl (rX11_isLetterData 0 rfl) (rX11_isLetterData 1 rfl) rfl (z_dec dX11_isLetterData 18 rfl) (m10 c2 c5 c8) (fun v J10 hp => ?_) (fun _ _ h => h.elim)
        obtain ⟨r10, rfl, e10, w10⟩ := hp
        have e10 := e10.symm
        subst e10
        have w10 := w10.symm
        subst w10
        show ZZ K (0, 0) 39 [(0, .int v0), (1, .int v1), (2, .int v2), (3, .int v3)] [.int f10] g10
        refine zz_if_eq (tgt := 46) hb (z_dec dX11_isLetterData 19 rfl) (by decide) (fun c11 => ?_) (fun c11 => ?_)
        · refine zz_iconst (v := (0 : Int32)) hb (z_dec dX11_isLetterData 22 rfl) (by decide) ?_
          exact zz_zret hb hE ⟨Nat.le_refl 0, Nat.le_refl 0⟩ (by decide) (z_dec dX11_isLetterData 23 rfl) (h12 c2 c5 c8 c11)
        · refine zz_iconst (v := (1 : Int32)) hb (z_dec dX11_isLetterData 20 rfl) (by decide) ?_
          refine zz_goto (tgt := 47) hb (z_dec dX11_isLetterData 21 rfl) (by decide) ?_
          exact zz_zret hb hE ⟨Nat.le_refl 0, Nat.le_refl 0⟩ (by decide) (z_dec dX11_isLetterData 23 rfl) (h13 c2 c5 c8 c11)
set_option maxRecDepth 20000 in
theorem bX11_add_0 {K : zK} {P : Option Value → zM → Prop} {X : String → zM → Prop} (hK : zIs K RX11 cX11_add 7 (some .int) 1 (0, 0) P X) (hw : wOK (kw K)) {I : zM} (t0 : isT (kw K) 11 312) {v1 : Int32} {v2 : Int32} {v3 : Int32} {v4 : Int32} {v5 : Int32} {g1 : zM} (m1 : CT (kG K) (kw K) (kl K) (yX11_set, cX11_set, 4, none) 0 (0, 0) [.ref 312, .int (I 313 8), .int (0 : Int32), .int v1] I (qV (fun J => J = g1)) nX) {g2 : zM} (m2 : CT (kG K) (kw K) (kl K) (yX11_set, cX11_set, 4, none) 0 (0, 0) [.ref 312, .int (I 313 8), .int (1 : Int32), .int v2] g1 (qV (fun J => J = g2)) nX) {g3 : zM} (m3 : CT (kG K) (kw K) (kl K) (yX11_set, cX11_set, 4, none) 0 (0, 0) [.ref 312, .int (I 313 8), .int (2 : Int32), .int v3] g2 (qV (fun J => J = g3)) nX) {g4 : zM} (m4 : CT (kG K) (kw K) (kl K) (yX11_set, cX11_set, 4, none) 0 (0, 0) [.ref 312, .int (I 313 8), .int (3 : Int32), .int v4] g3 (qV (fun J => J = g4)) nX) {g5 : zM} (m5 : CT (kG K) (kw K) (kl K) (yX11_set, cX11_set, 4, none) 0 (0, 0) [.ref 312, .int (I 313 8), .int (4 : Int32), .int v5] g4 (qV (fun J => J = g5)) nX) {g6 : zM} (m6 : CT (kG K) (kw K) (kl K) (yX11_set, cX11_set, 4, none) 0 (0, 0) [.ref 312, .int (I 313 8), .int (5 : Int32), .int v2] g5 (qV (fun J => J = g6)) nX) {g7 : zM} (m7 : CT (kG K) (kw K) (kl K) (yX11_set, cX11_set, 4, none) 0 (0, 0) [.ref 312, .int (I 313 8), .int (6 : Int32), .int (-1 : Int32)] g6 (qV (fun J => J = g7)) nX) {g8 : zM} (m8 : CT (kG K) (kw K) (kl K) (yX11_set, cX11_set, 4, none) 0 (0, 0) [.ref 312, .int (I 313 8), .int (7 : Int32), .int (0 : Int32)] g7 (qV (fun J => J = g8)) nX) (h9 : P (some (.int (I 313 8))) (up g8 313 8 ((g8 313 8) + (1 : Int32)))) : ZZ K (0, 0) 0 [(0, .ref 312), (1, .int v1), (2, .int v2), (3, .int v3), (4, .int v4), (5, .int v5)] [] I := by
  obtain ⟨hb, ho, hnl, hR, hE⟩ := hK
  refine zz_aload_n hb (z_dec dX11_add 0 rfl) rfl 0 rfl ?_
  refine zz_getr (k := 0) (q := 313) hb ho rfl ckX11 t0 rfl rfl (rX11_add 0 rfl) rfl (z_dec dX11_add 1 rfl) ?_
  refine zz_bipush (v := (8 : Int32)) hb (z_dec dX11_add 2 rfl) (by decide) ?_
  refine zz_iald (j := 8) hb (show isT (kw K) 20 313 from isT.f (k := 0) t0 hw rfl rfl rfl (by decide)) rfl (zvi rfl (zin rfl)) (z_dec dX11_add 3 rfl) ?_
  refine zz_istore (L' := [(0, .ref 312), (1, .int v1), (2, .int v2), (3, .int v3), (4, .int v4), (5, .int v5), (6, .int (I 313 8))]) hb (z_dec dX11_add 4 rfl) hnl rfl [1, 2, 3, 4, 5, 6, 0] rfl ?_
  refine zz_aload_n hb (z_dec dX11_add 5 rfl) rfl 0 rfl ?_
  refine zz_iload hb (z_dec dX11_add 6 rfl) 6 rfl ?_
  refine zz_iconst (v := (0 : Int32)) hb (z_dec dX11_add 7 rfl) (by decide) ?_
  refine zz_iload_n hb (z_dec dX11_add 8 rfl) rfl 1 rfl ?_
  refine zz_inv (as := [.int (I 313 8), .int (0 : Int32), .int v1]) (d := 0) (mc := (0, 0)) (P := (qV (fun J => J = g1))) (X := nX) hb ho hnl hR hE mkX11_set rfl ckX11 t0 rfl ⟨Nat.le_refl 0, Nat.le_refl 0⟩ rfl (rX11_add 1 rfl) (rX11_add 2 rfl) (rX11_add 3 rfl) rfl (z_dec dX11_add 9 rfl) m1 (fun v J1 hp => ?_) (fun _ _ h => h.elim)
  obtain ⟨rfl, w1⟩ := hp
  have w1 := w1.symm
  subst w1
  show ZZ K (0, 0) 17 [(0, .ref 312), (1, .int v1), (2, .int v2), (3, .int v3), (4, .int v4), (5, .int v5), (6, .int (I 313 8))] [] g1
  refine zz_aload_n hb (z_dec dX11_add 10 rfl) rfl 0 rfl ?_
  refine zz_iload hb (z_dec dX11_add 11 rfl) 6 rfl ?_
  refine zz_iconst (v := (1 : Int32)) hb (z_dec dX11_add 12 rfl) (by decide) ?_
  refine zz_iload_n hb (z_dec dX11_add 13 rfl) rfl 2 rfl ?_
  refine zz_inv (as := [.int (I 313 8), .int (1 : Int32), .int v2]) (d := 0) (mc := (0, 0)) (P := (qV (fun J => J = g2))) (X := nX) hb ho hnl hR hE mkX11_set rfl ckX11 t0 rfl ⟨Nat.le_refl 0, Nat.le_refl 0⟩ rfl (rX11_add 1 rfl) (rX11_add 2 rfl) (rX11_add 3 rfl) rfl (z_dec dX11_add 14 rfl) m2 (fun v J2 hp => ?_) (fun _ _ h => h.elim)
  obtain ⟨rfl, w2⟩ := hp
  have w2 := w2.symm
  subst w2
  show ZZ K (0, 0) 25 [(0, .ref 312), (1, .int v1), (2, .int v2), (3, .int v3), (4, .int v4), (5, .int v5), (6, .int (I 313 8))] [] g2
  refine zz_aload_n hb (z_dec dX11_add 15 rfl) rfl 0 rfl ?_
  refine zz_iload hb (z_dec dX11_add 16 rfl) 6 rfl ?_
  refine zz_iconst (v := (2 : Int32)) hb (z_dec dX11_add 17 rfl) (by decide) ?_
  refine zz_iload_n hb (z_dec dX11_add 18 rfl) rfl 3 rfl ?_
  refine zz_inv (as := [.int (I 313 8), .int (2 : Int32), .int v3]) (d := 0) (mc := (0, 0)) (P := (qV (fun J => J = g3))) (X := nX) hb ho hnl hR hE mkX11_set rfl ckX11 t0 rfl ⟨Nat.le_refl 0, Nat.le_refl 0⟩ rfl (rX11_add 1 rfl) (rX11_add 2 rfl) (rX11_add 3 rfl) rfl (z_dec dX11_add 19 rfl) m3 (fun v J3 hp => ?_) (fun _ _ h => h.elim)
  obtain ⟨rfl, w3⟩ := hp
  have w3 := w3.symm
  subst w3
  show ZZ K (0, 0) 33 [(0, .ref 312), (1, .int v1), (2, .int v2), (3, .int v3), (4, .int v4), (5, .int v5), (6, .int (I 313 8))] [] g3
  refine zz_aload_n hb (z_dec dX11_add 20 rfl) rfl 0 rfl ?_
  refine zz_iload hb (z_dec dX11_add 21 rfl) 6 rfl ?_
  refine zz_iconst (v := (3 : Int32)) hb (z_dec dX11_add 22 rfl) (by decide) ?_
  refine zz_iload hb (z_dec dX11_add 23 rfl) 4 rfl ?_
  refine zz_inv (as := [.int (I 313 8), .int (3 : Int32), .int v4]) (d := 0) (mc := (0, 0)) (P := (qV (fun J => J = g4))) (X := nX) hb ho hnl hR hE mkX11_set rfl ckX11 t0 rfl ⟨Nat.le_refl 0, Nat.le_refl 0⟩ rfl (rX11_add 1 rfl) (rX11_add 2 rfl) (rX11_add 3 rfl) rfl (z_dec dX11_add 24 rfl) m4 (fun v J4 hp => ?_) (fun _ _ h => h.elim)
  obtain ⟨rfl, w4⟩ := hp
  have w4 := w4.symm
  subst w4
  show ZZ K (0, 0) 42 [(0, .ref 312), (1, .int v1), (2, .int v2), (3, .int v3), (4, .int v4), (5, .int v5), (6, .int (I 313 8))] [] g4
  refine zz_aload_n hb (z_dec dX11_add 25 rfl) rfl 0 rfl ?_
  refine zz_iload hb (z_dec dX11_add 26 rfl) 6 rfl ?_
  refine zz_iconst (v := (4 : Int32)) hb (z_dec dX11_add 27 rfl) (by decide) ?_
  refine zz_iload hb (z_dec dX11_add 28 rfl) 5 rfl ?_
  refine zz_inv (as := [.int (I 313 8), .int (4 : Int32), .int v5]) (d := 0) (mc := (0, 0)) (P := (qV (fun J => J = g5))) (X := nX) hb ho hnl hR hE mkX11_set rfl ckX11 t0 rfl ⟨Nat.le_refl 0, Nat.le_refl 0⟩ rfl (rX11_add 1 rfl) (rX11_add 2 rfl) (rX11_add 3 rfl) rfl (z_dec dX11_add 29 rfl) m5 (fun v J5 hp => ?_) (fun _ _ h => h.elim)
  obtain ⟨rfl, w5⟩ := hp
  have w5 := w5.symm
  subst w5
  show ZZ K (0, 0) 51 [(0, .ref 312), (1, .int v1), (2, .int v2), (3, .int v3), (4, .int v4), (5, .int v5), (6, .int (I 313 8))] [] g5
  refine zz_aload_n hb (z_dec dX11_add 30 rfl) rfl 0 rfl ?_
  refine zz_iload hb (z_dec dX11_add 31 rfl) 6 rfl ?_
  refine zz_iconst (v := (5 : Int32)) hb (z_dec dX11_add 32 rfl) (by decide) ?_
  refine zz_iload_n hb (z_dec dX11_add 33 rfl) rfl 2 rfl ?_
  refine zz_inv (as := [.int (I 313 8), .int (5 : Int32), .int v2]) (d := 0) (mc := (0, 0)) (P := (qV (fun J => J = g6))) (X := nX) hb ho hnl hR hE mkX11_set rfl ckX11 t0 rfl ⟨Nat.le_refl 0, Nat.le_refl 0⟩ rfl (rX11_add 1 rfl) (rX11_add 2 rfl) (rX11_add 3 rfl) rfl (z_dec dX11_add 34 rfl) m6 (fun v J6 hp => ?_) (fun _ _ h => h.elim)
  obtain ⟨rfl, w6⟩ := hp
  have w6 := w6.symm
  subst w6
  show ZZ K (0, 0) 59 [(0, .ref 312), (1, .int v1), (2, .int v2), (3, .int v3), (4, .int v4), (5, .int v5), (6, .int (I 313 8))] [] g6
  refine zz_aload_n hb (z_dec dX11_add 35 rfl) rfl 0 rfl ?_
  refine zz_iload hb (z_dec dX11_add 36 rfl) 6 rfl ?_
  refine zz_bipush (v := (6 : Int32)) hb (z_dec dX11_add 37 rfl) (by decide) ?_
  refine zz_iconst (v := (-1 : Int32)) hb (z_dec dX11_add 38 rfl) (by decide) ?_
  refine zz_inv (as := [.int (I 313 8), .int (6 : Int32), .int (-1 : Int32)]) (d := 0) (mc := (0, 0)) (P := (qV (fun J => J = g7))) (X := nX) hb ho hnl hR hE mkX11_set rfl ckX11 t0 rfl ⟨Nat.le_refl 0, Nat.le_refl 0⟩ rfl (rX11_add 1 rfl) (rX11_add 2 rfl) (rX11_add 3 rfl) rfl (z_dec dX11_add 39 rfl) m7 (fun v J7 hp => ?_) (fun _ _ h => h.elim)
  obtain ⟨rfl, w7⟩ := hp
  have w7 := w7.symm
  subst w7
  show ZZ K (0, 0) 68 [(0, .ref 312), (1, .int v1), (2, .int v2), (3, .int v3), (4, .int v4), (5, .int v5), (6, .int (I 313 8))] [] g7
  refine zz_aload_n hb (z_dec dX11_add 40 rfl) rfl 0 rfl ?_
  refine zz_iload hb (z_dec dX11_add 41 rfl) 6 rfl ?_
  refine zz_bipush (v := (7 : Int32)) hb (z_dec dX11_add 42 rfl) (by decide) ?_
  refine zz_iconst (v := (0 : Int32)) hb (z_dec dX11_add 43 rfl) (by decide) ?_
  refine zz_inv (as := [.int (I 313 8), .int (7 : Int32), .int (0 : Int32)]) (d := 0) (mc := (0, 0)) (P := (qV (fun J => J = g8))) (X := nX) hb ho hnl hR hE mkX11_set rfl ckX11 t0 rfl ⟨Nat.le_refl 0, Nat.le_refl 0⟩ rfl (rX11_add 1 rfl) (rX11_add 2 rfl) (rX11_add 3 rfl) rfl (z_dec dX11_add 44 rfl) m8 (fun v J8 hp => ?_) (fun _ _ h => h.elim)
  obtain ⟨rfl, w8⟩ := hp
  have w8 := w8.symm
  subst w8
  show ZZ K (0, 0) 77 [(0, .ref 312), (1, .int v1), (2, .int v2), (3, .int v3), (4, .int v4), (5, .int v5), (6, .int (I 313 8))] [] g8
  refine zz_aload_n hb (z_dec dX11_add 45 rfl) rfl 0 rfl ?_
  refine zz_getr (k := 0) (q := 313) hb ho rfl ckX11 t0 rfl rfl (rX11_add 0 rfl) rfl (z_dec dX11_add 46 rfl) ?_
  refine zz_bipush (v := (8 : Int32)) hb (z_dec dX11_add 47 rfl) (by decide) ?_
  refine zz_dup2 hb (z_dec dX11_add 48 rfl) rfl rfl ?_
  refine zz_iald (j := 8) hb (show isT (kw K) 20 313 from isT.f (k := 0) t0 hw rfl rfl rfl (by decide)) rfl (zvi rfl (zin rfl)) (z_dec dX11_add 49 rfl) ?_
  refine zz_iconst (v := (1 : Int32)) hb (z_dec dX11_add 50 rfl) (by decide) ?_
  refine zz_iadd hb (z_dec dX11_add 51 rfl) ?_
  refine zz_iast (j := 8) hb (show isT (kw K) 20 313 from isT.f (k := 0) t0 hw rfl rfl rfl (by decide)) rfl (zvi rfl (zin rfl)) (z_dec dX11_add 52 rfl) ?_
  refine zz_iload hb (z_dec dX11_add 53 rfl) 6 rfl ?_
  exact zz_iret hb hE ⟨Nat.le_refl 0, Nat.le_refl 0⟩ (z_dec dX11_add 54 rfl) h9
set_option maxRecDepth 20000 in
theorem bX11_throwAway_0 {K : zK} {P : Option Value → zM → Prop} {X : String → zM → Prop} (hK : zIs K RX11 cX11_throwAway 3 (some .int) 1 (0, 0) P X) (hw : wOK (kw K)) {I : zM} (t0 : isT (kw K) 11 312) {v1 : Int32} {f1 : Int32} {g1 : zM} (m1 : CT (kG K) (kw K) (kl K) (yX11_of, cX11_of, 3, (some .int)) 0 (0, 0) [.ref 312, .int v1, .int (5 : Int32)] I (qE f1 g1) nX) {g2 : zM} (m2 : CT (kG K) (kw K) (kl K) (yX11_set, cX11_set, 4, none) 0 (0, 0) [.ref 312, .int v1, .int (5 : Int32), .int (0 : Int32)] g1 (qV (fun J => J = g2)) nX) {g3 : zM} (m3 : CT (kG K) (kw K) (kl K) (yX11_set, cX11_set, 4, none) 0 (0, 0) [.ref 312, .int v1, .int (6 : Int32), .int (g2 313 9)] g2 (qV (fun J => J = g3)) nX) (h4 : P (some (.int f1)) g3) : ZZ K (0, 0) 0 [(0, .ref 312), (1, .int v1)] [] I := by
  obtain ⟨hb, ho, hnl, hR, hE⟩ := hK
  refine zz_aload_n hb (z_dec dX11_throwAway 0 rfl) rfl 0 rfl ?_
  refine zz_iload_n hb (z_dec dX11_throwAway 1 rfl) rfl 1 rfl ?_
  refine zz_iconst (v := (5 : Int32)) hb (z_dec dX11_throwAway 2 rfl) (by decide) ?_
  refine zz_inv (as := [.int v1, .int (5 : Int32)]) (d := 0) (mc := (0, 0)) (P := (qE f1 g1)) (X := nX) hb ho hnl hR hE mkX11_of rfl ckX11 t0 rfl ⟨Nat.le_refl 0, Nat.le_refl 0⟩ rfl (rX11_throwAway 0 rfl) (rX11_throwAway 1 rfl) (rX11_throwAway 2 rfl) rfl (z_dec dX11_throwAway 3 rfl) m1 (fun v J1 hp => ?_) (fun _ _ h => h.elim)
  obtain ⟨r1, rfl, e1, w1⟩ := hp
  have e1 := e1.symm
  subst e1
  have w1 := w1.symm
  subst w1
  show ZZ K (0, 0) 6 [(0, .ref 312), (1, .int v1)] [.int f1] g1
  refine zz_istore_n (L' := [(0, .ref 312), (1, .int v1), (2, .int f1)]) hb (z_dec dX11_throwAway 4 rfl) rfl hnl rfl [1, 2, 0] rfl ?_
  refine zz_aload_n hb (z_dec dX11_throwAway 5 rfl) rfl 0 rfl ?_
  refine zz_iload_n hb (z_dec dX11_throwAway 6 rfl) rfl 1 rfl ?_
  refine zz_iconst (v := (5 : Int32)) hb (z_dec dX11_throwAway 7 rfl) (by decide) ?_
  refine zz_iconst (v := (0 : Int32)) hb (z_dec dX11_throwAway 8 rfl) (by decide) ?_
  refine zz_inv (as := [.int v1, .int (5 : Int32), .int (0 : Int32)]) (d := 0) (mc := (0, 0)) (P := (qV (fun J => J = g2))) (X := nX) hb ho hnl hR hE mkX11_set rfl ckX11 t0 rfl ⟨Nat.le_refl 0, Nat.le_refl 0⟩ rfl (rX11_throwAway 3 rfl) (rX11_throwAway 4 rfl) (rX11_throwAway 5 rfl) rfl (z_dec dX11_throwAway 9 rfl) m2 (fun v J2 hp => ?_) (fun _ _ h => h.elim)
  obtain ⟨rfl, w2⟩ := hp
  have w2 := w2.symm
  subst w2
  show ZZ K (0, 0) 14 [(0, .ref 312), (1, .int v1), (2, .int f1)] [] g2
  refine zz_aload_n hb (z_dec dX11_throwAway 10 rfl) rfl 0 rfl ?_
  refine zz_iload_n hb (z_dec dX11_throwAway 11 rfl) rfl 1 rfl ?_
  refine zz_bipush (v := (6 : Int32)) hb (z_dec dX11_throwAway 12 rfl) (by decide) ?_
  refine zz_aload_n hb (z_dec dX11_throwAway 13 rfl) rfl 0 rfl ?_
  refine zz_getr (k := 0) (q := 313) hb ho rfl ckX11 t0 rfl rfl (rX11_throwAway 6 rfl) rfl (z_dec dX11_throwAway 14 rfl) ?_
  refine zz_bipush (v := (9 : Int32)) hb (z_dec dX11_throwAway 15 rfl) (by decide) ?_
  refine zz_iald (j := 9) hb (show isT (kw K) 20 313 from isT.f (k := 0) t0 hw rfl rfl rfl (by decide)) rfl (zvi rfl (zin rfl)) (z_dec dX11_throwAway 16 rfl) ?_
  refine zz_inv (as := [.int v1, .int (6 : Int32), .int (g2 313 9)]) (d := 0) (mc := (0, 0)) (P := (qV (fun J => J = g3))) (X := nX) hb ho hnl hR hE mkX11_set rfl ckX11 t0 rfl ⟨Nat.le_refl 0, Nat.le_refl 0⟩ rfl (rX11_throwAway 3 rfl) (rX11_throwAway 4 rfl) (rX11_throwAway 5 rfl) rfl (z_dec dX11_throwAway 17 rfl) m3 (fun v J3 hp => ?_) (fun _ _ h => h.elim)
  obtain ⟨rfl, w3⟩ := hp
  have w3 := w3.symm
  subst w3
  show ZZ K (0, 0) 28 [(0, .ref 312), (1, .int v1), (2, .int f1)] [] g3
  refine zz_iload_n hb (z_dec dX11_throwAway 18 rfl) rfl 2 rfl ?_
  exact zz_iret hb hE ⟨Nat.le_refl 0, Nat.le_refl 0⟩ (z_dec dX11_throwAway 19 rfl) h4
set_option maxRecDepth 20000 in
theorem bX11_appendWord_0 {K : zK} {P : Option Value → zM → Prop} {X : String → zM → Prop} (hK : zIs K RX11 cX11_appendWord 3 none 0 (0, 0) P X) (hw : wOK (kw K)) {I : zM} (t0 : isT (kw K) 11 312) {v1 : Int32} (k1 : ZZ K (0, 0) 3 [(0, .ref 312), (1, .int v1), (2, .int (24 : Int32))] [] I) : ZZ K (0, 0) 0 [(0, .ref 312), (1, .int v1)] [] I := by
  obtain ⟨hb, ho, hnl, hR, hE⟩ := hK
  refine zz_bipush (v := (24 : Int32)) hb (z_dec dX11_appendWord 0 rfl) (by decide) ?_
  refine zz_istore_n (L' := [(0, .ref 312), (1, .int v1), (2, .int (24 : Int32))]) hb (z_dec dX11_appendWord 1 rfl) rfl hnl rfl [1, 2, 0] rfl ?_
  exact k1
set_option maxRecDepth 20000 in
theorem bX11_appendWord_3 {K : zK} {P : Option Value → zM → Prop} {X : String → zM → Prop} (hK : zIs K RX11 cX11_appendWord 3 none 0 (0, 0) P X) (hw : wOK (kw K)) {I : zM} (t0 : isT (kw K) 11 312) {v1 : Int32} {v2 : Int32} (h2 : ∀ (c1 : v2 < 0), P none I) (h3 : ∀ (c1 : ¬ v2 < 0), vp_in (I 312 4) 600) (k4 : ∀ (c1 : ¬ v2 < 0), ZZ K (0, 0) 3 [(0, .ref 312), (1, .int v1), (2, .int (v2 + (-8)))] [] (up (up I 315 ((I 312 4).toNatClampNeg) ((v1 >>> (v2 &&& 31)) &&& (255 : Int32))) 312 4 (((up I 315 ((I 312 4).toNatClampNeg) ((v1 >>> (v2 &&& 31)) &&& (255 : Int32))) 312 4) + (1 : Int32)))) : ZZ K (0, 0) 3 [(0, .ref 312), (1, .int v1), (2, .int v2)] [] I := by
  obtain ⟨hb, ho, hnl, hR, hE⟩ := hK
  refine zz_iload_n hb (z_dec dX11_appendWord 2 rfl) rfl 2 rfl ?_
  refine zz_if_lt (tgt := 39) hb (z_dec dX11_appendWord 3 rfl) (by decide) (fun c1 => ?_) (fun c1 => ?_)
  · exact zz_vret hb hE ⟨Nat.le_refl 0, Nat.le_refl 0⟩ (z_dec dX11_appendWord 22 rfl) (h2 c1)
  · refine zz_aload_n hb (z_dec dX11_appendWord 4 rfl) rfl 0 rfl ?_
    refine zz_getr (k := 3) (q := 315) hb ho rfl ckX11 t0 rfl rfl (rX11_appendWord 0 rfl) rfl (z_dec dX11_appendWord 5 rfl) ?_
    refine zz_aload_n hb (z_dec dX11_appendWord 6 rfl) rfl 0 rfl ?_
    refine zz_get (k := 4) hb ho ckX11 t0 rfl rfl (rX11_appendWord 1 rfl) rfl (z_dec dX11_appendWord 7 rfl) ?_
    refine zz_iload_n hb (z_dec dX11_appendWord 8 rfl) rfl 1 rfl ?_
    refine zz_iload_n hb (z_dec dX11_appendWord 9 rfl) rfl 2 rfl ?_
    refine zz_ishr hb (z_dec dX11_appendWord 10 rfl) ?_
    refine zz_sipush (v := (255 : Int32)) hb (z_dec dX11_appendWord 11 rfl) (by decide) ?_
    refine zz_iand hb (z_dec dX11_appendWord 12 rfl) ?_
    refine zz_iast (j := (I 312 4).toNatClampNeg) hb (show isT (kw K) 20 315 from isT.f (k := 3) t0 hw rfl rfl rfl (by decide)) rfl (zvi rfl (h3 c1)) (z_dec dX11_appendWord 13 rfl) ?_
    refine zz_aload_n hb (z_dec dX11_appendWord 14 rfl) rfl 0 rfl ?_
    refine zz_dup hb (z_dec dX11_appendWord 15 rfl) rfl ?_
    refine zz_get (k := 4) hb ho ckX11 t0 rfl rfl (rX11_appendWord 1 rfl) rfl (z_dec dX11_appendWord 16 rfl) ?_
    refine zz_iconst (v := (1 : Int32)) hb (z_dec dX11_appendWord 17 rfl) (by decide) ?_
    refine zz_iadd hb (z_dec dX11_appendWord 18 rfl) ?_
    refine zz_put (k := 4) hb ho ckX11 t0 rfl rfl (rX11_appendWord 1 rfl) rfl rfl rfl (z_dec dX11_appendWord 19 rfl) ?_
    refine zz_iinc (v := (v2 + (-8))) (L' := [(0, .ref 312), (1, .int v1), (2, .int (v2 + (-8)))]) hb (z_dec dX11_appendWord 20 rfl) 2 rfl rfl hnl rfl [1, 2, 0] rfl ?_
    refine zz_goto (tgt := 3) hb (z_dec dX11_appendWord 21 rfl) (by decide) ?_
    exact (k4 c1)
set_option maxRecDepth 20000 in
theorem bX11_append_0 {K : zK} {P : Option Value → zM → Prop} {X : String → zM → Prop} (hK : zIs K RX11 cX11_append 6 (some .int) 1 (0, 0) P X) (hw : wOK (kw K)) {I : zM} (t0 : isT (kw K) 11 312) {v1 : Int32} {v2 : Int32} {v3 : Int32} {v4 : Int32} {v5 : Int32} (k2 : ∀ (c1 : ((I 312 4) + (20 : Int32)) ≤ (600 : Int32)), ZZ K (0, 0) 19 [(0, .ref 312), (1, .int v1), (2, .int v2), (3, .int v3), (4, .int v4), (5, .int v5)] [.int (0 : Int32), .ref 312] I) (k3 : ∀ (c1 : ¬ ((I 312 4) + (20 : Int32)) ≤ (600 : Int32)), ZZ K (0, 0) 19 [(0, .ref 312), (1, .int v1), (2, .int v2), (3, .int v3), (4, .int v4), (5, .int v5)] [.int (1 : Int32), .ref 312] I) : ZZ K (0, 0) 0 [(0, .ref 312), (1, .int v1), (2, .int v2), (3, .int v3), (4, .int v4), (5, .int v5)] [] I := by
  obtain ⟨hb, ho, hnl, hR, hE⟩ := hK
  refine zz_aload_n hb (z_dec dX11_append 0 rfl) rfl 0 rfl ?_
  refine zz_aload_n hb (z_dec dX11_append 1 rfl) rfl 0 rfl ?_
  refine zz_get (k := 4) hb ho ckX11 t0 rfl rfl (rX11_append 0 rfl) rfl (z_dec dX11_append 2 rfl) ?_
  refine zz_bipush (v := (20 : Int32)) hb (z_dec dX11_append 3 rfl) (by decide) ?_
  refine zz_iadd hb (z_dec dX11_append 4 rfl) ?_
  refine zz_sipush (v := (600 : Int32)) hb (z_dec dX11_append 5 rfl) (by decide) ?_
  refine zz_icmp_le (tgt := 18) hb (z_dec dX11_append 6 rfl) (by decide) (fun c1 => ?_) (fun c1 => ?_)
  · refine zz_iconst (v := (0 : Int32)) hb (z_dec dX11_append 9 rfl) (by decide) ?_
    exact (k2 c1)
  · refine zz_iconst (v := (1 : Int32)) hb (z_dec dX11_append 7 rfl) (by decide) ?_
    refine zz_goto (tgt := 19) hb (z_dec dX11_append 8 rfl) (by decide) ?_
    exact (k3 c1)
set_option maxRecDepth 20000 in
theorem bX11_append_19 {K : zK} {P : Option Value → zM → Prop} {X : String → zM → Prop} (hK : zIs K RX11 cX11_append 6 (some .int) 1 (0, 0) P X) (hw : wOK (kw K)) {I : zM} (t0 : isT (kw K) 11 312) {v1 : Int32} {v2 : Int32} {v3 : Int32} {v4 : Int32} {v5 : Int32} (ts0 : isT (kw K) 11 312) {vs1 : Int32} {f1 : Int32} {g1 : zM} (m1 : CT (kG K) (kw K) (kl K) (yX11_fails, cX11_fails, 4, (some .boolean)) 0 (0, 0) [.ref 312, .int vs1, .int (0 : Int32), .int (0 : Int32)] I (qE f1 g1) nX) {g3 : zM} (m3 : ∀ (c2 : f1 = 0), CT (kG K) (kw K) (kl K) (yX11_appendWord, cX11_appendWord, 3, none) 0 (0, 0) [.ref 312, .int v1] g1 (qV (fun J => J = g3)) nX) {g4 : zM} (m4 : ∀ (c2 : f1 = 0), CT (kG K) (kw K) (kl K) (yX11_appendWord, cX11_appendWord, 3, none) 0 (0, 0) [.ref 312, .int v2] g3 (qV (fun J => J = g4)) nX) {g5 : zM} (m5 : ∀ (c2 : f1 = 0), CT (kG K) (kw K) (kl K) (yX11_appendWord, cX11_appendWord, 3, none) 0 (0, 0) [.ref 312, .int v3] g4 (qV (fun J => J = g5)) nX) {g6 : zM} (m6 : ∀ (c2 : f1 = 0), CT (kG K) (kw K) (kl K) (yX11_appendWord, cX11_appendWord, 3, none) 0 (0, 0) [.ref 312, .int v4] g5 (qV (fun J => J = g6)) nX) {g7 : zM} (m7 : ∀ (c2 : f1 = 0), CT (kG K) (kw K) (kl K) (yX11_appendWord, cX11_appendWord, 3, none) 0 (0, 0) [.ref 312, .int v5] g6 (qV (fun J => J = g7)) nX) (h8 : ∀ (c2 : f1 = 0), P (some (.int (g7 312 4))) g7) (h9 : ∀ (c2 : ¬ f1 = 0), P (some (.int (0 : Int32))) g1) : ZZ K (0, 0) 19 [(0, .ref 312), (1, .int v1), (2, .int v2), (3, .int v3), (4, .int v4), (5, .int v5)] [.int vs1, .ref 312] I := by
  obtain ⟨hb, ho, hnl, hR, hE⟩ := hK
  refine zz_iconst (v := (0 : Int32)) hb (z_dec dX11_append 10 rfl) (by decide) ?_
  refine zz_iconst (v := (0 : Int32)) hb (z_dec dX11_append 11 rfl) (by decide) ?_
  refine zz_inv (as := [.int vs1, .int (0 : Int32), .int (0 : Int32)]) (d := 0) (mc := (0, 0)) (P := (qE f1 g1)) (X := nX) hb ho hnl hR hE mkX11_fails rfl ckX11 ts0 rfl ⟨Nat.le_refl 0, Nat.le_refl 0⟩ rfl (rX11_append 1 rfl) (rX11_append 2 rfl) (rX11_append 3 rfl) rfl (z_dec dX11_append 12 rfl) m1 (fun v J1 hp => ?_) (fun _ _ h => h.elim)
  obtain ⟨r1, rfl, e1, w1⟩ := hp
  have e1 := e1.symm
  subst e1
  have w1 := w1.symm
  subst w1
  show ZZ K (0, 0) 24 [(0, .ref 312), (1, .int v1), (2, .int v2), (3, .int v3), (4, .int v4), (5, .int v5)] [.int f1] g1
  refine zz_if_eq (tgt := 29) hb (z_dec dX11_append 13 rfl) (by decide) (fun c2 => ?_) (fun c2 => ?_)
  · refine zz_aload_n hb (z_dec dX11_append 16 rfl) rfl 0 rfl ?_
    refine zz_iload_n hb (z_dec dX11_append 17 rfl) rfl 1 rfl ?_
    refine zz_inv (as := [.int v1]) (d := 0) (mc := (0, 0)) (P := (qV (fun J => J = g3))) (X := nX) hb ho hnl hR hE mkX11_appendWord rfl ckX11 t0 rfl ⟨Nat.le_refl 0, Nat.le_refl 0⟩ rfl (rX11_append 4 rfl) (rX11_append 5 rfl) (rX11_append 6 rfl) rfl (z_dec dX11_append 18 rfl) (m3 c2) (fun v J3 hp => ?_) (fun _ _ h => h.elim)
    obtain ⟨rfl, w3⟩ := hp
    have w3 := w3.symm
    subst w3
    show ZZ K (0, 0) 34 [(0, .ref 312), (1, .int v1), (2, .int v2), (3, .int v3), (4, .int v4), (5, .int v5)] [] g3
    refine zz_aload_n hb (z_dec dX11_append 19 rfl) rfl 0 rfl ?_
    refine zz_iload_n hb (z_dec dX11_append 20 rfl) rfl 2 rfl ?_
    refine zz_inv (as := [.int v2]) (d := 0) (mc := (0, 0)) (P := (qV (fun J => J = g4))) (X := nX) hb ho hnl hR hE mkX11_appendWord rfl ckX11 t0 rfl ⟨Nat.le_refl 0, Nat.le_refl 0⟩ rfl (rX11_append 4 rfl) (rX11_append 5 rfl) (rX11_append 6 rfl) rfl (z_dec dX11_append 21 rfl) (m4 c2) (fun v J4 hp => ?_) (fun _ _ h => h.elim)
    obtain ⟨rfl, w4⟩ := hp
    have w4 := w4.symm
    subst w4
    show ZZ K (0, 0) 39 [(0, .ref 312), (1, .int v1), (2, .int v2), (3, .int v3), (4, .int v4), (5, .int v5)] [] g4
    refine zz_aload_n hb (z_dec dX11_append 22 rfl) rfl 0 rfl ?_
    refine zz_iload_n hb (z_dec dX11_append 23 rfl) rfl 3 rfl ?_
    refine zz_inv (as := [.int v3]) (d := 0) (mc := (0, 0)) (P := (qV (fun J => J = g5))) (X := nX) hb ho hnl hR hE mkX11_appendWord rfl ckX11 t0 rfl ⟨Nat.le_refl 0, Nat.le_refl 0⟩ rfl (rX11_append 4 rfl) (rX11_append 5 rfl) (rX11_append 6 rfl) rfl (z_dec dX11_append 24 rfl) (m5 c2) (fun v J5 hp => ?_) (fun _ _ h => h.elim)
    obtain ⟨rfl, w5⟩ := hp
    have w5 := w5.symm
    subst w5
    show ZZ K (0, 0) 44 [(0, .ref 312), (1, .int v1), (2, .int v2), (3, .int v3), (4, .int v4), (5, .int v5)] [] g5
    refine zz_aload_n hb (z_dec dX11_append 25 rfl) rfl 0 rfl ?_
    refine zz_iload hb (z_dec dX11_append 26 rfl) 4 rfl ?_
    refine zz_inv (as := [.int v4]) (d := 0) (mc := (0, 0)) (P := (qV (fun J => J = g6))) (X := nX) hb ho hnl hR hE mkX11_appendWord rfl ckX11 t0 rfl ⟨Nat.le_refl 0, Nat.le_refl 0⟩ rfl (rX11_append 4 rfl) (rX11_append 5 rfl) (rX11_append 6 rfl) rfl (z_dec dX11_append 27 rfl) (m6 c2) (fun v J6 hp => ?_) (fun _ _ h => h.elim)
    obtain ⟨rfl, w6⟩ := hp
    have w6 := w6.symm
    subst w6
    show ZZ K (0, 0) 50 [(0, .ref 312), (1, .int v1), (2, .int v2), (3, .int v3), (4, .int v4), (5, .int v5)] [] g6
    refine zz_aload_n hb (z_dec dX11_append 28 rfl) rfl 0 rfl ?_
    refine zz_iload hb (z_dec dX11_append 29 rfl) 5 rfl ?_
    refine zz_inv (as := [.int v5]) (d := 0) (mc := (0, 0)) (P := (qV (fun J => J = g7))) (X := nX) hb ho hnl hR hE mkX11_appendWord rfl ckX11 t0 rfl ⟨Nat.le_refl 0, Nat.le_refl 0⟩ rfl (rX11_append 4 rfl) (rX11_append 5 rfl) (rX11_append 6 rfl) rfl (z_dec dX11_append 30 rfl) (m7 c2) (fun v J7 hp => ?_) (fun _ _ h => h.elim)
    obtain ⟨rfl, w7⟩ := hp
    have w7 := w7.symm
    subst w7
    show ZZ K (0, 0) 56 [(0, .ref 312), (1, .int v1), (2, .int v2), (3, .int v3), (4, .int v4), (5, .int v5)] [] g7
    refine zz_aload_n hb (z_dec dX11_append 31 rfl) rfl 0 rfl ?_
    refine zz_get (k := 4) hb ho ckX11 t0 rfl rfl (rX11_append 0 rfl) rfl (z_dec dX11_append 32 rfl) ?_
    exact zz_iret hb hE ⟨Nat.le_refl 0, Nat.le_refl 0⟩ (z_dec dX11_append 33 rfl) (h8 c2)
  · refine zz_iconst (v := (0 : Int32)) hb (z_dec dX11_append 14 rfl) (by decide) ?_
    exact zz_iret hb hE ⟨Nat.le_refl 0, Nat.le_refl 0⟩ (z_dec dX11_append 15 rfl) (h9 c2)
set_option maxRecDepth 20000 in
theorem bX11_truncate_0 {K : zK} {P : Option Value → zM → Prop} {X : String → zM → Prop} (hK : zIs K RX11 cX11_truncate 2 (some .int) 1 (0, 0) P X) (hw : wOK (kw K)) {I : zM} (t0 : isT (kw K) 11 312) {v1 : Int32} {f1 : Int32} {g1 : zM} (m1 : CT (kG K) (kw K) (kl K) (yX11_in, cX11_in, 3, (some .boolean)) 0 (0, 0) [.int v1, .int (0 : Int32), .int (I 312 4)] I (qE f1 g1) nX) (k3 : ∀ (c2 : ¬ f1 = 0), ZZ K (0, 0) 18 [(0, .ref 312), (1, .int v1)] [.int (0 : Int32), .ref 312] g1) (k4 : ∀ (c2 : f1 = 0), ZZ K (0, 0) 18 [(0, .ref 312), (1, .int v1)] [.int (1 : Int32), .ref 312] g1) : ZZ K (0, 0) 0 [(0, .ref 312), (1, .int v1)] [] I := by
  obtain ⟨hb, ho, hnl, hR, hE⟩ := hK
  refine zz_aload_n hb (z_dec dX11_truncate 0 rfl) rfl 0 rfl ?_
  refine zz_iload_n hb (z_dec dX11_truncate 1 rfl) rfl 1 rfl ?_
  refine zz_iconst (v := (0 : Int32)) hb (z_dec dX11_truncate 2 rfl) (by decide) ?_
  refine zz_aload_n hb (z_dec dX11_truncate 3 rfl) rfl 0 rfl ?_
  refine zz_get (k := 4) hb ho ckX11 t0 rfl rfl (rX11_truncate 0 rfl) rfl (z_dec dX11_truncate 4 rfl) ?_
  refine zz_invS (as := [.int v1, .int (0 : Int32), .int (I 312 4)]) (d := 0) (mc := (0, 0)) (P := (qE f1 g1)) (X := nX) hb ho hnl hR hE mkX11_in rfl rfl ⟨Nat.le_refl 0, Nat.le_refl 0⟩ rfl (rX11_truncate 1 rfl) (rX11_truncate 2 rfl) rfl (z_dec dX11_truncate 5 rfl) m1 (fun v J1 hp => ?_) (fun _ _ h => h.elim)
  obtain ⟨r1, rfl, e1, w1⟩ := hp
  have e1 := e1.symm
  subst e1
  have w1 := w1.symm
  subst w1
  show ZZ K (0, 0) 10 [(0, .ref 312), (1, .int v1)] [.int f1, .ref 312] g1
  refine zz_if_ne (tgt := 17) hb (z_dec dX11_truncate 6 rfl) (by decide) (fun c2 => ?_) (fun c2 => ?_)
  · refine zz_iconst (v := (0 : Int32)) hb (z_dec dX11_truncate 9 rfl) (by decide) ?_
    exact (k3 c2)
  · refine zz_iconst (v := (1 : Int32)) hb (z_dec dX11_truncate 7 rfl) (by decide) ?_
    refine zz_goto (tgt := 18) hb (z_dec dX11_truncate 8 rfl) (by decide) ?_
    exact (k4 c2)
set_option maxRecDepth 20000 in
theorem bX11_truncate_18 {K : zK} {P : Option Value → zM → Prop} {X : String → zM → Prop} (hK : zIs K RX11 cX11_truncate 2 (some .int) 1 (0, 0) P X) (hw : wOK (kw K)) {I : zM} (t0 : isT (kw K) 11 312) {v1 : Int32} (ts0 : isT (kw K) 11 312) {vs1 : Int32} {f1 : Int32} {g1 : zM} (m1 : CT (kG K) (kw K) (kl K) (yX11_fails, cX11_fails, 4, (some .boolean)) 0 (0, 0) [.ref 312, .int vs1, .int (0 : Int32), .int (0 : Int32)] I (qE f1 g1) nX) (h3 : ∀ (c2 : f1 = 0), P (some (.int v1)) (up g1 312 4 v1)) (h4 : ∀ (c2 : ¬ f1 = 0), P (some (.int (0 : Int32))) g1) : ZZ K (0, 0) 18 [(0, .ref 312), (1, .int v1)] [.int vs1, .ref 312] I := by
  obtain ⟨hb, ho, hnl, hR, hE⟩ := hK
  refine zz_iconst (v := (0 : Int32)) hb (z_dec dX11_truncate 10 rfl) (by decide) ?_
  refine zz_iconst (v := (0 : Int32)) hb (z_dec dX11_truncate 11 rfl) (by decide) ?_
  refine zz_inv (as := [.int vs1, .int (0 : Int32), .int (0 : Int32)]) (d := 0) (mc := (0, 0)) (P := (qE f1 g1)) (X := nX) hb ho hnl hR hE mkX11_fails rfl ckX11 ts0 rfl ⟨Nat.le_refl 0, Nat.le_refl 0⟩ rfl (rX11_truncate 3 rfl) (rX11_truncate 4 rfl) (rX11_truncate 5 rfl) rfl (z_dec dX11_truncate 12 rfl) m1 (fun v J1 hp => ?_) (fun _ _ h => h.elim)
  obtain ⟨r1, rfl, e1, w1⟩ := hp
  have e1 := e1.symm
  subst e1
  have w1 := w1.symm
  subst w1
  show ZZ K (0, 0) 23 [(0, .ref 312), (1, .int v1)] [.int f1] g1
  refine zz_if_eq (tgt := 28) hb (z_dec dX11_truncate 13 rfl) (by decide) (fun c2 => ?_) (fun c2 => ?_)
  · refine zz_aload_n hb (z_dec dX11_truncate 16 rfl) rfl 0 rfl ?_
    refine zz_iload_n hb (z_dec dX11_truncate 17 rfl) rfl 1 rfl ?_
    refine zz_put (k := 4) hb ho ckX11 t0 rfl rfl (rX11_truncate 0 rfl) rfl rfl rfl (z_dec dX11_truncate 18 rfl) ?_
    refine zz_iload_n hb (z_dec dX11_truncate 19 rfl) rfl 1 rfl ?_
    exact zz_iret hb hE ⟨Nat.le_refl 0, Nat.le_refl 0⟩ (z_dec dX11_truncate 20 rfl) (h3 c2)
  · refine zz_iconst (v := (0 : Int32)) hb (z_dec dX11_truncate 14 rfl) (by decide) ?_
    exact zz_iret hb hE ⟨Nat.le_refl 0, Nat.le_refl 0⟩ (z_dec dX11_truncate 15 rfl) (h4 c2)
set_option maxRecDepth 20000 in
theorem bX11_isSmall_0 {K : zK} {P : Option Value → zM → Prop} {X : String → zM → Prop} (hK : zIs K RX11 cX11_isSmall 1 (some .boolean) 0 (0, 0) P X) (hw : wOK (kw K)) {I : zM} {v0 : Int32} (h2 : ∀ (c1 : v0 < (97 : Int32)), P (some (.int (0 : Int32))) I) (h4 : ∀ (c1 : ¬ v0 < (97 : Int32)) (c3 : (122 : Int32) < v0), P (some (.int (0 : Int32))) I) (h5 : ∀ (c1 : ¬ v0 < (97 : Int32)) (c3 : ¬ (122 : Int32) < v0), P (some (.int (1 : Int32))) I) : ZZ K (0, 0) 0 [(0, .int v0)] [] I := by
  obtain ⟨hb, ho, hnl, hR, hE⟩ := hK
  refine zz_iload_n hb (z_dec dX11_isSmall 0 rfl) rfl 0 rfl ?_
  refine zz_bipush (v := (97 : Int32)) hb (z_dec dX11_isSmall 1 rfl) (by decide) ?_
  refine zz_icmp_lt (tgt := 16) hb (z_dec dX11_isSmall 2 rfl) (by decide) (fun c1 => ?_) (fun c1 => ?_)
  · refine zz_iconst (v := (0 : Int32)) hb (z_dec dX11_isSmall 8 rfl) (by decide) ?_
    exact zz_zret hb hE ⟨Nat.le_refl 0, Nat.le_refl 0⟩ (by decide) (z_dec dX11_isSmall 9 rfl) (h2 c1)
  · refine zz_iload_n hb (z_dec dX11_isSmall 3 rfl) rfl 0 rfl ?_
    refine zz_bipush (v := (122 : Int32)) hb (z_dec dX11_isSmall 4 rfl) (by decide) ?_
    refine zz_icmp_gt (tgt := 16) hb (z_dec dX11_isSmall 5 rfl) (by decide) (fun c3 => ?_) (fun c3 => ?_)
    · refine zz_iconst (v := (0 : Int32)) hb (z_dec dX11_isSmall 8 rfl) (by decide) ?_
      exact zz_zret hb hE ⟨Nat.le_refl 0, Nat.le_refl 0⟩ (by decide) (z_dec dX11_isSmall 9 rfl) (h4 c1 c3)
    · refine zz_iconst (v := (1 : Int32)) hb (z_dec dX11_isSmall 6 rfl) (by decide) ?_
      refine zz_goto (tgt := 17) hb (z_dec dX11_isSmall 7 rfl) (by decide) ?_
      exact zz_zret hb hE ⟨Nat.le_refl 0, Nat.le_refl 0⟩ (by decide) (z_dec dX11_isSmall 9 rfl) (h5 c1 c3)
set_option maxRecDepth 20000 in
theorem bX11_isDigit_0 {K : zK} {P : Option Value → zM → Prop} {X : String → zM → Prop} (hK : zIs K RX11 cX11_isDigit 1 (some .boolean) 0 (0, 0) P X) (hw : wOK (kw K)) {I : zM} {v0 : Int32} (h2 : ∀ (c1 : v0 < (48 : Int32)), P (some (.int (0 : Int32))) I) (h4 : ∀ (c1 : ¬ v0 < (48 : Int32)) (c3 : (57 : Int32) < v0), P (some (.int (0 : Int32))) I) (h5 : ∀ (c1 : ¬ v0 < (48 : Int32)) (c3 : ¬ (57 : Int32) < v0), P (some (.int (1 : Int32))) I) : ZZ K (0, 0) 0 [(0, .int v0)] [] I := by
  obtain ⟨hb, ho, hnl, hR, hE⟩ := hK
  refine zz_iload_n hb (z_dec dX11_isDigit 0 rfl) rfl 0 rfl ?_
  refine zz_bipush (v := (48 : Int32)) hb (z_dec dX11_isDigit 1 rfl) (by decide) ?_
  refine zz_icmp_lt (tgt := 16) hb (z_dec dX11_isDigit 2 rfl) (by decide) (fun c1 => ?_) (fun c1 => ?_)
  · refine zz_iconst (v := (0 : Int32)) hb (z_dec dX11_isDigit 8 rfl) (by decide) ?_
    exact zz_zret hb hE ⟨Nat.le_refl 0, Nat.le_refl 0⟩ (by decide) (z_dec dX11_isDigit 9 rfl) (h2 c1)
  · refine zz_iload_n hb (z_dec dX11_isDigit 3 rfl) rfl 0 rfl ?_
    refine zz_bipush (v := (57 : Int32)) hb (z_dec dX11_isDigit 4 rfl) (by decide) ?_
    refine zz_icmp_gt (tgt := 16) hb (z_dec dX11_isDigit 5 rfl) (by decide) (fun c3 => ?_) (fun c3 => ?_)
    · refine zz_iconst (v := (0 : Int32)) hb (z_dec dX11_isDigit 8 rfl) (by decide) ?_
      exact zz_zret hb hE ⟨Nat.le_refl 0, Nat.le_refl 0⟩ (by decide) (z_dec dX11_isDigit 9 rfl) (h4 c1 c3)
    · refine zz_iconst (v := (1 : Int32)) hb (z_dec dX11_isDigit 6 rfl) (by decide) ?_
      refine zz_goto (tgt := 17) hb (z_dec dX11_isDigit 7 rfl) (by decide) ?_
      exact zz_zret hb hE ⟨Nat.le_refl 0, Nat.le_refl 0⟩ (by decide) (z_dec dX11_isDigit 9 rfl) (h5 c1 c3)
set_option maxRecDepth 20000 in
theorem bX11_token_0 {K : zK} {P : Option Value → zM → Prop} {X : String → zM → Prop} (hK : zIs K RX11 cX11_token 1 none 1 (0, 0) P X) (hw : wOK (kw K)) {I : zM} (t0 : isT (kw K) 11 312) (k2 : ∀ (c1 : (I 312 4) ≤ (I 312 10)), ZZ K (0, 0) 52 [(0, .ref 312)] [] I) (h3 : ∀ (c1 : ¬ (I 312 4) ≤ (I 312 10)), vp_in (I 312 10) 600) (k5 : ∀ (c1 : ¬ (I 312 4) ≤ (I 312 10)) (c4 : (I 315 (I 312 10).toNatClampNeg) = (32 : Int32)), ZZ K (0, 0) 39 [(0, .ref 312)] [] I) (h6 : ∀ (c1 : ¬ (I 312 4) ≤ (I 312 10)) (c4 : ¬ (I 315 (I 312 10).toNatClampNeg) = (32 : Int32)), vp_in (I 312 10) 600) (k8 : ∀ (c1 : ¬ (I 312 4) ≤ (I 312 10)) (c4 : ¬ (I 315 (I 312 10).toNatClampNeg) = (32 : Int32)) (c7 : ¬ (I 315 (I 312 10).toNatClampNeg) = (10 : Int32)), ZZ K (0, 0) 52 [(0, .ref 312)] [] I) (k9 : ∀ (c1 : ¬ (I 312 4) ≤ (I 312 10)) (c4 : ¬ (I 315 (I 312 10).toNatClampNeg) = (32 : Int32)) (c7 : (I 315 (I 312 10).toNatClampNeg) = (10 : Int32)), ZZ K (0, 0) 39 [(0, .ref 312)] [] I) : ZZ K (0, 0) 0 [(0, .ref 312)] [] I := by
  obtain ⟨hb, ho, hnl, hR, hE⟩ := hK
  refine zz_aload_n hb (z_dec dX11_token 0 rfl) rfl 0 rfl ?_
  refine zz_get (k := 10) hb ho ckX11 t0 rfl rfl (rX11_token 0 rfl) rfl (z_dec dX11_token 1 rfl) ?_
  refine zz_aload_n hb (z_dec dX11_token 2 rfl) rfl 0 rfl ?_
  refine zz_get (k := 4) hb ho ckX11 t0 rfl rfl (rX11_token 1 rfl) rfl (z_dec dX11_token 3 rfl) ?_
  refine zz_icmp_ge (tgt := 52) hb (z_dec dX11_token 4 rfl) (by decide) (fun c1 => ?_) (fun c1 => ?_)
  · exact (k2 c1)
  · refine zz_aload_n hb (z_dec dX11_token 5 rfl) rfl 0 rfl ?_
    refine zz_getr (k := 3) (q := 315) hb ho rfl ckX11 t0 rfl rfl (rX11_token 2 rfl) rfl (z_dec dX11_token 6 rfl) ?_
    refine zz_aload_n hb (z_dec dX11_token 7 rfl) rfl 0 rfl ?_
    refine zz_get (k := 10) hb ho ckX11 t0 rfl rfl (rX11_token 0 rfl) rfl (z_dec dX11_token 8 rfl) ?_
    refine zz_iald (j := (I 312 10).toNatClampNeg) hb (show isT (kw K) 20 315 from isT.f (k := 3) t0 hw rfl rfl rfl (by decide)) rfl (zvi rfl (h3 c1)) (z_dec dX11_token 9 rfl) ?_
    refine zz_bipush (v := (32 : Int32)) hb (z_dec dX11_token 10 rfl) (by decide) ?_
    refine zz_icmp_eq (tgt := 39) hb (z_dec dX11_token 11 rfl) (by decide) (fun c4 => ?_) (fun c4 => ?_)
    · exact (k5 c1 c4)
    · refine zz_aload_n hb (z_dec dX11_token 12 rfl) rfl 0 rfl ?_
      refine zz_getr (k := 3) (q := 315) hb ho rfl ckX11 t0 rfl rfl (rX11_token 2 rfl) rfl (z_dec dX11_token 13 rfl) ?_
      refine zz_aload_n hb (z_dec dX11_token 14 rfl) rfl 0 rfl ?_
      refine zz_get (k := 10) hb ho ckX11 t0 rfl rfl (rX11_token 0 rfl) rfl (z_dec dX11_token 15 rfl) ?_
      refine zz_iald (j := (I 312 10).toNatClampNeg) hb (show isT (kw K) 20 315 from isT.f (k := 3) t0 hw rfl rfl rfl (by decide)) rfl (zvi rfl (h6 c1 c4)) (z_dec dX11_token 16 rfl) ?_
      refine zz_bipush (v := (10 : Int32)) hb (z_dec dX11_token 17 rfl) (by decide) ?_
      refine zz_icmp_ne (tgt := 52) hb (z_dec dX11_token 18 rfl) (by decide) (fun c7 => ?_) (fun c7 => ?_)
      · exact (k8 c1 c4 c7)
      · exact (k9 c1 c4 c7)
set_option maxRecDepth 20000 in
theorem bX11_token_39 {K : zK} {P : Option Value → zM → Prop} {X : String → zM → Prop} (hK : zIs K RX11 cX11_token 1 none 1 (0, 0) P X) (hw : wOK (kw K)) {I : zM} (t0 : isT (kw K) 11 312) (k1 : ZZ K (0, 0) 0 [(0, .ref 312)] [] (up I 312 10 ((I 312 10) + (1 : Int32)))) : ZZ K (0, 0) 39 [(0, .ref 312)] [] I := by
  obtain ⟨hb, ho, hnl, hR, hE⟩ := hK
  refine zz_aload_n hb (z_dec dX11_token 19 rfl) rfl 0 rfl ?_
  refine zz_dup hb (z_dec dX11_token 20 rfl) rfl ?_
  refine zz_get (k := 10) hb ho ckX11 t0 rfl rfl (rX11_token 0 rfl) rfl (z_dec dX11_token 21 rfl) ?_
  refine zz_iconst (v := (1 : Int32)) hb (z_dec dX11_token 22 rfl) (by decide) ?_
  refine zz_iadd hb (z_dec dX11_token 23 rfl) ?_
  refine zz_put (k := 10) hb ho ckX11 t0 rfl rfl (rX11_token 0 rfl) rfl rfl rfl (z_dec dX11_token 24 rfl) ?_
  refine zz_goto (tgt := 0) hb (z_dec dX11_token 25 rfl) (by decide) ?_
  exact k1
set_option maxRecDepth 20000 in
theorem bX11_token_52 {K : zK} {P : Option Value → zM → Prop} {X : String → zM → Prop} (hK : zIs K RX11 cX11_token 1 none 1 (0, 0) P X) (hw : wOK (kw K)) {I : zM} (t0 : isT (kw K) 11 312) (h2 : ∀ (c1 : ¬ ((up I 312 12 (I 312 10)) 312 10) = ((up I 312 12 (I 312 10)) 312 4)), vp_in ((up I 312 12 (I 312 10)) 312 10) 600) {f3 : Int32} {g3 : zM} (m3 : ∀ (c1 : ¬ ((up I 312 12 (I 312 10)) 312 10) = ((up I 312 12 (I 312 10)) 312 4)), CT (kG K) (kw K) (kl K) (yX11_isSmall, cX11_isSmall, 1, (some .boolean)) 0 (0, 0) [.int ((up I 312 12 (I 312 10)) 315 ((up I 312 12 (I 312 10)) 312 10).toNatClampNeg)] (up I 312 12 (I 312 10)) (qE f3 g3) nX) (h5 : ∀ (c1 : ¬ ((up I 312 12 (I 312 10)) 312 10) = ((up I 312 12 (I 312 10)) 312 4)) (c4 : f3 = 0), vp_in (g3 312 10) 600) {f6 : Int32} {g6 : zM} (m6 : ∀ (c1 : ¬ ((up I 312 12 (I 312 10)) 312 10) = ((up I 312 12 (I 312 10)) 312 4)) (c4 : f3 = 0), CT (kG K) (kw K) (kl K) (yX11_isDigit, cX11_isDigit, 1, (some .boolean)) 0 (0, 0) [.int (g3 315 (g3 312 10).toNatClampNeg)] g3 (qE f6 g6) nX) (h8 : ∀ (c1 : ¬ ((up I 312 12 (I 312 10)) 312 10) = ((up I 312 12 (I 312 10)) 312 4)) (c4 : f3 = 0) (c7 : f6 = 0), vp_in (g6 312 10) 600) (k10 : ∀ (c1 : ¬ ((up I 312 12 (I 312 10)) 312 10) = ((up I 312 12 (I 312 10)) 312 4)) (c4 : f3 = 0) (c7 : f6 = 0) (c9 : ¬ (g6 315 (g6 312 10).toNatClampNeg) = (59 : Int32)), ZZ K (0, 0) 294 [(0, .ref 312)] [.int (4 : Int32), .ref 312] g6) (k11 : ∀ (c1 : ¬ ((up I 312 12 (I 312 10)) 312 10) = ((up I 312 12 (I 312 10)) 312 4)) (c4 : f3 = 0) (c7 : f6 = 0) (c9 : (g6 315 (g6 312 10).toNatClampNeg) = (59 : Int32)), ZZ K (0, 0) 294 [(0, .ref 312)] [.int (3 : Int32), .ref 312] g6) (k12 : ∀ (c1 : ¬ ((up I 312 12 (I 312 10)) 312 10) = ((up I 312 12 (I 312 10)) 312 4)) (c4 : f3 = 0) (c7 : ¬ f6 = 0), ZZ K (0, 0) 175 [(0, .ref 312)] [] (up g6 312 13 (0 : Int32))) (k13 : ∀ (c1 : ¬ ((up I 312 12 (I 312 10)) 312 10) = ((up I 312 12 (I 312 10)) 312 4)) (c4 : ¬ f3 = 0), ZZ K (0, 0) 92 [(0, .ref 312)] [] g3) (h14 : ∀ (c1 : ((up I 312 12 (I 312 10)) 312 10) = ((up I 312 12 (I 312 10)) 312 4)), P none (up (up I 312 12 (I 312 10)) 312 11 (0 : Int32))) : ZZ K (0, 0) 52 [(0, .ref 312)] [] I := by
  obtain ⟨hb, ho, hnl, hR, hE⟩ := hK
  refine zz_aload_n hb (z_dec dX11_token 26 rfl) rfl 0 rfl ?_
  refine zz_aload_n hb (z_dec dX11_token 27 rfl) rfl 0 rfl ?_
  refine zz_get (k := 10) hb ho ckX11 t0 rfl rfl (rX11_token 0 rfl) rfl (z_dec dX11_token 28 rfl) ?_
  refine zz_put (k := 12) hb ho ckX11 t0 rfl rfl (rX11_token 3 rfl) rfl rfl rfl (z_dec dX11_token 29 rfl) ?_
  refine zz_aload_n hb (z_dec dX11_token 30 rfl) rfl 0 rfl ?_
  refine zz_get (k := 10) hb ho ckX11 t0 rfl rfl (rX11_token 0 rfl) rfl (z_dec dX11_token 31 rfl) ?_
  refine zz_aload_n hb (z_dec dX11_token 32 rfl) rfl 0 rfl ?_
  refine zz_get (k := 4) hb ho ckX11 t0 rfl rfl (rX11_token 1 rfl) rfl (z_dec dX11_token 33 rfl) ?_
  refine zz_icmp_ne (tgt := 77) hb (z_dec dX11_token 34 rfl) (by decide) (fun c1 => ?_) (fun c1 => ?_)
  · refine zz_aload_n hb (z_dec dX11_token 39 rfl) rfl 0 rfl ?_
    refine zz_getr (k := 3) (q := 315) hb ho rfl ckX11 t0 rfl rfl (rX11_token 2 rfl) rfl (z_dec dX11_token 40 rfl) ?_
    refine zz_aload_n hb (z_dec dX11_token 41 rfl) rfl 0 rfl ?_
    refine zz_get (k := 10) hb ho ckX11 t0 rfl rfl (rX11_token 0 rfl) rfl (z_dec dX11_token 42 rfl) ?_
    refine zz_iald (j := ((up I 312 12 (I 312 10)) 312 10).toNatClampNeg) hb (show isT (kw K) 20 315 from isT.f (k := 3) t0 hw rfl rfl rfl (by decide)) rfl (zvi rfl (h2 c1)) (z_dec dX11_token 43 rfl) ?_
    refine zz_invS (as := [.int ((up I 312 12 (I 312 10)) 315 ((up I 312 12 (I 312 10)) 312 10).toNatClampNeg)]) (d := 0) (mc := (0, 0)) (P := (qE f3 g3)) (X := nX) hb ho hnl hR hE mkX11_isSmall rfl rfl ⟨Nat.le_refl 0, Nat.le_refl 0⟩ rfl (rX11_token 5 rfl) (rX11_token 6 rfl) rfl (z_dec dX11_token 44 rfl) (m3 c1) (fun v J3 hp => ?_) (fun _ _ h => h.elim)
    obtain ⟨r3, rfl, e3, w3⟩ := hp
    have e3 := e3.symm
    subst e3
    have w3 := w3.symm
    subst w3
    show ZZ K (0, 0) 89 [(0, .ref 312)] [.int f3] g3
    refine zz_if_eq (tgt := 155) hb (z_dec dX11_token 45 rfl) (by decide) (fun c4 => ?_) (fun c4 => ?_)
    · refine zz_aload_n hb (z_dec dX11_token 78 rfl) rfl 0 rfl ?_
      refine zz_getr (k := 3) (q := 315) hb ho rfl ckX11 t0 rfl rfl (rX11_token 2 rfl) rfl (z_dec dX11_token 79 rfl) ?_
      refine zz_aload_n hb (z_dec dX11_token 80 rfl) rfl 0 rfl ?_
      refine zz_get (k := 10) hb ho ckX11 t0 rfl rfl (rX11_token 0 rfl) rfl (z_dec dX11_token 81 rfl) ?_
      refine zz_iald (j := (g3 312 10).toNatClampNeg) hb (show isT (kw K) 20 315 from isT.f (k := 3) t0 hw rfl rfl rfl (by decide)) rfl (zvi rfl (h5 c1 c4)) (z_dec dX11_token 82 rfl) ?_
      refine zz_invS (as := [.int (g3 315 (g3 312 10).toNatClampNeg)]) (d := 0) (mc := (0, 0)) (P := (qE f6 g6)) (X := nX) hb ho hnl hR hE mkX11_isDigit rfl rfl ⟨Nat.le_refl 0, Nat.le_refl 0⟩ rfl (rX11_token 7 rfl) (rX11_token 8 rfl) rfl (z_dec dX11_token 83 rfl) (m6 c1 c4) (fun v J6 hp => ?_) (fun _ _ h => h.elim)
      obtain ⟨r6, rfl, e6, w6⟩ := hp
      have e6 := e6.symm
      subst e6
      have w6 := w6.symm
      subst w6
      show ZZ K (0, 0) 167 [(0, .ref 312)] [.int f6] g6
      refine zz_if_eq (tgt := 274) hb (z_dec dX11_token 84 rfl) (by decide) (fun c7 => ?_) (fun c7 => ?_)
      · refine zz_aload_n hb (z_dec dX11_token 141 rfl) rfl 0 rfl ?_
        refine zz_aload_n hb (z_dec dX11_token 142 rfl) rfl 0 rfl ?_
        refine zz_getr (k := 3) (q := 315) hb ho rfl ckX11 t0 rfl rfl (rX11_token 2 rfl) rfl (z_dec dX11_token 143 rfl) ?_
        refine zz_aload_n hb (z_dec dX11_token 144 rfl) rfl 0 rfl ?_
        refine zz_get (k := 10) hb ho ckX11 t0 rfl rfl (rX11_token 0 rfl) rfl (z_dec dX11_token 145 rfl) ?_
        refine zz_iald (j := (g6 312 10).toNatClampNeg) hb (show isT (kw K) 20 315 from isT.f (k := 3) t0 hw rfl rfl rfl (by decide)) rfl (zvi rfl (h8 c1 c4 c7)) (z_dec dX11_token 146 rfl) ?_
        refine zz_bipush (v := (59 : Int32)) hb (z_dec dX11_token 147 rfl) (by decide) ?_
        refine zz_icmp_ne (tgt := 293) hb (z_dec dX11_token 148 rfl) (by decide) (fun c9 => ?_) (fun c9 => ?_)
        · refine zz_iconst (v := (4 : Int32)) hb (z_dec dX11_token 151 rfl) (by decide) ?_
          exact (k10 c1 c4 c7 c9)
        · refine zz_iconst (v := (3 : Int32)) hb (z_dec dX11_token 149 rfl) (by decide) ?_
          refine zz_goto (tgt := 294) hb (z_dec dX11_token 150 rfl) (by decide) ?_
          exact (k11 c1 c4 c7 c9)
      · refine zz_aload_n hb (z_dec dX11_token 85 rfl) rfl 0 rfl ?_
        refine zz_iconst (v := (0 : Int32)) hb (z_dec dX11_token 86 rfl) (by decide) ?_
        refine zz_put (k := 13) hb ho ckX11 t0 rfl rfl (rX11_token 9 rfl) rfl rfl rfl (z_dec dX11_token 87 rfl) ?_
        exact (k12 c1 c4 c7)
    · exact (k13 c1 c4)
  · refine zz_aload_n hb (z_dec dX11_token 35 rfl) rfl 0 rfl ?_
    refine zz_iconst (v := (0 : Int32)) hb (z_dec dX11_token 36 rfl) (by decide) ?_
    refine zz_put (k := 11) hb ho ckX11 t0 rfl rfl (rX11_token 4 rfl) rfl rfl rfl (z_dec dX11_token 37 rfl) ?_
    exact zz_vret hb hE ⟨Nat.le_refl 0, Nat.le_refl 0⟩ (z_dec dX11_token 38 rfl) (h14 c1)
set_option maxRecDepth 20000 in
theorem bX11_token_92 {K : zK} {P : Option Value → zM → Prop} {X : String → zM → Prop} (hK : zIs K RX11 cX11_token 1 none 1 (0, 0) P X) (hw : wOK (kw K)) {I : zM} (t0 : isT (kw K) 11 312) (k2 : ∀ (c1 : (I 312 4) ≤ (I 312 10)), ZZ K (0, 0) 131 [(0, .ref 312)] [] I) (h3 : ∀ (c1 : ¬ (I 312 4) ≤ (I 312 10)), vp_in (I 312 10) 600) {f4 : Int32} {g4 : zM} (m4 : ∀ (c1 : ¬ (I 312 4) ≤ (I 312 10)), CT (kG K) (kw K) (kl K) (yX11_isSmall, cX11_isSmall, 1, (some .boolean)) 0 (0, 0) [.int (I 315 (I 312 10).toNatClampNeg)] I (qE f4 g4) nX) (k6 : ∀ (c1 : ¬ (I 312 4) ≤ (I 312 10)) (c5 : f4 = 0), ZZ K (0, 0) 131 [(0, .ref 312)] [] g4) (k7 : ∀ (c1 : ¬ (I 312 4) ≤ (I 312 10)) (c5 : ¬ f4 = 0), ZZ K (0, 0) 92 [(0, .ref 312)] [] (up g4 312 10 ((g4 312 10) + (1 : Int32)))) : ZZ K (0, 0) 92 [(0, .ref 312)] [] I := by
  obtain ⟨hb, ho, hnl, hR, hE⟩ := hK
  refine zz_aload_n hb (z_dec dX11_token 46 rfl) rfl 0 rfl ?_
  refine zz_get (k := 10) hb ho ckX11 t0 rfl rfl (rX11_token 0 rfl) rfl (z_dec dX11_token 47 rfl) ?_
  refine zz_aload_n hb (z_dec dX11_token 48 rfl) rfl 0 rfl ?_
  refine zz_get (k := 4) hb ho ckX11 t0 rfl rfl (rX11_token 1 rfl) rfl (z_dec dX11_token 49 rfl) ?_
  refine zz_icmp_ge (tgt := 131) hb (z_dec dX11_token 50 rfl) (by decide) (fun c1 => ?_) (fun c1 => ?_)
  · exact (k2 c1)
  · refine zz_aload_n hb (z_dec dX11_token 51 rfl) rfl 0 rfl ?_
    refine zz_getr (k := 3) (q := 315) hb ho rfl ckX11 t0 rfl rfl (rX11_token 2 rfl) rfl (z_dec dX11_token 52 rfl) ?_
    refine zz_aload_n hb (z_dec dX11_token 53 rfl) rfl 0 rfl ?_
    refine zz_get (k := 10) hb ho ckX11 t0 rfl rfl (rX11_token 0 rfl) rfl (z_dec dX11_token 54 rfl) ?_
    refine zz_iald (j := (I 312 10).toNatClampNeg) hb (show isT (kw K) 20 315 from isT.f (k := 3) t0 hw rfl rfl rfl (by decide)) rfl (zvi rfl (h3 c1)) (z_dec dX11_token 55 rfl) ?_
    refine zz_invS (as := [.int (I 315 (I 312 10).toNatClampNeg)]) (d := 0) (mc := (0, 0)) (P := (qE f4 g4)) (X := nX) hb ho hnl hR hE mkX11_isSmall rfl rfl ⟨Nat.le_refl 0, Nat.le_refl 0⟩ rfl (rX11_token 5 rfl) (rX11_token 6 rfl) rfl (z_dec dX11_token 56 rfl) (m4 c1) (fun v J4 hp => ?_) (fun _ _ h => h.elim)
    obtain ⟨r4, rfl, e4, w4⟩ := hp
    have e4 := e4.symm
    subst e4
    have w4 := w4.symm
    subst w4
    show ZZ K (0, 0) 115 [(0, .ref 312)] [.int f4] g4
    refine zz_if_eq (tgt := 131) hb (z_dec dX11_token 57 rfl) (by decide) (fun c5 => ?_) (fun c5 => ?_)
    · exact (k6 c1 c5)
    · refine zz_aload_n hb (z_dec dX11_token 58 rfl) rfl 0 rfl ?_
      refine zz_dup hb (z_dec dX11_token 59 rfl) rfl ?_
      refine zz_get (k := 10) hb ho ckX11 t0 rfl rfl (rX11_token 0 rfl) rfl (z_dec dX11_token 60 rfl) ?_
      refine zz_iconst (v := (1 : Int32)) hb (z_dec dX11_token 61 rfl) (by decide) ?_
      refine zz_iadd hb (z_dec dX11_token 62 rfl) ?_
      refine zz_put (k := 10) hb ho ckX11 t0 rfl rfl (rX11_token 0 rfl) rfl rfl rfl (z_dec dX11_token 63 rfl) ?_
      refine zz_goto (tgt := 92) hb (z_dec dX11_token 64 rfl) (by decide) ?_
      exact (k7 c1 c5)
set_option maxRecDepth 20000 in
theorem bX11_token_131 {K : zK} {P : Option Value → zM → Prop} {X : String → zM → Prop} (hK : zIs K RX11 cX11_token 1 none 1 (0, 0) P X) (hw : wOK (kw K)) {I : zM} (t0 : isT (kw K) 11 312) (h2 : ∀ (c1 : ((I 312 10) - (I 312 12)) ≤ (8 : Int32)), P none (up I 312 11 (1 : Int32))) (h3 : ∀ (c1 : ¬ ((I 312 10) - (I 312 12)) ≤ (8 : Int32)), P none (up I 312 11 (4 : Int32))) : ZZ K (0, 0) 131 [(0, .ref 312)] [] I := by
  obtain ⟨hb, ho, hnl, hR, hE⟩ := hK
  refine zz_aload_n hb (z_dec dX11_token 65 rfl) rfl 0 rfl ?_
  refine zz_aload_n hb (z_dec dX11_token 66 rfl) rfl 0 rfl ?_
  refine zz_get (k := 10) hb ho ckX11 t0 rfl rfl (rX11_token 0 rfl) rfl (z_dec dX11_token 67 rfl) ?_
  refine zz_aload_n hb (z_dec dX11_token 68 rfl) rfl 0 rfl ?_
  refine zz_get (k := 12) hb ho ckX11 t0 rfl rfl (rX11_token 3 rfl) rfl (z_dec dX11_token 69 rfl) ?_
  refine zz_isub hb (z_dec dX11_token 70 rfl) ?_
  refine zz_bipush (v := (8 : Int32)) hb (z_dec dX11_token 71 rfl) (by decide) ?_
  refine zz_icmp_le (tgt := 150) hb (z_dec dX11_token 72 rfl) (by decide) (fun c1 => ?_) (fun c1 => ?_)
  · refine zz_iconst (v := (1 : Int32)) hb (z_dec dX11_token 75 rfl) (by decide) ?_
    refine zz_put (k := 11) hb ho ckX11 t0 rfl rfl (rX11_token 4 rfl) rfl rfl rfl (z_dec dX11_token 76 rfl) ?_
    exact zz_vret hb hE ⟨Nat.le_refl 0, Nat.le_refl 0⟩ (z_dec dX11_token 77 rfl) (h2 c1)
  · refine zz_iconst (v := (4 : Int32)) hb (z_dec dX11_token 73 rfl) (by decide) ?_
    refine zz_goto (tgt := 151) hb (z_dec dX11_token 74 rfl) (by decide) ?_
    refine zz_put (k := 11) hb ho ckX11 t0 rfl rfl (rX11_token 4 rfl) rfl rfl rfl (z_dec dX11_token 76 rfl) ?_
    exact zz_vret hb hE ⟨Nat.le_refl 0, Nat.le_refl 0⟩ (z_dec dX11_token 77 rfl) (h3 c1)
set_option maxRecDepth 20000 in
theorem bX11_token_175 {K : zK} {P : Option Value → zM → Prop} {X : String → zM → Prop} (hK : zIs K RX11 cX11_token 1 none 1 (0, 0) P X) (hw : wOK (kw K)) {I : zM} (t0 : isT (kw K) 11 312) (k2 : ∀ (c1 : (I 312 4) ≤ (I 312 10)), ZZ K (0, 0) 251 [(0, .ref 312)] [] I) (h3 : ∀ (c1 : ¬ (I 312 4) ≤ (I 312 10)), vp_in (I 312 10) 600) {f4 : Int32} {g4 : zM} (m4 : ∀ (c1 : ¬ (I 312 4) ≤ (I 312 10)), CT (kG K) (kw K) (kl K) (yX11_isDigit, cX11_isDigit, 1, (some .boolean)) 0 (0, 0) [.int (I 315 (I 312 10).toNatClampNeg)] I (qE f4 g4) nX) (k6 : ∀ (c1 : ¬ (I 312 4) ≤ (I 312 10)) (c5 : f4 = 0), ZZ K (0, 0) 251 [(0, .ref 312)] [] g4) (k8 : ∀ (c1 : ¬ (I 312 4) ≤ (I 312 10)) (c5 : ¬ f4 = 0) (c7 : (3 : Int32) ≤ ((g4 312 10) - (g4 312 12))), ZZ K (0, 0) 238 [(0, .ref 312)] [] g4) (h9 : ∀ (c1 : ¬ (I 312 4) ≤ (I 312 10)) (c5 : ¬ f4 = 0) (c7 : ¬ (3 : Int32) ≤ ((g4 312 10) - (g4 312 12))), vp_in (g4 312 10) 600) (k10 : ∀ (c1 : ¬ (I 312 4) ≤ (I 312 10)) (c5 : ¬ f4 = 0) (c7 : ¬ (3 : Int32) ≤ ((g4 312 10) - (g4 312 12))), ZZ K (0, 0) 238 [(0, .ref 312)] [] (up g4 312 13 ((((g4 312 13) * (10 : Int32)) + (g4 315 (g4 312 10).toNatClampNeg)) - (48 : Int32)))) : ZZ K (0, 0) 175 [(0, .ref 312)] [] I := by
  obtain ⟨hb, ho, hnl, hR, hE⟩ := hK
  refine zz_aload_n hb (z_dec dX11_token 88 rfl) rfl 0 rfl ?_
  refine zz_get (k := 10) hb ho ckX11 t0 rfl rfl (rX11_token 0 rfl) rfl (z_dec dX11_token 89 rfl) ?_
  refine zz_aload_n hb (z_dec dX11_token 90 rfl) rfl 0 rfl ?_
  refine zz_get (k := 4) hb ho ckX11 t0 rfl rfl (rX11_token 1 rfl) rfl (z_dec dX11_token 91 rfl) ?_
  refine zz_icmp_ge (tgt := 251) hb (z_dec dX11_token 92 rfl) (by decide) (fun c1 => ?_) (fun c1 => ?_)
  · exact (k2 c1)
  · refine zz_aload_n hb (z_dec dX11_token 93 rfl) rfl 0 rfl ?_
    refine zz_getr (k := 3) (q := 315) hb ho rfl ckX11 t0 rfl rfl (rX11_token 2 rfl) rfl (z_dec dX11_token 94 rfl) ?_
    refine zz_aload_n hb (z_dec dX11_token 95 rfl) rfl 0 rfl ?_
    refine zz_get (k := 10) hb ho ckX11 t0 rfl rfl (rX11_token 0 rfl) rfl (z_dec dX11_token 96 rfl) ?_
    refine zz_iald (j := (I 312 10).toNatClampNeg) hb (show isT (kw K) 20 315 from isT.f (k := 3) t0 hw rfl rfl rfl (by decide)) rfl (zvi rfl (h3 c1)) (z_dec dX11_token 97 rfl) ?_
    refine zz_invS (as := [.int (I 315 (I 312 10).toNatClampNeg)]) (d := 0) (mc := (0, 0)) (P := (qE f4 g4)) (X := nX) hb ho hnl hR hE mkX11_isDigit rfl rfl ⟨Nat.le_refl 0, Nat.le_refl 0⟩ rfl (rX11_token 7 rfl) (rX11_token 8 rfl) rfl (z_dec dX11_token 98 rfl) (m4 c1) (fun v J4 hp => ?_) (fun _ _ h => h.elim)
    obtain ⟨r4, rfl, e4, w4⟩ := hp
    have e4 := e4.symm
    subst e4
    have w4 := w4.symm
    subst w4
    show ZZ K (0, 0) 198 [(0, .ref 312)] [.int f4] g4
    refine zz_if_eq (tgt := 251) hb (z_dec dX11_token 99 rfl) (by decide) (fun c5 => ?_) (fun c5 => ?_)
    · exact (k6 c1 c5)
    · refine zz_aload_n hb (z_dec dX11_token 100 rfl) rfl 0 rfl ?_
      refine zz_get (k := 10) hb ho ckX11 t0 rfl rfl (rX11_token 0 rfl) rfl (z_dec dX11_token 101 rfl) ?_
      refine zz_aload_n hb (z_dec dX11_token 102 rfl) rfl 0 rfl ?_
      refine zz_get (k := 12) hb ho ckX11 t0 rfl rfl (rX11_token 3 rfl) rfl (z_dec dX11_token 103 rfl) ?_
      refine zz_isub hb (z_dec dX11_token 104 rfl) ?_
      refine zz_iconst (v := (3 : Int32)) hb (z_dec dX11_token 105 rfl) (by decide) ?_
      refine zz_icmp_ge (tgt := 238) hb (z_dec dX11_token 106 rfl) (by decide) (fun c7 => ?_) (fun c7 => ?_)
      · exact (k8 c1 c5 c7)
      · refine zz_aload_n hb (z_dec dX11_token 107 rfl) rfl 0 rfl ?_
        refine zz_aload_n hb (z_dec dX11_token 108 rfl) rfl 0 rfl ?_
        refine zz_get (k := 13) hb ho ckX11 t0 rfl rfl (rX11_token 9 rfl) rfl (z_dec dX11_token 109 rfl) ?_
        refine zz_bipush (v := (10 : Int32)) hb (z_dec dX11_token 110 rfl) (by decide) ?_
        refine zz_imul hb (z_dec dX11_token 111 rfl) ?_
        refine zz_aload_n hb (z_dec dX11_token 112 rfl) rfl 0 rfl ?_
        refine zz_getr (k := 3) (q := 315) hb ho rfl ckX11 t0 rfl rfl (rX11_token 2 rfl) rfl (z_dec dX11_token 113 rfl) ?_
        refine zz_aload_n hb (z_dec dX11_token 114 rfl) rfl 0 rfl ?_
        refine zz_get (k := 10) hb ho ckX11 t0 rfl rfl (rX11_token 0 rfl) rfl (z_dec dX11_token 115 rfl) ?_
        refine zz_iald (j := (g4 312 10).toNatClampNeg) hb (show isT (kw K) 20 315 from isT.f (k := 3) t0 hw rfl rfl rfl (by decide)) rfl (zvi rfl (h9 c1 c5 c7)) (z_dec dX11_token 116 rfl) ?_
        refine zz_iadd hb (z_dec dX11_token 117 rfl) ?_
        refine zz_bipush (v := (48 : Int32)) hb (z_dec dX11_token 118 rfl) (by decide) ?_
        refine zz_isub hb (z_dec dX11_token 119 rfl) ?_
        refine zz_put (k := 13) hb ho ckX11 t0 rfl rfl (rX11_token 9 rfl) rfl rfl rfl (z_dec dX11_token 120 rfl) ?_
        exact (k10 c1 c5 c7)
set_option maxRecDepth 20000 in
theorem bX11_token_238 {K : zK} {P : Option Value → zM → Prop} {X : String → zM → Prop} (hK : zIs K RX11 cX11_token 1 none 1 (0, 0) P X) (hw : wOK (kw K)) {I : zM} (t0 : isT (kw K) 11 312) (k1 : ZZ K (0, 0) 175 [(0, .ref 312)] [] (up I 312 10 ((I 312 10) + (1 : Int32)))) : ZZ K (0, 0) 238 [(0, .ref 312)] [] I := by
  obtain ⟨hb, ho, hnl, hR, hE⟩ := hK
  refine zz_aload_n hb (z_dec dX11_token 121 rfl) rfl 0 rfl ?_
  refine zz_dup hb (z_dec dX11_token 122 rfl) rfl ?_
  refine zz_get (k := 10) hb ho ckX11 t0 rfl rfl (rX11_token 0 rfl) rfl (z_dec dX11_token 123 rfl) ?_
  refine zz_iconst (v := (1 : Int32)) hb (z_dec dX11_token 124 rfl) (by decide) ?_
  refine zz_iadd hb (z_dec dX11_token 125 rfl) ?_
  refine zz_put (k := 10) hb ho ckX11 t0 rfl rfl (rX11_token 0 rfl) rfl rfl rfl (z_dec dX11_token 126 rfl) ?_
  refine zz_goto (tgt := 175) hb (z_dec dX11_token 127 rfl) (by decide) ?_
  exact k1
set_option maxRecDepth 20000 in
theorem bX11_token_251 {K : zK} {P : Option Value → zM → Prop} {X : String → zM → Prop} (hK : zIs K RX11 cX11_token 1 none 1 (0, 0) P X) (hw : wOK (kw K)) {I : zM} (t0 : isT (kw K) 11 312) (h2 : ∀ (c1 : ((I 312 10) - (I 312 12)) ≤ (3 : Int32)), P none (up I 312 11 (2 : Int32))) (h3 : ∀ (c1 : ¬ ((I 312 10) - (I 312 12)) ≤ (3 : Int32)), P none (up I 312 11 (4 : Int32))) : ZZ K (0, 0) 251 [(0, .ref 312)] [] I := by
  obtain ⟨hb, ho, hnl, hR, hE⟩ := hK
  refine zz_aload_n hb (z_dec dX11_token 128 rfl) rfl 0 rfl ?_
  refine zz_aload_n hb (z_dec dX11_token 129 rfl) rfl 0 rfl ?_
  refine zz_get (k := 10) hb ho ckX11 t0 rfl rfl (rX11_token 0 rfl) rfl (z_dec dX11_token 130 rfl) ?_
  refine zz_aload_n hb (z_dec dX11_token 131 rfl) rfl 0 rfl ?_
  refine zz_get (k := 12) hb ho ckX11 t0 rfl rfl (rX11_token 3 rfl) rfl (z_dec dX11_token 132 rfl) ?_
  refine zz_isub hb (z_dec dX11_token 133 rfl) ?_
  refine zz_iconst (v := (3 : Int32)) hb (z_dec dX11_token 134 rfl) (by decide) ?_
  refine zz_icmp_le (tgt := 269) hb (z_dec dX11_token 135 rfl) (by decide) (fun c1 => ?_) (fun c1 => ?_)
  · refine zz_iconst (v := (2 : Int32)) hb (z_dec dX11_token 138 rfl) (by decide) ?_
    refine zz_put (k := 11) hb ho ckX11 t0 rfl rfl (rX11_token 4 rfl) rfl rfl rfl (z_dec dX11_token 139 rfl) ?_
    exact zz_vret hb hE ⟨Nat.le_refl 0, Nat.le_refl 0⟩ (z_dec dX11_token 140 rfl) (h2 c1)
  · refine zz_iconst (v := (4 : Int32)) hb (z_dec dX11_token 136 rfl) (by decide) ?_
    refine zz_goto (tgt := 270) hb (z_dec dX11_token 137 rfl) (by decide) ?_
    refine zz_put (k := 11) hb ho ckX11 t0 rfl rfl (rX11_token 4 rfl) rfl rfl rfl (z_dec dX11_token 139 rfl) ?_
    exact zz_vret hb hE ⟨Nat.le_refl 0, Nat.le_refl 0⟩ (z_dec dX11_token 140 rfl) (h3 c1)
set_option maxRecDepth 20000 in
theorem bX11_token_294 {K : zK} {P : Option Value → zM → Prop} {X : String → zM → Prop} (hK : zIs K RX11 cX11_token 1 none 1 (0, 0) P X) (hw : wOK (kw K)) {I : zM} (t0 : isT (kw K) 11 312) (ts0 : isT (kw K) 11 312) {vs1 : Int32} (h1 : P none (up (up I 312 11 vs1) 312 10 (((up I 312 11 vs1) 312 10) + (1 : Int32)))) : ZZ K (0, 0) 294 [(0, .ref 312)] [.int vs1, .ref 312] I := by
  obtain ⟨hb, ho, hnl, hR, hE⟩ := hK
  refine zz_put (k := 11) hb ho ckX11 ts0 rfl rfl (rX11_token 4 rfl) rfl rfl rfl (z_dec dX11_token 152 rfl) ?_
  refine zz_aload_n hb (z_dec dX11_token 153 rfl) rfl 0 rfl ?_
  refine zz_dup hb (z_dec dX11_token 154 rfl) rfl ?_
  refine zz_get (k := 10) hb ho ckX11 t0 rfl rfl (rX11_token 0 rfl) rfl (z_dec dX11_token 155 rfl) ?_
  refine zz_iconst (v := (1 : Int32)) hb (z_dec dX11_token 156 rfl) (by decide) ?_
  refine zz_iadd hb (z_dec dX11_token 157 rfl) ?_
  refine zz_put (k := 10) hb ho ckX11 t0 rfl rfl (rX11_token 0 rfl) rfl rfl rfl (z_dec dX11_token 158 rfl) ?_
  exact zz_vret hb hE ⟨Nat.le_refl 0, Nat.le_refl 0⟩ (z_dec dX11_token 159 rfl) h1
set_option maxRecDepth 20000 in
theorem bX11_begin_0 {K : zK} {P : Option Value → zM → Prop} {X : String → zM → Prop} (hK : zIs K RX11 cX11_begin 1 none 2 (0, 0) P X) (hw : wOK (kw K)) {I : zM} (t0 : isT (kw K) 11 312) {g1 : zM} (m1 : CT (kG K) (kw K) (kl K) (yX11_token, cX11_token, 1, none) 1 (0, 0) [.ref 312] (up (up (up I 312 5 (0 : Int32)) 312 6 (-1 : Int32)) 312 10 (0 : Int32)) (qV (fun J => J = g1)) nX) (h2 : P none g1) : ZZ K (0, 0) 0 [(0, .ref 312)] [] I := by
  obtain ⟨hb, ho, hnl, hR, hE⟩ := hK
  refine zz_aload_n hb (z_dec dX11_begin 0 rfl) rfl 0 rfl ?_
  refine zz_iconst (v := (0 : Int32)) hb (z_dec dX11_begin 1 rfl) (by decide) ?_
  refine zz_put (k := 5) hb ho ckX11 t0 rfl rfl (rX11_begin 0 rfl) rfl rfl rfl (z_dec dX11_begin 2 rfl) ?_
  refine zz_aload_n hb (z_dec dX11_begin 3 rfl) rfl 0 rfl ?_
  refine zz_iconst (v := (-1 : Int32)) hb (z_dec dX11_begin 4 rfl) (by decide) ?_
  refine zz_put (k := 6) hb ho ckX11 t0 rfl rfl (rX11_begin 1 rfl) rfl rfl rfl (z_dec dX11_begin 5 rfl) ?_
  refine zz_aload_n hb (z_dec dX11_begin 6 rfl) rfl 0 rfl ?_
  refine zz_iconst (v := (0 : Int32)) hb (z_dec dX11_begin 7 rfl) (by decide) ?_
  refine zz_put (k := 10) hb ho ckX11 t0 rfl rfl (rX11_begin 2 rfl) rfl rfl rfl (z_dec dX11_begin 8 rfl) ?_
  refine zz_aload_n hb (z_dec dX11_begin 9 rfl) rfl 0 rfl ?_
  refine zz_inv (as := []) (d := 1) (mc := (0, 0)) (P := (qV (fun J => J = g1))) (X := nX) hb ho hnl hR hE mkX11_token rfl ckX11 t0 rfl ⟨Nat.le_refl 0, Nat.le_refl 0⟩ rfl (rX11_begin 3 rfl) (rX11_begin 4 rfl) (rX11_begin 5 rfl) rfl (z_dec dX11_begin 10 rfl) m1 (fun v J1 hp => ?_) (fun _ _ h => h.elim)
  obtain ⟨rfl, w1⟩ := hp
  have w1 := w1.symm
  subst w1
  show ZZ K (0, 0) 19 [(0, .ref 312)] [] g1
  exact zz_vret hb hE ⟨Nat.le_refl 0, Nat.le_refl 0⟩ (z_dec dX11_begin 11 rfl) h2
set_option maxRecDepth 20000 in
theorem bX11_wrong_0 {K : zK} {P : Option Value → zM → Prop} {X : String → zM → Prop} (hK : zIs K RX11 cX11_wrong 2 (some .boolean) 0 (0, 0) P X) (hw : wOK (kw K)) {I : zM} (t0 : isT (kw K) 11 312) {v1 : Int32} (h1 : P (some (.int (0 : Int32))) (up (up I 312 5 v1) 312 6 ((up I 312 5 v1) 312 12))) : ZZ K (0, 0) 0 [(0, .ref 312), (1, .int v1)] [] I := by
  obtain ⟨hb, ho, hnl, hR, hE⟩ := hK
  refine zz_aload_n hb (z_dec dX11_wrong 0 rfl) rfl 0 rfl ?_
  refine zz_iload_n hb (z_dec dX11_wrong 1 rfl) rfl 1 rfl ?_
  refine zz_put (k := 5) hb ho ckX11 t0 rfl rfl (rX11_wrong 0 rfl) rfl rfl rfl (z_dec dX11_wrong 2 rfl) ?_
  refine zz_aload_n hb (z_dec dX11_wrong 3 rfl) rfl 0 rfl ?_
  refine zz_aload_n hb (z_dec dX11_wrong 4 rfl) rfl 0 rfl ?_
  refine zz_get (k := 12) hb ho ckX11 t0 rfl rfl (rX11_wrong 1 rfl) rfl (z_dec dX11_wrong 5 rfl) ?_
  refine zz_put (k := 6) hb ho ckX11 t0 rfl rfl (rX11_wrong 2 rfl) rfl rfl rfl (z_dec dX11_wrong 6 rfl) ?_
  refine zz_iconst (v := (0 : Int32)) hb (z_dec dX11_wrong 7 rfl) (by decide) ?_
  exact zz_zret hb hE ⟨Nat.le_refl 0, Nat.le_refl 0⟩ (by decide) (z_dec dX11_wrong 8 rfl) h1
set_option maxRecDepth 20000 in
theorem bX11_isWord_0 {K : zK} {P : Option Value → zM → Prop} {X : String → zM → Prop} {u mc : Nat × Nat} (hK : zIs K RX11 cX11_isWord 3 (some .boolean) 4 mc P X) (hw : wOK (kw K)) {I : zM} (t0 : isT (kw K) 11 312) {v1 : Nat} (g2 : u.1 ≤ mc.1 ∧ u.2 ≤ mc.2) (h3 : ∀ (c1 : ¬ (I 312 11) = (1 : Int32)), P (some (.int (0 : Int32))) I) {f4 : Int32} {g4 : zM} (g_4 : u.1 ≤ mc.1 ∧ u.2 ≤ mc.2) (m4 : ∀ (c1 : (I 312 11) = (1 : Int32)), CT (kG K) (kw K) (kl K) (yJ0_length_8abf5, cJ0_length_8abf5, 1, (some .int)) 1 (0, 0) [.ref v1] I (qE f4 g4) nX) (g5 : ∀ (c1 : (I 312 11) = (1 : Int32)), zIsS v1) (k7 : ∀ (c1 : (I 312 11) = (1 : Int32)) (c6 : ((I 312 10) - (I 312 12)) = f4), ZZ K u 28 [(0, .ref 312), (1, .ref v1), (2, .int (0 : Int32))] [] g4) (g8 : u.1 ≤ mc.1 ∧ u.2 ≤ mc.2) (h9 : ∀ (c1 : (I 312 11) = (1 : Int32)) (c6 : ¬ ((I 312 10) - (I 312 12)) = f4), P (some (.int (0 : Int32))) g4) : ZZ K u 0 [(0, .ref 312), (1, .ref v1)] [] I := by
  obtain ⟨hb, ho, hnl, hR, hE⟩ := hK
  refine zz_aload_n hb (z_dec dX11_isWord 0 rfl) rfl 0 rfl ?_
  refine zz_get (k := 11) hb ho ckX11 t0 rfl rfl (rX11_isWord 0 rfl) rfl (z_dec dX11_isWord 1 rfl) ?_
  refine zz_iconst (v := (1 : Int32)) hb (z_dec dX11_isWord 2 rfl) (by decide) ?_
  refine zz_icmp_ne (tgt := 24) hb (z_dec dX11_isWord 3 rfl) (by decide) (fun c1 => ?_) (fun c1 => ?_)
  · refine zz_iconst (v := (0 : Int32)) hb (z_dec dX11_isWord 12 rfl) (by decide) ?_
    exact zz_zret hb hE g2 (by decide) (z_dec dX11_isWord 13 rfl) (h3 c1)
  · refine zz_aload_n hb (z_dec dX11_isWord 4 rfl) rfl 0 rfl ?_
    refine zz_get (k := 10) hb ho ckX11 t0 rfl rfl (rX11_isWord 1 rfl) rfl (z_dec dX11_isWord 5 rfl) ?_
    refine zz_aload_n hb (z_dec dX11_isWord 6 rfl) rfl 0 rfl ?_
    refine zz_get (k := 12) hb ho ckX11 t0 rfl rfl (rX11_isWord 2 rfl) rfl (z_dec dX11_isWord 7 rfl) ?_
    refine zz_isub hb (z_dec dX11_isWord 8 rfl) ?_
    refine zz_aload_n hb (z_dec dX11_isWord 9 rfl) rfl 1 rfl ?_
    refine zz_invStr (as := []) (d := 1) (mc := (0, 0)) (P := (qE f4 g4)) (X := nX) hb ho hnl hR hE mkJ0_length_8abf5 rfl (g5 c1) rfl rfl g_4 rfl (rX11_isWord 3 rfl) (rX11_isWord 4 rfl) (rX11_isWord 5 rfl) rfl (z_dec dX11_isWord 10 rfl) (m4 c1) (fun v J4 hp => ?_) (fun _ _ h => h.elim)
    obtain ⟨r4, rfl, e4, w4⟩ := hp
    have e4 := e4.symm
    subst e4
    have w4 := w4.symm
    subst w4
    show ZZ K u 21 [(0, .ref 312), (1, .ref v1)] [.int f4, .int ((I 312 10) - (I 312 12))] g4
    refine zz_icmp_eq (tgt := 26) hb (z_dec dX11_isWord 11 rfl) (by decide) (fun c6 => ?_) (fun c6 => ?_)
    · refine zz_iconst (v := (0 : Int32)) hb (z_dec dX11_isWord 14 rfl) (by decide) ?_
      refine zz_istore_n (L' := [(0, .ref 312), (1, .ref v1), (2, .int (0 : Int32))]) hb (z_dec dX11_isWord 15 rfl) rfl hnl rfl [1, 2, 0] rfl ?_
      exact (k7 c1 c6)
    · refine zz_iconst (v := (0 : Int32)) hb (z_dec dX11_isWord 12 rfl) (by decide) ?_
      exact zz_zret hb hE g8 (by decide) (z_dec dX11_isWord 13 rfl) (h9 c1 c6)
set_option maxRecDepth 20000 in
theorem bX11_isWord_28 {K : zK} {P : Option Value → zM → Prop} {X : String → zM → Prop} {u mc : Nat × Nat} (hK : zIs K RX11 cX11_isWord 3 (some .boolean) 4 mc P X) (hw : wOK (kw K)) {I : zM} (t0 : isT (kw K) 11 312) {v1 : Nat} {v2 : Int32} {f1 : Int32} {g1 : zM} (g_1 : u.1 ≤ mc.1 ∧ u.2 ≤ mc.2) (m1 : CT (kG K) (kw K) (kl K) (yJ0_length_8abf5, cJ0_length_8abf5, 1, (some .int)) 1 (0, 0) [.ref v1] I (qE f1 g1) nX) (g2 : zIsS v1) (g4 : u.1 ≤ mc.1 ∧ u.2 ≤ mc.2) (h5 : ∀ (c3 : f1 ≤ v2), P (some (.int (1 : Int32))) g1) (h6 : ∀ (c3 : ¬ f1 ≤ v2), vp_in ((g1 312 12) + v2) 600) {f7 : Int32} {g7 : zM} {mc7 : Nat × Nat} {x7 : String → zM → Prop} (g_7 : u.1 + mc7.1 ≤ mc.1 ∧ u.2 + mc7.2 ≤ mc.2) (n7 : ∀ (c3 : ¬ f1 ≤ v2), ∀ (E : String) (J : zM), x7 E J → X E J) (m7 : ∀ (c3 : ¬ f1 ≤ v2), CT (kG K) (kw K) (kl K) (yJ0_charAt_5068e, cJ0_charAt_5068e, 2, (some .char)) 3 mc7 [.ref v1, .int v2] g1 (qE f7 g7) x7) (g8 : ∀ (c3 : ¬ f1 ≤ v2), zIsS v1) (k10 : ∀ (c3 : ¬ f1 ≤ v2) (c9 : (g1 315 ((g1 312 12) + v2).toNatClampNeg) = f7), ZZ K (u.1 + mc7.1, u.2 + mc7.2) 28 [(0, .ref 312), (1, .ref v1), (2, .int (v2 + 1))] [] g7) (g11 : (u.1 + mc7.1, u.2 + mc7.2).1 ≤ mc.1 ∧ (u.1 + mc7.1, u.2 + mc7.2).2 ≤ mc.2) (h12 : ∀ (c3 : ¬ f1 ≤ v2) (c9 : ¬ (g1 315 ((g1 312 12) + v2).toNatClampNeg) = f7), P (some (.int (0 : Int32))) g7) : ZZ K u 28 [(0, .ref 312), (1, .ref v1), (2, .int v2)] [] I := by
  obtain ⟨hb, ho, hnl, hR, hE⟩ := hK
  refine zz_iload_n hb (z_dec dX11_isWord 16 rfl) rfl 2 rfl ?_
  refine zz_aload_n hb (z_dec dX11_isWord 17 rfl) rfl 1 rfl ?_
  refine zz_invStr (as := []) (d := 1) (mc := (0, 0)) (P := (qE f1 g1)) (X := nX) hb ho hnl hR hE mkJ0_length_8abf5 rfl g2 rfl rfl g_1 rfl (rX11_isWord 3 rfl) (rX11_isWord 4 rfl) (rX11_isWord 5 rfl) rfl (z_dec dX11_isWord 18 rfl) m1 (fun v J1 hp => ?_) (fun _ _ h => h.elim)
  obtain ⟨r1, rfl, e1, w1⟩ := hp
  have e1 := e1.symm
  subst e1
  have w1 := w1.symm
  subst w1
  show ZZ K u 33 [(0, .ref 312), (1, .ref v1), (2, .int v2)] [.int f1, .int v2] g1
  refine zz_icmp_ge (tgt := 63) hb (z_dec dX11_isWord 19 rfl) (by decide) (fun c3 => ?_) (fun c3 => ?_)
  · refine zz_iconst (v := (1 : Int32)) hb (z_dec dX11_isWord 35 rfl) (by decide) ?_
    exact zz_zret hb hE g4 (by decide) (z_dec dX11_isWord 36 rfl) (h5 c3)
  · refine zz_aload_n hb (z_dec dX11_isWord 20 rfl) rfl 0 rfl ?_
    refine zz_getr (k := 3) (q := 315) hb ho rfl ckX11 t0 rfl rfl (rX11_isWord 6 rfl) rfl (z_dec dX11_isWord 21 rfl) ?_
    refine zz_aload_n hb (z_dec dX11_isWord 22 rfl) rfl 0 rfl ?_
    refine zz_get (k := 12) hb ho ckX11 t0 rfl rfl (rX11_isWord 2 rfl) rfl (z_dec dX11_isWord 23 rfl) ?_
    refine zz_iload_n hb (z_dec dX11_isWord 24 rfl) rfl 2 rfl ?_
    refine zz_iadd hb (z_dec dX11_isWord 25 rfl) ?_
    refine zz_iald (j := ((g1 312 12) + v2).toNatClampNeg) hb (show isT (kw K) 20 315 from isT.f (k := 3) t0 hw rfl rfl rfl (by decide)) rfl (zvi rfl (h6 c3)) (z_dec dX11_isWord 26 rfl) ?_
    refine zz_aload_n hb (z_dec dX11_isWord 27 rfl) rfl 1 rfl ?_
    refine zz_iload_n hb (z_dec dX11_isWord 28 rfl) rfl 2 rfl ?_
    refine zz_invStr (as := [.int v2]) (d := 3) (mc := mc7) (P := (qE f7 g7)) (X := x7) hb ho hnl hR hE mkJ0_charAt_5068e rfl (g8 c3) rfl rfl g_7 rfl (rX11_isWord 7 rfl) (rX11_isWord 8 rfl) (rX11_isWord 9 rfl) rfl (z_dec dX11_isWord 29 rfl) (m7 c3) (fun v J7 hp => ?_) (n7 c3)
    obtain ⟨r7, rfl, e7, w7⟩ := hp
    have e7 := e7.symm
    subst e7
    have w7 := w7.symm
    subst w7
    show ZZ K (u.1 + mc7.1, u.2 + mc7.2) 52 [(0, .ref 312), (1, .ref v1), (2, .int v2)] [.int f7, .int (g1 315 ((g1 312 12) + v2).toNatClampNeg)] g7
    refine zz_icmp_eq (tgt := 57) hb (z_dec dX11_isWord 30 rfl) (by decide) (fun c9 => ?_) (fun c9 => ?_)
    · refine zz_iinc (v := (v2 + 1)) (L' := [(0, .ref 312), (1, .ref v1), (2, .int (v2 + 1))]) hb (z_dec dX11_isWord 33 rfl) 2 rfl rfl hnl rfl [1, 2, 0] rfl ?_
      refine zz_goto (tgt := 28) hb (z_dec dX11_isWord 34 rfl) (by decide) ?_
      exact (k10 c3 c9)
    · refine zz_iconst (v := (0 : Int32)) hb (z_dec dX11_isWord 31 rfl) (by decide) ?_
      exact zz_zret hb hE g11 (by decide) (z_dec dX11_isWord 32 rfl) (h12 c3 c9)
set_option maxRecDepth 20000 in
theorem bX11_semicolon_0 {K : zK} {P : Option Value → zM → Prop} {X : String → zM → Prop} (hK : zIs K RX11 cX11_semicolon 1 (some .boolean) 2 (0, 0) P X) (hw : wOK (kw K)) {I : zM} (t0 : isT (kw K) 11 312) {g2 : zM} (m2 : ∀ (c1 : (I 312 11) = (3 : Int32)), CT (kG K) (kw K) (kl K) (yX11_token, cX11_token, 1, none) 1 (0, 0) [.ref 312] I (qV (fun J => J = g2)) nX) (h3 : ∀ (c1 : (I 312 11) = (3 : Int32)), P (some (.int (1 : Int32))) g2) {f4 : Int32} {g4 : zM} (m4 : ∀ (c1 : ¬ (I 312 11) = (3 : Int32)), CT (kG K) (kw K) (kl K) (yX11_wrong, cX11_wrong, 2, (some .boolean)) 0 (0, 0) [.ref 312, .int (1 : Int32)] I (qE f4 g4) nX) (h5 : ∀ (c1 : ¬ (I 312 11) = (3 : Int32)), P (some (.int f4)) g4) (z6 : ∀ (c1 : ¬ (I 312 11) = (3 : Int32)), f4 = 0 ∨ f4 = 1) : ZZ K (0, 0) 0 [(0, .ref 312)] [] I := by
  obtain ⟨hb, ho, hnl, hR, hE⟩ := hK
  refine zz_aload_n hb (z_dec dX11_semicolon 0 rfl) rfl 0 rfl ?_
  refine zz_get (k := 11) hb ho ckX11 t0 rfl rfl (rX11_semicolon 0 rfl) rfl (z_dec dX11_semicolon 1 rfl) ?_
  refine zz_iconst (v := (3 : Int32)) hb (z_dec dX11_semicolon 2 rfl) (by decide) ?_
  refine zz_icmp_eq (tgt := 14) hb (z_dec dX11_semicolon 3 rfl) (by decide) (fun c1 => ?_) (fun c1 => ?_)
  · refine zz_aload_n hb (z_dec dX11_semicolon 8 rfl) rfl 0 rfl ?_
    refine zz_inv (as := []) (d := 1) (mc := (0, 0)) (P := (qV (fun J => J = g2))) (X := nX) hb ho hnl hR hE mkX11_token rfl ckX11 t0 rfl ⟨Nat.le_refl 0, Nat.le_refl 0⟩ rfl (rX11_semicolon 4 rfl) (rX11_semicolon 5 rfl) (rX11_semicolon 6 rfl) rfl (z_dec dX11_semicolon 9 rfl) (m2 c1) (fun v J2 hp => ?_) (fun _ _ h => h.elim)
    obtain ⟨rfl, w2⟩ := hp
    have w2 := w2.symm
    subst w2
    show ZZ K (0, 0) 18 [(0, .ref 312)] [] g2
    refine zz_iconst (v := (1 : Int32)) hb (z_dec dX11_semicolon 10 rfl) (by decide) ?_
    exact zz_zret hb hE ⟨Nat.le_refl 0, Nat.le_refl 0⟩ (by decide) (z_dec dX11_semicolon 11 rfl) (h3 c1)
  · refine zz_aload_n hb (z_dec dX11_semicolon 4 rfl) rfl 0 rfl ?_
    refine zz_iconst (v := (1 : Int32)) hb (z_dec dX11_semicolon 5 rfl) (by decide) ?_
    refine zz_inv (as := [.int (1 : Int32)]) (d := 0) (mc := (0, 0)) (P := (qE f4 g4)) (X := nX) hb ho hnl hR hE mkX11_wrong rfl ckX11 t0 rfl ⟨Nat.le_refl 0, Nat.le_refl 0⟩ rfl (rX11_semicolon 1 rfl) (rX11_semicolon 2 rfl) (rX11_semicolon 3 rfl) rfl (z_dec dX11_semicolon 6 rfl) (m4 c1) (fun v J4 hp => ?_) (fun _ _ h => h.elim)
    obtain ⟨r4, rfl, e4, w4⟩ := hp
    have e4 := e4.symm
    subst e4
    have w4 := w4.symm
    subst w4
    show ZZ K (0, 0) 13 [(0, .ref 312)] [.int f4] g4
    exact zz_zret hb hE ⟨Nat.le_refl 0, Nat.le_refl 0⟩ (z6 c1) (z_dec dX11_semicolon 7 rfl) (h5 c1)
set_option maxRecDepth 20000 in
theorem bX11_clerkNamed_0 {K : zK} {P : Option Value → zM → Prop} {X : String → zM → Prop} (hK : zIs K RX11 cX11_clerkNamed 7 (some .int) 0 (0, 0) P X) (hw : wOK (kw K)) {I : zM} (t0 : isT (kw K) 11 312) {v1 : Int32} {v2 : Int32} (k1 : ZZ K (0, 0) 2 [(0, .ref 312), (1, .int v1), (2, .int v2), (3, .int (0 : Int32))] [] I) : ZZ K (0, 0) 0 [(0, .ref 312), (1, .int v1), (2, .int v2)] [] I := by
  obtain ⟨hb, ho, hnl, hR, hE⟩ := hK
  refine zz_iconst (v := (0 : Int32)) hb (z_dec dX11_clerkNamed 0 rfl) (by decide) ?_
  refine zz_istore_n (L' := [(0, .ref 312), (1, .int v1), (2, .int v2), (3, .int (0 : Int32))]) hb (z_dec dX11_clerkNamed 1 rfl) rfl hnl rfl [1, 2, 3, 0] rfl ?_
  exact k1
set_option maxRecDepth 20000 in
theorem bX11_clerkNamed_2 {K : zK} {P : Option Value → zM → Prop} {X : String → zM → Prop} (hK : zIs K RX11 cX11_clerkNamed 7 (some .int) 0 (0, 0) P X) (hw : wOK (kw K)) {I : zM} (t0 : isT (kw K) 11 312) {v1 : Int32} {v2 : Int32} {v3 : Int32} (h2 : ∀ (c1 : (I 313 7) ≤ v3), P (some (.int (-1 : Int32))) I) (h3 : ∀ (c1 : ¬ (I 313 7) ≤ v3), vp_in ((22 : Int32) + (v3 * (7 : Int32))) 1600) (k5 : ∀ (c1 : ¬ (I 313 7) ≤ v3) (c4 : ¬ (I 313 ((22 : Int32) + (v3 * (7 : Int32))).toNatClampNeg) = v2), ZZ K (0, 0) 43 [(0, .ref 312), (1, .int v1), (2, .int v2), (3, .int v3), (4, .int ((22 : Int32) + (v3 * (7 : Int32)))), (5, .int (0 : Int32)), (6, .int (0 : Int32))] [] I) (k6 : ∀ (c1 : ¬ (I 313 7) ≤ v3) (c4 : (I 313 ((22 : Int32) + (v3 * (7 : Int32))).toNatClampNeg) = v2), ZZ K (0, 0) 43 [(0, .ref 312), (1, .int v1), (2, .int v2), (3, .int v3), (4, .int ((22 : Int32) + (v3 * (7 : Int32)))), (5, .int (1 : Int32)), (6, .int (0 : Int32))] [] I) : ZZ K (0, 0) 2 [(0, .ref 312), (1, .int v1), (2, .int v2), (3, .int v3)] [] I := by
  obtain ⟨hb, ho, hnl, hR, hE⟩ := hK
  refine zz_iload_n hb (z_dec dX11_clerkNamed 2 rfl) rfl 3 rfl ?_
  refine zz_aload_n hb (z_dec dX11_clerkNamed 3 rfl) rfl 0 rfl ?_
  refine zz_getr (k := 0) (q := 313) hb ho rfl ckX11 t0 rfl rfl (rX11_clerkNamed 0 rfl) rfl (z_dec dX11_clerkNamed 4 rfl) ?_
  refine zz_bipush (v := (7 : Int32)) hb (z_dec dX11_clerkNamed 5 rfl) (by decide) ?_
  refine zz_iald (j := 7) hb (show isT (kw K) 20 313 from isT.f (k := 0) t0 hw rfl rfl rfl (by decide)) rfl (zvi rfl (zin rfl)) (z_dec dX11_clerkNamed 6 rfl) ?_
  refine zz_icmp_ge (tgt := 104) hb (z_dec dX11_clerkNamed 7 rfl) (by decide) (fun c1 => ?_) (fun c1 => ?_)
  · refine zz_iconst (v := (-1 : Int32)) hb (z_dec dX11_clerkNamed 58 rfl) (by decide) ?_
    exact zz_iret hb hE ⟨Nat.le_refl 0, Nat.le_refl 0⟩ (z_dec dX11_clerkNamed 59 rfl) (h2 c1)
  · refine zz_bipush (v := (22 : Int32)) hb (z_dec dX11_clerkNamed 8 rfl) (by decide) ?_
    refine zz_iload_n hb (z_dec dX11_clerkNamed 9 rfl) rfl 3 rfl ?_
    refine zz_bipush (v := (7 : Int32)) hb (z_dec dX11_clerkNamed 10 rfl) (by decide) ?_
    refine zz_imul hb (z_dec dX11_clerkNamed 11 rfl) ?_
    refine zz_iadd hb (z_dec dX11_clerkNamed 12 rfl) ?_
    refine zz_istore (L' := [(0, .ref 312), (1, .int v1), (2, .int v2), (3, .int v3), (4, .int ((22 : Int32) + (v3 * (7 : Int32))))]) hb (z_dec dX11_clerkNamed 13 rfl) hnl rfl [1, 2, 3, 4, 0] rfl ?_
    refine zz_aload_n hb (z_dec dX11_clerkNamed 14 rfl) rfl 0 rfl ?_
    refine zz_getr (k := 0) (q := 313) hb ho rfl ckX11 t0 rfl rfl (rX11_clerkNamed 0 rfl) rfl (z_dec dX11_clerkNamed 15 rfl) ?_
    refine zz_iload hb (z_dec dX11_clerkNamed 16 rfl) 4 rfl ?_
    refine zz_iald (j := ((22 : Int32) + (v3 * (7 : Int32))).toNatClampNeg) hb (show isT (kw K) 20 313 from isT.f (k := 0) t0 hw rfl rfl rfl (by decide)) rfl (zvi rfl (h3 c1)) (z_dec dX11_clerkNamed 17 rfl) ?_
    refine zz_iload_n hb (z_dec dX11_clerkNamed 18 rfl) rfl 2 rfl ?_
    refine zz_icmp_ne (tgt := 37) hb (z_dec dX11_clerkNamed 19 rfl) (by decide) (fun c4 => ?_) (fun c4 => ?_)
    · refine zz_iconst (v := (0 : Int32)) hb (z_dec dX11_clerkNamed 22 rfl) (by decide) ?_
      refine zz_istore (L' := [(0, .ref 312), (1, .int v1), (2, .int v2), (3, .int v3), (4, .int ((22 : Int32) + (v3 * (7 : Int32)))), (5, .int (0 : Int32))]) hb (z_dec dX11_clerkNamed 23 rfl) hnl rfl [1, 2, 3, 4, 5, 0] rfl ?_
      refine zz_iconst (v := (0 : Int32)) hb (z_dec dX11_clerkNamed 24 rfl) (by decide) ?_
      refine zz_istore (L' := [(0, .ref 312), (1, .int v1), (2, .int v2), (3, .int v3), (4, .int ((22 : Int32) + (v3 * (7 : Int32)))), (5, .int (0 : Int32)), (6, .int (0 : Int32))]) hb (z_dec dX11_clerkNamed 25 rfl) hnl rfl [1, 2, 3, 4, 5, 6, 0] rfl ?_
      exact (k5 c1 c4)
    · refine zz_iconst (v := (1 : Int32)) hb (z_dec dX11_clerkNamed 20 rfl) (by decide) ?_
      refine zz_goto (tgt := 38) hb (z_dec dX11_clerkNamed 21 rfl) (by decide) ?_
      refine zz_istore (L' := [(0, .ref 312), (1, .int v1), (2, .int v2), (3, .int v3), (4, .int ((22 : Int32) + (v3 * (7 : Int32)))), (5, .int (1 : Int32))]) hb (z_dec dX11_clerkNamed 23 rfl) hnl rfl [1, 2, 3, 4, 5, 0] rfl ?_
      refine zz_iconst (v := (0 : Int32)) hb (z_dec dX11_clerkNamed 24 rfl) (by decide) ?_
      refine zz_istore (L' := [(0, .ref 312), (1, .int v1), (2, .int v2), (3, .int v3), (4, .int ((22 : Int32) + (v3 * (7 : Int32)))), (5, .int (1 : Int32)), (6, .int (0 : Int32))]) hb (z_dec dX11_clerkNamed 25 rfl) hnl rfl [1, 2, 3, 4, 5, 6, 0] rfl ?_
      exact (k6 c1 c4)
set_option maxRecDepth 20000 in
theorem bX11_clerkNamed_43 {K : zK} {P : Option Value → zM → Prop} {X : String → zM → Prop} (hK : zIs K RX11 cX11_clerkNamed 7 (some .int) 0 (0, 0) P X) (hw : wOK (kw K)) {I : zM} (t0 : isT (kw K) 11 312) {v1 : Int32} {v2 : Int32} {v3 : Int32} {v4 : Int32} {v5 : Int32} {v6 : Int32} (k2 : ∀ (c1 : v5 = 0), ZZ K (0, 0) 91 [(0, .ref 312), (1, .int v1), (2, .int v2), (3, .int v3), (4, .int v4), (5, .int v5), (6, .int v6)] [] I) (k4 : ∀ (c1 : ¬ v5 = 0) (c3 : v2 ≤ v6), ZZ K (0, 0) 91 [(0, .ref 312), (1, .int v1), (2, .int v2), (3, .int v3), (4, .int v4), (5, .int v5), (6, .int v6)] [] I) (h5 : ∀ (c1 : ¬ v5 = 0) (c3 : ¬ v2 ≤ v6), vp_in ((v4 + (1 : Int32)) + v6) 1600) (h6 : ∀ (c1 : ¬ v5 = 0) (c3 : ¬ v2 ≤ v6), vp_in (v1 + v6) 600) (k8 : ∀ (c1 : ¬ v5 = 0) (c3 : ¬ v2 ≤ v6) (c7 : ¬ (I 313 ((v4 + (1 : Int32)) + v6).toNatClampNeg) = (I 315 (v1 + v6).toNatClampNeg)), ZZ K (0, 0) 43 [(0, .ref 312), (1, .int v1), (2, .int v2), (3, .int v3), (4, .int v4), (5, .int (0 : Int32)), (6, .int (v6 + 1))] [] I) (k9 : ∀ (c1 : ¬ v5 = 0) (c3 : ¬ v2 ≤ v6) (c7 : (I 313 ((v4 + (1 : Int32)) + v6).toNatClampNeg) = (I 315 (v1 + v6).toNatClampNeg)), ZZ K (0, 0) 43 [(0, .ref 312), (1, .int v1), (2, .int v2), (3, .int v3), (4, .int v4), (5, .int (1 : Int32)), (6, .int (v6 + 1))] [] I) : ZZ K (0, 0) 43 [(0, .ref 312), (1, .int v1), (2, .int v2), (3, .int v3), (4, .int v4), (5, .int v5), (6, .int v6)] [] I := by
  obtain ⟨hb, ho, hnl, hR, hE⟩ := hK
  refine zz_iload hb (z_dec dX11_clerkNamed 26 rfl) 5 rfl ?_
  refine zz_if_eq (tgt := 91) hb (z_dec dX11_clerkNamed 27 rfl) (by decide) (fun c1 => ?_) (fun c1 => ?_)
  · exact (k2 c1)
  · refine zz_iload hb (z_dec dX11_clerkNamed 28 rfl) 6 rfl ?_
    refine zz_iload_n hb (z_dec dX11_clerkNamed 29 rfl) rfl 2 rfl ?_
    refine zz_icmp_ge (tgt := 91) hb (z_dec dX11_clerkNamed 30 rfl) (by decide) (fun c3 => ?_) (fun c3 => ?_)
    · exact (k4 c1 c3)
    · refine zz_aload_n hb (z_dec dX11_clerkNamed 31 rfl) rfl 0 rfl ?_
      refine zz_getr (k := 0) (q := 313) hb ho rfl ckX11 t0 rfl rfl (rX11_clerkNamed 0 rfl) rfl (z_dec dX11_clerkNamed 32 rfl) ?_
      refine zz_iload hb (z_dec dX11_clerkNamed 33 rfl) 4 rfl ?_
      refine zz_iconst (v := (1 : Int32)) hb (z_dec dX11_clerkNamed 34 rfl) (by decide) ?_
      refine zz_iadd hb (z_dec dX11_clerkNamed 35 rfl) ?_
      refine zz_iload hb (z_dec dX11_clerkNamed 36 rfl) 6 rfl ?_
      refine zz_iadd hb (z_dec dX11_clerkNamed 37 rfl) ?_
      refine zz_iald (j := ((v4 + (1 : Int32)) + v6).toNatClampNeg) hb (show isT (kw K) 20 313 from isT.f (k := 0) t0 hw rfl rfl rfl (by decide)) rfl (zvi rfl (h5 c1 c3)) (z_dec dX11_clerkNamed 38 rfl) ?_
      refine zz_aload_n hb (z_dec dX11_clerkNamed 39 rfl) rfl 0 rfl ?_
      refine zz_getr (k := 3) (q := 315) hb ho rfl ckX11 t0 rfl rfl (rX11_clerkNamed 1 rfl) rfl (z_dec dX11_clerkNamed 40 rfl) ?_
      refine zz_iload_n hb (z_dec dX11_clerkNamed 41 rfl) rfl 1 rfl ?_
      refine zz_iload hb (z_dec dX11_clerkNamed 42 rfl) 6 rfl ?_
      refine zz_iadd hb (z_dec dX11_clerkNamed 43 rfl) ?_
      refine zz_iald (j := (v1 + v6).toNatClampNeg) hb (show isT (kw K) 20 315 from isT.f (k := 3) t0 hw rfl rfl rfl (by decide)) rfl (zvi rfl (h6 c1 c3)) (z_dec dX11_clerkNamed 44 rfl) ?_
      refine zz_icmp_ne (tgt := 82) hb (z_dec dX11_clerkNamed 45 rfl) (by decide) (fun c7 => ?_) (fun c7 => ?_)
      · refine zz_iconst (v := (0 : Int32)) hb (z_dec dX11_clerkNamed 48 rfl) (by decide) ?_
        refine zz_istore (L' := [(0, .ref 312), (1, .int v1), (2, .int v2), (3, .int v3), (4, .int v4), (5, .int (0 : Int32)), (6, .int v6)]) hb (z_dec dX11_clerkNamed 49 rfl) hnl rfl [1, 2, 3, 4, 5, 0, 6] rfl ?_
        refine zz_iinc (v := (v6 + 1)) (L' := [(0, .ref 312), (1, .int v1), (2, .int v2), (3, .int v3), (4, .int v4), (5, .int (0 : Int32)), (6, .int (v6 + 1))]) hb (z_dec dX11_clerkNamed 50 rfl) 6 rfl rfl hnl rfl [1, 2, 3, 4, 5, 6, 0] rfl ?_
        refine zz_goto (tgt := 43) hb (z_dec dX11_clerkNamed 51 rfl) (by decide) ?_
        exact (k8 c1 c3 c7)
      · refine zz_iconst (v := (1 : Int32)) hb (z_dec dX11_clerkNamed 46 rfl) (by decide) ?_
        refine zz_goto (tgt := 83) hb (z_dec dX11_clerkNamed 47 rfl) (by decide) ?_
        refine zz_istore (L' := [(0, .ref 312), (1, .int v1), (2, .int v2), (3, .int v3), (4, .int v4), (5, .int (1 : Int32)), (6, .int v6)]) hb (z_dec dX11_clerkNamed 49 rfl) hnl rfl [1, 2, 3, 4, 5, 0, 6] rfl ?_
        refine zz_iinc (v := (v6 + 1)) (L' := [(0, .ref 312), (1, .int v1), (2, .int v2), (3, .int v3), (4, .int v4), (5, .int (1 : Int32)), (6, .int (v6 + 1))]) hb (z_dec dX11_clerkNamed 50 rfl) 6 rfl rfl hnl rfl [1, 2, 3, 4, 5, 6, 0] rfl ?_
        refine zz_goto (tgt := 43) hb (z_dec dX11_clerkNamed 51 rfl) (by decide) ?_
        exact (k9 c1 c3 c7)
set_option maxRecDepth 20000 in
theorem bX11_clerkNamed_91 {K : zK} {P : Option Value → zM → Prop} {X : String → zM → Prop} (hK : zIs K RX11 cX11_clerkNamed 7 (some .int) 0 (0, 0) P X) (hw : wOK (kw K)) {I : zM} (t0 : isT (kw K) 11 312) {v1 : Int32} {v2 : Int32} {v3 : Int32} {v4 : Int32} {v5 : Int32} {v6 : Int32} (k2 : ∀ (c1 : v5 = 0), ZZ K (0, 0) 2 [(0, .ref 312), (1, .int v1), (2, .int v2), (3, .int (v3 + 1))] [] I) (h3 : ∀ (c1 : ¬ v5 = 0), P (some (.int v3)) I) : ZZ K (0, 0) 91 [(0, .ref 312), (1, .int v1), (2, .int v2), (3, .int v3), (4, .int v4), (5, .int v5), (6, .int v6)] [] I := by
  obtain ⟨hb, ho, hnl, hR, hE⟩ := hK
  refine zz_iload hb (z_dec dX11_clerkNamed 52 rfl) 5 rfl ?_
  refine zz_if_eq (tgt := 98) hb (z_dec dX11_clerkNamed 53 rfl) (by decide) (fun c1 => ?_) (fun c1 => ?_)
  · refine zz_iinc (v := (v3 + 1)) (L' := [(0, .ref 312), (1, .int v1), (2, .int v2), (3, .int (v3 + 1)), (4, .int v4), (5, .int v5), (6, .int v6)]) hb (z_dec dX11_clerkNamed 56 rfl) 3 rfl rfl hnl rfl [1, 2, 3, 0, 4, 5, 6] rfl ?_
    refine zz_goto (tgt := 2) hb (z_dec dX11_clerkNamed 57 rfl) (by decide) ?_
    refine zz_sub [0, 1, 2, 3] (L' := [(0, .ref 312), (1, .int v1), (2, .int v2), (3, .int (v3 + 1))]) rfl ?_
    exact (k2 c1)
  · refine zz_iload_n hb (z_dec dX11_clerkNamed 54 rfl) rfl 3 rfl ?_
    exact zz_iret hb hE ⟨Nat.le_refl 0, Nat.le_refl 0⟩ (z_dec dX11_clerkNamed 55 rfl) (h3 c1)
set_option maxRecDepth 20000 in
theorem bX11_isShortWord_0 {K : zK} {P : Option Value → zM → Prop} {X : String → zM → Prop} (hK : zIs K RX11 cX11_isShortWord 1 (some .boolean) 1 (0, 0) P X) (hw : wOK (kw K)) {I : zM} (t0 : isT (kw K) 11 312) (h3 : ∀ (c1 : (I 312 11) = (1 : Int32)) (c2 : ((I 312 10) - (I 312 12)) ≤ (6 : Int32)), P (some (.int (1 : Int32))) I) {f4 : Int32} {g4 : zM} (m4 : ∀ (c1 : (I 312 11) = (1 : Int32)) (c2 : ¬ ((I 312 10) - (I 312 12)) ≤ (6 : Int32)), CT (kG K) (kw K) (kl K) (yX11_wrong, cX11_wrong, 2, (some .boolean)) 0 (0, 0) [.ref 312, .int (3 : Int32)] I (qE f4 g4) nX) (h6 : ∀ (c1 : (I 312 11) = (1 : Int32)) (c2 : ¬ ((I 312 10) - (I 312 12)) ≤ (6 : Int32)) (c5 : f4 = 0), P (some (.int (0 : Int32))) g4) (h7 : ∀ (c1 : (I 312 11) = (1 : Int32)) (c2 : ¬ ((I 312 10) - (I 312 12)) ≤ (6 : Int32)) (c5 : ¬ f4 = 0), P (some (.int (1 : Int32))) g4) {f8 : Int32} {g8 : zM} (m8 : ∀ (c1 : ¬ (I 312 11) = (1 : Int32)), CT (kG K) (kw K) (kl K) (yX11_wrong, cX11_wrong, 2, (some .boolean)) 0 (0, 0) [.ref 312, .int (1 : Int32)] I (qE f8 g8) nX) (h9 : ∀ (c1 : ¬ (I 312 11) = (1 : Int32)), P (some (.int f8)) g8) (z10 : ∀ (c1 : ¬ (I 312 11) = (1 : Int32)), f8 = 0 ∨ f8 = 1) : ZZ K (0, 0) 0 [(0, .ref 312)] [] I := by
  obtain ⟨hb, ho, hnl, hR, hE⟩ := hK
  refine zz_aload_n hb (z_dec dX11_isShortWord 0 rfl) rfl 0 rfl ?_
  refine zz_get (k := 11) hb ho ckX11 t0 rfl rfl (rX11_isShortWord 0 rfl) rfl (z_dec dX11_isShortWord 1 rfl) ?_
  refine zz_iconst (v := (1 : Int32)) hb (z_dec dX11_isShortWord 2 rfl) (by decide) ?_
  refine zz_icmp_eq (tgt := 14) hb (z_dec dX11_isShortWord 3 rfl) (by decide) (fun c1 => ?_) (fun c1 => ?_)
  · refine zz_aload_n hb (z_dec dX11_isShortWord 8 rfl) rfl 0 rfl ?_
    refine zz_get (k := 10) hb ho ckX11 t0 rfl rfl (rX11_isShortWord 4 rfl) rfl (z_dec dX11_isShortWord 9 rfl) ?_
    refine zz_aload_n hb (z_dec dX11_isShortWord 10 rfl) rfl 0 rfl ?_
    refine zz_get (k := 12) hb ho ckX11 t0 rfl rfl (rX11_isShortWord 5 rfl) rfl (z_dec dX11_isShortWord 11 rfl) ?_
    refine zz_isub hb (z_dec dX11_isShortWord 12 rfl) ?_
    refine zz_bipush (v := (6 : Int32)) hb (z_dec dX11_isShortWord 13 rfl) (by decide) ?_
    refine zz_icmp_le (tgt := 36) hb (z_dec dX11_isShortWord 14 rfl) (by decide) (fun c2 => ?_) (fun c2 => ?_)
    · refine zz_iconst (v := (1 : Int32)) hb (z_dec dX11_isShortWord 19 rfl) (by decide) ?_
      refine zz_goto (tgt := 41) hb (z_dec dX11_isShortWord 20 rfl) (by decide) ?_
      exact zz_zret hb hE ⟨Nat.le_refl 0, Nat.le_refl 0⟩ (by decide) (z_dec dX11_isShortWord 22 rfl) (h3 c1 c2)
    · refine zz_aload_n hb (z_dec dX11_isShortWord 15 rfl) rfl 0 rfl ?_
      refine zz_iconst (v := (3 : Int32)) hb (z_dec dX11_isShortWord 16 rfl) (by decide) ?_
      refine zz_inv (as := [.int (3 : Int32)]) (d := 0) (mc := (0, 0)) (P := (qE f4 g4)) (X := nX) hb ho hnl hR hE mkX11_wrong rfl ckX11 t0 rfl ⟨Nat.le_refl 0, Nat.le_refl 0⟩ rfl (rX11_isShortWord 1 rfl) (rX11_isShortWord 2 rfl) (rX11_isShortWord 3 rfl) rfl (z_dec dX11_isShortWord 17 rfl) (m4 c1 c2) (fun v J4 hp => ?_) (fun _ _ h => h.elim)
      obtain ⟨r4, rfl, e4, w4⟩ := hp
      have e4 := e4.symm
      subst e4
      have w4 := w4.symm
      subst w4
      show ZZ K (0, 0) 33 [(0, .ref 312)] [.int f4] g4
      refine zz_if_eq (tgt := 40) hb (z_dec dX11_isShortWord 18 rfl) (by decide) (fun c5 => ?_) (fun c5 => ?_)
      · refine zz_iconst (v := (0 : Int32)) hb (z_dec dX11_isShortWord 21 rfl) (by decide) ?_
        exact zz_zret hb hE ⟨Nat.le_refl 0, Nat.le_refl 0⟩ (by decide) (z_dec dX11_isShortWord 22 rfl) (h6 c1 c2 c5)
      · refine zz_iconst (v := (1 : Int32)) hb (z_dec dX11_isShortWord 19 rfl) (by decide) ?_
        refine zz_goto (tgt := 41) hb (z_dec dX11_isShortWord 20 rfl) (by decide) ?_
        exact zz_zret hb hE ⟨Nat.le_refl 0, Nat.le_refl 0⟩ (by decide) (z_dec dX11_isShortWord 22 rfl) (h7 c1 c2 c5)
  · refine zz_aload_n hb (z_dec dX11_isShortWord 4 rfl) rfl 0 rfl ?_
    refine zz_iconst (v := (1 : Int32)) hb (z_dec dX11_isShortWord 5 rfl) (by decide) ?_
    refine zz_inv (as := [.int (1 : Int32)]) (d := 0) (mc := (0, 0)) (P := (qE f8 g8)) (X := nX) hb ho hnl hR hE mkX11_wrong rfl ckX11 t0 rfl ⟨Nat.le_refl 0, Nat.le_refl 0⟩ rfl (rX11_isShortWord 1 rfl) (rX11_isShortWord 2 rfl) (rX11_isShortWord 3 rfl) rfl (z_dec dX11_isShortWord 6 rfl) (m8 c1) (fun v J8 hp => ?_) (fun _ _ h => h.elim)
    obtain ⟨r8, rfl, e8, w8⟩ := hp
    have e8 := e8.symm
    subst e8
    have w8 := w8.symm
    subst w8
    show ZZ K (0, 0) 13 [(0, .ref 312)] [.int f8] g8
    exact zz_zret hb hE ⟨Nat.le_refl 0, Nat.le_refl 0⟩ (z10 c1) (z_dec dX11_isShortWord 7 rfl) (h9 c1)
set_option maxRecDepth 20000 in
theorem bX11_parseRanged_0 {K : zK} {P : Option Value → zM → Prop} {X : String → zM → Prop} (hK : zIs K RX11 cX11_parseRanged 4 (some .boolean) 2 (0, 0) P X) (hw : wOK (kw K)) {I : zM} (t0 : isT (kw K) 11 312) {v1 : Int32} {v2 : Int32} {v3 : Int32} {f2 : Int32} {g2 : zM} (m2 : ∀ (c1 : (I 312 11) = (2 : Int32)), CT (kG K) (kw K) (kl K) (yX11_in, cX11_in, 3, (some .boolean)) 0 (0, 0) [.int (I 312 13), .int v2, .int v3] I (qE f2 g2) nX) (h4 : ∀ (c1 : (I 312 11) = (2 : Int32)) (c3 : ¬ f2 = 0), vp_in v1 1600) {g5 : zM} (m5 : ∀ (c1 : (I 312 11) = (2 : Int32)) (c3 : ¬ f2 = 0), CT (kG K) (kw K) (kl K) (yX11_token, cX11_token, 1, none) 1 (0, 0) [.ref 312] (up g2 313 (v1.toNatClampNeg) (g2 312 13)) (qV (fun J => J = g5)) nX) (h6 : ∀ (c1 : (I 312 11) = (2 : Int32)) (c3 : ¬ f2 = 0), P (some (.int (1 : Int32))) g5) {f7 : Int32} {g7 : zM} (m7 : ∀ (c1 : (I 312 11) = (2 : Int32)) (c3 : f2 = 0), CT (kG K) (kw K) (kl K) (yX11_wrong, cX11_wrong, 2, (some .boolean)) 0 (0, 0) [.ref 312, .int (2 : Int32)] g2 (qE f7 g7) nX) (h8 : ∀ (c1 : (I 312 11) = (2 : Int32)) (c3 : f2 = 0), P (some (.int f7)) g7) (z9 : ∀ (c1 : (I 312 11) = (2 : Int32)) (c3 : f2 = 0), f7 = 0 ∨ f7 = 1) {f10 : Int32} {g10 : zM} (m10 : ∀ (c1 : ¬ (I 312 11) = (2 : Int32)), CT (kG K) (kw K) (kl K) (yX11_wrong, cX11_wrong, 2, (some .boolean)) 0 (0, 0) [.ref 312, .int (1 : Int32)] I (qE f10 g10) nX) (h11 : ∀ (c1 : ¬ (I 312 11) = (2 : Int32)), P (some (.int f10)) g10) (z12 : ∀ (c1 : ¬ (I 312 11) = (2 : Int32)), f10 = 0 ∨ f10 = 1) : ZZ K (0, 0) 0 [(0, .ref 312), (1, .int v1), (2, .int v2), (3, .int v3)] [] I := by
  obtain ⟨hb, ho, hnl, hR, hE⟩ := hK
  refine zz_aload_n hb (z_dec dX11_parseRanged 0 rfl) rfl 0 rfl ?_
  refine zz_get (k := 11) hb ho ckX11 t0 rfl rfl (rX11_parseRanged 0 rfl) rfl (z_dec dX11_parseRanged 1 rfl) ?_
  refine zz_iconst (v := (2 : Int32)) hb (z_dec dX11_parseRanged 2 rfl) (by decide) ?_
  refine zz_icmp_eq (tgt := 14) hb (z_dec dX11_parseRanged 3 rfl) (by decide) (fun c1 => ?_) (fun c1 => ?_)
  · refine zz_aload_n hb (z_dec dX11_parseRanged 8 rfl) rfl 0 rfl ?_
    refine zz_get (k := 13) hb ho ckX11 t0 rfl rfl (rX11_parseRanged 4 rfl) rfl (z_dec dX11_parseRanged 9 rfl) ?_
    refine zz_iload_n hb (z_dec dX11_parseRanged 10 rfl) rfl 2 rfl ?_
    refine zz_iload_n hb (z_dec dX11_parseRanged 11 rfl) rfl 3 rfl ?_
    refine zz_invS (as := [.int (I 312 13), .int v2, .int v3]) (d := 0) (mc := (0, 0)) (P := (qE f2 g2)) (X := nX) hb ho hnl hR hE mkX11_in rfl rfl ⟨Nat.le_refl 0, Nat.le_refl 0⟩ rfl (rX11_parseRanged 5 rfl) (rX11_parseRanged 6 rfl) rfl (z_dec dX11_parseRanged 12 rfl) (m2 c1) (fun v J2 hp => ?_) (fun _ _ h => h.elim)
    obtain ⟨r2, rfl, e2, w2⟩ := hp
    have e2 := e2.symm
    subst e2
    have w2 := w2.symm
    subst w2
    show ZZ K (0, 0) 23 [(0, .ref 312), (1, .int v1), (2, .int v2), (3, .int v3)] [.int f2] g2
    refine zz_if_ne (tgt := 32) hb (z_dec dX11_parseRanged 13 rfl) (by decide) (fun c3 => ?_) (fun c3 => ?_)
    · refine zz_aload_n hb (z_dec dX11_parseRanged 18 rfl) rfl 0 rfl ?_
      refine zz_getr (k := 0) (q := 313) hb ho rfl ckX11 t0 rfl rfl (rX11_parseRanged 7 rfl) rfl (z_dec dX11_parseRanged 19 rfl) ?_
      refine zz_iload_n hb (z_dec dX11_parseRanged 20 rfl) rfl 1 rfl ?_
      refine zz_aload_n hb (z_dec dX11_parseRanged 21 rfl) rfl 0 rfl ?_
      refine zz_get (k := 13) hb ho ckX11 t0 rfl rfl (rX11_parseRanged 4 rfl) rfl (z_dec dX11_parseRanged 22 rfl) ?_
      refine zz_iast (j := v1.toNatClampNeg) hb (show isT (kw K) 20 313 from isT.f (k := 0) t0 hw rfl rfl rfl (by decide)) rfl (zvi rfl (h4 c1 c3)) (z_dec dX11_parseRanged 23 rfl) ?_
      refine zz_aload_n hb (z_dec dX11_parseRanged 24 rfl) rfl 0 rfl ?_
      refine zz_inv (as := []) (d := 1) (mc := (0, 0)) (P := (qV (fun J => J = g5))) (X := nX) hb ho hnl hR hE mkX11_token rfl ckX11 t0 rfl ⟨Nat.le_refl 0, Nat.le_refl 0⟩ rfl (rX11_parseRanged 8 rfl) (rX11_parseRanged 9 rfl) (rX11_parseRanged 10 rfl) rfl (z_dec dX11_parseRanged 25 rfl) (m5 c1 c3) (fun v J5 hp => ?_) (fun _ _ h => h.elim)
      obtain ⟨rfl, w5⟩ := hp
      have w5 := w5.symm
      subst w5
      show ZZ K (0, 0) 46 [(0, .ref 312), (1, .int v1), (2, .int v2), (3, .int v3)] [] g5
      refine zz_iconst (v := (1 : Int32)) hb (z_dec dX11_parseRanged 26 rfl) (by decide) ?_
      exact zz_zret hb hE ⟨Nat.le_refl 0, Nat.le_refl 0⟩ (by decide) (z_dec dX11_parseRanged 27 rfl) (h6 c1 c3)
    · refine zz_aload_n hb (z_dec dX11_parseRanged 14 rfl) rfl 0 rfl ?_
      refine zz_iconst (v := (2 : Int32)) hb (z_dec dX11_parseRanged 15 rfl) (by decide) ?_
      refine zz_inv (as := [.int (2 : Int32)]) (d := 0) (mc := (0, 0)) (P := (qE f7 g7)) (X := nX) hb ho hnl hR hE mkX11_wrong rfl ckX11 t0 rfl ⟨Nat.le_refl 0, Nat.le_refl 0⟩ rfl (rX11_parseRanged 1 rfl) (rX11_parseRanged 2 rfl) (rX11_parseRanged 3 rfl) rfl (z_dec dX11_parseRanged 16 rfl) (m7 c1 c3) (fun v J7 hp => ?_) (fun _ _ h => h.elim)
      obtain ⟨r7, rfl, e7, w7⟩ := hp
      have e7 := e7.symm
      subst e7
      have w7 := w7.symm
      subst w7
      show ZZ K (0, 0) 31 [(0, .ref 312), (1, .int v1), (2, .int v2), (3, .int v3)] [.int f7] g7
      exact zz_zret hb hE ⟨Nat.le_refl 0, Nat.le_refl 0⟩ (z9 c1 c3) (z_dec dX11_parseRanged 17 rfl) (h8 c1 c3)
  · refine zz_aload_n hb (z_dec dX11_parseRanged 4 rfl) rfl 0 rfl ?_
    refine zz_iconst (v := (1 : Int32)) hb (z_dec dX11_parseRanged 5 rfl) (by decide) ?_
    refine zz_inv (as := [.int (1 : Int32)]) (d := 0) (mc := (0, 0)) (P := (qE f10 g10)) (X := nX) hb ho hnl hR hE mkX11_wrong rfl ckX11 t0 rfl ⟨Nat.le_refl 0, Nat.le_refl 0⟩ rfl (rX11_parseRanged 1 rfl) (rX11_parseRanged 2 rfl) (rX11_parseRanged 3 rfl) rfl (z_dec dX11_parseRanged 6 rfl) (m10 c1) (fun v J10 hp => ?_) (fun _ _ h => h.elim)
    obtain ⟨r10, rfl, e10, w10⟩ := hp
    have e10 := e10.symm
    subst e10
    have w10 := w10.symm
    subst w10
    show ZZ K (0, 0) 13 [(0, .ref 312), (1, .int v1), (2, .int v2), (3, .int v3)] [.int f10] g10
    exact zz_zret hb hE ⟨Nat.le_refl 0, Nat.le_refl 0⟩ (z12 c1) (z_dec dX11_parseRanged 7 rfl) (h11 c1)
set_option maxRecDepth 20000 in
theorem bX11_parseSettings_0 {K : zK} {P : Option Value → zM → Prop} {X : String → zM → Prop} (hK : zIs K RX11 cX11_parseSettings 1 (some .boolean) 3 (0, 0) P X) (hw : wOK (kw K)) {I : zM} (t0 : isT (kw K) 11 312) {f1 : Int32} {g1 : zM} (m1 : CT (kG K) (kw K) (kl K) (yX11_parseRanged, cX11_parseRanged, 4, (some .boolean)) 2 (0, 0) [.ref 312, .int (0 : Int32), .int (0 : Int32), .int (4 : Int32)] I (qE f1 g1) nX) (h3 : ∀ (c2 : f1 = 0), P (some (.int (0 : Int32))) g1) {f4 : Int32} {g4 : zM} (m4 : ∀ (c2 : ¬ f1 = 0), CT (kG K) (kw K) (kl K) (yX11_parseRanged, cX11_parseRanged, 4, (some .boolean)) 2 (0, 0) [.ref 312, .int (1 : Int32), .int (0 : Int32), .int (5 : Int32)] g1 (qE f4 g4) nX) (h6 : ∀ (c2 : ¬ f1 = 0) (c5 : f4 = 0), P (some (.int (0 : Int32))) g4) {f7 : Int32} {g7 : zM} (m7 : ∀ (c2 : ¬ f1 = 0) (c5 : ¬ f4 = 0), CT (kG K) (kw K) (kl K) (yX11_parseRanged, cX11_parseRanged, 4, (some .boolean)) 2 (0, 0) [.ref 312, .int (2 : Int32), .int (1 : Int32), .int (99 : Int32)] g4 (qE f7 g7) nX) (h9 : ∀ (c2 : ¬ f1 = 0) (c5 : ¬ f4 = 0) (c8 : f7 = 0), P (some (.int (0 : Int32))) g7) {f10 : Int32} {g10 : zM} (m10 : ∀ (c2 : ¬ f1 = 0) (c5 : ¬ f4 = 0) (c8 : ¬ f7 = 0), CT (kG K) (kw K) (kl K) (yX11_parseRanged, cX11_parseRanged, 4, (some .boolean)) 2 (0, 0) [.ref 312, .int (3 : Int32), .int (0 : Int32), .int (9 : Int32)] g7 (qE f10 g10) nX) {f12 : Int32} {g12 : zM} (m12 : ∀ (c2 : ¬ f1 = 0) (c5 : ¬ f4 = 0) (c8 : ¬ f7 = 0) (c11 : ¬ f10 = 0), CT (kG K) (kw K) (kl K) (yX11_parseRanged, cX11_parseRanged, 4, (some .boolean)) 2 (0, 0) [.ref 312, .int (4 : Int32), .int (1 : Int32), .int (9 : Int32)] g10 (qE f12 g12) nX) (h14 : ∀ (c2 : ¬ f1 = 0) (c5 : ¬ f4 = 0) (c8 : ¬ f7 = 0) (c11 : ¬ f10 = 0) (c13 : f12 = 0), P (some (.int (0 : Int32))) g12) {f15 : Int32} {g15 : zM} (m15 : ∀ (c2 : ¬ f1 = 0) (c5 : ¬ f4 = 0) (c8 : ¬ f7 = 0) (c11 : ¬ f10 = 0) (c13 : ¬ f12 = 0), CT (kG K) (kw K) (kl K) (yX11_parseRanged, cX11_parseRanged, 4, (some .boolean)) 2 (0, 0) [.ref 312, .int (5 : Int32), .int (1 : Int32), .int (20 : Int32)] g12 (qE f15 g15) nX) (h17 : ∀ (c2 : ¬ f1 = 0) (c5 : ¬ f4 = 0) (c8 : ¬ f7 = 0) (c11 : ¬ f10 = 0) (c13 : ¬ f12 = 0) (c16 : f15 = 0), P (some (.int (0 : Int32))) g15) {f18 : Int32} {g18 : zM} (m18 : ∀ (c2 : ¬ f1 = 0) (c5 : ¬ f4 = 0) (c8 : ¬ f7 = 0) (c11 : ¬ f10 = 0) (c13 : ¬ f12 = 0) (c16 : ¬ f15 = 0), CT (kG K) (kw K) (kl K) (yX11_parseRanged, cX11_parseRanged, 4, (some .boolean)) 2 (0, 0) [.ref 312, .int (6 : Int32), .int (0 : Int32), .int (5 : Int32)] g15 (qE f18 g18) nX) (h20 : ∀ (c2 : ¬ f1 = 0) (c5 : ¬ f4 = 0) (c8 : ¬ f7 = 0) (c11 : ¬ f10 = 0) (c13 : ¬ f12 = 0) (c16 : ¬ f15 = 0) (c19 : f18 = 0), P (some (.int (0 : Int32))) g18) {f21 : Int32} {g21 : zM} (m21 : ∀ (c2 : ¬ f1 = 0) (c5 : ¬ f4 = 0) (c8 : ¬ f7 = 0) (c11 : ¬ f10 = 0) (c13 : ¬ f12 = 0) (c16 : ¬ f15 = 0) (c19 : ¬ f18 = 0), CT (kG K) (kw K) (kl K) (yX11_semicolon, cX11_semicolon, 1, (some .boolean)) 2 (0, 0) [.ref 312] g18 (qE f21 g21) nX) (h23 : ∀ (c2 : ¬ f1 = 0) (c5 : ¬ f4 = 0) (c8 : ¬ f7 = 0) (c11 : ¬ f10 = 0) (c13 : ¬ f12 = 0) (c16 : ¬ f15 = 0) (c19 : ¬ f18 = 0) (c22 : f21 = 0), P (some (.int (0 : Int32))) g21) (h24 : ∀ (c2 : ¬ f1 = 0) (c5 : ¬ f4 = 0) (c8 : ¬ f7 = 0) (c11 : ¬ f10 = 0) (c13 : ¬ f12 = 0) (c16 : ¬ f15 = 0) (c19 : ¬ f18 = 0) (c22 : ¬ f21 = 0), P (some (.int (1 : Int32))) g21) (h25 : ∀ (c2 : ¬ f1 = 0) (c5 : ¬ f4 = 0) (c8 : ¬ f7 = 0) (c11 : f10 = 0), P (some (.int (0 : Int32))) g10) : ZZ K (0, 0) 0 [(0, .ref 312)] [] I := by
  obtain ⟨hb, ho, hnl, hR, hE⟩ := hK
  refine zz_aload_n hb (z_dec dX11_parseSettings 0 rfl) rfl 0 rfl ?_
  refine zz_iconst (v := (0 : Int32)) hb (z_dec dX11_parseSettings 1 rfl) (by decide) ?_
  refine zz_iconst (v := (0 : Int32)) hb (z_dec dX11_parseSettings 2 rfl) (by decide) ?_
  refine zz_iconst (v := (4 : Int32)) hb (z_dec dX11_parseSettings 3 rfl) (by decide) ?_
  refine zz_inv (as := [.int (0 : Int32), .int (0 : Int32), .int (4 : Int32)]) (d := 2) (mc := (0, 0)) (P := (qE f1 g1)) (X := nX) hb ho hnl hR hE mkX11_parseRanged rfl ckX11 t0 rfl ⟨Nat.le_refl 0, Nat.le_refl 0⟩ rfl (rX11_parseSettings 0 rfl) (rX11_parseSettings 1 rfl) (rX11_parseSettings 2 rfl) rfl (z_dec dX11_parseSettings 4 rfl) m1 (fun v J1 hp => ?_) (fun _ _ h => h.elim)
  obtain ⟨r1, rfl, e1, w1⟩ := hp
  have e1 := e1.symm
  subst e1
  have w1 := w1.symm
  subst w1
  show ZZ K (0, 0) 7 [(0, .ref 312)] [.int f1] g1
  refine zz_if_eq (tgt := 42) hb (z_dec dX11_parseSettings 5 rfl) (by decide) (fun c2 => ?_) (fun c2 => ?_)
  · refine zz_iconst (v := (0 : Int32)) hb (z_dec dX11_parseSettings 24 rfl) (by decide) ?_
    exact zz_zret hb hE ⟨Nat.le_refl 0, Nat.le_refl 0⟩ (by decide) (z_dec dX11_parseSettings 25 rfl) (h3 c2)
  · refine zz_aload_n hb (z_dec dX11_parseSettings 6 rfl) rfl 0 rfl ?_
    refine zz_iconst (v := (1 : Int32)) hb (z_dec dX11_parseSettings 7 rfl) (by decide) ?_
    refine zz_iconst (v := (0 : Int32)) hb (z_dec dX11_parseSettings 8 rfl) (by decide) ?_
    refine zz_iconst (v := (5 : Int32)) hb (z_dec dX11_parseSettings 9 rfl) (by decide) ?_
    refine zz_inv (as := [.int (1 : Int32), .int (0 : Int32), .int (5 : Int32)]) (d := 2) (mc := (0, 0)) (P := (qE f4 g4)) (X := nX) hb ho hnl hR hE mkX11_parseRanged rfl ckX11 t0 rfl ⟨Nat.le_refl 0, Nat.le_refl 0⟩ rfl (rX11_parseSettings 0 rfl) (rX11_parseSettings 1 rfl) (rX11_parseSettings 2 rfl) rfl (z_dec dX11_parseSettings 10 rfl) (m4 c2) (fun v J4 hp => ?_) (fun _ _ h => h.elim)
    obtain ⟨r4, rfl, e4, w4⟩ := hp
    have e4 := e4.symm
    subst e4
    have w4 := w4.symm
    subst w4
    show ZZ K (0, 0) 17 [(0, .ref 312)] [.int f4] g4
    refine zz_if_eq (tgt := 42) hb (z_dec dX11_parseSettings 11 rfl) (by decide) (fun c5 => ?_) (fun c5 => ?_)
    · refine zz_iconst (v := (0 : Int32)) hb (z_dec dX11_parseSettings 24 rfl) (by decide) ?_
      exact zz_zret hb hE ⟨Nat.le_refl 0, Nat.le_refl 0⟩ (by decide) (z_dec dX11_parseSettings 25 rfl) (h6 c2 c5)
    · refine zz_aload_n hb (z_dec dX11_parseSettings 12 rfl) rfl 0 rfl ?_
      refine zz_iconst (v := (2 : Int32)) hb (z_dec dX11_parseSettings 13 rfl) (by decide) ?_
      refine zz_iconst (v := (1 : Int32)) hb (z_dec dX11_parseSettings 14 rfl) (by decide) ?_
      refine zz_bipush (v := (99 : Int32)) hb (z_dec dX11_parseSettings 15 rfl) (by decide) ?_
      refine zz_inv (as := [.int (2 : Int32), .int (1 : Int32), .int (99 : Int32)]) (d := 2) (mc := (0, 0)) (P := (qE f7 g7)) (X := nX) hb ho hnl hR hE mkX11_parseRanged rfl ckX11 t0 rfl ⟨Nat.le_refl 0, Nat.le_refl 0⟩ rfl (rX11_parseSettings 0 rfl) (rX11_parseSettings 1 rfl) (rX11_parseSettings 2 rfl) rfl (z_dec dX11_parseSettings 16 rfl) (m7 c2 c5) (fun v J7 hp => ?_) (fun _ _ h => h.elim)
      obtain ⟨r7, rfl, e7, w7⟩ := hp
      have e7 := e7.symm
      subst e7
      have w7 := w7.symm
      subst w7
      show ZZ K (0, 0) 28 [(0, .ref 312)] [.int f7] g7
      refine zz_if_eq (tgt := 42) hb (z_dec dX11_parseSettings 17 rfl) (by decide) (fun c8 => ?_) (fun c8 => ?_)
      · refine zz_iconst (v := (0 : Int32)) hb (z_dec dX11_parseSettings 24 rfl) (by decide) ?_
        exact zz_zret hb hE ⟨Nat.le_refl 0, Nat.le_refl 0⟩ (by decide) (z_dec dX11_parseSettings 25 rfl) (h9 c2 c5 c8)
      · refine zz_aload_n hb (z_dec dX11_parseSettings 18 rfl) rfl 0 rfl ?_
        refine zz_iconst (v := (3 : Int32)) hb (z_dec dX11_parseSettings 19 rfl) (by decide) ?_
        refine zz_iconst (v := (0 : Int32)) hb (z_dec dX11_parseSettings 20 rfl) (by decide) ?_
        refine zz_bipush (v := (9 : Int32)) hb (z_dec dX11_parseSettings 21 rfl) (by decide) ?_
        refine zz_inv (as := [.int (3 : Int32), .int (0 : Int32), .int (9 : Int32)]) (d := 2) (mc := (0, 0)) (P := (qE f10 g10)) (X := nX) hb ho hnl hR hE mkX11_parseRanged rfl ckX11 t0 rfl ⟨Nat.le_refl 0, Nat.le_refl 0⟩ rfl (rX11_parseSettings 0 rfl) (rX11_parseSettings 1 rfl) (rX11_parseSettings 2 rfl) rfl (z_dec dX11_parseSettings 22 rfl) (m10 c2 c5 c8) (fun v J10 hp => ?_) (fun _ _ h => h.elim)
        obtain ⟨r10, rfl, e10, w10⟩ := hp
        have e10 := e10.symm
        subst e10
        have w10 := w10.symm
        subst w10
        show ZZ K (0, 0) 39 [(0, .ref 312)] [.int f10] g10
        refine zz_if_ne (tgt := 44) hb (z_dec dX11_parseSettings 23 rfl) (by decide) (fun c11 => ?_) (fun c11 => ?_)
        · refine zz_aload_n hb (z_dec dX11_parseSettings 26 rfl) rfl 0 rfl ?_
          refine zz_iconst (v := (4 : Int32)) hb (z_dec dX11_parseSettings 27 rfl) (by decide) ?_
          refine zz_iconst (v := (1 : Int32)) hb (z_dec dX11_parseSettings 28 rfl) (by decide) ?_
          refine zz_bipush (v := (9 : Int32)) hb (z_dec dX11_parseSettings 29 rfl) (by decide) ?_
          refine zz_inv (as := [.int (4 : Int32), .int (1 : Int32), .int (9 : Int32)]) (d := 2) (mc := (0, 0)) (P := (qE f12 g12)) (X := nX) hb ho hnl hR hE mkX11_parseRanged rfl ckX11 t0 rfl ⟨Nat.le_refl 0, Nat.le_refl 0⟩ rfl (rX11_parseSettings 0 rfl) (rX11_parseSettings 1 rfl) (rX11_parseSettings 2 rfl) rfl (z_dec dX11_parseSettings 30 rfl) (m12 c2 c5 c8 c11) (fun v J12 hp => ?_) (fun _ _ h => h.elim)
          obtain ⟨r12, rfl, e12, w12⟩ := hp
          have e12 := e12.symm
          subst e12
          have w12 := w12.symm
          subst w12
          show ZZ K (0, 0) 52 [(0, .ref 312)] [.int f12] g12
          refine zz_if_eq (tgt := 88) hb (z_dec dX11_parseSettings 31 rfl) (by decide) (fun c13 => ?_) (fun c13 => ?_)
          · refine zz_iconst (v := (0 : Int32)) hb (z_dec dX11_parseSettings 49 rfl) (by decide) ?_
            exact zz_zret hb hE ⟨Nat.le_refl 0, Nat.le_refl 0⟩ (by decide) (z_dec dX11_parseSettings 50 rfl) (h14 c2 c5 c8 c11 c13)
          · refine zz_aload_n hb (z_dec dX11_parseSettings 32 rfl) rfl 0 rfl ?_
            refine zz_iconst (v := (5 : Int32)) hb (z_dec dX11_parseSettings 33 rfl) (by decide) ?_
            refine zz_iconst (v := (1 : Int32)) hb (z_dec dX11_parseSettings 34 rfl) (by decide) ?_
            refine zz_bipush (v := (20 : Int32)) hb (z_dec dX11_parseSettings 35 rfl) (by decide) ?_
            refine zz_inv (as := [.int (5 : Int32), .int (1 : Int32), .int (20 : Int32)]) (d := 2) (mc := (0, 0)) (P := (qE f15 g15)) (X := nX) hb ho hnl hR hE mkX11_parseRanged rfl ckX11 t0 rfl ⟨Nat.le_refl 0, Nat.le_refl 0⟩ rfl (rX11_parseSettings 0 rfl) (rX11_parseSettings 1 rfl) (rX11_parseSettings 2 rfl) rfl (z_dec dX11_parseSettings 36 rfl) (m15 c2 c5 c8 c11 c13) (fun v J15 hp => ?_) (fun _ _ h => h.elim)
            obtain ⟨r15, rfl, e15, w15⟩ := hp
            have e15 := e15.symm
            subst e15
            have w15 := w15.symm
            subst w15
            show ZZ K (0, 0) 63 [(0, .ref 312)] [.int f15] g15
            refine zz_if_eq (tgt := 88) hb (z_dec dX11_parseSettings 37 rfl) (by decide) (fun c16 => ?_) (fun c16 => ?_)
            · refine zz_iconst (v := (0 : Int32)) hb (z_dec dX11_parseSettings 49 rfl) (by decide) ?_
              exact zz_zret hb hE ⟨Nat.le_refl 0, Nat.le_refl 0⟩ (by decide) (z_dec dX11_parseSettings 50 rfl) (h17 c2 c5 c8 c11 c13 c16)
            · refine zz_aload_n hb (z_dec dX11_parseSettings 38 rfl) rfl 0 rfl ?_
              refine zz_bipush (v := (6 : Int32)) hb (z_dec dX11_parseSettings 39 rfl) (by decide) ?_
              refine zz_iconst (v := (0 : Int32)) hb (z_dec dX11_parseSettings 40 rfl) (by decide) ?_
              refine zz_iconst (v := (5 : Int32)) hb (z_dec dX11_parseSettings 41 rfl) (by decide) ?_
              refine zz_inv (as := [.int (6 : Int32), .int (0 : Int32), .int (5 : Int32)]) (d := 2) (mc := (0, 0)) (P := (qE f18 g18)) (X := nX) hb ho hnl hR hE mkX11_parseRanged rfl ckX11 t0 rfl ⟨Nat.le_refl 0, Nat.le_refl 0⟩ rfl (rX11_parseSettings 0 rfl) (rX11_parseSettings 1 rfl) (rX11_parseSettings 2 rfl) rfl (z_dec dX11_parseSettings 42 rfl) (m18 c2 c5 c8 c11 c13 c16) (fun v J18 hp => ?_) (fun _ _ h => h.elim)
              obtain ⟨r18, rfl, e18, w18⟩ := hp
              have e18 := e18.symm
              subst e18
              have w18 := w18.symm
              subst w18
              show ZZ K (0, 0) 74 [(0, .ref 312)] [.int f18] g18
              refine zz_if_eq (tgt := 88) hb (z_dec dX11_parseSettings 43 rfl) (by decide) (fun c19 => ?_) (fun c19 => ?_)
              · refine zz_iconst (v := (0 : Int32)) hb (z_dec dX11_parseSettings 49 rfl) (by decide) ?_
                exact zz_zret hb hE ⟨Nat.le_refl 0, Nat.le_refl 0⟩ (by decide) (z_dec dX11_parseSettings 50 rfl) (h20 c2 c5 c8 c11 c13 c16 c19)
              · refine zz_aload_n hb (z_dec dX11_parseSettings 44 rfl) rfl 0 rfl ?_
                refine zz_inv (as := []) (d := 2) (mc := (0, 0)) (P := (qE f21 g21)) (X := nX) hb ho hnl hR hE mkX11_semicolon rfl ckX11 t0 rfl ⟨Nat.le_refl 0, Nat.le_refl 0⟩ rfl (rX11_parseSettings 3 rfl) (rX11_parseSettings 4 rfl) (rX11_parseSettings 5 rfl) rfl (z_dec dX11_parseSettings 45 rfl) (m21 c2 c5 c8 c11 c13 c16 c19) (fun v J21 hp => ?_) (fun _ _ h => h.elim)
                obtain ⟨r21, rfl, e21, w21⟩ := hp
                have e21 := e21.symm
                subst e21
                have w21 := w21.symm
                subst w21
                show ZZ K (0, 0) 81 [(0, .ref 312)] [.int f21] g21
                refine zz_if_eq (tgt := 88) hb (z_dec dX11_parseSettings 46 rfl) (by decide) (fun c22 => ?_) (fun c22 => ?_)
                · refine zz_iconst (v := (0 : Int32)) hb (z_dec dX11_parseSettings 49 rfl) (by decide) ?_
                  exact zz_zret hb hE ⟨Nat.le_refl 0, Nat.le_refl 0⟩ (by decide) (z_dec dX11_parseSettings 50 rfl) (h23 c2 c5 c8 c11 c13 c16 c19 c22)
                · refine zz_iconst (v := (1 : Int32)) hb (z_dec dX11_parseSettings 47 rfl) (by decide) ?_
                  refine zz_goto (tgt := 89) hb (z_dec dX11_parseSettings 48 rfl) (by decide) ?_
                  exact zz_zret hb hE ⟨Nat.le_refl 0, Nat.le_refl 0⟩ (by decide) (z_dec dX11_parseSettings 50 rfl) (h24 c2 c5 c8 c11 c13 c16 c19 c22)
        · refine zz_iconst (v := (0 : Int32)) hb (z_dec dX11_parseSettings 24 rfl) (by decide) ?_
          exact zz_zret hb hE ⟨Nat.le_refl 0, Nat.le_refl 0⟩ (by decide) (z_dec dX11_parseSettings 25 rfl) (h25 c2 c5 c8 c11)
set_option maxRecDepth 20000 in
theorem bX11_parseClerk_0 {K : zK} {P : Option Value → zM → Prop} {X : String → zM → Prop} (hK : zIs K RX11 cX11_parseClerk 3 (some .boolean) 3 (0, 0) P X) (hw : wOK (kw K)) {I : zM} (t0 : isT (kw K) 11 312) {g2 : zM} (m2 : ∀ (c1 : ¬ (I 313 7) = (6 : Int32)), CT (kG K) (kw K) (kl K) (yX11_token, cX11_token, 1, none) 1 (0, 0) [.ref 312] I (qV (fun J => J = g2)) nX) {f3 : Int32} {g3 : zM} (m3 : ∀ (c1 : ¬ (I 313 7) = (6 : Int32)), CT (kG K) (kw K) (kl K) (yX11_isShortWord, cX11_isShortWord, 1, (some .boolean)) 1 (0, 0) [.ref 312] g2 (qE f3 g3) nX) {f5 : Int32} {g5 : zM} (m5 : ∀ (c1 : ¬ (I 313 7) = (6 : Int32)) (c4 : ¬ f3 = 0), CT (kG K) (kw K) (kl K) (yX11_clerkNamed, cX11_clerkNamed, 7, (some .int)) 0 (0, 0) [.ref 312, .int (g3 312 12), .int ((g3 312 10) - (g3 312 12))] g3 (qE f5 g5) nX) (h7 : ∀ (c1 : ¬ (I 313 7) = (6 : Int32)) (c4 : ¬ f3 = 0) (c6 : f5 = (-1 : Int32)), vp_in ((22 : Int32) + ((g5 313 7) * (7 : Int32))) 1600) (k8 : ∀ (c1 : ¬ (I 313 7) = (6 : Int32)) (c4 : ¬ f3 = 0) (c6 : f5 = (-1 : Int32)), ZZ K (0, 0) 92 [(0, .ref 312), (1, .int ((22 : Int32) + ((g5 313 7) * (7 : Int32)))), (2, .int ((up g5 313 (((22 : Int32) + ((g5 313 7) * (7 : Int32))).toNatClampNeg) ((g5 312 10) - (g5 312 12))) 312 12))] [] (up g5 313 (((22 : Int32) + ((g5 313 7) * (7 : Int32))).toNatClampNeg) ((g5 312 10) - (g5 312 12)))) {f9 : Int32} {g9 : zM} (m9 : ∀ (c1 : ¬ (I 313 7) = (6 : Int32)) (c4 : ¬ f3 = 0) (c6 : ¬ f5 = (-1 : Int32)), CT (kG K) (kw K) (kl K) (yX11_wrong, cX11_wrong, 2, (some .boolean)) 0 (0, 0) [.ref 312, .int (3 : Int32)] g5 (qE f9 g9) nX) (h10 : ∀ (c1 : ¬ (I 313 7) = (6 : Int32)) (c4 : ¬ f3 = 0) (c6 : ¬ f5 = (-1 : Int32)), P (some (.int f9)) g9) (z11 : ∀ (c1 : ¬ (I 313 7) = (6 : Int32)) (c4 : ¬ f3 = 0) (c6 : ¬ f5 = (-1 : Int32)), f9 = 0 ∨ f9 = 1) (h12 : ∀ (c1 : ¬ (I 313 7) = (6 : Int32)) (c4 : f3 = 0), P (some (.int (0 : Int32))) g3) {f13 : Int32} {g13 : zM} (m13 : ∀ (c1 : (I 313 7) = (6 : Int32)), CT (kG K) (kw K) (kl K) (yX11_wrong, cX11_wrong, 2, (some .boolean)) 0 (0, 0) [.ref 312, .int (4 : Int32)] I (qE f13 g13) nX) (h14 : ∀ (c1 : (I 313 7) = (6 : Int32)), P (some (.int f13)) g13) (z15 : ∀ (c1 : (I 313 7) = (6 : Int32)), f13 = 0 ∨ f13 = 1) : ZZ K (0, 0) 0 [(0, .ref 312)] [] I := by
  obtain ⟨hb, ho, hnl, hR, hE⟩ := hK
  refine zz_aload_n hb (z_dec dX11_parseClerk 0 rfl) rfl 0 rfl ?_
  refine zz_getr (k := 0) (q := 313) hb ho rfl ckX11 t0 rfl rfl (rX11_parseClerk 0 rfl) rfl (z_dec dX11_parseClerk 1 rfl) ?_
  refine zz_bipush (v := (7 : Int32)) hb (z_dec dX11_parseClerk 2 rfl) (by decide) ?_
  refine zz_iald (j := 7) hb (show isT (kw K) 20 313 from isT.f (k := 0) t0 hw rfl rfl rfl (by decide)) rfl (zvi rfl (zin rfl)) (z_dec dX11_parseClerk 3 rfl) ?_
  refine zz_bipush (v := (6 : Int32)) hb (z_dec dX11_parseClerk 4 rfl) (by decide) ?_
  refine zz_icmp_ne (tgt := 18) hb (z_dec dX11_parseClerk 5 rfl) (by decide) (fun c1 => ?_) (fun c1 => ?_)
  · refine zz_aload_n hb (z_dec dX11_parseClerk 10 rfl) rfl 0 rfl ?_
    refine zz_inv (as := []) (d := 1) (mc := (0, 0)) (P := (qV (fun J => J = g2))) (X := nX) hb ho hnl hR hE mkX11_token rfl ckX11 t0 rfl ⟨Nat.le_refl 0, Nat.le_refl 0⟩ rfl (rX11_parseClerk 4 rfl) (rX11_parseClerk 5 rfl) (rX11_parseClerk 6 rfl) rfl (z_dec dX11_parseClerk 11 rfl) (m2 c1) (fun v J2 hp => ?_) (fun _ _ h => h.elim)
    obtain ⟨rfl, w2⟩ := hp
    have w2 := w2.symm
    subst w2
    show ZZ K (0, 0) 22 [(0, .ref 312)] [] g2
    refine zz_aload_n hb (z_dec dX11_parseClerk 12 rfl) rfl 0 rfl ?_
    refine zz_inv (as := []) (d := 1) (mc := (0, 0)) (P := (qE f3 g3)) (X := nX) hb ho hnl hR hE mkX11_isShortWord rfl ckX11 t0 rfl ⟨Nat.le_refl 0, Nat.le_refl 0⟩ rfl (rX11_parseClerk 7 rfl) (rX11_parseClerk 8 rfl) (rX11_parseClerk 9 rfl) rfl (z_dec dX11_parseClerk 13 rfl) (m3 c1) (fun v J3 hp => ?_) (fun _ _ h => h.elim)
    obtain ⟨r3, rfl, e3, w3⟩ := hp
    have e3 := e3.symm
    subst e3
    have w3 := w3.symm
    subst w3
    show ZZ K (0, 0) 26 [(0, .ref 312)] [.int f3] g3
    refine zz_if_ne (tgt := 31) hb (z_dec dX11_parseClerk 14 rfl) (by decide) (fun c4 => ?_) (fun c4 => ?_)
    · refine zz_aload_n hb (z_dec dX11_parseClerk 17 rfl) rfl 0 rfl ?_
      refine zz_aload_n hb (z_dec dX11_parseClerk 18 rfl) rfl 0 rfl ?_
      refine zz_get (k := 12) hb ho ckX11 t0 rfl rfl (rX11_parseClerk 10 rfl) rfl (z_dec dX11_parseClerk 19 rfl) ?_
      refine zz_aload_n hb (z_dec dX11_parseClerk 20 rfl) rfl 0 rfl ?_
      refine zz_get (k := 10) hb ho ckX11 t0 rfl rfl (rX11_parseClerk 11 rfl) rfl (z_dec dX11_parseClerk 21 rfl) ?_
      refine zz_aload_n hb (z_dec dX11_parseClerk 22 rfl) rfl 0 rfl ?_
      refine zz_get (k := 12) hb ho ckX11 t0 rfl rfl (rX11_parseClerk 10 rfl) rfl (z_dec dX11_parseClerk 23 rfl) ?_
      refine zz_isub hb (z_dec dX11_parseClerk 24 rfl) ?_
      refine zz_inv (as := [.int (g3 312 12), .int ((g3 312 10) - (g3 312 12))]) (d := 0) (mc := (0, 0)) (P := (qE f5 g5)) (X := nX) hb ho hnl hR hE mkX11_clerkNamed rfl ckX11 t0 rfl ⟨Nat.le_refl 0, Nat.le_refl 0⟩ rfl (rX11_parseClerk 12 rfl) (rX11_parseClerk 13 rfl) (rX11_parseClerk 14 rfl) rfl (z_dec dX11_parseClerk 25 rfl) (m5 c1 c4) (fun v J5 hp => ?_) (fun _ _ h => h.elim)
      obtain ⟨r5, rfl, e5, w5⟩ := hp
      have e5 := e5.symm
      subst e5
      have w5 := w5.symm
      subst w5
      show ZZ K (0, 0) 48 [(0, .ref 312)] [.int f5] g5
      refine zz_iconst (v := (-1 : Int32)) hb (z_dec dX11_parseClerk 26 rfl) (by decide) ?_
      refine zz_icmp_eq (tgt := 58) hb (z_dec dX11_parseClerk 27 rfl) (by decide) (fun c6 => ?_) (fun c6 => ?_)
      · refine zz_bipush (v := (22 : Int32)) hb (z_dec dX11_parseClerk 32 rfl) (by decide) ?_
        refine zz_aload_n hb (z_dec dX11_parseClerk 33 rfl) rfl 0 rfl ?_
        refine zz_getr (k := 0) (q := 313) hb ho rfl ckX11 t0 rfl rfl (rX11_parseClerk 0 rfl) rfl (z_dec dX11_parseClerk 34 rfl) ?_
        refine zz_bipush (v := (7 : Int32)) hb (z_dec dX11_parseClerk 35 rfl) (by decide) ?_
        refine zz_iald (j := 7) hb (show isT (kw K) 20 313 from isT.f (k := 0) t0 hw rfl rfl rfl (by decide)) rfl (zvi rfl (zin rfl)) (z_dec dX11_parseClerk 36 rfl) ?_
        refine zz_bipush (v := (7 : Int32)) hb (z_dec dX11_parseClerk 37 rfl) (by decide) ?_
        refine zz_imul hb (z_dec dX11_parseClerk 38 rfl) ?_
        refine zz_iadd hb (z_dec dX11_parseClerk 39 rfl) ?_
        refine zz_istore_n (L' := [(0, .ref 312), (1, .int ((22 : Int32) + ((g5 313 7) * (7 : Int32))))]) hb (z_dec dX11_parseClerk 40 rfl) rfl hnl rfl [1, 0] rfl ?_
        refine zz_aload_n hb (z_dec dX11_parseClerk 41 rfl) rfl 0 rfl ?_
        refine zz_getr (k := 0) (q := 313) hb ho rfl ckX11 t0 rfl rfl (rX11_parseClerk 0 rfl) rfl (z_dec dX11_parseClerk 42 rfl) ?_
        refine zz_iload_n hb (z_dec dX11_parseClerk 43 rfl) rfl 1 rfl ?_
        refine zz_aload_n hb (z_dec dX11_parseClerk 44 rfl) rfl 0 rfl ?_
        refine zz_get (k := 10) hb ho ckX11 t0 rfl rfl (rX11_parseClerk 11 rfl) rfl (z_dec dX11_parseClerk 45 rfl) ?_
        refine zz_aload_n hb (z_dec dX11_parseClerk 46 rfl) rfl 0 rfl ?_
        refine zz_get (k := 12) hb ho ckX11 t0 rfl rfl (rX11_parseClerk 10 rfl) rfl (z_dec dX11_parseClerk 47 rfl) ?_
        refine zz_isub hb (z_dec dX11_parseClerk 48 rfl) ?_
        refine zz_iast (j := ((22 : Int32) + ((g5 313 7) * (7 : Int32))).toNatClampNeg) hb (show isT (kw K) 20 313 from isT.f (k := 0) t0 hw rfl rfl rfl (by decide)) rfl (zvi rfl (h7 c1 c4 c6)) (z_dec dX11_parseClerk 49 rfl) ?_
        refine zz_aload_n hb (z_dec dX11_parseClerk 50 rfl) rfl 0 rfl ?_
        refine zz_get (k := 12) hb ho ckX11 t0 rfl rfl (rX11_parseClerk 10 rfl) rfl (z_dec dX11_parseClerk 51 rfl) ?_
        refine zz_istore_n (L' := [(0, .ref 312), (1, .int ((22 : Int32) + ((g5 313 7) * (7 : Int32)))), (2, .int ((up g5 313 (((22 : Int32) + ((g5 313 7) * (7 : Int32))).toNatClampNeg) ((g5 312 10) - (g5 312 12))) 312 12))]) hb (z_dec dX11_parseClerk 52 rfl) rfl hnl rfl [1, 2, 0] rfl ?_
        exact (k8 c1 c4 c6)
      · refine zz_aload_n hb (z_dec dX11_parseClerk 28 rfl) rfl 0 rfl ?_
        refine zz_iconst (v := (3 : Int32)) hb (z_dec dX11_parseClerk 29 rfl) (by decide) ?_
        refine zz_inv (as := [.int (3 : Int32)]) (d := 0) (mc := (0, 0)) (P := (qE f9 g9)) (X := nX) hb ho hnl hR hE mkX11_wrong rfl ckX11 t0 rfl ⟨Nat.le_refl 0, Nat.le_refl 0⟩ rfl (rX11_parseClerk 1 rfl) (rX11_parseClerk 2 rfl) (rX11_parseClerk 3 rfl) rfl (z_dec dX11_parseClerk 30 rfl) (m9 c1 c4 c6) (fun v J9 hp => ?_) (fun _ _ h => h.elim)
        obtain ⟨r9, rfl, e9, w9⟩ := hp
        have e9 := e9.symm
        subst e9
        have w9 := w9.symm
        subst w9
        show ZZ K (0, 0) 57 [(0, .ref 312)] [.int f9] g9
        exact zz_zret hb hE ⟨Nat.le_refl 0, Nat.le_refl 0⟩ (z11 c1 c4 c6) (z_dec dX11_parseClerk 31 rfl) (h10 c1 c4 c6)
    · refine zz_iconst (v := (0 : Int32)) hb (z_dec dX11_parseClerk 15 rfl) (by decide) ?_
      exact zz_zret hb hE ⟨Nat.le_refl 0, Nat.le_refl 0⟩ (by decide) (z_dec dX11_parseClerk 16 rfl) (h12 c1 c4)
  · refine zz_aload_n hb (z_dec dX11_parseClerk 6 rfl) rfl 0 rfl ?_
    refine zz_iconst (v := (4 : Int32)) hb (z_dec dX11_parseClerk 7 rfl) (by decide) ?_
    refine zz_inv (as := [.int (4 : Int32)]) (d := 0) (mc := (0, 0)) (P := (qE f13 g13)) (X := nX) hb ho hnl hR hE mkX11_wrong rfl ckX11 t0 rfl ⟨Nat.le_refl 0, Nat.le_refl 0⟩ rfl (rX11_parseClerk 1 rfl) (rX11_parseClerk 2 rfl) (rX11_parseClerk 3 rfl) rfl (z_dec dX11_parseClerk 8 rfl) (m13 c1) (fun v J13 hp => ?_) (fun _ _ h => h.elim)
    obtain ⟨r13, rfl, e13, w13⟩ := hp
    have e13 := e13.symm
    subst e13
    have w13 := w13.symm
    subst w13
    show ZZ K (0, 0) 17 [(0, .ref 312)] [.int f13] g13
    exact zz_zret hb hE ⟨Nat.le_refl 0, Nat.le_refl 0⟩ (z15 c1) (z_dec dX11_parseClerk 9 rfl) (h14 c1)
set_option maxRecDepth 20000 in
theorem bX11_parseClerk_92 {K : zK} {P : Option Value → zM → Prop} {X : String → zM → Prop} (hK : zIs K RX11 cX11_parseClerk 3 (some .boolean) 3 (0, 0) P X) (hw : wOK (kw K)) {I : zM} (t0 : isT (kw K) 11 312) {v1 : Int32} {v2 : Int32} {g2 : zM} (m2 : ∀ (c1 : (I 312 10) ≤ v2), CT (kG K) (kw K) (kl K) (yX11_token, cX11_token, 1, none) 1 (0, 0) [.ref 312] I (qV (fun J => J = g2)) nX) {f3 : Int32} {g3 : zM} (m3 : ∀ (c1 : (I 312 10) ≤ v2), CT (kG K) (kw K) (kl K) (yX11_semicolon, cX11_semicolon, 1, (some .boolean)) 2 (0, 0) [.ref 312] g2 (qE f3 g3) nX) (h5 : ∀ (c1 : (I 312 10) ≤ v2) (c4 : ¬ f3 = 0), P (some (.int (1 : Int32))) (up g3 313 7 ((g3 313 7) + (1 : Int32)))) (h6 : ∀ (c1 : (I 312 10) ≤ v2) (c4 : f3 = 0), P (some (.int (0 : Int32))) g3) (h7 : ∀ (c1 : ¬ (I 312 10) ≤ v2), vp_in v2 600) (h8 : ∀ (c1 : ¬ (I 312 10) ≤ v2), vp_in (((v1 + (1 : Int32)) + v2) - (I 312 12)) 1600) (k9 : ∀ (c1 : ¬ (I 312 10) ≤ v2), ZZ K (0, 0) 92 [(0, .ref 312), (1, .int v1), (2, .int (v2 + 1))] [] (up I 313 ((((v1 + (1 : Int32)) + v2) - (I 312 12)).toNatClampNeg) (I 315 v2.toNatClampNeg))) : ZZ K (0, 0) 92 [(0, .ref 312), (1, .int v1), (2, .int v2)] [] I := by
  obtain ⟨hb, ho, hnl, hR, hE⟩ := hK
  refine zz_iload_n hb (z_dec dX11_parseClerk 53 rfl) rfl 2 rfl ?_
  refine zz_aload_n hb (z_dec dX11_parseClerk 54 rfl) rfl 0 rfl ?_
  refine zz_get (k := 10) hb ho ckX11 t0 rfl rfl (rX11_parseClerk 11 rfl) rfl (z_dec dX11_parseClerk 55 rfl) ?_
  refine zz_icmp_ge (tgt := 127) hb (z_dec dX11_parseClerk 56 rfl) (by decide) (fun c1 => ?_) (fun c1 => ?_)
  · refine zz_aload_n hb (z_dec dX11_parseClerk 74 rfl) rfl 0 rfl ?_
    refine zz_inv (as := []) (d := 1) (mc := (0, 0)) (P := (qV (fun J => J = g2))) (X := nX) hb ho hnl hR hE mkX11_token rfl ckX11 t0 rfl ⟨Nat.le_refl 0, Nat.le_refl 0⟩ rfl (rX11_parseClerk 4 rfl) (rX11_parseClerk 5 rfl) (rX11_parseClerk 6 rfl) rfl (z_dec dX11_parseClerk 75 rfl) (m2 c1) (fun v J2 hp => ?_) (fun _ _ h => h.elim)
    obtain ⟨rfl, w2⟩ := hp
    have w2 := w2.symm
    subst w2
    show ZZ K (0, 0) 131 [(0, .ref 312), (1, .int v1), (2, .int v2)] [] g2
    refine zz_aload_n hb (z_dec dX11_parseClerk 76 rfl) rfl 0 rfl ?_
    refine zz_inv (as := []) (d := 2) (mc := (0, 0)) (P := (qE f3 g3)) (X := nX) hb ho hnl hR hE mkX11_semicolon rfl ckX11 t0 rfl ⟨Nat.le_refl 0, Nat.le_refl 0⟩ rfl (rX11_parseClerk 16 rfl) (rX11_parseClerk 17 rfl) (rX11_parseClerk 18 rfl) rfl (z_dec dX11_parseClerk 77 rfl) (m3 c1) (fun v J3 hp => ?_) (fun _ _ h => h.elim)
    obtain ⟨r3, rfl, e3, w3⟩ := hp
    have e3 := e3.symm
    subst e3
    have w3 := w3.symm
    subst w3
    show ZZ K (0, 0) 135 [(0, .ref 312), (1, .int v1), (2, .int v2)] [.int f3] g3
    refine zz_if_ne (tgt := 140) hb (z_dec dX11_parseClerk 78 rfl) (by decide) (fun c4 => ?_) (fun c4 => ?_)
    · refine zz_aload_n hb (z_dec dX11_parseClerk 81 rfl) rfl 0 rfl ?_
      refine zz_getr (k := 0) (q := 313) hb ho rfl ckX11 t0 rfl rfl (rX11_parseClerk 0 rfl) rfl (z_dec dX11_parseClerk 82 rfl) ?_
      refine zz_bipush (v := (7 : Int32)) hb (z_dec dX11_parseClerk 83 rfl) (by decide) ?_
      refine zz_dup2 hb (z_dec dX11_parseClerk 84 rfl) rfl rfl ?_
      refine zz_iald (j := 7) hb (show isT (kw K) 20 313 from isT.f (k := 0) t0 hw rfl rfl rfl (by decide)) rfl (zvi rfl (zin rfl)) (z_dec dX11_parseClerk 85 rfl) ?_
      refine zz_iconst (v := (1 : Int32)) hb (z_dec dX11_parseClerk 86 rfl) (by decide) ?_
      refine zz_iadd hb (z_dec dX11_parseClerk 87 rfl) ?_
      refine zz_iast (j := 7) hb (show isT (kw K) 20 313 from isT.f (k := 0) t0 hw rfl rfl rfl (by decide)) rfl (zvi rfl (zin rfl)) (z_dec dX11_parseClerk 88 rfl) ?_
      refine zz_iconst (v := (1 : Int32)) hb (z_dec dX11_parseClerk 89 rfl) (by decide) ?_
      exact zz_zret hb hE ⟨Nat.le_refl 0, Nat.le_refl 0⟩ (by decide) (z_dec dX11_parseClerk 90 rfl) (h5 c1 c4)
    · refine zz_iconst (v := (0 : Int32)) hb (z_dec dX11_parseClerk 79 rfl) (by decide) ?_
      exact zz_zret hb hE ⟨Nat.le_refl 0, Nat.le_refl 0⟩ (by decide) (z_dec dX11_parseClerk 80 rfl) (h6 c1 c4)
  · refine zz_aload_n hb (z_dec dX11_parseClerk 57 rfl) rfl 0 rfl ?_
    refine zz_getr (k := 0) (q := 313) hb ho rfl ckX11 t0 rfl rfl (rX11_parseClerk 0 rfl) rfl (z_dec dX11_parseClerk 58 rfl) ?_
    refine zz_iload_n hb (z_dec dX11_parseClerk 59 rfl) rfl 1 rfl ?_
    refine zz_iconst (v := (1 : Int32)) hb (z_dec dX11_parseClerk 60 rfl) (by decide) ?_
    refine zz_iadd hb (z_dec dX11_parseClerk 61 rfl) ?_
    refine zz_iload_n hb (z_dec dX11_parseClerk 62 rfl) rfl 2 rfl ?_
    refine zz_iadd hb (z_dec dX11_parseClerk 63 rfl) ?_
    refine zz_aload_n hb (z_dec dX11_parseClerk 64 rfl) rfl 0 rfl ?_
    refine zz_get (k := 12) hb ho ckX11 t0 rfl rfl (rX11_parseClerk 10 rfl) rfl (z_dec dX11_parseClerk 65 rfl) ?_
    refine zz_isub hb (z_dec dX11_parseClerk 66 rfl) ?_
    refine zz_aload_n hb (z_dec dX11_parseClerk 67 rfl) rfl 0 rfl ?_
    refine zz_getr (k := 3) (q := 315) hb ho rfl ckX11 t0 rfl rfl (rX11_parseClerk 15 rfl) rfl (z_dec dX11_parseClerk 68 rfl) ?_
    refine zz_iload_n hb (z_dec dX11_parseClerk 69 rfl) rfl 2 rfl ?_
    refine zz_iald (j := v2.toNatClampNeg) hb (show isT (kw K) 20 315 from isT.f (k := 3) t0 hw rfl rfl rfl (by decide)) rfl (zvi rfl (h7 c1)) (z_dec dX11_parseClerk 70 rfl) ?_
    refine zz_iast (j := (((v1 + (1 : Int32)) + v2) - (I 312 12)).toNatClampNeg) hb (show isT (kw K) 20 313 from isT.f (k := 0) t0 hw rfl rfl rfl (by decide)) rfl (zvi rfl (h8 c1)) (z_dec dX11_parseClerk 71 rfl) ?_
    refine zz_iinc (v := (v2 + 1)) (L' := [(0, .ref 312), (1, .int v1), (2, .int (v2 + 1))]) hb (z_dec dX11_parseClerk 72 rfl) 2 rfl rfl hnl rfl [1, 2, 0] rfl ?_
    refine zz_goto (tgt := 92) hb (z_dec dX11_parseClerk 73 rfl) (by decide) ?_
    exact (k9 c1)
set_option maxRecDepth 20000 in
theorem bX11_parseLetter_0 {K : zK} {P : Option Value → zM → Prop} {X : String → zM → Prop} (hK : zIs K RX11 cX11_parseLetter 3 (some .boolean) 3 (0, 0) P X) (hw : wOK (kw K)) {I : zM} (t0 : isT (kw K) 11 312) {g2 : zM} (m2 : ∀ (c1 : ¬ (I 313 8) = (12 : Int32)), CT (kG K) (kw K) (kl K) (yX11_token, cX11_token, 1, none) 1 (0, 0) [.ref 312] I (qV (fun J => J = g2)) nX) {f3 : Int32} {g3 : zM} (m3 : ∀ (c1 : ¬ (I 313 8) = (12 : Int32)), CT (kG K) (kw K) (kl K) (yX11_isShortWord, cX11_isShortWord, 1, (some .boolean)) 1 (0, 0) [.ref 312] g2 (qE f3 g3) nX) {f5 : Int32} {g5 : zM} (m5 : ∀ (c1 : ¬ (I 313 8) = (12 : Int32)) (c4 : ¬ f3 = 0), CT (kG K) (kw K) (kl K) (yX11_clerkNamed, cX11_clerkNamed, 7, (some .int)) 0 (0, 0) [.ref 312, .int (g3 312 12), .int ((g3 312 10) - (g3 312 12))] g3 (qE f5 g5) nX) {g7 : zM} (m7 : ∀ (c1 : ¬ (I 313 8) = (12 : Int32)) (c4 : ¬ f3 = 0) (c6 : ¬ f5 = (-1 : Int32)), CT (kG K) (kw K) (kl K) (yX11_token, cX11_token, 1, none) 1 (0, 0) [.ref 312] g5 (qV (fun J => J = g7)) nX) {f8 : Int32} {g8 : zM} (m8 : ∀ (c1 : ¬ (I 313 8) = (12 : Int32)) (c4 : ¬ f3 = 0) (c6 : ¬ f5 = (-1 : Int32)), CT (kG K) (kw K) (kl K) (yX11_parseRanged, cX11_parseRanged, 4, (some .boolean)) 2 (0, 0) [.ref 312, .int (((64 : Int32) + ((g7 313 8) * (8 : Int32))) + (1 : Int32)), .int (1 : Int32), .int (30 : Int32)] g7 (qE f8 g8) nX) (h10 : ∀ (c1 : ¬ (I 313 8) = (12 : Int32)) (c4 : ¬ f3 = 0) (c6 : ¬ f5 = (-1 : Int32)) (c9 : f8 = 0), P (some (.int (0 : Int32))) g8) {f11 : Int32} {g11 : zM} (m11 : ∀ (c1 : ¬ (I 313 8) = (12 : Int32)) (c4 : ¬ f3 = 0) (c6 : ¬ f5 = (-1 : Int32)) (c9 : ¬ f8 = 0), CT (kG K) (kw K) (kl K) (yX11_parseRanged, cX11_parseRanged, 4, (some .boolean)) 2 (0, 0) [.ref 312, .int (((64 : Int32) + ((g7 313 8) * (8 : Int32))) + (2 : Int32)), .int (0 : Int32), .int (999 : Int32)] g8 (qE f11 g11) nX) (h13 : ∀ (c1 : ¬ (I 313 8) = (12 : Int32)) (c4 : ¬ f3 = 0) (c6 : ¬ f5 = (-1 : Int32)) (c9 : ¬ f8 = 0) (c12 : f11 = 0), P (some (.int (0 : Int32))) g11) {f14 : Int32} {g14 : zM} (m14 : ∀ (c1 : ¬ (I 313 8) = (12 : Int32)) (c4 : ¬ f3 = 0) (c6 : ¬ f5 = (-1 : Int32)) (c9 : ¬ f8 = 0) (c12 : ¬ f11 = 0), CT (kG K) (kw K) (kl K) (yX11_parseRanged, cX11_parseRanged, 4, (some .boolean)) 2 (0, 0) [.ref 312, .int (((64 : Int32) + ((g7 313 8) * (8 : Int32))) + (3 : Int32)), .int (1 : Int32), .int (999 : Int32)] g11 (qE f14 g14) nX) (h16 : ∀ (c1 : ¬ (I 313 8) = (12 : Int32)) (c4 : ¬ f3 = 0) (c6 : ¬ f5 = (-1 : Int32)) (c9 : ¬ f8 = 0) (c12 : ¬ f11 = 0) (c15 : f14 = 0), P (some (.int (0 : Int32))) g14) {f17 : Int32} {g17 : zM} (m17 : ∀ (c1 : ¬ (I 313 8) = (12 : Int32)) (c4 : ¬ f3 = 0) (c6 : ¬ f5 = (-1 : Int32)) (c9 : ¬ f8 = 0) (c12 : ¬ f11 = 0) (c15 : ¬ f14 = 0), CT (kG K) (kw K) (kl K) (yX11_parseRanged, cX11_parseRanged, 4, (some .boolean)) 2 (0, 0) [.ref 312, .int (((64 : Int32) + ((g7 313 8) * (8 : Int32))) + (4 : Int32)), .int (0 : Int32), .int (9 : Int32)] g14 (qE f17 g17) nX) (h19 : ∀ (c1 : ¬ (I 313 8) = (12 : Int32)) (c4 : ¬ f3 = 0) (c6 : ¬ f5 = (-1 : Int32)) (c9 : ¬ f8 = 0) (c12 : ¬ f11 = 0) (c15 : ¬ f14 = 0) (c18 : f17 = 0), P (some (.int (0 : Int32))) g17) {f20 : Int32} {g20 : zM} (m20 : ∀ (c1 : ¬ (I 313 8) = (12 : Int32)) (c4 : ¬ f3 = 0) (c6 : ¬ f5 = (-1 : Int32)) (c9 : ¬ f8 = 0) (c12 : ¬ f11 = 0) (c15 : ¬ f14 = 0) (c18 : ¬ f17 = 0), CT (kG K) (kw K) (kl K) (yX11_semicolon, cX11_semicolon, 1, (some .boolean)) 2 (0, 0) [.ref 312] g17 (qE f20 g20) nX) (h22 : ∀ (c1 : ¬ (I 313 8) = (12 : Int32)) (c4 : ¬ f3 = 0) (c6 : ¬ f5 = (-1 : Int32)) (c9 : ¬ f8 = 0) (c12 : ¬ f11 = 0) (c15 : ¬ f14 = 0) (c18 : ¬ f17 = 0) (c21 : ¬ f20 = 0), vp_in (((64 : Int32) + ((g7 313 8) * (8 : Int32))) + (1 : Int32)) 1600) (h23 : ∀ (c1 : ¬ (I 313 8) = (12 : Int32)) (c4 : ¬ f3 = 0) (c6 : ¬ f5 = (-1 : Int32)) (c9 : ¬ f8 = 0) (c12 : ¬ f11 = 0) (c15 : ¬ f14 = 0) (c18 : ¬ f17 = 0) (c21 : ¬ f20 = 0), vp_in (((64 : Int32) + ((g7 313 8) * (8 : Int32))) + (2 : Int32)) 1600) (h24 : ∀ (c1 : ¬ (I 313 8) = (12 : Int32)) (c4 : ¬ f3 = 0) (c6 : ¬ f5 = (-1 : Int32)) (c9 : ¬ f8 = 0) (c12 : ¬ f11 = 0) (c15 : ¬ f14 = 0) (c18 : ¬ f17 = 0) (c21 : ¬ f20 = 0), vp_in (((64 : Int32) + ((g7 313 8) * (8 : Int32))) + (3 : Int32)) 1600) (h25 : ∀ (c1 : ¬ (I 313 8) = (12 : Int32)) (c4 : ¬ f3 = 0) (c6 : ¬ f5 = (-1 : Int32)) (c9 : ¬ f8 = 0) (c12 : ¬ f11 = 0) (c15 : ¬ f14 = 0) (c18 : ¬ f17 = 0) (c21 : ¬ f20 = 0), vp_in (((64 : Int32) + ((g7 313 8) * (8 : Int32))) + (4 : Int32)) 1600) {f26 : Int32} {g26 : zM} (m26 : ∀ (c1 : ¬ (I 313 8) = (12 : Int32)) (c4 : ¬ f3 = 0) (c6 : ¬ f5 = (-1 : Int32)) (c9 : ¬ f8 = 0) (c12 : ¬ f11 = 0) (c15 : ¬ f14 = 0) (c18 : ¬ f17 = 0) (c21 : ¬ f20 = 0), CT (kG K) (kw K) (kl K) (yX11_add, cX11_add, 7, (some .int)) 1 (0, 0) [.ref 312, .int f5, .int (g20 313 (((64 : Int32) + ((g7 313 8) * (8 : Int32))) + (1 : Int32)).toNatClampNeg), .int (g20 313 (((64 : Int32) + ((g7 313 8) * (8 : Int32))) + (2 : Int32)).toNatClampNeg), .int (g20 313 (((64 : Int32) + ((g7 313 8) * (8 : Int32))) + (3 : Int32)).toNatClampNeg), .int (g20 313 (((64 : Int32) + ((g7 313 8) * (8 : Int32))) + (4 : Int32)).toNatClampNeg)] g20 (qE f26 g26) nX) (h27 : ∀ (c1 : ¬ (I 313 8) = (12 : Int32)) (c4 : ¬ f3 = 0) (c6 : ¬ f5 = (-1 : Int32)) (c9 : ¬ f8 = 0) (c12 : ¬ f11 = 0) (c15 : ¬ f14 = 0) (c18 : ¬ f17 = 0) (c21 : ¬ f20 = 0), P (some (.int (1 : Int32))) g26) (h28 : ∀ (c1 : ¬ (I 313 8) = (12 : Int32)) (c4 : ¬ f3 = 0) (c6 : ¬ f5 = (-1 : Int32)) (c9 : ¬ f8 = 0) (c12 : ¬ f11 = 0) (c15 : ¬ f14 = 0) (c18 : ¬ f17 = 0) (c21 : f20 = 0), P (some (.int (0 : Int32))) g20) {f29 : Int32} {g29 : zM} (m29 : ∀ (c1 : ¬ (I 313 8) = (12 : Int32)) (c4 : ¬ f3 = 0) (c6 : f5 = (-1 : Int32)), CT (kG K) (kw K) (kl K) (yX11_wrong, cX11_wrong, 2, (some .boolean)) 0 (0, 0) [.ref 312, .int (3 : Int32)] g5 (qE f29 g29) nX) (h30 : ∀ (c1 : ¬ (I 313 8) = (12 : Int32)) (c4 : ¬ f3 = 0) (c6 : f5 = (-1 : Int32)), P (some (.int f29)) g29) (z31 : ∀ (c1 : ¬ (I 313 8) = (12 : Int32)) (c4 : ¬ f3 = 0) (c6 : f5 = (-1 : Int32)), f29 = 0 ∨ f29 = 1) (h32 : ∀ (c1 : ¬ (I 313 8) = (12 : Int32)) (c4 : f3 = 0), P (some (.int (0 : Int32))) g3) {f33 : Int32} {g33 : zM} (m33 : ∀ (c1 : (I 313 8) = (12 : Int32)), CT (kG K) (kw K) (kl K) (yX11_wrong, cX11_wrong, 2, (some .boolean)) 0 (0, 0) [.ref 312, .int (4 : Int32)] I (qE f33 g33) nX) (h34 : ∀ (c1 : (I 313 8) = (12 : Int32)), P (some (.int f33)) g33) (z35 : ∀ (c1 : (I 313 8) = (12 : Int32)), f33 = 0 ∨ f33 = 1) : ZZ K (0, 0) 0 [(0, .ref 312)] [] I := by
  obtain ⟨hb, ho, hnl, hR, hE⟩ := hK
  refine zz_aload_n hb (z_dec dX11_parseLetter 0 rfl) rfl 0 rfl ?_
  refine zz_getr (k := 0) (q := 313) hb ho rfl ckX11 t0 rfl rfl (rX11_parseLetter 0 rfl) rfl (z_dec dX11_parseLetter 1 rfl) ?_
  refine zz_bipush (v := (8 : Int32)) hb (z_dec dX11_parseLetter 2 rfl) (by decide) ?_
  refine zz_iald (j := 8) hb (show isT (kw K) 20 313 from isT.f (k := 0) t0 hw rfl rfl rfl (by decide)) rfl (zvi rfl (zin rfl)) (z_dec dX11_parseLetter 3 rfl) ?_
  refine zz_bipush (v := (12 : Int32)) hb (z_dec dX11_parseLetter 4 rfl) (by decide) ?_
  refine zz_icmp_ne (tgt := 18) hb (z_dec dX11_parseLetter 5 rfl) (by decide) (fun c1 => ?_) (fun c1 => ?_)
  · refine zz_aload_n hb (z_dec dX11_parseLetter 10 rfl) rfl 0 rfl ?_
    refine zz_inv (as := []) (d := 1) (mc := (0, 0)) (P := (qV (fun J => J = g2))) (X := nX) hb ho hnl hR hE mkX11_token rfl ckX11 t0 rfl ⟨Nat.le_refl 0, Nat.le_refl 0⟩ rfl (rX11_parseLetter 4 rfl) (rX11_parseLetter 5 rfl) (rX11_parseLetter 6 rfl) rfl (z_dec dX11_parseLetter 11 rfl) (m2 c1) (fun v J2 hp => ?_) (fun _ _ h => h.elim)
    obtain ⟨rfl, w2⟩ := hp
    have w2 := w2.symm
    subst w2
    show ZZ K (0, 0) 22 [(0, .ref 312)] [] g2
    refine zz_aload_n hb (z_dec dX11_parseLetter 12 rfl) rfl 0 rfl ?_
    refine zz_inv (as := []) (d := 1) (mc := (0, 0)) (P := (qE f3 g3)) (X := nX) hb ho hnl hR hE mkX11_isShortWord rfl ckX11 t0 rfl ⟨Nat.le_refl 0, Nat.le_refl 0⟩ rfl (rX11_parseLetter 7 rfl) (rX11_parseLetter 8 rfl) (rX11_parseLetter 9 rfl) rfl (z_dec dX11_parseLetter 13 rfl) (m3 c1) (fun v J3 hp => ?_) (fun _ _ h => h.elim)
    obtain ⟨r3, rfl, e3, w3⟩ := hp
    have e3 := e3.symm
    subst e3
    have w3 := w3.symm
    subst w3
    show ZZ K (0, 0) 26 [(0, .ref 312)] [.int f3] g3
    refine zz_if_ne (tgt := 31) hb (z_dec dX11_parseLetter 14 rfl) (by decide) (fun c4 => ?_) (fun c4 => ?_)
    · refine zz_aload_n hb (z_dec dX11_parseLetter 17 rfl) rfl 0 rfl ?_
      refine zz_aload_n hb (z_dec dX11_parseLetter 18 rfl) rfl 0 rfl ?_
      refine zz_get (k := 12) hb ho ckX11 t0 rfl rfl (rX11_parseLetter 10 rfl) rfl (z_dec dX11_parseLetter 19 rfl) ?_
      refine zz_aload_n hb (z_dec dX11_parseLetter 20 rfl) rfl 0 rfl ?_
      refine zz_get (k := 10) hb ho ckX11 t0 rfl rfl (rX11_parseLetter 11 rfl) rfl (z_dec dX11_parseLetter 21 rfl) ?_
      refine zz_aload_n hb (z_dec dX11_parseLetter 22 rfl) rfl 0 rfl ?_
      refine zz_get (k := 12) hb ho ckX11 t0 rfl rfl (rX11_parseLetter 10 rfl) rfl (z_dec dX11_parseLetter 23 rfl) ?_
      refine zz_isub hb (z_dec dX11_parseLetter 24 rfl) ?_
      refine zz_inv (as := [.int (g3 312 12), .int ((g3 312 10) - (g3 312 12))]) (d := 0) (mc := (0, 0)) (P := (qE f5 g5)) (X := nX) hb ho hnl hR hE mkX11_clerkNamed rfl ckX11 t0 rfl ⟨Nat.le_refl 0, Nat.le_refl 0⟩ rfl (rX11_parseLetter 12 rfl) (rX11_parseLetter 13 rfl) (rX11_parseLetter 14 rfl) rfl (z_dec dX11_parseLetter 25 rfl) (m5 c1 c4) (fun v J5 hp => ?_) (fun _ _ h => h.elim)
      obtain ⟨r5, rfl, e5, w5⟩ := hp
      have e5 := e5.symm
      subst e5
      have w5 := w5.symm
      subst w5
      show ZZ K (0, 0) 48 [(0, .ref 312)] [.int f5] g5
      refine zz_istore_n (L' := [(0, .ref 312), (1, .int f5)]) hb (z_dec dX11_parseLetter 26 rfl) rfl hnl rfl [1, 0] rfl ?_
      refine zz_iload_n hb (z_dec dX11_parseLetter 27 rfl) rfl 1 rfl ?_
      refine zz_iconst (v := (-1 : Int32)) hb (z_dec dX11_parseLetter 28 rfl) (by decide) ?_
      refine zz_icmp_ne (tgt := 60) hb (z_dec dX11_parseLetter 29 rfl) (by decide) (fun c6 => ?_) (fun c6 => ?_)
      · refine zz_aload_n hb (z_dec dX11_parseLetter 34 rfl) rfl 0 rfl ?_
        refine zz_inv (as := []) (d := 1) (mc := (0, 0)) (P := (qV (fun J => J = g7))) (X := nX) hb ho hnl hR hE mkX11_token rfl ckX11 t0 rfl ⟨Nat.le_refl 0, Nat.le_refl 0⟩ rfl (rX11_parseLetter 4 rfl) (rX11_parseLetter 5 rfl) (rX11_parseLetter 6 rfl) rfl (z_dec dX11_parseLetter 35 rfl) (m7 c1 c4 c6) (fun v J7 hp => ?_) (fun _ _ h => h.elim)
        obtain ⟨rfl, w7⟩ := hp
        have w7 := w7.symm
        subst w7
        show ZZ K (0, 0) 64 [(0, .ref 312), (1, .int f5)] [] g7
        refine zz_bipush (v := (64 : Int32)) hb (z_dec dX11_parseLetter 36 rfl) (by decide) ?_
        refine zz_aload_n hb (z_dec dX11_parseLetter 37 rfl) rfl 0 rfl ?_
        refine zz_getr (k := 0) (q := 313) hb ho rfl ckX11 t0 rfl rfl (rX11_parseLetter 0 rfl) rfl (z_dec dX11_parseLetter 38 rfl) ?_
        refine zz_bipush (v := (8 : Int32)) hb (z_dec dX11_parseLetter 39 rfl) (by decide) ?_
        refine zz_iald (j := 8) hb (show isT (kw K) 20 313 from isT.f (k := 0) t0 hw rfl rfl rfl (by decide)) rfl (zvi rfl (zin rfl)) (z_dec dX11_parseLetter 40 rfl) ?_
        refine zz_bipush (v := (8 : Int32)) hb (z_dec dX11_parseLetter 41 rfl) (by decide) ?_
        refine zz_imul hb (z_dec dX11_parseLetter 42 rfl) ?_
        refine zz_iadd hb (z_dec dX11_parseLetter 43 rfl) ?_
        refine zz_istore_n (L' := [(0, .ref 312), (1, .int f5), (2, .int ((64 : Int32) + ((g7 313 8) * (8 : Int32))))]) hb (z_dec dX11_parseLetter 44 rfl) rfl hnl rfl [1, 2, 0] rfl ?_
        refine zz_aload_n hb (z_dec dX11_parseLetter 45 rfl) rfl 0 rfl ?_
        refine zz_iload_n hb (z_dec dX11_parseLetter 46 rfl) rfl 2 rfl ?_
        refine zz_iconst (v := (1 : Int32)) hb (z_dec dX11_parseLetter 47 rfl) (by decide) ?_
        refine zz_iadd hb (z_dec dX11_parseLetter 48 rfl) ?_
        refine zz_iconst (v := (1 : Int32)) hb (z_dec dX11_parseLetter 49 rfl) (by decide) ?_
        refine zz_bipush (v := (30 : Int32)) hb (z_dec dX11_parseLetter 50 rfl) (by decide) ?_
        refine zz_inv (as := [.int (((64 : Int32) + ((g7 313 8) * (8 : Int32))) + (1 : Int32)), .int (1 : Int32), .int (30 : Int32)]) (d := 2) (mc := (0, 0)) (P := (qE f8 g8)) (X := nX) hb ho hnl hR hE mkX11_parseRanged rfl ckX11 t0 rfl ⟨Nat.le_refl 0, Nat.le_refl 0⟩ rfl (rX11_parseLetter 15 rfl) (rX11_parseLetter 16 rfl) (rX11_parseLetter 17 rfl) rfl (z_dec dX11_parseLetter 51 rfl) (m8 c1 c4 c6) (fun v J8 hp => ?_) (fun _ _ h => h.elim)
        obtain ⟨r8, rfl, e8, w8⟩ := hp
        have e8 := e8.symm
        subst e8
        have w8 := w8.symm
        subst w8
        show ZZ K (0, 0) 88 [(0, .ref 312), (1, .int f5), (2, .int ((64 : Int32) + ((g7 313 8) * (8 : Int32))))] [.int f8] g8
        refine zz_if_eq (tgt := 139) hb (z_dec dX11_parseLetter 52 rfl) (by decide) (fun c9 => ?_) (fun c9 => ?_)
        · refine zz_iconst (v := (0 : Int32)) hb (z_dec dX11_parseLetter 80 rfl) (by decide) ?_
          exact zz_zret hb hE ⟨Nat.le_refl 0, Nat.le_refl 0⟩ (by decide) (z_dec dX11_parseLetter 81 rfl) (h10 c1 c4 c6 c9)
        · refine zz_aload_n hb (z_dec dX11_parseLetter 53 rfl) rfl 0 rfl ?_
          refine zz_iload_n hb (z_dec dX11_parseLetter 54 rfl) rfl 2 rfl ?_
          refine zz_iconst (v := (2 : Int32)) hb (z_dec dX11_parseLetter 55 rfl) (by decide) ?_
          refine zz_iadd hb (z_dec dX11_parseLetter 56 rfl) ?_
          refine zz_iconst (v := (0 : Int32)) hb (z_dec dX11_parseLetter 57 rfl) (by decide) ?_
          refine zz_sipush (v := (999 : Int32)) hb (z_dec dX11_parseLetter 58 rfl) (by decide) ?_
          refine zz_inv (as := [.int (((64 : Int32) + ((g7 313 8) * (8 : Int32))) + (2 : Int32)), .int (0 : Int32), .int (999 : Int32)]) (d := 2) (mc := (0, 0)) (P := (qE f11 g11)) (X := nX) hb ho hnl hR hE mkX11_parseRanged rfl ckX11 t0 rfl ⟨Nat.le_refl 0, Nat.le_refl 0⟩ rfl (rX11_parseLetter 15 rfl) (rX11_parseLetter 16 rfl) (rX11_parseLetter 17 rfl) rfl (z_dec dX11_parseLetter 59 rfl) (m11 c1 c4 c6 c9) (fun v J11 hp => ?_) (fun _ _ h => h.elim)
          obtain ⟨r11, rfl, e11, w11⟩ := hp
          have e11 := e11.symm
          subst e11
          have w11 := w11.symm
          subst w11
          show ZZ K (0, 0) 102 [(0, .ref 312), (1, .int f5), (2, .int ((64 : Int32) + ((g7 313 8) * (8 : Int32))))] [.int f11] g11
          refine zz_if_eq (tgt := 139) hb (z_dec dX11_parseLetter 60 rfl) (by decide) (fun c12 => ?_) (fun c12 => ?_)
          · refine zz_iconst (v := (0 : Int32)) hb (z_dec dX11_parseLetter 80 rfl) (by decide) ?_
            exact zz_zret hb hE ⟨Nat.le_refl 0, Nat.le_refl 0⟩ (by decide) (z_dec dX11_parseLetter 81 rfl) (h13 c1 c4 c6 c9 c12)
          · refine zz_aload_n hb (z_dec dX11_parseLetter 61 rfl) rfl 0 rfl ?_
            refine zz_iload_n hb (z_dec dX11_parseLetter 62 rfl) rfl 2 rfl ?_
            refine zz_iconst (v := (3 : Int32)) hb (z_dec dX11_parseLetter 63 rfl) (by decide) ?_
            refine zz_iadd hb (z_dec dX11_parseLetter 64 rfl) ?_
            refine zz_iconst (v := (1 : Int32)) hb (z_dec dX11_parseLetter 65 rfl) (by decide) ?_
            refine zz_sipush (v := (999 : Int32)) hb (z_dec dX11_parseLetter 66 rfl) (by decide) ?_
            refine zz_inv (as := [.int (((64 : Int32) + ((g7 313 8) * (8 : Int32))) + (3 : Int32)), .int (1 : Int32), .int (999 : Int32)]) (d := 2) (mc := (0, 0)) (P := (qE f14 g14)) (X := nX) hb ho hnl hR hE mkX11_parseRanged rfl ckX11 t0 rfl ⟨Nat.le_refl 0, Nat.le_refl 0⟩ rfl (rX11_parseLetter 15 rfl) (rX11_parseLetter 16 rfl) (rX11_parseLetter 17 rfl) rfl (z_dec dX11_parseLetter 67 rfl) (m14 c1 c4 c6 c9 c12) (fun v J14 hp => ?_) (fun _ _ h => h.elim)
            obtain ⟨r14, rfl, e14, w14⟩ := hp
            have e14 := e14.symm
            subst e14
            have w14 := w14.symm
            subst w14
            show ZZ K (0, 0) 116 [(0, .ref 312), (1, .int f5), (2, .int ((64 : Int32) + ((g7 313 8) * (8 : Int32))))] [.int f14] g14
            refine zz_if_eq (tgt := 139) hb (z_dec dX11_parseLetter 68 rfl) (by decide) (fun c15 => ?_) (fun c15 => ?_)
            · refine zz_iconst (v := (0 : Int32)) hb (z_dec dX11_parseLetter 80 rfl) (by decide) ?_
              exact zz_zret hb hE ⟨Nat.le_refl 0, Nat.le_refl 0⟩ (by decide) (z_dec dX11_parseLetter 81 rfl) (h16 c1 c4 c6 c9 c12 c15)
            · refine zz_aload_n hb (z_dec dX11_parseLetter 69 rfl) rfl 0 rfl ?_
              refine zz_iload_n hb (z_dec dX11_parseLetter 70 rfl) rfl 2 rfl ?_
              refine zz_iconst (v := (4 : Int32)) hb (z_dec dX11_parseLetter 71 rfl) (by decide) ?_
              refine zz_iadd hb (z_dec dX11_parseLetter 72 rfl) ?_
              refine zz_iconst (v := (0 : Int32)) hb (z_dec dX11_parseLetter 73 rfl) (by decide) ?_
              refine zz_bipush (v := (9 : Int32)) hb (z_dec dX11_parseLetter 74 rfl) (by decide) ?_
              refine zz_inv (as := [.int (((64 : Int32) + ((g7 313 8) * (8 : Int32))) + (4 : Int32)), .int (0 : Int32), .int (9 : Int32)]) (d := 2) (mc := (0, 0)) (P := (qE f17 g17)) (X := nX) hb ho hnl hR hE mkX11_parseRanged rfl ckX11 t0 rfl ⟨Nat.le_refl 0, Nat.le_refl 0⟩ rfl (rX11_parseLetter 15 rfl) (rX11_parseLetter 16 rfl) (rX11_parseLetter 17 rfl) rfl (z_dec dX11_parseLetter 75 rfl) (m17 c1 c4 c6 c9 c12 c15) (fun v J17 hp => ?_) (fun _ _ h => h.elim)
              obtain ⟨r17, rfl, e17, w17⟩ := hp
              have e17 := e17.symm
              subst e17
              have w17 := w17.symm
              subst w17
              show ZZ K (0, 0) 129 [(0, .ref 312), (1, .int f5), (2, .int ((64 : Int32) + ((g7 313 8) * (8 : Int32))))] [.int f17] g17
              refine zz_if_eq (tgt := 139) hb (z_dec dX11_parseLetter 76 rfl) (by decide) (fun c18 => ?_) (fun c18 => ?_)
              · refine zz_iconst (v := (0 : Int32)) hb (z_dec dX11_parseLetter 80 rfl) (by decide) ?_
                exact zz_zret hb hE ⟨Nat.le_refl 0, Nat.le_refl 0⟩ (by decide) (z_dec dX11_parseLetter 81 rfl) (h19 c1 c4 c6 c9 c12 c15 c18)
              · refine zz_aload_n hb (z_dec dX11_parseLetter 77 rfl) rfl 0 rfl ?_
                refine zz_inv (as := []) (d := 2) (mc := (0, 0)) (P := (qE f20 g20)) (X := nX) hb ho hnl hR hE mkX11_semicolon rfl ckX11 t0 rfl ⟨Nat.le_refl 0, Nat.le_refl 0⟩ rfl (rX11_parseLetter 18 rfl) (rX11_parseLetter 19 rfl) (rX11_parseLetter 20 rfl) rfl (z_dec dX11_parseLetter 78 rfl) (m20 c1 c4 c6 c9 c12 c15 c18) (fun v J20 hp => ?_) (fun _ _ h => h.elim)
                obtain ⟨r20, rfl, e20, w20⟩ := hp
                have e20 := e20.symm
                subst e20
                have w20 := w20.symm
                subst w20
                show ZZ K (0, 0) 136 [(0, .ref 312), (1, .int f5), (2, .int ((64 : Int32) + ((g7 313 8) * (8 : Int32))))] [.int f20] g20
                refine zz_if_ne (tgt := 141) hb (z_dec dX11_parseLetter 79 rfl) (by decide) (fun c21 => ?_) (fun c21 => ?_)
                · refine zz_aload_n hb (z_dec dX11_parseLetter 82 rfl) rfl 0 rfl ?_
                  refine zz_iload_n hb (z_dec dX11_parseLetter 83 rfl) rfl 1 rfl ?_
                  refine zz_aload_n hb (z_dec dX11_parseLetter 84 rfl) rfl 0 rfl ?_
                  refine zz_getr (k := 0) (q := 313) hb ho rfl ckX11 t0 rfl rfl (rX11_parseLetter 0 rfl) rfl (z_dec dX11_parseLetter 85 rfl) ?_
                  refine zz_iload_n hb (z_dec dX11_parseLetter 86 rfl) rfl 2 rfl ?_
                  refine zz_iconst (v := (1 : Int32)) hb (z_dec dX11_parseLetter 87 rfl) (by decide) ?_
                  refine zz_iadd hb (z_dec dX11_parseLetter 88 rfl) ?_
                  refine zz_iald (j := (((64 : Int32) + ((g7 313 8) * (8 : Int32))) + (1 : Int32)).toNatClampNeg) hb (show isT (kw K) 20 313 from isT.f (k := 0) t0 hw rfl rfl rfl (by decide)) rfl (zvi rfl (h22 c1 c4 c6 c9 c12 c15 c18 c21)) (z_dec dX11_parseLetter 89 rfl) ?_
                  refine zz_aload_n hb (z_dec dX11_parseLetter 90 rfl) rfl 0 rfl ?_
                  refine zz_getr (k := 0) (q := 313) hb ho rfl ckX11 t0 rfl rfl (rX11_parseLetter 0 rfl) rfl (z_dec dX11_parseLetter 91 rfl) ?_
                  refine zz_iload_n hb (z_dec dX11_parseLetter 92 rfl) rfl 2 rfl ?_
                  refine zz_iconst (v := (2 : Int32)) hb (z_dec dX11_parseLetter 93 rfl) (by decide) ?_
                  refine zz_iadd hb (z_dec dX11_parseLetter 94 rfl) ?_
                  refine zz_iald (j := (((64 : Int32) + ((g7 313 8) * (8 : Int32))) + (2 : Int32)).toNatClampNeg) hb (show isT (kw K) 20 313 from isT.f (k := 0) t0 hw rfl rfl rfl (by decide)) rfl (zvi rfl (h23 c1 c4 c6 c9 c12 c15 c18 c21)) (z_dec dX11_parseLetter 95 rfl) ?_
                  refine zz_aload_n hb (z_dec dX11_parseLetter 96 rfl) rfl 0 rfl ?_
                  refine zz_getr (k := 0) (q := 313) hb ho rfl ckX11 t0 rfl rfl (rX11_parseLetter 0 rfl) rfl (z_dec dX11_parseLetter 97 rfl) ?_
                  refine zz_iload_n hb (z_dec dX11_parseLetter 98 rfl) rfl 2 rfl ?_
                  refine zz_iconst (v := (3 : Int32)) hb (z_dec dX11_parseLetter 99 rfl) (by decide) ?_
                  refine zz_iadd hb (z_dec dX11_parseLetter 100 rfl) ?_
                  refine zz_iald (j := (((64 : Int32) + ((g7 313 8) * (8 : Int32))) + (3 : Int32)).toNatClampNeg) hb (show isT (kw K) 20 313 from isT.f (k := 0) t0 hw rfl rfl rfl (by decide)) rfl (zvi rfl (h24 c1 c4 c6 c9 c12 c15 c18 c21)) (z_dec dX11_parseLetter 101 rfl) ?_
                  refine zz_aload_n hb (z_dec dX11_parseLetter 102 rfl) rfl 0 rfl ?_
                  refine zz_getr (k := 0) (q := 313) hb ho rfl ckX11 t0 rfl rfl (rX11_parseLetter 0 rfl) rfl (z_dec dX11_parseLetter 103 rfl) ?_
                  refine zz_iload_n hb (z_dec dX11_parseLetter 104 rfl) rfl 2 rfl ?_
                  refine zz_iconst (v := (4 : Int32)) hb (z_dec dX11_parseLetter 105 rfl) (by decide) ?_
                  refine zz_iadd hb (z_dec dX11_parseLetter 106 rfl) ?_
                  refine zz_iald (j := (((64 : Int32) + ((g7 313 8) * (8 : Int32))) + (4 : Int32)).toNatClampNeg) hb (show isT (kw K) 20 313 from isT.f (k := 0) t0 hw rfl rfl rfl (by decide)) rfl (zvi rfl (h25 c1 c4 c6 c9 c12 c15 c18 c21)) (z_dec dX11_parseLetter 107 rfl) ?_
                  refine zz_inv (as := [.int f5, .int (g20 313 (((64 : Int32) + ((g7 313 8) * (8 : Int32))) + (1 : Int32)).toNatClampNeg), .int (g20 313 (((64 : Int32) + ((g7 313 8) * (8 : Int32))) + (2 : Int32)).toNatClampNeg), .int (g20 313 (((64 : Int32) + ((g7 313 8) * (8 : Int32))) + (3 : Int32)).toNatClampNeg), .int (g20 313 (((64 : Int32) + ((g7 313 8) * (8 : Int32))) + (4 : Int32)).toNatClampNeg)]) (d := 1) (mc := (0, 0)) (P := (qE f26 g26)) (X := nX) hb ho hnl hR hE mkX11_add rfl ckX11 t0 rfl ⟨Nat.le_refl 0, Nat.le_refl 0⟩ rfl (rX11_parseLetter 21 rfl) (rX11_parseLetter 22 rfl) (rX11_parseLetter 23 rfl) rfl (z_dec dX11_parseLetter 108 rfl) (m26 c1 c4 c6 c9 c12 c15 c18 c21) (fun v J26 hp => ?_) (fun _ _ h => h.elim)
                  obtain ⟨r26, rfl, e26, w26⟩ := hp
                  have e26 := e26.symm
                  subst e26
                  have w26 := w26.symm
                  subst w26
                  show ZZ K (0, 0) 178 [(0, .ref 312), (1, .int f5), (2, .int ((64 : Int32) + ((g7 313 8) * (8 : Int32))))] [.int f26] g26
                  refine zz_pop hb (z_dec dX11_parseLetter 109 rfl) rfl ?_
                  refine zz_iconst (v := (1 : Int32)) hb (z_dec dX11_parseLetter 110 rfl) (by decide) ?_
                  exact zz_zret hb hE ⟨Nat.le_refl 0, Nat.le_refl 0⟩ (by decide) (z_dec dX11_parseLetter 111 rfl) (h27 c1 c4 c6 c9 c12 c15 c18 c21)
                · refine zz_iconst (v := (0 : Int32)) hb (z_dec dX11_parseLetter 80 rfl) (by decide) ?_
                  exact zz_zret hb hE ⟨Nat.le_refl 0, Nat.le_refl 0⟩ (by decide) (z_dec dX11_parseLetter 81 rfl) (h28 c1 c4 c6 c9 c12 c15 c18 c21)
      · refine zz_aload_n hb (z_dec dX11_parseLetter 30 rfl) rfl 0 rfl ?_
        refine zz_iconst (v := (3 : Int32)) hb (z_dec dX11_parseLetter 31 rfl) (by decide) ?_
        refine zz_inv (as := [.int (3 : Int32)]) (d := 0) (mc := (0, 0)) (P := (qE f29 g29)) (X := nX) hb ho hnl hR hE mkX11_wrong rfl ckX11 t0 rfl ⟨Nat.le_refl 0, Nat.le_refl 0⟩ rfl (rX11_parseLetter 1 rfl) (rX11_parseLetter 2 rfl) (rX11_parseLetter 3 rfl) rfl (z_dec dX11_parseLetter 32 rfl) (m29 c1 c4 c6) (fun v J29 hp => ?_) (fun _ _ h => h.elim)
        obtain ⟨r29, rfl, e29, w29⟩ := hp
        have e29 := e29.symm
        subst e29
        have w29 := w29.symm
        subst w29
        show ZZ K (0, 0) 59 [(0, .ref 312), (1, .int f5)] [.int f29] g29
        exact zz_zret hb hE ⟨Nat.le_refl 0, Nat.le_refl 0⟩ (z31 c1 c4 c6) (z_dec dX11_parseLetter 33 rfl) (h30 c1 c4 c6)
    · refine zz_iconst (v := (0 : Int32)) hb (z_dec dX11_parseLetter 15 rfl) (by decide) ?_
      exact zz_zret hb hE ⟨Nat.le_refl 0, Nat.le_refl 0⟩ (by decide) (z_dec dX11_parseLetter 16 rfl) (h32 c1 c4)
  · refine zz_aload_n hb (z_dec dX11_parseLetter 6 rfl) rfl 0 rfl ?_
    refine zz_iconst (v := (4 : Int32)) hb (z_dec dX11_parseLetter 7 rfl) (by decide) ?_
    refine zz_inv (as := [.int (4 : Int32)]) (d := 0) (mc := (0, 0)) (P := (qE f33 g33)) (X := nX) hb ho hnl hR hE mkX11_wrong rfl ckX11 t0 rfl ⟨Nat.le_refl 0, Nat.le_refl 0⟩ rfl (rX11_parseLetter 1 rfl) (rX11_parseLetter 2 rfl) (rX11_parseLetter 3 rfl) rfl (z_dec dX11_parseLetter 8 rfl) (m33 c1) (fun v J33 hp => ?_) (fun _ _ h => h.elim)
    obtain ⟨r33, rfl, e33, w33⟩ := hp
    have e33 := e33.symm
    subst e33
    have w33 := w33.symm
    subst w33
    show ZZ K (0, 0) 17 [(0, .ref 312)] [.int f33] g33
    exact zz_zret hb hE ⟨Nat.le_refl 0, Nat.le_refl 0⟩ (z35 c1) (z_dec dX11_parseLetter 9 rfl) (h34 c1)
set_option maxRecDepth 20000 in
theorem bX11_parseSetup_0 {K : zK} {P : Option Value → zM → Prop} {X : String → zM → Prop} {u mc : Nat × Nat} (hK : zIs K RX11 cX11_parseSetup 2 (some .boolean) 5 mc P X) (hw : wOK (kw K)) {I : zM} (t0 : isT (kw K) 11 312) (k1 : ZZ K u 2 [(0, .ref 312), (1, .int (0 : Int32))] [] I) : ZZ K u 0 [(0, .ref 312)] [] I := by
  obtain ⟨hb, ho, hnl, hR, hE⟩ := hK
  refine zz_iconst (v := (0 : Int32)) hb (z_dec dX11_parseSetup 0 rfl) (by decide) ?_
  refine zz_istore_n (L' := [(0, .ref 312), (1, .int (0 : Int32))]) hb (z_dec dX11_parseSetup 1 rfl) rfl hnl rfl [1, 0] rfl ?_
  exact k1
set_option maxRecDepth 20000 in
theorem bX11_parseSetup_2 {K : zK} {P : Option Value → zM → Prop} {X : String → zM → Prop} {u mc : Nat × Nat} (hK : zIs K RX11 cX11_parseSetup 2 (some .boolean) 5 mc P X) (hw : wOK (kw K)) {I : zM} (t0 : isT (kw K) 11 312) {v1 : Int32} {f2 : Int32} {g2 : zM} {mc2 : Nat × Nat} {x2 : String → zM → Prop} (g_2 : u.1 + mc2.1 ≤ mc.1 ∧ u.2 + mc2.2 ≤ mc.2) (n2 : ∀ (c1 : (160 : Int32) ≤ v1), ∀ (E : String) (J : zM), x2 E J → X E J) (m2 : ∀ (c1 : (160 : Int32) ≤ v1), CT (kG K) (kw K) (kl K) (yX11_isWord, cX11_isWord, 3, (some .boolean)) 4 mc2 [.ref 312, .ref 1100] (up (up I 313 10 (-1 : Int32)) 313 11 (-1 : Int32)) (qE f2 g2) x2) {g4 : zM} (g_4 : (u.1 + mc2.1, u.2 + mc2.2).1 ≤ mc.1 ∧ (u.1 + mc2.1, u.2 + mc2.2).2 ≤ mc.2) (m4 : ∀ (c1 : (160 : Int32) ≤ v1) (c3 : ¬ f2 = 0), CT (kG K) (kw K) (kl K) (yX11_token, cX11_token, 1, none) 1 (0, 0) [.ref 312] g2 (qV (fun J => J = g4)) nX) {f5 : Int32} {g5 : zM} (g_5 : (u.1 + mc2.1, u.2 + mc2.2).1 ≤ mc.1 ∧ (u.1 + mc2.1, u.2 + mc2.2).2 ≤ mc.2) (m5 : ∀ (c1 : (160 : Int32) ≤ v1) (c3 : ¬ f2 = 0), CT (kG K) (kw K) (kl K) (yX11_parseSettings, cX11_parseSettings, 1, (some .boolean)) 3 (0, 0) [.ref 312] g4 (qE f5 g5) nX) (k7 : ∀ (c1 : (160 : Int32) ≤ v1) (c3 : ¬ f2 = 0) (c6 : ¬ f5 = 0), ZZ K (u.1 + mc2.1, u.2 + mc2.2) 79 [(0, .ref 312), (1, .int v1)] [] (up g5 313 13 (g5 313 2))) (g8 : (u.1 + mc2.1, u.2 + mc2.2).1 ≤ mc.1 ∧ (u.1 + mc2.1, u.2 + mc2.2).2 ≤ mc.2) (h9 : ∀ (c1 : (160 : Int32) ≤ v1) (c3 : ¬ f2 = 0) (c6 : f5 = 0), P (some (.int (0 : Int32))) g5) {f10 : Int32} {g10 : zM} (g_10 : (u.1 + mc2.1, u.2 + mc2.2).1 ≤ mc.1 ∧ (u.1 + mc2.1, u.2 + mc2.2).2 ≤ mc.2) (m10 : ∀ (c1 : (160 : Int32) ≤ v1) (c3 : f2 = 0), CT (kG K) (kw K) (kl K) (yX11_wrong, cX11_wrong, 2, (some .boolean)) 0 (0, 0) [.ref 312, .int (1 : Int32)] g2 (qE f10 g10) nX) (g11 : (u.1 + mc2.1, u.2 + mc2.2).1 ≤ mc.1 ∧ (u.1 + mc2.1, u.2 + mc2.2).2 ≤ mc.2) (h12 : ∀ (c1 : (160 : Int32) ≤ v1) (c3 : f2 = 0), P (some (.int f10)) g10) (z13 : ∀ (c1 : (160 : Int32) ≤ v1) (c3 : f2 = 0), f10 = 0 ∨ f10 = 1) (h14 : ∀ (c1 : ¬ (160 : Int32) ≤ v1), vp_in v1 1600) (k15 : ∀ (c1 : ¬ (160 : Int32) ≤ v1), ZZ K u 2 [(0, .ref 312), (1, .int (v1 + 1))] [] (up I 313 (v1.toNatClampNeg) (0 : Int32))) : ZZ K u 2 [(0, .ref 312), (1, .int v1)] [] I := by
  obtain ⟨hb, ho, hnl, hR, hE⟩ := hK
  refine zz_iload_n hb (z_dec dX11_parseSetup 2 rfl) rfl 1 rfl ?_
  refine zz_sipush (v := (160 : Int32)) hb (z_dec dX11_parseSetup 3 rfl) (by decide) ?_
  refine zz_icmp_ge (tgt := 22) hb (z_dec dX11_parseSetup 4 rfl) (by decide) (fun c1 => ?_) (fun c1 => ?_)
  · refine zz_aload_n hb (z_dec dX11_parseSetup 12 rfl) rfl 0 rfl ?_
    refine zz_getr (k := 0) (q := 313) hb ho rfl ckX11 t0 rfl rfl (rX11_parseSetup 0 rfl) rfl (z_dec dX11_parseSetup 13 rfl) ?_
    refine zz_bipush (v := (10 : Int32)) hb (z_dec dX11_parseSetup 14 rfl) (by decide) ?_
    refine zz_iconst (v := (-1 : Int32)) hb (z_dec dX11_parseSetup 15 rfl) (by decide) ?_
    refine zz_iast (j := 10) hb (show isT (kw K) 20 313 from isT.f (k := 0) t0 hw rfl rfl rfl (by decide)) rfl (zvi rfl (zin rfl)) (z_dec dX11_parseSetup 16 rfl) ?_
    refine zz_aload_n hb (z_dec dX11_parseSetup 17 rfl) rfl 0 rfl ?_
    refine zz_getr (k := 0) (q := 313) hb ho rfl ckX11 t0 rfl rfl (rX11_parseSetup 0 rfl) rfl (z_dec dX11_parseSetup 18 rfl) ?_
    refine zz_bipush (v := (11 : Int32)) hb (z_dec dX11_parseSetup 19 rfl) (by decide) ?_
    refine zz_iconst (v := (-1 : Int32)) hb (z_dec dX11_parseSetup 20 rfl) (by decide) ?_
    refine zz_iast (j := 11) hb (show isT (kw K) 20 313 from isT.f (k := 0) t0 hw rfl rfl rfl (by decide)) rfl (zvi rfl (zin rfl)) (z_dec dX11_parseSetup 21 rfl) ?_
    refine zz_aload_n hb (z_dec dX11_parseSetup 22 rfl) rfl 0 rfl ?_
    refine zz_ldc hb ho 28 rfl (z_dec dX11_parseSetup 23 rfl) ?_
    refine zz_inv (as := [.ref 1100]) (d := 4) (mc := mc2) (P := (qE f2 g2)) (X := x2) hb ho hnl hR hE mkX11_isWord rfl ckX11 t0 rfl g_2 rfl (rX11_parseSetup 1 rfl) (rX11_parseSetup 2 rfl) (rX11_parseSetup 3 rfl) rfl (z_dec dX11_parseSetup 24 rfl) (m2 c1) (fun v J2 hp => ?_) (n2 c1)
    obtain ⟨r2, rfl, e2, w2⟩ := hp
    have e2 := e2.symm
    subst e2
    have w2 := w2.symm
    subst w2
    show ZZ K (u.1 + mc2.1, u.2 + mc2.2) 44 [(0, .ref 312), (1, .int v1)] [.int f2] g2
    refine zz_if_ne (tgt := 53) hb (z_dec dX11_parseSetup 25 rfl) (by decide) (fun c3 => ?_) (fun c3 => ?_)
    · refine zz_aload_n hb (z_dec dX11_parseSetup 30 rfl) rfl 0 rfl ?_
      refine zz_inv (as := []) (d := 1) (mc := (0, 0)) (P := (qV (fun J => J = g4))) (X := nX) hb ho hnl hR hE mkX11_token rfl ckX11 t0 rfl g_4 rfl (rX11_parseSetup 7 rfl) (rX11_parseSetup 8 rfl) (rX11_parseSetup 9 rfl) rfl (z_dec dX11_parseSetup 31 rfl) (m4 c1 c3) (fun v J4 hp => ?_) (fun _ _ h => h.elim)
      obtain ⟨rfl, w4⟩ := hp
      have w4 := w4.symm
      subst w4
      show ZZ K (u.1 + mc2.1, u.2 + mc2.2) 57 [(0, .ref 312), (1, .int v1)] [] g4
      refine zz_aload_n hb (z_dec dX11_parseSetup 32 rfl) rfl 0 rfl ?_
      refine zz_inv (as := []) (d := 3) (mc := (0, 0)) (P := (qE f5 g5)) (X := nX) hb ho hnl hR hE mkX11_parseSettings rfl ckX11 t0 rfl g_5 rfl (rX11_parseSetup 10 rfl) (rX11_parseSetup 11 rfl) (rX11_parseSetup 12 rfl) rfl (z_dec dX11_parseSetup 33 rfl) (m5 c1 c3) (fun v J5 hp => ?_) (fun _ _ h => h.elim)
      obtain ⟨r5, rfl, e5, w5⟩ := hp
      have e5 := e5.symm
      subst e5
      have w5 := w5.symm
      subst w5
      show ZZ K (u.1 + mc2.1, u.2 + mc2.2) 61 [(0, .ref 312), (1, .int v1)] [.int f5] g5
      refine zz_if_ne (tgt := 66) hb (z_dec dX11_parseSetup 34 rfl) (by decide) (fun c6 => ?_) (fun c6 => ?_)
      · refine zz_aload_n hb (z_dec dX11_parseSetup 37 rfl) rfl 0 rfl ?_
        refine zz_getr (k := 0) (q := 313) hb ho rfl ckX11 t0 rfl rfl (rX11_parseSetup 0 rfl) rfl (z_dec dX11_parseSetup 38 rfl) ?_
        refine zz_bipush (v := (13 : Int32)) hb (z_dec dX11_parseSetup 39 rfl) (by decide) ?_
        refine zz_aload_n hb (z_dec dX11_parseSetup 40 rfl) rfl 0 rfl ?_
        refine zz_getr (k := 0) (q := 313) hb ho rfl ckX11 t0 rfl rfl (rX11_parseSetup 0 rfl) rfl (z_dec dX11_parseSetup 41 rfl) ?_
        refine zz_iconst (v := (2 : Int32)) hb (z_dec dX11_parseSetup 42 rfl) (by decide) ?_
        refine zz_iald (j := 2) hb (show isT (kw K) 20 313 from isT.f (k := 0) t0 hw rfl rfl rfl (by decide)) rfl (zvi rfl (zin rfl)) (z_dec dX11_parseSetup 43 rfl) ?_
        refine zz_iast (j := 13) hb (show isT (kw K) 20 313 from isT.f (k := 0) t0 hw rfl rfl rfl (by decide)) rfl (zvi rfl (zin rfl)) (z_dec dX11_parseSetup 44 rfl) ?_
        exact (k7 c1 c3 c6)
      · refine zz_iconst (v := (0 : Int32)) hb (z_dec dX11_parseSetup 35 rfl) (by decide) ?_
        exact zz_zret hb hE g8 (by decide) (z_dec dX11_parseSetup 36 rfl) (h9 c1 c3 c6)
    · refine zz_aload_n hb (z_dec dX11_parseSetup 26 rfl) rfl 0 rfl ?_
      refine zz_iconst (v := (1 : Int32)) hb (z_dec dX11_parseSetup 27 rfl) (by decide) ?_
      refine zz_inv (as := [.int (1 : Int32)]) (d := 0) (mc := (0, 0)) (P := (qE f10 g10)) (X := nX) hb ho hnl hR hE mkX11_wrong rfl ckX11 t0 rfl g_10 rfl (rX11_parseSetup 4 rfl) (rX11_parseSetup 5 rfl) (rX11_parseSetup 6 rfl) rfl (z_dec dX11_parseSetup 28 rfl) (m10 c1 c3) (fun v J10 hp => ?_) (fun _ _ h => h.elim)
      obtain ⟨r10, rfl, e10, w10⟩ := hp
      have e10 := e10.symm
      subst e10
      have w10 := w10.symm
      subst w10
      show ZZ K (u.1 + mc2.1, u.2 + mc2.2) 52 [(0, .ref 312), (1, .int v1)] [.int f10] g10
      exact zz_zret hb hE g11 (z13 c1 c3) (z_dec dX11_parseSetup 29 rfl) (h12 c1 c3)
  · refine zz_aload_n hb (z_dec dX11_parseSetup 5 rfl) rfl 0 rfl ?_
    refine zz_getr (k := 0) (q := 313) hb ho rfl ckX11 t0 rfl rfl (rX11_parseSetup 0 rfl) rfl (z_dec dX11_parseSetup 6 rfl) ?_
    refine zz_iload_n hb (z_dec dX11_parseSetup 7 rfl) rfl 1 rfl ?_
    refine zz_iconst (v := (0 : Int32)) hb (z_dec dX11_parseSetup 8 rfl) (by decide) ?_
    refine zz_iast (j := v1.toNatClampNeg) hb (show isT (kw K) 20 313 from isT.f (k := 0) t0 hw rfl rfl rfl (by decide)) rfl (zvi rfl (h14 c1)) (z_dec dX11_parseSetup 9 rfl) ?_
    refine zz_iinc (v := (v1 + 1)) (L' := [(0, .ref 312), (1, .int (v1 + 1))]) hb (z_dec dX11_parseSetup 10 rfl) 1 rfl rfl hnl rfl [1, 0] rfl ?_
    refine zz_goto (tgt := 2) hb (z_dec dX11_parseSetup 11 rfl) (by decide) ?_
    exact (k15 c1)
set_option maxRecDepth 20000 in
theorem bX11_parseSetup_79 {K : zK} {P : Option Value → zM → Prop} {X : String → zM → Prop} {u mc : Nat × Nat} (hK : zIs K RX11 cX11_parseSetup 2 (some .boolean) 5 mc P X) (hw : wOK (kw K)) {I : zM} (t0 : isT (kw K) 11 312) {v1 : Int32} (k2 : ∀ (c1 : (I 313 7) < (2 : Int32)), ZZ K u 99 [(0, .ref 312), (1, .int v1)] [] I) {f3 : Int32} {g3 : zM} {mc3 : Nat × Nat} {x3 : String → zM → Prop} (g_3 : u.1 + mc3.1 ≤ mc.1 ∧ u.2 + mc3.2 ≤ mc.2) (n3 : ∀ (c1 : ¬ (I 313 7) < (2 : Int32)), ∀ (E : String) (J : zM), x3 E J → X E J) (m3 : ∀ (c1 : ¬ (I 313 7) < (2 : Int32)), CT (kG K) (kw K) (kl K) (yX11_isWord, cX11_isWord, 3, (some .boolean)) 4 mc3 [.ref 312, .ref 1101] I (qE f3 g3) x3) (k5 : ∀ (c1 : ¬ (I 313 7) < (2 : Int32)) (c4 : f3 = 0), ZZ K (u.1 + mc3.1, u.2 + mc3.2) 123 [(0, .ref 312), (1, .int v1)] [] g3) (k6 : ∀ (c1 : ¬ (I 313 7) < (2 : Int32)) (c4 : ¬ f3 = 0), ZZ K (u.1 + mc3.1, u.2 + mc3.2) 99 [(0, .ref 312), (1, .int v1)] [] g3) : ZZ K u 79 [(0, .ref 312), (1, .int v1)] [] I := by
  obtain ⟨hb, ho, hnl, hR, hE⟩ := hK
  refine zz_aload_n hb (z_dec dX11_parseSetup 45 rfl) rfl 0 rfl ?_
  refine zz_getr (k := 0) (q := 313) hb ho rfl ckX11 t0 rfl rfl (rX11_parseSetup 0 rfl) rfl (z_dec dX11_parseSetup 46 rfl) ?_
  refine zz_bipush (v := (7 : Int32)) hb (z_dec dX11_parseSetup 47 rfl) (by decide) ?_
  refine zz_iald (j := 7) hb (show isT (kw K) 20 313 from isT.f (k := 0) t0 hw rfl rfl rfl (by decide)) rfl (zvi rfl (zin rfl)) (z_dec dX11_parseSetup 48 rfl) ?_
  refine zz_iconst (v := (2 : Int32)) hb (z_dec dX11_parseSetup 49 rfl) (by decide) ?_
  refine zz_icmp_lt (tgt := 99) hb (z_dec dX11_parseSetup 50 rfl) (by decide) (fun c1 => ?_) (fun c1 => ?_)
  · exact (k2 c1)
  · refine zz_aload_n hb (z_dec dX11_parseSetup 51 rfl) rfl 0 rfl ?_
    refine zz_ldc hb ho 29 rfl (z_dec dX11_parseSetup 52 rfl) ?_
    refine zz_inv (as := [.ref 1101]) (d := 4) (mc := mc3) (P := (qE f3 g3)) (X := x3) hb ho hnl hR hE mkX11_isWord rfl ckX11 t0 rfl g_3 rfl (rX11_parseSetup 1 rfl) (rX11_parseSetup 2 rfl) (rX11_parseSetup 3 rfl) rfl (z_dec dX11_parseSetup 53 rfl) (m3 c1) (fun v J3 hp => ?_) (n3 c1)
    obtain ⟨r3, rfl, e3, w3⟩ := hp
    have e3 := e3.symm
    subst e3
    have w3 := w3.symm
    subst w3
    show ZZ K (u.1 + mc3.1, u.2 + mc3.2) 96 [(0, .ref 312), (1, .int v1)] [.int f3] g3
    refine zz_if_eq (tgt := 123) hb (z_dec dX11_parseSetup 54 rfl) (by decide) (fun c4 => ?_) (fun c4 => ?_)
    · exact (k5 c1 c4)
    · exact (k6 c1 c4)
set_option maxRecDepth 20000 in
theorem bX11_parseSetup_99 {K : zK} {P : Option Value → zM → Prop} {X : String → zM → Prop} {u mc : Nat × Nat} (hK : zIs K RX11 cX11_parseSetup 2 (some .boolean) 5 mc P X) (hw : wOK (kw K)) {I : zM} (t0 : isT (kw K) 11 312) {v1 : Int32} {f1 : Int32} {g1 : zM} {mc1 : Nat × Nat} {x1 : String → zM → Prop} (g_1 : u.1 + mc1.1 ≤ mc.1 ∧ u.2 + mc1.2 ≤ mc.2) (n1 : ∀ (E : String) (J : zM), x1 E J → X E J) (m1 : CT (kG K) (kw K) (kl K) (yX11_isWord, cX11_isWord, 3, (some .boolean)) 4 mc1 [.ref 312, .ref 1101] I (qE f1 g1) x1) {f3 : Int32} {g3 : zM} (g_3 : (u.1 + mc1.1, u.2 + mc1.2).1 ≤ mc.1 ∧ (u.1 + mc1.1, u.2 + mc1.2).2 ≤ mc.2) (m3 : ∀ (c2 : ¬ f1 = 0), CT (kG K) (kw K) (kl K) (yX11_parseClerk, cX11_parseClerk, 3, (some .boolean)) 3 (0, 0) [.ref 312] g1 (qE f3 g3) nX) (k5 : ∀ (c2 : ¬ f1 = 0) (c4 : ¬ f3 = 0), ZZ K (u.1 + mc1.1, u.2 + mc1.2) 79 [(0, .ref 312), (1, .int v1)] [] g3) (g6 : (u.1 + mc1.1, u.2 + mc1.2).1 ≤ mc.1 ∧ (u.1 + mc1.1, u.2 + mc1.2).2 ≤ mc.2) (h7 : ∀ (c2 : ¬ f1 = 0) (c4 : f3 = 0), P (some (.int (0 : Int32))) g3) {f8 : Int32} {g8 : zM} (g_8 : (u.1 + mc1.1, u.2 + mc1.2).1 ≤ mc.1 ∧ (u.1 + mc1.1, u.2 + mc1.2).2 ≤ mc.2) (m8 : ∀ (c2 : f1 = 0), CT (kG K) (kw K) (kl K) (yX11_wrong, cX11_wrong, 2, (some .boolean)) 0 (0, 0) [.ref 312, .int (1 : Int32)] g1 (qE f8 g8) nX) (g9 : (u.1 + mc1.1, u.2 + mc1.2).1 ≤ mc.1 ∧ (u.1 + mc1.1, u.2 + mc1.2).2 ≤ mc.2) (h10 : ∀ (c2 : f1 = 0), P (some (.int f8)) g8) (z11 : ∀ (c2 : f1 = 0), f8 = 0 ∨ f8 = 1) : ZZ K u 99 [(0, .ref 312), (1, .int v1)] [] I := by
  obtain ⟨hb, ho, hnl, hR, hE⟩ := hK
  refine zz_aload_n hb (z_dec dX11_parseSetup 55 rfl) rfl 0 rfl ?_
  refine zz_ldc hb ho 29 rfl (z_dec dX11_parseSetup 56 rfl) ?_
  refine zz_inv (as := [.ref 1101]) (d := 4) (mc := mc1) (P := (qE f1 g1)) (X := x1) hb ho hnl hR hE mkX11_isWord rfl ckX11 t0 rfl g_1 rfl (rX11_parseSetup 1 rfl) (rX11_parseSetup 2 rfl) (rX11_parseSetup 3 rfl) rfl (z_dec dX11_parseSetup 57 rfl) m1 (fun v J1 hp => ?_) n1
  obtain ⟨r1, rfl, e1, w1⟩ := hp
  have e1 := e1.symm
  subst e1
  have w1 := w1.symm
  subst w1
  show ZZ K (u.1 + mc1.1, u.2 + mc1.2) 105 [(0, .ref 312), (1, .int v1)] [.int f1] g1
  refine zz_if_ne (tgt := 114) hb (z_dec dX11_parseSetup 58 rfl) (by decide) (fun c2 => ?_) (fun c2 => ?_)
  · refine zz_aload_n hb (z_dec dX11_parseSetup 63 rfl) rfl 0 rfl ?_
    refine zz_inv (as := []) (d := 3) (mc := (0, 0)) (P := (qE f3 g3)) (X := nX) hb ho hnl hR hE mkX11_parseClerk rfl ckX11 t0 rfl g_3 rfl (rX11_parseSetup 13 rfl) (rX11_parseSetup 14 rfl) (rX11_parseSetup 15 rfl) rfl (z_dec dX11_parseSetup 64 rfl) (m3 c2) (fun v J3 hp => ?_) (fun _ _ h => h.elim)
    obtain ⟨r3, rfl, e3, w3⟩ := hp
    have e3 := e3.symm
    subst e3
    have w3 := w3.symm
    subst w3
    show ZZ K (u.1 + mc1.1, u.2 + mc1.2) 118 [(0, .ref 312), (1, .int v1)] [.int f3] g3
    refine zz_if_ne (tgt := 79) hb (z_dec dX11_parseSetup 65 rfl) (by decide) (fun c4 => ?_) (fun c4 => ?_)
    · exact (k5 c2 c4)
    · refine zz_iconst (v := (0 : Int32)) hb (z_dec dX11_parseSetup 66 rfl) (by decide) ?_
      exact zz_zret hb hE g6 (by decide) (z_dec dX11_parseSetup 67 rfl) (h7 c2 c4)
  · refine zz_aload_n hb (z_dec dX11_parseSetup 59 rfl) rfl 0 rfl ?_
    refine zz_iconst (v := (1 : Int32)) hb (z_dec dX11_parseSetup 60 rfl) (by decide) ?_
    refine zz_inv (as := [.int (1 : Int32)]) (d := 0) (mc := (0, 0)) (P := (qE f8 g8)) (X := nX) hb ho hnl hR hE mkX11_wrong rfl ckX11 t0 rfl g_8 rfl (rX11_parseSetup 4 rfl) (rX11_parseSetup 5 rfl) (rX11_parseSetup 6 rfl) rfl (z_dec dX11_parseSetup 61 rfl) (m8 c2) (fun v J8 hp => ?_) (fun _ _ h => h.elim)
    obtain ⟨r8, rfl, e8, w8⟩ := hp
    have e8 := e8.symm
    subst e8
    have w8 := w8.symm
    subst w8
    show ZZ K (u.1 + mc1.1, u.2 + mc1.2) 113 [(0, .ref 312), (1, .int v1)] [.int f8] g8
    exact zz_zret hb hE g9 (z11 c2) (z_dec dX11_parseSetup 62 rfl) (h10 c2)
set_option maxRecDepth 20000 in
theorem bX11_parseSetup_123 {K : zK} {P : Option Value → zM → Prop} {X : String → zM → Prop} {u mc : Nat × Nat} (hK : zIs K RX11 cX11_parseSetup 2 (some .boolean) 5 mc P X) (hw : wOK (kw K)) {I : zM} (t0 : isT (kw K) 11 312) {v1 : Int32} {f1 : Int32} {g1 : zM} {mc1 : Nat × Nat} {x1 : String → zM → Prop} (g_1 : u.1 + mc1.1 ≤ mc.1 ∧ u.2 + mc1.2 ≤ mc.2) (n1 : ∀ (E : String) (J : zM), x1 E J → X E J) (m1 : CT (kG K) (kw K) (kl K) (yX11_isWord, cX11_isWord, 3, (some .boolean)) 4 mc1 [.ref 312, .ref 1102] I (qE f1 g1) x1) (g4 : (u.1 + mc1.1, u.2 + mc1.2).1 ≤ mc.1 ∧ (u.1 + mc1.1, u.2 + mc1.2).2 ≤ mc.2) (h5 : ∀ (c2 : f1 = 0) (c3 : (g1 312 11) = 0), P (some (.int (1 : Int32))) g1) {f6 : Int32} {g6 : zM} (g_6 : (u.1 + mc1.1, u.2 + mc1.2).1 ≤ mc.1 ∧ (u.1 + mc1.1, u.2 + mc1.2).2 ≤ mc.2) (m6 : ∀ (c2 : f1 = 0) (c3 : ¬ (g1 312 11) = 0), CT (kG K) (kw K) (kl K) (yX11_wrong, cX11_wrong, 2, (some .boolean)) 0 (0, 0) [.ref 312, .int (1 : Int32)] g1 (qE f6 g6) nX) (g8 : (u.1 + mc1.1, u.2 + mc1.2).1 ≤ mc.1 ∧ (u.1 + mc1.1, u.2 + mc1.2).2 ≤ mc.2) (h9 : ∀ (c2 : f1 = 0) (c3 : ¬ (g1 312 11) = 0) (c7 : f6 = 0), P (some (.int (0 : Int32))) g6) (g10 : (u.1 + mc1.1, u.2 + mc1.2).1 ≤ mc.1 ∧ (u.1 + mc1.1, u.2 + mc1.2).2 ≤ mc.2) (h11 : ∀ (c2 : f1 = 0) (c3 : ¬ (g1 312 11) = 0) (c7 : ¬ f6 = 0), P (some (.int (1 : Int32))) g6) {f12 : Int32} {g12 : zM} (g_12 : (u.1 + mc1.1, u.2 + mc1.2).1 ≤ mc.1 ∧ (u.1 + mc1.1, u.2 + mc1.2).2 ≤ mc.2) (m12 : ∀ (c2 : ¬ f1 = 0), CT (kG K) (kw K) (kl K) (yX11_parseLetter, cX11_parseLetter, 3, (some .boolean)) 3 (0, 0) [.ref 312] g1 (qE f12 g12) nX) (k14 : ∀ (c2 : ¬ f1 = 0) (c13 : ¬ f12 = 0), ZZ K (u.1 + mc1.1, u.2 + mc1.2) 123 [(0, .ref 312), (1, .int v1)] [] g12) (g15 : (u.1 + mc1.1, u.2 + mc1.2).1 ≤ mc.1 ∧ (u.1 + mc1.1, u.2 + mc1.2).2 ≤ mc.2) (h16 : ∀ (c2 : ¬ f1 = 0) (c13 : f12 = 0), P (some (.int (0 : Int32))) g12) : ZZ K u 123 [(0, .ref 312), (1, .int v1)] [] I := by
  obtain ⟨hb, ho, hnl, hR, hE⟩ := hK
  refine zz_aload_n hb (z_dec dX11_parseSetup 68 rfl) rfl 0 rfl ?_
  refine zz_ldc hb ho 30 rfl (z_dec dX11_parseSetup 69 rfl) ?_
  refine zz_inv (as := [.ref 1102]) (d := 4) (mc := mc1) (P := (qE f1 g1)) (X := x1) hb ho hnl hR hE mkX11_isWord rfl ckX11 t0 rfl g_1 rfl (rX11_parseSetup 1 rfl) (rX11_parseSetup 2 rfl) (rX11_parseSetup 3 rfl) rfl (z_dec dX11_parseSetup 70 rfl) m1 (fun v J1 hp => ?_) n1
  obtain ⟨r1, rfl, e1, w1⟩ := hp
  have e1 := e1.symm
  subst e1
  have w1 := w1.symm
  subst w1
  show ZZ K (u.1 + mc1.1, u.2 + mc1.2) 129 [(0, .ref 312), (1, .int v1)] [.int f1] g1
  refine zz_if_eq (tgt := 141) hb (z_dec dX11_parseSetup 71 rfl) (by decide) (fun c2 => ?_) (fun c2 => ?_)
  · refine zz_aload_n hb (z_dec dX11_parseSetup 77 rfl) rfl 0 rfl ?_
    refine zz_get (k := 11) hb ho ckX11 t0 rfl rfl (rX11_parseSetup 19 rfl) rfl (z_dec dX11_parseSetup 78 rfl) ?_
    refine zz_if_eq (tgt := 156) hb (z_dec dX11_parseSetup 79 rfl) (by decide) (fun c3 => ?_) (fun c3 => ?_)
    · refine zz_iconst (v := (1 : Int32)) hb (z_dec dX11_parseSetup 84 rfl) (by decide) ?_
      refine zz_goto (tgt := 161) hb (z_dec dX11_parseSetup 85 rfl) (by decide) ?_
      exact zz_zret hb hE g4 (by decide) (z_dec dX11_parseSetup 87 rfl) (h5 c2 c3)
    · refine zz_aload_n hb (z_dec dX11_parseSetup 80 rfl) rfl 0 rfl ?_
      refine zz_iconst (v := (1 : Int32)) hb (z_dec dX11_parseSetup 81 rfl) (by decide) ?_
      refine zz_inv (as := [.int (1 : Int32)]) (d := 0) (mc := (0, 0)) (P := (qE f6 g6)) (X := nX) hb ho hnl hR hE mkX11_wrong rfl ckX11 t0 rfl g_6 rfl (rX11_parseSetup 4 rfl) (rX11_parseSetup 5 rfl) (rX11_parseSetup 6 rfl) rfl (z_dec dX11_parseSetup 82 rfl) (m6 c2 c3) (fun v J6 hp => ?_) (fun _ _ h => h.elim)
      obtain ⟨r6, rfl, e6, w6⟩ := hp
      have e6 := e6.symm
      subst e6
      have w6 := w6.symm
      subst w6
      show ZZ K (u.1 + mc1.1, u.2 + mc1.2) 153 [(0, .ref 312), (1, .int v1)] [.int f6] g6
      refine zz_if_eq (tgt := 160) hb (z_dec dX11_parseSetup 83 rfl) (by decide) (fun c7 => ?_) (fun c7 => ?_)
      · refine zz_iconst (v := (0 : Int32)) hb (z_dec dX11_parseSetup 86 rfl) (by decide) ?_
        exact zz_zret hb hE g8 (by decide) (z_dec dX11_parseSetup 87 rfl) (h9 c2 c3 c7)
      · refine zz_iconst (v := (1 : Int32)) hb (z_dec dX11_parseSetup 84 rfl) (by decide) ?_
        refine zz_goto (tgt := 161) hb (z_dec dX11_parseSetup 85 rfl) (by decide) ?_
        exact zz_zret hb hE g10 (by decide) (z_dec dX11_parseSetup 87 rfl) (h11 c2 c3 c7)
  · refine zz_aload_n hb (z_dec dX11_parseSetup 72 rfl) rfl 0 rfl ?_
    refine zz_inv (as := []) (d := 3) (mc := (0, 0)) (P := (qE f12 g12)) (X := nX) hb ho hnl hR hE mkX11_parseLetter rfl ckX11 t0 rfl g_12 rfl (rX11_parseSetup 16 rfl) (rX11_parseSetup 17 rfl) (rX11_parseSetup 18 rfl) rfl (z_dec dX11_parseSetup 73 rfl) (m12 c2) (fun v J12 hp => ?_) (fun _ _ h => h.elim)
    obtain ⟨r12, rfl, e12, w12⟩ := hp
    have e12 := e12.symm
    subst e12
    have w12 := w12.symm
    subst w12
    show ZZ K (u.1 + mc1.1, u.2 + mc1.2) 136 [(0, .ref 312), (1, .int v1)] [.int f12] g12
    refine zz_if_ne (tgt := 123) hb (z_dec dX11_parseSetup 74 rfl) (by decide) (fun c13 => ?_) (fun c13 => ?_)
    · exact (k14 c2 c13)
    · refine zz_iconst (v := (0 : Int32)) hb (z_dec dX11_parseSetup 75 rfl) (by decide) ?_
      exact zz_zret hb hE g15 (by decide) (z_dec dX11_parseSetup 76 rfl) (h16 c2 c13)
set_option maxRecDepth 20000 in
theorem bX11_load_0 {K : zK} {P : Option Value → zM → Prop} {X : String → zM → Prop} {u mc : Nat × Nat} (hK : zIs K RX11 cX11_load 2 (some .int) 6 mc P X) (hw : wOK (kw K)) {I : zM} (t0 : isT (kw K) 11 312) {g1 : zM} (g_1 : u.1 ≤ mc.1 ∧ u.2 ≤ mc.2) (m1 : CT (kG K) (kw K) (kl K) (yX11_copyBlock, cX11_copyBlock, 4, none) 0 (0, 0) [.ref 312, .int (0 : Int32), .int (9 : Int32)] I (qV (fun J => J = g1)) nX) {g2 : zM} (g_2 : u.1 ≤ mc.1 ∧ u.2 ≤ mc.2) (m2 : CT (kG K) (kw K) (kl K) (yX11_begin, cX11_begin, 1, none) 2 (0, 0) [.ref 312] g1 (qV (fun J => J = g2)) nX) {f3 : Int32} {g3 : zM} {mc3 : Nat × Nat} {x3 : String → zM → Prop} (g_3 : u.1 + mc3.1 ≤ mc.1 ∧ u.2 + mc3.2 ≤ mc.2) (n3 : ∀ (E : String) (J : zM), x3 E J → X E J) (m3 : CT (kG K) (kw K) (kl K) (yX11_parseSetup, cX11_parseSetup, 2, (some .boolean)) 5 mc3 [.ref 312] g2 (qE f3 g3) x3) (k5 : ∀ (c4 : ¬ f3 = 0), ZZ K (u.1 + mc3.1, u.2 + mc3.2) 32 [(0, .ref 312), (1, .int f3)] [] (up g3 312 4 (0 : Int32))) {g6 : zM} (g_6 : (u.1 + mc3.1, u.2 + mc3.2).1 ≤ mc.1 ∧ (u.1 + mc3.1, u.2 + mc3.2).2 ≤ mc.2) (m6 : ∀ (c4 : f3 = 0), CT (kG K) (kw K) (kl K) (yX11_copyBlock, cX11_copyBlock, 4, none) 0 (0, 0) [.ref 312, .int (9 : Int32), .int (0 : Int32)] (up g3 312 4 (0 : Int32)) (qV (fun J => J = g6)) nX) (k7 : ∀ (c4 : f3 = 0), ZZ K (u.1 + mc3.1, u.2 + mc3.2) 32 [(0, .ref 312), (1, .int f3)] [] g6) : ZZ K u 0 [(0, .ref 312)] [] I := by
  obtain ⟨hb, ho, hnl, hR, hE⟩ := hK
  refine zz_aload_n hb (z_dec dX11_load 0 rfl) rfl 0 rfl ?_
  refine zz_iconst (v := (0 : Int32)) hb (z_dec dX11_load 1 rfl) (by decide) ?_
  refine zz_bipush (v := (9 : Int32)) hb (z_dec dX11_load 2 rfl) (by decide) ?_
  refine zz_inv (as := [.int (0 : Int32), .int (9 : Int32)]) (d := 0) (mc := (0, 0)) (P := (qV (fun J => J = g1))) (X := nX) hb ho hnl hR hE mkX11_copyBlock rfl ckX11 t0 rfl g_1 rfl (rX11_load 0 rfl) (rX11_load 1 rfl) (rX11_load 2 rfl) rfl (z_dec dX11_load 3 rfl) m1 (fun v J1 hp => ?_) (fun _ _ h => h.elim)
  obtain ⟨rfl, w1⟩ := hp
  have w1 := w1.symm
  subst w1
  show ZZ K u 7 [(0, .ref 312)] [] g1
  refine zz_aload_n hb (z_dec dX11_load 4 rfl) rfl 0 rfl ?_
  refine zz_inv (as := []) (d := 2) (mc := (0, 0)) (P := (qV (fun J => J = g2))) (X := nX) hb ho hnl hR hE mkX11_begin rfl ckX11 t0 rfl g_2 rfl (rX11_load 3 rfl) (rX11_load 4 rfl) (rX11_load 5 rfl) rfl (z_dec dX11_load 5 rfl) m2 (fun v J2 hp => ?_) (fun _ _ h => h.elim)
  obtain ⟨rfl, w2⟩ := hp
  have w2 := w2.symm
  subst w2
  show ZZ K u 11 [(0, .ref 312)] [] g2
  refine zz_aload_n hb (z_dec dX11_load 6 rfl) rfl 0 rfl ?_
  refine zz_inv (as := []) (d := 5) (mc := mc3) (P := (qE f3 g3)) (X := x3) hb ho hnl hR hE mkX11_parseSetup rfl ckX11 t0 rfl g_3 rfl (rX11_load 6 rfl) (rX11_load 7 rfl) (rX11_load 8 rfl) rfl (z_dec dX11_load 7 rfl) m3 (fun v J3 hp => ?_) n3
  obtain ⟨r3, rfl, e3, w3⟩ := hp
  have e3 := e3.symm
  subst e3
  have w3 := w3.symm
  subst w3
  show ZZ K (u.1 + mc3.1, u.2 + mc3.2) 15 [(0, .ref 312)] [.int f3] g3
  refine zz_istore_n (L' := [(0, .ref 312), (1, .int f3)]) hb (z_dec dX11_load 8 rfl) rfl hnl rfl [1, 0] rfl ?_
  refine zz_aload_n hb (z_dec dX11_load 9 rfl) rfl 0 rfl ?_
  refine zz_iconst (v := (0 : Int32)) hb (z_dec dX11_load 10 rfl) (by decide) ?_
  refine zz_put (k := 4) hb ho ckX11 t0 rfl rfl (rX11_load 9 rfl) rfl rfl rfl (z_dec dX11_load 11 rfl) ?_
  refine zz_iload_n hb (z_dec dX11_load 12 rfl) rfl 1 rfl ?_
  refine zz_if_ne (tgt := 32) hb (z_dec dX11_load 13 rfl) (by decide) (fun c4 => ?_) (fun c4 => ?_)
  · exact (k5 c4)
  · refine zz_aload_n hb (z_dec dX11_load 14 rfl) rfl 0 rfl ?_
    refine zz_bipush (v := (9 : Int32)) hb (z_dec dX11_load 15 rfl) (by decide) ?_
    refine zz_iconst (v := (0 : Int32)) hb (z_dec dX11_load 16 rfl) (by decide) ?_
    refine zz_inv (as := [.int (9 : Int32), .int (0 : Int32)]) (d := 0) (mc := (0, 0)) (P := (qV (fun J => J = g6))) (X := nX) hb ho hnl hR hE mkX11_copyBlock rfl ckX11 t0 rfl g_6 rfl (rX11_load 0 rfl) (rX11_load 1 rfl) (rX11_load 2 rfl) rfl (z_dec dX11_load 17 rfl) (m6 c4) (fun v J6 hp => ?_) (fun _ _ h => h.elim)
    obtain ⟨rfl, w6⟩ := hp
    have w6 := w6.symm
    subst w6
    show ZZ K (u.1 + mc3.1, u.2 + mc3.2) 32 [(0, .ref 312), (1, .int f3)] [] g6
    exact (k7 c4)
set_option maxRecDepth 20000 in
theorem bX11_load_32 {K : zK} {P : Option Value → zM → Prop} {X : String → zM → Prop} {u mc : Nat × Nat} (hK : zIs K RX11 cX11_load 2 (some .int) 6 mc P X) (hw : wOK (kw K)) {I : zM} (t0 : isT (kw K) 11 312) {v1 : Int32} (k2 : ∀ (c1 : ¬ v1 = 0), ZZ K u 42 [(0, .ref 312), (1, .int v1)] [.int (0 : Int32), .ref 312] I) (k3 : ∀ (c1 : v1 = 0), ZZ K u 42 [(0, .ref 312), (1, .int v1)] [.int (1 : Int32), .ref 312] I) : ZZ K u 32 [(0, .ref 312), (1, .int v1)] [] I := by
  obtain ⟨hb, ho, hnl, hR, hE⟩ := hK
  refine zz_aload_n hb (z_dec dX11_load 18 rfl) rfl 0 rfl ?_
  refine zz_iload_n hb (z_dec dX11_load 19 rfl) rfl 1 rfl ?_
  refine zz_if_ne (tgt := 41) hb (z_dec dX11_load 20 rfl) (by decide) (fun c1 => ?_) (fun c1 => ?_)
  · refine zz_iconst (v := (0 : Int32)) hb (z_dec dX11_load 23 rfl) (by decide) ?_
    exact (k2 c1)
  · refine zz_iconst (v := (1 : Int32)) hb (z_dec dX11_load 21 rfl) (by decide) ?_
    refine zz_goto (tgt := 42) hb (z_dec dX11_load 22 rfl) (by decide) ?_
    exact (k3 c1)
set_option maxRecDepth 20000 in
theorem bX11_load_42 {K : zK} {P : Option Value → zM → Prop} {X : String → zM → Prop} {u mc : Nat × Nat} (hK : zIs K RX11 cX11_load 2 (some .int) 6 mc P X) (hw : wOK (kw K)) {I : zM} (t0 : isT (kw K) 11 312) {v1 : Int32} (ts0 : isT (kw K) 11 312) {vs1 : Int32} {f1 : Int32} {g1 : zM} (g_1 : u.1 ≤ mc.1 ∧ u.2 ≤ mc.2) (m1 : CT (kG K) (kw K) (kl K) (yX11_fails, cX11_fails, 4, (some .boolean)) 0 (0, 0) [.ref 312, .int vs1, .int (0 : Int32), .int (0 : Int32)] I (qE f1 g1) nX) (g3 : u.1 ≤ mc.1 ∧ u.2 ≤ mc.2) (h4 : ∀ (c2 : f1 = 0), P (some (.int ((up (up (up g1 312 2 (0 : Int32)) 314 0 (vp_nar .boolean (0 : Int32))) 314 1 (vp_nar .boolean (0 : Int32))) 313 8))) (up (up (up g1 312 2 (0 : Int32)) 314 0 (vp_nar .boolean (0 : Int32))) 314 1 (vp_nar .boolean (0 : Int32)))) (g5 : u.1 ≤ mc.1 ∧ u.2 ≤ mc.2) (h6 : ∀ (c2 : ¬ f1 = 0), P (some (.int (0 : Int32))) g1) : ZZ K u 42 [(0, .ref 312), (1, .int v1)] [.int vs1, .ref 312] I := by
  obtain ⟨hb, ho, hnl, hR, hE⟩ := hK
  refine zz_iconst (v := (0 : Int32)) hb (z_dec dX11_load 24 rfl) (by decide) ?_
  refine zz_iconst (v := (0 : Int32)) hb (z_dec dX11_load 25 rfl) (by decide) ?_
  refine zz_inv (as := [.int vs1, .int (0 : Int32), .int (0 : Int32)]) (d := 0) (mc := (0, 0)) (P := (qE f1 g1)) (X := nX) hb ho hnl hR hE mkX11_fails rfl ckX11 ts0 rfl g_1 rfl (rX11_load 10 rfl) (rX11_load 11 rfl) (rX11_load 12 rfl) rfl (z_dec dX11_load 26 rfl) m1 (fun v J1 hp => ?_) (fun _ _ h => h.elim)
  obtain ⟨r1, rfl, e1, w1⟩ := hp
  have e1 := e1.symm
  subst e1
  have w1 := w1.symm
  subst w1
  show ZZ K u 47 [(0, .ref 312), (1, .int v1)] [.int f1] g1
  refine zz_if_eq (tgt := 52) hb (z_dec dX11_load 27 rfl) (by decide) (fun c2 => ?_) (fun c2 => ?_)
  · refine zz_aload_n hb (z_dec dX11_load 30 rfl) rfl 0 rfl ?_
    refine zz_iconst (v := (0 : Int32)) hb (z_dec dX11_load 31 rfl) (by decide) ?_
    refine zz_put (k := 2) hb ho ckX11 t0 rfl rfl (rX11_load 13 rfl) rfl rfl rfl (z_dec dX11_load 32 rfl) ?_
    refine zz_aload_n hb (z_dec dX11_load 33 rfl) rfl 0 rfl ?_
    refine zz_getr (k := 1) (q := 314) hb ho rfl ckX11 t0 rfl rfl (rX11_load 14 rfl) rfl (z_dec dX11_load 34 rfl) ?_
    refine zz_iconst (v := (0 : Int32)) hb (z_dec dX11_load 35 rfl) (by decide) ?_
    refine zz_iconst (v := (0 : Int32)) hb (z_dec dX11_load 36 rfl) (by decide) ?_
    refine zz_zast (j := 0) hb (show isT (kw K) 22 314 from isT.f (k := 1) t0 hw rfl rfl rfl (by decide)) rfl (zvi rfl (zin rfl)) (z_dec dX11_load 37 rfl) ?_
    refine zz_aload_n hb (z_dec dX11_load 38 rfl) rfl 0 rfl ?_
    refine zz_getr (k := 1) (q := 314) hb ho rfl ckX11 t0 rfl rfl (rX11_load 14 rfl) rfl (z_dec dX11_load 39 rfl) ?_
    refine zz_iconst (v := (1 : Int32)) hb (z_dec dX11_load 40 rfl) (by decide) ?_
    refine zz_iconst (v := (0 : Int32)) hb (z_dec dX11_load 41 rfl) (by decide) ?_
    refine zz_zast (j := 1) hb (show isT (kw K) 22 314 from isT.f (k := 1) t0 hw rfl rfl rfl (by decide)) rfl (zvi rfl (zin rfl)) (z_dec dX11_load 42 rfl) ?_
    refine zz_aload_n hb (z_dec dX11_load 43 rfl) rfl 0 rfl ?_
    refine zz_getr (k := 0) (q := 313) hb ho rfl ckX11 t0 rfl rfl (rX11_load 15 rfl) rfl (z_dec dX11_load 44 rfl) ?_
    refine zz_bipush (v := (8 : Int32)) hb (z_dec dX11_load 45 rfl) (by decide) ?_
    refine zz_iald (j := 8) hb (show isT (kw K) 20 313 from isT.f (k := 0) t0 hw rfl rfl rfl (by decide)) rfl (zvi rfl (zin rfl)) (z_dec dX11_load 46 rfl) ?_
    exact zz_iret hb hE g3 (z_dec dX11_load 47 rfl) (h4 c2)
  · refine zz_iconst (v := (0 : Int32)) hb (z_dec dX11_load 28 rfl) (by decide) ?_
    exact zz_iret hb hE g5 (z_dec dX11_load 29 rfl) (h6 c2)
set_option maxRecDepth 20000 in
theorem bX11_nameOf_0 {K : zK} {P : Option Value → zM → Prop} {X : String → zM → Prop} (hK : zIs K RX11 cX11_nameOf 1 (some (.object "java/lang/String")) 0 (0, 0) P X) (hw : wOK (kw K)) {I : zM} {v0 : Int32} (h2 : ∀ (c1 : v0.toInt < 0 ∨ 4 < v0.toInt), P (some (.ref 1107)) I) (h3 : ∀ (c1 : v0.toInt = 0), P (some (.ref 1102)) I) (h4 : ∀ (c1 : v0.toInt = 1), P (some (.ref 1103)) I) (h5 : ∀ (c1 : v0.toInt = 2), P (some (.ref 1104)) I) (h6 : ∀ (c1 : v0.toInt = 3), P (some (.ref 1105)) I) (h7 : ∀ (c1 : v0.toInt = 4), P (some (.ref 1106)) I) : ZZ K (0, 0) 0 [(0, .int v0)] [] I := by
  obtain ⟨hb, ho, hnl, hR, hE⟩ := hK
  refine zz_iload_n hb (z_dec dX11_nameOf 0 rfl) rfl 0 rfl ?_
  refine zz_tsw (td := 51) (tg := [36, 39, 42, 45, 48]) hb (z_dec dX11_nameOf 1 rfl) (by decide) rfl (by decide) (fun c1 => ?_) (fun i t hi c1 => ?_)
  · refine zz_ldc hb ho 35 rfl (z_dec dX11_nameOf 12 rfl) ?_
    exact zz_aret hb hE ⟨Nat.le_refl 0, Nat.le_refl 0⟩ (z_dec dX11_nameOf 13 rfl) (h2 c1)
  · obtain _ | i := i
    · obtain rfl := Option.some.inj hi
      refine zz_ldc hb ho 30 rfl (z_dec dX11_nameOf 2 rfl) ?_
      exact zz_aret hb hE ⟨Nat.le_refl 0, Nat.le_refl 0⟩ (z_dec dX11_nameOf 3 rfl) (h3 c1)
    obtain _ | i := i
    · obtain rfl := Option.some.inj hi
      refine zz_ldc hb ho 31 rfl (z_dec dX11_nameOf 4 rfl) ?_
      exact zz_aret hb hE ⟨Nat.le_refl 0, Nat.le_refl 0⟩ (z_dec dX11_nameOf 5 rfl) (h4 c1)
    obtain _ | i := i
    · obtain rfl := Option.some.inj hi
      refine zz_ldc hb ho 32 rfl (z_dec dX11_nameOf 6 rfl) ?_
      exact zz_aret hb hE ⟨Nat.le_refl 0, Nat.le_refl 0⟩ (z_dec dX11_nameOf 7 rfl) (h5 c1)
    obtain _ | i := i
    · obtain rfl := Option.some.inj hi
      refine zz_ldc hb ho 33 rfl (z_dec dX11_nameOf 8 rfl) ?_
      exact zz_aret hb hE ⟨Nat.le_refl 0, Nat.le_refl 0⟩ (z_dec dX11_nameOf 9 rfl) (h6 c1)
    obtain _ | i := i
    · obtain rfl := Option.some.inj hi
      refine zz_ldc hb ho 34 rfl (z_dec dX11_nameOf 10 rfl) ?_
      exact zz_aret hb hE ⟨Nat.le_refl 0, Nat.le_refl 0⟩ (z_dec dX11_nameOf 11 rfl) (h7 c1)
    cases hi
set_option maxRecDepth 20000 in
theorem bX11_commandHere_0 {K : zK} {P : Option Value → zM → Prop} {X : String → zM → Prop} {u mc : Nat × Nat} (hK : zIs K RX11 cX11_commandHere 2 (some .int) 5 mc P X) (hw : wOK (kw K)) {I : zM} (t0 : isT (kw K) 11 312) (k1 : ZZ K u 2 [(0, .ref 312), (1, .int (0 : Int32))] [] I) : ZZ K u 0 [(0, .ref 312)] [] I := by
  obtain ⟨hb, ho, hnl, hR, hE⟩ := hK
  refine zz_iconst (v := (0 : Int32)) hb (z_dec dX11_commandHere 0 rfl) (by decide) ?_
  refine zz_istore_n (L' := [(0, .ref 312), (1, .int (0 : Int32))]) hb (z_dec dX11_commandHere 1 rfl) rfl hnl rfl [1, 0] rfl ?_
  exact k1
set_option maxRecDepth 20000 in
theorem bX11_commandHere_2 {K : zK} {P : Option Value → zM → Prop} {X : String → zM → Prop} {u mc : Nat × Nat} (hK : zIs K RX11 cX11_commandHere 2 (some .int) 5 mc P X) (hw : wOK (kw K)) {I : zM} (t0 : isT (kw K) 11 312) {v1 : Int32} (g2 : u.1 ≤ mc.1 ∧ u.2 ≤ mc.2) (h3 : ∀ (c1 : (5 : Int32) < v1), P (some (.int (-1 : Int32))) I) {f4 : Nat} {g4 : zM} (g_4 : u.1 ≤ mc.1 ∧ u.2 ≤ mc.2) (m4 : ∀ (c1 : ¬ (5 : Int32) < v1), CT (kG K) (kw K) (kl K) (yX11_nameOf, cX11_nameOf, 1, (some (.object "java/lang/String"))) 0 (0, 0) [.int v1] I (qEr f4 g4) nX) {f5 : Int32} {g5 : zM} {mc5 : Nat × Nat} {x5 : String → zM → Prop} (g_5 : u.1 + mc5.1 ≤ mc.1 ∧ u.2 + mc5.2 ≤ mc.2) (n5 : ∀ (c1 : ¬ (5 : Int32) < v1), ∀ (E : String) (J : zM), x5 E J → X E J) (m5 : ∀ (c1 : ¬ (5 : Int32) < v1), CT (kG K) (kw K) (kl K) (yX11_isWord, cX11_isWord, 3, (some .boolean)) 4 mc5 [.ref 312, .ref f4] g4 (qE f5 g5) x5) (k7 : ∀ (c1 : ¬ (5 : Int32) < v1) (c6 : f5 = 0), ZZ K (u.1 + mc5.1, u.2 + mc5.2) 2 [(0, .ref 312), (1, .int (v1 + 1))] [] g5) (g8 : (u.1 + mc5.1, u.2 + mc5.2).1 ≤ mc.1 ∧ (u.1 + mc5.1, u.2 + mc5.2).2 ≤ mc.2) (h9 : ∀ (c1 : ¬ (5 : Int32) < v1) (c6 : ¬ f5 = 0), P (some (.int v1)) g5) : ZZ K u 2 [(0, .ref 312), (1, .int v1)] [] I := by
  obtain ⟨hb, ho, hnl, hR, hE⟩ := hK
  refine zz_iload_n hb (z_dec dX11_commandHere 2 rfl) rfl 1 rfl ?_
  refine zz_iconst (v := (5 : Int32)) hb (z_dec dX11_commandHere 3 rfl) (by decide) ?_
  refine zz_icmp_gt (tgt := 26) hb (z_dec dX11_commandHere 4 rfl) (by decide) (fun c1 => ?_) (fun c1 => ?_)
  · refine zz_iconst (v := (-1 : Int32)) hb (z_dec dX11_commandHere 14 rfl) (by decide) ?_
    exact zz_iret hb hE g2 (z_dec dX11_commandHere 15 rfl) (h3 c1)
  · refine zz_aload_n hb (z_dec dX11_commandHere 5 rfl) rfl 0 rfl ?_
    refine zz_iload_n hb (z_dec dX11_commandHere 6 rfl) rfl 1 rfl ?_
    refine zz_invS (as := [.int v1]) (d := 0) (mc := (0, 0)) (P := (qEr f4 g4)) (X := nX) hb ho hnl hR hE mkX11_nameOf rfl rfl g_4 rfl (rX11_commandHere 0 rfl) (rX11_commandHere 1 rfl) rfl (z_dec dX11_commandHere 7 rfl) (m4 c1) (fun v J4 hp => ?_) (fun _ _ h => h.elim)
    obtain ⟨r4, rfl, e4, w4⟩ := hp
    have e4 := e4.symm
    subst e4
    have w4 := w4.symm
    subst w4
    show ZZ K u 12 [(0, .ref 312), (1, .int v1)] [.ref f4, .ref 312] g4
    refine zz_inv (as := [.ref f4]) (d := 4) (mc := mc5) (P := (qE f5 g5)) (X := x5) hb ho hnl hR hE mkX11_isWord rfl ckX11 t0 rfl g_5 rfl (rX11_commandHere 2 rfl) (rX11_commandHere 3 rfl) (rX11_commandHere 4 rfl) rfl (z_dec dX11_commandHere 8 rfl) (m5 c1) (fun v J5 hp => ?_) (n5 c1)
    obtain ⟨r5, rfl, e5, w5⟩ := hp
    have e5 := e5.symm
    subst e5
    have w5 := w5.symm
    subst w5
    show ZZ K (u.1 + mc5.1, u.2 + mc5.2) 15 [(0, .ref 312), (1, .int v1)] [.int f5] g5
    refine zz_if_eq (tgt := 20) hb (z_dec dX11_commandHere 9 rfl) (by decide) (fun c6 => ?_) (fun c6 => ?_)
    · refine zz_iinc (v := (v1 + 1)) (L' := [(0, .ref 312), (1, .int (v1 + 1))]) hb (z_dec dX11_commandHere 12 rfl) 1 rfl rfl hnl rfl [1, 0] rfl ?_
      refine zz_goto (tgt := 2) hb (z_dec dX11_commandHere 13 rfl) (by decide) ?_
      exact (k7 c1 c6)
    · refine zz_iload_n hb (z_dec dX11_commandHere 10 rfl) rfl 1 rfl ?_
      exact zz_iret hb hE g8 (z_dec dX11_commandHere 11 rfl) (h9 c1 c6)
set_option maxRecDepth 20000 in
theorem bX11_parseNumbers_0 {K : zK} {P : Option Value → zM → Prop} {X : String → zM → Prop} (hK : zIs K RX11 cX11_parseNumbers 4 (some .boolean) 2 (0, 0) P X) (hw : wOK (kw K)) {I : zM} (t0 : isT (kw K) 11 312) {v1 : Int32} {v2 : Int32} (k1 : ZZ K (0, 0) 2 [(0, .ref 312), (1, .int v1), (2, .int v2), (3, .int (0 : Int32))] [] I) : ZZ K (0, 0) 0 [(0, .ref 312), (1, .int v1), (2, .int v2)] [] I := by
  obtain ⟨hb, ho, hnl, hR, hE⟩ := hK
  refine zz_iconst (v := (0 : Int32)) hb (z_dec dX11_parseNumbers 0 rfl) (by decide) ?_
  refine zz_istore_n (L' := [(0, .ref 312), (1, .int v1), (2, .int v2), (3, .int (0 : Int32))]) hb (z_dec dX11_parseNumbers 1 rfl) rfl hnl rfl [1, 2, 3, 0] rfl ?_
  exact k1
set_option maxRecDepth 20000 in
theorem bX11_parseNumbers_2 {K : zK} {P : Option Value → zM → Prop} {X : String → zM → Prop} (hK : zIs K RX11 cX11_parseNumbers 4 (some .boolean) 2 (0, 0) P X) (hw : wOK (kw K)) {I : zM} (t0 : isT (kw K) 11 312) {v1 : Int32} {v2 : Int32} {v3 : Int32} (h2 : ∀ (c1 : v2 ≤ v3), P (some (.int (1 : Int32))) I) (h4 : ∀ (c1 : ¬ v2 ≤ v3) (c3 : (I 312 11) = (2 : Int32)), vp_in (v1 + v3) 180) {g5 : zM} (m5 : ∀ (c1 : ¬ v2 ≤ v3) (c3 : (I 312 11) = (2 : Int32)), CT (kG K) (kw K) (kl K) (yX11_token, cX11_token, 1, none) 1 (0, 0) [.ref 312] (up I 317 ((v1 + v3).toNatClampNeg) (I 312 13)) (qV (fun J => J = g5)) nX) (k6 : ∀ (c1 : ¬ v2 ≤ v3) (c3 : (I 312 11) = (2 : Int32)), ZZ K (0, 0) 2 [(0, .ref 312), (1, .int v1), (2, .int v2), (3, .int (v3 + 1))] [] g5) {f7 : Int32} {g7 : zM} (m7 : ∀ (c1 : ¬ v2 ≤ v3) (c3 : ¬ (I 312 11) = (2 : Int32)), CT (kG K) (kw K) (kl K) (yX11_wrong, cX11_wrong, 2, (some .boolean)) 0 (0, 0) [.ref 312, .int (1 : Int32)] I (qE f7 g7) nX) (h8 : ∀ (c1 : ¬ v2 ≤ v3) (c3 : ¬ (I 312 11) = (2 : Int32)), P (some (.int f7)) g7) (z9 : ∀ (c1 : ¬ v2 ≤ v3) (c3 : ¬ (I 312 11) = (2 : Int32)), f7 = 0 ∨ f7 = 1) : ZZ K (0, 0) 2 [(0, .ref 312), (1, .int v1), (2, .int v2), (3, .int v3)] [] I := by
  obtain ⟨hb, ho, hnl, hR, hE⟩ := hK
  refine zz_iload_n hb (z_dec dX11_parseNumbers 2 rfl) rfl 3 rfl ?_
  refine zz_iload_n hb (z_dec dX11_parseNumbers 3 rfl) rfl 2 rfl ?_
  refine zz_icmp_ge (tgt := 43) hb (z_dec dX11_parseNumbers 4 rfl) (by decide) (fun c1 => ?_) (fun c1 => ?_)
  · refine zz_iconst (v := (1 : Int32)) hb (z_dec dX11_parseNumbers 25 rfl) (by decide) ?_
    exact zz_zret hb hE ⟨Nat.le_refl 0, Nat.le_refl 0⟩ (by decide) (z_dec dX11_parseNumbers 26 rfl) (h2 c1)
  · refine zz_aload_n hb (z_dec dX11_parseNumbers 5 rfl) rfl 0 rfl ?_
    refine zz_get (k := 11) hb ho ckX11 t0 rfl rfl (rX11_parseNumbers 0 rfl) rfl (z_dec dX11_parseNumbers 6 rfl) ?_
    refine zz_iconst (v := (2 : Int32)) hb (z_dec dX11_parseNumbers 7 rfl) (by decide) ?_
    refine zz_icmp_eq (tgt := 21) hb (z_dec dX11_parseNumbers 8 rfl) (by decide) (fun c3 => ?_) (fun c3 => ?_)
    · refine zz_aload_n hb (z_dec dX11_parseNumbers 13 rfl) rfl 0 rfl ?_
      refine zz_getr (k := 14) (q := 317) hb ho rfl ckX11 t0 rfl rfl (rX11_parseNumbers 4 rfl) rfl (z_dec dX11_parseNumbers 14 rfl) ?_
      refine zz_iload_n hb (z_dec dX11_parseNumbers 15 rfl) rfl 1 rfl ?_
      refine zz_iload_n hb (z_dec dX11_parseNumbers 16 rfl) rfl 3 rfl ?_
      refine zz_iadd hb (z_dec dX11_parseNumbers 17 rfl) ?_
      refine zz_aload_n hb (z_dec dX11_parseNumbers 18 rfl) rfl 0 rfl ?_
      refine zz_get (k := 13) hb ho ckX11 t0 rfl rfl (rX11_parseNumbers 5 rfl) rfl (z_dec dX11_parseNumbers 19 rfl) ?_
      refine zz_iast (j := (v1 + v3).toNatClampNeg) hb (show isT (kw K) 20 317 from isT.f (k := 14) t0 hw rfl rfl rfl (by decide)) rfl (zvi rfl (h4 c1 c3)) (z_dec dX11_parseNumbers 20 rfl) ?_
      refine zz_aload_n hb (z_dec dX11_parseNumbers 21 rfl) rfl 0 rfl ?_
      refine zz_inv (as := []) (d := 1) (mc := (0, 0)) (P := (qV (fun J => J = g5))) (X := nX) hb ho hnl hR hE mkX11_token rfl ckX11 t0 rfl ⟨Nat.le_refl 0, Nat.le_refl 0⟩ rfl (rX11_parseNumbers 6 rfl) (rX11_parseNumbers 7 rfl) (rX11_parseNumbers 8 rfl) rfl (z_dec dX11_parseNumbers 22 rfl) (m5 c1 c3) (fun v J5 hp => ?_) (fun _ _ h => h.elim)
      obtain ⟨rfl, w5⟩ := hp
      have w5 := w5.symm
      subst w5
      show ZZ K (0, 0) 37 [(0, .ref 312), (1, .int v1), (2, .int v2), (3, .int v3)] [] g5
      refine zz_iinc (v := (v3 + 1)) (L' := [(0, .ref 312), (1, .int v1), (2, .int v2), (3, .int (v3 + 1))]) hb (z_dec dX11_parseNumbers 23 rfl) 3 rfl rfl hnl rfl [1, 2, 3, 0] rfl ?_
      refine zz_goto (tgt := 2) hb (z_dec dX11_parseNumbers 24 rfl) (by decide) ?_
      exact (k6 c1 c3)
    · refine zz_aload_n hb (z_dec dX11_parseNumbers 9 rfl) rfl 0 rfl ?_
      refine zz_iconst (v := (1 : Int32)) hb (z_dec dX11_parseNumbers 10 rfl) (by decide) ?_
      refine zz_inv (as := [.int (1 : Int32)]) (d := 0) (mc := (0, 0)) (P := (qE f7 g7)) (X := nX) hb ho hnl hR hE mkX11_wrong rfl ckX11 t0 rfl ⟨Nat.le_refl 0, Nat.le_refl 0⟩ rfl (rX11_parseNumbers 1 rfl) (rX11_parseNumbers 2 rfl) (rX11_parseNumbers 3 rfl) rfl (z_dec dX11_parseNumbers 11 rfl) (m7 c1 c3) (fun v J7 hp => ?_) (fun _ _ h => h.elim)
      obtain ⟨r7, rfl, e7, w7⟩ := hp
      have e7 := e7.symm
      subst e7
      have w7 := w7.symm
      subst w7
      show ZZ K (0, 0) 20 [(0, .ref 312), (1, .int v1), (2, .int v2), (3, .int v3)] [.int f7] g7
      exact zz_zret hb hE ⟨Nat.le_refl 0, Nat.le_refl 0⟩ (z9 c1 c3) (z_dec dX11_parseNumbers 12 rfl) (h8 c1 c3)
set_option maxRecDepth 20000 in
theorem bX11_parseArguments_0 {K : zK} {P : Option Value → zM → Prop} {X : String → zM → Prop} (hK : zIs K RX11 cX11_parseArguments 3 (some .boolean) 3 (0, 0) P X) (hw : wOK (kw K)) {I : zM} (t0 : isT (kw K) 11 312) {v1 : Int32} {v2 : Int32} (k2 : ∀ (c1 : v1 = (3 : Int32)), ZZ K (0, 0) 10 [(0, .ref 312), (1, .int v1), (2, .int v2)] [] I) {f5 : Int32} {g5 : zM} (m5 : ∀ (c1 : ¬ v1 = (3 : Int32)) (c3 : ¬ v1 = (4 : Int32)) (c4 : v1 = 0), CT (kG K) (kw K) (kl K) (yX11_isShortWord, cX11_isShortWord, 1, (some .boolean)) 1 (0, 0) [.ref 312] I (qE f5 g5) nX) {f7 : Int32} {g7 : zM} (m7 : ∀ (c1 : ¬ v1 = (3 : Int32)) (c3 : ¬ v1 = (4 : Int32)) (c4 : v1 = 0) (c6 : ¬ f5 = 0), CT (kG K) (kw K) (kl K) (yX11_clerkNamed, cX11_clerkNamed, 7, (some .int)) 0 (0, 0) [.ref 312, .int (g5 312 12), .int ((g5 312 10) - (g5 312 12))] g5 (qE f7 g7) nX) (h8 : ∀ (c1 : ¬ v1 = (3 : Int32)) (c3 : ¬ v1 = (4 : Int32)) (c4 : v1 = 0) (c6 : ¬ f5 = 0), vp_in v2 180) (h9 : ∀ (c1 : ¬ v1 = (3 : Int32)) (c3 : ¬ v1 = (4 : Int32)) (c4 : v1 = 0) (c6 : ¬ f5 = 0), vp_in v2 180) {g11 : zM} (m11 : ∀ (c1 : ¬ v1 = (3 : Int32)) (c3 : ¬ v1 = (4 : Int32)) (c4 : v1 = 0) (c6 : ¬ f5 = 0) (c10 : ¬ ((up g7 317 (v2.toNatClampNeg) f7) 317 v2.toNatClampNeg) = (-1 : Int32)), CT (kG K) (kw K) (kl K) (yX11_token, cX11_token, 1, none) 1 (0, 0) [.ref 312] (up g7 317 (v2.toNatClampNeg) f7) (qV (fun J => J = g11)) nX) {f12 : Int32} {g12 : zM} (m12 : ∀ (c1 : ¬ v1 = (3 : Int32)) (c3 : ¬ v1 = (4 : Int32)) (c4 : v1 = 0) (c6 : ¬ f5 = 0) (c10 : ¬ ((up g7 317 (v2.toNatClampNeg) f7) 317 v2.toNatClampNeg) = (-1 : Int32)), CT (kG K) (kw K) (kl K) (yX11_parseNumbers, cX11_parseNumbers, 4, (some .boolean)) 2 (0, 0) [.ref 312, .int (v2 + (1 : Int32)), .int (4 : Int32)] g11 (qE f12 g12) nX) (h13 : ∀ (c1 : ¬ v1 = (3 : Int32)) (c3 : ¬ v1 = (4 : Int32)) (c4 : v1 = 0) (c6 : ¬ f5 = 0) (c10 : ¬ ((up g7 317 (v2.toNatClampNeg) f7) 317 v2.toNatClampNeg) = (-1 : Int32)), P (some (.int f12)) g12) (z14 : ∀ (c1 : ¬ v1 = (3 : Int32)) (c3 : ¬ v1 = (4 : Int32)) (c4 : v1 = 0) (c6 : ¬ f5 = 0) (c10 : ¬ ((up g7 317 (v2.toNatClampNeg) f7) 317 v2.toNatClampNeg) = (-1 : Int32)), f12 = 0 ∨ f12 = 1) {f15 : Int32} {g15 : zM} (m15 : ∀ (c1 : ¬ v1 = (3 : Int32)) (c3 : ¬ v1 = (4 : Int32)) (c4 : v1 = 0) (c6 : ¬ f5 = 0) (c10 : ((up g7 317 (v2.toNatClampNeg) f7) 317 v2.toNatClampNeg) = (-1 : Int32)), CT (kG K) (kw K) (kl K) (yX11_wrong, cX11_wrong, 2, (some .boolean)) 0 (0, 0) [.ref 312, .int (3 : Int32)] (up g7 317 (v2.toNatClampNeg) f7) (qE f15 g15) nX) (h16 : ∀ (c1 : ¬ v1 = (3 : Int32)) (c3 : ¬ v1 = (4 : Int32)) (c4 : v1 = 0) (c6 : ¬ f5 = 0) (c10 : ((up g7 317 (v2.toNatClampNeg) f7) 317 v2.toNatClampNeg) = (-1 : Int32)), P (some (.int f15)) g15) (z17 : ∀ (c1 : ¬ v1 = (3 : Int32)) (c3 : ¬ v1 = (4 : Int32)) (c4 : v1 = 0) (c6 : ¬ f5 = 0) (c10 : ((up g7 317 (v2.toNatClampNeg) f7) 317 v2.toNatClampNeg) = (-1 : Int32)), f15 = 0 ∨ f15 = 1) (h18 : ∀ (c1 : ¬ v1 = (3 : Int32)) (c3 : ¬ v1 = (4 : Int32)) (c4 : v1 = 0) (c6 : f5 = 0), P (some (.int (0 : Int32))) g5) {f19 : Int32} {g19 : zM} (m19 : ∀ (c1 : ¬ v1 = (3 : Int32)) (c3 : ¬ v1 = (4 : Int32)) (c4 : ¬ v1 = 0), CT (kG K) (kw K) (kl K) (yX11_parseNumbers, cX11_parseNumbers, 4, (some .boolean)) 2 (0, 0) [.ref 312, .int v2, .int (1 : Int32)] I (qE f19 g19) nX) (h20 : ∀ (c1 : ¬ v1 = (3 : Int32)) (c3 : ¬ v1 = (4 : Int32)) (c4 : ¬ v1 = 0), P (some (.int f19)) g19) (z21 : ∀ (c1 : ¬ v1 = (3 : Int32)) (c3 : ¬ v1 = (4 : Int32)) (c4 : ¬ v1 = 0), f19 = 0 ∨ f19 = 1) (k22 : ∀ (c1 : ¬ v1 = (3 : Int32)) (c3 : v1 = (4 : Int32)), ZZ K (0, 0) 10 [(0, .ref 312), (1, .int v1), (2, .int v2)] [] I) : ZZ K (0, 0) 0 [(0, .ref 312), (1, .int v1), (2, .int v2)] [] I := by
  obtain ⟨hb, ho, hnl, hR, hE⟩ := hK
  refine zz_iload_n hb (z_dec dX11_parseArguments 0 rfl) rfl 1 rfl ?_
  refine zz_iconst (v := (3 : Int32)) hb (z_dec dX11_parseArguments 1 rfl) (by decide) ?_
  refine zz_icmp_eq (tgt := 10) hb (z_dec dX11_parseArguments 2 rfl) (by decide) (fun c1 => ?_) (fun c1 => ?_)
  · exact (k2 c1)
  · refine zz_iload_n hb (z_dec dX11_parseArguments 3 rfl) rfl 1 rfl ?_
    refine zz_iconst (v := (4 : Int32)) hb (z_dec dX11_parseArguments 4 rfl) (by decide) ?_
    refine zz_icmp_ne (tgt := 17) hb (z_dec dX11_parseArguments 5 rfl) (by decide) (fun c3 => ?_) (fun c3 => ?_)
    · refine zz_iload_n hb (z_dec dX11_parseArguments 11 rfl) rfl 1 rfl ?_
      refine zz_if_eq (tgt := 28) hb (z_dec dX11_parseArguments 12 rfl) (by decide) (fun c4 => ?_) (fun c4 => ?_)
      · refine zz_aload_n hb (z_dec dX11_parseArguments 18 rfl) rfl 0 rfl ?_
        refine zz_inv (as := []) (d := 1) (mc := (0, 0)) (P := (qE f5 g5)) (X := nX) hb ho hnl hR hE mkX11_isShortWord rfl ckX11 t0 rfl ⟨Nat.le_refl 0, Nat.le_refl 0⟩ rfl (rX11_parseArguments 3 rfl) (rX11_parseArguments 4 rfl) (rX11_parseArguments 5 rfl) rfl (z_dec dX11_parseArguments 19 rfl) (m5 c1 c3 c4) (fun v J5 hp => ?_) (fun _ _ h => h.elim)
        obtain ⟨r5, rfl, e5, w5⟩ := hp
        have e5 := e5.symm
        subst e5
        have w5 := w5.symm
        subst w5
        show ZZ K (0, 0) 32 [(0, .ref 312), (1, .int v1), (2, .int v2)] [.int f5] g5
        refine zz_if_ne (tgt := 37) hb (z_dec dX11_parseArguments 20 rfl) (by decide) (fun c6 => ?_) (fun c6 => ?_)
        · refine zz_aload_n hb (z_dec dX11_parseArguments 23 rfl) rfl 0 rfl ?_
          refine zz_getr (k := 14) (q := 317) hb ho rfl ckX11 t0 rfl rfl (rX11_parseArguments 6 rfl) rfl (z_dec dX11_parseArguments 24 rfl) ?_
          refine zz_iload_n hb (z_dec dX11_parseArguments 25 rfl) rfl 2 rfl ?_
          refine zz_aload_n hb (z_dec dX11_parseArguments 26 rfl) rfl 0 rfl ?_
          refine zz_aload_n hb (z_dec dX11_parseArguments 27 rfl) rfl 0 rfl ?_
          refine zz_get (k := 12) hb ho ckX11 t0 rfl rfl (rX11_parseArguments 7 rfl) rfl (z_dec dX11_parseArguments 28 rfl) ?_
          refine zz_aload_n hb (z_dec dX11_parseArguments 29 rfl) rfl 0 rfl ?_
          refine zz_get (k := 10) hb ho ckX11 t0 rfl rfl (rX11_parseArguments 8 rfl) rfl (z_dec dX11_parseArguments 30 rfl) ?_
          refine zz_aload_n hb (z_dec dX11_parseArguments 31 rfl) rfl 0 rfl ?_
          refine zz_get (k := 12) hb ho ckX11 t0 rfl rfl (rX11_parseArguments 7 rfl) rfl (z_dec dX11_parseArguments 32 rfl) ?_
          refine zz_isub hb (z_dec dX11_parseArguments 33 rfl) ?_
          refine zz_inv (as := [.int (g5 312 12), .int ((g5 312 10) - (g5 312 12))]) (d := 0) (mc := (0, 0)) (P := (qE f7 g7)) (X := nX) hb ho hnl hR hE mkX11_clerkNamed rfl ckX11 t0 rfl ⟨Nat.le_refl 0, Nat.le_refl 0⟩ rfl (rX11_parseArguments 9 rfl) (rX11_parseArguments 10 rfl) (rX11_parseArguments 11 rfl) rfl (z_dec dX11_parseArguments 34 rfl) (m7 c1 c3 c4 c6) (fun v J7 hp => ?_) (fun _ _ h => h.elim)
          obtain ⟨r7, rfl, e7, w7⟩ := hp
          have e7 := e7.symm
          subst e7
          have w7 := w7.symm
          subst w7
          show ZZ K (0, 0) 59 [(0, .ref 312), (1, .int v1), (2, .int v2)] [.int f7, .int v2, .ref 317] g7
          refine zz_iast (j := v2.toNatClampNeg) hb (show isT (kw K) 20 317 from isT.f (k := 14) t0 hw rfl rfl rfl (by decide)) rfl (zvi rfl (h8 c1 c3 c4 c6)) (z_dec dX11_parseArguments 35 rfl) ?_
          refine zz_aload_n hb (z_dec dX11_parseArguments 36 rfl) rfl 0 rfl ?_
          refine zz_getr (k := 14) (q := 317) hb ho rfl ckX11 t0 rfl rfl (rX11_parseArguments 6 rfl) rfl (z_dec dX11_parseArguments 37 rfl) ?_
          refine zz_iload_n hb (z_dec dX11_parseArguments 38 rfl) rfl 2 rfl ?_
          refine zz_iald (j := v2.toNatClampNeg) hb (show isT (kw K) 20 317 from isT.f (k := 14) t0 hw rfl rfl rfl (by decide)) rfl (zvi rfl (h9 c1 c3 c4 c6)) (z_dec dX11_parseArguments 39 rfl) ?_
          refine zz_iconst (v := (-1 : Int32)) hb (z_dec dX11_parseArguments 40 rfl) (by decide) ?_
          refine zz_icmp_ne (tgt := 76) hb (z_dec dX11_parseArguments 41 rfl) (by decide) (fun c10 => ?_) (fun c10 => ?_)
          · refine zz_aload_n hb (z_dec dX11_parseArguments 46 rfl) rfl 0 rfl ?_
            refine zz_inv (as := []) (d := 1) (mc := (0, 0)) (P := (qV (fun J => J = g11))) (X := nX) hb ho hnl hR hE mkX11_token rfl ckX11 t0 rfl ⟨Nat.le_refl 0, Nat.le_refl 0⟩ rfl (rX11_parseArguments 15 rfl) (rX11_parseArguments 16 rfl) (rX11_parseArguments 17 rfl) rfl (z_dec dX11_parseArguments 47 rfl) (m11 c1 c3 c4 c6 c10) (fun v J11 hp => ?_) (fun _ _ h => h.elim)
            obtain ⟨rfl, w11⟩ := hp
            have w11 := w11.symm
            subst w11
            show ZZ K (0, 0) 80 [(0, .ref 312), (1, .int v1), (2, .int v2)] [] g11
            refine zz_aload_n hb (z_dec dX11_parseArguments 48 rfl) rfl 0 rfl ?_
            refine zz_iload_n hb (z_dec dX11_parseArguments 49 rfl) rfl 2 rfl ?_
            refine zz_iconst (v := (1 : Int32)) hb (z_dec dX11_parseArguments 50 rfl) (by decide) ?_
            refine zz_iadd hb (z_dec dX11_parseArguments 51 rfl) ?_
            refine zz_iconst (v := (4 : Int32)) hb (z_dec dX11_parseArguments 52 rfl) (by decide) ?_
            refine zz_inv (as := [.int (v2 + (1 : Int32)), .int (4 : Int32)]) (d := 2) (mc := (0, 0)) (P := (qE f12 g12)) (X := nX) hb ho hnl hR hE mkX11_parseNumbers rfl ckX11 t0 rfl ⟨Nat.le_refl 0, Nat.le_refl 0⟩ rfl (rX11_parseArguments 0 rfl) (rX11_parseArguments 1 rfl) (rX11_parseArguments 2 rfl) rfl (z_dec dX11_parseArguments 53 rfl) (m12 c1 c3 c4 c6 c10) (fun v J12 hp => ?_) (fun _ _ h => h.elim)
            obtain ⟨r12, rfl, e12, w12⟩ := hp
            have e12 := e12.symm
            subst e12
            have w12 := w12.symm
            subst w12
            show ZZ K (0, 0) 88 [(0, .ref 312), (1, .int v1), (2, .int v2)] [.int f12] g12
            exact zz_zret hb hE ⟨Nat.le_refl 0, Nat.le_refl 0⟩ (z14 c1 c3 c4 c6 c10) (z_dec dX11_parseArguments 54 rfl) (h13 c1 c3 c4 c6 c10)
          · refine zz_aload_n hb (z_dec dX11_parseArguments 42 rfl) rfl 0 rfl ?_
            refine zz_iconst (v := (3 : Int32)) hb (z_dec dX11_parseArguments 43 rfl) (by decide) ?_
            refine zz_inv (as := [.int (3 : Int32)]) (d := 0) (mc := (0, 0)) (P := (qE f15 g15)) (X := nX) hb ho hnl hR hE mkX11_wrong rfl ckX11 t0 rfl ⟨Nat.le_refl 0, Nat.le_refl 0⟩ rfl (rX11_parseArguments 12 rfl) (rX11_parseArguments 13 rfl) (rX11_parseArguments 14 rfl) rfl (z_dec dX11_parseArguments 44 rfl) (m15 c1 c3 c4 c6 c10) (fun v J15 hp => ?_) (fun _ _ h => h.elim)
            obtain ⟨r15, rfl, e15, w15⟩ := hp
            have e15 := e15.symm
            subst e15
            have w15 := w15.symm
            subst w15
            show ZZ K (0, 0) 75 [(0, .ref 312), (1, .int v1), (2, .int v2)] [.int f15] g15
            exact zz_zret hb hE ⟨Nat.le_refl 0, Nat.le_refl 0⟩ (z17 c1 c3 c4 c6 c10) (z_dec dX11_parseArguments 45 rfl) (h16 c1 c3 c4 c6 c10)
        · refine zz_iconst (v := (0 : Int32)) hb (z_dec dX11_parseArguments 21 rfl) (by decide) ?_
          exact zz_zret hb hE ⟨Nat.le_refl 0, Nat.le_refl 0⟩ (by decide) (z_dec dX11_parseArguments 22 rfl) (h18 c1 c3 c4 c6)
      · refine zz_aload_n hb (z_dec dX11_parseArguments 13 rfl) rfl 0 rfl ?_
        refine zz_iload_n hb (z_dec dX11_parseArguments 14 rfl) rfl 2 rfl ?_
        refine zz_iconst (v := (1 : Int32)) hb (z_dec dX11_parseArguments 15 rfl) (by decide) ?_
        refine zz_inv (as := [.int v2, .int (1 : Int32)]) (d := 2) (mc := (0, 0)) (P := (qE f19 g19)) (X := nX) hb ho hnl hR hE mkX11_parseNumbers rfl ckX11 t0 rfl ⟨Nat.le_refl 0, Nat.le_refl 0⟩ rfl (rX11_parseArguments 0 rfl) (rX11_parseArguments 1 rfl) (rX11_parseArguments 2 rfl) rfl (z_dec dX11_parseArguments 16 rfl) (m19 c1 c3 c4) (fun v J19 hp => ?_) (fun _ _ h => h.elim)
        obtain ⟨r19, rfl, e19, w19⟩ := hp
        have e19 := e19.symm
        subst e19
        have w19 := w19.symm
        subst w19
        show ZZ K (0, 0) 27 [(0, .ref 312), (1, .int v1), (2, .int v2)] [.int f19] g19
        exact zz_zret hb hE ⟨Nat.le_refl 0, Nat.le_refl 0⟩ (z21 c1 c3 c4) (z_dec dX11_parseArguments 17 rfl) (h20 c1 c3 c4)
    · exact (k22 c1 c3)
set_option maxRecDepth 20000 in
theorem bX11_parseArguments_10 {K : zK} {P : Option Value → zM → Prop} {X : String → zM → Prop} (hK : zIs K RX11 cX11_parseArguments 3 (some .boolean) 3 (0, 0) P X) (hw : wOK (kw K)) {I : zM} (t0 : isT (kw K) 11 312) {v1 : Int32} {v2 : Int32} {f1 : Int32} {g1 : zM} (m1 : CT (kG K) (kw K) (kl K) (yX11_parseNumbers, cX11_parseNumbers, 4, (some .boolean)) 2 (0, 0) [.ref 312, .int v2, .int (2 : Int32)] I (qE f1 g1) nX) (h2 : P (some (.int f1)) g1) (z3 : f1 = 0 ∨ f1 = 1) : ZZ K (0, 0) 10 [(0, .ref 312), (1, .int v1), (2, .int v2)] [] I := by
  obtain ⟨hb, ho, hnl, hR, hE⟩ := hK
  refine zz_aload_n hb (z_dec dX11_parseArguments 6 rfl) rfl 0 rfl ?_
  refine zz_iload_n hb (z_dec dX11_parseArguments 7 rfl) rfl 2 rfl ?_
  refine zz_iconst (v := (2 : Int32)) hb (z_dec dX11_parseArguments 8 rfl) (by decide) ?_
  refine zz_inv (as := [.int v2, .int (2 : Int32)]) (d := 2) (mc := (0, 0)) (P := (qE f1 g1)) (X := nX) hb ho hnl hR hE mkX11_parseNumbers rfl ckX11 t0 rfl ⟨Nat.le_refl 0, Nat.le_refl 0⟩ rfl (rX11_parseArguments 0 rfl) (rX11_parseArguments 1 rfl) (rX11_parseArguments 2 rfl) rfl (z_dec dX11_parseArguments 9 rfl) m1 (fun v J1 hp => ?_) (fun _ _ h => h.elim)
  obtain ⟨r1, rfl, e1, w1⟩ := hp
  have e1 := e1.symm
  subst e1
  have w1 := w1.symm
  subst w1
  show ZZ K (0, 0) 16 [(0, .ref 312), (1, .int v1), (2, .int v2)] [.int f1] g1
  exact zz_zret hb hE ⟨Nat.le_refl 0, Nat.le_refl 0⟩ z3 (z_dec dX11_parseArguments 10 rfl) h2
set_option maxRecDepth 20000 in
theorem bX11_parseScript_0 {K : zK} {P : Option Value → zM → Prop} {X : String → zM → Prop} {u mc : Nat × Nat} (hK : zIs K RX11 cX11_parseScript 4 (some .int) 6 mc P X) (hw : wOK (kw K)) {I : zM} (t0 : isT (kw K) 11 312) (k1 : ZZ K u 2 [(0, .ref 312), (1, .int (0 : Int32))] [] I) : ZZ K u 0 [(0, .ref 312)] [] I := by
  obtain ⟨hb, ho, hnl, hR, hE⟩ := hK
  refine zz_iconst (v := (0 : Int32)) hb (z_dec dX11_parseScript 0 rfl) (by decide) ?_
  refine zz_istore_n (L' := [(0, .ref 312), (1, .int (0 : Int32))]) hb (z_dec dX11_parseScript 1 rfl) rfl hnl rfl [1, 0] rfl ?_
  exact k1
set_option maxRecDepth 20000 in
theorem bX11_parseScript_2 {K : zK} {P : Option Value → zM → Prop} {X : String → zM → Prop} {u mc : Nat × Nat} (hK : zIs K RX11 cX11_parseScript 4 (some .int) 6 mc P X) (hw : wOK (kw K)) {I : zM} (t0 : isT (kw K) 11 312) {v1 : Int32} (g2 : u.1 ≤ mc.1 ∧ u.2 ≤ mc.2) (h3 : ∀ (c1 : (I 312 11) = 0), P (some (.int v1)) I) {f4 : Int32} {g4 : zM} {mc4 : Nat × Nat} {x4 : String → zM → Prop} (g_4 : u.1 + mc4.1 ≤ mc.1 ∧ u.2 + mc4.2 ≤ mc.2) (n4 : ∀ (c1 : ¬ (I 312 11) = 0), ∀ (E : String) (J : zM), x4 E J → X E J) (m4 : ∀ (c1 : ¬ (I 312 11) = 0), CT (kG K) (kw K) (kl K) (yX11_commandHere, cX11_commandHere, 2, (some .int)) 5 mc4 [.ref 312] I (qE f4 g4) x4) {f6 : Int32} {g6 : zM} (g_6 : (u.1 + mc4.1, u.2 + mc4.2).1 ≤ mc.1 ∧ (u.1 + mc4.1, u.2 + mc4.2).2 ≤ mc.2) (m6 : ∀ (c1 : ¬ (I 312 11) = 0) (c5 : f4 = (-1 : Int32)), CT (kG K) (kw K) (kl K) (yX11_wrong, cX11_wrong, 2, (some .boolean)) 0 (0, 0) [.ref 312, .int (1 : Int32)] g4 (qE f6 g6) nX) (k7 : ∀ (c1 : ¬ (I 312 11) = 0) (c5 : f4 = (-1 : Int32)), ZZ K (u.1 + mc4.1, u.2 + mc4.2) 46 [(0, .ref 312), (1, .int v1), (2, .int f4)] [.int f6] g6) (k9 : ∀ (c1 : ¬ (I 312 11) = 0) (c5 : ¬ f4 = (-1 : Int32)) (c8 : v1 < (30 : Int32)), ZZ K (u.1 + mc4.1, u.2 + mc4.2) 46 [(0, .ref 312), (1, .int v1), (2, .int f4)] [.int (1 : Int32)] g4) {f10 : Int32} {g10 : zM} (g_10 : (u.1 + mc4.1, u.2 + mc4.2).1 ≤ mc.1 ∧ (u.1 + mc4.1, u.2 + mc4.2).2 ≤ mc.2) (m10 : ∀ (c1 : ¬ (I 312 11) = 0) (c5 : ¬ f4 = (-1 : Int32)) (c8 : ¬ v1 < (30 : Int32)), CT (kG K) (kw K) (kl K) (yX11_wrong, cX11_wrong, 2, (some .boolean)) 0 (0, 0) [.ref 312, .int (4 : Int32)] g4 (qE f10 g10) nX) (k12 : ∀ (c1 : ¬ (I 312 11) = 0) (c5 : ¬ f4 = (-1 : Int32)) (c8 : ¬ v1 < (30 : Int32)) (c11 : f10 = 0), ZZ K (u.1 + mc4.1, u.2 + mc4.2) 46 [(0, .ref 312), (1, .int v1), (2, .int f4)] [.int (0 : Int32)] g10) (k13 : ∀ (c1 : ¬ (I 312 11) = 0) (c5 : ¬ f4 = (-1 : Int32)) (c8 : ¬ v1 < (30 : Int32)) (c11 : ¬ f10 = 0), ZZ K (u.1 + mc4.1, u.2 + mc4.2) 46 [(0, .ref 312), (1, .int v1), (2, .int f4)] [.int (1 : Int32)] g10) : ZZ K u 2 [(0, .ref 312), (1, .int v1)] [] I := by
  obtain ⟨hb, ho, hnl, hR, hE⟩ := hK
  refine zz_aload_n hb (z_dec dX11_parseScript 2 rfl) rfl 0 rfl ?_
  refine zz_get (k := 11) hb ho ckX11 t0 rfl rfl (rX11_parseScript 0 rfl) rfl (z_dec dX11_parseScript 3 rfl) ?_
  refine zz_if_eq (tgt := 96) hb (z_dec dX11_parseScript 4 rfl) (by decide) (fun c1 => ?_) (fun c1 => ?_)
  · refine zz_iload_n hb (z_dec dX11_parseScript 55 rfl) rfl 1 rfl ?_
    exact zz_iret hb hE g2 (z_dec dX11_parseScript 56 rfl) (h3 c1)
  · refine zz_aload_n hb (z_dec dX11_parseScript 5 rfl) rfl 0 rfl ?_
    refine zz_inv (as := []) (d := 5) (mc := mc4) (P := (qE f4 g4)) (X := x4) hb ho hnl hR hE mkX11_commandHere rfl ckX11 t0 rfl g_4 rfl (rX11_parseScript 1 rfl) (rX11_parseScript 2 rfl) (rX11_parseScript 3 rfl) rfl (z_dec dX11_parseScript 6 rfl) (m4 c1) (fun v J4 hp => ?_) (n4 c1)
    obtain ⟨r4, rfl, e4, w4⟩ := hp
    have e4 := e4.symm
    subst e4
    have w4 := w4.symm
    subst w4
    show ZZ K (u.1 + mc4.1, u.2 + mc4.2) 13 [(0, .ref 312), (1, .int v1)] [.int f4] g4
    refine zz_istore_n (L' := [(0, .ref 312), (1, .int v1), (2, .int f4)]) hb (z_dec dX11_parseScript 7 rfl) rfl hnl rfl [1, 2, 0] rfl ?_
    refine zz_iload_n hb (z_dec dX11_parseScript 8 rfl) rfl 2 rfl ?_
    refine zz_iconst (v := (-1 : Int32)) hb (z_dec dX11_parseScript 9 rfl) (by decide) ?_
    refine zz_icmp_eq (tgt := 41) hb (z_dec dX11_parseScript 10 rfl) (by decide) (fun c5 => ?_) (fun c5 => ?_)
    · refine zz_aload_n hb (z_dec dX11_parseScript 22 rfl) rfl 0 rfl ?_
      refine zz_iconst (v := (1 : Int32)) hb (z_dec dX11_parseScript 23 rfl) (by decide) ?_
      refine zz_inv (as := [.int (1 : Int32)]) (d := 0) (mc := (0, 0)) (P := (qE f6 g6)) (X := nX) hb ho hnl hR hE mkX11_wrong rfl ckX11 t0 rfl g_6 rfl (rX11_parseScript 4 rfl) (rX11_parseScript 5 rfl) (rX11_parseScript 6 rfl) rfl (z_dec dX11_parseScript 24 rfl) (m6 c1 c5) (fun v J6 hp => ?_) (fun _ _ h => h.elim)
      obtain ⟨r6, rfl, e6, w6⟩ := hp
      have e6 := e6.symm
      subst e6
      have w6 := w6.symm
      subst w6
      show ZZ K (u.1 + mc4.1, u.2 + mc4.2) 46 [(0, .ref 312), (1, .int v1), (2, .int f4)] [.int f6] g6
      exact (k7 c1 c5)
    · refine zz_iload_n hb (z_dec dX11_parseScript 11 rfl) rfl 1 rfl ?_
      refine zz_bipush (v := (30 : Int32)) hb (z_dec dX11_parseScript 12 rfl) (by decide) ?_
      refine zz_icmp_lt (tgt := 33) hb (z_dec dX11_parseScript 13 rfl) (by decide) (fun c8 => ?_) (fun c8 => ?_)
      · refine zz_iconst (v := (1 : Int32)) hb (z_dec dX11_parseScript 18 rfl) (by decide) ?_
        refine zz_goto (tgt := 46) hb (z_dec dX11_parseScript 19 rfl) (by decide) ?_
        exact (k9 c1 c5 c8)
      · refine zz_aload_n hb (z_dec dX11_parseScript 14 rfl) rfl 0 rfl ?_
        refine zz_iconst (v := (4 : Int32)) hb (z_dec dX11_parseScript 15 rfl) (by decide) ?_
        refine zz_inv (as := [.int (4 : Int32)]) (d := 0) (mc := (0, 0)) (P := (qE f10 g10)) (X := nX) hb ho hnl hR hE mkX11_wrong rfl ckX11 t0 rfl g_10 rfl (rX11_parseScript 4 rfl) (rX11_parseScript 5 rfl) (rX11_parseScript 6 rfl) rfl (z_dec dX11_parseScript 16 rfl) (m10 c1 c5 c8) (fun v J10 hp => ?_) (fun _ _ h => h.elim)
        obtain ⟨r10, rfl, e10, w10⟩ := hp
        have e10 := e10.symm
        subst e10
        have w10 := w10.symm
        subst w10
        show ZZ K (u.1 + mc4.1, u.2 + mc4.2) 30 [(0, .ref 312), (1, .int v1), (2, .int f4)] [.int f10] g10
        refine zz_if_eq (tgt := 37) hb (z_dec dX11_parseScript 17 rfl) (by decide) (fun c11 => ?_) (fun c11 => ?_)
        · refine zz_iconst (v := (0 : Int32)) hb (z_dec dX11_parseScript 20 rfl) (by decide) ?_
          refine zz_goto (tgt := 46) hb (z_dec dX11_parseScript 21 rfl) (by decide) ?_
          exact (k12 c1 c5 c8 c11)
        · refine zz_iconst (v := (1 : Int32)) hb (z_dec dX11_parseScript 18 rfl) (by decide) ?_
          refine zz_goto (tgt := 46) hb (z_dec dX11_parseScript 19 rfl) (by decide) ?_
          exact (k13 c1 c5 c8 c11)
set_option maxRecDepth 20000 in
theorem bX11_parseScript_46 {K : zK} {P : Option Value → zM → Prop} {X : String → zM → Prop} {u mc : Nat × Nat} (hK : zIs K RX11 cX11_parseScript 4 (some .int) 6 mc P X) (hw : wOK (kw K)) {I : zM} (t0 : isT (kw K) 11 312) {v1 : Int32} {v2 : Int32} {vs0 : Int32} {g2 : zM} (g_2 : u.1 ≤ mc.1 ∧ u.2 ≤ mc.2) (m2 : ∀ (c1 : ¬ vs0 = 0), CT (kG K) (kw K) (kl K) (yX11_token, cX11_token, 1, none) 1 (0, 0) [.ref 312] I (qV (fun J => J = g2)) nX) (h3 : ∀ (c1 : ¬ vs0 = 0), vp_in (v1 * (6 : Int32)) 180) {f4 : Int32} {g4 : zM} (g_4 : u.1 ≤ mc.1 ∧ u.2 ≤ mc.2) (m4 : ∀ (c1 : ¬ vs0 = 0), CT (kG K) (kw K) (kl K) (yX11_parseArguments, cX11_parseArguments, 3, (some .boolean)) 3 (0, 0) [.ref 312, .int v2, .int ((v1 * (6 : Int32)) + (1 : Int32))] (up g2 317 ((v1 * (6 : Int32)).toNatClampNeg) v2) (qE f4 g4) nX) (g6 : u.1 ≤ mc.1 ∧ u.2 ≤ mc.2) (h7 : ∀ (c1 : ¬ vs0 = 0) (c5 : f4 = 0), P (some (.int (-1 : Int32))) g4) {f8 : Int32} {g8 : zM} (g_8 : u.1 ≤ mc.1 ∧ u.2 ≤ mc.2) (m8 : ∀ (c1 : ¬ vs0 = 0) (c5 : ¬ f4 = 0), CT (kG K) (kw K) (kl K) (yX11_semicolon, cX11_semicolon, 1, (some .boolean)) 2 (0, 0) [.ref 312] g4 (qE f8 g8) nX) (k10 : ∀ (c1 : ¬ vs0 = 0) (c5 : ¬ f4 = 0) (c9 : ¬ f8 = 0), ZZ K u 2 [(0, .ref 312), (1, .int (v1 + 1))] [] g8) (g11 : u.1 ≤ mc.1 ∧ u.2 ≤ mc.2) (h12 : ∀ (c1 : ¬ vs0 = 0) (c5 : ¬ f4 = 0) (c9 : f8 = 0), P (some (.int (-1 : Int32))) g8) (g13 : u.1 ≤ mc.1 ∧ u.2 ≤ mc.2) (h14 : ∀ (c1 : vs0 = 0), P (some (.int (-1 : Int32))) I) : ZZ K u 46 [(0, .ref 312), (1, .int v1), (2, .int v2)] [.int vs0] I := by
  obtain ⟨hb, ho, hnl, hR, hE⟩ := hK
  refine zz_istore_n (L' := [(0, .ref 312), (1, .int v1), (2, .int v2), (3, .int vs0)]) hb (z_dec dX11_parseScript 25 rfl) rfl hnl rfl [1, 2, 3, 0] rfl ?_
  refine zz_iload_n hb (z_dec dX11_parseScript 26 rfl) rfl 3 rfl ?_
  refine zz_if_ne (tgt := 53) hb (z_dec dX11_parseScript 27 rfl) (by decide) (fun c1 => ?_) (fun c1 => ?_)
  · refine zz_aload_n hb (z_dec dX11_parseScript 30 rfl) rfl 0 rfl ?_
    refine zz_inv (as := []) (d := 1) (mc := (0, 0)) (P := (qV (fun J => J = g2))) (X := nX) hb ho hnl hR hE mkX11_token rfl ckX11 t0 rfl g_2 rfl (rX11_parseScript 7 rfl) (rX11_parseScript 8 rfl) (rX11_parseScript 9 rfl) rfl (z_dec dX11_parseScript 31 rfl) (m2 c1) (fun v J2 hp => ?_) (fun _ _ h => h.elim)
    obtain ⟨rfl, w2⟩ := hp
    have w2 := w2.symm
    subst w2
    show ZZ K u 57 [(0, .ref 312), (1, .int v1), (2, .int v2), (3, .int vs0)] [] g2
    refine zz_aload_n hb (z_dec dX11_parseScript 32 rfl) rfl 0 rfl ?_
    refine zz_getr (k := 14) (q := 317) hb ho rfl ckX11 t0 rfl rfl (rX11_parseScript 10 rfl) rfl (z_dec dX11_parseScript 33 rfl) ?_
    refine zz_iload_n hb (z_dec dX11_parseScript 34 rfl) rfl 1 rfl ?_
    refine zz_bipush (v := (6 : Int32)) hb (z_dec dX11_parseScript 35 rfl) (by decide) ?_
    refine zz_imul hb (z_dec dX11_parseScript 36 rfl) ?_
    refine zz_iload_n hb (z_dec dX11_parseScript 37 rfl) rfl 2 rfl ?_
    refine zz_iast (j := (v1 * (6 : Int32)).toNatClampNeg) hb (show isT (kw K) 20 317 from isT.f (k := 14) t0 hw rfl rfl rfl (by decide)) rfl (zvi rfl (h3 c1)) (z_dec dX11_parseScript 38 rfl) ?_
    refine zz_aload_n hb (z_dec dX11_parseScript 39 rfl) rfl 0 rfl ?_
    refine zz_iload_n hb (z_dec dX11_parseScript 40 rfl) rfl 2 rfl ?_
    refine zz_iload_n hb (z_dec dX11_parseScript 41 rfl) rfl 1 rfl ?_
    refine zz_bipush (v := (6 : Int32)) hb (z_dec dX11_parseScript 42 rfl) (by decide) ?_
    refine zz_imul hb (z_dec dX11_parseScript 43 rfl) ?_
    refine zz_iconst (v := (1 : Int32)) hb (z_dec dX11_parseScript 44 rfl) (by decide) ?_
    refine zz_iadd hb (z_dec dX11_parseScript 45 rfl) ?_
    refine zz_inv (as := [.int v2, .int ((v1 * (6 : Int32)) + (1 : Int32))]) (d := 3) (mc := (0, 0)) (P := (qE f4 g4)) (X := nX) hb ho hnl hR hE mkX11_parseArguments rfl ckX11 t0 rfl g_4 rfl (rX11_parseScript 11 rfl) (rX11_parseScript 12 rfl) (rX11_parseScript 13 rfl) rfl (z_dec dX11_parseScript 46 rfl) (m4 c1) (fun v J4 hp => ?_) (fun _ _ h => h.elim)
    obtain ⟨r4, rfl, e4, w4⟩ := hp
    have e4 := e4.symm
    subst e4
    have w4 := w4.symm
    subst w4
    show ZZ K u 78 [(0, .ref 312), (1, .int v1), (2, .int v2), (3, .int vs0)] [.int f4] g4
    refine zz_if_eq (tgt := 88) hb (z_dec dX11_parseScript 47 rfl) (by decide) (fun c5 => ?_) (fun c5 => ?_)
    · refine zz_iconst (v := (-1 : Int32)) hb (z_dec dX11_parseScript 51 rfl) (by decide) ?_
      exact zz_iret hb hE g6 (z_dec dX11_parseScript 52 rfl) (h7 c1 c5)
    · refine zz_aload_n hb (z_dec dX11_parseScript 48 rfl) rfl 0 rfl ?_
      refine zz_inv (as := []) (d := 2) (mc := (0, 0)) (P := (qE f8 g8)) (X := nX) hb ho hnl hR hE mkX11_semicolon rfl ckX11 t0 rfl g_8 rfl (rX11_parseScript 14 rfl) (rX11_parseScript 15 rfl) (rX11_parseScript 16 rfl) rfl (z_dec dX11_parseScript 49 rfl) (m8 c1 c5) (fun v J8 hp => ?_) (fun _ _ h => h.elim)
      obtain ⟨r8, rfl, e8, w8⟩ := hp
      have e8 := e8.symm
      subst e8
      have w8 := w8.symm
      subst w8
      show ZZ K u 85 [(0, .ref 312), (1, .int v1), (2, .int v2), (3, .int vs0)] [.int f8] g8
      refine zz_if_ne (tgt := 90) hb (z_dec dX11_parseScript 50 rfl) (by decide) (fun c9 => ?_) (fun c9 => ?_)
      · refine zz_iinc (v := (v1 + 1)) (L' := [(0, .ref 312), (1, .int (v1 + 1)), (2, .int v2), (3, .int vs0)]) hb (z_dec dX11_parseScript 53 rfl) 1 rfl rfl hnl rfl [1, 0, 2, 3] rfl ?_
        refine zz_goto (tgt := 2) hb (z_dec dX11_parseScript 54 rfl) (by decide) ?_
        refine zz_sub [0, 1] (L' := [(0, .ref 312), (1, .int (v1 + 1))]) rfl ?_
        exact (k10 c1 c5 c9)
      · refine zz_iconst (v := (-1 : Int32)) hb (z_dec dX11_parseScript 51 rfl) (by decide) ?_
        exact zz_iret hb hE g11 (z_dec dX11_parseScript 52 rfl) (h12 c1 c5 c9)
  · refine zz_iconst (v := (-1 : Int32)) hb (z_dec dX11_parseScript 28 rfl) (by decide) ?_
    exact zz_iret hb hE g13 (z_dec dX11_parseScript 29 rfl) (h14 c1)
set_option maxRecDepth 20000 in
theorem bX11_canDo_0 {K : zK} {P : Option Value → zM → Prop} {X : String → zM → Prop} (hK : zIs K RX11 cX11_canDo 4 (some .boolean) 3 (0, 0) P X) (hw : wOK (kw K)) {I : zM} (t0 : isT (kw K) 11 312) {v1 : Int32} (h1 : vp_in (v1 + (1 : Int32)) 180) (h2 : vp_in (v1 + (2 : Int32)) 180) (h3 : vp_in v1 180) {f5 : Int32} {g5 : zM} (m5 : ∀ (c4 : (I 317 v1.toNatClampNeg).toInt < 0 ∨ 4 < (I 317 v1.toNatClampNeg).toInt), CT (kG K) (kw K) (kl K) (yX11_isLetter, cX11_isLetter, 2, (some .boolean)) 1 (0, 0) [.ref 312, .int (I 317 (v1 + (1 : Int32)).toNatClampNeg)] I (qE f5 g5) nX) (h7 : ∀ (c4 : (I 317 v1.toNatClampNeg).toInt < 0 ∨ 4 < (I 317 v1.toNatClampNeg).toInt) (c6 : f5 = 0), P (some (.int (0 : Int32))) g5) {f8 : Int32} {g8 : zM} (m8 : ∀ (c4 : (I 317 v1.toNatClampNeg).toInt < 0 ∨ 4 < (I 317 v1.toNatClampNeg).toInt) (c6 : ¬ f5 = 0), CT (kG K) (kw K) (kl K) (yX11_isOpen, cX11_isOpen, 2, (some .boolean)) 2 (0, 0) [.ref 312, .int (I 317 (v1 + (1 : Int32)).toNatClampNeg)] g5 (qE f8 g8) nX) (h10 : ∀ (c4 : (I 317 v1.toNatClampNeg).toInt < 0 ∨ 4 < (I 317 v1.toNatClampNeg).toInt) (c6 : ¬ f5 = 0) (c9 : f8 = 0), P (some (.int (0 : Int32))) g8) (h11 : ∀ (c4 : (I 317 v1.toNatClampNeg).toInt < 0 ∨ 4 < (I 317 v1.toNatClampNeg).toInt) (c6 : ¬ f5 = 0) (c9 : ¬ f8 = 0), P (some (.int (1 : Int32))) g8) (h12 : ∀ (c4 : (I 317 v1.toNatClampNeg).toInt = 0), vp_in (v1 + (3 : Int32)) 180) (h13 : ∀ (c4 : (I 317 v1.toNatClampNeg).toInt = 0), vp_in (v1 + (4 : Int32)) 180) (h14 : ∀ (c4 : (I 317 v1.toNatClampNeg).toInt = 0), vp_in (v1 + (5 : Int32)) 180) {f15 : Int32} {g15 : zM} (m15 : ∀ (c4 : (I 317 v1.toNatClampNeg).toInt = 0), CT (kG K) (kw K) (kl K) (yX11_isLetterData, cX11_isLetterData, 4, (some .boolean)) 1 (0, 0) [.int (I 317 (v1 + (2 : Int32)).toNatClampNeg), .int (I 317 (v1 + (3 : Int32)).toNatClampNeg), .int (I 317 (v1 + (4 : Int32)).toNatClampNeg), .int (I 317 (v1 + (5 : Int32)).toNatClampNeg)] I (qE f15 g15) nX) (h17 : ∀ (c4 : (I 317 v1.toNatClampNeg).toInt = 0) (c16 : f15 = 0), P (some (.int (0 : Int32))) g15) (h18 : ∀ (c4 : (I 317 v1.toNatClampNeg).toInt = 0) (c16 : ¬ f15 = 0), vp_in (v1 + (3 : Int32)) 180) {f19 : Int32} {g19 : zM} (m19 : ∀ (c4 : (I 317 v1.toNatClampNeg).toInt = 0) (c16 : ¬ f15 = 0), CT (kG K) (kw K) (kl K) (yX11_canAdd, cX11_canAdd, 2, (some .boolean)) 0 (0, 0) [.ref 312, .int (g15 317 (v1 + (3 : Int32)).toNatClampNeg)] g15 (qE f19 g19) nX) (h21 : ∀ (c4 : (I 317 v1.toNatClampNeg).toInt = 0) (c16 : ¬ f15 = 0) (c20 : f19 = 0), P (some (.int (0 : Int32))) g19) (h22 : ∀ (c4 : (I 317 v1.toNatClampNeg).toInt = 0) (c16 : ¬ f15 = 0) (c20 : ¬ f19 = 0), P (some (.int (1 : Int32))) g19) {f23 : Int32} {g23 : zM} (m23 : ∀ (c4 : (I 317 v1.toNatClampNeg).toInt = 1), CT (kG K) (kw K) (kl K) (yX11_in, cX11_in, 3, (some .boolean)) 0 (0, 0) [.int (I 317 (v1 + (1 : Int32)).toNatClampNeg), .int (1 : Int32), .int (300 : Int32)] I (qE f23 g23) nX) (h25 : ∀ (c4 : (I 317 v1.toNatClampNeg).toInt = 1) (c24 : f23 = 0), P (some (.int (0 : Int32))) g23) (h27 : ∀ (c4 : (I 317 v1.toNatClampNeg).toInt = 1) (c24 : ¬ f23 = 0) (c26 : (2000 : Int32) < ((g23 313 9) + (I 317 (v1 + (1 : Int32)).toNatClampNeg))), P (some (.int (0 : Int32))) g23) (h28 : ∀ (c4 : (I 317 v1.toNatClampNeg).toInt = 1) (c24 : ¬ f23 = 0) (c26 : ¬ (2000 : Int32) < ((g23 313 9) + (I 317 (v1 + (1 : Int32)).toNatClampNeg))), P (some (.int (1 : Int32))) g23) (h30 : ∀ (c4 : (I 317 v1.toNatClampNeg).toInt = 2) (c29 : (4 : Int32) < (I 317 (v1 + (1 : Int32)).toNatClampNeg)), P (some (.int (0 : Int32))) I) (h31 : ∀ (c4 : (I 317 v1.toNatClampNeg).toInt = 2) (c29 : ¬ (4 : Int32) < (I 317 (v1 + (1 : Int32)).toNatClampNeg)), P (some (.int (1 : Int32))) I) {f32 : Int32} {g32 : zM} (m32 : ∀ (c4 : (I 317 v1.toNatClampNeg).toInt = 3), CT (kG K) (kw K) (kl K) (yX11_isLetter, cX11_isLetter, 2, (some .boolean)) 1 (0, 0) [.ref 312, .int (I 317 (v1 + (1 : Int32)).toNatClampNeg)] I (qE f32 g32) nX) (h34 : ∀ (c4 : (I 317 v1.toNatClampNeg).toInt = 3) (c33 : f32 = 0), P (some (.int (0 : Int32))) g32) {f35 : Int32} {g35 : zM} (m35 : ∀ (c4 : (I 317 v1.toNatClampNeg).toInt = 3) (c33 : ¬ f32 = 0), CT (kG K) (kw K) (kl K) (yX11_in, cX11_in, 3, (some .boolean)) 0 (0, 0) [.int (I 317 (v1 + (2 : Int32)).toNatClampNeg), .int (1 : Int32), .int (999 : Int32)] g32 (qE f35 g35) nX) (h37 : ∀ (c4 : (I 317 v1.toNatClampNeg).toInt = 3) (c33 : ¬ f32 = 0) (c36 : f35 = 0), P (some (.int (0 : Int32))) g35) (h38 : ∀ (c4 : (I 317 v1.toNatClampNeg).toInt = 3) (c33 : ¬ f32 = 0) (c36 : ¬ f35 = 0), P (some (.int (1 : Int32))) g35) {f39 : Int32} {g39 : zM} (m39 : ∀ (c4 : (I 317 v1.toNatClampNeg).toInt = 4), CT (kG K) (kw K) (kl K) (yX11_isLetter, cX11_isLetter, 2, (some .boolean)) 1 (0, 0) [.ref 312, .int (I 317 (v1 + (1 : Int32)).toNatClampNeg)] I (qE f39 g39) nX) (h41 : ∀ (c4 : (I 317 v1.toNatClampNeg).toInt = 4) (c40 : f39 = 0), P (some (.int (0 : Int32))) g39) (h43 : ∀ (c4 : (I 317 v1.toNatClampNeg).toInt = 4) (c40 : ¬ f39 = 0) (c42 : (9 : Int32) < (I 317 (v1 + (2 : Int32)).toNatClampNeg)), P (some (.int (0 : Int32))) g39) (h44 : ∀ (c4 : (I 317 v1.toNatClampNeg).toInt = 4) (c40 : ¬ f39 = 0) (c42 : ¬ (9 : Int32) < (I 317 (v1 + (2 : Int32)).toNatClampNeg)), P (some (.int (1 : Int32))) g39) : ZZ K (0, 0) 0 [(0, .ref 312), (1, .int v1)] [] I := by
  obtain ⟨hb, ho, hnl, hR, hE⟩ := hK
  refine zz_aload_n hb (z_dec dX11_canDo 0 rfl) rfl 0 rfl ?_
  refine zz_getr (k := 14) (q := 317) hb ho rfl ckX11 t0 rfl rfl (rX11_canDo 0 rfl) rfl (z_dec dX11_canDo 1 rfl) ?_
  refine zz_iload_n hb (z_dec dX11_canDo 2 rfl) rfl 1 rfl ?_
  refine zz_iconst (v := (1 : Int32)) hb (z_dec dX11_canDo 3 rfl) (by decide) ?_
  refine zz_iadd hb (z_dec dX11_canDo 4 rfl) ?_
  refine zz_iald (j := (v1 + (1 : Int32)).toNatClampNeg) hb (show isT (kw K) 20 317 from isT.f (k := 14) t0 hw rfl rfl rfl (by decide)) rfl (zvi rfl h1) (z_dec dX11_canDo 5 rfl) ?_
  refine zz_istore_n (L' := [(0, .ref 312), (1, .int v1), (2, .int (I 317 (v1 + (1 : Int32)).toNatClampNeg))]) hb (z_dec dX11_canDo 6 rfl) rfl hnl rfl [1, 2, 0] rfl ?_
  refine zz_aload_n hb (z_dec dX11_canDo 7 rfl) rfl 0 rfl ?_
  refine zz_getr (k := 14) (q := 317) hb ho rfl ckX11 t0 rfl rfl (rX11_canDo 0 rfl) rfl (z_dec dX11_canDo 8 rfl) ?_
  refine zz_iload_n hb (z_dec dX11_canDo 9 rfl) rfl 1 rfl ?_
  refine zz_iconst (v := (2 : Int32)) hb (z_dec dX11_canDo 10 rfl) (by decide) ?_
  refine zz_iadd hb (z_dec dX11_canDo 11 rfl) ?_
  refine zz_iald (j := (v1 + (2 : Int32)).toNatClampNeg) hb (show isT (kw K) 20 317 from isT.f (k := 14) t0 hw rfl rfl rfl (by decide)) rfl (zvi rfl h2) (z_dec dX11_canDo 12 rfl) ?_
  refine zz_istore_n (L' := [(0, .ref 312), (1, .int v1), (2, .int (I 317 (v1 + (1 : Int32)).toNatClampNeg)), (3, .int (I 317 (v1 + (2 : Int32)).toNatClampNeg))]) hb (z_dec dX11_canDo 13 rfl) rfl hnl rfl [1, 2, 3, 0] rfl ?_
  refine zz_aload_n hb (z_dec dX11_canDo 14 rfl) rfl 0 rfl ?_
  refine zz_getr (k := 14) (q := 317) hb ho rfl ckX11 t0 rfl rfl (rX11_canDo 0 rfl) rfl (z_dec dX11_canDo 15 rfl) ?_
  refine zz_iload_n hb (z_dec dX11_canDo 16 rfl) rfl 1 rfl ?_
  refine zz_iald (j := v1.toNatClampNeg) hb (show isT (kw K) 20 317 from isT.f (k := 14) t0 hw rfl rfl rfl (by decide)) rfl (zvi rfl h3) (z_dec dX11_canDo 17 rfl) ?_
  refine zz_tsw (td := 200) (tg := [60, 112, 144, 155, 180]) hb (z_dec dX11_canDo 18 rfl) (by decide) rfl (by decide) (fun c4 => ?_) (fun i t hi c4 => ?_)
  · refine zz_aload_n hb (z_dec dX11_canDo 101 rfl) rfl 0 rfl ?_
    refine zz_iload_n hb (z_dec dX11_canDo 102 rfl) rfl 2 rfl ?_
    refine zz_inv (as := [.int (I 317 (v1 + (1 : Int32)).toNatClampNeg)]) (d := 1) (mc := (0, 0)) (P := (qE f5 g5)) (X := nX) hb ho hnl hR hE mkX11_isLetter rfl ckX11 t0 rfl ⟨Nat.le_refl 0, Nat.le_refl 0⟩ rfl (rX11_canDo 9 rfl) (rX11_canDo 10 rfl) (rX11_canDo 11 rfl) rfl (z_dec dX11_canDo 103 rfl) (m5 c4) (fun v J5 hp => ?_) (fun _ _ h => h.elim)
    obtain ⟨r5, rfl, e5, w5⟩ := hp
    have e5 := e5.symm
    subst e5
    have w5 := w5.symm
    subst w5
    show ZZ K (0, 0) 205 [(0, .ref 312), (1, .int v1), (2, .int (I 317 (v1 + (1 : Int32)).toNatClampNeg)), (3, .int (I 317 (v1 + (2 : Int32)).toNatClampNeg))] [.int f5] g5
    refine zz_if_eq (tgt := 220) hb (z_dec dX11_canDo 104 rfl) (by decide) (fun c6 => ?_) (fun c6 => ?_)
    · refine zz_iconst (v := (0 : Int32)) hb (z_dec dX11_canDo 111 rfl) (by decide) ?_
      exact zz_zret hb hE ⟨Nat.le_refl 0, Nat.le_refl 0⟩ (by decide) (z_dec dX11_canDo 112 rfl) (h7 c4 c6)
    · refine zz_aload_n hb (z_dec dX11_canDo 105 rfl) rfl 0 rfl ?_
      refine zz_iload_n hb (z_dec dX11_canDo 106 rfl) rfl 2 rfl ?_
      refine zz_inv (as := [.int (I 317 (v1 + (1 : Int32)).toNatClampNeg)]) (d := 2) (mc := (0, 0)) (P := (qE f8 g8)) (X := nX) hb ho hnl hR hE mkX11_isOpen rfl ckX11 t0 rfl ⟨Nat.le_refl 0, Nat.le_refl 0⟩ rfl (rX11_canDo 12 rfl) (rX11_canDo 13 rfl) (rX11_canDo 14 rfl) rfl (z_dec dX11_canDo 107 rfl) (m8 c4 c6) (fun v J8 hp => ?_) (fun _ _ h => h.elim)
      obtain ⟨r8, rfl, e8, w8⟩ := hp
      have e8 := e8.symm
      subst e8
      have w8 := w8.symm
      subst w8
      show ZZ K (0, 0) 213 [(0, .ref 312), (1, .int v1), (2, .int (I 317 (v1 + (1 : Int32)).toNatClampNeg)), (3, .int (I 317 (v1 + (2 : Int32)).toNatClampNeg))] [.int f8] g8
      refine zz_if_eq (tgt := 220) hb (z_dec dX11_canDo 108 rfl) (by decide) (fun c9 => ?_) (fun c9 => ?_)
      · refine zz_iconst (v := (0 : Int32)) hb (z_dec dX11_canDo 111 rfl) (by decide) ?_
        exact zz_zret hb hE ⟨Nat.le_refl 0, Nat.le_refl 0⟩ (by decide) (z_dec dX11_canDo 112 rfl) (h10 c4 c6 c9)
      · refine zz_iconst (v := (1 : Int32)) hb (z_dec dX11_canDo 109 rfl) (by decide) ?_
        refine zz_goto (tgt := 221) hb (z_dec dX11_canDo 110 rfl) (by decide) ?_
        exact zz_zret hb hE ⟨Nat.le_refl 0, Nat.le_refl 0⟩ (by decide) (z_dec dX11_canDo 112 rfl) (h11 c4 c6 c9)
  · obtain _ | i := i
    · obtain rfl := Option.some.inj hi
      refine zz_iload_n hb (z_dec dX11_canDo 19 rfl) rfl 3 rfl ?_
      refine zz_aload_n hb (z_dec dX11_canDo 20 rfl) rfl 0 rfl ?_
      refine zz_getr (k := 14) (q := 317) hb ho rfl ckX11 t0 rfl rfl (rX11_canDo 0 rfl) rfl (z_dec dX11_canDo 21 rfl) ?_
      refine zz_iload_n hb (z_dec dX11_canDo 22 rfl) rfl 1 rfl ?_
      refine zz_iconst (v := (3 : Int32)) hb (z_dec dX11_canDo 23 rfl) (by decide) ?_
      refine zz_iadd hb (z_dec dX11_canDo 24 rfl) ?_
      refine zz_iald (j := (v1 + (3 : Int32)).toNatClampNeg) hb (show isT (kw K) 20 317 from isT.f (k := 14) t0 hw rfl rfl rfl (by decide)) rfl (zvi rfl (h12 c4)) (z_dec dX11_canDo 25 rfl) ?_
      refine zz_aload_n hb (z_dec dX11_canDo 26 rfl) rfl 0 rfl ?_
      refine zz_getr (k := 14) (q := 317) hb ho rfl ckX11 t0 rfl rfl (rX11_canDo 0 rfl) rfl (z_dec dX11_canDo 27 rfl) ?_
      refine zz_iload_n hb (z_dec dX11_canDo 28 rfl) rfl 1 rfl ?_
      refine zz_iconst (v := (4 : Int32)) hb (z_dec dX11_canDo 29 rfl) (by decide) ?_
      refine zz_iadd hb (z_dec dX11_canDo 30 rfl) ?_
      refine zz_iald (j := (v1 + (4 : Int32)).toNatClampNeg) hb (show isT (kw K) 20 317 from isT.f (k := 14) t0 hw rfl rfl rfl (by decide)) rfl (zvi rfl (h13 c4)) (z_dec dX11_canDo 31 rfl) ?_
      refine zz_aload_n hb (z_dec dX11_canDo 32 rfl) rfl 0 rfl ?_
      refine zz_getr (k := 14) (q := 317) hb ho rfl ckX11 t0 rfl rfl (rX11_canDo 0 rfl) rfl (z_dec dX11_canDo 33 rfl) ?_
      refine zz_iload_n hb (z_dec dX11_canDo 34 rfl) rfl 1 rfl ?_
      refine zz_iconst (v := (5 : Int32)) hb (z_dec dX11_canDo 35 rfl) (by decide) ?_
      refine zz_iadd hb (z_dec dX11_canDo 36 rfl) ?_
      refine zz_iald (j := (v1 + (5 : Int32)).toNatClampNeg) hb (show isT (kw K) 20 317 from isT.f (k := 14) t0 hw rfl rfl rfl (by decide)) rfl (zvi rfl (h14 c4)) (z_dec dX11_canDo 37 rfl) ?_
      refine zz_invS (as := [.int (I 317 (v1 + (2 : Int32)).toNatClampNeg), .int (I 317 (v1 + (3 : Int32)).toNatClampNeg), .int (I 317 (v1 + (4 : Int32)).toNatClampNeg), .int (I 317 (v1 + (5 : Int32)).toNatClampNeg)]) (d := 1) (mc := (0, 0)) (P := (qE f15 g15)) (X := nX) hb ho hnl hR hE mkX11_isLetterData rfl rfl ⟨Nat.le_refl 0, Nat.le_refl 0⟩ rfl (rX11_canDo 1 rfl) (rX11_canDo 2 rfl) rfl (z_dec dX11_canDo 38 rfl) (m15 c4) (fun v J15 hp => ?_) (fun _ _ h => h.elim)
      obtain ⟨r15, rfl, e15, w15⟩ := hp
      have e15 := e15.symm
      subst e15
      have w15 := w15.symm
      subst w15
      show ZZ K (0, 0) 88 [(0, .ref 312), (1, .int v1), (2, .int (I 317 (v1 + (1 : Int32)).toNatClampNeg)), (3, .int (I 317 (v1 + (2 : Int32)).toNatClampNeg))] [.int f15] g15
      refine zz_if_eq (tgt := 110) hb (z_dec dX11_canDo 39 rfl) (by decide) (fun c16 => ?_) (fun c16 => ?_)
      · refine zz_iconst (v := (0 : Int32)) hb (z_dec dX11_canDo 51 rfl) (by decide) ?_
        exact zz_zret hb hE ⟨Nat.le_refl 0, Nat.le_refl 0⟩ (by decide) (z_dec dX11_canDo 52 rfl) (h17 c4 c16)
      · refine zz_aload_n hb (z_dec dX11_canDo 40 rfl) rfl 0 rfl ?_
        refine zz_aload_n hb (z_dec dX11_canDo 41 rfl) rfl 0 rfl ?_
        refine zz_getr (k := 14) (q := 317) hb ho rfl ckX11 t0 rfl rfl (rX11_canDo 0 rfl) rfl (z_dec dX11_canDo 42 rfl) ?_
        refine zz_iload_n hb (z_dec dX11_canDo 43 rfl) rfl 1 rfl ?_
        refine zz_iconst (v := (3 : Int32)) hb (z_dec dX11_canDo 44 rfl) (by decide) ?_
        refine zz_iadd hb (z_dec dX11_canDo 45 rfl) ?_
        refine zz_iald (j := (v1 + (3 : Int32)).toNatClampNeg) hb (show isT (kw K) 20 317 from isT.f (k := 14) t0 hw rfl rfl rfl (by decide)) rfl (zvi rfl (h18 c4 c16)) (z_dec dX11_canDo 46 rfl) ?_
        refine zz_inv (as := [.int (g15 317 (v1 + (3 : Int32)).toNatClampNeg)]) (d := 0) (mc := (0, 0)) (P := (qE f19 g19)) (X := nX) hb ho hnl hR hE mkX11_canAdd rfl ckX11 t0 rfl ⟨Nat.le_refl 0, Nat.le_refl 0⟩ rfl (rX11_canDo 3 rfl) (rX11_canDo 4 rfl) (rX11_canDo 5 rfl) rfl (z_dec dX11_canDo 47 rfl) (m19 c4 c16) (fun v J19 hp => ?_) (fun _ _ h => h.elim)
        obtain ⟨r19, rfl, e19, w19⟩ := hp
        have e19 := e19.symm
        subst e19
        have w19 := w19.symm
        subst w19
        show ZZ K (0, 0) 103 [(0, .ref 312), (1, .int v1), (2, .int (I 317 (v1 + (1 : Int32)).toNatClampNeg)), (3, .int (I 317 (v1 + (2 : Int32)).toNatClampNeg))] [.int f19] g19
        refine zz_if_eq (tgt := 110) hb (z_dec dX11_canDo 48 rfl) (by decide) (fun c20 => ?_) (fun c20 => ?_)
        · refine zz_iconst (v := (0 : Int32)) hb (z_dec dX11_canDo 51 rfl) (by decide) ?_
          exact zz_zret hb hE ⟨Nat.le_refl 0, Nat.le_refl 0⟩ (by decide) (z_dec dX11_canDo 52 rfl) (h21 c4 c16 c20)
        · refine zz_iconst (v := (1 : Int32)) hb (z_dec dX11_canDo 49 rfl) (by decide) ?_
          refine zz_goto (tgt := 111) hb (z_dec dX11_canDo 50 rfl) (by decide) ?_
          exact zz_zret hb hE ⟨Nat.le_refl 0, Nat.le_refl 0⟩ (by decide) (z_dec dX11_canDo 52 rfl) (h22 c4 c16 c20)
    obtain _ | i := i
    · obtain rfl := Option.some.inj hi
      refine zz_iload_n hb (z_dec dX11_canDo 53 rfl) rfl 2 rfl ?_
      refine zz_iconst (v := (1 : Int32)) hb (z_dec dX11_canDo 54 rfl) (by decide) ?_
      refine zz_sipush (v := (300 : Int32)) hb (z_dec dX11_canDo 55 rfl) (by decide) ?_
      refine zz_invS (as := [.int (I 317 (v1 + (1 : Int32)).toNatClampNeg), .int (1 : Int32), .int (300 : Int32)]) (d := 0) (mc := (0, 0)) (P := (qE f23 g23)) (X := nX) hb ho hnl hR hE mkX11_in rfl rfl ⟨Nat.le_refl 0, Nat.le_refl 0⟩ rfl (rX11_canDo 6 rfl) (rX11_canDo 7 rfl) rfl (z_dec dX11_canDo 56 rfl) (m23 c4) (fun v J23 hp => ?_) (fun _ _ h => h.elim)
      obtain ⟨r23, rfl, e23, w23⟩ := hp
      have e23 := e23.symm
      subst e23
      have w23 := w23.symm
      subst w23
      show ZZ K (0, 0) 120 [(0, .ref 312), (1, .int v1), (2, .int (I 317 (v1 + (1 : Int32)).toNatClampNeg)), (3, .int (I 317 (v1 + (2 : Int32)).toNatClampNeg))] [.int f23] g23
      refine zz_if_eq (tgt := 142) hb (z_dec dX11_canDo 57 rfl) (by decide) (fun c24 => ?_) (fun c24 => ?_)
      · refine zz_iconst (v := (0 : Int32)) hb (z_dec dX11_canDo 68 rfl) (by decide) ?_
        exact zz_zret hb hE ⟨Nat.le_refl 0, Nat.le_refl 0⟩ (by decide) (z_dec dX11_canDo 69 rfl) (h25 c4 c24)
      · refine zz_aload_n hb (z_dec dX11_canDo 58 rfl) rfl 0 rfl ?_
        refine zz_getr (k := 0) (q := 313) hb ho rfl ckX11 t0 rfl rfl (rX11_canDo 8 rfl) rfl (z_dec dX11_canDo 59 rfl) ?_
        refine zz_bipush (v := (9 : Int32)) hb (z_dec dX11_canDo 60 rfl) (by decide) ?_
        refine zz_iald (j := 9) hb (show isT (kw K) 20 313 from isT.f (k := 0) t0 hw rfl rfl rfl (by decide)) rfl (zvi rfl (zin rfl)) (z_dec dX11_canDo 61 rfl) ?_
        refine zz_iload_n hb (z_dec dX11_canDo 62 rfl) rfl 2 rfl ?_
        refine zz_iadd hb (z_dec dX11_canDo 63 rfl) ?_
        refine zz_sipush (v := (2000 : Int32)) hb (z_dec dX11_canDo 64 rfl) (by decide) ?_
        refine zz_icmp_gt (tgt := 142) hb (z_dec dX11_canDo 65 rfl) (by decide) (fun c26 => ?_) (fun c26 => ?_)
        · refine zz_iconst (v := (0 : Int32)) hb (z_dec dX11_canDo 68 rfl) (by decide) ?_
          exact zz_zret hb hE ⟨Nat.le_refl 0, Nat.le_refl 0⟩ (by decide) (z_dec dX11_canDo 69 rfl) (h27 c4 c24 c26)
        · refine zz_iconst (v := (1 : Int32)) hb (z_dec dX11_canDo 66 rfl) (by decide) ?_
          refine zz_goto (tgt := 143) hb (z_dec dX11_canDo 67 rfl) (by decide) ?_
          exact zz_zret hb hE ⟨Nat.le_refl 0, Nat.le_refl 0⟩ (by decide) (z_dec dX11_canDo 69 rfl) (h28 c4 c24 c26)
    obtain _ | i := i
    · obtain rfl := Option.some.inj hi
      refine zz_iload_n hb (z_dec dX11_canDo 70 rfl) rfl 2 rfl ?_
      refine zz_iconst (v := (4 : Int32)) hb (z_dec dX11_canDo 71 rfl) (by decide) ?_
      refine zz_icmp_gt (tgt := 153) hb (z_dec dX11_canDo 72 rfl) (by decide) (fun c29 => ?_) (fun c29 => ?_)
      · refine zz_iconst (v := (0 : Int32)) hb (z_dec dX11_canDo 75 rfl) (by decide) ?_
        exact zz_zret hb hE ⟨Nat.le_refl 0, Nat.le_refl 0⟩ (by decide) (z_dec dX11_canDo 76 rfl) (h30 c4 c29)
      · refine zz_iconst (v := (1 : Int32)) hb (z_dec dX11_canDo 73 rfl) (by decide) ?_
        refine zz_goto (tgt := 154) hb (z_dec dX11_canDo 74 rfl) (by decide) ?_
        exact zz_zret hb hE ⟨Nat.le_refl 0, Nat.le_refl 0⟩ (by decide) (z_dec dX11_canDo 76 rfl) (h31 c4 c29)
    obtain _ | i := i
    · obtain rfl := Option.some.inj hi
      refine zz_aload_n hb (z_dec dX11_canDo 77 rfl) rfl 0 rfl ?_
      refine zz_iload_n hb (z_dec dX11_canDo 78 rfl) rfl 2 rfl ?_
      refine zz_inv (as := [.int (I 317 (v1 + (1 : Int32)).toNatClampNeg)]) (d := 1) (mc := (0, 0)) (P := (qE f32 g32)) (X := nX) hb ho hnl hR hE mkX11_isLetter rfl ckX11 t0 rfl ⟨Nat.le_refl 0, Nat.le_refl 0⟩ rfl (rX11_canDo 9 rfl) (rX11_canDo 10 rfl) (rX11_canDo 11 rfl) rfl (z_dec dX11_canDo 79 rfl) (m32 c4) (fun v J32 hp => ?_) (fun _ _ h => h.elim)
      obtain ⟨r32, rfl, e32, w32⟩ := hp
      have e32 := e32.symm
      subst e32
      have w32 := w32.symm
      subst w32
      show ZZ K (0, 0) 160 [(0, .ref 312), (1, .int v1), (2, .int (I 317 (v1 + (1 : Int32)).toNatClampNeg)), (3, .int (I 317 (v1 + (2 : Int32)).toNatClampNeg))] [.int f32] g32
      refine zz_if_eq (tgt := 178) hb (z_dec dX11_canDo 80 rfl) (by decide) (fun c33 => ?_) (fun c33 => ?_)
      · refine zz_iconst (v := (0 : Int32)) hb (z_dec dX11_canDo 88 rfl) (by decide) ?_
        exact zz_zret hb hE ⟨Nat.le_refl 0, Nat.le_refl 0⟩ (by decide) (z_dec dX11_canDo 89 rfl) (h34 c4 c33)
      · refine zz_iload_n hb (z_dec dX11_canDo 81 rfl) rfl 3 rfl ?_
        refine zz_iconst (v := (1 : Int32)) hb (z_dec dX11_canDo 82 rfl) (by decide) ?_
        refine zz_sipush (v := (999 : Int32)) hb (z_dec dX11_canDo 83 rfl) (by decide) ?_
        refine zz_invS (as := [.int (I 317 (v1 + (2 : Int32)).toNatClampNeg), .int (1 : Int32), .int (999 : Int32)]) (d := 0) (mc := (0, 0)) (P := (qE f35 g35)) (X := nX) hb ho hnl hR hE mkX11_in rfl rfl ⟨Nat.le_refl 0, Nat.le_refl 0⟩ rfl (rX11_canDo 6 rfl) (rX11_canDo 7 rfl) rfl (z_dec dX11_canDo 84 rfl) (m35 c4 c33) (fun v J35 hp => ?_) (fun _ _ h => h.elim)
        obtain ⟨r35, rfl, e35, w35⟩ := hp
        have e35 := e35.symm
        subst e35
        have w35 := w35.symm
        subst w35
        show ZZ K (0, 0) 171 [(0, .ref 312), (1, .int v1), (2, .int (I 317 (v1 + (1 : Int32)).toNatClampNeg)), (3, .int (I 317 (v1 + (2 : Int32)).toNatClampNeg))] [.int f35] g35
        refine zz_if_eq (tgt := 178) hb (z_dec dX11_canDo 85 rfl) (by decide) (fun c36 => ?_) (fun c36 => ?_)
        · refine zz_iconst (v := (0 : Int32)) hb (z_dec dX11_canDo 88 rfl) (by decide) ?_
          exact zz_zret hb hE ⟨Nat.le_refl 0, Nat.le_refl 0⟩ (by decide) (z_dec dX11_canDo 89 rfl) (h37 c4 c33 c36)
        · refine zz_iconst (v := (1 : Int32)) hb (z_dec dX11_canDo 86 rfl) (by decide) ?_
          refine zz_goto (tgt := 179) hb (z_dec dX11_canDo 87 rfl) (by decide) ?_
          exact zz_zret hb hE ⟨Nat.le_refl 0, Nat.le_refl 0⟩ (by decide) (z_dec dX11_canDo 89 rfl) (h38 c4 c33 c36)
    obtain _ | i := i
    · obtain rfl := Option.some.inj hi
      refine zz_aload_n hb (z_dec dX11_canDo 90 rfl) rfl 0 rfl ?_
      refine zz_iload_n hb (z_dec dX11_canDo 91 rfl) rfl 2 rfl ?_
      refine zz_inv (as := [.int (I 317 (v1 + (1 : Int32)).toNatClampNeg)]) (d := 1) (mc := (0, 0)) (P := (qE f39 g39)) (X := nX) hb ho hnl hR hE mkX11_isLetter rfl ckX11 t0 rfl ⟨Nat.le_refl 0, Nat.le_refl 0⟩ rfl (rX11_canDo 9 rfl) (rX11_canDo 10 rfl) (rX11_canDo 11 rfl) rfl (z_dec dX11_canDo 92 rfl) (m39 c4) (fun v J39 hp => ?_) (fun _ _ h => h.elim)
      obtain ⟨r39, rfl, e39, w39⟩ := hp
      have e39 := e39.symm
      subst e39
      have w39 := w39.symm
      subst w39
      show ZZ K (0, 0) 185 [(0, .ref 312), (1, .int v1), (2, .int (I 317 (v1 + (1 : Int32)).toNatClampNeg)), (3, .int (I 317 (v1 + (2 : Int32)).toNatClampNeg))] [.int f39] g39
      refine zz_if_eq (tgt := 198) hb (z_dec dX11_canDo 93 rfl) (by decide) (fun c40 => ?_) (fun c40 => ?_)
      · refine zz_iconst (v := (0 : Int32)) hb (z_dec dX11_canDo 99 rfl) (by decide) ?_
        exact zz_zret hb hE ⟨Nat.le_refl 0, Nat.le_refl 0⟩ (by decide) (z_dec dX11_canDo 100 rfl) (h41 c4 c40)
      · refine zz_iload_n hb (z_dec dX11_canDo 94 rfl) rfl 3 rfl ?_
        refine zz_bipush (v := (9 : Int32)) hb (z_dec dX11_canDo 95 rfl) (by decide) ?_
        refine zz_icmp_gt (tgt := 198) hb (z_dec dX11_canDo 96 rfl) (by decide) (fun c42 => ?_) (fun c42 => ?_)
        · refine zz_iconst (v := (0 : Int32)) hb (z_dec dX11_canDo 99 rfl) (by decide) ?_
          exact zz_zret hb hE ⟨Nat.le_refl 0, Nat.le_refl 0⟩ (by decide) (z_dec dX11_canDo 100 rfl) (h43 c4 c40 c42)
        · refine zz_iconst (v := (1 : Int32)) hb (z_dec dX11_canDo 97 rfl) (by decide) ?_
          refine zz_goto (tgt := 199) hb (z_dec dX11_canDo 98 rfl) (by decide) ?_
          exact zz_zret hb hE ⟨Nat.le_refl 0, Nat.le_refl 0⟩ (by decide) (z_dec dX11_canDo 100 rfl) (h44 c4 c40 c42)
    cases hi
set_option maxRecDepth 20000 in
theorem bX11_doIt_0 {K : zK} {P : Option Value → zM → Prop} {X : String → zM → Prop} (hK : zIs K RX11 cX11_doIt 4 none 9 (0, 0) P X) (hw : wOK (kw K)) {I : zM} (t0 : isT (kw K) 11 312) {v1 : Int32} (h1 : vp_in (v1 + (1 : Int32)) 180) (h2 : vp_in (v1 + (2 : Int32)) 180) (h3 : vp_in v1 180) {f5 : Int32} {g5 : zM} (m5 : ∀ (c4 : (I 317 v1.toNatClampNeg).toInt < 0 ∨ 4 < (I 317 v1.toNatClampNeg).toInt), CT (kG K) (kw K) (kl K) (yX11_throwAway, cX11_throwAway, 3, (some .int)) 1 (0, 0) [.ref 312, .int (I 317 (v1 + (1 : Int32)).toNatClampNeg)] I (qE f5 g5) nX) (h6 : ∀ (c4 : (I 317 v1.toNatClampNeg).toInt < 0 ∨ 4 < (I 317 v1.toNatClampNeg).toInt), P none g5) (h7 : ∀ (c4 : (I 317 v1.toNatClampNeg).toInt = 0), vp_in (v1 + (3 : Int32)) 180) (h8 : ∀ (c4 : (I 317 v1.toNatClampNeg).toInt = 0), vp_in (v1 + (4 : Int32)) 180) (h9 : ∀ (c4 : (I 317 v1.toNatClampNeg).toInt = 0), vp_in (v1 + (5 : Int32)) 180) {f10 : Int32} {g10 : zM} (m10 : ∀ (c4 : (I 317 v1.toNatClampNeg).toInt = 0), CT (kG K) (kw K) (kl K) (yX11_add, cX11_add, 7, (some .int)) 1 (0, 0) [.ref 312, .int (I 317 (v1 + (1 : Int32)).toNatClampNeg), .int (I 317 (v1 + (2 : Int32)).toNatClampNeg), .int ((I 313 9) + (I 317 (v1 + (3 : Int32)).toNatClampNeg)), .int (I 317 (v1 + (4 : Int32)).toNatClampNeg), .int (I 317 (v1 + (5 : Int32)).toNatClampNeg)] I (qE f10 g10) nX) (h11 : ∀ (c4 : (I 317 v1.toNatClampNeg).toInt = 0), P none g10) {f12 : Int32} {g12 : zM} (m12 : ∀ (c4 : (I 317 v1.toNatClampNeg).toInt = 1), CT (kG K) (kw K) (kl K) (yX11_passMinutes, cX11_passMinutes, 4, (some .int)) 8 (0, 0) [.ref 312, .int (I 317 (v1 + (1 : Int32)).toNatClampNeg)] I (qE f12 g12) nX) (h13 : ∀ (c4 : (I 317 v1.toNatClampNeg).toInt = 1), P none g12) (h14 : ∀ (c4 : (I 317 v1.toNatClampNeg).toInt = 2), P none (up I 313 0 (I 317 (v1 + (1 : Int32)).toNatClampNeg))) {g15 : zM} (m15 : ∀ (c4 : (I 317 v1.toNatClampNeg).toInt = 3), CT (kG K) (kw K) (kl K) (yX11_set, cX11_set, 4, none) 0 (0, 0) [.ref 312, .int (I 317 (v1 + (1 : Int32)).toNatClampNeg), .int (3 : Int32), .int (I 317 (v1 + (2 : Int32)).toNatClampNeg)] I (qV (fun J => J = g15)) nX) (h16 : ∀ (c4 : (I 317 v1.toNatClampNeg).toInt = 3), P none g15) {g17 : zM} (m17 : ∀ (c4 : (I 317 v1.toNatClampNeg).toInt = 4), CT (kG K) (kw K) (kl K) (yX11_set, cX11_set, 4, none) 0 (0, 0) [.ref 312, .int (I 317 (v1 + (1 : Int32)).toNatClampNeg), .int (4 : Int32), .int (I 317 (v1 + (2 : Int32)).toNatClampNeg)] I (qV (fun J => J = g17)) nX) (h18 : ∀ (c4 : (I 317 v1.toNatClampNeg).toInt = 4), P none g17) : ZZ K (0, 0) 0 [(0, .ref 312), (1, .int v1)] [] I := by
  obtain ⟨hb, ho, hnl, hR, hE⟩ := hK
  refine zz_aload_n hb (z_dec dX11_doIt 0 rfl) rfl 0 rfl ?_
  refine zz_getr (k := 14) (q := 317) hb ho rfl ckX11 t0 rfl rfl (rX11_doIt 0 rfl) rfl (z_dec dX11_doIt 1 rfl) ?_
  refine zz_iload_n hb (z_dec dX11_doIt 2 rfl) rfl 1 rfl ?_
  refine zz_iconst (v := (1 : Int32)) hb (z_dec dX11_doIt 3 rfl) (by decide) ?_
  refine zz_iadd hb (z_dec dX11_doIt 4 rfl) ?_
  refine zz_iald (j := (v1 + (1 : Int32)).toNatClampNeg) hb (show isT (kw K) 20 317 from isT.f (k := 14) t0 hw rfl rfl rfl (by decide)) rfl (zvi rfl h1) (z_dec dX11_doIt 5 rfl) ?_
  refine zz_istore_n (L' := [(0, .ref 312), (1, .int v1), (2, .int (I 317 (v1 + (1 : Int32)).toNatClampNeg))]) hb (z_dec dX11_doIt 6 rfl) rfl hnl rfl [1, 2, 0] rfl ?_
  refine zz_aload_n hb (z_dec dX11_doIt 7 rfl) rfl 0 rfl ?_
  refine zz_getr (k := 14) (q := 317) hb ho rfl ckX11 t0 rfl rfl (rX11_doIt 0 rfl) rfl (z_dec dX11_doIt 8 rfl) ?_
  refine zz_iload_n hb (z_dec dX11_doIt 9 rfl) rfl 1 rfl ?_
  refine zz_iconst (v := (2 : Int32)) hb (z_dec dX11_doIt 10 rfl) (by decide) ?_
  refine zz_iadd hb (z_dec dX11_doIt 11 rfl) ?_
  refine zz_iald (j := (v1 + (2 : Int32)).toNatClampNeg) hb (show isT (kw K) 20 317 from isT.f (k := 14) t0 hw rfl rfl rfl (by decide)) rfl (zvi rfl h2) (z_dec dX11_doIt 12 rfl) ?_
  refine zz_istore_n (L' := [(0, .ref 312), (1, .int v1), (2, .int (I 317 (v1 + (1 : Int32)).toNatClampNeg)), (3, .int (I 317 (v1 + (2 : Int32)).toNatClampNeg))]) hb (z_dec dX11_doIt 13 rfl) rfl hnl rfl [1, 2, 3, 0] rfl ?_
  refine zz_aload_n hb (z_dec dX11_doIt 14 rfl) rfl 0 rfl ?_
  refine zz_getr (k := 14) (q := 317) hb ho rfl ckX11 t0 rfl rfl (rX11_doIt 0 rfl) rfl (z_dec dX11_doIt 15 rfl) ?_
  refine zz_iload_n hb (z_dec dX11_doIt 16 rfl) rfl 1 rfl ?_
  refine zz_iald (j := v1.toNatClampNeg) hb (show isT (kw K) 20 317 from isT.f (k := 14) t0 hw rfl rfl rfl (by decide)) rfl (zvi rfl h3) (z_dec dX11_doIt 17 rfl) ?_
  refine zz_tsw (td := 141) (tg := [60, 102, 111, 121, 131]) hb (z_dec dX11_doIt 18 rfl) (by decide) rfl (by decide) (fun c4 => ?_) (fun i t hi c4 => ?_)
  · refine zz_aload_n hb (z_dec dX11_doIt 71 rfl) rfl 0 rfl ?_
    refine zz_iload_n hb (z_dec dX11_doIt 72 rfl) rfl 2 rfl ?_
    refine zz_inv (as := [.int (I 317 (v1 + (1 : Int32)).toNatClampNeg)]) (d := 1) (mc := (0, 0)) (P := (qE f5 g5)) (X := nX) hb ho hnl hR hE mkX11_throwAway rfl ckX11 t0 rfl ⟨Nat.le_refl 0, Nat.le_refl 0⟩ rfl (rX11_doIt 11 rfl) (rX11_doIt 12 rfl) (rX11_doIt 13 rfl) rfl (z_dec dX11_doIt 73 rfl) (m5 c4) (fun v J5 hp => ?_) (fun _ _ h => h.elim)
    obtain ⟨r5, rfl, e5, w5⟩ := hp
    have e5 := e5.symm
    subst e5
    have w5 := w5.symm
    subst w5
    show ZZ K (0, 0) 146 [(0, .ref 312), (1, .int v1), (2, .int (I 317 (v1 + (1 : Int32)).toNatClampNeg)), (3, .int (I 317 (v1 + (2 : Int32)).toNatClampNeg))] [.int f5] g5
    refine zz_pop hb (z_dec dX11_doIt 74 rfl) rfl ?_
    exact zz_vret hb hE ⟨Nat.le_refl 0, Nat.le_refl 0⟩ (z_dec dX11_doIt 75 rfl) (h6 c4)
  · obtain _ | i := i
    · obtain rfl := Option.some.inj hi
      refine zz_aload_n hb (z_dec dX11_doIt 19 rfl) rfl 0 rfl ?_
      refine zz_iload_n hb (z_dec dX11_doIt 20 rfl) rfl 2 rfl ?_
      refine zz_iload_n hb (z_dec dX11_doIt 21 rfl) rfl 3 rfl ?_
      refine zz_aload_n hb (z_dec dX11_doIt 22 rfl) rfl 0 rfl ?_
      refine zz_getr (k := 0) (q := 313) hb ho rfl ckX11 t0 rfl rfl (rX11_doIt 1 rfl) rfl (z_dec dX11_doIt 23 rfl) ?_
      refine zz_bipush (v := (9 : Int32)) hb (z_dec dX11_doIt 24 rfl) (by decide) ?_
      refine zz_iald (j := 9) hb (show isT (kw K) 20 313 from isT.f (k := 0) t0 hw rfl rfl rfl (by decide)) rfl (zvi rfl (zin rfl)) (z_dec dX11_doIt 25 rfl) ?_
      refine zz_aload_n hb (z_dec dX11_doIt 26 rfl) rfl 0 rfl ?_
      refine zz_getr (k := 14) (q := 317) hb ho rfl ckX11 t0 rfl rfl (rX11_doIt 0 rfl) rfl (z_dec dX11_doIt 27 rfl) ?_
      refine zz_iload_n hb (z_dec dX11_doIt 28 rfl) rfl 1 rfl ?_
      refine zz_iconst (v := (3 : Int32)) hb (z_dec dX11_doIt 29 rfl) (by decide) ?_
      refine zz_iadd hb (z_dec dX11_doIt 30 rfl) ?_
      refine zz_iald (j := (v1 + (3 : Int32)).toNatClampNeg) hb (show isT (kw K) 20 317 from isT.f (k := 14) t0 hw rfl rfl rfl (by decide)) rfl (zvi rfl (h7 c4)) (z_dec dX11_doIt 31 rfl) ?_
      refine zz_iadd hb (z_dec dX11_doIt 32 rfl) ?_
      refine zz_aload_n hb (z_dec dX11_doIt 33 rfl) rfl 0 rfl ?_
      refine zz_getr (k := 14) (q := 317) hb ho rfl ckX11 t0 rfl rfl (rX11_doIt 0 rfl) rfl (z_dec dX11_doIt 34 rfl) ?_
      refine zz_iload_n hb (z_dec dX11_doIt 35 rfl) rfl 1 rfl ?_
      refine zz_iconst (v := (4 : Int32)) hb (z_dec dX11_doIt 36 rfl) (by decide) ?_
      refine zz_iadd hb (z_dec dX11_doIt 37 rfl) ?_
      refine zz_iald (j := (v1 + (4 : Int32)).toNatClampNeg) hb (show isT (kw K) 20 317 from isT.f (k := 14) t0 hw rfl rfl rfl (by decide)) rfl (zvi rfl (h8 c4)) (z_dec dX11_doIt 38 rfl) ?_
      refine zz_aload_n hb (z_dec dX11_doIt 39 rfl) rfl 0 rfl ?_
      refine zz_getr (k := 14) (q := 317) hb ho rfl ckX11 t0 rfl rfl (rX11_doIt 0 rfl) rfl (z_dec dX11_doIt 40 rfl) ?_
      refine zz_iload_n hb (z_dec dX11_doIt 41 rfl) rfl 1 rfl ?_
      refine zz_iconst (v := (5 : Int32)) hb (z_dec dX11_doIt 42 rfl) (by decide) ?_
      refine zz_iadd hb (z_dec dX11_doIt 43 rfl) ?_
      refine zz_iald (j := (v1 + (5 : Int32)).toNatClampNeg) hb (show isT (kw K) 20 317 from isT.f (k := 14) t0 hw rfl rfl rfl (by decide)) rfl (zvi rfl (h9 c4)) (z_dec dX11_doIt 44 rfl) ?_
      refine zz_inv (as := [.int (I 317 (v1 + (1 : Int32)).toNatClampNeg), .int (I 317 (v1 + (2 : Int32)).toNatClampNeg), .int ((I 313 9) + (I 317 (v1 + (3 : Int32)).toNatClampNeg)), .int (I 317 (v1 + (4 : Int32)).toNatClampNeg), .int (I 317 (v1 + (5 : Int32)).toNatClampNeg)]) (d := 1) (mc := (0, 0)) (P := (qE f10 g10)) (X := nX) hb ho hnl hR hE mkX11_add rfl ckX11 t0 rfl ⟨Nat.le_refl 0, Nat.le_refl 0⟩ rfl (rX11_doIt 2 rfl) (rX11_doIt 3 rfl) (rX11_doIt 4 rfl) rfl (z_dec dX11_doIt 45 rfl) (m10 c4) (fun v J10 hp => ?_) (fun _ _ h => h.elim)
      obtain ⟨r10, rfl, e10, w10⟩ := hp
      have e10 := e10.symm
      subst e10
      have w10 := w10.symm
      subst w10
      show ZZ K (0, 0) 98 [(0, .ref 312), (1, .int v1), (2, .int (I 317 (v1 + (1 : Int32)).toNatClampNeg)), (3, .int (I 317 (v1 + (2 : Int32)).toNatClampNeg))] [.int f10] g10
      refine zz_pop hb (z_dec dX11_doIt 46 rfl) rfl ?_
      refine zz_goto (tgt := 147) hb (z_dec dX11_doIt 47 rfl) (by decide) ?_
      exact zz_vret hb hE ⟨Nat.le_refl 0, Nat.le_refl 0⟩ (z_dec dX11_doIt 75 rfl) (h11 c4)
    obtain _ | i := i
    · obtain rfl := Option.some.inj hi
      refine zz_aload_n hb (z_dec dX11_doIt 48 rfl) rfl 0 rfl ?_
      refine zz_iload_n hb (z_dec dX11_doIt 49 rfl) rfl 2 rfl ?_
      refine zz_inv (as := [.int (I 317 (v1 + (1 : Int32)).toNatClampNeg)]) (d := 8) (mc := (0, 0)) (P := (qE f12 g12)) (X := nX) hb ho hnl hR hE mkX11_passMinutes rfl ckX11 t0 rfl ⟨Nat.le_refl 0, Nat.le_refl 0⟩ rfl (rX11_doIt 5 rfl) (rX11_doIt 6 rfl) (rX11_doIt 7 rfl) rfl (z_dec dX11_doIt 50 rfl) (m12 c4) (fun v J12 hp => ?_) (fun _ _ h => h.elim)
      obtain ⟨r12, rfl, e12, w12⟩ := hp
      have e12 := e12.symm
      subst e12
      have w12 := w12.symm
      subst w12
      show ZZ K (0, 0) 107 [(0, .ref 312), (1, .int v1), (2, .int (I 317 (v1 + (1 : Int32)).toNatClampNeg)), (3, .int (I 317 (v1 + (2 : Int32)).toNatClampNeg))] [.int f12] g12
      refine zz_pop hb (z_dec dX11_doIt 51 rfl) rfl ?_
      refine zz_goto (tgt := 147) hb (z_dec dX11_doIt 52 rfl) (by decide) ?_
      exact zz_vret hb hE ⟨Nat.le_refl 0, Nat.le_refl 0⟩ (z_dec dX11_doIt 75 rfl) (h13 c4)
    obtain _ | i := i
    · obtain rfl := Option.some.inj hi
      refine zz_aload_n hb (z_dec dX11_doIt 53 rfl) rfl 0 rfl ?_
      refine zz_getr (k := 0) (q := 313) hb ho rfl ckX11 t0 rfl rfl (rX11_doIt 1 rfl) rfl (z_dec dX11_doIt 54 rfl) ?_
      refine zz_iconst (v := (0 : Int32)) hb (z_dec dX11_doIt 55 rfl) (by decide) ?_
      refine zz_iload_n hb (z_dec dX11_doIt 56 rfl) rfl 2 rfl ?_
      refine zz_iast (j := 0) hb (show isT (kw K) 20 313 from isT.f (k := 0) t0 hw rfl rfl rfl (by decide)) rfl (zvi rfl (zin rfl)) (z_dec dX11_doIt 57 rfl) ?_
      refine zz_goto (tgt := 147) hb (z_dec dX11_doIt 58 rfl) (by decide) ?_
      exact zz_vret hb hE ⟨Nat.le_refl 0, Nat.le_refl 0⟩ (z_dec dX11_doIt 75 rfl) (h14 c4)
    obtain _ | i := i
    · obtain rfl := Option.some.inj hi
      refine zz_aload_n hb (z_dec dX11_doIt 59 rfl) rfl 0 rfl ?_
      refine zz_iload_n hb (z_dec dX11_doIt 60 rfl) rfl 2 rfl ?_
      refine zz_iconst (v := (3 : Int32)) hb (z_dec dX11_doIt 61 rfl) (by decide) ?_
      refine zz_iload_n hb (z_dec dX11_doIt 62 rfl) rfl 3 rfl ?_
      refine zz_inv (as := [.int (I 317 (v1 + (1 : Int32)).toNatClampNeg), .int (3 : Int32), .int (I 317 (v1 + (2 : Int32)).toNatClampNeg)]) (d := 0) (mc := (0, 0)) (P := (qV (fun J => J = g15))) (X := nX) hb ho hnl hR hE mkX11_set rfl ckX11 t0 rfl ⟨Nat.le_refl 0, Nat.le_refl 0⟩ rfl (rX11_doIt 8 rfl) (rX11_doIt 9 rfl) (rX11_doIt 10 rfl) rfl (z_dec dX11_doIt 63 rfl) (m15 c4) (fun v J15 hp => ?_) (fun _ _ h => h.elim)
      obtain ⟨rfl, w15⟩ := hp
      have w15 := w15.symm
      subst w15
      show ZZ K (0, 0) 128 [(0, .ref 312), (1, .int v1), (2, .int (I 317 (v1 + (1 : Int32)).toNatClampNeg)), (3, .int (I 317 (v1 + (2 : Int32)).toNatClampNeg))] [] g15
      refine zz_goto (tgt := 147) hb (z_dec dX11_doIt 64 rfl) (by decide) ?_
      exact zz_vret hb hE ⟨Nat.le_refl 0, Nat.le_refl 0⟩ (z_dec dX11_doIt 75 rfl) (h16 c4)
    obtain _ | i := i
    · obtain rfl := Option.some.inj hi
      refine zz_aload_n hb (z_dec dX11_doIt 65 rfl) rfl 0 rfl ?_
      refine zz_iload_n hb (z_dec dX11_doIt 66 rfl) rfl 2 rfl ?_
      refine zz_iconst (v := (4 : Int32)) hb (z_dec dX11_doIt 67 rfl) (by decide) ?_
      refine zz_iload_n hb (z_dec dX11_doIt 68 rfl) rfl 3 rfl ?_
      refine zz_inv (as := [.int (I 317 (v1 + (1 : Int32)).toNatClampNeg), .int (4 : Int32), .int (I 317 (v1 + (2 : Int32)).toNatClampNeg)]) (d := 0) (mc := (0, 0)) (P := (qV (fun J => J = g17))) (X := nX) hb ho hnl hR hE mkX11_set rfl ckX11 t0 rfl ⟨Nat.le_refl 0, Nat.le_refl 0⟩ rfl (rX11_doIt 8 rfl) (rX11_doIt 9 rfl) (rX11_doIt 10 rfl) rfl (z_dec dX11_doIt 69 rfl) (m17 c4) (fun v J17 hp => ?_) (fun _ _ h => h.elim)
      obtain ⟨rfl, w17⟩ := hp
      have w17 := w17.symm
      subst w17
      show ZZ K (0, 0) 138 [(0, .ref 312), (1, .int v1), (2, .int (I 317 (v1 + (1 : Int32)).toNatClampNeg)), (3, .int (I 317 (v1 + (2 : Int32)).toNatClampNeg))] [] g17
      refine zz_goto (tgt := 147) hb (z_dec dX11_doIt 70 rfl) (by decide) ?_
      exact zz_vret hb hE ⟨Nat.le_refl 0, Nat.le_refl 0⟩ (z_dec dX11_doIt 75 rfl) (h18 c4)
    cases hi
set_option maxRecDepth 20000 in
theorem bX11_runScript_0 {K : zK} {P : Option Value → zM → Prop} {X : String → zM → Prop} {u mc : Nat × Nat} (hK : zIs K RX11 cX11_runScript 3 (some .int) 10 mc P X) (hw : wOK (kw K)) {I : zM} (t0 : isT (kw K) 11 312) {g1 : zM} (g_1 : u.1 ≤ mc.1 ∧ u.2 ≤ mc.2) (m1 : CT (kG K) (kw K) (kl K) (yX11_begin, cX11_begin, 1, none) 2 (0, 0) [.ref 312] I (qV (fun J => J = g1)) nX) {f2 : Int32} {g2 : zM} {mc2 : Nat × Nat} {x2 : String → zM → Prop} (g_2 : u.1 + mc2.1 ≤ mc.1 ∧ u.2 + mc2.2 ≤ mc.2) (n2 : ∀ (E : String) (J : zM), x2 E J → X E J) (m2 : CT (kG K) (kw K) (kl K) (yX11_parseScript, cX11_parseScript, 4, (some .int)) 6 mc2 [.ref 312] g1 (qE f2 g2) x2) (k4 : ∀ (c3 : ¬ f2 = (-1 : Int32)), ZZ K (u.1 + mc2.1, u.2 + mc2.2) 25 [(0, .ref 312), (1, .int f2)] [.int (0 : Int32), .ref 312] (up g2 312 4 (0 : Int32))) (k5 : ∀ (c3 : f2 = (-1 : Int32)), ZZ K (u.1 + mc2.1, u.2 + mc2.2) 25 [(0, .ref 312), (1, .int f2)] [.int (1 : Int32), .ref 312] (up g2 312 4 (0 : Int32))) : ZZ K u 0 [(0, .ref 312)] [] I := by
  obtain ⟨hb, ho, hnl, hR, hE⟩ := hK
  refine zz_aload_n hb (z_dec dX11_runScript 0 rfl) rfl 0 rfl ?_
  refine zz_inv (as := []) (d := 2) (mc := (0, 0)) (P := (qV (fun J => J = g1))) (X := nX) hb ho hnl hR hE mkX11_begin rfl ckX11 t0 rfl g_1 rfl (rX11_runScript 0 rfl) (rX11_runScript 1 rfl) (rX11_runScript 2 rfl) rfl (z_dec dX11_runScript 1 rfl) m1 (fun v J1 hp => ?_) (fun _ _ h => h.elim)
  obtain ⟨rfl, w1⟩ := hp
  have w1 := w1.symm
  subst w1
  show ZZ K u 4 [(0, .ref 312)] [] g1
  refine zz_aload_n hb (z_dec dX11_runScript 2 rfl) rfl 0 rfl ?_
  refine zz_inv (as := []) (d := 6) (mc := mc2) (P := (qE f2 g2)) (X := x2) hb ho hnl hR hE mkX11_parseScript rfl ckX11 t0 rfl g_2 rfl (rX11_runScript 3 rfl) (rX11_runScript 4 rfl) (rX11_runScript 5 rfl) rfl (z_dec dX11_runScript 3 rfl) m2 (fun v J2 hp => ?_) n2
  obtain ⟨r2, rfl, e2, w2⟩ := hp
  have e2 := e2.symm
  subst e2
  have w2 := w2.symm
  subst w2
  show ZZ K (u.1 + mc2.1, u.2 + mc2.2) 8 [(0, .ref 312)] [.int f2] g2
  refine zz_istore_n (L' := [(0, .ref 312), (1, .int f2)]) hb (z_dec dX11_runScript 4 rfl) rfl hnl rfl [1, 0] rfl ?_
  refine zz_aload_n hb (z_dec dX11_runScript 5 rfl) rfl 0 rfl ?_
  refine zz_iconst (v := (0 : Int32)) hb (z_dec dX11_runScript 6 rfl) (by decide) ?_
  refine zz_put (k := 4) hb ho ckX11 t0 rfl rfl (rX11_runScript 6 rfl) rfl rfl rfl (z_dec dX11_runScript 7 rfl) ?_
  refine zz_aload_n hb (z_dec dX11_runScript 8 rfl) rfl 0 rfl ?_
  refine zz_iload_n hb (z_dec dX11_runScript 9 rfl) rfl 1 rfl ?_
  refine zz_iconst (v := (-1 : Int32)) hb (z_dec dX11_runScript 10 rfl) (by decide) ?_
  refine zz_icmp_ne (tgt := 24) hb (z_dec dX11_runScript 11 rfl) (by decide) (fun c3 => ?_) (fun c3 => ?_)
  · refine zz_iconst (v := (0 : Int32)) hb (z_dec dX11_runScript 14 rfl) (by decide) ?_
    exact (k4 c3)
  · refine zz_iconst (v := (1 : Int32)) hb (z_dec dX11_runScript 12 rfl) (by decide) ?_
    refine zz_goto (tgt := 25) hb (z_dec dX11_runScript 13 rfl) (by decide) ?_
    exact (k5 c3)
set_option maxRecDepth 20000 in
theorem bX11_runScript_25 {K : zK} {P : Option Value → zM → Prop} {X : String → zM → Prop} {u mc : Nat × Nat} (hK : zIs K RX11 cX11_runScript 3 (some .int) 10 mc P X) (hw : wOK (kw K)) {I : zM} (t0 : isT (kw K) 11 312) {v1 : Int32} (ts0 : isT (kw K) 11 312) {vs1 : Int32} {f1 : Int32} {g1 : zM} (g_1 : u.1 ≤ mc.1 ∧ u.2 ≤ mc.2) (m1 : CT (kG K) (kw K) (kl K) (yX11_fails, cX11_fails, 4, (some .boolean)) 0 (0, 0) [.ref 312, .int vs1, .int (0 : Int32), .int (0 : Int32)] I (qE f1 g1) nX) {g3 : zM} (g_3 : u.1 ≤ mc.1 ∧ u.2 ≤ mc.2) (m3 : ∀ (c2 : f1 = 0), CT (kG K) (kw K) (kl K) (yX11_remember, cX11_remember, 3, none) 1 (0, 0) [.ref 312, .int (0 : Int32)] g1 (qV (fun J => J = g3)) nX) (k4 : ∀ (c2 : f1 = 0), ZZ K u 42 [(0, .ref 312), (1, .int v1), (2, .int (0 : Int32))] [] g3) (g5 : u.1 ≤ mc.1 ∧ u.2 ≤ mc.2) (h6 : ∀ (c2 : ¬ f1 = 0), P (some (.int (0 : Int32))) g1) : ZZ K u 25 [(0, .ref 312), (1, .int v1)] [.int vs1, .ref 312] I := by
  obtain ⟨hb, ho, hnl, hR, hE⟩ := hK
  refine zz_iconst (v := (0 : Int32)) hb (z_dec dX11_runScript 15 rfl) (by decide) ?_
  refine zz_iconst (v := (0 : Int32)) hb (z_dec dX11_runScript 16 rfl) (by decide) ?_
  refine zz_inv (as := [.int vs1, .int (0 : Int32), .int (0 : Int32)]) (d := 0) (mc := (0, 0)) (P := (qE f1 g1)) (X := nX) hb ho hnl hR hE mkX11_fails rfl ckX11 ts0 rfl g_1 rfl (rX11_runScript 7 rfl) (rX11_runScript 8 rfl) (rX11_runScript 9 rfl) rfl (z_dec dX11_runScript 17 rfl) m1 (fun v J1 hp => ?_) (fun _ _ h => h.elim)
  obtain ⟨r1, rfl, e1, w1⟩ := hp
  have e1 := e1.symm
  subst e1
  have w1 := w1.symm
  subst w1
  show ZZ K u 30 [(0, .ref 312), (1, .int v1)] [.int f1] g1
  refine zz_if_eq (tgt := 35) hb (z_dec dX11_runScript 18 rfl) (by decide) (fun c2 => ?_) (fun c2 => ?_)
  · refine zz_aload_n hb (z_dec dX11_runScript 21 rfl) rfl 0 rfl ?_
    refine zz_iconst (v := (0 : Int32)) hb (z_dec dX11_runScript 22 rfl) (by decide) ?_
    refine zz_inv (as := [.int (0 : Int32)]) (d := 1) (mc := (0, 0)) (P := (qV (fun J => J = g3))) (X := nX) hb ho hnl hR hE mkX11_remember rfl ckX11 t0 rfl g_3 rfl (rX11_runScript 10 rfl) (rX11_runScript 11 rfl) (rX11_runScript 12 rfl) rfl (z_dec dX11_runScript 23 rfl) (m3 c2) (fun v J3 hp => ?_) (fun _ _ h => h.elim)
    obtain ⟨rfl, w3⟩ := hp
    have w3 := w3.symm
    subst w3
    show ZZ K u 40 [(0, .ref 312), (1, .int v1)] [] g3
    refine zz_iconst (v := (0 : Int32)) hb (z_dec dX11_runScript 24 rfl) (by decide) ?_
    refine zz_istore_n (L' := [(0, .ref 312), (1, .int v1), (2, .int (0 : Int32))]) hb (z_dec dX11_runScript 25 rfl) rfl hnl rfl [1, 2, 0] rfl ?_
    exact (k4 c2)
  · refine zz_iconst (v := (0 : Int32)) hb (z_dec dX11_runScript 19 rfl) (by decide) ?_
    exact zz_iret hb hE g5 (z_dec dX11_runScript 20 rfl) (h6 c2)
set_option maxRecDepth 20000 in
theorem bX11_runScript_42 {K : zK} {P : Option Value → zM → Prop} {X : String → zM → Prop} {u mc : Nat × Nat} (hK : zIs K RX11 cX11_runScript 3 (some .int) 10 mc P X) (hw : wOK (kw K)) {I : zM} (t0 : isT (kw K) 11 312) {v1 : Int32} {v2 : Int32} (g2 : u.1 ≤ mc.1 ∧ u.2 ≤ mc.2) (h3 : ∀ (c1 : v1 ≤ v2), P (some (.int v2)) I) {f4 : Int32} {g4 : zM} (g_4 : u.1 ≤ mc.1 ∧ u.2 ≤ mc.2) (m4 : ∀ (c1 : ¬ v1 ≤ v2), CT (kG K) (kw K) (kl K) (yX11_canDo, cX11_canDo, 4, (some .boolean)) 3 (0, 0) [.ref 312, .int (v2 * (6 : Int32))] I (qE f4 g4) nX) (g6 : u.1 ≤ mc.1 ∧ u.2 ≤ mc.2) (h7 : ∀ (c1 : ¬ v1 ≤ v2) (c5 : f4 = 0), P (some (.int v2)) g4) {g8 : zM} (g_8 : u.1 ≤ mc.1 ∧ u.2 ≤ mc.2) (m8 : ∀ (c1 : ¬ v1 ≤ v2) (c5 : ¬ f4 = 0), CT (kG K) (kw K) (kl K) (yX11_doIt, cX11_doIt, 4, none) 9 (0, 0) [.ref 312, .int (v2 * (6 : Int32))] g4 (qV (fun J => J = g8)) nX) (k9 : ∀ (c1 : ¬ v1 ≤ v2) (c5 : ¬ f4 = 0), ZZ K u 42 [(0, .ref 312), (1, .int v1), (2, .int (v2 + 1))] [] g8) : ZZ K u 42 [(0, .ref 312), (1, .int v1), (2, .int v2)] [] I := by
  obtain ⟨hb, ho, hnl, hR, hE⟩ := hK
  refine zz_iload_n hb (z_dec dX11_runScript 26 rfl) rfl 2 rfl ?_
  refine zz_iload_n hb (z_dec dX11_runScript 27 rfl) rfl 1 rfl ?_
  refine zz_icmp_ge (tgt := 72) hb (z_dec dX11_runScript 28 rfl) (by decide) (fun c1 => ?_) (fun c1 => ?_)
  · refine zz_iload_n hb (z_dec dX11_runScript 42 rfl) rfl 2 rfl ?_
    exact zz_iret hb hE g2 (z_dec dX11_runScript 43 rfl) (h3 c1)
  · refine zz_aload_n hb (z_dec dX11_runScript 29 rfl) rfl 0 rfl ?_
    refine zz_iload_n hb (z_dec dX11_runScript 30 rfl) rfl 2 rfl ?_
    refine zz_bipush (v := (6 : Int32)) hb (z_dec dX11_runScript 31 rfl) (by decide) ?_
    refine zz_imul hb (z_dec dX11_runScript 32 rfl) ?_
    refine zz_inv (as := [.int (v2 * (6 : Int32))]) (d := 3) (mc := (0, 0)) (P := (qE f4 g4)) (X := nX) hb ho hnl hR hE mkX11_canDo rfl ckX11 t0 rfl g_4 rfl (rX11_runScript 13 rfl) (rX11_runScript 14 rfl) (rX11_runScript 15 rfl) rfl (z_dec dX11_runScript 33 rfl) (m4 c1) (fun v J4 hp => ?_) (fun _ _ h => h.elim)
    obtain ⟨r4, rfl, e4, w4⟩ := hp
    have e4 := e4.symm
    subst e4
    have w4 := w4.symm
    subst w4
    show ZZ K u 55 [(0, .ref 312), (1, .int v1), (2, .int v2)] [.int f4] g4
    refine zz_if_eq (tgt := 72) hb (z_dec dX11_runScript 34 rfl) (by decide) (fun c5 => ?_) (fun c5 => ?_)
    · refine zz_iload_n hb (z_dec dX11_runScript 42 rfl) rfl 2 rfl ?_
      exact zz_iret hb hE g6 (z_dec dX11_runScript 43 rfl) (h7 c1 c5)
    · refine zz_aload_n hb (z_dec dX11_runScript 35 rfl) rfl 0 rfl ?_
      refine zz_iload_n hb (z_dec dX11_runScript 36 rfl) rfl 2 rfl ?_
      refine zz_bipush (v := (6 : Int32)) hb (z_dec dX11_runScript 37 rfl) (by decide) ?_
      refine zz_imul hb (z_dec dX11_runScript 38 rfl) ?_
      refine zz_inv (as := [.int (v2 * (6 : Int32))]) (d := 9) (mc := (0, 0)) (P := (qV (fun J => J = g8))) (X := nX) hb ho hnl hR hE mkX11_doIt rfl ckX11 t0 rfl g_8 rfl (rX11_runScript 16 rfl) (rX11_runScript 17 rfl) (rX11_runScript 18 rfl) rfl (z_dec dX11_runScript 39 rfl) (m8 c1 c5) (fun v J8 hp => ?_) (fun _ _ h => h.elim)
      obtain ⟨rfl, w8⟩ := hp
      have w8 := w8.symm
      subst w8
      show ZZ K u 66 [(0, .ref 312), (1, .int v1), (2, .int v2)] [] g8
      refine zz_iinc (v := (v2 + 1)) (L' := [(0, .ref 312), (1, .int v1), (2, .int (v2 + 1))]) hb (z_dec dX11_runScript 40 rfl) 2 rfl rfl hnl rfl [1, 2, 0] rfl ?_
      refine zz_goto (tgt := 42) hb (z_dec dX11_runScript 41 rfl) (by decide) ?_
      exact (k9 c1 c5)
set_option maxRecDepth 20000 in
theorem bX11_errorCode_0 {K : zK} {P : Option Value → zM → Prop} {X : String → zM → Prop} (hK : zIs K RX11 cX11_errorCode 1 (some .int) 0 (0, 0) P X) (hw : wOK (kw K)) {I : zM} (t0 : isT (kw K) 11 312) (h1 : P (some (.int ((up I 312 9 (0 : Int32)) 312 5))) (up I 312 9 (0 : Int32))) : ZZ K (0, 0) 0 [(0, .ref 312)] [] I := by
  obtain ⟨hb, ho, hnl, hR, hE⟩ := hK
  refine zz_aload_n hb (z_dec dX11_errorCode 0 rfl) rfl 0 rfl ?_
  refine zz_iconst (v := (0 : Int32)) hb (z_dec dX11_errorCode 1 rfl) (by decide) ?_
  refine zz_put (k := 9) hb ho ckX11 t0 rfl rfl (rX11_errorCode 0 rfl) rfl rfl rfl (z_dec dX11_errorCode 2 rfl) ?_
  refine zz_aload_n hb (z_dec dX11_errorCode 3 rfl) rfl 0 rfl ?_
  refine zz_get (k := 5) hb ho ckX11 t0 rfl rfl (rX11_errorCode 1 rfl) rfl (z_dec dX11_errorCode 4 rfl) ?_
  exact zz_iret hb hE ⟨Nat.le_refl 0, Nat.le_refl 0⟩ (z_dec dX11_errorCode 5 rfl) h1
set_option maxRecDepth 20000 in
theorem bX11_errorPosition_0 {K : zK} {P : Option Value → zM → Prop} {X : String → zM → Prop} (hK : zIs K RX11 cX11_errorPosition 1 (some .int) 0 (0, 0) P X) (hw : wOK (kw K)) {I : zM} (t0 : isT (kw K) 11 312) (h1 : P (some (.int ((up I 312 9 (0 : Int32)) 312 6))) (up I 312 9 (0 : Int32))) : ZZ K (0, 0) 0 [(0, .ref 312)] [] I := by
  obtain ⟨hb, ho, hnl, hR, hE⟩ := hK
  refine zz_aload_n hb (z_dec dX11_errorPosition 0 rfl) rfl 0 rfl ?_
  refine zz_iconst (v := (0 : Int32)) hb (z_dec dX11_errorPosition 1 rfl) (by decide) ?_
  refine zz_put (k := 9) hb ho ckX11 t0 rfl rfl (rX11_errorPosition 0 rfl) rfl rfl rfl (z_dec dX11_errorPosition 2 rfl) ?_
  refine zz_aload_n hb (z_dec dX11_errorPosition 3 rfl) rfl 0 rfl ?_
  refine zz_get (k := 6) hb ho ckX11 t0 rfl rfl (rX11_errorPosition 1 rfl) rfl (z_dec dX11_errorPosition 4 rfl) ?_
  exact zz_iret hb hE ⟨Nat.le_refl 0, Nat.le_refl 0⟩ (z_dec dX11_errorPosition 5 rfl) h1
set_option maxRecDepth 20000 in
theorem bX11_plain_0 {K : zK} {P : Option Value → zM → Prop} {X : String → zM → Prop} (hK : zIs K RX11 cX11_plain 2 (some .int) 0 (0, 0) P X) (hw : wOK (kw K)) {I : zM} (t0 : isT (kw K) 11 312) {v1 : Int32} (h1 : P (some (.int v1)) (up I 312 9 (0 : Int32))) : ZZ K (0, 0) 0 [(0, .ref 312), (1, .int v1)] [] I := by
  obtain ⟨hb, ho, hnl, hR, hE⟩ := hK
  refine zz_aload_n hb (z_dec dX11_plain 0 rfl) rfl 0 rfl ?_
  refine zz_iconst (v := (0 : Int32)) hb (z_dec dX11_plain 1 rfl) (by decide) ?_
  refine zz_put (k := 9) hb ho ckX11 t0 rfl rfl (rX11_plain 0 rfl) rfl rfl rfl (z_dec dX11_plain 2 rfl) ?_
  refine zz_iload_n hb (z_dec dX11_plain 3 rfl) rfl 1 rfl ?_
  exact zz_iret hb hE ⟨Nat.le_refl 0, Nat.le_refl 0⟩ (z_dec dX11_plain 4 rfl) h1
set_option maxRecDepth 20000 in
theorem bX11_clerkCount_0 {K : zK} {P : Option Value → zM → Prop} {X : String → zM → Prop} (hK : zIs K RX11 cX11_clerkCount 1 (some .int) 1 (0, 0) P X) (hw : wOK (kw K)) {I : zM} (t0 : isT (kw K) 11 312) {f1 : Int32} {g1 : zM} (m1 : CT (kG K) (kw K) (kl K) (yX11_plain, cX11_plain, 2, (some .int)) 0 (0, 0) [.ref 312, .int (I 313 7)] I (qE f1 g1) nX) (h2 : P (some (.int f1)) g1) : ZZ K (0, 0) 0 [(0, .ref 312)] [] I := by
  obtain ⟨hb, ho, hnl, hR, hE⟩ := hK
  refine zz_aload_n hb (z_dec dX11_clerkCount 0 rfl) rfl 0 rfl ?_
  refine zz_aload_n hb (z_dec dX11_clerkCount 1 rfl) rfl 0 rfl ?_
  refine zz_getr (k := 0) (q := 313) hb ho rfl ckX11 t0 rfl rfl (rX11_clerkCount 0 rfl) rfl (z_dec dX11_clerkCount 2 rfl) ?_
  refine zz_bipush (v := (7 : Int32)) hb (z_dec dX11_clerkCount 3 rfl) (by decide) ?_
  refine zz_iald (j := 7) hb (show isT (kw K) 20 313 from isT.f (k := 0) t0 hw rfl rfl rfl (by decide)) rfl (zvi rfl (zin rfl)) (z_dec dX11_clerkCount 4 rfl) ?_
  refine zz_inv (as := [.int (I 313 7)]) (d := 0) (mc := (0, 0)) (P := (qE f1 g1)) (X := nX) hb ho hnl hR hE mkX11_plain rfl ckX11 t0 rfl ⟨Nat.le_refl 0, Nat.le_refl 0⟩ rfl (rX11_clerkCount 1 rfl) (rX11_clerkCount 2 rfl) (rX11_clerkCount 3 rfl) rfl (z_dec dX11_clerkCount 5 rfl) m1 (fun v J1 hp => ?_) (fun _ _ h => h.elim)
  obtain ⟨r1, rfl, e1, w1⟩ := hp
  have e1 := e1.symm
  subst e1
  have w1 := w1.symm
  subst w1
  show ZZ K (0, 0) 11 [(0, .ref 312)] [.int f1] g1
  exact zz_iret hb hE ⟨Nat.le_refl 0, Nat.le_refl 0⟩ (z_dec dX11_clerkCount 6 rfl) h2
set_option maxRecDepth 20000 in
theorem bX11_letterCount_0 {K : zK} {P : Option Value → zM → Prop} {X : String → zM → Prop} (hK : zIs K RX11 cX11_letterCount 1 (some .int) 1 (0, 0) P X) (hw : wOK (kw K)) {I : zM} (t0 : isT (kw K) 11 312) {f1 : Int32} {g1 : zM} (m1 : CT (kG K) (kw K) (kl K) (yX11_plain, cX11_plain, 2, (some .int)) 0 (0, 0) [.ref 312, .int (I 313 8)] I (qE f1 g1) nX) (h2 : P (some (.int f1)) g1) : ZZ K (0, 0) 0 [(0, .ref 312)] [] I := by
  obtain ⟨hb, ho, hnl, hR, hE⟩ := hK
  refine zz_aload_n hb (z_dec dX11_letterCount 0 rfl) rfl 0 rfl ?_
  refine zz_aload_n hb (z_dec dX11_letterCount 1 rfl) rfl 0 rfl ?_
  refine zz_getr (k := 0) (q := 313) hb ho rfl ckX11 t0 rfl rfl (rX11_letterCount 0 rfl) rfl (z_dec dX11_letterCount 2 rfl) ?_
  refine zz_bipush (v := (8 : Int32)) hb (z_dec dX11_letterCount 3 rfl) (by decide) ?_
  refine zz_iald (j := 8) hb (show isT (kw K) 20 313 from isT.f (k := 0) t0 hw rfl rfl rfl (by decide)) rfl (zvi rfl (zin rfl)) (z_dec dX11_letterCount 4 rfl) ?_
  refine zz_inv (as := [.int (I 313 8)]) (d := 0) (mc := (0, 0)) (P := (qE f1 g1)) (X := nX) hb ho hnl hR hE mkX11_plain rfl ckX11 t0 rfl ⟨Nat.le_refl 0, Nat.le_refl 0⟩ rfl (rX11_letterCount 1 rfl) (rX11_letterCount 2 rfl) (rX11_letterCount 3 rfl) rfl (z_dec dX11_letterCount 5 rfl) m1 (fun v J1 hp => ?_) (fun _ _ h => h.elim)
  obtain ⟨r1, rfl, e1, w1⟩ := hp
  have e1 := e1.symm
  subst e1
  have w1 := w1.symm
  subst w1
  show ZZ K (0, 0) 11 [(0, .ref 312)] [.int f1] g1
  exact zz_iret hb hE ⟨Nat.le_refl 0, Nat.le_refl 0⟩ (z_dec dX11_letterCount 6 rfl) h2
set_option maxRecDepth 20000 in
theorem bX11_minute_0 {K : zK} {P : Option Value → zM → Prop} {X : String → zM → Prop} (hK : zIs K RX11 cX11_minute 1 (some .int) 1 (0, 0) P X) (hw : wOK (kw K)) {I : zM} (t0 : isT (kw K) 11 312) {f1 : Int32} {g1 : zM} (m1 : CT (kG K) (kw K) (kl K) (yX11_plain, cX11_plain, 2, (some .int)) 0 (0, 0) [.ref 312, .int (I 313 9)] I (qE f1 g1) nX) (h2 : P (some (.int f1)) g1) : ZZ K (0, 0) 0 [(0, .ref 312)] [] I := by
  obtain ⟨hb, ho, hnl, hR, hE⟩ := hK
  refine zz_aload_n hb (z_dec dX11_minute 0 rfl) rfl 0 rfl ?_
  refine zz_aload_n hb (z_dec dX11_minute 1 rfl) rfl 0 rfl ?_
  refine zz_getr (k := 0) (q := 313) hb ho rfl ckX11 t0 rfl rfl (rX11_minute 0 rfl) rfl (z_dec dX11_minute 2 rfl) ?_
  refine zz_bipush (v := (9 : Int32)) hb (z_dec dX11_minute 3 rfl) (by decide) ?_
  refine zz_iald (j := 9) hb (show isT (kw K) 20 313 from isT.f (k := 0) t0 hw rfl rfl rfl (by decide)) rfl (zvi rfl (zin rfl)) (z_dec dX11_minute 4 rfl) ?_
  refine zz_inv (as := [.int (I 313 9)]) (d := 0) (mc := (0, 0)) (P := (qE f1 g1)) (X := nX) hb ho hnl hR hE mkX11_plain rfl ckX11 t0 rfl ⟨Nat.le_refl 0, Nat.le_refl 0⟩ rfl (rX11_minute 1 rfl) (rX11_minute 2 rfl) (rX11_minute 3 rfl) rfl (z_dec dX11_minute 5 rfl) m1 (fun v J1 hp => ?_) (fun _ _ h => h.elim)
  obtain ⟨r1, rfl, e1, w1⟩ := hp
  have e1 := e1.symm
  subst e1
  have w1 := w1.symm
  subst w1
  show ZZ K (0, 0) 11 [(0, .ref 312)] [.int f1] g1
  exact zz_iret hb hE ⟨Nat.le_refl 0, Nat.le_refl 0⟩ (z_dec dX11_minute 6 rfl) h2
set_option maxRecDepth 20000 in
theorem bX11_policy_0 {K : zK} {P : Option Value → zM → Prop} {X : String → zM → Prop} (hK : zIs K RX11 cX11_policy 1 (some .int) 1 (0, 0) P X) (hw : wOK (kw K)) {I : zM} (t0 : isT (kw K) 11 312) {f1 : Int32} {g1 : zM} (m1 : CT (kG K) (kw K) (kl K) (yX11_plain, cX11_plain, 2, (some .int)) 0 (0, 0) [.ref 312, .int (I 313 0)] I (qE f1 g1) nX) (h2 : P (some (.int f1)) g1) : ZZ K (0, 0) 0 [(0, .ref 312)] [] I := by
  obtain ⟨hb, ho, hnl, hR, hE⟩ := hK
  refine zz_aload_n hb (z_dec dX11_policy 0 rfl) rfl 0 rfl ?_
  refine zz_aload_n hb (z_dec dX11_policy 1 rfl) rfl 0 rfl ?_
  refine zz_getr (k := 0) (q := 313) hb ho rfl ckX11 t0 rfl rfl (rX11_policy 0 rfl) rfl (z_dec dX11_policy 2 rfl) ?_
  refine zz_iconst (v := (0 : Int32)) hb (z_dec dX11_policy 3 rfl) (by decide) ?_
  refine zz_iald (j := 0) hb (show isT (kw K) 20 313 from isT.f (k := 0) t0 hw rfl rfl rfl (by decide)) rfl (zvi rfl (zin rfl)) (z_dec dX11_policy 4 rfl) ?_
  refine zz_inv (as := [.int (I 313 0)]) (d := 0) (mc := (0, 0)) (P := (qE f1 g1)) (X := nX) hb ho hnl hR hE mkX11_plain rfl ckX11 t0 rfl ⟨Nat.le_refl 0, Nat.le_refl 0⟩ rfl (rX11_policy 1 rfl) (rX11_policy 2 rfl) (rX11_policy 3 rfl) rfl (z_dec dX11_policy 5 rfl) m1 (fun v J1 hp => ?_) (fun _ _ h => h.elim)
  obtain ⟨r1, rfl, e1, w1⟩ := hp
  have e1 := e1.symm
  subst e1
  have w1 := w1.symm
  subst w1
  show ZZ K (0, 0) 10 [(0, .ref 312)] [.int f1] g1
  exact zz_iret hb hE ⟨Nat.le_refl 0, Nat.le_refl 0⟩ (z_dec dX11_policy 6 rfl) h2
set_option maxRecDepth 20000 in
theorem bX11_holder_0 {K : zK} {P : Option Value → zM → Prop} {X : String → zM → Prop} (hK : zIs K RX11 cX11_holder 1 (some .int) 1 (0, 0) P X) (hw : wOK (kw K)) {I : zM} (t0 : isT (kw K) 11 312) {f1 : Int32} {g1 : zM} (m1 : CT (kG K) (kw K) (kl K) (yX11_plain, cX11_plain, 2, (some .int)) 0 (0, 0) [.ref 312, .int (I 313 10)] I (qE f1 g1) nX) (h2 : P (some (.int f1)) g1) : ZZ K (0, 0) 0 [(0, .ref 312)] [] I := by
  obtain ⟨hb, ho, hnl, hR, hE⟩ := hK
  refine zz_aload_n hb (z_dec dX11_holder 0 rfl) rfl 0 rfl ?_
  refine zz_aload_n hb (z_dec dX11_holder 1 rfl) rfl 0 rfl ?_
  refine zz_getr (k := 0) (q := 313) hb ho rfl ckX11 t0 rfl rfl (rX11_holder 0 rfl) rfl (z_dec dX11_holder 2 rfl) ?_
  refine zz_bipush (v := (10 : Int32)) hb (z_dec dX11_holder 3 rfl) (by decide) ?_
  refine zz_iald (j := 10) hb (show isT (kw K) 20 313 from isT.f (k := 0) t0 hw rfl rfl rfl (by decide)) rfl (zvi rfl (zin rfl)) (z_dec dX11_holder 4 rfl) ?_
  refine zz_inv (as := [.int (I 313 10)]) (d := 0) (mc := (0, 0)) (P := (qE f1 g1)) (X := nX) hb ho hnl hR hE mkX11_plain rfl ckX11 t0 rfl ⟨Nat.le_refl 0, Nat.le_refl 0⟩ rfl (rX11_holder 1 rfl) (rX11_holder 2 rfl) (rX11_holder 3 rfl) rfl (z_dec dX11_holder 5 rfl) m1 (fun v J1 hp => ?_) (fun _ _ h => h.elim)
  obtain ⟨r1, rfl, e1, w1⟩ := hp
  have e1 := e1.symm
  subst e1
  have w1 := w1.symm
  subst w1
  show ZZ K (0, 0) 11 [(0, .ref 312)] [.int f1] g1
  exact zz_iret hb hE ⟨Nat.le_refl 0, Nat.le_refl 0⟩ (z_dec dX11_holder 6 rfl) h2
set_option maxRecDepth 20000 in
theorem bX11_currentLetter_0 {K : zK} {P : Option Value → zM → Prop} {X : String → zM → Prop} (hK : zIs K RX11 cX11_currentLetter 1 (some .int) 3 (0, 0) P X) (hw : wOK (kw K)) {I : zM} (t0 : isT (kw K) 11 312) {f1 : Int32} {g1 : zM} (m1 : CT (kG K) (kw K) (kl K) (yX11_current, cX11_current, 1, (some .int)) 2 (0, 0) [.ref 312] I (qE f1 g1) nX) {f2 : Int32} {g2 : zM} (m2 : CT (kG K) (kw K) (kl K) (yX11_plain, cX11_plain, 2, (some .int)) 0 (0, 0) [.ref 312, .int f1] g1 (qE f2 g2) nX) (h3 : P (some (.int f2)) g2) : ZZ K (0, 0) 0 [(0, .ref 312)] [] I := by
  obtain ⟨hb, ho, hnl, hR, hE⟩ := hK
  refine zz_aload_n hb (z_dec dX11_currentLetter 0 rfl) rfl 0 rfl ?_
  refine zz_aload_n hb (z_dec dX11_currentLetter 1 rfl) rfl 0 rfl ?_
  refine zz_inv (as := []) (d := 2) (mc := (0, 0)) (P := (qE f1 g1)) (X := nX) hb ho hnl hR hE mkX11_current rfl ckX11 t0 rfl ⟨Nat.le_refl 0, Nat.le_refl 0⟩ rfl (rX11_currentLetter 0 rfl) (rX11_currentLetter 1 rfl) (rX11_currentLetter 2 rfl) rfl (z_dec dX11_currentLetter 2 rfl) m1 (fun v J1 hp => ?_) (fun _ _ h => h.elim)
  obtain ⟨r1, rfl, e1, w1⟩ := hp
  have e1 := e1.symm
  subst e1
  have w1 := w1.symm
  subst w1
  show ZZ K (0, 0) 5 [(0, .ref 312)] [.int f1, .ref 312] g1
  refine zz_inv (as := [.int f1]) (d := 0) (mc := (0, 0)) (P := (qE f2 g2)) (X := nX) hb ho hnl hR hE mkX11_plain rfl ckX11 t0 rfl ⟨Nat.le_refl 0, Nat.le_refl 0⟩ rfl (rX11_currentLetter 3 rfl) (rX11_currentLetter 4 rfl) (rX11_currentLetter 5 rfl) rfl (z_dec dX11_currentLetter 3 rfl) m2 (fun v J2 hp => ?_) (fun _ _ h => h.elim)
  obtain ⟨r2, rfl, e2, w2⟩ := hp
  have e2 := e2.symm
  subst e2
  have w2 := w2.symm
  subst w2
  show ZZ K (0, 0) 8 [(0, .ref 312)] [.int f2] g2
  exact zz_iret hb hE ⟨Nat.le_refl 0, Nat.le_refl 0⟩ (z_dec dX11_currentLetter 4 rfl) h3
set_option maxRecDepth 20000 in
theorem bX11_lastLetter_0 {K : zK} {P : Option Value → zM → Prop} {X : String → zM → Prop} (hK : zIs K RX11 cX11_lastLetter 1 (some .int) 1 (0, 0) P X) (hw : wOK (kw K)) {I : zM} (t0 : isT (kw K) 11 312) {f1 : Int32} {g1 : zM} (m1 : CT (kG K) (kw K) (kl K) (yX11_plain, cX11_plain, 2, (some .int)) 0 (0, 0) [.ref 312, .int (I 313 11)] I (qE f1 g1) nX) (h2 : P (some (.int f1)) g1) : ZZ K (0, 0) 0 [(0, .ref 312)] [] I := by
  obtain ⟨hb, ho, hnl, hR, hE⟩ := hK
  refine zz_aload_n hb (z_dec dX11_lastLetter 0 rfl) rfl 0 rfl ?_
  refine zz_aload_n hb (z_dec dX11_lastLetter 1 rfl) rfl 0 rfl ?_
  refine zz_getr (k := 0) (q := 313) hb ho rfl ckX11 t0 rfl rfl (rX11_lastLetter 0 rfl) rfl (z_dec dX11_lastLetter 2 rfl) ?_
  refine zz_bipush (v := (11 : Int32)) hb (z_dec dX11_lastLetter 3 rfl) (by decide) ?_
  refine zz_iald (j := 11) hb (show isT (kw K) 20 313 from isT.f (k := 0) t0 hw rfl rfl rfl (by decide)) rfl (zvi rfl (zin rfl)) (z_dec dX11_lastLetter 4 rfl) ?_
  refine zz_inv (as := [.int (I 313 11)]) (d := 0) (mc := (0, 0)) (P := (qE f1 g1)) (X := nX) hb ho hnl hR hE mkX11_plain rfl ckX11 t0 rfl ⟨Nat.le_refl 0, Nat.le_refl 0⟩ rfl (rX11_lastLetter 1 rfl) (rX11_lastLetter 2 rfl) (rX11_lastLetter 3 rfl) rfl (z_dec dX11_lastLetter 5 rfl) m1 (fun v J1 hp => ?_) (fun _ _ h => h.elim)
  obtain ⟨r1, rfl, e1, w1⟩ := hp
  have e1 := e1.symm
  subst e1
  have w1 := w1.symm
  subst w1
  show ZZ K (0, 0) 11 [(0, .ref 312)] [.int f1] g1
  exact zz_iret hb hE ⟨Nat.le_refl 0, Nat.le_refl 0⟩ (z_dec dX11_lastLetter 6 rfl) h2
set_option maxRecDepth 20000 in
theorem bX11_runLength_0 {K : zK} {P : Option Value → zM → Prop} {X : String → zM → Prop} (hK : zIs K RX11 cX11_runLength 1 (some .int) 1 (0, 0) P X) (hw : wOK (kw K)) {I : zM} (t0 : isT (kw K) 11 312) {f1 : Int32} {g1 : zM} (m1 : CT (kG K) (kw K) (kl K) (yX11_plain, cX11_plain, 2, (some .int)) 0 (0, 0) [.ref 312, .int (I 313 12)] I (qE f1 g1) nX) (h2 : P (some (.int f1)) g1) : ZZ K (0, 0) 0 [(0, .ref 312)] [] I := by
  obtain ⟨hb, ho, hnl, hR, hE⟩ := hK
  refine zz_aload_n hb (z_dec dX11_runLength 0 rfl) rfl 0 rfl ?_
  refine zz_aload_n hb (z_dec dX11_runLength 1 rfl) rfl 0 rfl ?_
  refine zz_getr (k := 0) (q := 313) hb ho rfl ckX11 t0 rfl rfl (rX11_runLength 0 rfl) rfl (z_dec dX11_runLength 2 rfl) ?_
  refine zz_bipush (v := (12 : Int32)) hb (z_dec dX11_runLength 3 rfl) (by decide) ?_
  refine zz_iald (j := 12) hb (show isT (kw K) 20 313 from isT.f (k := 0) t0 hw rfl rfl rfl (by decide)) rfl (zvi rfl (zin rfl)) (z_dec dX11_runLength 4 rfl) ?_
  refine zz_inv (as := [.int (I 313 12)]) (d := 0) (mc := (0, 0)) (P := (qE f1 g1)) (X := nX) hb ho hnl hR hE mkX11_plain rfl ckX11 t0 rfl ⟨Nat.le_refl 0, Nat.le_refl 0⟩ rfl (rX11_runLength 1 rfl) (rX11_runLength 2 rfl) (rX11_runLength 3 rfl) rfl (z_dec dX11_runLength 5 rfl) m1 (fun v J1 hp => ?_) (fun _ _ h => h.elim)
  obtain ⟨r1, rfl, e1, w1⟩ := hp
  have e1 := e1.symm
  subst e1
  have w1 := w1.symm
  subst w1
  show ZZ K (0, 0) 11 [(0, .ref 312)] [.int f1] g1
  exact zz_iret hb hE ⟨Nat.le_refl 0, Nat.le_refl 0⟩ (z_dec dX11_runLength 6 rfl) h2
set_option maxRecDepth 20000 in
theorem bX11_ink_0 {K : zK} {P : Option Value → zM → Prop} {X : String → zM → Prop} (hK : zIs K RX11 cX11_ink 1 (some .int) 1 (0, 0) P X) (hw : wOK (kw K)) {I : zM} (t0 : isT (kw K) 11 312) {f1 : Int32} {g1 : zM} (m1 : CT (kG K) (kw K) (kl K) (yX11_plain, cX11_plain, 2, (some .int)) 0 (0, 0) [.ref 312, .int (I 313 13)] I (qE f1 g1) nX) (h2 : P (some (.int f1)) g1) : ZZ K (0, 0) 0 [(0, .ref 312)] [] I := by
  obtain ⟨hb, ho, hnl, hR, hE⟩ := hK
  refine zz_aload_n hb (z_dec dX11_ink 0 rfl) rfl 0 rfl ?_
  refine zz_aload_n hb (z_dec dX11_ink 1 rfl) rfl 0 rfl ?_
  refine zz_getr (k := 0) (q := 313) hb ho rfl ckX11 t0 rfl rfl (rX11_ink 0 rfl) rfl (z_dec dX11_ink 2 rfl) ?_
  refine zz_bipush (v := (13 : Int32)) hb (z_dec dX11_ink 3 rfl) (by decide) ?_
  refine zz_iald (j := 13) hb (show isT (kw K) 20 313 from isT.f (k := 0) t0 hw rfl rfl rfl (by decide)) rfl (zvi rfl (zin rfl)) (z_dec dX11_ink 4 rfl) ?_
  refine zz_inv (as := [.int (I 313 13)]) (d := 0) (mc := (0, 0)) (P := (qE f1 g1)) (X := nX) hb ho hnl hR hE mkX11_plain rfl ckX11 t0 rfl ⟨Nat.le_refl 0, Nat.le_refl 0⟩ rfl (rX11_ink 1 rfl) (rX11_ink 2 rfl) (rX11_ink 3 rfl) rfl (z_dec dX11_ink 5 rfl) m1 (fun v J1 hp => ?_) (fun _ _ h => h.elim)
  obtain ⟨r1, rfl, e1, w1⟩ := hp
  have e1 := e1.symm
  subst e1
  have w1 := w1.symm
  subst w1
  show ZZ K (0, 0) 11 [(0, .ref 312)] [.int f1] g1
  exact zz_iret hb hE ⟨Nat.le_refl 0, Nat.le_refl 0⟩ (z_dec dX11_ink 6 rfl) h2
set_option maxRecDepth 20000 in
theorem bX11_refillLeft_0 {K : zK} {P : Option Value → zM → Prop} {X : String → zM → Prop} (hK : zIs K RX11 cX11_refillLeft 1 (some .int) 1 (0, 0) P X) (hw : wOK (kw K)) {I : zM} (t0 : isT (kw K) 11 312) {f1 : Int32} {g1 : zM} (m1 : CT (kG K) (kw K) (kl K) (yX11_plain, cX11_plain, 2, (some .int)) 0 (0, 0) [.ref 312, .int (I 313 14)] I (qE f1 g1) nX) (h2 : P (some (.int f1)) g1) : ZZ K (0, 0) 0 [(0, .ref 312)] [] I := by
  obtain ⟨hb, ho, hnl, hR, hE⟩ := hK
  refine zz_aload_n hb (z_dec dX11_refillLeft 0 rfl) rfl 0 rfl ?_
  refine zz_aload_n hb (z_dec dX11_refillLeft 1 rfl) rfl 0 rfl ?_
  refine zz_getr (k := 0) (q := 313) hb ho rfl ckX11 t0 rfl rfl (rX11_refillLeft 0 rfl) rfl (z_dec dX11_refillLeft 2 rfl) ?_
  refine zz_bipush (v := (14 : Int32)) hb (z_dec dX11_refillLeft 3 rfl) (by decide) ?_
  refine zz_iald (j := 14) hb (show isT (kw K) 20 313 from isT.f (k := 0) t0 hw rfl rfl rfl (by decide)) rfl (zvi rfl (zin rfl)) (z_dec dX11_refillLeft 4 rfl) ?_
  refine zz_inv (as := [.int (I 313 14)]) (d := 0) (mc := (0, 0)) (P := (qE f1 g1)) (X := nX) hb ho hnl hR hE mkX11_plain rfl ckX11 t0 rfl ⟨Nat.le_refl 0, Nat.le_refl 0⟩ rfl (rX11_refillLeft 1 rfl) (rX11_refillLeft 2 rfl) (rX11_refillLeft 3 rfl) rfl (z_dec dX11_refillLeft 5 rfl) m1 (fun v J1 hp => ?_) (fun _ _ h => h.elim)
  obtain ⟨r1, rfl, e1, w1⟩ := hp
  have e1 := e1.symm
  subst e1
  have w1 := w1.symm
  subst w1
  show ZZ K (0, 0) 11 [(0, .ref 312)] [.int f1] g1
  exact zz_iret hb hE ⟨Nat.le_refl 0, Nat.le_refl 0⟩ (z_dec dX11_refillLeft 6 rfl) h2
set_option maxRecDepth 20000 in
theorem bX11_handOverLeft_0 {K : zK} {P : Option Value → zM → Prop} {X : String → zM → Prop} (hK : zIs K RX11 cX11_handOverLeft 1 (some .int) 1 (0, 0) P X) (hw : wOK (kw K)) {I : zM} (t0 : isT (kw K) 11 312) {f1 : Int32} {g1 : zM} (m1 : CT (kG K) (kw K) (kl K) (yX11_plain, cX11_plain, 2, (some .int)) 0 (0, 0) [.ref 312, .int (I 313 15)] I (qE f1 g1) nX) (h2 : P (some (.int f1)) g1) : ZZ K (0, 0) 0 [(0, .ref 312)] [] I := by
  obtain ⟨hb, ho, hnl, hR, hE⟩ := hK
  refine zz_aload_n hb (z_dec dX11_handOverLeft 0 rfl) rfl 0 rfl ?_
  refine zz_aload_n hb (z_dec dX11_handOverLeft 1 rfl) rfl 0 rfl ?_
  refine zz_getr (k := 0) (q := 313) hb ho rfl ckX11 t0 rfl rfl (rX11_handOverLeft 0 rfl) rfl (z_dec dX11_handOverLeft 2 rfl) ?_
  refine zz_bipush (v := (15 : Int32)) hb (z_dec dX11_handOverLeft 3 rfl) (by decide) ?_
  refine zz_iald (j := 15) hb (show isT (kw K) 20 313 from isT.f (k := 0) t0 hw rfl rfl rfl (by decide)) rfl (zvi rfl (zin rfl)) (z_dec dX11_handOverLeft 4 rfl) ?_
  refine zz_inv (as := [.int (I 313 15)]) (d := 0) (mc := (0, 0)) (P := (qE f1 g1)) (X := nX) hb ho hnl hR hE mkX11_plain rfl ckX11 t0 rfl ⟨Nat.le_refl 0, Nat.le_refl 0⟩ rfl (rX11_handOverLeft 1 rfl) (rX11_handOverLeft 2 rfl) (rX11_handOverLeft 3 rfl) rfl (z_dec dX11_handOverLeft 5 rfl) m1 (fun v J1 hp => ?_) (fun _ _ h => h.elim)
  obtain ⟨r1, rfl, e1, w1⟩ := hp
  have e1 := e1.symm
  subst e1
  have w1 := w1.symm
  subst w1
  show ZZ K (0, 0) 11 [(0, .ref 312)] [.int f1] g1
  exact zz_iret hb hE ⟨Nat.le_refl 0, Nat.le_refl 0⟩ (z_dec dX11_handOverLeft 6 rfl) h2
set_option maxRecDepth 20000 in
theorem bX11_nameByte_0 {K : zK} {P : Option Value → zM → Prop} {X : String → zM → Prop} (hK : zIs K RX11 cX11_nameByte 4 (some .int) 2 (0, 0) P X) (hw : wOK (kw K)) {I : zM} (t0 : isT (kw K) 11 312) {v1 : Int32} {v2 : Int32} {f1 : Int32} {g1 : zM} (m1 : CT (kG K) (kw K) (kl K) (yX11_isClerk, cX11_isClerk, 2, (some .boolean)) 1 (0, 0) [.ref 312, .int v1] I (qE f1 g1) nX) (k3 : ∀ (c2 : f1 = 0), ZZ K (0, 0) 15 [(0, .ref 312), (1, .int v1), (2, .int v2)] [.int (0 : Int32), .int (22 : Int32)] g1) (k4 : ∀ (c2 : ¬ f1 = 0), ZZ K (0, 0) 15 [(0, .ref 312), (1, .int v1), (2, .int v2)] [.int v1, .int (22 : Int32)] g1) : ZZ K (0, 0) 0 [(0, .ref 312), (1, .int v1), (2, .int v2)] [] I := by
  obtain ⟨hb, ho, hnl, hR, hE⟩ := hK
  refine zz_bipush (v := (22 : Int32)) hb (z_dec dX11_nameByte 0 rfl) (by decide) ?_
  refine zz_aload_n hb (z_dec dX11_nameByte 1 rfl) rfl 0 rfl ?_
  refine zz_iload_n hb (z_dec dX11_nameByte 2 rfl) rfl 1 rfl ?_
  refine zz_inv (as := [.int v1]) (d := 1) (mc := (0, 0)) (P := (qE f1 g1)) (X := nX) hb ho hnl hR hE mkX11_isClerk rfl ckX11 t0 rfl ⟨Nat.le_refl 0, Nat.le_refl 0⟩ rfl (rX11_nameByte 0 rfl) (rX11_nameByte 1 rfl) (rX11_nameByte 2 rfl) rfl (z_dec dX11_nameByte 3 rfl) m1 (fun v J1 hp => ?_) (fun _ _ h => h.elim)
  obtain ⟨r1, rfl, e1, w1⟩ := hp
  have e1 := e1.symm
  subst e1
  have w1 := w1.symm
  subst w1
  show ZZ K (0, 0) 7 [(0, .ref 312), (1, .int v1), (2, .int v2)] [.int f1, .int (22 : Int32)] g1
  refine zz_if_eq (tgt := 14) hb (z_dec dX11_nameByte 4 rfl) (by decide) (fun c2 => ?_) (fun c2 => ?_)
  · refine zz_iconst (v := (0 : Int32)) hb (z_dec dX11_nameByte 7 rfl) (by decide) ?_
    exact (k3 c2)
  · refine zz_iload_n hb (z_dec dX11_nameByte 5 rfl) rfl 1 rfl ?_
    refine zz_goto (tgt := 15) hb (z_dec dX11_nameByte 6 rfl) (by decide) ?_
    exact (k4 c2)
set_option maxRecDepth 20000 in
theorem bX11_nameByte_15 {K : zK} {P : Option Value → zM → Prop} {X : String → zM → Prop} (hK : zIs K RX11 cX11_nameByte 4 (some .int) 2 (0, 0) P X) (hw : wOK (kw K)) {I : zM} (t0 : isT (kw K) 11 312) {v1 : Int32} {v2 : Int32} {vs0 : Int32} {vs1 : Int32} {f1 : Int32} {g1 : zM} (m1 : CT (kG K) (kw K) (kl K) (yX11_isClerk, cX11_isClerk, 2, (some .boolean)) 1 (0, 0) [.ref 312, .int v1] I (qE f1 g1) nX) (k3 : ∀ (c2 : f1 = 0), ZZ K (0, 0) 45 [(0, .ref 312), (1, .int v1), (2, .int v2), (3, .int (vs0 + (vs1 * (7 : Int32))))] [.ref 312] g1) (h4 : ∀ (c2 : ¬ f1 = 0), vp_in (vs0 + (vs1 * (7 : Int32))) 1600) {f5 : Int32} {g5 : zM} (m5 : ∀ (c2 : ¬ f1 = 0), CT (kG K) (kw K) (kl K) (yX11_in, cX11_in, 3, (some .boolean)) 0 (0, 0) [.int v2, .int (0 : Int32), .int ((g1 313 (vs0 + (vs1 * (7 : Int32))).toNatClampNeg) - (1 : Int32))] g1 (qE f5 g5) nX) (k7 : ∀ (c2 : ¬ f1 = 0) (c6 : ¬ f5 = 0), ZZ K (0, 0) 50 [(0, .ref 312), (1, .int v1), (2, .int v2), (3, .int (vs0 + (vs1 * (7 : Int32))))] [.int (0 : Int32), .ref 312] g5) (k8 : ∀ (c2 : ¬ f1 = 0) (c6 : f5 = 0), ZZ K (0, 0) 45 [(0, .ref 312), (1, .int v1), (2, .int v2), (3, .int (vs0 + (vs1 * (7 : Int32))))] [.ref 312] g5) : ZZ K (0, 0) 15 [(0, .ref 312), (1, .int v1), (2, .int v2)] [.int vs1, .int vs0] I := by
  obtain ⟨hb, ho, hnl, hR, hE⟩ := hK
  refine zz_bipush (v := (7 : Int32)) hb (z_dec dX11_nameByte 8 rfl) (by decide) ?_
  refine zz_imul hb (z_dec dX11_nameByte 9 rfl) ?_
  refine zz_iadd hb (z_dec dX11_nameByte 10 rfl) ?_
  refine zz_istore_n (L' := [(0, .ref 312), (1, .int v1), (2, .int v2), (3, .int (vs0 + (vs1 * (7 : Int32))))]) hb (z_dec dX11_nameByte 11 rfl) rfl hnl rfl [1, 2, 3, 0] rfl ?_
  refine zz_aload_n hb (z_dec dX11_nameByte 12 rfl) rfl 0 rfl ?_
  refine zz_aload_n hb (z_dec dX11_nameByte 13 rfl) rfl 0 rfl ?_
  refine zz_iload_n hb (z_dec dX11_nameByte 14 rfl) rfl 1 rfl ?_
  refine zz_inv (as := [.int v1]) (d := 1) (mc := (0, 0)) (P := (qE f1 g1)) (X := nX) hb ho hnl hR hE mkX11_isClerk rfl ckX11 t0 rfl ⟨Nat.le_refl 0, Nat.le_refl 0⟩ rfl (rX11_nameByte 0 rfl) (rX11_nameByte 1 rfl) (rX11_nameByte 2 rfl) rfl (z_dec dX11_nameByte 15 rfl) m1 (fun v J1 hp => ?_) (fun _ _ h => h.elim)
  obtain ⟨r1, rfl, e1, w1⟩ := hp
  have e1 := e1.symm
  subst e1
  have w1 := w1.symm
  subst w1
  show ZZ K (0, 0) 26 [(0, .ref 312), (1, .int v1), (2, .int v2), (3, .int (vs0 + (vs1 * (7 : Int32))))] [.int f1, .ref 312] g1
  refine zz_if_eq (tgt := 45) hb (z_dec dX11_nameByte 16 rfl) (by decide) (fun c2 => ?_) (fun c2 => ?_)
  · exact (k3 c2)
  · refine zz_iload_n hb (z_dec dX11_nameByte 17 rfl) rfl 2 rfl ?_
    refine zz_iconst (v := (0 : Int32)) hb (z_dec dX11_nameByte 18 rfl) (by decide) ?_
    refine zz_aload_n hb (z_dec dX11_nameByte 19 rfl) rfl 0 rfl ?_
    refine zz_getr (k := 0) (q := 313) hb ho rfl ckX11 t0 rfl rfl (rX11_nameByte 3 rfl) rfl (z_dec dX11_nameByte 20 rfl) ?_
    refine zz_iload_n hb (z_dec dX11_nameByte 21 rfl) rfl 3 rfl ?_
    refine zz_iald (j := (vs0 + (vs1 * (7 : Int32))).toNatClampNeg) hb (show isT (kw K) 20 313 from isT.f (k := 0) t0 hw rfl rfl rfl (by decide)) rfl (zvi rfl (h4 c2)) (z_dec dX11_nameByte 22 rfl) ?_
    refine zz_iconst (v := (1 : Int32)) hb (z_dec dX11_nameByte 23 rfl) (by decide) ?_
    refine zz_isub hb (z_dec dX11_nameByte 24 rfl) ?_
    refine zz_invS (as := [.int v2, .int (0 : Int32), .int ((g1 313 (vs0 + (vs1 * (7 : Int32))).toNatClampNeg) - (1 : Int32))]) (d := 0) (mc := (0, 0)) (P := (qE f5 g5)) (X := nX) hb ho hnl hR hE mkX11_in rfl rfl ⟨Nat.le_refl 0, Nat.le_refl 0⟩ rfl (rX11_nameByte 4 rfl) (rX11_nameByte 5 rfl) rfl (z_dec dX11_nameByte 25 rfl) (m5 c2) (fun v J5 hp => ?_) (fun _ _ h => h.elim)
    obtain ⟨r5, rfl, e5, w5⟩ := hp
    have e5 := e5.symm
    subst e5
    have w5 := w5.symm
    subst w5
    show ZZ K (0, 0) 42 [(0, .ref 312), (1, .int v1), (2, .int v2), (3, .int (vs0 + (vs1 * (7 : Int32))))] [.int f5, .ref 312] g5
    refine zz_if_ne (tgt := 49) hb (z_dec dX11_nameByte 26 rfl) (by decide) (fun c6 => ?_) (fun c6 => ?_)
    · refine zz_iconst (v := (0 : Int32)) hb (z_dec dX11_nameByte 29 rfl) (by decide) ?_
      exact (k7 c2 c6)
    · exact (k8 c2 c6)
set_option maxRecDepth 20000 in
theorem bX11_nameByte_45 {K : zK} {P : Option Value → zM → Prop} {X : String → zM → Prop} (hK : zIs K RX11 cX11_nameByte 4 (some .int) 2 (0, 0) P X) (hw : wOK (kw K)) {I : zM} (t0 : isT (kw K) 11 312) {v1 : Int32} {v2 : Int32} {v3 : Int32} (ts0 : isT (kw K) 11 312) (k1 : ZZ K (0, 0) 50 [(0, .ref 312), (1, .int v1), (2, .int v2), (3, .int v3)] [.int (1 : Int32), .ref 312] I) : ZZ K (0, 0) 45 [(0, .ref 312), (1, .int v1), (2, .int v2), (3, .int v3)] [.ref 312] I := by
  obtain ⟨hb, ho, hnl, hR, hE⟩ := hK
  refine zz_iconst (v := (1 : Int32)) hb (z_dec dX11_nameByte 27 rfl) (by decide) ?_
  refine zz_goto (tgt := 50) hb (z_dec dX11_nameByte 28 rfl) (by decide) ?_
  exact k1
set_option maxRecDepth 20000 in
theorem bX11_nameByte_50 {K : zK} {P : Option Value → zM → Prop} {X : String → zM → Prop} (hK : zIs K RX11 cX11_nameByte 4 (some .int) 2 (0, 0) P X) (hw : wOK (kw K)) {I : zM} (t0 : isT (kw K) 11 312) {v1 : Int32} {v2 : Int32} {v3 : Int32} (ts0 : isT (kw K) 11 312) {vs1 : Int32} {f1 : Int32} {g1 : zM} (m1 : CT (kG K) (kw K) (kl K) (yX11_fails, cX11_fails, 4, (some .boolean)) 0 (0, 0) [.ref 312, .int vs1, .int (0 : Int32), .int (0 : Int32)] I (qE f1 g1) nX) (h3 : ∀ (c2 : f1 = 0), vp_in ((v3 + (1 : Int32)) + v2) 1600) (h4 : ∀ (c2 : f1 = 0), P (some (.int (g1 313 ((v3 + (1 : Int32)) + v2).toNatClampNeg))) g1) (h5 : ∀ (c2 : ¬ f1 = 0), P (some (.int (0 : Int32))) g1) : ZZ K (0, 0) 50 [(0, .ref 312), (1, .int v1), (2, .int v2), (3, .int v3)] [.int vs1, .ref 312] I := by
  obtain ⟨hb, ho, hnl, hR, hE⟩ := hK
  refine zz_iconst (v := (0 : Int32)) hb (z_dec dX11_nameByte 30 rfl) (by decide) ?_
  refine zz_iconst (v := (0 : Int32)) hb (z_dec dX11_nameByte 31 rfl) (by decide) ?_
  refine zz_inv (as := [.int vs1, .int (0 : Int32), .int (0 : Int32)]) (d := 0) (mc := (0, 0)) (P := (qE f1 g1)) (X := nX) hb ho hnl hR hE mkX11_fails rfl ckX11 ts0 rfl ⟨Nat.le_refl 0, Nat.le_refl 0⟩ rfl (rX11_nameByte 6 rfl) (rX11_nameByte 7 rfl) (rX11_nameByte 8 rfl) rfl (z_dec dX11_nameByte 32 rfl) m1 (fun v J1 hp => ?_) (fun _ _ h => h.elim)
  obtain ⟨r1, rfl, e1, w1⟩ := hp
  have e1 := e1.symm
  subst e1
  have w1 := w1.symm
  subst w1
  show ZZ K (0, 0) 55 [(0, .ref 312), (1, .int v1), (2, .int v2), (3, .int v3)] [.int f1] g1
  refine zz_if_eq (tgt := 60) hb (z_dec dX11_nameByte 33 rfl) (by decide) (fun c2 => ?_) (fun c2 => ?_)
  · refine zz_aload_n hb (z_dec dX11_nameByte 36 rfl) rfl 0 rfl ?_
    refine zz_getr (k := 0) (q := 313) hb ho rfl ckX11 t0 rfl rfl (rX11_nameByte 3 rfl) rfl (z_dec dX11_nameByte 37 rfl) ?_
    refine zz_iload_n hb (z_dec dX11_nameByte 38 rfl) rfl 3 rfl ?_
    refine zz_iconst (v := (1 : Int32)) hb (z_dec dX11_nameByte 39 rfl) (by decide) ?_
    refine zz_iadd hb (z_dec dX11_nameByte 40 rfl) ?_
    refine zz_iload_n hb (z_dec dX11_nameByte 41 rfl) rfl 2 rfl ?_
    refine zz_iadd hb (z_dec dX11_nameByte 42 rfl) ?_
    refine zz_iald (j := ((v3 + (1 : Int32)) + v2).toNatClampNeg) hb (show isT (kw K) 20 313 from isT.f (k := 0) t0 hw rfl rfl rfl (by decide)) rfl (zvi rfl (h3 c2)) (z_dec dX11_nameByte 43 rfl) ?_
    exact zz_iret hb hE ⟨Nat.le_refl 0, Nat.le_refl 0⟩ (z_dec dX11_nameByte 44 rfl) (h4 c2)
  · refine zz_iconst (v := (0 : Int32)) hb (z_dec dX11_nameByte 34 rfl) (by decide) ?_
    exact zz_iret hb hE ⟨Nat.le_refl 0, Nat.le_refl 0⟩ (z_dec dX11_nameByte 35 rfl) (h5 c2)
set_option maxRecDepth 20000 in
theorem bX11_findClerk_0 {K : zK} {P : Option Value → zM → Prop} {X : String → zM → Prop} (hK : zIs K RX11 cX11_findClerk 2 (some .int) 1 (0, 0) P X) (hw : wOK (kw K)) {I : zM} (t0 : isT (kw K) 11 312) {f1 : Int32} {g1 : zM} (m1 : CT (kG K) (kw K) (kl K) (yX11_clerkNamed, cX11_clerkNamed, 7, (some .int)) 0 (0, 0) [.ref 312, .int (0 : Int32), .int (I 312 4)] I (qE f1 g1) nX) (k3 : ∀ (c2 : ¬ f1 = (-1 : Int32)), ZZ K (0, 0) 21 [(0, .ref 312), (1, .int f1)] [.int (0 : Int32), .ref 312] g1) (k4 : ∀ (c2 : f1 = (-1 : Int32)), ZZ K (0, 0) 21 [(0, .ref 312), (1, .int f1)] [.int (1 : Int32), .ref 312] g1) : ZZ K (0, 0) 0 [(0, .ref 312)] [] I := by
  obtain ⟨hb, ho, hnl, hR, hE⟩ := hK
  refine zz_aload_n hb (z_dec dX11_findClerk 0 rfl) rfl 0 rfl ?_
  refine zz_iconst (v := (0 : Int32)) hb (z_dec dX11_findClerk 1 rfl) (by decide) ?_
  refine zz_aload_n hb (z_dec dX11_findClerk 2 rfl) rfl 0 rfl ?_
  refine zz_get (k := 4) hb ho ckX11 t0 rfl rfl (rX11_findClerk 0 rfl) rfl (z_dec dX11_findClerk 3 rfl) ?_
  refine zz_inv (as := [.int (0 : Int32), .int (I 312 4)]) (d := 0) (mc := (0, 0)) (P := (qE f1 g1)) (X := nX) hb ho hnl hR hE mkX11_clerkNamed rfl ckX11 t0 rfl ⟨Nat.le_refl 0, Nat.le_refl 0⟩ rfl (rX11_findClerk 1 rfl) (rX11_findClerk 2 rfl) (rX11_findClerk 3 rfl) rfl (z_dec dX11_findClerk 4 rfl) m1 (fun v J1 hp => ?_) (fun _ _ h => h.elim)
  obtain ⟨r1, rfl, e1, w1⟩ := hp
  have e1 := e1.symm
  subst e1
  have w1 := w1.symm
  subst w1
  show ZZ K (0, 0) 9 [(0, .ref 312)] [.int f1] g1
  refine zz_istore_n (L' := [(0, .ref 312), (1, .int f1)]) hb (z_dec dX11_findClerk 5 rfl) rfl hnl rfl [1, 0] rfl ?_
  refine zz_aload_n hb (z_dec dX11_findClerk 6 rfl) rfl 0 rfl ?_
  refine zz_iload_n hb (z_dec dX11_findClerk 7 rfl) rfl 1 rfl ?_
  refine zz_iconst (v := (-1 : Int32)) hb (z_dec dX11_findClerk 8 rfl) (by decide) ?_
  refine zz_icmp_ne (tgt := 20) hb (z_dec dX11_findClerk 9 rfl) (by decide) (fun c2 => ?_) (fun c2 => ?_)
  · refine zz_iconst (v := (0 : Int32)) hb (z_dec dX11_findClerk 12 rfl) (by decide) ?_
    exact (k3 c2)
  · refine zz_iconst (v := (1 : Int32)) hb (z_dec dX11_findClerk 10 rfl) (by decide) ?_
    refine zz_goto (tgt := 21) hb (z_dec dX11_findClerk 11 rfl) (by decide) ?_
    exact (k4 c2)
set_option maxRecDepth 20000 in
theorem bX11_findClerk_21 {K : zK} {P : Option Value → zM → Prop} {X : String → zM → Prop} (hK : zIs K RX11 cX11_findClerk 2 (some .int) 1 (0, 0) P X) (hw : wOK (kw K)) {I : zM} (t0 : isT (kw K) 11 312) {v1 : Int32} (ts0 : isT (kw K) 11 312) {vs1 : Int32} {f1 : Int32} {g1 : zM} (m1 : CT (kG K) (kw K) (kl K) (yX11_fails, cX11_fails, 4, (some .boolean)) 0 (0, 0) [.ref 312, .int vs1, .int (0 : Int32), .int (0 : Int32)] I (qE f1 g1) nX) (h3 : ∀ (c2 : f1 = 0), P (some (.int v1)) g1) (h4 : ∀ (c2 : ¬ f1 = 0), P (some (.int (0 : Int32))) g1) : ZZ K (0, 0) 21 [(0, .ref 312), (1, .int v1)] [.int vs1, .ref 312] I := by
  obtain ⟨hb, ho, hnl, hR, hE⟩ := hK
  refine zz_iconst (v := (0 : Int32)) hb (z_dec dX11_findClerk 13 rfl) (by decide) ?_
  refine zz_iconst (v := (0 : Int32)) hb (z_dec dX11_findClerk 14 rfl) (by decide) ?_
  refine zz_inv (as := [.int vs1, .int (0 : Int32), .int (0 : Int32)]) (d := 0) (mc := (0, 0)) (P := (qE f1 g1)) (X := nX) hb ho hnl hR hE mkX11_fails rfl ckX11 ts0 rfl ⟨Nat.le_refl 0, Nat.le_refl 0⟩ rfl (rX11_findClerk 4 rfl) (rX11_findClerk 5 rfl) (rX11_findClerk 6 rfl) rfl (z_dec dX11_findClerk 15 rfl) m1 (fun v J1 hp => ?_) (fun _ _ h => h.elim)
  obtain ⟨r1, rfl, e1, w1⟩ := hp
  have e1 := e1.symm
  subst e1
  have w1 := w1.symm
  subst w1
  show ZZ K (0, 0) 26 [(0, .ref 312), (1, .int v1)] [.int f1] g1
  refine zz_if_eq (tgt := 31) hb (z_dec dX11_findClerk 16 rfl) (by decide) (fun c2 => ?_) (fun c2 => ?_)
  · refine zz_iload_n hb (z_dec dX11_findClerk 19 rfl) rfl 1 rfl ?_
    exact zz_iret hb hE ⟨Nat.le_refl 0, Nat.le_refl 0⟩ (z_dec dX11_findClerk 20 rfl) (h3 c2)
  · refine zz_iconst (v := (0 : Int32)) hb (z_dec dX11_findClerk 17 rfl) (by decide) ?_
    exact zz_iret hb hE ⟨Nat.le_refl 0, Nat.le_refl 0⟩ (z_dec dX11_findClerk 18 rfl) (h4 c2)
set_option maxRecDepth 20000 in
theorem bX11_field_0 {K : zK} {P : Option Value → zM → Prop} {X : String → zM → Prop} (hK : zIs K RX11 cX11_field 3 (some .int) 2 (0, 0) P X) (hw : wOK (kw K)) {I : zM} (t0 : isT (kw K) 11 312) {v1 : Int32} {v2 : Int32} {f1 : Int32} {g1 : zM} (m1 : CT (kG K) (kw K) (kl K) (yX11_isLetter, cX11_isLetter, 2, (some .boolean)) 1 (0, 0) [.ref 312, .int v1] I (qE f1 g1) nX) (k3 : ∀ (c2 : ¬ f1 = 0), ZZ K (0, 0) 14 [(0, .ref 312), (1, .int v1), (2, .int v2)] [.int (0 : Int32), .ref 312] g1) (k4 : ∀ (c2 : f1 = 0), ZZ K (0, 0) 14 [(0, .ref 312), (1, .int v1), (2, .int v2)] [.int (1 : Int32), .ref 312] g1) : ZZ K (0, 0) 0 [(0, .ref 312), (1, .int v1), (2, .int v2)] [] I := by
  obtain ⟨hb, ho, hnl, hR, hE⟩ := hK
  refine zz_aload_n hb (z_dec dX11_field 0 rfl) rfl 0 rfl ?_
  refine zz_aload_n hb (z_dec dX11_field 1 rfl) rfl 0 rfl ?_
  refine zz_iload_n hb (z_dec dX11_field 2 rfl) rfl 1 rfl ?_
  refine zz_inv (as := [.int v1]) (d := 1) (mc := (0, 0)) (P := (qE f1 g1)) (X := nX) hb ho hnl hR hE mkX11_isLetter rfl ckX11 t0 rfl ⟨Nat.le_refl 0, Nat.le_refl 0⟩ rfl (rX11_field 0 rfl) (rX11_field 1 rfl) (rX11_field 2 rfl) rfl (z_dec dX11_field 3 rfl) m1 (fun v J1 hp => ?_) (fun _ _ h => h.elim)
  obtain ⟨r1, rfl, e1, w1⟩ := hp
  have e1 := e1.symm
  subst e1
  have w1 := w1.symm
  subst w1
  show ZZ K (0, 0) 6 [(0, .ref 312), (1, .int v1), (2, .int v2)] [.int f1, .ref 312] g1
  refine zz_if_ne (tgt := 13) hb (z_dec dX11_field 4 rfl) (by decide) (fun c2 => ?_) (fun c2 => ?_)
  · refine zz_iconst (v := (0 : Int32)) hb (z_dec dX11_field 7 rfl) (by decide) ?_
    exact (k3 c2)
  · refine zz_iconst (v := (1 : Int32)) hb (z_dec dX11_field 5 rfl) (by decide) ?_
    refine zz_goto (tgt := 14) hb (z_dec dX11_field 6 rfl) (by decide) ?_
    exact (k4 c2)
set_option maxRecDepth 20000 in
theorem bX11_field_14 {K : zK} {P : Option Value → zM → Prop} {X : String → zM → Prop} (hK : zIs K RX11 cX11_field 3 (some .int) 2 (0, 0) P X) (hw : wOK (kw K)) {I : zM} (t0 : isT (kw K) 11 312) {v1 : Int32} {v2 : Int32} (ts0 : isT (kw K) 11 312) {vs1 : Int32} {f1 : Int32} {g1 : zM} (m1 : CT (kG K) (kw K) (kl K) (yX11_fails, cX11_fails, 4, (some .boolean)) 0 (0, 0) [.ref 312, .int vs1, .int (0 : Int32), .int (0 : Int32)] I (qE f1 g1) nX) {f3 : Int32} {g3 : zM} (m3 : ∀ (c2 : f1 = 0), CT (kG K) (kw K) (kl K) (yX11_of, cX11_of, 3, (some .int)) 0 (0, 0) [.ref 312, .int v1, .int v2] g1 (qE f3 g3) nX) (h4 : ∀ (c2 : f1 = 0), P (some (.int f3)) g3) (h5 : ∀ (c2 : ¬ f1 = 0), P (some (.int (0 : Int32))) g1) : ZZ K (0, 0) 14 [(0, .ref 312), (1, .int v1), (2, .int v2)] [.int vs1, .ref 312] I := by
  obtain ⟨hb, ho, hnl, hR, hE⟩ := hK
  refine zz_iconst (v := (0 : Int32)) hb (z_dec dX11_field 8 rfl) (by decide) ?_
  refine zz_iconst (v := (0 : Int32)) hb (z_dec dX11_field 9 rfl) (by decide) ?_
  refine zz_inv (as := [.int vs1, .int (0 : Int32), .int (0 : Int32)]) (d := 0) (mc := (0, 0)) (P := (qE f1 g1)) (X := nX) hb ho hnl hR hE mkX11_fails rfl ckX11 ts0 rfl ⟨Nat.le_refl 0, Nat.le_refl 0⟩ rfl (rX11_field 3 rfl) (rX11_field 4 rfl) (rX11_field 5 rfl) rfl (z_dec dX11_field 10 rfl) m1 (fun v J1 hp => ?_) (fun _ _ h => h.elim)
  obtain ⟨r1, rfl, e1, w1⟩ := hp
  have e1 := e1.symm
  subst e1
  have w1 := w1.symm
  subst w1
  show ZZ K (0, 0) 19 [(0, .ref 312), (1, .int v1), (2, .int v2)] [.int f1] g1
  refine zz_if_eq (tgt := 24) hb (z_dec dX11_field 11 rfl) (by decide) (fun c2 => ?_) (fun c2 => ?_)
  · refine zz_aload_n hb (z_dec dX11_field 14 rfl) rfl 0 rfl ?_
    refine zz_iload_n hb (z_dec dX11_field 15 rfl) rfl 1 rfl ?_
    refine zz_iload_n hb (z_dec dX11_field 16 rfl) rfl 2 rfl ?_
    refine zz_inv (as := [.int v1, .int v2]) (d := 0) (mc := (0, 0)) (P := (qE f3 g3)) (X := nX) hb ho hnl hR hE mkX11_of rfl ckX11 t0 rfl ⟨Nat.le_refl 0, Nat.le_refl 0⟩ rfl (rX11_field 6 rfl) (rX11_field 7 rfl) (rX11_field 8 rfl) rfl (z_dec dX11_field 17 rfl) (m3 c2) (fun v J3 hp => ?_) (fun _ _ h => h.elim)
    obtain ⟨r3, rfl, e3, w3⟩ := hp
    have e3 := e3.symm
    subst e3
    have w3 := w3.symm
    subst w3
    show ZZ K (0, 0) 30 [(0, .ref 312), (1, .int v1), (2, .int v2)] [.int f3] g3
    exact zz_iret hb hE ⟨Nat.le_refl 0, Nat.le_refl 0⟩ (z_dec dX11_field 18 rfl) (h4 c2)
  · refine zz_iconst (v := (0 : Int32)) hb (z_dec dX11_field 12 rfl) (by decide) ?_
    exact zz_iret hb hE ⟨Nat.le_refl 0, Nat.le_refl 0⟩ (z_dec dX11_field 13 rfl) (h5 c2)
set_option maxRecDepth 20000 in
theorem bX11_clerkOf_0 {K : zK} {P : Option Value → zM → Prop} {X : String → zM → Prop} (hK : zIs K RX11 cX11_clerkOf 2 (some .int) 3 (0, 0) P X) (hw : wOK (kw K)) {I : zM} (t0 : isT (kw K) 11 312) {v1 : Int32} {f1 : Int32} {g1 : zM} (m1 : CT (kG K) (kw K) (kl K) (yX11_field, cX11_field, 3, (some .int)) 2 (0, 0) [.ref 312, .int v1, .int (0 : Int32)] I (qE f1 g1) nX) (h2 : P (some (.int f1)) g1) : ZZ K (0, 0) 0 [(0, .ref 312), (1, .int v1)] [] I := by
  obtain ⟨hb, ho, hnl, hR, hE⟩ := hK
  refine zz_aload_n hb (z_dec dX11_clerkOf 0 rfl) rfl 0 rfl ?_
  refine zz_iload_n hb (z_dec dX11_clerkOf 1 rfl) rfl 1 rfl ?_
  refine zz_iconst (v := (0 : Int32)) hb (z_dec dX11_clerkOf 2 rfl) (by decide) ?_
  refine zz_inv (as := [.int v1, .int (0 : Int32)]) (d := 2) (mc := (0, 0)) (P := (qE f1 g1)) (X := nX) hb ho hnl hR hE mkX11_field rfl ckX11 t0 rfl ⟨Nat.le_refl 0, Nat.le_refl 0⟩ rfl (rX11_clerkOf 0 rfl) (rX11_clerkOf 1 rfl) (rX11_clerkOf 2 rfl) rfl (z_dec dX11_clerkOf 3 rfl) m1 (fun v J1 hp => ?_) (fun _ _ h => h.elim)
  obtain ⟨r1, rfl, e1, w1⟩ := hp
  have e1 := e1.symm
  subst e1
  have w1 := w1.symm
  subst w1
  show ZZ K (0, 0) 6 [(0, .ref 312), (1, .int v1)] [.int f1] g1
  exact zz_iret hb hE ⟨Nat.le_refl 0, Nat.le_refl 0⟩ (z_dec dX11_clerkOf 4 rfl) h2
set_option maxRecDepth 20000 in
theorem bX11_length_0 {K : zK} {P : Option Value → zM → Prop} {X : String → zM → Prop} (hK : zIs K RX11 cX11_length 2 (some .int) 3 (0, 0) P X) (hw : wOK (kw K)) {I : zM} (t0 : isT (kw K) 11 312) {v1 : Int32} {f1 : Int32} {g1 : zM} (m1 : CT (kG K) (kw K) (kl K) (yX11_field, cX11_field, 3, (some .int)) 2 (0, 0) [.ref 312, .int v1, .int (1 : Int32)] I (qE f1 g1) nX) (h2 : P (some (.int f1)) g1) : ZZ K (0, 0) 0 [(0, .ref 312), (1, .int v1)] [] I := by
  obtain ⟨hb, ho, hnl, hR, hE⟩ := hK
  refine zz_aload_n hb (z_dec dX11_length 0 rfl) rfl 0 rfl ?_
  refine zz_iload_n hb (z_dec dX11_length 1 rfl) rfl 1 rfl ?_
  refine zz_iconst (v := (1 : Int32)) hb (z_dec dX11_length 2 rfl) (by decide) ?_
  refine zz_inv (as := [.int v1, .int (1 : Int32)]) (d := 2) (mc := (0, 0)) (P := (qE f1 g1)) (X := nX) hb ho hnl hR hE mkX11_field rfl ckX11 t0 rfl ⟨Nat.le_refl 0, Nat.le_refl 0⟩ rfl (rX11_length 0 rfl) (rX11_length 1 rfl) (rX11_length 2 rfl) rfl (z_dec dX11_length 3 rfl) m1 (fun v J1 hp => ?_) (fun _ _ h => h.elim)
  obtain ⟨r1, rfl, e1, w1⟩ := hp
  have e1 := e1.symm
  subst e1
  have w1 := w1.symm
  subst w1
  show ZZ K (0, 0) 6 [(0, .ref 312), (1, .int v1)] [.int f1] g1
  exact zz_iret hb hE ⟨Nat.le_refl 0, Nat.le_refl 0⟩ (z_dec dX11_length 4 rfl) h2
set_option maxRecDepth 20000 in
theorem bX11_arrival_0 {K : zK} {P : Option Value → zM → Prop} {X : String → zM → Prop} (hK : zIs K RX11 cX11_arrival 2 (some .int) 3 (0, 0) P X) (hw : wOK (kw K)) {I : zM} (t0 : isT (kw K) 11 312) {v1 : Int32} {f1 : Int32} {g1 : zM} (m1 : CT (kG K) (kw K) (kl K) (yX11_field, cX11_field, 3, (some .int)) 2 (0, 0) [.ref 312, .int v1, .int (2 : Int32)] I (qE f1 g1) nX) (h2 : P (some (.int f1)) g1) : ZZ K (0, 0) 0 [(0, .ref 312), (1, .int v1)] [] I := by
  obtain ⟨hb, ho, hnl, hR, hE⟩ := hK
  refine zz_aload_n hb (z_dec dX11_arrival 0 rfl) rfl 0 rfl ?_
  refine zz_iload_n hb (z_dec dX11_arrival 1 rfl) rfl 1 rfl ?_
  refine zz_iconst (v := (2 : Int32)) hb (z_dec dX11_arrival 2 rfl) (by decide) ?_
  refine zz_inv (as := [.int v1, .int (2 : Int32)]) (d := 2) (mc := (0, 0)) (P := (qE f1 g1)) (X := nX) hb ho hnl hR hE mkX11_field rfl ckX11 t0 rfl ⟨Nat.le_refl 0, Nat.le_refl 0⟩ rfl (rX11_arrival 0 rfl) (rX11_arrival 1 rfl) (rX11_arrival 2 rfl) rfl (z_dec dX11_arrival 3 rfl) m1 (fun v J1 hp => ?_) (fun _ _ h => h.elim)
  obtain ⟨r1, rfl, e1, w1⟩ := hp
  have e1 := e1.symm
  subst e1
  have w1 := w1.symm
  subst w1
  show ZZ K (0, 0) 6 [(0, .ref 312), (1, .int v1)] [.int f1] g1
  exact zz_iret hb hE ⟨Nat.le_refl 0, Nat.le_refl 0⟩ (z_dec dX11_arrival 4 rfl) h2
set_option maxRecDepth 20000 in
theorem bX11_deadline_0 {K : zK} {P : Option Value → zM → Prop} {X : String → zM → Prop} (hK : zIs K RX11 cX11_deadline 2 (some .int) 3 (0, 0) P X) (hw : wOK (kw K)) {I : zM} (t0 : isT (kw K) 11 312) {v1 : Int32} {f1 : Int32} {g1 : zM} (m1 : CT (kG K) (kw K) (kl K) (yX11_field, cX11_field, 3, (some .int)) 2 (0, 0) [.ref 312, .int v1, .int (3 : Int32)] I (qE f1 g1) nX) (h2 : P (some (.int f1)) g1) : ZZ K (0, 0) 0 [(0, .ref 312), (1, .int v1)] [] I := by
  obtain ⟨hb, ho, hnl, hR, hE⟩ := hK
  refine zz_aload_n hb (z_dec dX11_deadline 0 rfl) rfl 0 rfl ?_
  refine zz_iload_n hb (z_dec dX11_deadline 1 rfl) rfl 1 rfl ?_
  refine zz_iconst (v := (3 : Int32)) hb (z_dec dX11_deadline 2 rfl) (by decide) ?_
  refine zz_inv (as := [.int v1, .int (3 : Int32)]) (d := 2) (mc := (0, 0)) (P := (qE f1 g1)) (X := nX) hb ho hnl hR hE mkX11_field rfl ckX11 t0 rfl ⟨Nat.le_refl 0, Nat.le_refl 0⟩ rfl (rX11_deadline 0 rfl) (rX11_deadline 1 rfl) (rX11_deadline 2 rfl) rfl (z_dec dX11_deadline 3 rfl) m1 (fun v J1 hp => ?_) (fun _ _ h => h.elim)
  obtain ⟨r1, rfl, e1, w1⟩ := hp
  have e1 := e1.symm
  subst e1
  have w1 := w1.symm
  subst w1
  show ZZ K (0, 0) 6 [(0, .ref 312), (1, .int v1)] [.int f1] g1
  exact zz_iret hb hE ⟨Nat.le_refl 0, Nat.le_refl 0⟩ (z_dec dX11_deadline 4 rfl) h2
set_option maxRecDepth 20000 in
theorem bX11_priority_0 {K : zK} {P : Option Value → zM → Prop} {X : String → zM → Prop} (hK : zIs K RX11 cX11_priority 2 (some .int) 3 (0, 0) P X) (hw : wOK (kw K)) {I : zM} (t0 : isT (kw K) 11 312) {v1 : Int32} {f1 : Int32} {g1 : zM} (m1 : CT (kG K) (kw K) (kl K) (yX11_field, cX11_field, 3, (some .int)) 2 (0, 0) [.ref 312, .int v1, .int (4 : Int32)] I (qE f1 g1) nX) (h2 : P (some (.int f1)) g1) : ZZ K (0, 0) 0 [(0, .ref 312), (1, .int v1)] [] I := by
  obtain ⟨hb, ho, hnl, hR, hE⟩ := hK
  refine zz_aload_n hb (z_dec dX11_priority 0 rfl) rfl 0 rfl ?_
  refine zz_iload_n hb (z_dec dX11_priority 1 rfl) rfl 1 rfl ?_
  refine zz_iconst (v := (4 : Int32)) hb (z_dec dX11_priority 2 rfl) (by decide) ?_
  refine zz_inv (as := [.int v1, .int (4 : Int32)]) (d := 2) (mc := (0, 0)) (P := (qE f1 g1)) (X := nX) hb ho hnl hR hE mkX11_field rfl ckX11 t0 rfl ⟨Nat.le_refl 0, Nat.le_refl 0⟩ rfl (rX11_priority 0 rfl) (rX11_priority 1 rfl) (rX11_priority 2 rfl) rfl (z_dec dX11_priority 3 rfl) m1 (fun v J1 hp => ?_) (fun _ _ h => h.elim)
  obtain ⟨r1, rfl, e1, w1⟩ := hp
  have e1 := e1.symm
  subst e1
  have w1 := w1.symm
  subst w1
  show ZZ K (0, 0) 6 [(0, .ref 312), (1, .int v1)] [.int f1] g1
  exact zz_iret hb hE ⟨Nat.le_refl 0, Nat.le_refl 0⟩ (z_dec dX11_priority 4 rfl) h2
set_option maxRecDepth 20000 in
theorem bX11_remaining_0 {K : zK} {P : Option Value → zM → Prop} {X : String → zM → Prop} (hK : zIs K RX11 cX11_remaining 2 (some .int) 3 (0, 0) P X) (hw : wOK (kw K)) {I : zM} (t0 : isT (kw K) 11 312) {v1 : Int32} {f1 : Int32} {g1 : zM} (m1 : CT (kG K) (kw K) (kl K) (yX11_field, cX11_field, 3, (some .int)) 2 (0, 0) [.ref 312, .int v1, .int (5 : Int32)] I (qE f1 g1) nX) (h2 : P (some (.int f1)) g1) : ZZ K (0, 0) 0 [(0, .ref 312), (1, .int v1)] [] I := by
  obtain ⟨hb, ho, hnl, hR, hE⟩ := hK
  refine zz_aload_n hb (z_dec dX11_remaining 0 rfl) rfl 0 rfl ?_
  refine zz_iload_n hb (z_dec dX11_remaining 1 rfl) rfl 1 rfl ?_
  refine zz_iconst (v := (5 : Int32)) hb (z_dec dX11_remaining 2 rfl) (by decide) ?_
  refine zz_inv (as := [.int v1, .int (5 : Int32)]) (d := 2) (mc := (0, 0)) (P := (qE f1 g1)) (X := nX) hb ho hnl hR hE mkX11_field rfl ckX11 t0 rfl ⟨Nat.le_refl 0, Nat.le_refl 0⟩ rfl (rX11_remaining 0 rfl) (rX11_remaining 1 rfl) (rX11_remaining 2 rfl) rfl (z_dec dX11_remaining 3 rfl) m1 (fun v J1 hp => ?_) (fun _ _ h => h.elim)
  obtain ⟨r1, rfl, e1, w1⟩ := hp
  have e1 := e1.symm
  subst e1
  have w1 := w1.symm
  subst w1
  show ZZ K (0, 0) 6 [(0, .ref 312), (1, .int v1)] [.int f1] g1
  exact zz_iret hb hE ⟨Nat.le_refl 0, Nat.le_refl 0⟩ (z_dec dX11_remaining 4 rfl) h2
set_option maxRecDepth 20000 in
theorem bX11_finishMinute_0 {K : zK} {P : Option Value → zM → Prop} {X : String → zM → Prop} (hK : zIs K RX11 cX11_finishMinute 2 (some .int) 3 (0, 0) P X) (hw : wOK (kw K)) {I : zM} (t0 : isT (kw K) 11 312) {v1 : Int32} {f1 : Int32} {g1 : zM} (m1 : CT (kG K) (kw K) (kl K) (yX11_field, cX11_field, 3, (some .int)) 2 (0, 0) [.ref 312, .int v1, .int (6 : Int32)] I (qE f1 g1) nX) (h2 : P (some (.int f1)) g1) : ZZ K (0, 0) 0 [(0, .ref 312), (1, .int v1)] [] I := by
  obtain ⟨hb, ho, hnl, hR, hE⟩ := hK
  refine zz_aload_n hb (z_dec dX11_finishMinute 0 rfl) rfl 0 rfl ?_
  refine zz_iload_n hb (z_dec dX11_finishMinute 1 rfl) rfl 1 rfl ?_
  refine zz_bipush (v := (6 : Int32)) hb (z_dec dX11_finishMinute 2 rfl) (by decide) ?_
  refine zz_inv (as := [.int v1, .int (6 : Int32)]) (d := 2) (mc := (0, 0)) (P := (qE f1 g1)) (X := nX) hb ho hnl hR hE mkX11_field rfl ckX11 t0 rfl ⟨Nat.le_refl 0, Nat.le_refl 0⟩ rfl (rX11_finishMinute 0 rfl) (rX11_finishMinute 1 rfl) (rX11_finishMinute 2 rfl) rfl (z_dec dX11_finishMinute 3 rfl) m1 (fun v J1 hp => ?_) (fun _ _ h => h.elim)
  obtain ⟨r1, rfl, e1, w1⟩ := hp
  have e1 := e1.symm
  subst e1
  have w1 := w1.symm
  subst w1
  show ZZ K (0, 0) 7 [(0, .ref 312), (1, .int v1)] [.int f1] g1
  exact zz_iret hb hE ⟨Nat.le_refl 0, Nat.le_refl 0⟩ (z_dec dX11_finishMinute 4 rfl) h2
set_option maxRecDepth 20000 in
theorem bX11_waitingTime_0 {K : zK} {P : Option Value → zM → Prop} {X : String → zM → Prop} (hK : zIs K RX11 cX11_waitingTime 2 (some .int) 3 (0, 0) P X) (hw : wOK (kw K)) {I : zM} (t0 : isT (kw K) 11 312) {v1 : Int32} {f1 : Int32} {g1 : zM} (m1 : CT (kG K) (kw K) (kl K) (yX11_isLetter, cX11_isLetter, 2, (some .boolean)) 1 (0, 0) [.ref 312, .int v1] I (qE f1 g1) nX) (k3 : ∀ (c2 : ¬ f1 = 0), ZZ K (0, 0) 14 [(0, .ref 312), (1, .int v1)] [.int (0 : Int32), .ref 312] g1) (k4 : ∀ (c2 : f1 = 0), ZZ K (0, 0) 14 [(0, .ref 312), (1, .int v1)] [.int (1 : Int32), .ref 312] g1) : ZZ K (0, 0) 0 [(0, .ref 312), (1, .int v1)] [] I := by
  obtain ⟨hb, ho, hnl, hR, hE⟩ := hK
  refine zz_aload_n hb (z_dec dX11_waitingTime 0 rfl) rfl 0 rfl ?_
  refine zz_aload_n hb (z_dec dX11_waitingTime 1 rfl) rfl 0 rfl ?_
  refine zz_iload_n hb (z_dec dX11_waitingTime 2 rfl) rfl 1 rfl ?_
  refine zz_inv (as := [.int v1]) (d := 1) (mc := (0, 0)) (P := (qE f1 g1)) (X := nX) hb ho hnl hR hE mkX11_isLetter rfl ckX11 t0 rfl ⟨Nat.le_refl 0, Nat.le_refl 0⟩ rfl (rX11_waitingTime 0 rfl) (rX11_waitingTime 1 rfl) (rX11_waitingTime 2 rfl) rfl (z_dec dX11_waitingTime 3 rfl) m1 (fun v J1 hp => ?_) (fun _ _ h => h.elim)
  obtain ⟨r1, rfl, e1, w1⟩ := hp
  have e1 := e1.symm
  subst e1
  have w1 := w1.symm
  subst w1
  show ZZ K (0, 0) 6 [(0, .ref 312), (1, .int v1)] [.int f1, .ref 312] g1
  refine zz_if_ne (tgt := 13) hb (z_dec dX11_waitingTime 4 rfl) (by decide) (fun c2 => ?_) (fun c2 => ?_)
  · refine zz_iconst (v := (0 : Int32)) hb (z_dec dX11_waitingTime 7 rfl) (by decide) ?_
    exact (k3 c2)
  · refine zz_iconst (v := (1 : Int32)) hb (z_dec dX11_waitingTime 5 rfl) (by decide) ?_
    refine zz_goto (tgt := 14) hb (z_dec dX11_waitingTime 6 rfl) (by decide) ?_
    exact (k4 c2)
set_option maxRecDepth 20000 in
theorem bX11_waitingTime_14 {K : zK} {P : Option Value → zM → Prop} {X : String → zM → Prop} (hK : zIs K RX11 cX11_waitingTime 2 (some .int) 3 (0, 0) P X) (hw : wOK (kw K)) {I : zM} (t0 : isT (kw K) 11 312) {v1 : Int32} (ts0 : isT (kw K) 11 312) {vs1 : Int32} {f1 : Int32} {g1 : zM} (m1 : CT (kG K) (kw K) (kl K) (yX11_fails, cX11_fails, 4, (some .boolean)) 0 (0, 0) [.ref 312, .int vs1, .int (0 : Int32), .int (0 : Int32)] I (qE f1 g1) nX) {f3 : Int32} {g3 : zM} (m3 : ∀ (c2 : f1 = 0), CT (kG K) (kw K) (kl K) (yX11_waited, cX11_waited, 3, (some .int)) 2 (0, 0) [.ref 312, .int v1] g1 (qE f3 g3) nX) (h4 : ∀ (c2 : f1 = 0), P (some (.int f3)) g3) (h5 : ∀ (c2 : ¬ f1 = 0), P (some (.int (0 : Int32))) g1) : ZZ K (0, 0) 14 [(0, .ref 312), (1, .int v1)] [.int vs1, .ref 312] I := by
  obtain ⟨hb, ho, hnl, hR, hE⟩ := hK
  refine zz_iconst (v := (0 : Int32)) hb (z_dec dX11_waitingTime 8 rfl) (by decide) ?_
  refine zz_iconst (v := (0 : Int32)) hb (z_dec dX11_waitingTime 9 rfl) (by decide) ?_
  refine zz_inv (as := [.int vs1, .int (0 : Int32), .int (0 : Int32)]) (d := 0) (mc := (0, 0)) (P := (qE f1 g1)) (X := nX) hb ho hnl hR hE mkX11_fails rfl ckX11 ts0 rfl ⟨Nat.le_refl 0, Nat.le_refl 0⟩ rfl (rX11_waitingTime 3 rfl) (rX11_waitingTime 4 rfl) (rX11_waitingTime 5 rfl) rfl (z_dec dX11_waitingTime 10 rfl) m1 (fun v J1 hp => ?_) (fun _ _ h => h.elim)
  obtain ⟨r1, rfl, e1, w1⟩ := hp
  have e1 := e1.symm
  subst e1
  have w1 := w1.symm
  subst w1
  show ZZ K (0, 0) 19 [(0, .ref 312), (1, .int v1)] [.int f1] g1
  refine zz_if_eq (tgt := 24) hb (z_dec dX11_waitingTime 11 rfl) (by decide) (fun c2 => ?_) (fun c2 => ?_)
  · refine zz_aload_n hb (z_dec dX11_waitingTime 14 rfl) rfl 0 rfl ?_
    refine zz_iload_n hb (z_dec dX11_waitingTime 15 rfl) rfl 1 rfl ?_
    refine zz_inv (as := [.int v1]) (d := 2) (mc := (0, 0)) (P := (qE f3 g3)) (X := nX) hb ho hnl hR hE mkX11_waited rfl ckX11 t0 rfl ⟨Nat.le_refl 0, Nat.le_refl 0⟩ rfl (rX11_waitingTime 6 rfl) (rX11_waitingTime 7 rfl) (rX11_waitingTime 8 rfl) rfl (z_dec dX11_waitingTime 16 rfl) (m3 c2) (fun v J3 hp => ?_) (fun _ _ h => h.elim)
    obtain ⟨r3, rfl, e3, w3⟩ := hp
    have e3 := e3.symm
    subst e3
    have w3 := w3.symm
    subst w3
    show ZZ K (0, 0) 29 [(0, .ref 312), (1, .int v1)] [.int f3] g3
    exact zz_iret hb hE ⟨Nat.le_refl 0, Nat.le_refl 0⟩ (z_dec dX11_waitingTime 17 rfl) (h4 c2)
  · refine zz_iconst (v := (0 : Int32)) hb (z_dec dX11_waitingTime 12 rfl) (by decide) ?_
    exact zz_iret hb hE ⟨Nat.le_refl 0, Nat.le_refl 0⟩ (z_dec dX11_waitingTime 13 rfl) (h5 c2)
set_option maxRecDepth 20000 in
theorem bX11_effectivePriority_0 {K : zK} {P : Option Value → zM → Prop} {X : String → zM → Prop} (hK : zIs K RX11 cX11_effectivePriority 2 (some .int) 4 (0, 0) P X) (hw : wOK (kw K)) {I : zM} (t0 : isT (kw K) 11 312) {v1 : Int32} {f1 : Int32} {g1 : zM} (m1 : CT (kG K) (kw K) (kl K) (yX11_isLetter, cX11_isLetter, 2, (some .boolean)) 1 (0, 0) [.ref 312, .int v1] I (qE f1 g1) nX) (k3 : ∀ (c2 : ¬ f1 = 0), ZZ K (0, 0) 14 [(0, .ref 312), (1, .int v1)] [.int (0 : Int32), .ref 312] g1) (k4 : ∀ (c2 : f1 = 0), ZZ K (0, 0) 14 [(0, .ref 312), (1, .int v1)] [.int (1 : Int32), .ref 312] g1) : ZZ K (0, 0) 0 [(0, .ref 312), (1, .int v1)] [] I := by
  obtain ⟨hb, ho, hnl, hR, hE⟩ := hK
  refine zz_aload_n hb (z_dec dX11_effectivePriority 0 rfl) rfl 0 rfl ?_
  refine zz_aload_n hb (z_dec dX11_effectivePriority 1 rfl) rfl 0 rfl ?_
  refine zz_iload_n hb (z_dec dX11_effectivePriority 2 rfl) rfl 1 rfl ?_
  refine zz_inv (as := [.int v1]) (d := 1) (mc := (0, 0)) (P := (qE f1 g1)) (X := nX) hb ho hnl hR hE mkX11_isLetter rfl ckX11 t0 rfl ⟨Nat.le_refl 0, Nat.le_refl 0⟩ rfl (rX11_effectivePriority 0 rfl) (rX11_effectivePriority 1 rfl) (rX11_effectivePriority 2 rfl) rfl (z_dec dX11_effectivePriority 3 rfl) m1 (fun v J1 hp => ?_) (fun _ _ h => h.elim)
  obtain ⟨r1, rfl, e1, w1⟩ := hp
  have e1 := e1.symm
  subst e1
  have w1 := w1.symm
  subst w1
  show ZZ K (0, 0) 6 [(0, .ref 312), (1, .int v1)] [.int f1, .ref 312] g1
  refine zz_if_ne (tgt := 13) hb (z_dec dX11_effectivePriority 4 rfl) (by decide) (fun c2 => ?_) (fun c2 => ?_)
  · refine zz_iconst (v := (0 : Int32)) hb (z_dec dX11_effectivePriority 7 rfl) (by decide) ?_
    exact (k3 c2)
  · refine zz_iconst (v := (1 : Int32)) hb (z_dec dX11_effectivePriority 5 rfl) (by decide) ?_
    refine zz_goto (tgt := 14) hb (z_dec dX11_effectivePriority 6 rfl) (by decide) ?_
    exact (k4 c2)
set_option maxRecDepth 20000 in
theorem bX11_effectivePriority_14 {K : zK} {P : Option Value → zM → Prop} {X : String → zM → Prop} (hK : zIs K RX11 cX11_effectivePriority 2 (some .int) 4 (0, 0) P X) (hw : wOK (kw K)) {I : zM} (t0 : isT (kw K) 11 312) {v1 : Int32} (ts0 : isT (kw K) 11 312) {vs1 : Int32} {f1 : Int32} {g1 : zM} (m1 : CT (kG K) (kw K) (kl K) (yX11_fails, cX11_fails, 4, (some .boolean)) 0 (0, 0) [.ref 312, .int vs1, .int (0 : Int32), .int (0 : Int32)] I (qE f1 g1) nX) {f3 : Int32} {g3 : zM} (m3 : ∀ (c2 : f1 = 0), CT (kG K) (kw K) (kl K) (yX11_urgency, cX11_urgency, 2, (some .int)) 3 (0, 0) [.ref 312, .int v1] g1 (qE f3 g3) nX) (h4 : ∀ (c2 : f1 = 0), P (some (.int f3)) g3) (h5 : ∀ (c2 : ¬ f1 = 0), P (some (.int (0 : Int32))) g1) : ZZ K (0, 0) 14 [(0, .ref 312), (1, .int v1)] [.int vs1, .ref 312] I := by
  obtain ⟨hb, ho, hnl, hR, hE⟩ := hK
  refine zz_iconst (v := (0 : Int32)) hb (z_dec dX11_effectivePriority 8 rfl) (by decide) ?_
  refine zz_iconst (v := (0 : Int32)) hb (z_dec dX11_effectivePriority 9 rfl) (by decide) ?_
  refine zz_inv (as := [.int vs1, .int (0 : Int32), .int (0 : Int32)]) (d := 0) (mc := (0, 0)) (P := (qE f1 g1)) (X := nX) hb ho hnl hR hE mkX11_fails rfl ckX11 ts0 rfl ⟨Nat.le_refl 0, Nat.le_refl 0⟩ rfl (rX11_effectivePriority 3 rfl) (rX11_effectivePriority 4 rfl) (rX11_effectivePriority 5 rfl) rfl (z_dec dX11_effectivePriority 10 rfl) m1 (fun v J1 hp => ?_) (fun _ _ h => h.elim)
  obtain ⟨r1, rfl, e1, w1⟩ := hp
  have e1 := e1.symm
  subst e1
  have w1 := w1.symm
  subst w1
  show ZZ K (0, 0) 19 [(0, .ref 312), (1, .int v1)] [.int f1] g1
  refine zz_if_eq (tgt := 24) hb (z_dec dX11_effectivePriority 11 rfl) (by decide) (fun c2 => ?_) (fun c2 => ?_)
  · refine zz_aload_n hb (z_dec dX11_effectivePriority 14 rfl) rfl 0 rfl ?_
    refine zz_iload_n hb (z_dec dX11_effectivePriority 15 rfl) rfl 1 rfl ?_
    refine zz_inv (as := [.int v1]) (d := 3) (mc := (0, 0)) (P := (qE f3 g3)) (X := nX) hb ho hnl hR hE mkX11_urgency rfl ckX11 t0 rfl ⟨Nat.le_refl 0, Nat.le_refl 0⟩ rfl (rX11_effectivePriority 6 rfl) (rX11_effectivePriority 7 rfl) (rX11_effectivePriority 8 rfl) rfl (z_dec dX11_effectivePriority 16 rfl) (m3 c2) (fun v J3 hp => ?_) (fun _ _ h => h.elim)
    obtain ⟨r3, rfl, e3, w3⟩ := hp
    have e3 := e3.symm
    subst e3
    have w3 := w3.symm
    subst w3
    show ZZ K (0, 0) 29 [(0, .ref 312), (1, .int v1)] [.int f3] g3
    exact zz_iret hb hE ⟨Nat.le_refl 0, Nat.le_refl 0⟩ (z_dec dX11_effectivePriority 17 rfl) (h4 c2)
  · refine zz_iconst (v := (0 : Int32)) hb (z_dec dX11_effectivePriority 12 rfl) (by decide) ?_
    exact zz_iret hb hE ⟨Nat.le_refl 0, Nat.le_refl 0⟩ (z_dec dX11_effectivePriority 13 rfl) (h5 c2)
set_option maxRecDepth 20000 in
theorem bX11_isReady_0 {K : zK} {P : Option Value → zM → Prop} {X : String → zM → Prop} (hK : zIs K RX11 cX11_isReady 2 (some .boolean) 3 (0, 0) P X) (hw : wOK (kw K)) {I : zM} (t0 : isT (kw K) 11 312) {v1 : Int32} {f1 : Int32} {g1 : zM} (m1 : CT (kG K) (kw K) (kl K) (yX11_isLetter, cX11_isLetter, 2, (some .boolean)) 1 (0, 0) [.ref 312, .int v1] I (qE f1 g1) nX) (k3 : ∀ (c2 : ¬ f1 = 0), ZZ K (0, 0) 14 [(0, .ref 312), (1, .int v1)] [.int (0 : Int32), .ref 312] g1) (k4 : ∀ (c2 : f1 = 0), ZZ K (0, 0) 14 [(0, .ref 312), (1, .int v1)] [.int (1 : Int32), .ref 312] g1) : ZZ K (0, 0) 0 [(0, .ref 312), (1, .int v1)] [] I := by
  obtain ⟨hb, ho, hnl, hR, hE⟩ := hK
  refine zz_aload_n hb (z_dec dX11_isReady 0 rfl) rfl 0 rfl ?_
  refine zz_aload_n hb (z_dec dX11_isReady 1 rfl) rfl 0 rfl ?_
  refine zz_iload_n hb (z_dec dX11_isReady 2 rfl) rfl 1 rfl ?_
  refine zz_inv (as := [.int v1]) (d := 1) (mc := (0, 0)) (P := (qE f1 g1)) (X := nX) hb ho hnl hR hE mkX11_isLetter rfl ckX11 t0 rfl ⟨Nat.le_refl 0, Nat.le_refl 0⟩ rfl (rX11_isReady 0 rfl) (rX11_isReady 1 rfl) (rX11_isReady 2 rfl) rfl (z_dec dX11_isReady 3 rfl) m1 (fun v J1 hp => ?_) (fun _ _ h => h.elim)
  obtain ⟨r1, rfl, e1, w1⟩ := hp
  have e1 := e1.symm
  subst e1
  have w1 := w1.symm
  subst w1
  show ZZ K (0, 0) 6 [(0, .ref 312), (1, .int v1)] [.int f1, .ref 312] g1
  refine zz_if_ne (tgt := 13) hb (z_dec dX11_isReady 4 rfl) (by decide) (fun c2 => ?_) (fun c2 => ?_)
  · refine zz_iconst (v := (0 : Int32)) hb (z_dec dX11_isReady 7 rfl) (by decide) ?_
    exact (k3 c2)
  · refine zz_iconst (v := (1 : Int32)) hb (z_dec dX11_isReady 5 rfl) (by decide) ?_
    refine zz_goto (tgt := 14) hb (z_dec dX11_isReady 6 rfl) (by decide) ?_
    exact (k4 c2)
set_option maxRecDepth 20000 in
theorem bX11_isReady_14 {K : zK} {P : Option Value → zM → Prop} {X : String → zM → Prop} (hK : zIs K RX11 cX11_isReady 2 (some .boolean) 3 (0, 0) P X) (hw : wOK (kw K)) {I : zM} (t0 : isT (kw K) 11 312) {v1 : Int32} (ts0 : isT (kw K) 11 312) {vs1 : Int32} {f1 : Int32} {g1 : zM} (m1 : CT (kG K) (kw K) (kl K) (yX11_fails, cX11_fails, 4, (some .boolean)) 0 (0, 0) [.ref 312, .int vs1, .int (0 : Int32), .int (0 : Int32)] I (qE f1 g1) nX) {f3 : Int32} {g3 : zM} (m3 : ∀ (c2 : f1 = 0), CT (kG K) (kw K) (kl K) (yX11_isOpen, cX11_isOpen, 2, (some .boolean)) 2 (0, 0) [.ref 312, .int v1] g1 (qE f3 g3) nX) (h4 : ∀ (c2 : f1 = 0), P (some (.int f3)) g3) (z5 : ∀ (c2 : f1 = 0), f3 = 0 ∨ f3 = 1) (h6 : ∀ (c2 : ¬ f1 = 0), P (some (.int (0 : Int32))) g1) : ZZ K (0, 0) 14 [(0, .ref 312), (1, .int v1)] [.int vs1, .ref 312] I := by
  obtain ⟨hb, ho, hnl, hR, hE⟩ := hK
  refine zz_iconst (v := (0 : Int32)) hb (z_dec dX11_isReady 8 rfl) (by decide) ?_
  refine zz_iconst (v := (0 : Int32)) hb (z_dec dX11_isReady 9 rfl) (by decide) ?_
  refine zz_inv (as := [.int vs1, .int (0 : Int32), .int (0 : Int32)]) (d := 0) (mc := (0, 0)) (P := (qE f1 g1)) (X := nX) hb ho hnl hR hE mkX11_fails rfl ckX11 ts0 rfl ⟨Nat.le_refl 0, Nat.le_refl 0⟩ rfl (rX11_isReady 3 rfl) (rX11_isReady 4 rfl) (rX11_isReady 5 rfl) rfl (z_dec dX11_isReady 10 rfl) m1 (fun v J1 hp => ?_) (fun _ _ h => h.elim)
  obtain ⟨r1, rfl, e1, w1⟩ := hp
  have e1 := e1.symm
  subst e1
  have w1 := w1.symm
  subst w1
  show ZZ K (0, 0) 19 [(0, .ref 312), (1, .int v1)] [.int f1] g1
  refine zz_if_eq (tgt := 24) hb (z_dec dX11_isReady 11 rfl) (by decide) (fun c2 => ?_) (fun c2 => ?_)
  · refine zz_aload_n hb (z_dec dX11_isReady 14 rfl) rfl 0 rfl ?_
    refine zz_iload_n hb (z_dec dX11_isReady 15 rfl) rfl 1 rfl ?_
    refine zz_inv (as := [.int v1]) (d := 2) (mc := (0, 0)) (P := (qE f3 g3)) (X := nX) hb ho hnl hR hE mkX11_isOpen rfl ckX11 t0 rfl ⟨Nat.le_refl 0, Nat.le_refl 0⟩ rfl (rX11_isReady 6 rfl) (rX11_isReady 7 rfl) (rX11_isReady 8 rfl) rfl (z_dec dX11_isReady 16 rfl) (m3 c2) (fun v J3 hp => ?_) (fun _ _ h => h.elim)
    obtain ⟨r3, rfl, e3, w3⟩ := hp
    have e3 := e3.symm
    subst e3
    have w3 := w3.symm
    subst w3
    show ZZ K (0, 0) 29 [(0, .ref 312), (1, .int v1)] [.int f3] g3
    exact zz_zret hb hE ⟨Nat.le_refl 0, Nat.le_refl 0⟩ (z5 c2) (z_dec dX11_isReady 17 rfl) (h4 c2)
  · refine zz_iconst (v := (0 : Int32)) hb (z_dec dX11_isReady 12 rfl) (by decide) ?_
    exact zz_zret hb hE ⟨Nat.le_refl 0, Nat.le_refl 0⟩ (by decide) (z_dec dX11_isReady 13 rfl) (h6 c2)
set_option maxRecDepth 20000 in
theorem bX11_readyCount_0 {K : zK} {P : Option Value → zM → Prop} {X : String → zM → Prop} (hK : zIs K RX11 cX11_readyCount 3 (some .int) 3 (0, 0) P X) (hw : wOK (kw K)) {I : zM} (t0 : isT (kw K) 11 312) (k1 : ZZ K (0, 0) 9 [(0, .ref 312), (1, .int (0 : Int32)), (2, .int (0 : Int32))] [] (up I 312 9 (0 : Int32))) : ZZ K (0, 0) 0 [(0, .ref 312)] [] I := by
  obtain ⟨hb, ho, hnl, hR, hE⟩ := hK
  refine zz_aload_n hb (z_dec dX11_readyCount 0 rfl) rfl 0 rfl ?_
  refine zz_iconst (v := (0 : Int32)) hb (z_dec dX11_readyCount 1 rfl) (by decide) ?_
  refine zz_put (k := 9) hb ho ckX11 t0 rfl rfl (rX11_readyCount 0 rfl) rfl rfl rfl (z_dec dX11_readyCount 2 rfl) ?_
  refine zz_iconst (v := (0 : Int32)) hb (z_dec dX11_readyCount 3 rfl) (by decide) ?_
  refine zz_istore_n (L' := [(0, .ref 312), (1, .int (0 : Int32))]) hb (z_dec dX11_readyCount 4 rfl) rfl hnl rfl [1, 0] rfl ?_
  refine zz_iconst (v := (0 : Int32)) hb (z_dec dX11_readyCount 5 rfl) (by decide) ?_
  refine zz_istore_n (L' := [(0, .ref 312), (1, .int (0 : Int32)), (2, .int (0 : Int32))]) hb (z_dec dX11_readyCount 6 rfl) rfl hnl rfl [1, 2, 0] rfl ?_
  exact k1
set_option maxRecDepth 20000 in
theorem bX11_readyCount_9 {K : zK} {P : Option Value → zM → Prop} {X : String → zM → Prop} (hK : zIs K RX11 cX11_readyCount 3 (some .int) 3 (0, 0) P X) (hw : wOK (kw K)) {I : zM} (t0 : isT (kw K) 11 312) {v1 : Int32} {v2 : Int32} (h2 : ∀ (c1 : (I 313 8) ≤ v2), P (some (.int v1)) I) {f3 : Int32} {g3 : zM} (m3 : ∀ (c1 : ¬ (I 313 8) ≤ v2), CT (kG K) (kw K) (kl K) (yX11_isOpen, cX11_isOpen, 2, (some .boolean)) 2 (0, 0) [.ref 312, .int v2] I (qE f3 g3) nX) (k5 : ∀ (c1 : ¬ (I 313 8) ≤ v2) (c4 : f3 = 0), ZZ K (0, 0) 9 [(0, .ref 312), (1, .int (v1 + (0 : Int32))), (2, .int (v2 + 1))] [] g3) (k6 : ∀ (c1 : ¬ (I 313 8) ≤ v2) (c4 : ¬ f3 = 0), ZZ K (0, 0) 9 [(0, .ref 312), (1, .int (v1 + (1 : Int32))), (2, .int (v2 + 1))] [] g3) : ZZ K (0, 0) 9 [(0, .ref 312), (1, .int v1), (2, .int v2)] [] I := by
  obtain ⟨hb, ho, hnl, hR, hE⟩ := hK
  refine zz_iload_n hb (z_dec dX11_readyCount 7 rfl) rfl 2 rfl ?_
  refine zz_aload_n hb (z_dec dX11_readyCount 8 rfl) rfl 0 rfl ?_
  refine zz_getr (k := 0) (q := 313) hb ho rfl ckX11 t0 rfl rfl (rX11_readyCount 1 rfl) rfl (z_dec dX11_readyCount 9 rfl) ?_
  refine zz_bipush (v := (8 : Int32)) hb (z_dec dX11_readyCount 10 rfl) (by decide) ?_
  refine zz_iald (j := 8) hb (show isT (kw K) 20 313 from isT.f (k := 0) t0 hw rfl rfl rfl (by decide)) rfl (zvi rfl (zin rfl)) (z_dec dX11_readyCount 11 rfl) ?_
  refine zz_icmp_ge (tgt := 42) hb (z_dec dX11_readyCount 12 rfl) (by decide) (fun c1 => ?_) (fun c1 => ?_)
  · refine zz_iload_n hb (z_dec dX11_readyCount 25 rfl) rfl 1 rfl ?_
    exact zz_iret hb hE ⟨Nat.le_refl 0, Nat.le_refl 0⟩ (z_dec dX11_readyCount 26 rfl) (h2 c1)
  · refine zz_iload_n hb (z_dec dX11_readyCount 13 rfl) rfl 1 rfl ?_
    refine zz_aload_n hb (z_dec dX11_readyCount 14 rfl) rfl 0 rfl ?_
    refine zz_iload_n hb (z_dec dX11_readyCount 15 rfl) rfl 2 rfl ?_
    refine zz_inv (as := [.int v2]) (d := 2) (mc := (0, 0)) (P := (qE f3 g3)) (X := nX) hb ho hnl hR hE mkX11_isOpen rfl ckX11 t0 rfl ⟨Nat.le_refl 0, Nat.le_refl 0⟩ rfl (rX11_readyCount 2 rfl) (rX11_readyCount 3 rfl) (rX11_readyCount 4 rfl) rfl (z_dec dX11_readyCount 16 rfl) (m3 c1) (fun v J3 hp => ?_) (fun _ _ h => h.elim)
    obtain ⟨r3, rfl, e3, w3⟩ := hp
    have e3 := e3.symm
    subst e3
    have w3 := w3.symm
    subst w3
    show ZZ K (0, 0) 26 [(0, .ref 312), (1, .int v1), (2, .int v2)] [.int f3, .int v1] g3
    refine zz_if_eq (tgt := 33) hb (z_dec dX11_readyCount 17 rfl) (by decide) (fun c4 => ?_) (fun c4 => ?_)
    · refine zz_iconst (v := (0 : Int32)) hb (z_dec dX11_readyCount 20 rfl) (by decide) ?_
      refine zz_iadd hb (z_dec dX11_readyCount 21 rfl) ?_
      refine zz_istore_n (L' := [(0, .ref 312), (1, .int (v1 + (0 : Int32))), (2, .int v2)]) hb (z_dec dX11_readyCount 22 rfl) rfl hnl rfl [1, 0, 2] rfl ?_
      refine zz_iinc (v := (v2 + 1)) (L' := [(0, .ref 312), (1, .int (v1 + (0 : Int32))), (2, .int (v2 + 1))]) hb (z_dec dX11_readyCount 23 rfl) 2 rfl rfl hnl rfl [1, 2, 0] rfl ?_
      refine zz_goto (tgt := 9) hb (z_dec dX11_readyCount 24 rfl) (by decide) ?_
      exact (k5 c1 c4)
    · refine zz_iconst (v := (1 : Int32)) hb (z_dec dX11_readyCount 18 rfl) (by decide) ?_
      refine zz_goto (tgt := 34) hb (z_dec dX11_readyCount 19 rfl) (by decide) ?_
      refine zz_iadd hb (z_dec dX11_readyCount 21 rfl) ?_
      refine zz_istore_n (L' := [(0, .ref 312), (1, .int (v1 + (1 : Int32))), (2, .int v2)]) hb (z_dec dX11_readyCount 22 rfl) rfl hnl rfl [1, 0, 2] rfl ?_
      refine zz_iinc (v := (v2 + 1)) (L' := [(0, .ref 312), (1, .int (v1 + (1 : Int32))), (2, .int (v2 + 1))]) hb (z_dec dX11_readyCount 23 rfl) 2 rfl rfl hnl rfl [1, 2, 0] rfl ?_
      refine zz_goto (tgt := 9) hb (z_dec dX11_readyCount 24 rfl) (by decide) ?_
      exact (k6 c1 c4)
set_option maxRecDepth 20000 in
theorem bX11_selectedLetter_0 {K : zK} {P : Option Value → zM → Prop} {X : String → zM → Prop} (hK : zIs K RX11 cX11_selectedLetter 1 (some .int) 7 (0, 0) P X) (hw : wOK (kw K)) {I : zM} (t0 : isT (kw K) 11 312) {f1 : Int32} {g1 : zM} (m1 : CT (kG K) (kw K) (kl K) (yX11_select, cX11_select, 4, (some .int)) 6 (0, 0) [.ref 312, .int (I 313 0)] I (qE f1 g1) nX) {f2 : Int32} {g2 : zM} (m2 : CT (kG K) (kw K) (kl K) (yX11_plain, cX11_plain, 2, (some .int)) 0 (0, 0) [.ref 312, .int f1] g1 (qE f2 g2) nX) (h3 : P (some (.int f2)) g2) : ZZ K (0, 0) 0 [(0, .ref 312)] [] I := by
  obtain ⟨hb, ho, hnl, hR, hE⟩ := hK
  refine zz_aload_n hb (z_dec dX11_selectedLetter 0 rfl) rfl 0 rfl ?_
  refine zz_aload_n hb (z_dec dX11_selectedLetter 1 rfl) rfl 0 rfl ?_
  refine zz_aload_n hb (z_dec dX11_selectedLetter 2 rfl) rfl 0 rfl ?_
  refine zz_getr (k := 0) (q := 313) hb ho rfl ckX11 t0 rfl rfl (rX11_selectedLetter 0 rfl) rfl (z_dec dX11_selectedLetter 3 rfl) ?_
  refine zz_iconst (v := (0 : Int32)) hb (z_dec dX11_selectedLetter 4 rfl) (by decide) ?_
  refine zz_iald (j := 0) hb (show isT (kw K) 20 313 from isT.f (k := 0) t0 hw rfl rfl rfl (by decide)) rfl (zvi rfl (zin rfl)) (z_dec dX11_selectedLetter 5 rfl) ?_
  refine zz_inv (as := [.int (I 313 0)]) (d := 6) (mc := (0, 0)) (P := (qE f1 g1)) (X := nX) hb ho hnl hR hE mkX11_select rfl ckX11 t0 rfl ⟨Nat.le_refl 0, Nat.le_refl 0⟩ rfl (rX11_selectedLetter 1 rfl) (rX11_selectedLetter 2 rfl) (rX11_selectedLetter 3 rfl) rfl (z_dec dX11_selectedLetter 6 rfl) m1 (fun v J1 hp => ?_) (fun _ _ h => h.elim)
  obtain ⟨r1, rfl, e1, w1⟩ := hp
  have e1 := e1.symm
  subst e1
  have w1 := w1.symm
  subst w1
  show ZZ K (0, 0) 11 [(0, .ref 312)] [.int f1, .ref 312] g1
  refine zz_inv (as := [.int f1]) (d := 0) (mc := (0, 0)) (P := (qE f2 g2)) (X := nX) hb ho hnl hR hE mkX11_plain rfl ckX11 t0 rfl ⟨Nat.le_refl 0, Nat.le_refl 0⟩ rfl (rX11_selectedLetter 4 rfl) (rX11_selectedLetter 5 rfl) (rX11_selectedLetter 6 rfl) rfl (z_dec dX11_selectedLetter 7 rfl) m2 (fun v J2 hp => ?_) (fun _ _ h => h.elim)
  obtain ⟨r2, rfl, e2, w2⟩ := hp
  have e2 := e2.symm
  subst e2
  have w2 := w2.symm
  subst w2
  show ZZ K (0, 0) 14 [(0, .ref 312)] [.int f2] g2
  exact zz_iret hb hE ⟨Nat.le_refl 0, Nat.le_refl 0⟩ (z_dec dX11_selectedLetter 8 rfl) h3
set_option maxRecDepth 20000 in
theorem bX11_selectedBy_0 {K : zK} {P : Option Value → zM → Prop} {X : String → zM → Prop} (hK : zIs K RX11 cX11_selectedBy 2 (some .int) 7 (0, 0) P X) (hw : wOK (kw K)) {I : zM} (t0 : isT (kw K) 11 312) {v1 : Int32} {f1 : Int32} {g1 : zM} (m1 : CT (kG K) (kw K) (kl K) (yX11_in, cX11_in, 3, (some .boolean)) 0 (0, 0) [.int v1, .int (0 : Int32), .int (4 : Int32)] I (qE f1 g1) nX) (k3 : ∀ (c2 : ¬ f1 = 0), ZZ K (0, 0) 15 [(0, .ref 312), (1, .int v1)] [.int (0 : Int32), .ref 312] g1) (k4 : ∀ (c2 : f1 = 0), ZZ K (0, 0) 15 [(0, .ref 312), (1, .int v1)] [.int (1 : Int32), .ref 312] g1) : ZZ K (0, 0) 0 [(0, .ref 312), (1, .int v1)] [] I := by
  obtain ⟨hb, ho, hnl, hR, hE⟩ := hK
  refine zz_aload_n hb (z_dec dX11_selectedBy 0 rfl) rfl 0 rfl ?_
  refine zz_iload_n hb (z_dec dX11_selectedBy 1 rfl) rfl 1 rfl ?_
  refine zz_iconst (v := (0 : Int32)) hb (z_dec dX11_selectedBy 2 rfl) (by decide) ?_
  refine zz_iconst (v := (4 : Int32)) hb (z_dec dX11_selectedBy 3 rfl) (by decide) ?_
  refine zz_invS (as := [.int v1, .int (0 : Int32), .int (4 : Int32)]) (d := 0) (mc := (0, 0)) (P := (qE f1 g1)) (X := nX) hb ho hnl hR hE mkX11_in rfl rfl ⟨Nat.le_refl 0, Nat.le_refl 0⟩ rfl (rX11_selectedBy 0 rfl) (rX11_selectedBy 1 rfl) rfl (z_dec dX11_selectedBy 4 rfl) m1 (fun v J1 hp => ?_) (fun _ _ h => h.elim)
  obtain ⟨r1, rfl, e1, w1⟩ := hp
  have e1 := e1.symm
  subst e1
  have w1 := w1.symm
  subst w1
  show ZZ K (0, 0) 7 [(0, .ref 312), (1, .int v1)] [.int f1, .ref 312] g1
  refine zz_if_ne (tgt := 14) hb (z_dec dX11_selectedBy 5 rfl) (by decide) (fun c2 => ?_) (fun c2 => ?_)
  · refine zz_iconst (v := (0 : Int32)) hb (z_dec dX11_selectedBy 8 rfl) (by decide) ?_
    exact (k3 c2)
  · refine zz_iconst (v := (1 : Int32)) hb (z_dec dX11_selectedBy 6 rfl) (by decide) ?_
    refine zz_goto (tgt := 15) hb (z_dec dX11_selectedBy 7 rfl) (by decide) ?_
    exact (k4 c2)
set_option maxRecDepth 20000 in
theorem bX11_selectedBy_15 {K : zK} {P : Option Value → zM → Prop} {X : String → zM → Prop} (hK : zIs K RX11 cX11_selectedBy 2 (some .int) 7 (0, 0) P X) (hw : wOK (kw K)) {I : zM} (t0 : isT (kw K) 11 312) {v1 : Int32} (ts0 : isT (kw K) 11 312) {vs1 : Int32} {f1 : Int32} {g1 : zM} (m1 : CT (kG K) (kw K) (kl K) (yX11_fails, cX11_fails, 4, (some .boolean)) 0 (0, 0) [.ref 312, .int vs1, .int (0 : Int32), .int (0 : Int32)] I (qE f1 g1) nX) {f3 : Int32} {g3 : zM} (m3 : ∀ (c2 : f1 = 0), CT (kG K) (kw K) (kl K) (yX11_select, cX11_select, 4, (some .int)) 6 (0, 0) [.ref 312, .int v1] g1 (qE f3 g3) nX) (h4 : ∀ (c2 : f1 = 0), P (some (.int f3)) g3) (h5 : ∀ (c2 : ¬ f1 = 0), P (some (.int (0 : Int32))) g1) : ZZ K (0, 0) 15 [(0, .ref 312), (1, .int v1)] [.int vs1, .ref 312] I := by
  obtain ⟨hb, ho, hnl, hR, hE⟩ := hK
  refine zz_iconst (v := (0 : Int32)) hb (z_dec dX11_selectedBy 9 rfl) (by decide) ?_
  refine zz_iconst (v := (0 : Int32)) hb (z_dec dX11_selectedBy 10 rfl) (by decide) ?_
  refine zz_inv (as := [.int vs1, .int (0 : Int32), .int (0 : Int32)]) (d := 0) (mc := (0, 0)) (P := (qE f1 g1)) (X := nX) hb ho hnl hR hE mkX11_fails rfl ckX11 ts0 rfl ⟨Nat.le_refl 0, Nat.le_refl 0⟩ rfl (rX11_selectedBy 2 rfl) (rX11_selectedBy 3 rfl) (rX11_selectedBy 4 rfl) rfl (z_dec dX11_selectedBy 11 rfl) m1 (fun v J1 hp => ?_) (fun _ _ h => h.elim)
  obtain ⟨r1, rfl, e1, w1⟩ := hp
  have e1 := e1.symm
  subst e1
  have w1 := w1.symm
  subst w1
  show ZZ K (0, 0) 20 [(0, .ref 312), (1, .int v1)] [.int f1] g1
  refine zz_if_eq (tgt := 25) hb (z_dec dX11_selectedBy 12 rfl) (by decide) (fun c2 => ?_) (fun c2 => ?_)
  · refine zz_aload_n hb (z_dec dX11_selectedBy 15 rfl) rfl 0 rfl ?_
    refine zz_iload_n hb (z_dec dX11_selectedBy 16 rfl) rfl 1 rfl ?_
    refine zz_inv (as := [.int v1]) (d := 6) (mc := (0, 0)) (P := (qE f3 g3)) (X := nX) hb ho hnl hR hE mkX11_select rfl ckX11 t0 rfl ⟨Nat.le_refl 0, Nat.le_refl 0⟩ rfl (rX11_selectedBy 5 rfl) (rX11_selectedBy 6 rfl) (rX11_selectedBy 7 rfl) rfl (z_dec dX11_selectedBy 17 rfl) (m3 c2) (fun v J3 hp => ?_) (fun _ _ h => h.elim)
    obtain ⟨r3, rfl, e3, w3⟩ := hp
    have e3 := e3.symm
    subst e3
    have w3 := w3.symm
    subst w3
    show ZZ K (0, 0) 30 [(0, .ref 312), (1, .int v1)] [.int f3] g3
    exact zz_iret hb hE ⟨Nat.le_refl 0, Nat.le_refl 0⟩ (z_dec dX11_selectedBy 18 rfl) (h4 c2)
  · refine zz_iconst (v := (0 : Int32)) hb (z_dec dX11_selectedBy 13 rfl) (by decide) ?_
    exact zz_iret hb hE ⟨Nat.le_refl 0, Nat.le_refl 0⟩ (z_dec dX11_selectedBy 14 rfl) (h5 c2)
set_option maxRecDepth 20000 in
theorem bX11_openLettersOf_0 {K : zK} {P : Option Value → zM → Prop} {X : String → zM → Prop} (hK : zIs K RX11 cX11_openLettersOf 4 (some .int) 2 (0, 0) P X) (hw : wOK (kw K)) {I : zM} (t0 : isT (kw K) 11 312) {v1 : Int32} {f1 : Int32} {g1 : zM} (m1 : CT (kG K) (kw K) (kl K) (yX11_isClerk, cX11_isClerk, 2, (some .boolean)) 1 (0, 0) [.ref 312, .int v1] I (qE f1 g1) nX) (k3 : ∀ (c2 : ¬ f1 = 0), ZZ K (0, 0) 14 [(0, .ref 312), (1, .int v1)] [.int (0 : Int32), .ref 312] g1) (k4 : ∀ (c2 : f1 = 0), ZZ K (0, 0) 14 [(0, .ref 312), (1, .int v1)] [.int (1 : Int32), .ref 312] g1) : ZZ K (0, 0) 0 [(0, .ref 312), (1, .int v1)] [] I := by
  obtain ⟨hb, ho, hnl, hR, hE⟩ := hK
  refine zz_aload_n hb (z_dec dX11_openLettersOf 0 rfl) rfl 0 rfl ?_
  refine zz_aload_n hb (z_dec dX11_openLettersOf 1 rfl) rfl 0 rfl ?_
  refine zz_iload_n hb (z_dec dX11_openLettersOf 2 rfl) rfl 1 rfl ?_
  refine zz_inv (as := [.int v1]) (d := 1) (mc := (0, 0)) (P := (qE f1 g1)) (X := nX) hb ho hnl hR hE mkX11_isClerk rfl ckX11 t0 rfl ⟨Nat.le_refl 0, Nat.le_refl 0⟩ rfl (rX11_openLettersOf 0 rfl) (rX11_openLettersOf 1 rfl) (rX11_openLettersOf 2 rfl) rfl (z_dec dX11_openLettersOf 3 rfl) m1 (fun v J1 hp => ?_) (fun _ _ h => h.elim)
  obtain ⟨r1, rfl, e1, w1⟩ := hp
  have e1 := e1.symm
  subst e1
  have w1 := w1.symm
  subst w1
  show ZZ K (0, 0) 6 [(0, .ref 312), (1, .int v1)] [.int f1, .ref 312] g1
  refine zz_if_ne (tgt := 13) hb (z_dec dX11_openLettersOf 4 rfl) (by decide) (fun c2 => ?_) (fun c2 => ?_)
  · refine zz_iconst (v := (0 : Int32)) hb (z_dec dX11_openLettersOf 7 rfl) (by decide) ?_
    exact (k3 c2)
  · refine zz_iconst (v := (1 : Int32)) hb (z_dec dX11_openLettersOf 5 rfl) (by decide) ?_
    refine zz_goto (tgt := 14) hb (z_dec dX11_openLettersOf 6 rfl) (by decide) ?_
    exact (k4 c2)
set_option maxRecDepth 20000 in
theorem bX11_openLettersOf_14 {K : zK} {P : Option Value → zM → Prop} {X : String → zM → Prop} (hK : zIs K RX11 cX11_openLettersOf 4 (some .int) 2 (0, 0) P X) (hw : wOK (kw K)) {I : zM} (t0 : isT (kw K) 11 312) {v1 : Int32} (ts0 : isT (kw K) 11 312) {vs1 : Int32} {f1 : Int32} {g1 : zM} (m1 : CT (kG K) (kw K) (kl K) (yX11_fails, cX11_fails, 4, (some .boolean)) 0 (0, 0) [.ref 312, .int vs1, .int (0 : Int32), .int (0 : Int32)] I (qE f1 g1) nX) (k3 : ∀ (c2 : f1 = 0), ZZ K (0, 0) 28 [(0, .ref 312), (1, .int v1), (2, .int (0 : Int32)), (3, .int (0 : Int32))] [] g1) (h4 : ∀ (c2 : ¬ f1 = 0), P (some (.int (0 : Int32))) g1) : ZZ K (0, 0) 14 [(0, .ref 312), (1, .int v1)] [.int vs1, .ref 312] I := by
  obtain ⟨hb, ho, hnl, hR, hE⟩ := hK
  refine zz_iconst (v := (0 : Int32)) hb (z_dec dX11_openLettersOf 8 rfl) (by decide) ?_
  refine zz_iconst (v := (0 : Int32)) hb (z_dec dX11_openLettersOf 9 rfl) (by decide) ?_
  refine zz_inv (as := [.int vs1, .int (0 : Int32), .int (0 : Int32)]) (d := 0) (mc := (0, 0)) (P := (qE f1 g1)) (X := nX) hb ho hnl hR hE mkX11_fails rfl ckX11 ts0 rfl ⟨Nat.le_refl 0, Nat.le_refl 0⟩ rfl (rX11_openLettersOf 3 rfl) (rX11_openLettersOf 4 rfl) (rX11_openLettersOf 5 rfl) rfl (z_dec dX11_openLettersOf 10 rfl) m1 (fun v J1 hp => ?_) (fun _ _ h => h.elim)
  obtain ⟨r1, rfl, e1, w1⟩ := hp
  have e1 := e1.symm
  subst e1
  have w1 := w1.symm
  subst w1
  show ZZ K (0, 0) 19 [(0, .ref 312), (1, .int v1)] [.int f1] g1
  refine zz_if_eq (tgt := 24) hb (z_dec dX11_openLettersOf 11 rfl) (by decide) (fun c2 => ?_) (fun c2 => ?_)
  · refine zz_iconst (v := (0 : Int32)) hb (z_dec dX11_openLettersOf 14 rfl) (by decide) ?_
    refine zz_istore_n (L' := [(0, .ref 312), (1, .int v1), (2, .int (0 : Int32))]) hb (z_dec dX11_openLettersOf 15 rfl) rfl hnl rfl [1, 2, 0] rfl ?_
    refine zz_iconst (v := (0 : Int32)) hb (z_dec dX11_openLettersOf 16 rfl) (by decide) ?_
    refine zz_istore_n (L' := [(0, .ref 312), (1, .int v1), (2, .int (0 : Int32)), (3, .int (0 : Int32))]) hb (z_dec dX11_openLettersOf 17 rfl) rfl hnl rfl [1, 2, 3, 0] rfl ?_
    exact (k3 c2)
  · refine zz_iconst (v := (0 : Int32)) hb (z_dec dX11_openLettersOf 12 rfl) (by decide) ?_
    exact zz_iret hb hE ⟨Nat.le_refl 0, Nat.le_refl 0⟩ (z_dec dX11_openLettersOf 13 rfl) (h4 c2)
set_option maxRecDepth 20000 in
theorem bX11_openLettersOf_28 {K : zK} {P : Option Value → zM → Prop} {X : String → zM → Prop} (hK : zIs K RX11 cX11_openLettersOf 4 (some .int) 2 (0, 0) P X) (hw : wOK (kw K)) {I : zM} (t0 : isT (kw K) 11 312) {v1 : Int32} {v2 : Int32} {v3 : Int32} (h2 : ∀ (c1 : (I 313 8) ≤ v3), P (some (.int v2)) I) {f3 : Int32} {g3 : zM} (m3 : ∀ (c1 : ¬ (I 313 8) ≤ v3), CT (kG K) (kw K) (kl K) (yX11_of, cX11_of, 3, (some .int)) 0 (0, 0) [.ref 312, .int v3, .int (0 : Int32)] I (qE f3 g3) nX) (k5 : ∀ (c1 : ¬ (I 313 8) ≤ v3) (c4 : ¬ f3 = v1), ZZ K (0, 0) 28 [(0, .ref 312), (1, .int v1), (2, .int (v2 + (0 : Int32))), (3, .int (v3 + 1))] [] g3) {f6 : Int32} {g6 : zM} (m6 : ∀ (c1 : ¬ (I 313 8) ≤ v3) (c4 : f3 = v1), CT (kG K) (kw K) (kl K) (yX11_isDone, cX11_isDone, 2, (some .boolean)) 1 (0, 0) [.ref 312, .int v3] g3 (qE f6 g6) nX) (k8 : ∀ (c1 : ¬ (I 313 8) ≤ v3) (c4 : f3 = v1) (c7 : ¬ f6 = 0), ZZ K (0, 0) 28 [(0, .ref 312), (1, .int v1), (2, .int (v2 + (0 : Int32))), (3, .int (v3 + 1))] [] g6) (k9 : ∀ (c1 : ¬ (I 313 8) ≤ v3) (c4 : f3 = v1) (c7 : f6 = 0), ZZ K (0, 0) 28 [(0, .ref 312), (1, .int v1), (2, .int (v2 + (1 : Int32))), (3, .int (v3 + 1))] [] g6) : ZZ K (0, 0) 28 [(0, .ref 312), (1, .int v1), (2, .int v2), (3, .int v3)] [] I := by
  obtain ⟨hb, ho, hnl, hR, hE⟩ := hK
  refine zz_iload_n hb (z_dec dX11_openLettersOf 18 rfl) rfl 3 rfl ?_
  refine zz_aload_n hb (z_dec dX11_openLettersOf 19 rfl) rfl 0 rfl ?_
  refine zz_getr (k := 0) (q := 313) hb ho rfl ckX11 t0 rfl rfl (rX11_openLettersOf 6 rfl) rfl (z_dec dX11_openLettersOf 20 rfl) ?_
  refine zz_bipush (v := (8 : Int32)) hb (z_dec dX11_openLettersOf 21 rfl) (by decide) ?_
  refine zz_iald (j := 8) hb (show isT (kw K) 20 313 from isT.f (k := 0) t0 hw rfl rfl rfl (by decide)) rfl (zvi rfl (zin rfl)) (z_dec dX11_openLettersOf 22 rfl) ?_
  refine zz_icmp_ge (tgt := 71) hb (z_dec dX11_openLettersOf 23 rfl) (by decide) (fun c1 => ?_) (fun c1 => ?_)
  · refine zz_iload_n hb (z_dec dX11_openLettersOf 42 rfl) rfl 2 rfl ?_
    exact zz_iret hb hE ⟨Nat.le_refl 0, Nat.le_refl 0⟩ (z_dec dX11_openLettersOf 43 rfl) (h2 c1)
  · refine zz_iload_n hb (z_dec dX11_openLettersOf 24 rfl) rfl 2 rfl ?_
    refine zz_aload_n hb (z_dec dX11_openLettersOf 25 rfl) rfl 0 rfl ?_
    refine zz_iload_n hb (z_dec dX11_openLettersOf 26 rfl) rfl 3 rfl ?_
    refine zz_iconst (v := (0 : Int32)) hb (z_dec dX11_openLettersOf 27 rfl) (by decide) ?_
    refine zz_inv (as := [.int v3, .int (0 : Int32)]) (d := 0) (mc := (0, 0)) (P := (qE f3 g3)) (X := nX) hb ho hnl hR hE mkX11_of rfl ckX11 t0 rfl ⟨Nat.le_refl 0, Nat.le_refl 0⟩ rfl (rX11_openLettersOf 7 rfl) (rX11_openLettersOf 8 rfl) (rX11_openLettersOf 9 rfl) rfl (z_dec dX11_openLettersOf 28 rfl) (m3 c1) (fun v J3 hp => ?_) (fun _ _ h => h.elim)
    obtain ⟨r3, rfl, e3, w3⟩ := hp
    have e3 := e3.symm
    subst e3
    have w3 := w3.symm
    subst w3
    show ZZ K (0, 0) 46 [(0, .ref 312), (1, .int v1), (2, .int v2), (3, .int v3)] [.int f3, .int v2] g3
    refine zz_iload_n hb (z_dec dX11_openLettersOf 29 rfl) rfl 1 rfl ?_
    refine zz_icmp_ne (tgt := 62) hb (z_dec dX11_openLettersOf 30 rfl) (by decide) (fun c4 => ?_) (fun c4 => ?_)
    · refine zz_iconst (v := (0 : Int32)) hb (z_dec dX11_openLettersOf 37 rfl) (by decide) ?_
      refine zz_iadd hb (z_dec dX11_openLettersOf 38 rfl) ?_
      refine zz_istore_n (L' := [(0, .ref 312), (1, .int v1), (2, .int (v2 + (0 : Int32))), (3, .int v3)]) hb (z_dec dX11_openLettersOf 39 rfl) rfl hnl rfl [1, 2, 0, 3] rfl ?_
      refine zz_iinc (v := (v3 + 1)) (L' := [(0, .ref 312), (1, .int v1), (2, .int (v2 + (0 : Int32))), (3, .int (v3 + 1))]) hb (z_dec dX11_openLettersOf 40 rfl) 3 rfl rfl hnl rfl [1, 2, 3, 0] rfl ?_
      refine zz_goto (tgt := 28) hb (z_dec dX11_openLettersOf 41 rfl) (by decide) ?_
      exact (k5 c1 c4)
    · refine zz_aload_n hb (z_dec dX11_openLettersOf 31 rfl) rfl 0 rfl ?_
      refine zz_iload_n hb (z_dec dX11_openLettersOf 32 rfl) rfl 3 rfl ?_
      refine zz_inv (as := [.int v3]) (d := 1) (mc := (0, 0)) (P := (qE f6 g6)) (X := nX) hb ho hnl hR hE mkX11_isDone rfl ckX11 t0 rfl ⟨Nat.le_refl 0, Nat.le_refl 0⟩ rfl (rX11_openLettersOf 10 rfl) (rX11_openLettersOf 11 rfl) (rX11_openLettersOf 12 rfl) rfl (z_dec dX11_openLettersOf 33 rfl) (m6 c1 c4) (fun v J6 hp => ?_) (fun _ _ h => h.elim)
      obtain ⟨r6, rfl, e6, w6⟩ := hp
      have e6 := e6.symm
      subst e6
      have w6 := w6.symm
      subst w6
      show ZZ K (0, 0) 55 [(0, .ref 312), (1, .int v1), (2, .int v2), (3, .int v3)] [.int f6, .int v2] g6
      refine zz_if_ne (tgt := 62) hb (z_dec dX11_openLettersOf 34 rfl) (by decide) (fun c7 => ?_) (fun c7 => ?_)
      · refine zz_iconst (v := (0 : Int32)) hb (z_dec dX11_openLettersOf 37 rfl) (by decide) ?_
        refine zz_iadd hb (z_dec dX11_openLettersOf 38 rfl) ?_
        refine zz_istore_n (L' := [(0, .ref 312), (1, .int v1), (2, .int (v2 + (0 : Int32))), (3, .int v3)]) hb (z_dec dX11_openLettersOf 39 rfl) rfl hnl rfl [1, 2, 0, 3] rfl ?_
        refine zz_iinc (v := (v3 + 1)) (L' := [(0, .ref 312), (1, .int v1), (2, .int (v2 + (0 : Int32))), (3, .int (v3 + 1))]) hb (z_dec dX11_openLettersOf 40 rfl) 3 rfl rfl hnl rfl [1, 2, 3, 0] rfl ?_
        refine zz_goto (tgt := 28) hb (z_dec dX11_openLettersOf 41 rfl) (by decide) ?_
        exact (k8 c1 c4 c7)
      · refine zz_iconst (v := (1 : Int32)) hb (z_dec dX11_openLettersOf 35 rfl) (by decide) ?_
        refine zz_goto (tgt := 63) hb (z_dec dX11_openLettersOf 36 rfl) (by decide) ?_
        refine zz_iadd hb (z_dec dX11_openLettersOf 38 rfl) ?_
        refine zz_istore_n (L' := [(0, .ref 312), (1, .int v1), (2, .int (v2 + (1 : Int32))), (3, .int v3)]) hb (z_dec dX11_openLettersOf 39 rfl) rfl hnl rfl [1, 2, 0, 3] rfl ?_
        refine zz_iinc (v := (v3 + 1)) (L' := [(0, .ref 312), (1, .int v1), (2, .int (v2 + (1 : Int32))), (3, .int (v3 + 1))]) hb (z_dec dX11_openLettersOf 40 rfl) 3 rfl rfl hnl rfl [1, 2, 3, 0] rfl ?_
        refine zz_goto (tgt := 28) hb (z_dec dX11_openLettersOf 41 rfl) (by decide) ?_
        exact (k9 c1 c4 c7)
set_option maxRecDepth 20000 in
theorem bX11_work_0 {K : zK} {P : Option Value → zM → Prop} {X : String → zM → Prop} (hK : zIs K RX11 cX11_work 4 (some .int) 1 (0, 0) P X) (hw : wOK (kw K)) {I : zM} (t0 : isT (kw K) 11 312) {v1 : Int32} (k1 : ZZ K (0, 0) 4 [(0, .ref 312), (1, .int v1), (2, .int (0 : Int32)), (3, .int (0 : Int32))] [] I) : ZZ K (0, 0) 0 [(0, .ref 312), (1, .int v1)] [] I := by
  obtain ⟨hb, ho, hnl, hR, hE⟩ := hK
  refine zz_iconst (v := (0 : Int32)) hb (z_dec dX11_work 0 rfl) (by decide) ?_
  refine zz_istore_n (L' := [(0, .ref 312), (1, .int v1), (2, .int (0 : Int32))]) hb (z_dec dX11_work 1 rfl) rfl hnl rfl [1, 2, 0] rfl ?_
  refine zz_iconst (v := (0 : Int32)) hb (z_dec dX11_work 2 rfl) (by decide) ?_
  refine zz_istore_n (L' := [(0, .ref 312), (1, .int v1), (2, .int (0 : Int32)), (3, .int (0 : Int32))]) hb (z_dec dX11_work 3 rfl) rfl hnl rfl [1, 2, 3, 0] rfl ?_
  exact k1
set_option maxRecDepth 20000 in
theorem bX11_work_4 {K : zK} {P : Option Value → zM → Prop} {X : String → zM → Prop} (hK : zIs K RX11 cX11_work 4 (some .int) 1 (0, 0) P X) (hw : wOK (kw K)) {I : zM} (t0 : isT (kw K) 11 312) {v1 : Int32} {v2 : Int32} {v3 : Int32} (h2 : ∀ (c1 : (I 313 8) ≤ v3), P (some (.int v2)) I) {f3 : Int32} {g3 : zM} (m3 : ∀ (c1 : ¬ (I 313 8) ≤ v3), CT (kG K) (kw K) (kl K) (yX11_of, cX11_of, 3, (some .int)) 0 (0, 0) [.ref 312, .int v3, .int (0 : Int32)] I (qE f3 g3) nX) (k5 : ∀ (c1 : ¬ (I 313 8) ≤ v3) (c4 : ¬ f3 = v1), ZZ K (0, 0) 4 [(0, .ref 312), (1, .int v1), (2, .int (v2 + (0 : Int32))), (3, .int (v3 + 1))] [] g3) {f6 : Int32} {g6 : zM} (m6 : ∀ (c1 : ¬ (I 313 8) ≤ v3) (c4 : f3 = v1), CT (kG K) (kw K) (kl K) (yX11_of, cX11_of, 3, (some .int)) 0 (0, 0) [.ref 312, .int v3, .int (5 : Int32)] g3 (qE f6 g6) nX) (k7 : ∀ (c1 : ¬ (I 313 8) ≤ v3) (c4 : f3 = v1), ZZ K (0, 0) 4 [(0, .ref 312), (1, .int v1), (2, .int (v2 + f6)), (3, .int (v3 + 1))] [] g6) : ZZ K (0, 0) 4 [(0, .ref 312), (1, .int v1), (2, .int v2), (3, .int v3)] [] I := by
  obtain ⟨hb, ho, hnl, hR, hE⟩ := hK
  refine zz_iload_n hb (z_dec dX11_work 4 rfl) rfl 3 rfl ?_
  refine zz_aload_n hb (z_dec dX11_work 5 rfl) rfl 0 rfl ?_
  refine zz_getr (k := 0) (q := 313) hb ho rfl ckX11 t0 rfl rfl (rX11_work 0 rfl) rfl (z_dec dX11_work 6 rfl) ?_
  refine zz_bipush (v := (8 : Int32)) hb (z_dec dX11_work 7 rfl) (by decide) ?_
  refine zz_iald (j := 8) hb (show isT (kw K) 20 313 from isT.f (k := 0) t0 hw rfl rfl rfl (by decide)) rfl (zvi rfl (zin rfl)) (z_dec dX11_work 8 rfl) ?_
  refine zz_icmp_ge (tgt := 44) hb (z_dec dX11_work 9 rfl) (by decide) (fun c1 => ?_) (fun c1 => ?_)
  · refine zz_iload_n hb (z_dec dX11_work 27 rfl) rfl 2 rfl ?_
    exact zz_iret hb hE ⟨Nat.le_refl 0, Nat.le_refl 0⟩ (z_dec dX11_work 28 rfl) (h2 c1)
  · refine zz_iload_n hb (z_dec dX11_work 10 rfl) rfl 2 rfl ?_
    refine zz_aload_n hb (z_dec dX11_work 11 rfl) rfl 0 rfl ?_
    refine zz_iload_n hb (z_dec dX11_work 12 rfl) rfl 3 rfl ?_
    refine zz_iconst (v := (0 : Int32)) hb (z_dec dX11_work 13 rfl) (by decide) ?_
    refine zz_inv (as := [.int v3, .int (0 : Int32)]) (d := 0) (mc := (0, 0)) (P := (qE f3 g3)) (X := nX) hb ho hnl hR hE mkX11_of rfl ckX11 t0 rfl ⟨Nat.le_refl 0, Nat.le_refl 0⟩ rfl (rX11_work 1 rfl) (rX11_work 2 rfl) (rX11_work 3 rfl) rfl (z_dec dX11_work 14 rfl) (m3 c1) (fun v J3 hp => ?_) (fun _ _ h => h.elim)
    obtain ⟨r3, rfl, e3, w3⟩ := hp
    have e3 := e3.symm
    subst e3
    have w3 := w3.symm
    subst w3
    show ZZ K (0, 0) 22 [(0, .ref 312), (1, .int v1), (2, .int v2), (3, .int v3)] [.int f3, .int v2] g3
    refine zz_iload_n hb (z_dec dX11_work 15 rfl) rfl 1 rfl ?_
    refine zz_icmp_ne (tgt := 35) hb (z_dec dX11_work 16 rfl) (by decide) (fun c4 => ?_) (fun c4 => ?_)
    · refine zz_iconst (v := (0 : Int32)) hb (z_dec dX11_work 22 rfl) (by decide) ?_
      refine zz_iadd hb (z_dec dX11_work 23 rfl) ?_
      refine zz_istore_n (L' := [(0, .ref 312), (1, .int v1), (2, .int (v2 + (0 : Int32))), (3, .int v3)]) hb (z_dec dX11_work 24 rfl) rfl hnl rfl [1, 2, 0, 3] rfl ?_
      refine zz_iinc (v := (v3 + 1)) (L' := [(0, .ref 312), (1, .int v1), (2, .int (v2 + (0 : Int32))), (3, .int (v3 + 1))]) hb (z_dec dX11_work 25 rfl) 3 rfl rfl hnl rfl [1, 2, 3, 0] rfl ?_
      refine zz_goto (tgt := 4) hb (z_dec dX11_work 26 rfl) (by decide) ?_
      exact (k5 c1 c4)
    · refine zz_aload_n hb (z_dec dX11_work 17 rfl) rfl 0 rfl ?_
      refine zz_iload_n hb (z_dec dX11_work 18 rfl) rfl 3 rfl ?_
      refine zz_iconst (v := (5 : Int32)) hb (z_dec dX11_work 19 rfl) (by decide) ?_
      refine zz_inv (as := [.int v3, .int (5 : Int32)]) (d := 0) (mc := (0, 0)) (P := (qE f6 g6)) (X := nX) hb ho hnl hR hE mkX11_of rfl ckX11 t0 rfl ⟨Nat.le_refl 0, Nat.le_refl 0⟩ rfl (rX11_work 1 rfl) (rX11_work 2 rfl) (rX11_work 3 rfl) rfl (z_dec dX11_work 20 rfl) (m6 c1 c4) (fun v J6 hp => ?_) (fun _ _ h => h.elim)
      obtain ⟨r6, rfl, e6, w6⟩ := hp
      have e6 := e6.symm
      subst e6
      have w6 := w6.symm
      subst w6
      show ZZ K (0, 0) 32 [(0, .ref 312), (1, .int v1), (2, .int v2), (3, .int v3)] [.int f6, .int v2] g6
      refine zz_goto (tgt := 36) hb (z_dec dX11_work 21 rfl) (by decide) ?_
      refine zz_iadd hb (z_dec dX11_work 23 rfl) ?_
      refine zz_istore_n (L' := [(0, .ref 312), (1, .int v1), (2, .int (v2 + f6)), (3, .int v3)]) hb (z_dec dX11_work 24 rfl) rfl hnl rfl [1, 2, 0, 3] rfl ?_
      refine zz_iinc (v := (v3 + 1)) (L' := [(0, .ref 312), (1, .int v1), (2, .int (v2 + f6)), (3, .int (v3 + 1))]) hb (z_dec dX11_work 25 rfl) 3 rfl rfl hnl rfl [1, 2, 3, 0] rfl ?_
      refine zz_goto (tgt := 4) hb (z_dec dX11_work 26 rfl) (by decide) ?_
      exact (k7 c1 c4)
set_option maxRecDepth 20000 in
theorem bX11_workOf_0 {K : zK} {P : Option Value → zM → Prop} {X : String → zM → Prop} (hK : zIs K RX11 cX11_workOf 2 (some .int) 2 (0, 0) P X) (hw : wOK (kw K)) {I : zM} (t0 : isT (kw K) 11 312) {v1 : Int32} {f1 : Int32} {g1 : zM} (m1 : CT (kG K) (kw K) (kl K) (yX11_isClerk, cX11_isClerk, 2, (some .boolean)) 1 (0, 0) [.ref 312, .int v1] I (qE f1 g1) nX) (k3 : ∀ (c2 : ¬ f1 = 0), ZZ K (0, 0) 14 [(0, .ref 312), (1, .int v1)] [.int (0 : Int32), .ref 312] g1) (k4 : ∀ (c2 : f1 = 0), ZZ K (0, 0) 14 [(0, .ref 312), (1, .int v1)] [.int (1 : Int32), .ref 312] g1) : ZZ K (0, 0) 0 [(0, .ref 312), (1, .int v1)] [] I := by
  obtain ⟨hb, ho, hnl, hR, hE⟩ := hK
  refine zz_aload_n hb (z_dec dX11_workOf 0 rfl) rfl 0 rfl ?_
  refine zz_aload_n hb (z_dec dX11_workOf 1 rfl) rfl 0 rfl ?_
  refine zz_iload_n hb (z_dec dX11_workOf 2 rfl) rfl 1 rfl ?_
  refine zz_inv (as := [.int v1]) (d := 1) (mc := (0, 0)) (P := (qE f1 g1)) (X := nX) hb ho hnl hR hE mkX11_isClerk rfl ckX11 t0 rfl ⟨Nat.le_refl 0, Nat.le_refl 0⟩ rfl (rX11_workOf 0 rfl) (rX11_workOf 1 rfl) (rX11_workOf 2 rfl) rfl (z_dec dX11_workOf 3 rfl) m1 (fun v J1 hp => ?_) (fun _ _ h => h.elim)
  obtain ⟨r1, rfl, e1, w1⟩ := hp
  have e1 := e1.symm
  subst e1
  have w1 := w1.symm
  subst w1
  show ZZ K (0, 0) 6 [(0, .ref 312), (1, .int v1)] [.int f1, .ref 312] g1
  refine zz_if_ne (tgt := 13) hb (z_dec dX11_workOf 4 rfl) (by decide) (fun c2 => ?_) (fun c2 => ?_)
  · refine zz_iconst (v := (0 : Int32)) hb (z_dec dX11_workOf 7 rfl) (by decide) ?_
    exact (k3 c2)
  · refine zz_iconst (v := (1 : Int32)) hb (z_dec dX11_workOf 5 rfl) (by decide) ?_
    refine zz_goto (tgt := 14) hb (z_dec dX11_workOf 6 rfl) (by decide) ?_
    exact (k4 c2)
set_option maxRecDepth 20000 in
theorem bX11_workOf_14 {K : zK} {P : Option Value → zM → Prop} {X : String → zM → Prop} (hK : zIs K RX11 cX11_workOf 2 (some .int) 2 (0, 0) P X) (hw : wOK (kw K)) {I : zM} (t0 : isT (kw K) 11 312) {v1 : Int32} (ts0 : isT (kw K) 11 312) {vs1 : Int32} {f1 : Int32} {g1 : zM} (m1 : CT (kG K) (kw K) (kl K) (yX11_fails, cX11_fails, 4, (some .boolean)) 0 (0, 0) [.ref 312, .int vs1, .int (0 : Int32), .int (0 : Int32)] I (qE f1 g1) nX) {f3 : Int32} {g3 : zM} (m3 : ∀ (c2 : f1 = 0), CT (kG K) (kw K) (kl K) (yX11_work, cX11_work, 4, (some .int)) 1 (0, 0) [.ref 312, .int v1] g1 (qE f3 g3) nX) (h4 : ∀ (c2 : f1 = 0), P (some (.int f3)) g3) (h5 : ∀ (c2 : ¬ f1 = 0), P (some (.int (0 : Int32))) g1) : ZZ K (0, 0) 14 [(0, .ref 312), (1, .int v1)] [.int vs1, .ref 312] I := by
  obtain ⟨hb, ho, hnl, hR, hE⟩ := hK
  refine zz_iconst (v := (0 : Int32)) hb (z_dec dX11_workOf 8 rfl) (by decide) ?_
  refine zz_iconst (v := (0 : Int32)) hb (z_dec dX11_workOf 9 rfl) (by decide) ?_
  refine zz_inv (as := [.int vs1, .int (0 : Int32), .int (0 : Int32)]) (d := 0) (mc := (0, 0)) (P := (qE f1 g1)) (X := nX) hb ho hnl hR hE mkX11_fails rfl ckX11 ts0 rfl ⟨Nat.le_refl 0, Nat.le_refl 0⟩ rfl (rX11_workOf 3 rfl) (rX11_workOf 4 rfl) (rX11_workOf 5 rfl) rfl (z_dec dX11_workOf 10 rfl) m1 (fun v J1 hp => ?_) (fun _ _ h => h.elim)
  obtain ⟨r1, rfl, e1, w1⟩ := hp
  have e1 := e1.symm
  subst e1
  have w1 := w1.symm
  subst w1
  show ZZ K (0, 0) 19 [(0, .ref 312), (1, .int v1)] [.int f1] g1
  refine zz_if_eq (tgt := 24) hb (z_dec dX11_workOf 11 rfl) (by decide) (fun c2 => ?_) (fun c2 => ?_)
  · refine zz_aload_n hb (z_dec dX11_workOf 14 rfl) rfl 0 rfl ?_
    refine zz_iload_n hb (z_dec dX11_workOf 15 rfl) rfl 1 rfl ?_
    refine zz_inv (as := [.int v1]) (d := 1) (mc := (0, 0)) (P := (qE f3 g3)) (X := nX) hb ho hnl hR hE mkX11_work rfl ckX11 t0 rfl ⟨Nat.le_refl 0, Nat.le_refl 0⟩ rfl (rX11_workOf 6 rfl) (rX11_workOf 7 rfl) (rX11_workOf 8 rfl) rfl (z_dec dX11_workOf 16 rfl) (m3 c2) (fun v J3 hp => ?_) (fun _ _ h => h.elim)
    obtain ⟨r3, rfl, e3, w3⟩ := hp
    have e3 := e3.symm
    subst e3
    have w3 := w3.symm
    subst w3
    show ZZ K (0, 0) 29 [(0, .ref 312), (1, .int v1)] [.int f3] g3
    exact zz_iret hb hE ⟨Nat.le_refl 0, Nat.le_refl 0⟩ (z_dec dX11_workOf 17 rfl) (h4 c2)
  · refine zz_iconst (v := (0 : Int32)) hb (z_dec dX11_workOf 12 rfl) (by decide) ?_
    exact zz_iret hb hE ⟨Nat.le_refl 0, Nat.le_refl 0⟩ (z_dec dX11_workOf 13 rfl) (h5 c2)
set_option maxRecDepth 20000 in
theorem bX11_busiestClerk_0 {K : zK} {P : Option Value → zM → Prop} {X : String → zM → Prop} (hK : zIs K RX11 cX11_busiestClerk 3 (some .int) 2 (0, 0) P X) (hw : wOK (kw K)) {I : zM} (t0 : isT (kw K) 11 312) (k1 : ZZ K (0, 0) 9 [(0, .ref 312), (1, .int (0 : Int32)), (2, .int (1 : Int32))] [] (up I 312 9 (0 : Int32))) : ZZ K (0, 0) 0 [(0, .ref 312)] [] I := by
  obtain ⟨hb, ho, hnl, hR, hE⟩ := hK
  refine zz_aload_n hb (z_dec dX11_busiestClerk 0 rfl) rfl 0 rfl ?_
  refine zz_iconst (v := (0 : Int32)) hb (z_dec dX11_busiestClerk 1 rfl) (by decide) ?_
  refine zz_put (k := 9) hb ho ckX11 t0 rfl rfl (rX11_busiestClerk 0 rfl) rfl rfl rfl (z_dec dX11_busiestClerk 2 rfl) ?_
  refine zz_iconst (v := (0 : Int32)) hb (z_dec dX11_busiestClerk 3 rfl) (by decide) ?_
  refine zz_istore_n (L' := [(0, .ref 312), (1, .int (0 : Int32))]) hb (z_dec dX11_busiestClerk 4 rfl) rfl hnl rfl [1, 0] rfl ?_
  refine zz_iconst (v := (1 : Int32)) hb (z_dec dX11_busiestClerk 5 rfl) (by decide) ?_
  refine zz_istore_n (L' := [(0, .ref 312), (1, .int (0 : Int32)), (2, .int (1 : Int32))]) hb (z_dec dX11_busiestClerk 6 rfl) rfl hnl rfl [1, 2, 0] rfl ?_
  exact k1
set_option maxRecDepth 20000 in
theorem bX11_busiestClerk_9 {K : zK} {P : Option Value → zM → Prop} {X : String → zM → Prop} (hK : zIs K RX11 cX11_busiestClerk 3 (some .int) 2 (0, 0) P X) (hw : wOK (kw K)) {I : zM} (t0 : isT (kw K) 11 312) {v1 : Int32} {v2 : Int32} (h2 : ∀ (c1 : (I 313 7) ≤ v2), P (some (.int v1)) I) {f3 : Int32} {g3 : zM} (m3 : ∀ (c1 : ¬ (I 313 7) ≤ v2), CT (kG K) (kw K) (kl K) (yX11_work, cX11_work, 4, (some .int)) 1 (0, 0) [.ref 312, .int v2] I (qE f3 g3) nX) {f4 : Int32} {g4 : zM} (m4 : ∀ (c1 : ¬ (I 313 7) ≤ v2), CT (kG K) (kw K) (kl K) (yX11_work, cX11_work, 4, (some .int)) 1 (0, 0) [.ref 312, .int v1] g3 (qE f4 g4) nX) (k6 : ∀ (c1 : ¬ (I 313 7) ≤ v2) (c5 : f3 ≤ f4), ZZ K (0, 0) 9 [(0, .ref 312), (1, .int v1), (2, .int (v2 + 1))] [] g4) (k7 : ∀ (c1 : ¬ (I 313 7) ≤ v2) (c5 : ¬ f3 ≤ f4), ZZ K (0, 0) 9 [(0, .ref 312), (1, .int v2), (2, .int (v2 + 1))] [] g4) : ZZ K (0, 0) 9 [(0, .ref 312), (1, .int v1), (2, .int v2)] [] I := by
  obtain ⟨hb, ho, hnl, hR, hE⟩ := hK
  refine zz_iload_n hb (z_dec dX11_busiestClerk 7 rfl) rfl 2 rfl ?_
  refine zz_aload_n hb (z_dec dX11_busiestClerk 8 rfl) rfl 0 rfl ?_
  refine zz_getr (k := 0) (q := 313) hb ho rfl ckX11 t0 rfl rfl (rX11_busiestClerk 1 rfl) rfl (z_dec dX11_busiestClerk 9 rfl) ?_
  refine zz_bipush (v := (7 : Int32)) hb (z_dec dX11_busiestClerk 10 rfl) (by decide) ?_
  refine zz_iald (j := 7) hb (show isT (kw K) 20 313 from isT.f (k := 0) t0 hw rfl rfl rfl (by decide)) rfl (zvi rfl (zin rfl)) (z_dec dX11_busiestClerk 11 rfl) ?_
  refine zz_icmp_ge (tgt := 41) hb (z_dec dX11_busiestClerk 12 rfl) (by decide) (fun c1 => ?_) (fun c1 => ?_)
  · refine zz_iload_n hb (z_dec dX11_busiestClerk 24 rfl) rfl 1 rfl ?_
    exact zz_iret hb hE ⟨Nat.le_refl 0, Nat.le_refl 0⟩ (z_dec dX11_busiestClerk 25 rfl) (h2 c1)
  · refine zz_aload_n hb (z_dec dX11_busiestClerk 13 rfl) rfl 0 rfl ?_
    refine zz_iload_n hb (z_dec dX11_busiestClerk 14 rfl) rfl 2 rfl ?_
    refine zz_inv (as := [.int v2]) (d := 1) (mc := (0, 0)) (P := (qE f3 g3)) (X := nX) hb ho hnl hR hE mkX11_work rfl ckX11 t0 rfl ⟨Nat.le_refl 0, Nat.le_refl 0⟩ rfl (rX11_busiestClerk 2 rfl) (rX11_busiestClerk 3 rfl) (rX11_busiestClerk 4 rfl) rfl (z_dec dX11_busiestClerk 15 rfl) (m3 c1) (fun v J3 hp => ?_) (fun _ _ h => h.elim)
    obtain ⟨r3, rfl, e3, w3⟩ := hp
    have e3 := e3.symm
    subst e3
    have w3 := w3.symm
    subst w3
    show ZZ K (0, 0) 25 [(0, .ref 312), (1, .int v1), (2, .int v2)] [.int f3] g3
    refine zz_aload_n hb (z_dec dX11_busiestClerk 16 rfl) rfl 0 rfl ?_
    refine zz_iload_n hb (z_dec dX11_busiestClerk 17 rfl) rfl 1 rfl ?_
    refine zz_inv (as := [.int v1]) (d := 1) (mc := (0, 0)) (P := (qE f4 g4)) (X := nX) hb ho hnl hR hE mkX11_work rfl ckX11 t0 rfl ⟨Nat.le_refl 0, Nat.le_refl 0⟩ rfl (rX11_busiestClerk 2 rfl) (rX11_busiestClerk 3 rfl) (rX11_busiestClerk 4 rfl) rfl (z_dec dX11_busiestClerk 18 rfl) (m4 c1) (fun v J4 hp => ?_) (fun _ _ h => h.elim)
    obtain ⟨r4, rfl, e4, w4⟩ := hp
    have e4 := e4.symm
    subst e4
    have w4 := w4.symm
    subst w4
    show ZZ K (0, 0) 30 [(0, .ref 312), (1, .int v1), (2, .int v2)] [.int f4, .int f3] g4
    refine zz_icmp_le (tgt := 35) hb (z_dec dX11_busiestClerk 19 rfl) (by decide) (fun c5 => ?_) (fun c5 => ?_)
    · refine zz_iinc (v := (v2 + 1)) (L' := [(0, .ref 312), (1, .int v1), (2, .int (v2 + 1))]) hb (z_dec dX11_busiestClerk 22 rfl) 2 rfl rfl hnl rfl [1, 2, 0] rfl ?_
      refine zz_goto (tgt := 9) hb (z_dec dX11_busiestClerk 23 rfl) (by decide) ?_
      exact (k6 c1 c5)
    · refine zz_iload_n hb (z_dec dX11_busiestClerk 20 rfl) rfl 2 rfl ?_
      refine zz_istore_n (L' := [(0, .ref 312), (1, .int v2), (2, .int v2)]) hb (z_dec dX11_busiestClerk 21 rfl) rfl hnl rfl [1, 0, 2] rfl ?_
      refine zz_iinc (v := (v2 + 1)) (L' := [(0, .ref 312), (1, .int v2), (2, .int (v2 + 1))]) hb (z_dec dX11_busiestClerk 22 rfl) 2 rfl rfl hnl rfl [1, 2, 0] rfl ?_
      refine zz_goto (tgt := 9) hb (z_dec dX11_busiestClerk 23 rfl) (by decide) ?_
      exact (k7 c1 c5)
set_option maxRecDepth 20000 in
theorem bX11_finishedCount_0 {K : zK} {P : Option Value → zM → Prop} {X : String → zM → Prop} (hK : zIs K RX11 cX11_finishedCount 1 (some .int) 3 (0, 0) P X) (hw : wOK (kw K)) {I : zM} (t0 : isT (kw K) 11 312) {f1 : Int32} {g1 : zM} (m1 : CT (kG K) (kw K) (kl K) (yX11_doneCount, cX11_doneCount, 3, (some .int)) 2 (0, 0) [.ref 312] I (qE f1 g1) nX) {f2 : Int32} {g2 : zM} (m2 : CT (kG K) (kw K) (kl K) (yX11_plain, cX11_plain, 2, (some .int)) 0 (0, 0) [.ref 312, .int f1] g1 (qE f2 g2) nX) (h3 : P (some (.int f2)) g2) : ZZ K (0, 0) 0 [(0, .ref 312)] [] I := by
  obtain ⟨hb, ho, hnl, hR, hE⟩ := hK
  refine zz_aload_n hb (z_dec dX11_finishedCount 0 rfl) rfl 0 rfl ?_
  refine zz_aload_n hb (z_dec dX11_finishedCount 1 rfl) rfl 0 rfl ?_
  refine zz_inv (as := []) (d := 2) (mc := (0, 0)) (P := (qE f1 g1)) (X := nX) hb ho hnl hR hE mkX11_doneCount rfl ckX11 t0 rfl ⟨Nat.le_refl 0, Nat.le_refl 0⟩ rfl (rX11_finishedCount 0 rfl) (rX11_finishedCount 1 rfl) (rX11_finishedCount 2 rfl) rfl (z_dec dX11_finishedCount 2 rfl) m1 (fun v J1 hp => ?_) (fun _ _ h => h.elim)
  obtain ⟨r1, rfl, e1, w1⟩ := hp
  have e1 := e1.symm
  subst e1
  have w1 := w1.symm
  subst w1
  show ZZ K (0, 0) 5 [(0, .ref 312)] [.int f1, .ref 312] g1
  refine zz_inv (as := [.int f1]) (d := 0) (mc := (0, 0)) (P := (qE f2 g2)) (X := nX) hb ho hnl hR hE mkX11_plain rfl ckX11 t0 rfl ⟨Nat.le_refl 0, Nat.le_refl 0⟩ rfl (rX11_finishedCount 3 rfl) (rX11_finishedCount 4 rfl) (rX11_finishedCount 5 rfl) rfl (z_dec dX11_finishedCount 3 rfl) m2 (fun v J2 hp => ?_) (fun _ _ h => h.elim)
  obtain ⟨r2, rfl, e2, w2⟩ := hp
  have e2 := e2.symm
  subst e2
  have w2 := w2.symm
  subst w2
  show ZZ K (0, 0) 8 [(0, .ref 312)] [.int f2] g2
  exact zz_iret hb hE ⟨Nat.le_refl 0, Nat.le_refl 0⟩ (z_dec dX11_finishedCount 4 rfl) h3
set_option maxRecDepth 20000 in
theorem bX11_lateCount_0 {K : zK} {P : Option Value → zM → Prop} {X : String → zM → Prop} (hK : zIs K RX11 cX11_lateCount 1 (some .int) 4 (0, 0) P X) (hw : wOK (kw K)) {I : zM} (t0 : isT (kw K) 11 312) {f1 : Int32} {g1 : zM} (m1 : CT (kG K) (kw K) (kl K) (yX11_lates, cX11_lates, 3, (some .int)) 3 (0, 0) [.ref 312] I (qE f1 g1) nX) {f2 : Int32} {g2 : zM} (m2 : CT (kG K) (kw K) (kl K) (yX11_plain, cX11_plain, 2, (some .int)) 0 (0, 0) [.ref 312, .int f1] g1 (qE f2 g2) nX) (h3 : P (some (.int f2)) g2) : ZZ K (0, 0) 0 [(0, .ref 312)] [] I := by
  obtain ⟨hb, ho, hnl, hR, hE⟩ := hK
  refine zz_aload_n hb (z_dec dX11_lateCount 0 rfl) rfl 0 rfl ?_
  refine zz_aload_n hb (z_dec dX11_lateCount 1 rfl) rfl 0 rfl ?_
  refine zz_inv (as := []) (d := 3) (mc := (0, 0)) (P := (qE f1 g1)) (X := nX) hb ho hnl hR hE mkX11_lates rfl ckX11 t0 rfl ⟨Nat.le_refl 0, Nat.le_refl 0⟩ rfl (rX11_lateCount 0 rfl) (rX11_lateCount 1 rfl) (rX11_lateCount 2 rfl) rfl (z_dec dX11_lateCount 2 rfl) m1 (fun v J1 hp => ?_) (fun _ _ h => h.elim)
  obtain ⟨r1, rfl, e1, w1⟩ := hp
  have e1 := e1.symm
  subst e1
  have w1 := w1.symm
  subst w1
  show ZZ K (0, 0) 5 [(0, .ref 312)] [.int f1, .ref 312] g1
  refine zz_inv (as := [.int f1]) (d := 0) (mc := (0, 0)) (P := (qE f2 g2)) (X := nX) hb ho hnl hR hE mkX11_plain rfl ckX11 t0 rfl ⟨Nat.le_refl 0, Nat.le_refl 0⟩ rfl (rX11_lateCount 3 rfl) (rX11_lateCount 4 rfl) (rX11_lateCount 5 rfl) rfl (z_dec dX11_lateCount 3 rfl) m2 (fun v J2 hp => ?_) (fun _ _ h => h.elim)
  obtain ⟨r2, rfl, e2, w2⟩ := hp
  have e2 := e2.symm
  subst e2
  have w2 := w2.symm
  subst w2
  show ZZ K (0, 0) 8 [(0, .ref 312)] [.int f2] g2
  exact zz_iret hb hE ⟨Nat.le_refl 0, Nat.le_refl 0⟩ (z_dec dX11_lateCount 4 rfl) h3
set_option maxRecDepth 20000 in
theorem bX11_greatestLateness_0 {K : zK} {P : Option Value → zM → Prop} {X : String → zM → Prop} (hK : zIs K RX11 cX11_greatestLateness 3 (some .int) 2 (0, 0) P X) (hw : wOK (kw K)) {I : zM} (t0 : isT (kw K) 11 312) (k1 : ZZ K (0, 0) 4 [(0, .ref 312), (1, .int (-1 : Int32)), (2, .int (0 : Int32))] [] I) : ZZ K (0, 0) 0 [(0, .ref 312)] [] I := by
  obtain ⟨hb, ho, hnl, hR, hE⟩ := hK
  refine zz_iconst (v := (-1 : Int32)) hb (z_dec dX11_greatestLateness 0 rfl) (by decide) ?_
  refine zz_istore_n (L' := [(0, .ref 312), (1, .int (-1 : Int32))]) hb (z_dec dX11_greatestLateness 1 rfl) rfl hnl rfl [1, 0] rfl ?_
  refine zz_iconst (v := (0 : Int32)) hb (z_dec dX11_greatestLateness 2 rfl) (by decide) ?_
  refine zz_istore_n (L' := [(0, .ref 312), (1, .int (-1 : Int32)), (2, .int (0 : Int32))]) hb (z_dec dX11_greatestLateness 3 rfl) rfl hnl rfl [1, 2, 0] rfl ?_
  exact k1
set_option maxRecDepth 20000 in
theorem bX11_greatestLateness_4 {K : zK} {P : Option Value → zM → Prop} {X : String → zM → Prop} (hK : zIs K RX11 cX11_greatestLateness 3 (some .int) 2 (0, 0) P X) (hw : wOK (kw K)) {I : zM} (t0 : isT (kw K) 11 312) {v1 : Int32} {v2 : Int32} (k3 : ∀ (c1 : (I 313 8) ≤ v2) (c2 : ¬ v1 = (-1 : Int32)), ZZ K (0, 0) 78 [(0, .ref 312), (1, .int v1), (2, .int v2)] [.int (0 : Int32), .ref 312] I) (k4 : ∀ (c1 : (I 313 8) ≤ v2) (c2 : v1 = (-1 : Int32)), ZZ K (0, 0) 78 [(0, .ref 312), (1, .int v1), (2, .int v2)] [.int (1 : Int32), .ref 312] I) {f5 : Int32} {g5 : zM} (m5 : ∀ (c1 : ¬ (I 313 8) ≤ v2), CT (kG K) (kw K) (kl K) (yX11_isDone, cX11_isDone, 2, (some .boolean)) 1 (0, 0) [.ref 312, .int v2] I (qE f5 g5) nX) (k7 : ∀ (c1 : ¬ (I 313 8) ≤ v2) (c6 : f5 = 0), ZZ K (0, 0) 4 [(0, .ref 312), (1, .int v1), (2, .int (v2 + 1))] [] g5) (k9 : ∀ (c1 : ¬ (I 313 8) ≤ v2) (c6 : ¬ f5 = 0) (c8 : v1 = (-1 : Int32)), ZZ K (0, 0) 4 [(0, .ref 312), (1, .int v2), (2, .int (v2 + 1))] [] g5) {f10 : Int32} {g10 : zM} (m10 : ∀ (c1 : ¬ (I 313 8) ≤ v2) (c6 : ¬ f5 = 0) (c8 : ¬ v1 = (-1 : Int32)), CT (kG K) (kw K) (kl K) (yX11_of, cX11_of, 3, (some .int)) 0 (0, 0) [.ref 312, .int v2, .int (6 : Int32)] g5 (qE f10 g10) nX) {f11 : Int32} {g11 : zM} (m11 : ∀ (c1 : ¬ (I 313 8) ≤ v2) (c6 : ¬ f5 = 0) (c8 : ¬ v1 = (-1 : Int32)), CT (kG K) (kw K) (kl K) (yX11_of, cX11_of, 3, (some .int)) 0 (0, 0) [.ref 312, .int v2, .int (3 : Int32)] g10 (qE f11 g11) nX) {f12 : Int32} {g12 : zM} (m12 : ∀ (c1 : ¬ (I 313 8) ≤ v2) (c6 : ¬ f5 = 0) (c8 : ¬ v1 = (-1 : Int32)), CT (kG K) (kw K) (kl K) (yX11_of, cX11_of, 3, (some .int)) 0 (0, 0) [.ref 312, .int v1, .int (6 : Int32)] g11 (qE f12 g12) nX) {f13 : Int32} {g13 : zM} (m13 : ∀ (c1 : ¬ (I 313 8) ≤ v2) (c6 : ¬ f5 = 0) (c8 : ¬ v1 = (-1 : Int32)), CT (kG K) (kw K) (kl K) (yX11_of, cX11_of, 3, (some .int)) 0 (0, 0) [.ref 312, .int v1, .int (3 : Int32)] g12 (qE f13 g13) nX) (k15 : ∀ (c1 : ¬ (I 313 8) ≤ v2) (c6 : ¬ f5 = 0) (c8 : ¬ v1 = (-1 : Int32)) (c14 : (f10 - f11) ≤ (f12 - f13)), ZZ K (0, 0) 4 [(0, .ref 312), (1, .int v1), (2, .int (v2 + 1))] [] g13) (k16 : ∀ (c1 : ¬ (I 313 8) ≤ v2) (c6 : ¬ f5 = 0) (c8 : ¬ v1 = (-1 : Int32)) (c14 : ¬ (f10 - f11) ≤ (f12 - f13)), ZZ K (0, 0) 4 [(0, .ref 312), (1, .int v2), (2, .int (v2 + 1))] [] g13) : ZZ K (0, 0) 4 [(0, .ref 312), (1, .int v1), (2, .int v2)] [] I := by
  obtain ⟨hb, ho, hnl, hR, hE⟩ := hK
  refine zz_iload_n hb (z_dec dX11_greatestLateness 4 rfl) rfl 2 rfl ?_
  refine zz_aload_n hb (z_dec dX11_greatestLateness 5 rfl) rfl 0 rfl ?_
  refine zz_getr (k := 0) (q := 313) hb ho rfl ckX11 t0 rfl rfl (rX11_greatestLateness 0 rfl) rfl (z_dec dX11_greatestLateness 6 rfl) ?_
  refine zz_bipush (v := (8 : Int32)) hb (z_dec dX11_greatestLateness 7 rfl) (by decide) ?_
  refine zz_iald (j := 8) hb (show isT (kw K) 20 313 from isT.f (k := 0) t0 hw rfl rfl rfl (by decide)) rfl (zvi rfl (zin rfl)) (z_dec dX11_greatestLateness 8 rfl) ?_
  refine zz_icmp_ge (tgt := 67) hb (z_dec dX11_greatestLateness 9 rfl) (by decide) (fun c1 => ?_) (fun c1 => ?_)
  · refine zz_aload_n hb (z_dec dX11_greatestLateness 40 rfl) rfl 0 rfl ?_
    refine zz_iload_n hb (z_dec dX11_greatestLateness 41 rfl) rfl 1 rfl ?_
    refine zz_iconst (v := (-1 : Int32)) hb (z_dec dX11_greatestLateness 42 rfl) (by decide) ?_
    refine zz_icmp_ne (tgt := 77) hb (z_dec dX11_greatestLateness 43 rfl) (by decide) (fun c2 => ?_) (fun c2 => ?_)
    · refine zz_iconst (v := (0 : Int32)) hb (z_dec dX11_greatestLateness 46 rfl) (by decide) ?_
      exact (k3 c1 c2)
    · refine zz_iconst (v := (1 : Int32)) hb (z_dec dX11_greatestLateness 44 rfl) (by decide) ?_
      refine zz_goto (tgt := 78) hb (z_dec dX11_greatestLateness 45 rfl) (by decide) ?_
      exact (k4 c1 c2)
  · refine zz_aload_n hb (z_dec dX11_greatestLateness 10 rfl) rfl 0 rfl ?_
    refine zz_iload_n hb (z_dec dX11_greatestLateness 11 rfl) rfl 2 rfl ?_
    refine zz_inv (as := [.int v2]) (d := 1) (mc := (0, 0)) (P := (qE f5 g5)) (X := nX) hb ho hnl hR hE mkX11_isDone rfl ckX11 t0 rfl ⟨Nat.le_refl 0, Nat.le_refl 0⟩ rfl (rX11_greatestLateness 1 rfl) (rX11_greatestLateness 2 rfl) (rX11_greatestLateness 3 rfl) rfl (z_dec dX11_greatestLateness 12 rfl) (m5 c1) (fun v J5 hp => ?_) (fun _ _ h => h.elim)
    obtain ⟨r5, rfl, e5, w5⟩ := hp
    have e5 := e5.symm
    subst e5
    have w5 := w5.symm
    subst w5
    show ZZ K (0, 0) 20 [(0, .ref 312), (1, .int v1), (2, .int v2)] [.int f5] g5
    refine zz_if_eq (tgt := 61) hb (z_dec dX11_greatestLateness 13 rfl) (by decide) (fun c6 => ?_) (fun c6 => ?_)
    · refine zz_iinc (v := (v2 + 1)) (L' := [(0, .ref 312), (1, .int v1), (2, .int (v2 + 1))]) hb (z_dec dX11_greatestLateness 38 rfl) 2 rfl rfl hnl rfl [1, 2, 0] rfl ?_
      refine zz_goto (tgt := 4) hb (z_dec dX11_greatestLateness 39 rfl) (by decide) ?_
      exact (k7 c1 c6)
    · refine zz_iload_n hb (z_dec dX11_greatestLateness 14 rfl) rfl 1 rfl ?_
      refine zz_iconst (v := (-1 : Int32)) hb (z_dec dX11_greatestLateness 15 rfl) (by decide) ?_
      refine zz_icmp_eq (tgt := 59) hb (z_dec dX11_greatestLateness 16 rfl) (by decide) (fun c8 => ?_) (fun c8 => ?_)
      · refine zz_iload_n hb (z_dec dX11_greatestLateness 36 rfl) rfl 2 rfl ?_
        refine zz_istore_n (L' := [(0, .ref 312), (1, .int v2), (2, .int v2)]) hb (z_dec dX11_greatestLateness 37 rfl) rfl hnl rfl [1, 0, 2] rfl ?_
        refine zz_iinc (v := (v2 + 1)) (L' := [(0, .ref 312), (1, .int v2), (2, .int (v2 + 1))]) hb (z_dec dX11_greatestLateness 38 rfl) 2 rfl rfl hnl rfl [1, 2, 0] rfl ?_
        refine zz_goto (tgt := 4) hb (z_dec dX11_greatestLateness 39 rfl) (by decide) ?_
        exact (k9 c1 c6 c8)
      · refine zz_aload_n hb (z_dec dX11_greatestLateness 17 rfl) rfl 0 rfl ?_
        refine zz_iload_n hb (z_dec dX11_greatestLateness 18 rfl) rfl 2 rfl ?_
        refine zz_bipush (v := (6 : Int32)) hb (z_dec dX11_greatestLateness 19 rfl) (by decide) ?_
        refine zz_inv (as := [.int v2, .int (6 : Int32)]) (d := 0) (mc := (0, 0)) (P := (qE f10 g10)) (X := nX) hb ho hnl hR hE mkX11_of rfl ckX11 t0 rfl ⟨Nat.le_refl 0, Nat.le_refl 0⟩ rfl (rX11_greatestLateness 4 rfl) (rX11_greatestLateness 5 rfl) (rX11_greatestLateness 6 rfl) rfl (z_dec dX11_greatestLateness 20 rfl) (m10 c1 c6 c8) (fun v J10 hp => ?_) (fun _ _ h => h.elim)
        obtain ⟨r10, rfl, e10, w10⟩ := hp
        have e10 := e10.symm
        subst e10
        have w10 := w10.symm
        subst w10
        show ZZ K (0, 0) 35 [(0, .ref 312), (1, .int v1), (2, .int v2)] [.int f10] g10
        refine zz_aload_n hb (z_dec dX11_greatestLateness 21 rfl) rfl 0 rfl ?_
        refine zz_iload_n hb (z_dec dX11_greatestLateness 22 rfl) rfl 2 rfl ?_
        refine zz_iconst (v := (3 : Int32)) hb (z_dec dX11_greatestLateness 23 rfl) (by decide) ?_
        refine zz_inv (as := [.int v2, .int (3 : Int32)]) (d := 0) (mc := (0, 0)) (P := (qE f11 g11)) (X := nX) hb ho hnl hR hE mkX11_of rfl ckX11 t0 rfl ⟨Nat.le_refl 0, Nat.le_refl 0⟩ rfl (rX11_greatestLateness 4 rfl) (rX11_greatestLateness 5 rfl) (rX11_greatestLateness 6 rfl) rfl (z_dec dX11_greatestLateness 24 rfl) (m11 c1 c6 c8) (fun v J11 hp => ?_) (fun _ _ h => h.elim)
        obtain ⟨r11, rfl, e11, w11⟩ := hp
        have e11 := e11.symm
        subst e11
        have w11 := w11.symm
        subst w11
        show ZZ K (0, 0) 41 [(0, .ref 312), (1, .int v1), (2, .int v2)] [.int f11, .int f10] g11
        refine zz_isub hb (z_dec dX11_greatestLateness 25 rfl) ?_
        refine zz_aload_n hb (z_dec dX11_greatestLateness 26 rfl) rfl 0 rfl ?_
        refine zz_iload_n hb (z_dec dX11_greatestLateness 27 rfl) rfl 1 rfl ?_
        refine zz_bipush (v := (6 : Int32)) hb (z_dec dX11_greatestLateness 28 rfl) (by decide) ?_
        refine zz_inv (as := [.int v1, .int (6 : Int32)]) (d := 0) (mc := (0, 0)) (P := (qE f12 g12)) (X := nX) hb ho hnl hR hE mkX11_of rfl ckX11 t0 rfl ⟨Nat.le_refl 0, Nat.le_refl 0⟩ rfl (rX11_greatestLateness 4 rfl) (rX11_greatestLateness 5 rfl) (rX11_greatestLateness 6 rfl) rfl (z_dec dX11_greatestLateness 29 rfl) (m12 c1 c6 c8) (fun v J12 hp => ?_) (fun _ _ h => h.elim)
        obtain ⟨r12, rfl, e12, w12⟩ := hp
        have e12 := e12.symm
        subst e12
        have w12 := w12.symm
        subst w12
        show ZZ K (0, 0) 49 [(0, .ref 312), (1, .int v1), (2, .int v2)] [.int f12, .int (f10 - f11)] g12
        refine zz_aload_n hb (z_dec dX11_greatestLateness 30 rfl) rfl 0 rfl ?_
        refine zz_iload_n hb (z_dec dX11_greatestLateness 31 rfl) rfl 1 rfl ?_
        refine zz_iconst (v := (3 : Int32)) hb (z_dec dX11_greatestLateness 32 rfl) (by decide) ?_
        refine zz_inv (as := [.int v1, .int (3 : Int32)]) (d := 0) (mc := (0, 0)) (P := (qE f13 g13)) (X := nX) hb ho hnl hR hE mkX11_of rfl ckX11 t0 rfl ⟨Nat.le_refl 0, Nat.le_refl 0⟩ rfl (rX11_greatestLateness 4 rfl) (rX11_greatestLateness 5 rfl) (rX11_greatestLateness 6 rfl) rfl (z_dec dX11_greatestLateness 33 rfl) (m13 c1 c6 c8) (fun v J13 hp => ?_) (fun _ _ h => h.elim)
        obtain ⟨r13, rfl, e13, w13⟩ := hp
        have e13 := e13.symm
        subst e13
        have w13 := w13.symm
        subst w13
        show ZZ K (0, 0) 55 [(0, .ref 312), (1, .int v1), (2, .int v2)] [.int f13, .int f12, .int (f10 - f11)] g13
        refine zz_isub hb (z_dec dX11_greatestLateness 34 rfl) ?_
        refine zz_icmp_le (tgt := 61) hb (z_dec dX11_greatestLateness 35 rfl) (by decide) (fun c14 => ?_) (fun c14 => ?_)
        · refine zz_iinc (v := (v2 + 1)) (L' := [(0, .ref 312), (1, .int v1), (2, .int (v2 + 1))]) hb (z_dec dX11_greatestLateness 38 rfl) 2 rfl rfl hnl rfl [1, 2, 0] rfl ?_
          refine zz_goto (tgt := 4) hb (z_dec dX11_greatestLateness 39 rfl) (by decide) ?_
          exact (k15 c1 c6 c8 c14)
        · refine zz_iload_n hb (z_dec dX11_greatestLateness 36 rfl) rfl 2 rfl ?_
          refine zz_istore_n (L' := [(0, .ref 312), (1, .int v2), (2, .int v2)]) hb (z_dec dX11_greatestLateness 37 rfl) rfl hnl rfl [1, 0, 2] rfl ?_
          refine zz_iinc (v := (v2 + 1)) (L' := [(0, .ref 312), (1, .int v2), (2, .int (v2 + 1))]) hb (z_dec dX11_greatestLateness 38 rfl) 2 rfl rfl hnl rfl [1, 2, 0] rfl ?_
          refine zz_goto (tgt := 4) hb (z_dec dX11_greatestLateness 39 rfl) (by decide) ?_
          exact (k16 c1 c6 c8 c14)
set_option maxRecDepth 20000 in
theorem bX11_greatestLateness_78 {K : zK} {P : Option Value → zM → Prop} {X : String → zM → Prop} (hK : zIs K RX11 cX11_greatestLateness 3 (some .int) 2 (0, 0) P X) (hw : wOK (kw K)) {I : zM} (t0 : isT (kw K) 11 312) {v1 : Int32} {v2 : Int32} (ts0 : isT (kw K) 11 312) {vs1 : Int32} {f1 : Int32} {g1 : zM} (m1 : CT (kG K) (kw K) (kl K) (yX11_fails, cX11_fails, 4, (some .boolean)) 0 (0, 0) [.ref 312, .int vs1, .int (0 : Int32), .int (0 : Int32)] I (qE f1 g1) nX) {f3 : Int32} {g3 : zM} (m3 : ∀ (c2 : f1 = 0), CT (kG K) (kw K) (kl K) (yX11_of, cX11_of, 3, (some .int)) 0 (0, 0) [.ref 312, .int v1, .int (6 : Int32)] g1 (qE f3 g3) nX) {f4 : Int32} {g4 : zM} (m4 : ∀ (c2 : f1 = 0), CT (kG K) (kw K) (kl K) (yX11_of, cX11_of, 3, (some .int)) 0 (0, 0) [.ref 312, .int v1, .int (3 : Int32)] g3 (qE f4 g4) nX) (h5 : ∀ (c2 : f1 = 0), P (some (.int (f3 - f4))) g4) (h6 : ∀ (c2 : ¬ f1 = 0), P (some (.int (0 : Int32))) g1) : ZZ K (0, 0) 78 [(0, .ref 312), (1, .int v1), (2, .int v2)] [.int vs1, .ref 312] I := by
  obtain ⟨hb, ho, hnl, hR, hE⟩ := hK
  refine zz_iconst (v := (0 : Int32)) hb (z_dec dX11_greatestLateness 47 rfl) (by decide) ?_
  refine zz_iconst (v := (0 : Int32)) hb (z_dec dX11_greatestLateness 48 rfl) (by decide) ?_
  refine zz_inv (as := [.int vs1, .int (0 : Int32), .int (0 : Int32)]) (d := 0) (mc := (0, 0)) (P := (qE f1 g1)) (X := nX) hb ho hnl hR hE mkX11_fails rfl ckX11 ts0 rfl ⟨Nat.le_refl 0, Nat.le_refl 0⟩ rfl (rX11_greatestLateness 7 rfl) (rX11_greatestLateness 8 rfl) (rX11_greatestLateness 9 rfl) rfl (z_dec dX11_greatestLateness 49 rfl) m1 (fun v J1 hp => ?_) (fun _ _ h => h.elim)
  obtain ⟨r1, rfl, e1, w1⟩ := hp
  have e1 := e1.symm
  subst e1
  have w1 := w1.symm
  subst w1
  show ZZ K (0, 0) 83 [(0, .ref 312), (1, .int v1), (2, .int v2)] [.int f1] g1
  refine zz_if_eq (tgt := 88) hb (z_dec dX11_greatestLateness 50 rfl) (by decide) (fun c2 => ?_) (fun c2 => ?_)
  · refine zz_aload_n hb (z_dec dX11_greatestLateness 53 rfl) rfl 0 rfl ?_
    refine zz_iload_n hb (z_dec dX11_greatestLateness 54 rfl) rfl 1 rfl ?_
    refine zz_bipush (v := (6 : Int32)) hb (z_dec dX11_greatestLateness 55 rfl) (by decide) ?_
    refine zz_inv (as := [.int v1, .int (6 : Int32)]) (d := 0) (mc := (0, 0)) (P := (qE f3 g3)) (X := nX) hb ho hnl hR hE mkX11_of rfl ckX11 t0 rfl ⟨Nat.le_refl 0, Nat.le_refl 0⟩ rfl (rX11_greatestLateness 4 rfl) (rX11_greatestLateness 5 rfl) (rX11_greatestLateness 6 rfl) rfl (z_dec dX11_greatestLateness 56 rfl) (m3 c2) (fun v J3 hp => ?_) (fun _ _ h => h.elim)
    obtain ⟨r3, rfl, e3, w3⟩ := hp
    have e3 := e3.symm
    subst e3
    have w3 := w3.symm
    subst w3
    show ZZ K (0, 0) 95 [(0, .ref 312), (1, .int v1), (2, .int v2)] [.int f3] g3
    refine zz_aload_n hb (z_dec dX11_greatestLateness 57 rfl) rfl 0 rfl ?_
    refine zz_iload_n hb (z_dec dX11_greatestLateness 58 rfl) rfl 1 rfl ?_
    refine zz_iconst (v := (3 : Int32)) hb (z_dec dX11_greatestLateness 59 rfl) (by decide) ?_
    refine zz_inv (as := [.int v1, .int (3 : Int32)]) (d := 0) (mc := (0, 0)) (P := (qE f4 g4)) (X := nX) hb ho hnl hR hE mkX11_of rfl ckX11 t0 rfl ⟨Nat.le_refl 0, Nat.le_refl 0⟩ rfl (rX11_greatestLateness 4 rfl) (rX11_greatestLateness 5 rfl) (rX11_greatestLateness 6 rfl) rfl (z_dec dX11_greatestLateness 60 rfl) (m4 c2) (fun v J4 hp => ?_) (fun _ _ h => h.elim)
    obtain ⟨r4, rfl, e4, w4⟩ := hp
    have e4 := e4.symm
    subst e4
    have w4 := w4.symm
    subst w4
    show ZZ K (0, 0) 101 [(0, .ref 312), (1, .int v1), (2, .int v2)] [.int f4, .int f3] g4
    refine zz_isub hb (z_dec dX11_greatestLateness 61 rfl) ?_
    exact zz_iret hb hE ⟨Nat.le_refl 0, Nat.le_refl 0⟩ (z_dec dX11_greatestLateness 62 rfl) (h5 c2)
  · refine zz_iconst (v := (0 : Int32)) hb (z_dec dX11_greatestLateness 51 rfl) (by decide) ?_
    exact zz_iret hb hE ⟨Nat.le_refl 0, Nat.le_refl 0⟩ (z_dec dX11_greatestLateness 52 rfl) (h6 c2)
set_option maxRecDepth 20000 in
theorem bX11_blots_0 {K : zK} {P : Option Value → zM → Prop} {X : String → zM → Prop} (hK : zIs K RX11 cX11_blots 1 (some .int) 1 (0, 0) P X) (hw : wOK (kw K)) {I : zM} (t0 : isT (kw K) 11 312) {f1 : Int32} {g1 : zM} (m1 : CT (kG K) (kw K) (kl K) (yX11_plain, cX11_plain, 2, (some .int)) 0 (0, 0) [.ref 312, .int (I 313 16)] I (qE f1 g1) nX) (h2 : P (some (.int f1)) g1) : ZZ K (0, 0) 0 [(0, .ref 312)] [] I := by
  obtain ⟨hb, ho, hnl, hR, hE⟩ := hK
  refine zz_aload_n hb (z_dec dX11_blots 0 rfl) rfl 0 rfl ?_
  refine zz_aload_n hb (z_dec dX11_blots 1 rfl) rfl 0 rfl ?_
  refine zz_getr (k := 0) (q := 313) hb ho rfl ckX11 t0 rfl rfl (rX11_blots 0 rfl) rfl (z_dec dX11_blots 2 rfl) ?_
  refine zz_bipush (v := (16 : Int32)) hb (z_dec dX11_blots 3 rfl) (by decide) ?_
  refine zz_iald (j := 16) hb (show isT (kw K) 20 313 from isT.f (k := 0) t0 hw rfl rfl rfl (by decide)) rfl (zvi rfl (zin rfl)) (z_dec dX11_blots 4 rfl) ?_
  refine zz_inv (as := [.int (I 313 16)]) (d := 0) (mc := (0, 0)) (P := (qE f1 g1)) (X := nX) hb ho hnl hR hE mkX11_plain rfl ckX11 t0 rfl ⟨Nat.le_refl 0, Nat.le_refl 0⟩ rfl (rX11_blots 1 rfl) (rX11_blots 2 rfl) (rX11_blots 3 rfl) rfl (z_dec dX11_blots 5 rfl) m1 (fun v J1 hp => ?_) (fun _ _ h => h.elim)
  obtain ⟨r1, rfl, e1, w1⟩ := hp
  have e1 := e1.symm
  subst e1
  have w1 := w1.symm
  subst w1
  show ZZ K (0, 0) 11 [(0, .ref 312)] [.int f1] g1
  exact zz_iret hb hE ⟨Nat.le_refl 0, Nat.le_refl 0⟩ (z_dec dX11_blots 6 rfl) h2
set_option maxRecDepth 20000 in
theorem bX11_handOvers_0 {K : zK} {P : Option Value → zM → Prop} {X : String → zM → Prop} (hK : zIs K RX11 cX11_handOvers 1 (some .int) 1 (0, 0) P X) (hw : wOK (kw K)) {I : zM} (t0 : isT (kw K) 11 312) {f1 : Int32} {g1 : zM} (m1 : CT (kG K) (kw K) (kl K) (yX11_plain, cX11_plain, 2, (some .int)) 0 (0, 0) [.ref 312, .int (I 313 17)] I (qE f1 g1) nX) (h2 : P (some (.int f1)) g1) : ZZ K (0, 0) 0 [(0, .ref 312)] [] I := by
  obtain ⟨hb, ho, hnl, hR, hE⟩ := hK
  refine zz_aload_n hb (z_dec dX11_handOvers 0 rfl) rfl 0 rfl ?_
  refine zz_aload_n hb (z_dec dX11_handOvers 1 rfl) rfl 0 rfl ?_
  refine zz_getr (k := 0) (q := 313) hb ho rfl ckX11 t0 rfl rfl (rX11_handOvers 0 rfl) rfl (z_dec dX11_handOvers 2 rfl) ?_
  refine zz_bipush (v := (17 : Int32)) hb (z_dec dX11_handOvers 3 rfl) (by decide) ?_
  refine zz_iald (j := 17) hb (show isT (kw K) 20 313 from isT.f (k := 0) t0 hw rfl rfl rfl (by decide)) rfl (zvi rfl (zin rfl)) (z_dec dX11_handOvers 4 rfl) ?_
  refine zz_inv (as := [.int (I 313 17)]) (d := 0) (mc := (0, 0)) (P := (qE f1 g1)) (X := nX) hb ho hnl hR hE mkX11_plain rfl ckX11 t0 rfl ⟨Nat.le_refl 0, Nat.le_refl 0⟩ rfl (rX11_handOvers 1 rfl) (rX11_handOvers 2 rfl) (rX11_handOvers 3 rfl) rfl (z_dec dX11_handOvers 5 rfl) m1 (fun v J1 hp => ?_) (fun _ _ h => h.elim)
  obtain ⟨r1, rfl, e1, w1⟩ := hp
  have e1 := e1.symm
  subst e1
  have w1 := w1.symm
  subst w1
  show ZZ K (0, 0) 11 [(0, .ref 312)] [.int f1] g1
  exact zz_iret hb hE ⟨Nat.le_refl 0, Nat.le_refl 0⟩ (z_dec dX11_handOvers 6 rfl) h2
set_option maxRecDepth 20000 in
theorem bX11_writtenMinutes_0 {K : zK} {P : Option Value → zM → Prop} {X : String → zM → Prop} (hK : zIs K RX11 cX11_writtenMinutes 1 (some .int) 1 (0, 0) P X) (hw : wOK (kw K)) {I : zM} (t0 : isT (kw K) 11 312) {f1 : Int32} {g1 : zM} (m1 : CT (kG K) (kw K) (kl K) (yX11_plain, cX11_plain, 2, (some .int)) 0 (0, 0) [.ref 312, .int (I 313 18)] I (qE f1 g1) nX) (h2 : P (some (.int f1)) g1) : ZZ K (0, 0) 0 [(0, .ref 312)] [] I := by
  obtain ⟨hb, ho, hnl, hR, hE⟩ := hK
  refine zz_aload_n hb (z_dec dX11_writtenMinutes 0 rfl) rfl 0 rfl ?_
  refine zz_aload_n hb (z_dec dX11_writtenMinutes 1 rfl) rfl 0 rfl ?_
  refine zz_getr (k := 0) (q := 313) hb ho rfl ckX11 t0 rfl rfl (rX11_writtenMinutes 0 rfl) rfl (z_dec dX11_writtenMinutes 2 rfl) ?_
  refine zz_bipush (v := (18 : Int32)) hb (z_dec dX11_writtenMinutes 3 rfl) (by decide) ?_
  refine zz_iald (j := 18) hb (show isT (kw K) 20 313 from isT.f (k := 0) t0 hw rfl rfl rfl (by decide)) rfl (zvi rfl (zin rfl)) (z_dec dX11_writtenMinutes 4 rfl) ?_
  refine zz_inv (as := [.int (I 313 18)]) (d := 0) (mc := (0, 0)) (P := (qE f1 g1)) (X := nX) hb ho hnl hR hE mkX11_plain rfl ckX11 t0 rfl ⟨Nat.le_refl 0, Nat.le_refl 0⟩ rfl (rX11_writtenMinutes 1 rfl) (rX11_writtenMinutes 2 rfl) (rX11_writtenMinutes 3 rfl) rfl (z_dec dX11_writtenMinutes 5 rfl) m1 (fun v J1 hp => ?_) (fun _ _ h => h.elim)
  obtain ⟨r1, rfl, e1, w1⟩ := hp
  have e1 := e1.symm
  subst e1
  have w1 := w1.symm
  subst w1
  show ZZ K (0, 0) 11 [(0, .ref 312)] [.int f1] g1
  exact zz_iret hb hE ⟨Nat.le_refl 0, Nat.le_refl 0⟩ (z_dec dX11_writtenMinutes 6 rfl) h2
set_option maxRecDepth 20000 in
theorem bX11_idleMinutes_0 {K : zK} {P : Option Value → zM → Prop} {X : String → zM → Prop} (hK : zIs K RX11 cX11_idleMinutes 1 (some .int) 1 (0, 0) P X) (hw : wOK (kw K)) {I : zM} (t0 : isT (kw K) 11 312) {f1 : Int32} {g1 : zM} (m1 : CT (kG K) (kw K) (kl K) (yX11_plain, cX11_plain, 2, (some .int)) 0 (0, 0) [.ref 312, .int (I 313 19)] I (qE f1 g1) nX) (h2 : P (some (.int f1)) g1) : ZZ K (0, 0) 0 [(0, .ref 312)] [] I := by
  obtain ⟨hb, ho, hnl, hR, hE⟩ := hK
  refine zz_aload_n hb (z_dec dX11_idleMinutes 0 rfl) rfl 0 rfl ?_
  refine zz_aload_n hb (z_dec dX11_idleMinutes 1 rfl) rfl 0 rfl ?_
  refine zz_getr (k := 0) (q := 313) hb ho rfl ckX11 t0 rfl rfl (rX11_idleMinutes 0 rfl) rfl (z_dec dX11_idleMinutes 2 rfl) ?_
  refine zz_bipush (v := (19 : Int32)) hb (z_dec dX11_idleMinutes 3 rfl) (by decide) ?_
  refine zz_iald (j := 19) hb (show isT (kw K) 20 313 from isT.f (k := 0) t0 hw rfl rfl rfl (by decide)) rfl (zvi rfl (zin rfl)) (z_dec dX11_idleMinutes 4 rfl) ?_
  refine zz_inv (as := [.int (I 313 19)]) (d := 0) (mc := (0, 0)) (P := (qE f1 g1)) (X := nX) hb ho hnl hR hE mkX11_plain rfl ckX11 t0 rfl ⟨Nat.le_refl 0, Nat.le_refl 0⟩ rfl (rX11_idleMinutes 1 rfl) (rX11_idleMinutes 2 rfl) (rX11_idleMinutes 3 rfl) rfl (z_dec dX11_idleMinutes 5 rfl) m1 (fun v J1 hp => ?_) (fun _ _ h => h.elim)
  obtain ⟨r1, rfl, e1, w1⟩ := hp
  have e1 := e1.symm
  subst e1
  have w1 := w1.symm
  subst w1
  show ZZ K (0, 0) 11 [(0, .ref 312)] [.int f1] g1
  exact zz_iret hb hE ⟨Nat.le_refl 0, Nat.le_refl 0⟩ (z_dec dX11_idleMinutes 6 rfl) h2
set_option maxRecDepth 20000 in
theorem bX11_utilization_0 {K : zK} {P : Option Value → zM → Prop} {X : String → zM → Prop} (hK : zIs K RX11 cX11_utilization 1 (some .float) 0 (0, 0) P X) (hw : wOK (kw K)) {I : zM} (t0 : isT (kw K) 11 312) (k2 : ∀ (c1 : ¬ ((up I 312 9 (0 : Int32)) 313 9) = 0), ZZ K (0, 0) 26 [(0, .ref 312)] [.int ((up I 312 9 (0 : Int32)) 313 18)] (up I 312 9 (0 : Int32))) (k3 : ∀ (c1 : ((up I 312 9 (0 : Int32)) 313 9) = 0), ZZ K (0, 0) 15 [(0, .ref 312)] [] (up I 312 9 (0 : Int32))) : ZZ K (0, 0) 0 [(0, .ref 312)] [] I := by
  obtain ⟨hb, ho, hnl, hR, hE⟩ := hK
  refine zz_aload_n hb (z_dec dX11_utilization 0 rfl) rfl 0 rfl ?_
  refine zz_iconst (v := (0 : Int32)) hb (z_dec dX11_utilization 1 rfl) (by decide) ?_
  refine zz_put (k := 9) hb ho ckX11 t0 rfl rfl (rX11_utilization 0 rfl) rfl rfl rfl (z_dec dX11_utilization 2 rfl) ?_
  refine zz_aload_n hb (z_dec dX11_utilization 3 rfl) rfl 0 rfl ?_
  refine zz_getr (k := 0) (q := 313) hb ho rfl ckX11 t0 rfl rfl (rX11_utilization 1 rfl) rfl (z_dec dX11_utilization 4 rfl) ?_
  refine zz_bipush (v := (9 : Int32)) hb (z_dec dX11_utilization 5 rfl) (by decide) ?_
  refine zz_iald (j := 9) hb (show isT (kw K) 20 313 from isT.f (k := 0) t0 hw rfl rfl rfl (by decide)) rfl (zvi rfl (zin rfl)) (z_dec dX11_utilization 6 rfl) ?_
  refine zz_if_ne (tgt := 19) hb (z_dec dX11_utilization 7 rfl) (by decide) (fun c1 => ?_) (fun c1 => ?_)
  · refine zz_aload_n hb (z_dec dX11_utilization 10 rfl) rfl 0 rfl ?_
    refine zz_getr (k := 0) (q := 313) hb ho rfl ckX11 t0 rfl rfl (rX11_utilization 1 rfl) rfl (z_dec dX11_utilization 11 rfl) ?_
    refine zz_bipush (v := (18 : Int32)) hb (z_dec dX11_utilization 12 rfl) (by decide) ?_
    refine zz_iald (j := 18) hb (show isT (kw K) 20 313 from isT.f (k := 0) t0 hw rfl rfl rfl (by decide)) rfl (zvi rfl (zin rfl)) (z_dec dX11_utilization 13 rfl) ?_
    exact (k2 c1)
  · exact (k3 c1)
set_option maxRecDepth 20000 in
theorem bX11_meanTurnaround_0 {K : zK} {P : Option Value → zM → Prop} {X : String → zM → Prop} (hK : zIs K RX11 cX11_meanTurnaround 3 (some .double) 3 (0, 0) P X) (hw : wOK (kw K)) {I : zM} (t0 : isT (kw K) 11 312) (k1 : ZZ K (0, 0) 9 [(0, .ref 312), (1, .int (0 : Int32)), (2, .int (0 : Int32))] [] (up I 312 9 (0 : Int32))) : ZZ K (0, 0) 0 [(0, .ref 312)] [] I := by
  obtain ⟨hb, ho, hnl, hR, hE⟩ := hK
  refine zz_aload_n hb (z_dec dX11_meanTurnaround 0 rfl) rfl 0 rfl ?_
  refine zz_iconst (v := (0 : Int32)) hb (z_dec dX11_meanTurnaround 1 rfl) (by decide) ?_
  refine zz_put (k := 9) hb ho ckX11 t0 rfl rfl (rX11_meanTurnaround 0 rfl) rfl rfl rfl (z_dec dX11_meanTurnaround 2 rfl) ?_
  refine zz_iconst (v := (0 : Int32)) hb (z_dec dX11_meanTurnaround 3 rfl) (by decide) ?_
  refine zz_istore_n (L' := [(0, .ref 312), (1, .int (0 : Int32))]) hb (z_dec dX11_meanTurnaround 4 rfl) rfl hnl rfl [1, 0] rfl ?_
  refine zz_iconst (v := (0 : Int32)) hb (z_dec dX11_meanTurnaround 5 rfl) (by decide) ?_
  refine zz_istore_n (L' := [(0, .ref 312), (1, .int (0 : Int32)), (2, .int (0 : Int32))]) hb (z_dec dX11_meanTurnaround 6 rfl) rfl hnl rfl [1, 2, 0] rfl ?_
  exact k1
set_option maxRecDepth 20000 in
theorem bX11_meanTurnaround_9 {K : zK} {P : Option Value → zM → Prop} {X : String → zM → Prop} (hK : zIs K RX11 cX11_meanTurnaround 3 (some .double) 3 (0, 0) P X) (hw : wOK (kw K)) {I : zM} (t0 : isT (kw K) 11 312) {v1 : Int32} {v2 : Int32} {f2 : Int32} {g2 : zM} (m2 : ∀ (c1 : (I 313 8) ≤ v2), CT (kG K) (kw K) (kl K) (yX11_doneCount, cX11_doneCount, 3, (some .int)) 2 (0, 0) [.ref 312] I (qE f2 g2) nX) (k4 : ∀ (c1 : (I 313 8) ≤ v2) (c3 : ¬ f2 = 0), ZZ K (0, 0) 69 [(0, .ref 312), (1, .int v1), (2, .int f2)] [.int v1] g2) (k5 : ∀ (c1 : (I 313 8) ≤ v2) (c3 : f2 = 0), ZZ K (0, 0) 64 [(0, .ref 312), (1, .int v1), (2, .int f2)] [] g2) {f6 : Int32} {g6 : zM} (m6 : ∀ (c1 : ¬ (I 313 8) ≤ v2), CT (kG K) (kw K) (kl K) (yX11_isDone, cX11_isDone, 2, (some .boolean)) 1 (0, 0) [.ref 312, .int v2] I (qE f6 g6) nX) (k8 : ∀ (c1 : ¬ (I 313 8) ≤ v2) (c7 : f6 = 0), ZZ K (0, 0) 9 [(0, .ref 312), (1, .int (v1 + (0 : Int32))), (2, .int (v2 + 1))] [] g6) {f9 : Int32} {g9 : zM} (m9 : ∀ (c1 : ¬ (I 313 8) ≤ v2) (c7 : ¬ f6 = 0), CT (kG K) (kw K) (kl K) (yX11_of, cX11_of, 3, (some .int)) 0 (0, 0) [.ref 312, .int v2, .int (6 : Int32)] g6 (qE f9 g9) nX) {f10 : Int32} {g10 : zM} (m10 : ∀ (c1 : ¬ (I 313 8) ≤ v2) (c7 : ¬ f6 = 0), CT (kG K) (kw K) (kl K) (yX11_of, cX11_of, 3, (some .int)) 0 (0, 0) [.ref 312, .int v2, .int (2 : Int32)] g9 (qE f10 g10) nX) (k11 : ∀ (c1 : ¬ (I 313 8) ≤ v2) (c7 : ¬ f6 = 0), ZZ K (0, 0) 9 [(0, .ref 312), (1, .int (v1 + (f9 - f10))), (2, .int (v2 + 1))] [] g10) : ZZ K (0, 0) 9 [(0, .ref 312), (1, .int v1), (2, .int v2)] [] I := by
  obtain ⟨hb, ho, hnl, hR, hE⟩ := hK
  refine zz_iload_n hb (z_dec dX11_meanTurnaround 7 rfl) rfl 2 rfl ?_
  refine zz_aload_n hb (z_dec dX11_meanTurnaround 8 rfl) rfl 0 rfl ?_
  refine zz_getr (k := 0) (q := 313) hb ho rfl ckX11 t0 rfl rfl (rX11_meanTurnaround 1 rfl) rfl (z_dec dX11_meanTurnaround 9 rfl) ?_
  refine zz_bipush (v := (8 : Int32)) hb (z_dec dX11_meanTurnaround 10 rfl) (by decide) ?_
  refine zz_iald (j := 8) hb (show isT (kw K) 20 313 from isT.f (k := 0) t0 hw rfl rfl rfl (by decide)) rfl (zvi rfl (zin rfl)) (z_dec dX11_meanTurnaround 11 rfl) ?_
  refine zz_icmp_ge (tgt := 55) hb (z_dec dX11_meanTurnaround 12 rfl) (by decide) (fun c1 => ?_) (fun c1 => ?_)
  · refine zz_aload_n hb (z_dec dX11_meanTurnaround 33 rfl) rfl 0 rfl ?_
    refine zz_inv (as := []) (d := 2) (mc := (0, 0)) (P := (qE f2 g2)) (X := nX) hb ho hnl hR hE mkX11_doneCount rfl ckX11 t0 rfl ⟨Nat.le_refl 0, Nat.le_refl 0⟩ rfl (rX11_meanTurnaround 8 rfl) (rX11_meanTurnaround 9 rfl) (rX11_meanTurnaround 10 rfl) rfl (z_dec dX11_meanTurnaround 34 rfl) (m2 c1) (fun v J2 hp => ?_) (fun _ _ h => h.elim)
    obtain ⟨r2, rfl, e2, w2⟩ := hp
    have e2 := e2.symm
    subst e2
    have w2 := w2.symm
    subst w2
    show ZZ K (0, 0) 59 [(0, .ref 312), (1, .int v1), (2, .int v2)] [.int f2] g2
    refine zz_istore_n (L' := [(0, .ref 312), (1, .int v1), (2, .int f2)]) hb (z_dec dX11_meanTurnaround 35 rfl) rfl hnl rfl [1, 2, 0] rfl ?_
    refine zz_iload_n hb (z_dec dX11_meanTurnaround 36 rfl) rfl 2 rfl ?_
    refine zz_if_ne (tgt := 68) hb (z_dec dX11_meanTurnaround 37 rfl) (by decide) (fun c3 => ?_) (fun c3 => ?_)
    · refine zz_iload_n hb (z_dec dX11_meanTurnaround 40 rfl) rfl 1 rfl ?_
      exact (k4 c1 c3)
    · exact (k5 c1 c3)
  · refine zz_iload_n hb (z_dec dX11_meanTurnaround 13 rfl) rfl 1 rfl ?_
    refine zz_aload_n hb (z_dec dX11_meanTurnaround 14 rfl) rfl 0 rfl ?_
    refine zz_iload_n hb (z_dec dX11_meanTurnaround 15 rfl) rfl 2 rfl ?_
    refine zz_inv (as := [.int v2]) (d := 1) (mc := (0, 0)) (P := (qE f6 g6)) (X := nX) hb ho hnl hR hE mkX11_isDone rfl ckX11 t0 rfl ⟨Nat.le_refl 0, Nat.le_refl 0⟩ rfl (rX11_meanTurnaround 2 rfl) (rX11_meanTurnaround 3 rfl) (rX11_meanTurnaround 4 rfl) rfl (z_dec dX11_meanTurnaround 16 rfl) (m6 c1) (fun v J6 hp => ?_) (fun _ _ h => h.elim)
    obtain ⟨r6, rfl, e6, w6⟩ := hp
    have e6 := e6.symm
    subst e6
    have w6 := w6.symm
    subst w6
    show ZZ K (0, 0) 26 [(0, .ref 312), (1, .int v1), (2, .int v2)] [.int f6, .int v1] g6
    refine zz_if_eq (tgt := 46) hb (z_dec dX11_meanTurnaround 17 rfl) (by decide) (fun c7 => ?_) (fun c7 => ?_)
    · refine zz_iconst (v := (0 : Int32)) hb (z_dec dX11_meanTurnaround 28 rfl) (by decide) ?_
      refine zz_iadd hb (z_dec dX11_meanTurnaround 29 rfl) ?_
      refine zz_istore_n (L' := [(0, .ref 312), (1, .int (v1 + (0 : Int32))), (2, .int v2)]) hb (z_dec dX11_meanTurnaround 30 rfl) rfl hnl rfl [1, 0, 2] rfl ?_
      refine zz_iinc (v := (v2 + 1)) (L' := [(0, .ref 312), (1, .int (v1 + (0 : Int32))), (2, .int (v2 + 1))]) hb (z_dec dX11_meanTurnaround 31 rfl) 2 rfl rfl hnl rfl [1, 2, 0] rfl ?_
      refine zz_goto (tgt := 9) hb (z_dec dX11_meanTurnaround 32 rfl) (by decide) ?_
      exact (k8 c1 c7)
    · refine zz_aload_n hb (z_dec dX11_meanTurnaround 18 rfl) rfl 0 rfl ?_
      refine zz_iload_n hb (z_dec dX11_meanTurnaround 19 rfl) rfl 2 rfl ?_
      refine zz_bipush (v := (6 : Int32)) hb (z_dec dX11_meanTurnaround 20 rfl) (by decide) ?_
      refine zz_inv (as := [.int v2, .int (6 : Int32)]) (d := 0) (mc := (0, 0)) (P := (qE f9 g9)) (X := nX) hb ho hnl hR hE mkX11_of rfl ckX11 t0 rfl ⟨Nat.le_refl 0, Nat.le_refl 0⟩ rfl (rX11_meanTurnaround 5 rfl) (rX11_meanTurnaround 6 rfl) (rX11_meanTurnaround 7 rfl) rfl (z_dec dX11_meanTurnaround 21 rfl) (m9 c1 c7) (fun v J9 hp => ?_) (fun _ _ h => h.elim)
      obtain ⟨r9, rfl, e9, w9⟩ := hp
      have e9 := e9.symm
      subst e9
      have w9 := w9.symm
      subst w9
      show ZZ K (0, 0) 36 [(0, .ref 312), (1, .int v1), (2, .int v2)] [.int f9, .int v1] g9
      refine zz_aload_n hb (z_dec dX11_meanTurnaround 22 rfl) rfl 0 rfl ?_
      refine zz_iload_n hb (z_dec dX11_meanTurnaround 23 rfl) rfl 2 rfl ?_
      refine zz_iconst (v := (2 : Int32)) hb (z_dec dX11_meanTurnaround 24 rfl) (by decide) ?_
      refine zz_inv (as := [.int v2, .int (2 : Int32)]) (d := 0) (mc := (0, 0)) (P := (qE f10 g10)) (X := nX) hb ho hnl hR hE mkX11_of rfl ckX11 t0 rfl ⟨Nat.le_refl 0, Nat.le_refl 0⟩ rfl (rX11_meanTurnaround 5 rfl) (rX11_meanTurnaround 6 rfl) (rX11_meanTurnaround 7 rfl) rfl (z_dec dX11_meanTurnaround 25 rfl) (m10 c1 c7) (fun v J10 hp => ?_) (fun _ _ h => h.elim)
      obtain ⟨r10, rfl, e10, w10⟩ := hp
      have e10 := e10.symm
      subst e10
      have w10 := w10.symm
      subst w10
      show ZZ K (0, 0) 42 [(0, .ref 312), (1, .int v1), (2, .int v2)] [.int f10, .int f9, .int v1] g10
      refine zz_isub hb (z_dec dX11_meanTurnaround 26 rfl) ?_
      refine zz_goto (tgt := 47) hb (z_dec dX11_meanTurnaround 27 rfl) (by decide) ?_
      refine zz_iadd hb (z_dec dX11_meanTurnaround 29 rfl) ?_
      refine zz_istore_n (L' := [(0, .ref 312), (1, .int (v1 + (f9 - f10))), (2, .int v2)]) hb (z_dec dX11_meanTurnaround 30 rfl) rfl hnl rfl [1, 0, 2] rfl ?_
      refine zz_iinc (v := (v2 + 1)) (L' := [(0, .ref 312), (1, .int (v1 + (f9 - f10))), (2, .int (v2 + 1))]) hb (z_dec dX11_meanTurnaround 31 rfl) 2 rfl rfl hnl rfl [1, 2, 0] rfl ?_
      refine zz_goto (tgt := 9) hb (z_dec dX11_meanTurnaround 32 rfl) (by decide) ?_
      exact (k11 c1 c7)
set_option maxRecDepth 20000 in
theorem bX11_inconsistencies_0 {K : zK} {P : Option Value → zM → Prop} {X : String → zM → Prop} (hK : zIs K RX11 cX11_inconsistencies 1 (some .int) 0 (0, 0) P X) (hw : wOK (kw K)) {I : zM} (t0 : isT (kw K) 11 312) (h1 : P (some (.int ((((((up I 312 9 (0 : Int32)) 313 9) - ((up I 312 9 (0 : Int32)) 313 18)) - ((up I 312 9 (0 : Int32)) 313 19)) - ((up I 312 9 (0 : Int32)) 313 20)) - ((up I 312 9 (0 : Int32)) 313 21)))) (up I 312 9 (0 : Int32))) : ZZ K (0, 0) 0 [(0, .ref 312)] [] I := by
  obtain ⟨hb, ho, hnl, hR, hE⟩ := hK
  refine zz_aload_n hb (z_dec dX11_inconsistencies 0 rfl) rfl 0 rfl ?_
  refine zz_iconst (v := (0 : Int32)) hb (z_dec dX11_inconsistencies 1 rfl) (by decide) ?_
  refine zz_put (k := 9) hb ho ckX11 t0 rfl rfl (rX11_inconsistencies 0 rfl) rfl rfl rfl (z_dec dX11_inconsistencies 2 rfl) ?_
  refine zz_aload_n hb (z_dec dX11_inconsistencies 3 rfl) rfl 0 rfl ?_
  refine zz_getr (k := 0) (q := 313) hb ho rfl ckX11 t0 rfl rfl (rX11_inconsistencies 1 rfl) rfl (z_dec dX11_inconsistencies 4 rfl) ?_
  refine zz_bipush (v := (9 : Int32)) hb (z_dec dX11_inconsistencies 5 rfl) (by decide) ?_
  refine zz_iald (j := 9) hb (show isT (kw K) 20 313 from isT.f (k := 0) t0 hw rfl rfl rfl (by decide)) rfl (zvi rfl (zin rfl)) (z_dec dX11_inconsistencies 6 rfl) ?_
  refine zz_aload_n hb (z_dec dX11_inconsistencies 7 rfl) rfl 0 rfl ?_
  refine zz_getr (k := 0) (q := 313) hb ho rfl ckX11 t0 rfl rfl (rX11_inconsistencies 1 rfl) rfl (z_dec dX11_inconsistencies 8 rfl) ?_
  refine zz_bipush (v := (18 : Int32)) hb (z_dec dX11_inconsistencies 9 rfl) (by decide) ?_
  refine zz_iald (j := 18) hb (show isT (kw K) 20 313 from isT.f (k := 0) t0 hw rfl rfl rfl (by decide)) rfl (zvi rfl (zin rfl)) (z_dec dX11_inconsistencies 10 rfl) ?_
  refine zz_isub hb (z_dec dX11_inconsistencies 11 rfl) ?_
  refine zz_aload_n hb (z_dec dX11_inconsistencies 12 rfl) rfl 0 rfl ?_
  refine zz_getr (k := 0) (q := 313) hb ho rfl ckX11 t0 rfl rfl (rX11_inconsistencies 1 rfl) rfl (z_dec dX11_inconsistencies 13 rfl) ?_
  refine zz_bipush (v := (19 : Int32)) hb (z_dec dX11_inconsistencies 14 rfl) (by decide) ?_
  refine zz_iald (j := 19) hb (show isT (kw K) 20 313 from isT.f (k := 0) t0 hw rfl rfl rfl (by decide)) rfl (zvi rfl (zin rfl)) (z_dec dX11_inconsistencies 15 rfl) ?_
  refine zz_isub hb (z_dec dX11_inconsistencies 16 rfl) ?_
  refine zz_aload_n hb (z_dec dX11_inconsistencies 17 rfl) rfl 0 rfl ?_
  refine zz_getr (k := 0) (q := 313) hb ho rfl ckX11 t0 rfl rfl (rX11_inconsistencies 1 rfl) rfl (z_dec dX11_inconsistencies 18 rfl) ?_
  refine zz_bipush (v := (20 : Int32)) hb (z_dec dX11_inconsistencies 19 rfl) (by decide) ?_
  refine zz_iald (j := 20) hb (show isT (kw K) 20 313 from isT.f (k := 0) t0 hw rfl rfl rfl (by decide)) rfl (zvi rfl (zin rfl)) (z_dec dX11_inconsistencies 20 rfl) ?_
  refine zz_isub hb (z_dec dX11_inconsistencies 21 rfl) ?_
  refine zz_aload_n hb (z_dec dX11_inconsistencies 22 rfl) rfl 0 rfl ?_
  refine zz_getr (k := 0) (q := 313) hb ho rfl ckX11 t0 rfl rfl (rX11_inconsistencies 1 rfl) rfl (z_dec dX11_inconsistencies 23 rfl) ?_
  refine zz_bipush (v := (21 : Int32)) hb (z_dec dX11_inconsistencies 24 rfl) (by decide) ?_
  refine zz_iald (j := 21) hb (show isT (kw K) 20 313 from isT.f (k := 0) t0 hw rfl rfl rfl (by decide)) rfl (zvi rfl (zin rfl)) (z_dec dX11_inconsistencies 25 rfl) ?_
  refine zz_isub hb (z_dec dX11_inconsistencies 26 rfl) ?_
  exact zz_iret hb hE ⟨Nat.le_refl 0, Nat.le_refl 0⟩ (z_dec dX11_inconsistencies 27 rfl) h1
set_option maxRecDepth 20000 in
theorem bX11_minutesToFinish_0 {K : zK} {P : Option Value → zM → Prop} {X : String → zM → Prop} (hK : zIs K RX11 cX11_minutesToFinish 3 (some .int) 8 (0, 0) P X) (hw : wOK (kw K)) {I : zM} (t0 : isT (kw K) 11 312) {g1 : zM} (m1 : CT (kG K) (kw K) (kl K) (yX11_copyBlock, cX11_copyBlock, 4, none) 0 (0, 0) [.ref 312, .int (0 : Int32), .int (9 : Int32)] (up I 312 9 (0 : Int32)) (qV (fun J => J = g1)) nX) (k2 : ZZ K (0, 0) 14 [(0, .ref 312), (1, .int (0 : Int32))] [] g1) : ZZ K (0, 0) 0 [(0, .ref 312)] [] I := by
  obtain ⟨hb, ho, hnl, hR, hE⟩ := hK
  refine zz_aload_n hb (z_dec dX11_minutesToFinish 0 rfl) rfl 0 rfl ?_
  refine zz_iconst (v := (0 : Int32)) hb (z_dec dX11_minutesToFinish 1 rfl) (by decide) ?_
  refine zz_put (k := 9) hb ho ckX11 t0 rfl rfl (rX11_minutesToFinish 0 rfl) rfl rfl rfl (z_dec dX11_minutesToFinish 2 rfl) ?_
  refine zz_aload_n hb (z_dec dX11_minutesToFinish 3 rfl) rfl 0 rfl ?_
  refine zz_iconst (v := (0 : Int32)) hb (z_dec dX11_minutesToFinish 4 rfl) (by decide) ?_
  refine zz_bipush (v := (9 : Int32)) hb (z_dec dX11_minutesToFinish 5 rfl) (by decide) ?_
  refine zz_inv (as := [.int (0 : Int32), .int (9 : Int32)]) (d := 0) (mc := (0, 0)) (P := (qV (fun J => J = g1))) (X := nX) hb ho hnl hR hE mkX11_copyBlock rfl ckX11 t0 rfl ⟨Nat.le_refl 0, Nat.le_refl 0⟩ rfl (rX11_minutesToFinish 1 rfl) (rX11_minutesToFinish 2 rfl) (rX11_minutesToFinish 3 rfl) rfl (z_dec dX11_minutesToFinish 6 rfl) m1 (fun v J1 hp => ?_) (fun _ _ h => h.elim)
  obtain ⟨rfl, w1⟩ := hp
  have w1 := w1.symm
  subst w1
  show ZZ K (0, 0) 12 [(0, .ref 312)] [] g1
  refine zz_iconst (v := (0 : Int32)) hb (z_dec dX11_minutesToFinish 7 rfl) (by decide) ?_
  refine zz_istore_n (L' := [(0, .ref 312), (1, .int (0 : Int32))]) hb (z_dec dX11_minutesToFinish 8 rfl) rfl hnl rfl [1, 0] rfl ?_
  exact k2
set_option maxRecDepth 20000 in
theorem bX11_minutesToFinish_14 {K : zK} {P : Option Value → zM → Prop} {X : String → zM → Prop} (hK : zIs K RX11 cX11_minutesToFinish 3 (some .int) 8 (0, 0) P X) (hw : wOK (kw K)) {I : zM} (t0 : isT (kw K) 11 312) {v1 : Int32} (k2 : ∀ (c1 : (1500 : Int32) ≤ v1), ZZ K (0, 0) 45 [(0, .ref 312), (1, .int v1)] [] I) {f3 : Int32} {g3 : zM} (m3 : ∀ (c1 : ¬ (1500 : Int32) ≤ v1), CT (kG K) (kw K) (kl K) (yX11_doneCount, cX11_doneCount, 3, (some .int)) 2 (0, 0) [.ref 312] I (qE f3 g3) nX) (k5 : ∀ (c1 : ¬ (1500 : Int32) ≤ v1) (c4 : (g3 313 8) ≤ f3), ZZ K (0, 0) 45 [(0, .ref 312), (1, .int v1)] [] g3) {g6 : zM} (m6 : ∀ (c1 : ¬ (1500 : Int32) ≤ v1) (c4 : ¬ (g3 313 8) ≤ f3), CT (kG K) (kw K) (kl K) (yX11_passMinute, cX11_passMinute, 2, none) 7 (0, 0) [.ref 312] g3 (qV (fun J => J = g6)) nX) (k7 : ∀ (c1 : ¬ (1500 : Int32) ≤ v1) (c4 : ¬ (g3 313 8) ≤ f3), ZZ K (0, 0) 14 [(0, .ref 312), (1, .int (v1 + 1))] [] g6) : ZZ K (0, 0) 14 [(0, .ref 312), (1, .int v1)] [] I := by
  obtain ⟨hb, ho, hnl, hR, hE⟩ := hK
  refine zz_iload_n hb (z_dec dX11_minutesToFinish 9 rfl) rfl 1 rfl ?_
  refine zz_sipush (v := (1500 : Int32)) hb (z_dec dX11_minutesToFinish 10 rfl) (by decide) ?_
  refine zz_icmp_ge (tgt := 45) hb (z_dec dX11_minutesToFinish 11 rfl) (by decide) (fun c1 => ?_) (fun c1 => ?_)
  · exact (k2 c1)
  · refine zz_aload_n hb (z_dec dX11_minutesToFinish 12 rfl) rfl 0 rfl ?_
    refine zz_inv (as := []) (d := 2) (mc := (0, 0)) (P := (qE f3 g3)) (X := nX) hb ho hnl hR hE mkX11_doneCount rfl ckX11 t0 rfl ⟨Nat.le_refl 0, Nat.le_refl 0⟩ rfl (rX11_minutesToFinish 4 rfl) (rX11_minutesToFinish 5 rfl) (rX11_minutesToFinish 6 rfl) rfl (z_dec dX11_minutesToFinish 13 rfl) (m3 c1) (fun v J3 hp => ?_) (fun _ _ h => h.elim)
    obtain ⟨r3, rfl, e3, w3⟩ := hp
    have e3 := e3.symm
    subst e3
    have w3 := w3.symm
    subst w3
    show ZZ K (0, 0) 25 [(0, .ref 312), (1, .int v1)] [.int f3] g3
    refine zz_aload_n hb (z_dec dX11_minutesToFinish 14 rfl) rfl 0 rfl ?_
    refine zz_getr (k := 0) (q := 313) hb ho rfl ckX11 t0 rfl rfl (rX11_minutesToFinish 7 rfl) rfl (z_dec dX11_minutesToFinish 15 rfl) ?_
    refine zz_bipush (v := (8 : Int32)) hb (z_dec dX11_minutesToFinish 16 rfl) (by decide) ?_
    refine zz_iald (j := 8) hb (show isT (kw K) 20 313 from isT.f (k := 0) t0 hw rfl rfl rfl (by decide)) rfl (zvi rfl (zin rfl)) (z_dec dX11_minutesToFinish 17 rfl) ?_
    refine zz_icmp_ge (tgt := 45) hb (z_dec dX11_minutesToFinish 18 rfl) (by decide) (fun c4 => ?_) (fun c4 => ?_)
    · exact (k5 c1 c4)
    · refine zz_aload_n hb (z_dec dX11_minutesToFinish 19 rfl) rfl 0 rfl ?_
      refine zz_inv (as := []) (d := 7) (mc := (0, 0)) (P := (qV (fun J => J = g6))) (X := nX) hb ho hnl hR hE mkX11_passMinute rfl ckX11 t0 rfl ⟨Nat.le_refl 0, Nat.le_refl 0⟩ rfl (rX11_minutesToFinish 8 rfl) (rX11_minutesToFinish 9 rfl) (rX11_minutesToFinish 10 rfl) rfl (z_dec dX11_minutesToFinish 20 rfl) (m6 c1 c4) (fun v J6 hp => ?_) (fun _ _ h => h.elim)
      obtain ⟨rfl, w6⟩ := hp
      have w6 := w6.symm
      subst w6
      show ZZ K (0, 0) 39 [(0, .ref 312), (1, .int v1)] [] g6
      refine zz_iinc (v := (v1 + 1)) (L' := [(0, .ref 312), (1, .int (v1 + 1))]) hb (z_dec dX11_minutesToFinish 21 rfl) 1 rfl rfl hnl rfl [1, 0] rfl ?_
      refine zz_goto (tgt := 14) hb (z_dec dX11_minutesToFinish 22 rfl) (by decide) ?_
      exact (k7 c1 c4)
set_option maxRecDepth 20000 in
theorem bX11_minutesToFinish_45 {K : zK} {P : Option Value → zM → Prop} {X : String → zM → Prop} (hK : zIs K RX11 cX11_minutesToFinish 3 (some .int) 8 (0, 0) P X) (hw : wOK (kw K)) {I : zM} (t0 : isT (kw K) 11 312) {v1 : Int32} {f1 : Int32} {g1 : zM} (m1 : CT (kG K) (kw K) (kl K) (yX11_doneCount, cX11_doneCount, 3, (some .int)) 2 (0, 0) [.ref 312] I (qE f1 g1) nX) (k3 : ∀ (c2 : ¬ f1 = (g1 313 8)), ZZ K (0, 0) 64 [(0, .ref 312), (1, .int v1)] [.int (0 : Int32)] g1) (k4 : ∀ (c2 : f1 = (g1 313 8)), ZZ K (0, 0) 64 [(0, .ref 312), (1, .int v1)] [.int (1 : Int32)] g1) : ZZ K (0, 0) 45 [(0, .ref 312), (1, .int v1)] [] I := by
  obtain ⟨hb, ho, hnl, hR, hE⟩ := hK
  refine zz_aload_n hb (z_dec dX11_minutesToFinish 23 rfl) rfl 0 rfl ?_
  refine zz_inv (as := []) (d := 2) (mc := (0, 0)) (P := (qE f1 g1)) (X := nX) hb ho hnl hR hE mkX11_doneCount rfl ckX11 t0 rfl ⟨Nat.le_refl 0, Nat.le_refl 0⟩ rfl (rX11_minutesToFinish 4 rfl) (rX11_minutesToFinish 5 rfl) (rX11_minutesToFinish 6 rfl) rfl (z_dec dX11_minutesToFinish 24 rfl) m1 (fun v J1 hp => ?_) (fun _ _ h => h.elim)
  obtain ⟨r1, rfl, e1, w1⟩ := hp
  have e1 := e1.symm
  subst e1
  have w1 := w1.symm
  subst w1
  show ZZ K (0, 0) 49 [(0, .ref 312), (1, .int v1)] [.int f1] g1
  refine zz_aload_n hb (z_dec dX11_minutesToFinish 25 rfl) rfl 0 rfl ?_
  refine zz_getr (k := 0) (q := 313) hb ho rfl ckX11 t0 rfl rfl (rX11_minutesToFinish 7 rfl) rfl (z_dec dX11_minutesToFinish 26 rfl) ?_
  refine zz_bipush (v := (8 : Int32)) hb (z_dec dX11_minutesToFinish 27 rfl) (by decide) ?_
  refine zz_iald (j := 8) hb (show isT (kw K) 20 313 from isT.f (k := 0) t0 hw rfl rfl rfl (by decide)) rfl (zvi rfl (zin rfl)) (z_dec dX11_minutesToFinish 28 rfl) ?_
  refine zz_icmp_ne (tgt := 63) hb (z_dec dX11_minutesToFinish 29 rfl) (by decide) (fun c2 => ?_) (fun c2 => ?_)
  · refine zz_iconst (v := (0 : Int32)) hb (z_dec dX11_minutesToFinish 32 rfl) (by decide) ?_
    exact (k3 c2)
  · refine zz_iconst (v := (1 : Int32)) hb (z_dec dX11_minutesToFinish 30 rfl) (by decide) ?_
    refine zz_goto (tgt := 64) hb (z_dec dX11_minutesToFinish 31 rfl) (by decide) ?_
    exact (k4 c2)
set_option maxRecDepth 20000 in
theorem bX11_minutesToFinish_64 {K : zK} {P : Option Value → zM → Prop} {X : String → zM → Prop} (hK : zIs K RX11 cX11_minutesToFinish 3 (some .int) 8 (0, 0) P X) (hw : wOK (kw K)) {I : zM} (t0 : isT (kw K) 11 312) {v1 : Int32} {vs0 : Int32} {g1 : zM} (m1 : CT (kG K) (kw K) (kl K) (yX11_copyBlock, cX11_copyBlock, 4, none) 0 (0, 0) [.ref 312, .int (9 : Int32), .int (0 : Int32)] I (qV (fun J => J = g1)) nX) (h3 : ∀ (c2 : vs0 = 0), P (some (.int (-1 : Int32))) g1) (h4 : ∀ (c2 : ¬ vs0 = 0), P (some (.int v1)) g1) : ZZ K (0, 0) 64 [(0, .ref 312), (1, .int v1)] [.int vs0] I := by
  obtain ⟨hb, ho, hnl, hR, hE⟩ := hK
  refine zz_istore_n (L' := [(0, .ref 312), (1, .int v1), (2, .int vs0)]) hb (z_dec dX11_minutesToFinish 33 rfl) rfl hnl rfl [1, 2, 0] rfl ?_
  refine zz_aload_n hb (z_dec dX11_minutesToFinish 34 rfl) rfl 0 rfl ?_
  refine zz_bipush (v := (9 : Int32)) hb (z_dec dX11_minutesToFinish 35 rfl) (by decide) ?_
  refine zz_iconst (v := (0 : Int32)) hb (z_dec dX11_minutesToFinish 36 rfl) (by decide) ?_
  refine zz_inv (as := [.int (9 : Int32), .int (0 : Int32)]) (d := 0) (mc := (0, 0)) (P := (qV (fun J => J = g1))) (X := nX) hb ho hnl hR hE mkX11_copyBlock rfl ckX11 t0 rfl ⟨Nat.le_refl 0, Nat.le_refl 0⟩ rfl (rX11_minutesToFinish 1 rfl) (rX11_minutesToFinish 2 rfl) (rX11_minutesToFinish 3 rfl) rfl (z_dec dX11_minutesToFinish 37 rfl) m1 (fun v J1 hp => ?_) (fun _ _ h => h.elim)
  obtain ⟨rfl, w1⟩ := hp
  have w1 := w1.symm
  subst w1
  show ZZ K (0, 0) 72 [(0, .ref 312), (1, .int v1), (2, .int vs0)] [] g1
  refine zz_iload_n hb (z_dec dX11_minutesToFinish 38 rfl) rfl 2 rfl ?_
  refine zz_if_eq (tgt := 80) hb (z_dec dX11_minutesToFinish 39 rfl) (by decide) (fun c2 => ?_) (fun c2 => ?_)
  · refine zz_iconst (v := (-1 : Int32)) hb (z_dec dX11_minutesToFinish 42 rfl) (by decide) ?_
    exact zz_iret hb hE ⟨Nat.le_refl 0, Nat.le_refl 0⟩ (z_dec dX11_minutesToFinish 43 rfl) (h3 c2)
  · refine zz_iload_n hb (z_dec dX11_minutesToFinish 40 rfl) rfl 1 rfl ?_
    refine zz_goto (tgt := 81) hb (z_dec dX11_minutesToFinish 41 rfl) (by decide) ?_
    exact zz_iret hb hE ⟨Nat.le_refl 0, Nat.le_refl 0⟩ (z_dec dX11_minutesToFinish 43 rfl) (h4 c2)
set_option maxRecDepth 20000 in
theorem bX11_minutesToFinishLetter_0 {K : zK} {P : Option Value → zM → Prop} {X : String → zM → Prop} (hK : zIs K RX11 cX11_minutesToFinishLetter 4 (some .int) 8 (0, 0) P X) (hw : wOK (kw K)) {I : zM} (t0 : isT (kw K) 11 312) {v1 : Int32} {f1 : Int32} {g1 : zM} (m1 : CT (kG K) (kw K) (kl K) (yX11_isLetter, cX11_isLetter, 2, (some .boolean)) 1 (0, 0) [.ref 312, .int v1] I (qE f1 g1) nX) (k3 : ∀ (c2 : ¬ f1 = 0), ZZ K (0, 0) 14 [(0, .ref 312), (1, .int v1)] [.int (0 : Int32), .ref 312] g1) (k4 : ∀ (c2 : f1 = 0), ZZ K (0, 0) 14 [(0, .ref 312), (1, .int v1)] [.int (1 : Int32), .ref 312] g1) : ZZ K (0, 0) 0 [(0, .ref 312), (1, .int v1)] [] I := by
  obtain ⟨hb, ho, hnl, hR, hE⟩ := hK
  refine zz_aload_n hb (z_dec dX11_minutesToFinishLetter 0 rfl) rfl 0 rfl ?_
  refine zz_aload_n hb (z_dec dX11_minutesToFinishLetter 1 rfl) rfl 0 rfl ?_
  refine zz_iload_n hb (z_dec dX11_minutesToFinishLetter 2 rfl) rfl 1 rfl ?_
  refine zz_inv (as := [.int v1]) (d := 1) (mc := (0, 0)) (P := (qE f1 g1)) (X := nX) hb ho hnl hR hE mkX11_isLetter rfl ckX11 t0 rfl ⟨Nat.le_refl 0, Nat.le_refl 0⟩ rfl (rX11_minutesToFinishLetter 0 rfl) (rX11_minutesToFinishLetter 1 rfl) (rX11_minutesToFinishLetter 2 rfl) rfl (z_dec dX11_minutesToFinishLetter 3 rfl) m1 (fun v J1 hp => ?_) (fun _ _ h => h.elim)
  obtain ⟨r1, rfl, e1, w1⟩ := hp
  have e1 := e1.symm
  subst e1
  have w1 := w1.symm
  subst w1
  show ZZ K (0, 0) 6 [(0, .ref 312), (1, .int v1)] [.int f1, .ref 312] g1
  refine zz_if_ne (tgt := 13) hb (z_dec dX11_minutesToFinishLetter 4 rfl) (by decide) (fun c2 => ?_) (fun c2 => ?_)
  · refine zz_iconst (v := (0 : Int32)) hb (z_dec dX11_minutesToFinishLetter 7 rfl) (by decide) ?_
    exact (k3 c2)
  · refine zz_iconst (v := (1 : Int32)) hb (z_dec dX11_minutesToFinishLetter 5 rfl) (by decide) ?_
    refine zz_goto (tgt := 14) hb (z_dec dX11_minutesToFinishLetter 6 rfl) (by decide) ?_
    exact (k4 c2)
set_option maxRecDepth 20000 in
theorem bX11_minutesToFinishLetter_14 {K : zK} {P : Option Value → zM → Prop} {X : String → zM → Prop} (hK : zIs K RX11 cX11_minutesToFinishLetter 4 (some .int) 8 (0, 0) P X) (hw : wOK (kw K)) {I : zM} (t0 : isT (kw K) 11 312) {v1 : Int32} (ts0 : isT (kw K) 11 312) {vs1 : Int32} {f1 : Int32} {g1 : zM} (m1 : CT (kG K) (kw K) (kl K) (yX11_fails, cX11_fails, 4, (some .boolean)) 0 (0, 0) [.ref 312, .int vs1, .int (0 : Int32), .int (0 : Int32)] I (qE f1 g1) nX) {g3 : zM} (m3 : ∀ (c2 : f1 = 0), CT (kG K) (kw K) (kl K) (yX11_copyBlock, cX11_copyBlock, 4, none) 0 (0, 0) [.ref 312, .int (0 : Int32), .int (9 : Int32)] g1 (qV (fun J => J = g3)) nX) (k4 : ∀ (c2 : f1 = 0), ZZ K (0, 0) 33 [(0, .ref 312), (1, .int v1), (2, .int (0 : Int32))] [] g3) (h5 : ∀ (c2 : ¬ f1 = 0), P (some (.int (0 : Int32))) g1) : ZZ K (0, 0) 14 [(0, .ref 312), (1, .int v1)] [.int vs1, .ref 312] I := by
  obtain ⟨hb, ho, hnl, hR, hE⟩ := hK
  refine zz_iconst (v := (0 : Int32)) hb (z_dec dX11_minutesToFinishLetter 8 rfl) (by decide) ?_
  refine zz_iconst (v := (0 : Int32)) hb (z_dec dX11_minutesToFinishLetter 9 rfl) (by decide) ?_
  refine zz_inv (as := [.int vs1, .int (0 : Int32), .int (0 : Int32)]) (d := 0) (mc := (0, 0)) (P := (qE f1 g1)) (X := nX) hb ho hnl hR hE mkX11_fails rfl ckX11 ts0 rfl ⟨Nat.le_refl 0, Nat.le_refl 0⟩ rfl (rX11_minutesToFinishLetter 3 rfl) (rX11_minutesToFinishLetter 4 rfl) (rX11_minutesToFinishLetter 5 rfl) rfl (z_dec dX11_minutesToFinishLetter 10 rfl) m1 (fun v J1 hp => ?_) (fun _ _ h => h.elim)
  obtain ⟨r1, rfl, e1, w1⟩ := hp
  have e1 := e1.symm
  subst e1
  have w1 := w1.symm
  subst w1
  show ZZ K (0, 0) 19 [(0, .ref 312), (1, .int v1)] [.int f1] g1
  refine zz_if_eq (tgt := 24) hb (z_dec dX11_minutesToFinishLetter 11 rfl) (by decide) (fun c2 => ?_) (fun c2 => ?_)
  · refine zz_aload_n hb (z_dec dX11_minutesToFinishLetter 14 rfl) rfl 0 rfl ?_
    refine zz_iconst (v := (0 : Int32)) hb (z_dec dX11_minutesToFinishLetter 15 rfl) (by decide) ?_
    refine zz_bipush (v := (9 : Int32)) hb (z_dec dX11_minutesToFinishLetter 16 rfl) (by decide) ?_
    refine zz_inv (as := [.int (0 : Int32), .int (9 : Int32)]) (d := 0) (mc := (0, 0)) (P := (qV (fun J => J = g3))) (X := nX) hb ho hnl hR hE mkX11_copyBlock rfl ckX11 t0 rfl ⟨Nat.le_refl 0, Nat.le_refl 0⟩ rfl (rX11_minutesToFinishLetter 6 rfl) (rX11_minutesToFinishLetter 7 rfl) (rX11_minutesToFinishLetter 8 rfl) rfl (z_dec dX11_minutesToFinishLetter 17 rfl) (m3 c2) (fun v J3 hp => ?_) (fun _ _ h => h.elim)
    obtain ⟨rfl, w3⟩ := hp
    have w3 := w3.symm
    subst w3
    show ZZ K (0, 0) 31 [(0, .ref 312), (1, .int v1)] [] g3
    refine zz_iconst (v := (0 : Int32)) hb (z_dec dX11_minutesToFinishLetter 18 rfl) (by decide) ?_
    refine zz_istore_n (L' := [(0, .ref 312), (1, .int v1), (2, .int (0 : Int32))]) hb (z_dec dX11_minutesToFinishLetter 19 rfl) rfl hnl rfl [1, 2, 0] rfl ?_
    exact (k4 c2)
  · refine zz_iconst (v := (0 : Int32)) hb (z_dec dX11_minutesToFinishLetter 12 rfl) (by decide) ?_
    exact zz_iret hb hE ⟨Nat.le_refl 0, Nat.le_refl 0⟩ (z_dec dX11_minutesToFinishLetter 13 rfl) (h5 c2)
set_option maxRecDepth 20000 in
theorem bX11_minutesToFinishLetter_33 {K : zK} {P : Option Value → zM → Prop} {X : String → zM → Prop} (hK : zIs K RX11 cX11_minutesToFinishLetter 4 (some .int) 8 (0, 0) P X) (hw : wOK (kw K)) {I : zM} (t0 : isT (kw K) 11 312) {v1 : Int32} {v2 : Int32} (k2 : ∀ (c1 : (1500 : Int32) ≤ v2), ZZ K (0, 0) 58 [(0, .ref 312), (1, .int v1), (2, .int v2)] [] I) {f3 : Int32} {g3 : zM} (m3 : ∀ (c1 : ¬ (1500 : Int32) ≤ v2), CT (kG K) (kw K) (kl K) (yX11_isDone, cX11_isDone, 2, (some .boolean)) 1 (0, 0) [.ref 312, .int v1] I (qE f3 g3) nX) (k5 : ∀ (c1 : ¬ (1500 : Int32) ≤ v2) (c4 : ¬ f3 = 0), ZZ K (0, 0) 58 [(0, .ref 312), (1, .int v1), (2, .int v2)] [] g3) {g6 : zM} (m6 : ∀ (c1 : ¬ (1500 : Int32) ≤ v2) (c4 : f3 = 0), CT (kG K) (kw K) (kl K) (yX11_passMinute, cX11_passMinute, 2, none) 7 (0, 0) [.ref 312] g3 (qV (fun J => J = g6)) nX) (k7 : ∀ (c1 : ¬ (1500 : Int32) ≤ v2) (c4 : f3 = 0), ZZ K (0, 0) 33 [(0, .ref 312), (1, .int v1), (2, .int (v2 + 1))] [] g6) : ZZ K (0, 0) 33 [(0, .ref 312), (1, .int v1), (2, .int v2)] [] I := by
  obtain ⟨hb, ho, hnl, hR, hE⟩ := hK
  refine zz_iload_n hb (z_dec dX11_minutesToFinishLetter 20 rfl) rfl 2 rfl ?_
  refine zz_sipush (v := (1500 : Int32)) hb (z_dec dX11_minutesToFinishLetter 21 rfl) (by decide) ?_
  refine zz_icmp_ge (tgt := 58) hb (z_dec dX11_minutesToFinishLetter 22 rfl) (by decide) (fun c1 => ?_) (fun c1 => ?_)
  · exact (k2 c1)
  · refine zz_aload_n hb (z_dec dX11_minutesToFinishLetter 23 rfl) rfl 0 rfl ?_
    refine zz_iload_n hb (z_dec dX11_minutesToFinishLetter 24 rfl) rfl 1 rfl ?_
    refine zz_inv (as := [.int v1]) (d := 1) (mc := (0, 0)) (P := (qE f3 g3)) (X := nX) hb ho hnl hR hE mkX11_isDone rfl ckX11 t0 rfl ⟨Nat.le_refl 0, Nat.le_refl 0⟩ rfl (rX11_minutesToFinishLetter 9 rfl) (rX11_minutesToFinishLetter 10 rfl) (rX11_minutesToFinishLetter 11 rfl) rfl (z_dec dX11_minutesToFinishLetter 25 rfl) (m3 c1) (fun v J3 hp => ?_) (fun _ _ h => h.elim)
    obtain ⟨r3, rfl, e3, w3⟩ := hp
    have e3 := e3.symm
    subst e3
    have w3 := w3.symm
    subst w3
    show ZZ K (0, 0) 45 [(0, .ref 312), (1, .int v1), (2, .int v2)] [.int f3] g3
    refine zz_if_ne (tgt := 58) hb (z_dec dX11_minutesToFinishLetter 26 rfl) (by decide) (fun c4 => ?_) (fun c4 => ?_)
    · exact (k5 c1 c4)
    · refine zz_aload_n hb (z_dec dX11_minutesToFinishLetter 27 rfl) rfl 0 rfl ?_
      refine zz_inv (as := []) (d := 7) (mc := (0, 0)) (P := (qV (fun J => J = g6))) (X := nX) hb ho hnl hR hE mkX11_passMinute rfl ckX11 t0 rfl ⟨Nat.le_refl 0, Nat.le_refl 0⟩ rfl (rX11_minutesToFinishLetter 12 rfl) (rX11_minutesToFinishLetter 13 rfl) (rX11_minutesToFinishLetter 14 rfl) rfl (z_dec dX11_minutesToFinishLetter 28 rfl) (m6 c1 c4) (fun v J6 hp => ?_) (fun _ _ h => h.elim)
      obtain ⟨rfl, w6⟩ := hp
      have w6 := w6.symm
      subst w6
      show ZZ K (0, 0) 52 [(0, .ref 312), (1, .int v1), (2, .int v2)] [] g6
      refine zz_iinc (v := (v2 + 1)) (L' := [(0, .ref 312), (1, .int v1), (2, .int (v2 + 1))]) hb (z_dec dX11_minutesToFinishLetter 29 rfl) 2 rfl rfl hnl rfl [1, 2, 0] rfl ?_
      refine zz_goto (tgt := 33) hb (z_dec dX11_minutesToFinishLetter 30 rfl) (by decide) ?_
      exact (k7 c1 c4)
set_option maxRecDepth 20000 in
theorem bX11_minutesToFinishLetter_58 {K : zK} {P : Option Value → zM → Prop} {X : String → zM → Prop} (hK : zIs K RX11 cX11_minutesToFinishLetter 4 (some .int) 8 (0, 0) P X) (hw : wOK (kw K)) {I : zM} (t0 : isT (kw K) 11 312) {v1 : Int32} {v2 : Int32} {f1 : Int32} {g1 : zM} (m1 : CT (kG K) (kw K) (kl K) (yX11_isDone, cX11_isDone, 2, (some .boolean)) 1 (0, 0) [.ref 312, .int v1] I (qE f1 g1) nX) {g2 : zM} (m2 : CT (kG K) (kw K) (kl K) (yX11_copyBlock, cX11_copyBlock, 4, none) 0 (0, 0) [.ref 312, .int (9 : Int32), .int (0 : Int32)] g1 (qV (fun J => J = g2)) nX) (h4 : ∀ (c3 : f1 = 0), P (some (.int (-1 : Int32))) g2) (h5 : ∀ (c3 : ¬ f1 = 0), P (some (.int v2)) g2) : ZZ K (0, 0) 58 [(0, .ref 312), (1, .int v1), (2, .int v2)] [] I := by
  obtain ⟨hb, ho, hnl, hR, hE⟩ := hK
  refine zz_aload_n hb (z_dec dX11_minutesToFinishLetter 31 rfl) rfl 0 rfl ?_
  refine zz_iload_n hb (z_dec dX11_minutesToFinishLetter 32 rfl) rfl 1 rfl ?_
  refine zz_inv (as := [.int v1]) (d := 1) (mc := (0, 0)) (P := (qE f1 g1)) (X := nX) hb ho hnl hR hE mkX11_isDone rfl ckX11 t0 rfl ⟨Nat.le_refl 0, Nat.le_refl 0⟩ rfl (rX11_minutesToFinishLetter 9 rfl) (rX11_minutesToFinishLetter 10 rfl) (rX11_minutesToFinishLetter 11 rfl) rfl (z_dec dX11_minutesToFinishLetter 33 rfl) m1 (fun v J1 hp => ?_) (fun _ _ h => h.elim)
  obtain ⟨r1, rfl, e1, w1⟩ := hp
  have e1 := e1.symm
  subst e1
  have w1 := w1.symm
  subst w1
  show ZZ K (0, 0) 63 [(0, .ref 312), (1, .int v1), (2, .int v2)] [.int f1] g1
  refine zz_istore_n (L' := [(0, .ref 312), (1, .int v1), (2, .int v2), (3, .int f1)]) hb (z_dec dX11_minutesToFinishLetter 34 rfl) rfl hnl rfl [1, 2, 3, 0] rfl ?_
  refine zz_aload_n hb (z_dec dX11_minutesToFinishLetter 35 rfl) rfl 0 rfl ?_
  refine zz_bipush (v := (9 : Int32)) hb (z_dec dX11_minutesToFinishLetter 36 rfl) (by decide) ?_
  refine zz_iconst (v := (0 : Int32)) hb (z_dec dX11_minutesToFinishLetter 37 rfl) (by decide) ?_
  refine zz_inv (as := [.int (9 : Int32), .int (0 : Int32)]) (d := 0) (mc := (0, 0)) (P := (qV (fun J => J = g2))) (X := nX) hb ho hnl hR hE mkX11_copyBlock rfl ckX11 t0 rfl ⟨Nat.le_refl 0, Nat.le_refl 0⟩ rfl (rX11_minutesToFinishLetter 6 rfl) (rX11_minutesToFinishLetter 7 rfl) (rX11_minutesToFinishLetter 8 rfl) rfl (z_dec dX11_minutesToFinishLetter 38 rfl) m2 (fun v J2 hp => ?_) (fun _ _ h => h.elim)
  obtain ⟨rfl, w2⟩ := hp
  have w2 := w2.symm
  subst w2
  show ZZ K (0, 0) 71 [(0, .ref 312), (1, .int v1), (2, .int v2), (3, .int f1)] [] g2
  refine zz_iload_n hb (z_dec dX11_minutesToFinishLetter 39 rfl) rfl 3 rfl ?_
  refine zz_if_eq (tgt := 79) hb (z_dec dX11_minutesToFinishLetter 40 rfl) (by decide) (fun c3 => ?_) (fun c3 => ?_)
  · refine zz_iconst (v := (-1 : Int32)) hb (z_dec dX11_minutesToFinishLetter 43 rfl) (by decide) ?_
    exact zz_iret hb hE ⟨Nat.le_refl 0, Nat.le_refl 0⟩ (z_dec dX11_minutesToFinishLetter 44 rfl) (h4 c3)
  · refine zz_iload_n hb (z_dec dX11_minutesToFinishLetter 41 rfl) rfl 2 rfl ?_
    refine zz_goto (tgt := 80) hb (z_dec dX11_minutesToFinishLetter 42 rfl) (by decide) ?_
    exact zz_iret hb hE ⟨Nat.le_refl 0, Nat.le_refl 0⟩ (z_dec dX11_minutesToFinishLetter 44 rfl) (h5 c3)
set_option maxRecDepth 20000 in
theorem bX11_letterWrittenIn_0 {K : zK} {P : Option Value → zM → Prop} {X : String → zM → Prop} (hK : zIs K RX11 cX11_letterWrittenIn 4 (some .int) 9 (0, 0) P X) (hw : wOK (kw K)) {I : zM} (t0 : isT (kw K) 11 312) {v1 : Int32} {f1 : Int32} {g1 : zM} (m1 : CT (kG K) (kw K) (kl K) (yX11_in, cX11_in, 3, (some .boolean)) 0 (0, 0) [.int v1, .int (0 : Int32), .int (300 : Int32)] I (qE f1 g1) nX) (k3 : ∀ (c2 : ¬ f1 = 0), ZZ K (0, 0) 17 [(0, .ref 312), (1, .int v1)] [.int (0 : Int32), .ref 312] g1) (k4 : ∀ (c2 : f1 = 0), ZZ K (0, 0) 17 [(0, .ref 312), (1, .int v1)] [.int (1 : Int32), .ref 312] g1) : ZZ K (0, 0) 0 [(0, .ref 312), (1, .int v1)] [] I := by
  obtain ⟨hb, ho, hnl, hR, hE⟩ := hK
  refine zz_aload_n hb (z_dec dX11_letterWrittenIn 0 rfl) rfl 0 rfl ?_
  refine zz_iload_n hb (z_dec dX11_letterWrittenIn 1 rfl) rfl 1 rfl ?_
  refine zz_iconst (v := (0 : Int32)) hb (z_dec dX11_letterWrittenIn 2 rfl) (by decide) ?_
  refine zz_sipush (v := (300 : Int32)) hb (z_dec dX11_letterWrittenIn 3 rfl) (by decide) ?_
  refine zz_invS (as := [.int v1, .int (0 : Int32), .int (300 : Int32)]) (d := 0) (mc := (0, 0)) (P := (qE f1 g1)) (X := nX) hb ho hnl hR hE mkX11_in rfl rfl ⟨Nat.le_refl 0, Nat.le_refl 0⟩ rfl (rX11_letterWrittenIn 0 rfl) (rX11_letterWrittenIn 1 rfl) rfl (z_dec dX11_letterWrittenIn 4 rfl) m1 (fun v J1 hp => ?_) (fun _ _ h => h.elim)
  obtain ⟨r1, rfl, e1, w1⟩ := hp
  have e1 := e1.symm
  subst e1
  have w1 := w1.symm
  subst w1
  show ZZ K (0, 0) 9 [(0, .ref 312), (1, .int v1)] [.int f1, .ref 312] g1
  refine zz_if_ne (tgt := 16) hb (z_dec dX11_letterWrittenIn 5 rfl) (by decide) (fun c2 => ?_) (fun c2 => ?_)
  · refine zz_iconst (v := (0 : Int32)) hb (z_dec dX11_letterWrittenIn 8 rfl) (by decide) ?_
    exact (k3 c2)
  · refine zz_iconst (v := (1 : Int32)) hb (z_dec dX11_letterWrittenIn 6 rfl) (by decide) ?_
    refine zz_goto (tgt := 17) hb (z_dec dX11_letterWrittenIn 7 rfl) (by decide) ?_
    exact (k4 c2)
set_option maxRecDepth 20000 in
theorem bX11_letterWrittenIn_17 {K : zK} {P : Option Value → zM → Prop} {X : String → zM → Prop} (hK : zIs K RX11 cX11_letterWrittenIn 4 (some .int) 9 (0, 0) P X) (hw : wOK (kw K)) {I : zM} (t0 : isT (kw K) 11 312) {v1 : Int32} (ts0 : isT (kw K) 11 312) {vs1 : Int32} {f1 : Int32} {g1 : zM} (m1 : CT (kG K) (kw K) (kl K) (yX11_fails, cX11_fails, 4, (some .boolean)) 0 (0, 0) [.ref 312, .int vs1, .int (0 : Int32), .int (0 : Int32)] I (qE f1 g1) nX) {g3 : zM} (m3 : ∀ (c2 : f1 = 0), CT (kG K) (kw K) (kl K) (yX11_copyBlock, cX11_copyBlock, 4, none) 0 (0, 0) [.ref 312, .int (0 : Int32), .int (9 : Int32)] g1 (qV (fun J => J = g3)) nX) {f4 : Int32} {g4 : zM} (m4 : ∀ (c2 : f1 = 0), CT (kG K) (kw K) (kl K) (yX11_passMinutes, cX11_passMinutes, 4, (some .int)) 8 (0, 0) [.ref 312, .int v1] g3 (qE f4 g4) nX) {g5 : zM} (m5 : ∀ (c2 : f1 = 0), CT (kG K) (kw K) (kl K) (yX11_passMinute, cX11_passMinute, 2, none) 7 (0, 0) [.ref 312] g4 (qV (fun J => J = g5)) nX) (k7 : ∀ (c2 : f1 = 0) (c6 : (g5 313 18) ≤ (g4 313 18)), ZZ K (0, 0) 74 [(0, .ref 312), (1, .int v1), (2, .int (g4 313 18))] [.int (-1 : Int32)] g5) (k8 : ∀ (c2 : f1 = 0) (c6 : ¬ (g5 313 18) ≤ (g4 313 18)), ZZ K (0, 0) 74 [(0, .ref 312), (1, .int v1), (2, .int (g4 313 18))] [.int (g5 313 11)] g5) (h9 : ∀ (c2 : ¬ f1 = 0), P (some (.int (0 : Int32))) g1) : ZZ K (0, 0) 17 [(0, .ref 312), (1, .int v1)] [.int vs1, .ref 312] I := by
  obtain ⟨hb, ho, hnl, hR, hE⟩ := hK
  refine zz_iconst (v := (0 : Int32)) hb (z_dec dX11_letterWrittenIn 9 rfl) (by decide) ?_
  refine zz_iconst (v := (0 : Int32)) hb (z_dec dX11_letterWrittenIn 10 rfl) (by decide) ?_
  refine zz_inv (as := [.int vs1, .int (0 : Int32), .int (0 : Int32)]) (d := 0) (mc := (0, 0)) (P := (qE f1 g1)) (X := nX) hb ho hnl hR hE mkX11_fails rfl ckX11 ts0 rfl ⟨Nat.le_refl 0, Nat.le_refl 0⟩ rfl (rX11_letterWrittenIn 2 rfl) (rX11_letterWrittenIn 3 rfl) (rX11_letterWrittenIn 4 rfl) rfl (z_dec dX11_letterWrittenIn 11 rfl) m1 (fun v J1 hp => ?_) (fun _ _ h => h.elim)
  obtain ⟨r1, rfl, e1, w1⟩ := hp
  have e1 := e1.symm
  subst e1
  have w1 := w1.symm
  subst w1
  show ZZ K (0, 0) 22 [(0, .ref 312), (1, .int v1)] [.int f1] g1
  refine zz_if_eq (tgt := 27) hb (z_dec dX11_letterWrittenIn 12 rfl) (by decide) (fun c2 => ?_) (fun c2 => ?_)
  · refine zz_aload_n hb (z_dec dX11_letterWrittenIn 15 rfl) rfl 0 rfl ?_
    refine zz_iconst (v := (0 : Int32)) hb (z_dec dX11_letterWrittenIn 16 rfl) (by decide) ?_
    refine zz_bipush (v := (9 : Int32)) hb (z_dec dX11_letterWrittenIn 17 rfl) (by decide) ?_
    refine zz_inv (as := [.int (0 : Int32), .int (9 : Int32)]) (d := 0) (mc := (0, 0)) (P := (qV (fun J => J = g3))) (X := nX) hb ho hnl hR hE mkX11_copyBlock rfl ckX11 t0 rfl ⟨Nat.le_refl 0, Nat.le_refl 0⟩ rfl (rX11_letterWrittenIn 5 rfl) (rX11_letterWrittenIn 6 rfl) (rX11_letterWrittenIn 7 rfl) rfl (z_dec dX11_letterWrittenIn 18 rfl) (m3 c2) (fun v J3 hp => ?_) (fun _ _ h => h.elim)
    obtain ⟨rfl, w3⟩ := hp
    have w3 := w3.symm
    subst w3
    show ZZ K (0, 0) 34 [(0, .ref 312), (1, .int v1)] [] g3
    refine zz_aload_n hb (z_dec dX11_letterWrittenIn 19 rfl) rfl 0 rfl ?_
    refine zz_iload_n hb (z_dec dX11_letterWrittenIn 20 rfl) rfl 1 rfl ?_
    refine zz_inv (as := [.int v1]) (d := 8) (mc := (0, 0)) (P := (qE f4 g4)) (X := nX) hb ho hnl hR hE mkX11_passMinutes rfl ckX11 t0 rfl ⟨Nat.le_refl 0, Nat.le_refl 0⟩ rfl (rX11_letterWrittenIn 8 rfl) (rX11_letterWrittenIn 9 rfl) (rX11_letterWrittenIn 10 rfl) rfl (z_dec dX11_letterWrittenIn 21 rfl) (m4 c2) (fun v J4 hp => ?_) (fun _ _ h => h.elim)
    obtain ⟨r4, rfl, e4, w4⟩ := hp
    have e4 := e4.symm
    subst e4
    have w4 := w4.symm
    subst w4
    show ZZ K (0, 0) 39 [(0, .ref 312), (1, .int v1)] [.int f4] g4
    refine zz_pop hb (z_dec dX11_letterWrittenIn 22 rfl) rfl ?_
    refine zz_aload_n hb (z_dec dX11_letterWrittenIn 23 rfl) rfl 0 rfl ?_
    refine zz_getr (k := 0) (q := 313) hb ho rfl ckX11 t0 rfl rfl (rX11_letterWrittenIn 11 rfl) rfl (z_dec dX11_letterWrittenIn 24 rfl) ?_
    refine zz_bipush (v := (18 : Int32)) hb (z_dec dX11_letterWrittenIn 25 rfl) (by decide) ?_
    refine zz_iald (j := 18) hb (show isT (kw K) 20 313 from isT.f (k := 0) t0 hw rfl rfl rfl (by decide)) rfl (zvi rfl (zin rfl)) (z_dec dX11_letterWrittenIn 26 rfl) ?_
    refine zz_istore_n (L' := [(0, .ref 312), (1, .int v1), (2, .int (g4 313 18))]) hb (z_dec dX11_letterWrittenIn 27 rfl) rfl hnl rfl [1, 2, 0] rfl ?_
    refine zz_aload_n hb (z_dec dX11_letterWrittenIn 28 rfl) rfl 0 rfl ?_
    refine zz_inv (as := []) (d := 7) (mc := (0, 0)) (P := (qV (fun J => J = g5))) (X := nX) hb ho hnl hR hE mkX11_passMinute rfl ckX11 t0 rfl ⟨Nat.le_refl 0, Nat.le_refl 0⟩ rfl (rX11_letterWrittenIn 12 rfl) (rX11_letterWrittenIn 13 rfl) (rX11_letterWrittenIn 14 rfl) rfl (z_dec dX11_letterWrittenIn 29 rfl) (m5 c2) (fun v J5 hp => ?_) (fun _ _ h => h.elim)
    obtain ⟨rfl, w5⟩ := hp
    have w5 := w5.symm
    subst w5
    show ZZ K (0, 0) 52 [(0, .ref 312), (1, .int v1), (2, .int (g4 313 18))] [] g5
    refine zz_aload_n hb (z_dec dX11_letterWrittenIn 30 rfl) rfl 0 rfl ?_
    refine zz_getr (k := 0) (q := 313) hb ho rfl ckX11 t0 rfl rfl (rX11_letterWrittenIn 11 rfl) rfl (z_dec dX11_letterWrittenIn 31 rfl) ?_
    refine zz_bipush (v := (18 : Int32)) hb (z_dec dX11_letterWrittenIn 32 rfl) (by decide) ?_
    refine zz_iald (j := 18) hb (show isT (kw K) 20 313 from isT.f (k := 0) t0 hw rfl rfl rfl (by decide)) rfl (zvi rfl (zin rfl)) (z_dec dX11_letterWrittenIn 33 rfl) ?_
    refine zz_iload_n hb (z_dec dX11_letterWrittenIn 34 rfl) rfl 2 rfl ?_
    refine zz_icmp_le (tgt := 73) hb (z_dec dX11_letterWrittenIn 35 rfl) (by decide) (fun c6 => ?_) (fun c6 => ?_)
    · refine zz_iconst (v := (-1 : Int32)) hb (z_dec dX11_letterWrittenIn 41 rfl) (by decide) ?_
      exact (k7 c2 c6)
    · refine zz_aload_n hb (z_dec dX11_letterWrittenIn 36 rfl) rfl 0 rfl ?_
      refine zz_getr (k := 0) (q := 313) hb ho rfl ckX11 t0 rfl rfl (rX11_letterWrittenIn 11 rfl) rfl (z_dec dX11_letterWrittenIn 37 rfl) ?_
      refine zz_bipush (v := (11 : Int32)) hb (z_dec dX11_letterWrittenIn 38 rfl) (by decide) ?_
      refine zz_iald (j := 11) hb (show isT (kw K) 20 313 from isT.f (k := 0) t0 hw rfl rfl rfl (by decide)) rfl (zvi rfl (zin rfl)) (z_dec dX11_letterWrittenIn 39 rfl) ?_
      refine zz_goto (tgt := 74) hb (z_dec dX11_letterWrittenIn 40 rfl) (by decide) ?_
      exact (k8 c2 c6)
  · refine zz_iconst (v := (0 : Int32)) hb (z_dec dX11_letterWrittenIn 13 rfl) (by decide) ?_
    exact zz_iret hb hE ⟨Nat.le_refl 0, Nat.le_refl 0⟩ (z_dec dX11_letterWrittenIn 14 rfl) (h9 c2)
set_option maxRecDepth 20000 in
theorem bX11_letterWrittenIn_74 {K : zK} {P : Option Value → zM → Prop} {X : String → zM → Prop} (hK : zIs K RX11 cX11_letterWrittenIn 4 (some .int) 9 (0, 0) P X) (hw : wOK (kw K)) {I : zM} (t0 : isT (kw K) 11 312) {v1 : Int32} {v2 : Int32} {vs0 : Int32} {g1 : zM} (m1 : CT (kG K) (kw K) (kl K) (yX11_copyBlock, cX11_copyBlock, 4, none) 0 (0, 0) [.ref 312, .int (9 : Int32), .int (0 : Int32)] I (qV (fun J => J = g1)) nX) (h2 : P (some (.int vs0)) g1) : ZZ K (0, 0) 74 [(0, .ref 312), (1, .int v1), (2, .int v2)] [.int vs0] I := by
  obtain ⟨hb, ho, hnl, hR, hE⟩ := hK
  refine zz_istore_n (L' := [(0, .ref 312), (1, .int v1), (2, .int v2), (3, .int vs0)]) hb (z_dec dX11_letterWrittenIn 42 rfl) rfl hnl rfl [1, 2, 3, 0] rfl ?_
  refine zz_aload_n hb (z_dec dX11_letterWrittenIn 43 rfl) rfl 0 rfl ?_
  refine zz_bipush (v := (9 : Int32)) hb (z_dec dX11_letterWrittenIn 44 rfl) (by decide) ?_
  refine zz_iconst (v := (0 : Int32)) hb (z_dec dX11_letterWrittenIn 45 rfl) (by decide) ?_
  refine zz_inv (as := [.int (9 : Int32), .int (0 : Int32)]) (d := 0) (mc := (0, 0)) (P := (qV (fun J => J = g1))) (X := nX) hb ho hnl hR hE mkX11_copyBlock rfl ckX11 t0 rfl ⟨Nat.le_refl 0, Nat.le_refl 0⟩ rfl (rX11_letterWrittenIn 5 rfl) (rX11_letterWrittenIn 6 rfl) (rX11_letterWrittenIn 7 rfl) rfl (z_dec dX11_letterWrittenIn 46 rfl) m1 (fun v J1 hp => ?_) (fun _ _ h => h.elim)
  obtain ⟨rfl, w1⟩ := hp
  have w1 := w1.symm
  subst w1
  show ZZ K (0, 0) 82 [(0, .ref 312), (1, .int v1), (2, .int v2), (3, .int vs0)] [] g1
  refine zz_iload_n hb (z_dec dX11_letterWrittenIn 47 rfl) rfl 3 rfl ?_
  exact zz_iret hb hE ⟨Nat.le_refl 0, Nat.le_refl 0⟩ (z_dec dX11_letterWrittenIn 48 rfl) h2
set_option maxRecDepth 20000 in
theorem bX11_runFar_0 {K : zK} {P : Option Value → zM → Prop} {X : String → zM → Prop} (hK : zIs K RX11 cX11_runFar 2 none 9 (0, 0) P X) (hw : wOK (kw K)) {I : zM} (t0 : isT (kw K) 11 312) {v1 : Int32} {f1 : Int32} {g1 : zM} (m1 : CT (kG K) (kw K) (kl K) (yX11_passMinutes, cX11_passMinutes, 4, (some .int)) 8 (0, 0) [.ref 312, .int (1500 : Int32)] (up I 313 0 v1) (qE f1 g1) nX) (h2 : P none g1) : ZZ K (0, 0) 0 [(0, .ref 312), (1, .int v1)] [] I := by
  obtain ⟨hb, ho, hnl, hR, hE⟩ := hK
  refine zz_aload_n hb (z_dec dX11_runFar 0 rfl) rfl 0 rfl ?_
  refine zz_getr (k := 0) (q := 313) hb ho rfl ckX11 t0 rfl rfl (rX11_runFar 0 rfl) rfl (z_dec dX11_runFar 1 rfl) ?_
  refine zz_iconst (v := (0 : Int32)) hb (z_dec dX11_runFar 2 rfl) (by decide) ?_
  refine zz_iload_n hb (z_dec dX11_runFar 3 rfl) rfl 1 rfl ?_
  refine zz_iast (j := 0) hb (show isT (kw K) 20 313 from isT.f (k := 0) t0 hw rfl rfl rfl (by decide)) rfl (zvi rfl (zin rfl)) (z_dec dX11_runFar 4 rfl) ?_
  refine zz_aload_n hb (z_dec dX11_runFar 5 rfl) rfl 0 rfl ?_
  refine zz_sipush (v := (1500 : Int32)) hb (z_dec dX11_runFar 6 rfl) (by decide) ?_
  refine zz_inv (as := [.int (1500 : Int32)]) (d := 8) (mc := (0, 0)) (P := (qE f1 g1)) (X := nX) hb ho hnl hR hE mkX11_passMinutes rfl ckX11 t0 rfl ⟨Nat.le_refl 0, Nat.le_refl 0⟩ rfl (rX11_runFar 1 rfl) (rX11_runFar 2 rfl) (rX11_runFar 3 rfl) rfl (z_dec dX11_runFar 7 rfl) m1 (fun v J1 hp => ?_) (fun _ _ h => h.elim)
  obtain ⟨r1, rfl, e1, w1⟩ := hp
  have e1 := e1.symm
  subst e1
  have w1 := w1.symm
  subst w1
  show ZZ K (0, 0) 14 [(0, .ref 312), (1, .int v1)] [.int f1] g1
  refine zz_pop hb (z_dec dX11_runFar 8 rfl) rfl ?_
  exact zz_vret hb hE ⟨Nat.le_refl 0, Nat.le_refl 0⟩ (z_dec dX11_runFar 9 rfl) h2
set_option maxRecDepth 20000 in
theorem bX11_lateBy_0 {K : zK} {P : Option Value → zM → Prop} {X : String → zM → Prop} (hK : zIs K RX11 cX11_lateBy 3 (some .int) 10 (0, 0) P X) (hw : wOK (kw K)) {I : zM} (t0 : isT (kw K) 11 312) {v1 : Int32} {g1 : zM} (m1 : CT (kG K) (kw K) (kl K) (yX11_copyBlock, cX11_copyBlock, 4, none) 0 (0, 0) [.ref 312, .int (0 : Int32), .int (9 : Int32)] I (qV (fun J => J = g1)) nX) {g2 : zM} (m2 : CT (kG K) (kw K) (kl K) (yX11_runFar, cX11_runFar, 2, none) 9 (0, 0) [.ref 312, .int v1] g1 (qV (fun J => J = g2)) nX) {f3 : Int32} {g3 : zM} (m3 : CT (kG K) (kw K) (kl K) (yX11_lates, cX11_lates, 3, (some .int)) 3 (0, 0) [.ref 312] g2 (qE f3 g3) nX) {f4 : Int32} {g4 : zM} (m4 : CT (kG K) (kw K) (kl K) (yX11_doneCount, cX11_doneCount, 3, (some .int)) 2 (0, 0) [.ref 312] g3 (qE f4 g4) nX) {g5 : zM} (m5 : CT (kG K) (kw K) (kl K) (yX11_copyBlock, cX11_copyBlock, 4, none) 0 (0, 0) [.ref 312, .int (9 : Int32), .int (0 : Int32)] g4 (qV (fun J => J = g5)) nX) (h6 : P (some (.int ((f3 + (g3 313 8)) - f4))) g5) : ZZ K (0, 0) 0 [(0, .ref 312), (1, .int v1)] [] I := by
  obtain ⟨hb, ho, hnl, hR, hE⟩ := hK
  refine zz_aload_n hb (z_dec dX11_lateBy 0 rfl) rfl 0 rfl ?_
  refine zz_iconst (v := (0 : Int32)) hb (z_dec dX11_lateBy 1 rfl) (by decide) ?_
  refine zz_bipush (v := (9 : Int32)) hb (z_dec dX11_lateBy 2 rfl) (by decide) ?_
  refine zz_inv (as := [.int (0 : Int32), .int (9 : Int32)]) (d := 0) (mc := (0, 0)) (P := (qV (fun J => J = g1))) (X := nX) hb ho hnl hR hE mkX11_copyBlock rfl ckX11 t0 rfl ⟨Nat.le_refl 0, Nat.le_refl 0⟩ rfl (rX11_lateBy 0 rfl) (rX11_lateBy 1 rfl) (rX11_lateBy 2 rfl) rfl (z_dec dX11_lateBy 3 rfl) m1 (fun v J1 hp => ?_) (fun _ _ h => h.elim)
  obtain ⟨rfl, w1⟩ := hp
  have w1 := w1.symm
  subst w1
  show ZZ K (0, 0) 7 [(0, .ref 312), (1, .int v1)] [] g1
  refine zz_aload_n hb (z_dec dX11_lateBy 4 rfl) rfl 0 rfl ?_
  refine zz_iload_n hb (z_dec dX11_lateBy 5 rfl) rfl 1 rfl ?_
  refine zz_inv (as := [.int v1]) (d := 9) (mc := (0, 0)) (P := (qV (fun J => J = g2))) (X := nX) hb ho hnl hR hE mkX11_runFar rfl ckX11 t0 rfl ⟨Nat.le_refl 0, Nat.le_refl 0⟩ rfl (rX11_lateBy 3 rfl) (rX11_lateBy 4 rfl) (rX11_lateBy 5 rfl) rfl (z_dec dX11_lateBy 6 rfl) m2 (fun v J2 hp => ?_) (fun _ _ h => h.elim)
  obtain ⟨rfl, w2⟩ := hp
  have w2 := w2.symm
  subst w2
  show ZZ K (0, 0) 12 [(0, .ref 312), (1, .int v1)] [] g2
  refine zz_aload_n hb (z_dec dX11_lateBy 7 rfl) rfl 0 rfl ?_
  refine zz_inv (as := []) (d := 3) (mc := (0, 0)) (P := (qE f3 g3)) (X := nX) hb ho hnl hR hE mkX11_lates rfl ckX11 t0 rfl ⟨Nat.le_refl 0, Nat.le_refl 0⟩ rfl (rX11_lateBy 6 rfl) (rX11_lateBy 7 rfl) (rX11_lateBy 8 rfl) rfl (z_dec dX11_lateBy 8 rfl) m3 (fun v J3 hp => ?_) (fun _ _ h => h.elim)
  obtain ⟨r3, rfl, e3, w3⟩ := hp
  have e3 := e3.symm
  subst e3
  have w3 := w3.symm
  subst w3
  show ZZ K (0, 0) 16 [(0, .ref 312), (1, .int v1)] [.int f3] g3
  refine zz_aload_n hb (z_dec dX11_lateBy 9 rfl) rfl 0 rfl ?_
  refine zz_getr (k := 0) (q := 313) hb ho rfl ckX11 t0 rfl rfl (rX11_lateBy 9 rfl) rfl (z_dec dX11_lateBy 10 rfl) ?_
  refine zz_bipush (v := (8 : Int32)) hb (z_dec dX11_lateBy 11 rfl) (by decide) ?_
  refine zz_iald (j := 8) hb (show isT (kw K) 20 313 from isT.f (k := 0) t0 hw rfl rfl rfl (by decide)) rfl (zvi rfl (zin rfl)) (z_dec dX11_lateBy 12 rfl) ?_
  refine zz_iadd hb (z_dec dX11_lateBy 13 rfl) ?_
  refine zz_aload_n hb (z_dec dX11_lateBy 14 rfl) rfl 0 rfl ?_
  refine zz_inv (as := []) (d := 2) (mc := (0, 0)) (P := (qE f4 g4)) (X := nX) hb ho hnl hR hE mkX11_doneCount rfl ckX11 t0 rfl ⟨Nat.le_refl 0, Nat.le_refl 0⟩ rfl (rX11_lateBy 10 rfl) (rX11_lateBy 11 rfl) (rX11_lateBy 12 rfl) rfl (z_dec dX11_lateBy 15 rfl) m4 (fun v J4 hp => ?_) (fun _ _ h => h.elim)
  obtain ⟨r4, rfl, e4, w4⟩ := hp
  have e4 := e4.symm
  subst e4
  have w4 := w4.symm
  subst w4
  show ZZ K (0, 0) 28 [(0, .ref 312), (1, .int v1)] [.int f4, .int (f3 + (g3 313 8))] g4
  refine zz_isub hb (z_dec dX11_lateBy 16 rfl) ?_
  refine zz_istore_n (L' := [(0, .ref 312), (1, .int v1), (2, .int ((f3 + (g3 313 8)) - f4))]) hb (z_dec dX11_lateBy 17 rfl) rfl hnl rfl [1, 2, 0] rfl ?_
  refine zz_aload_n hb (z_dec dX11_lateBy 18 rfl) rfl 0 rfl ?_
  refine zz_bipush (v := (9 : Int32)) hb (z_dec dX11_lateBy 19 rfl) (by decide) ?_
  refine zz_iconst (v := (0 : Int32)) hb (z_dec dX11_lateBy 20 rfl) (by decide) ?_
  refine zz_inv (as := [.int (9 : Int32), .int (0 : Int32)]) (d := 0) (mc := (0, 0)) (P := (qV (fun J => J = g5))) (X := nX) hb ho hnl hR hE mkX11_copyBlock rfl ckX11 t0 rfl ⟨Nat.le_refl 0, Nat.le_refl 0⟩ rfl (rX11_lateBy 0 rfl) (rX11_lateBy 1 rfl) (rX11_lateBy 2 rfl) rfl (z_dec dX11_lateBy 21 rfl) m5 (fun v J5 hp => ?_) (fun _ _ h => h.elim)
  obtain ⟨rfl, w5⟩ := hp
  have w5 := w5.symm
  subst w5
  show ZZ K (0, 0) 37 [(0, .ref 312), (1, .int v1), (2, .int ((f3 + (g3 313 8)) - f4))] [] g5
  refine zz_iload_n hb (z_dec dX11_lateBy 22 rfl) rfl 2 rfl ?_
  exact zz_iret hb hE ⟨Nat.le_refl 0, Nat.le_refl 0⟩ (z_dec dX11_lateBy 23 rfl) h6
set_option maxRecDepth 20000 in
theorem bX11_waitingBy_0 {K : zK} {P : Option Value → zM → Prop} {X : String → zM → Prop} (hK : zIs K RX11 cX11_waitingBy 4 (some .int) 10 (0, 0) P X) (hw : wOK (kw K)) {I : zM} (t0 : isT (kw K) 11 312) {v1 : Int32} {g1 : zM} (m1 : CT (kG K) (kw K) (kl K) (yX11_copyBlock, cX11_copyBlock, 4, none) 0 (0, 0) [.ref 312, .int (0 : Int32), .int (9 : Int32)] I (qV (fun J => J = g1)) nX) {g2 : zM} (m2 : CT (kG K) (kw K) (kl K) (yX11_runFar, cX11_runFar, 2, none) 9 (0, 0) [.ref 312, .int v1] g1 (qV (fun J => J = g2)) nX) (k3 : ZZ K (0, 0) 16 [(0, .ref 312), (1, .int v1), (2, .int (0 : Int32)), (3, .int (0 : Int32))] [] g2) : ZZ K (0, 0) 0 [(0, .ref 312), (1, .int v1)] [] I := by
  obtain ⟨hb, ho, hnl, hR, hE⟩ := hK
  refine zz_aload_n hb (z_dec dX11_waitingBy 0 rfl) rfl 0 rfl ?_
  refine zz_iconst (v := (0 : Int32)) hb (z_dec dX11_waitingBy 1 rfl) (by decide) ?_
  refine zz_bipush (v := (9 : Int32)) hb (z_dec dX11_waitingBy 2 rfl) (by decide) ?_
  refine zz_inv (as := [.int (0 : Int32), .int (9 : Int32)]) (d := 0) (mc := (0, 0)) (P := (qV (fun J => J = g1))) (X := nX) hb ho hnl hR hE mkX11_copyBlock rfl ckX11 t0 rfl ⟨Nat.le_refl 0, Nat.le_refl 0⟩ rfl (rX11_waitingBy 0 rfl) (rX11_waitingBy 1 rfl) (rX11_waitingBy 2 rfl) rfl (z_dec dX11_waitingBy 3 rfl) m1 (fun v J1 hp => ?_) (fun _ _ h => h.elim)
  obtain ⟨rfl, w1⟩ := hp
  have w1 := w1.symm
  subst w1
  show ZZ K (0, 0) 7 [(0, .ref 312), (1, .int v1)] [] g1
  refine zz_aload_n hb (z_dec dX11_waitingBy 4 rfl) rfl 0 rfl ?_
  refine zz_iload_n hb (z_dec dX11_waitingBy 5 rfl) rfl 1 rfl ?_
  refine zz_inv (as := [.int v1]) (d := 9) (mc := (0, 0)) (P := (qV (fun J => J = g2))) (X := nX) hb ho hnl hR hE mkX11_runFar rfl ckX11 t0 rfl ⟨Nat.le_refl 0, Nat.le_refl 0⟩ rfl (rX11_waitingBy 3 rfl) (rX11_waitingBy 4 rfl) (rX11_waitingBy 5 rfl) rfl (z_dec dX11_waitingBy 6 rfl) m2 (fun v J2 hp => ?_) (fun _ _ h => h.elim)
  obtain ⟨rfl, w2⟩ := hp
  have w2 := w2.symm
  subst w2
  show ZZ K (0, 0) 12 [(0, .ref 312), (1, .int v1)] [] g2
  refine zz_iconst (v := (0 : Int32)) hb (z_dec dX11_waitingBy 7 rfl) (by decide) ?_
  refine zz_istore_n (L' := [(0, .ref 312), (1, .int v1), (2, .int (0 : Int32))]) hb (z_dec dX11_waitingBy 8 rfl) rfl hnl rfl [1, 2, 0] rfl ?_
  refine zz_iconst (v := (0 : Int32)) hb (z_dec dX11_waitingBy 9 rfl) (by decide) ?_
  refine zz_istore_n (L' := [(0, .ref 312), (1, .int v1), (2, .int (0 : Int32)), (3, .int (0 : Int32))]) hb (z_dec dX11_waitingBy 10 rfl) rfl hnl rfl [1, 2, 3, 0] rfl ?_
  exact k3
set_option maxRecDepth 20000 in
theorem bX11_waitingBy_16 {K : zK} {P : Option Value → zM → Prop} {X : String → zM → Prop} (hK : zIs K RX11 cX11_waitingBy 4 (some .int) 10 (0, 0) P X) (hw : wOK (kw K)) {I : zM} (t0 : isT (kw K) 11 312) {v1 : Int32} {v2 : Int32} {v3 : Int32} {g2 : zM} (m2 : ∀ (c1 : (I 313 8) ≤ v3), CT (kG K) (kw K) (kl K) (yX11_copyBlock, cX11_copyBlock, 4, none) 0 (0, 0) [.ref 312, .int (9 : Int32), .int (0 : Int32)] I (qV (fun J => J = g2)) nX) (h3 : ∀ (c1 : (I 313 8) ≤ v3), P (some (.int v2)) g2) {f4 : Int32} {g4 : zM} (m4 : ∀ (c1 : ¬ (I 313 8) ≤ v3), CT (kG K) (kw K) (kl K) (yX11_waited, cX11_waited, 3, (some .int)) 2 (0, 0) [.ref 312, .int v3] I (qE f4 g4) nX) (k5 : ∀ (c1 : ¬ (I 313 8) ≤ v3), ZZ K (0, 0) 16 [(0, .ref 312), (1, .int v1), (2, .int (v2 + f4)), (3, .int (v3 + 1))] [] g4) : ZZ K (0, 0) 16 [(0, .ref 312), (1, .int v1), (2, .int v2), (3, .int v3)] [] I := by
  obtain ⟨hb, ho, hnl, hR, hE⟩ := hK
  refine zz_iload_n hb (z_dec dX11_waitingBy 11 rfl) rfl 3 rfl ?_
  refine zz_aload_n hb (z_dec dX11_waitingBy 12 rfl) rfl 0 rfl ?_
  refine zz_getr (k := 0) (q := 313) hb ho rfl ckX11 t0 rfl rfl (rX11_waitingBy 6 rfl) rfl (z_dec dX11_waitingBy 13 rfl) ?_
  refine zz_bipush (v := (8 : Int32)) hb (z_dec dX11_waitingBy 14 rfl) (by decide) ?_
  refine zz_iald (j := 8) hb (show isT (kw K) 20 313 from isT.f (k := 0) t0 hw rfl rfl rfl (by decide)) rfl (zvi rfl (zin rfl)) (z_dec dX11_waitingBy 15 rfl) ?_
  refine zz_icmp_ge (tgt := 41) hb (z_dec dX11_waitingBy 16 rfl) (by decide) (fun c1 => ?_) (fun c1 => ?_)
  · refine zz_aload_n hb (z_dec dX11_waitingBy 25 rfl) rfl 0 rfl ?_
    refine zz_bipush (v := (9 : Int32)) hb (z_dec dX11_waitingBy 26 rfl) (by decide) ?_
    refine zz_iconst (v := (0 : Int32)) hb (z_dec dX11_waitingBy 27 rfl) (by decide) ?_
    refine zz_inv (as := [.int (9 : Int32), .int (0 : Int32)]) (d := 0) (mc := (0, 0)) (P := (qV (fun J => J = g2))) (X := nX) hb ho hnl hR hE mkX11_copyBlock rfl ckX11 t0 rfl ⟨Nat.le_refl 0, Nat.le_refl 0⟩ rfl (rX11_waitingBy 0 rfl) (rX11_waitingBy 1 rfl) (rX11_waitingBy 2 rfl) rfl (z_dec dX11_waitingBy 28 rfl) (m2 c1) (fun v J2 hp => ?_) (fun _ _ h => h.elim)
    obtain ⟨rfl, w2⟩ := hp
    have w2 := w2.symm
    subst w2
    show ZZ K (0, 0) 48 [(0, .ref 312), (1, .int v1), (2, .int v2), (3, .int v3)] [] g2
    refine zz_iload_n hb (z_dec dX11_waitingBy 29 rfl) rfl 2 rfl ?_
    exact zz_iret hb hE ⟨Nat.le_refl 0, Nat.le_refl 0⟩ (z_dec dX11_waitingBy 30 rfl) (h3 c1)
  · refine zz_iload_n hb (z_dec dX11_waitingBy 17 rfl) rfl 2 rfl ?_
    refine zz_aload_n hb (z_dec dX11_waitingBy 18 rfl) rfl 0 rfl ?_
    refine zz_iload_n hb (z_dec dX11_waitingBy 19 rfl) rfl 3 rfl ?_
    refine zz_inv (as := [.int v3]) (d := 2) (mc := (0, 0)) (P := (qE f4 g4)) (X := nX) hb ho hnl hR hE mkX11_waited rfl ckX11 t0 rfl ⟨Nat.le_refl 0, Nat.le_refl 0⟩ rfl (rX11_waitingBy 7 rfl) (rX11_waitingBy 8 rfl) (rX11_waitingBy 9 rfl) rfl (z_dec dX11_waitingBy 20 rfl) (m4 c1) (fun v J4 hp => ?_) (fun _ _ h => h.elim)
    obtain ⟨r4, rfl, e4, w4⟩ := hp
    have e4 := e4.symm
    subst e4
    have w4 := w4.symm
    subst w4
    show ZZ K (0, 0) 33 [(0, .ref 312), (1, .int v1), (2, .int v2), (3, .int v3)] [.int f4, .int v2] g4
    refine zz_iadd hb (z_dec dX11_waitingBy 21 rfl) ?_
    refine zz_istore_n (L' := [(0, .ref 312), (1, .int v1), (2, .int (v2 + f4)), (3, .int v3)]) hb (z_dec dX11_waitingBy 22 rfl) rfl hnl rfl [1, 2, 0, 3] rfl ?_
    refine zz_iinc (v := (v3 + 1)) (L' := [(0, .ref 312), (1, .int v1), (2, .int (v2 + f4)), (3, .int (v3 + 1))]) hb (z_dec dX11_waitingBy 23 rfl) 3 rfl rfl hnl rfl [1, 2, 3, 0] rfl ?_
    refine zz_goto (tgt := 16) hb (z_dec dX11_waitingBy 24 rfl) (by decide) ?_
    exact (k5 c1)
set_option maxRecDepth 20000 in
theorem bX11_lateWith_0 {K : zK} {P : Option Value → zM → Prop} {X : String → zM → Prop} (hK : zIs K RX11 cX11_lateWith 2 (some .int) 11 (0, 0) P X) (hw : wOK (kw K)) {I : zM} (t0 : isT (kw K) 11 312) {v1 : Int32} {f1 : Int32} {g1 : zM} (m1 : CT (kG K) (kw K) (kl K) (yX11_in, cX11_in, 3, (some .boolean)) 0 (0, 0) [.int v1, .int (0 : Int32), .int (4 : Int32)] I (qE f1 g1) nX) (k3 : ∀ (c2 : ¬ f1 = 0), ZZ K (0, 0) 15 [(0, .ref 312), (1, .int v1)] [.int (0 : Int32), .ref 312] g1) (k4 : ∀ (c2 : f1 = 0), ZZ K (0, 0) 15 [(0, .ref 312), (1, .int v1)] [.int (1 : Int32), .ref 312] g1) : ZZ K (0, 0) 0 [(0, .ref 312), (1, .int v1)] [] I := by
  obtain ⟨hb, ho, hnl, hR, hE⟩ := hK
  refine zz_aload_n hb (z_dec dX11_lateWith 0 rfl) rfl 0 rfl ?_
  refine zz_iload_n hb (z_dec dX11_lateWith 1 rfl) rfl 1 rfl ?_
  refine zz_iconst (v := (0 : Int32)) hb (z_dec dX11_lateWith 2 rfl) (by decide) ?_
  refine zz_iconst (v := (4 : Int32)) hb (z_dec dX11_lateWith 3 rfl) (by decide) ?_
  refine zz_invS (as := [.int v1, .int (0 : Int32), .int (4 : Int32)]) (d := 0) (mc := (0, 0)) (P := (qE f1 g1)) (X := nX) hb ho hnl hR hE mkX11_in rfl rfl ⟨Nat.le_refl 0, Nat.le_refl 0⟩ rfl (rX11_lateWith 0 rfl) (rX11_lateWith 1 rfl) rfl (z_dec dX11_lateWith 4 rfl) m1 (fun v J1 hp => ?_) (fun _ _ h => h.elim)
  obtain ⟨r1, rfl, e1, w1⟩ := hp
  have e1 := e1.symm
  subst e1
  have w1 := w1.symm
  subst w1
  show ZZ K (0, 0) 7 [(0, .ref 312), (1, .int v1)] [.int f1, .ref 312] g1
  refine zz_if_ne (tgt := 14) hb (z_dec dX11_lateWith 5 rfl) (by decide) (fun c2 => ?_) (fun c2 => ?_)
  · refine zz_iconst (v := (0 : Int32)) hb (z_dec dX11_lateWith 8 rfl) (by decide) ?_
    exact (k3 c2)
  · refine zz_iconst (v := (1 : Int32)) hb (z_dec dX11_lateWith 6 rfl) (by decide) ?_
    refine zz_goto (tgt := 15) hb (z_dec dX11_lateWith 7 rfl) (by decide) ?_
    exact (k4 c2)
set_option maxRecDepth 20000 in
theorem bX11_lateWith_15 {K : zK} {P : Option Value → zM → Prop} {X : String → zM → Prop} (hK : zIs K RX11 cX11_lateWith 2 (some .int) 11 (0, 0) P X) (hw : wOK (kw K)) {I : zM} (t0 : isT (kw K) 11 312) {v1 : Int32} (ts0 : isT (kw K) 11 312) {vs1 : Int32} {f1 : Int32} {g1 : zM} (m1 : CT (kG K) (kw K) (kl K) (yX11_fails, cX11_fails, 4, (some .boolean)) 0 (0, 0) [.ref 312, .int vs1, .int (0 : Int32), .int (0 : Int32)] I (qE f1 g1) nX) {f3 : Int32} {g3 : zM} (m3 : ∀ (c2 : f1 = 0), CT (kG K) (kw K) (kl K) (yX11_lateBy, cX11_lateBy, 3, (some .int)) 10 (0, 0) [.ref 312, .int v1] g1 (qE f3 g3) nX) (h4 : ∀ (c2 : f1 = 0), P (some (.int f3)) g3) (h5 : ∀ (c2 : ¬ f1 = 0), P (some (.int (0 : Int32))) g1) : ZZ K (0, 0) 15 [(0, .ref 312), (1, .int v1)] [.int vs1, .ref 312] I := by
  obtain ⟨hb, ho, hnl, hR, hE⟩ := hK
  refine zz_iconst (v := (0 : Int32)) hb (z_dec dX11_lateWith 9 rfl) (by decide) ?_
  refine zz_iconst (v := (0 : Int32)) hb (z_dec dX11_lateWith 10 rfl) (by decide) ?_
  refine zz_inv (as := [.int vs1, .int (0 : Int32), .int (0 : Int32)]) (d := 0) (mc := (0, 0)) (P := (qE f1 g1)) (X := nX) hb ho hnl hR hE mkX11_fails rfl ckX11 ts0 rfl ⟨Nat.le_refl 0, Nat.le_refl 0⟩ rfl (rX11_lateWith 2 rfl) (rX11_lateWith 3 rfl) (rX11_lateWith 4 rfl) rfl (z_dec dX11_lateWith 11 rfl) m1 (fun v J1 hp => ?_) (fun _ _ h => h.elim)
  obtain ⟨r1, rfl, e1, w1⟩ := hp
  have e1 := e1.symm
  subst e1
  have w1 := w1.symm
  subst w1
  show ZZ K (0, 0) 20 [(0, .ref 312), (1, .int v1)] [.int f1] g1
  refine zz_if_eq (tgt := 25) hb (z_dec dX11_lateWith 12 rfl) (by decide) (fun c2 => ?_) (fun c2 => ?_)
  · refine zz_aload_n hb (z_dec dX11_lateWith 15 rfl) rfl 0 rfl ?_
    refine zz_iload_n hb (z_dec dX11_lateWith 16 rfl) rfl 1 rfl ?_
    refine zz_inv (as := [.int v1]) (d := 10) (mc := (0, 0)) (P := (qE f3 g3)) (X := nX) hb ho hnl hR hE mkX11_lateBy rfl ckX11 t0 rfl ⟨Nat.le_refl 0, Nat.le_refl 0⟩ rfl (rX11_lateWith 5 rfl) (rX11_lateWith 6 rfl) (rX11_lateWith 7 rfl) rfl (z_dec dX11_lateWith 17 rfl) (m3 c2) (fun v J3 hp => ?_) (fun _ _ h => h.elim)
    obtain ⟨r3, rfl, e3, w3⟩ := hp
    have e3 := e3.symm
    subst e3
    have w3 := w3.symm
    subst w3
    show ZZ K (0, 0) 30 [(0, .ref 312), (1, .int v1)] [.int f3] g3
    exact zz_iret hb hE ⟨Nat.le_refl 0, Nat.le_refl 0⟩ (z_dec dX11_lateWith 18 rfl) (h4 c2)
  · refine zz_iconst (v := (0 : Int32)) hb (z_dec dX11_lateWith 13 rfl) (by decide) ?_
    exact zz_iret hb hE ⟨Nat.le_refl 0, Nat.le_refl 0⟩ (z_dec dX11_lateWith 14 rfl) (h5 c2)
set_option maxRecDepth 20000 in
theorem bX11_waitingWith_0 {K : zK} {P : Option Value → zM → Prop} {X : String → zM → Prop} (hK : zIs K RX11 cX11_waitingWith 2 (some .int) 11 (0, 0) P X) (hw : wOK (kw K)) {I : zM} (t0 : isT (kw K) 11 312) {v1 : Int32} {f1 : Int32} {g1 : zM} (m1 : CT (kG K) (kw K) (kl K) (yX11_in, cX11_in, 3, (some .boolean)) 0 (0, 0) [.int v1, .int (0 : Int32), .int (4 : Int32)] I (qE f1 g1) nX) (k3 : ∀ (c2 : ¬ f1 = 0), ZZ K (0, 0) 15 [(0, .ref 312), (1, .int v1)] [.int (0 : Int32), .ref 312] g1) (k4 : ∀ (c2 : f1 = 0), ZZ K (0, 0) 15 [(0, .ref 312), (1, .int v1)] [.int (1 : Int32), .ref 312] g1) : ZZ K (0, 0) 0 [(0, .ref 312), (1, .int v1)] [] I := by
  obtain ⟨hb, ho, hnl, hR, hE⟩ := hK
  refine zz_aload_n hb (z_dec dX11_waitingWith 0 rfl) rfl 0 rfl ?_
  refine zz_iload_n hb (z_dec dX11_waitingWith 1 rfl) rfl 1 rfl ?_
  refine zz_iconst (v := (0 : Int32)) hb (z_dec dX11_waitingWith 2 rfl) (by decide) ?_
  refine zz_iconst (v := (4 : Int32)) hb (z_dec dX11_waitingWith 3 rfl) (by decide) ?_
  refine zz_invS (as := [.int v1, .int (0 : Int32), .int (4 : Int32)]) (d := 0) (mc := (0, 0)) (P := (qE f1 g1)) (X := nX) hb ho hnl hR hE mkX11_in rfl rfl ⟨Nat.le_refl 0, Nat.le_refl 0⟩ rfl (rX11_waitingWith 0 rfl) (rX11_waitingWith 1 rfl) rfl (z_dec dX11_waitingWith 4 rfl) m1 (fun v J1 hp => ?_) (fun _ _ h => h.elim)
  obtain ⟨r1, rfl, e1, w1⟩ := hp
  have e1 := e1.symm
  subst e1
  have w1 := w1.symm
  subst w1
  show ZZ K (0, 0) 7 [(0, .ref 312), (1, .int v1)] [.int f1, .ref 312] g1
  refine zz_if_ne (tgt := 14) hb (z_dec dX11_waitingWith 5 rfl) (by decide) (fun c2 => ?_) (fun c2 => ?_)
  · refine zz_iconst (v := (0 : Int32)) hb (z_dec dX11_waitingWith 8 rfl) (by decide) ?_
    exact (k3 c2)
  · refine zz_iconst (v := (1 : Int32)) hb (z_dec dX11_waitingWith 6 rfl) (by decide) ?_
    refine zz_goto (tgt := 15) hb (z_dec dX11_waitingWith 7 rfl) (by decide) ?_
    exact (k4 c2)
set_option maxRecDepth 20000 in
theorem bX11_waitingWith_15 {K : zK} {P : Option Value → zM → Prop} {X : String → zM → Prop} (hK : zIs K RX11 cX11_waitingWith 2 (some .int) 11 (0, 0) P X) (hw : wOK (kw K)) {I : zM} (t0 : isT (kw K) 11 312) {v1 : Int32} (ts0 : isT (kw K) 11 312) {vs1 : Int32} {f1 : Int32} {g1 : zM} (m1 : CT (kG K) (kw K) (kl K) (yX11_fails, cX11_fails, 4, (some .boolean)) 0 (0, 0) [.ref 312, .int vs1, .int (0 : Int32), .int (0 : Int32)] I (qE f1 g1) nX) {f3 : Int32} {g3 : zM} (m3 : ∀ (c2 : f1 = 0), CT (kG K) (kw K) (kl K) (yX11_waitingBy, cX11_waitingBy, 4, (some .int)) 10 (0, 0) [.ref 312, .int v1] g1 (qE f3 g3) nX) (h4 : ∀ (c2 : f1 = 0), P (some (.int f3)) g3) (h5 : ∀ (c2 : ¬ f1 = 0), P (some (.int (0 : Int32))) g1) : ZZ K (0, 0) 15 [(0, .ref 312), (1, .int v1)] [.int vs1, .ref 312] I := by
  obtain ⟨hb, ho, hnl, hR, hE⟩ := hK
  refine zz_iconst (v := (0 : Int32)) hb (z_dec dX11_waitingWith 9 rfl) (by decide) ?_
  refine zz_iconst (v := (0 : Int32)) hb (z_dec dX11_waitingWith 10 rfl) (by decide) ?_
  refine zz_inv (as := [.int vs1, .int (0 : Int32), .int (0 : Int32)]) (d := 0) (mc := (0, 0)) (P := (qE f1 g1)) (X := nX) hb ho hnl hR hE mkX11_fails rfl ckX11 ts0 rfl ⟨Nat.le_refl 0, Nat.le_refl 0⟩ rfl (rX11_waitingWith 2 rfl) (rX11_waitingWith 3 rfl) (rX11_waitingWith 4 rfl) rfl (z_dec dX11_waitingWith 11 rfl) m1 (fun v J1 hp => ?_) (fun _ _ h => h.elim)
  obtain ⟨r1, rfl, e1, w1⟩ := hp
  have e1 := e1.symm
  subst e1
  have w1 := w1.symm
  subst w1
  show ZZ K (0, 0) 20 [(0, .ref 312), (1, .int v1)] [.int f1] g1
  refine zz_if_eq (tgt := 25) hb (z_dec dX11_waitingWith 12 rfl) (by decide) (fun c2 => ?_) (fun c2 => ?_)
  · refine zz_aload_n hb (z_dec dX11_waitingWith 15 rfl) rfl 0 rfl ?_
    refine zz_iload_n hb (z_dec dX11_waitingWith 16 rfl) rfl 1 rfl ?_
    refine zz_inv (as := [.int v1]) (d := 10) (mc := (0, 0)) (P := (qE f3 g3)) (X := nX) hb ho hnl hR hE mkX11_waitingBy rfl ckX11 t0 rfl ⟨Nat.le_refl 0, Nat.le_refl 0⟩ rfl (rX11_waitingWith 5 rfl) (rX11_waitingWith 6 rfl) (rX11_waitingWith 7 rfl) rfl (z_dec dX11_waitingWith 17 rfl) (m3 c2) (fun v J3 hp => ?_) (fun _ _ h => h.elim)
    obtain ⟨r3, rfl, e3, w3⟩ := hp
    have e3 := e3.symm
    subst e3
    have w3 := w3.symm
    subst w3
    show ZZ K (0, 0) 30 [(0, .ref 312), (1, .int v1)] [.int f3] g3
    exact zz_iret hb hE ⟨Nat.le_refl 0, Nat.le_refl 0⟩ (z_dec dX11_waitingWith 18 rfl) (h4 c2)
  · refine zz_iconst (v := (0 : Int32)) hb (z_dec dX11_waitingWith 13 rfl) (by decide) ?_
    exact zz_iret hb hE ⟨Nat.le_refl 0, Nat.le_refl 0⟩ (z_dec dX11_waitingWith 14 rfl) (h5 c2)
set_option maxRecDepth 20000 in
theorem bX11_bestPolicy_0 {K : zK} {P : Option Value → zM → Prop} {X : String → zM → Prop} (hK : zIs K RX11 cX11_bestPolicy 4 (some .int) 11 (0, 0) P X) (hw : wOK (kw K)) {I : zM} (t0 : isT (kw K) 11 312) (k1 : ZZ K (0, 0) 9 [(0, .ref 312), (1, .int (0 : Int32)), (2, .int (1 : Int32))] [] (up I 312 9 (0 : Int32))) : ZZ K (0, 0) 0 [(0, .ref 312)] [] I := by
  obtain ⟨hb, ho, hnl, hR, hE⟩ := hK
  refine zz_aload_n hb (z_dec dX11_bestPolicy 0 rfl) rfl 0 rfl ?_
  refine zz_iconst (v := (0 : Int32)) hb (z_dec dX11_bestPolicy 1 rfl) (by decide) ?_
  refine zz_put (k := 9) hb ho ckX11 t0 rfl rfl (rX11_bestPolicy 0 rfl) rfl rfl rfl (z_dec dX11_bestPolicy 2 rfl) ?_
  refine zz_iconst (v := (0 : Int32)) hb (z_dec dX11_bestPolicy 3 rfl) (by decide) ?_
  refine zz_istore_n (L' := [(0, .ref 312), (1, .int (0 : Int32))]) hb (z_dec dX11_bestPolicy 4 rfl) rfl hnl rfl [1, 0] rfl ?_
  refine zz_iconst (v := (1 : Int32)) hb (z_dec dX11_bestPolicy 5 rfl) (by decide) ?_
  refine zz_istore_n (L' := [(0, .ref 312), (1, .int (0 : Int32)), (2, .int (1 : Int32))]) hb (z_dec dX11_bestPolicy 6 rfl) rfl hnl rfl [1, 2, 0] rfl ?_
  exact k1
set_option maxRecDepth 20000 in
theorem bX11_bestPolicy_9 {K : zK} {P : Option Value → zM → Prop} {X : String → zM → Prop} (hK : zIs K RX11 cX11_bestPolicy 4 (some .int) 11 (0, 0) P X) (hw : wOK (kw K)) {I : zM} (t0 : isT (kw K) 11 312) {v1 : Int32} {v2 : Int32} (h2 : ∀ (c1 : (4 : Int32) < v2), P (some (.int v1)) I) {f3 : Int32} {g3 : zM} (m3 : ∀ (c1 : ¬ (4 : Int32) < v2), CT (kG K) (kw K) (kl K) (yX11_lateBy, cX11_lateBy, 3, (some .int)) 10 (0, 0) [.ref 312, .int v2] I (qE f3 g3) nX) {f4 : Int32} {g4 : zM} (m4 : ∀ (c1 : ¬ (4 : Int32) < v2), CT (kG K) (kw K) (kl K) (yX11_lateBy, cX11_lateBy, 3, (some .int)) 10 (0, 0) [.ref 312, .int v1] g3 (qE f4 g4) nX) (k6 : ∀ (c1 : ¬ (4 : Int32) < v2) (c5 : (f3 - f4) < 0), ZZ K (0, 0) 9 [(0, .ref 312), (1, .int v2), (2, .int (v2 + 1))] [] g4) (k8 : ∀ (c1 : ¬ (4 : Int32) < v2) (c5 : ¬ (f3 - f4) < 0) (c7 : ¬ (f3 - f4) = 0), ZZ K (0, 0) 9 [(0, .ref 312), (1, .int v1), (2, .int (v2 + 1))] [] g4) {f9 : Int32} {g9 : zM} (m9 : ∀ (c1 : ¬ (4 : Int32) < v2) (c5 : ¬ (f3 - f4) < 0) (c7 : (f3 - f4) = 0), CT (kG K) (kw K) (kl K) (yX11_waitingBy, cX11_waitingBy, 4, (some .int)) 10 (0, 0) [.ref 312, .int v2] g4 (qE f9 g9) nX) {f10 : Int32} {g10 : zM} (m10 : ∀ (c1 : ¬ (4 : Int32) < v2) (c5 : ¬ (f3 - f4) < 0) (c7 : (f3 - f4) = 0), CT (kG K) (kw K) (kl K) (yX11_waitingBy, cX11_waitingBy, 4, (some .int)) 10 (0, 0) [.ref 312, .int v1] g9 (qE f10 g10) nX) (k12 : ∀ (c1 : ¬ (4 : Int32) < v2) (c5 : ¬ (f3 - f4) < 0) (c7 : (f3 - f4) = 0) (c11 : f10 ≤ f9), ZZ K (0, 0) 9 [(0, .ref 312), (1, .int v1), (2, .int (v2 + 1))] [] g10) (k13 : ∀ (c1 : ¬ (4 : Int32) < v2) (c5 : ¬ (f3 - f4) < 0) (c7 : (f3 - f4) = 0) (c11 : ¬ f10 ≤ f9), ZZ K (0, 0) 9 [(0, .ref 312), (1, .int v2), (2, .int (v2 + 1))] [] g10) : ZZ K (0, 0) 9 [(0, .ref 312), (1, .int v1), (2, .int v2)] [] I := by
  obtain ⟨hb, ho, hnl, hR, hE⟩ := hK
  refine zz_iload_n hb (z_dec dX11_bestPolicy 7 rfl) rfl 2 rfl ?_
  refine zz_iconst (v := (4 : Int32)) hb (z_dec dX11_bestPolicy 8 rfl) (by decide) ?_
  refine zz_icmp_gt (tgt := 55) hb (z_dec dX11_bestPolicy 9 rfl) (by decide) (fun c1 => ?_) (fun c1 => ?_)
  · refine zz_iload_n hb (z_dec dX11_bestPolicy 33 rfl) rfl 1 rfl ?_
    exact zz_iret hb hE ⟨Nat.le_refl 0, Nat.le_refl 0⟩ (z_dec dX11_bestPolicy 34 rfl) (h2 c1)
  · refine zz_aload_n hb (z_dec dX11_bestPolicy 10 rfl) rfl 0 rfl ?_
    refine zz_iload_n hb (z_dec dX11_bestPolicy 11 rfl) rfl 2 rfl ?_
    refine zz_inv (as := [.int v2]) (d := 10) (mc := (0, 0)) (P := (qE f3 g3)) (X := nX) hb ho hnl hR hE mkX11_lateBy rfl ckX11 t0 rfl ⟨Nat.le_refl 0, Nat.le_refl 0⟩ rfl (rX11_bestPolicy 1 rfl) (rX11_bestPolicy 2 rfl) (rX11_bestPolicy 3 rfl) rfl (z_dec dX11_bestPolicy 12 rfl) (m3 c1) (fun v J3 hp => ?_) (fun _ _ h => h.elim)
    obtain ⟨r3, rfl, e3, w3⟩ := hp
    have e3 := e3.symm
    subst e3
    have w3 := w3.symm
    subst w3
    show ZZ K (0, 0) 19 [(0, .ref 312), (1, .int v1), (2, .int v2)] [.int f3] g3
    refine zz_aload_n hb (z_dec dX11_bestPolicy 13 rfl) rfl 0 rfl ?_
    refine zz_iload_n hb (z_dec dX11_bestPolicy 14 rfl) rfl 1 rfl ?_
    refine zz_inv (as := [.int v1]) (d := 10) (mc := (0, 0)) (P := (qE f4 g4)) (X := nX) hb ho hnl hR hE mkX11_lateBy rfl ckX11 t0 rfl ⟨Nat.le_refl 0, Nat.le_refl 0⟩ rfl (rX11_bestPolicy 1 rfl) (rX11_bestPolicy 2 rfl) (rX11_bestPolicy 3 rfl) rfl (z_dec dX11_bestPolicy 15 rfl) (m4 c1) (fun v J4 hp => ?_) (fun _ _ h => h.elim)
    obtain ⟨r4, rfl, e4, w4⟩ := hp
    have e4 := e4.symm
    subst e4
    have w4 := w4.symm
    subst w4
    show ZZ K (0, 0) 24 [(0, .ref 312), (1, .int v1), (2, .int v2)] [.int f4, .int f3] g4
    refine zz_isub hb (z_dec dX11_bestPolicy 16 rfl) ?_
    refine zz_istore_n (L' := [(0, .ref 312), (1, .int v1), (2, .int v2), (3, .int (f3 - f4))]) hb (z_dec dX11_bestPolicy 17 rfl) rfl hnl rfl [1, 2, 3, 0] rfl ?_
    refine zz_iload_n hb (z_dec dX11_bestPolicy 18 rfl) rfl 3 rfl ?_
    refine zz_if_lt (tgt := 47) hb (z_dec dX11_bestPolicy 19 rfl) (by decide) (fun c5 => ?_) (fun c5 => ?_)
    · refine zz_iload_n hb (z_dec dX11_bestPolicy 29 rfl) rfl 2 rfl ?_
      refine zz_istore_n (L' := [(0, .ref 312), (1, .int v2), (2, .int v2), (3, .int (f3 - f4))]) hb (z_dec dX11_bestPolicy 30 rfl) rfl hnl rfl [1, 0, 2, 3] rfl ?_
      refine zz_iinc (v := (v2 + 1)) (L' := [(0, .ref 312), (1, .int v2), (2, .int (v2 + 1)), (3, .int (f3 - f4))]) hb (z_dec dX11_bestPolicy 31 rfl) 2 rfl rfl hnl rfl [1, 2, 0, 3] rfl ?_
      refine zz_goto (tgt := 9) hb (z_dec dX11_bestPolicy 32 rfl) (by decide) ?_
      refine zz_sub [0, 1, 2] (L' := [(0, .ref 312), (1, .int v2), (2, .int (v2 + 1))]) rfl ?_
      exact (k6 c1 c5)
    · refine zz_iload_n hb (z_dec dX11_bestPolicy 20 rfl) rfl 3 rfl ?_
      refine zz_if_ne (tgt := 49) hb (z_dec dX11_bestPolicy 21 rfl) (by decide) (fun c7 => ?_) (fun c7 => ?_)
      · refine zz_iinc (v := (v2 + 1)) (L' := [(0, .ref 312), (1, .int v1), (2, .int (v2 + 1)), (3, .int (f3 - f4))]) hb (z_dec dX11_bestPolicy 31 rfl) 2 rfl rfl hnl rfl [1, 2, 0, 3] rfl ?_
        refine zz_goto (tgt := 9) hb (z_dec dX11_bestPolicy 32 rfl) (by decide) ?_
        refine zz_sub [0, 1, 2] (L' := [(0, .ref 312), (1, .int v1), (2, .int (v2 + 1))]) rfl ?_
        exact (k8 c1 c5 c7)
      · refine zz_aload_n hb (z_dec dX11_bestPolicy 22 rfl) rfl 0 rfl ?_
        refine zz_iload_n hb (z_dec dX11_bestPolicy 23 rfl) rfl 2 rfl ?_
        refine zz_inv (as := [.int v2]) (d := 10) (mc := (0, 0)) (P := (qE f9 g9)) (X := nX) hb ho hnl hR hE mkX11_waitingBy rfl ckX11 t0 rfl ⟨Nat.le_refl 0, Nat.le_refl 0⟩ rfl (rX11_bestPolicy 4 rfl) (rX11_bestPolicy 5 rfl) (rX11_bestPolicy 6 rfl) rfl (z_dec dX11_bestPolicy 24 rfl) (m9 c1 c5 c7) (fun v J9 hp => ?_) (fun _ _ h => h.elim)
        obtain ⟨r9, rfl, e9, w9⟩ := hp
        have e9 := e9.symm
        subst e9
        have w9 := w9.symm
        subst w9
        show ZZ K (0, 0) 39 [(0, .ref 312), (1, .int v1), (2, .int v2), (3, .int (f3 - f4))] [.int f9] g9
        refine zz_aload_n hb (z_dec dX11_bestPolicy 25 rfl) rfl 0 rfl ?_
        refine zz_iload_n hb (z_dec dX11_bestPolicy 26 rfl) rfl 1 rfl ?_
        refine zz_inv (as := [.int v1]) (d := 10) (mc := (0, 0)) (P := (qE f10 g10)) (X := nX) hb ho hnl hR hE mkX11_waitingBy rfl ckX11 t0 rfl ⟨Nat.le_refl 0, Nat.le_refl 0⟩ rfl (rX11_bestPolicy 4 rfl) (rX11_bestPolicy 5 rfl) (rX11_bestPolicy 6 rfl) rfl (z_dec dX11_bestPolicy 27 rfl) (m10 c1 c5 c7) (fun v J10 hp => ?_) (fun _ _ h => h.elim)
        obtain ⟨r10, rfl, e10, w10⟩ := hp
        have e10 := e10.symm
        subst e10
        have w10 := w10.symm
        subst w10
        show ZZ K (0, 0) 44 [(0, .ref 312), (1, .int v1), (2, .int v2), (3, .int (f3 - f4))] [.int f10, .int f9] g10
        refine zz_icmp_ge (tgt := 49) hb (z_dec dX11_bestPolicy 28 rfl) (by decide) (fun c11 => ?_) (fun c11 => ?_)
        · refine zz_iinc (v := (v2 + 1)) (L' := [(0, .ref 312), (1, .int v1), (2, .int (v2 + 1)), (3, .int (f3 - f4))]) hb (z_dec dX11_bestPolicy 31 rfl) 2 rfl rfl hnl rfl [1, 2, 0, 3] rfl ?_
          refine zz_goto (tgt := 9) hb (z_dec dX11_bestPolicy 32 rfl) (by decide) ?_
          refine zz_sub [0, 1, 2] (L' := [(0, .ref 312), (1, .int v1), (2, .int (v2 + 1))]) rfl ?_
          exact (k12 c1 c5 c7 c11)
        · refine zz_iload_n hb (z_dec dX11_bestPolicy 29 rfl) rfl 2 rfl ?_
          refine zz_istore_n (L' := [(0, .ref 312), (1, .int v2), (2, .int v2), (3, .int (f3 - f4))]) hb (z_dec dX11_bestPolicy 30 rfl) rfl hnl rfl [1, 0, 2, 3] rfl ?_
          refine zz_iinc (v := (v2 + 1)) (L' := [(0, .ref 312), (1, .int v2), (2, .int (v2 + 1)), (3, .int (f3 - f4))]) hb (z_dec dX11_bestPolicy 31 rfl) 2 rfl rfl hnl rfl [1, 2, 0, 3] rfl ?_
          refine zz_goto (tgt := 9) hb (z_dec dX11_bestPolicy 32 rfl) (by decide) ?_
          refine zz_sub [0, 1, 2] (L' := [(0, .ref 312), (1, .int v2), (2, .int (v2 + 1))]) rfl ?_
          exact (k13 c1 c5 c7 c11)
set_option maxRecDepth 20000 in
theorem bX11_orderByDeadline_0 {K : zK} {P : Option Value → zM → Prop} {X : String → zM → Prop} (hK : zIs K RX11 cX11_orderByDeadline 4 (some .int) 2 (0, 0) P X) (hw : wOK (kw K)) {I : zM} (t0 : isT (kw K) 11 312) (k1 : ZZ K (0, 0) 4 [(0, .ref 312), (1, .int (0 : Int32)), (2, .int (0 : Int32))] [] I) : ZZ K (0, 0) 0 [(0, .ref 312)] [] I := by
  obtain ⟨hb, ho, hnl, hR, hE⟩ := hK
  refine zz_iconst (v := (0 : Int32)) hb (z_dec dX11_orderByDeadline 0 rfl) (by decide) ?_
  refine zz_istore_n (L' := [(0, .ref 312), (1, .int (0 : Int32))]) hb (z_dec dX11_orderByDeadline 1 rfl) rfl hnl rfl [1, 0] rfl ?_
  refine zz_iconst (v := (0 : Int32)) hb (z_dec dX11_orderByDeadline 2 rfl) (by decide) ?_
  refine zz_istore_n (L' := [(0, .ref 312), (1, .int (0 : Int32)), (2, .int (0 : Int32))]) hb (z_dec dX11_orderByDeadline 3 rfl) rfl hnl rfl [1, 2, 0] rfl ?_
  exact k1
set_option maxRecDepth 20000 in
theorem bX11_orderByDeadline_4 {K : zK} {P : Option Value → zM → Prop} {X : String → zM → Prop} (hK : zIs K RX11 cX11_orderByDeadline 4 (some .int) 2 (0, 0) P X) (hw : wOK (kw K)) {I : zM} (t0 : isT (kw K) 11 312) {v1 : Int32} {v2 : Int32} (h2 : ∀ (c1 : (I 313 8) ≤ v2), P (some (.int v1)) I) {f3 : Int32} {g3 : zM} (m3 : ∀ (c1 : ¬ (I 313 8) ≤ v2), CT (kG K) (kw K) (kl K) (yX11_isDone, cX11_isDone, 2, (some .boolean)) 1 (0, 0) [.ref 312, .int v2] I (qE f3 g3) nX) (k5 : ∀ (c1 : ¬ (I 313 8) ≤ v2) (c4 : f3 = 0), ZZ K (0, 0) 28 [(0, .ref 312), (1, .int v1), (2, .int v2), (3, .int v1)] [] g3) (k6 : ∀ (c1 : ¬ (I 313 8) ≤ v2) (c4 : ¬ f3 = 0), ZZ K (0, 0) 4 [(0, .ref 312), (1, .int v1), (2, .int (v2 + 1))] [] g3) : ZZ K (0, 0) 4 [(0, .ref 312), (1, .int v1), (2, .int v2)] [] I := by
  obtain ⟨hb, ho, hnl, hR, hE⟩ := hK
  refine zz_iload_n hb (z_dec dX11_orderByDeadline 4 rfl) rfl 2 rfl ?_
  refine zz_aload_n hb (z_dec dX11_orderByDeadline 5 rfl) rfl 0 rfl ?_
  refine zz_getr (k := 0) (q := 313) hb ho rfl ckX11 t0 rfl rfl (rX11_orderByDeadline 0 rfl) rfl (z_dec dX11_orderByDeadline 6 rfl) ?_
  refine zz_bipush (v := (8 : Int32)) hb (z_dec dX11_orderByDeadline 7 rfl) (by decide) ?_
  refine zz_iald (j := 8) hb (show isT (kw K) 20 313 from isT.f (k := 0) t0 hw rfl rfl rfl (by decide)) rfl (zvi rfl (zin rfl)) (z_dec dX11_orderByDeadline 8 rfl) ?_
  refine zz_icmp_ge (tgt := 90) hb (z_dec dX11_orderByDeadline 9 rfl) (by decide) (fun c1 => ?_) (fun c1 => ?_)
  · refine zz_iload_n hb (z_dec dX11_orderByDeadline 53 rfl) rfl 1 rfl ?_
    exact zz_iret hb hE ⟨Nat.le_refl 0, Nat.le_refl 0⟩ (z_dec dX11_orderByDeadline 54 rfl) (h2 c1)
  · refine zz_aload_n hb (z_dec dX11_orderByDeadline 10 rfl) rfl 0 rfl ?_
    refine zz_iload_n hb (z_dec dX11_orderByDeadline 11 rfl) rfl 2 rfl ?_
    refine zz_inv (as := [.int v2]) (d := 1) (mc := (0, 0)) (P := (qE f3 g3)) (X := nX) hb ho hnl hR hE mkX11_isDone rfl ckX11 t0 rfl ⟨Nat.le_refl 0, Nat.le_refl 0⟩ rfl (rX11_orderByDeadline 1 rfl) (rX11_orderByDeadline 2 rfl) (rX11_orderByDeadline 3 rfl) rfl (z_dec dX11_orderByDeadline 12 rfl) (m3 c1) (fun v J3 hp => ?_) (fun _ _ h => h.elim)
    obtain ⟨r3, rfl, e3, w3⟩ := hp
    have e3 := e3.symm
    subst e3
    have w3 := w3.symm
    subst w3
    show ZZ K (0, 0) 20 [(0, .ref 312), (1, .int v1), (2, .int v2)] [.int f3] g3
    refine zz_if_eq (tgt := 26) hb (z_dec dX11_orderByDeadline 13 rfl) (by decide) (fun c4 => ?_) (fun c4 => ?_)
    · refine zz_iload_n hb (z_dec dX11_orderByDeadline 15 rfl) rfl 1 rfl ?_
      refine zz_istore_n (L' := [(0, .ref 312), (1, .int v1), (2, .int v2), (3, .int v1)]) hb (z_dec dX11_orderByDeadline 16 rfl) rfl hnl rfl [1, 2, 3, 0] rfl ?_
      exact (k5 c1 c4)
    · refine zz_goto (tgt := 84) hb (z_dec dX11_orderByDeadline 14 rfl) (by decide) ?_
      refine zz_iinc (v := (v2 + 1)) (L' := [(0, .ref 312), (1, .int v1), (2, .int (v2 + 1))]) hb (z_dec dX11_orderByDeadline 51 rfl) 2 rfl rfl hnl rfl [1, 2, 0] rfl ?_
      refine zz_goto (tgt := 4) hb (z_dec dX11_orderByDeadline 52 rfl) (by decide) ?_
      exact (k6 c1 c4)
set_option maxRecDepth 20000 in
theorem bX11_orderByDeadline_28 {K : zK} {P : Option Value → zM → Prop} {X : String → zM → Prop} (hK : zIs K RX11 cX11_orderByDeadline 4 (some .int) 2 (0, 0) P X) (hw : wOK (kw K)) {I : zM} (t0 : isT (kw K) 11 312) {v1 : Int32} {v2 : Int32} {v3 : Int32} (k2 : ∀ (c1 : v3 ≤ 0), ZZ K (0, 0) 74 [(0, .ref 312), (1, .int v1), (2, .int v2), (3, .int v3)] [] I) (h3 : ∀ (c1 : ¬ v3 ≤ 0), vp_in (v3 - (1 : Int32)) 12) {f4 : Int32} {g4 : zM} (m4 : ∀ (c1 : ¬ v3 ≤ 0), CT (kG K) (kw K) (kl K) (yX11_of, cX11_of, 3, (some .int)) 0 (0, 0) [.ref 312, .int (I 318 (v3 - (1 : Int32)).toNatClampNeg), .int (3 : Int32)] I (qE f4 g4) nX) {f5 : Int32} {g5 : zM} (m5 : ∀ (c1 : ¬ v3 ≤ 0), CT (kG K) (kw K) (kl K) (yX11_of, cX11_of, 3, (some .int)) 0 (0, 0) [.ref 312, .int v2, .int (3 : Int32)] g4 (qE f5 g5) nX) (k7 : ∀ (c1 : ¬ v3 ≤ 0) (c6 : f4 ≤ f5), ZZ K (0, 0) 74 [(0, .ref 312), (1, .int v1), (2, .int v2), (3, .int v3)] [] g5) (h8 : ∀ (c1 : ¬ v3 ≤ 0) (c6 : ¬ f4 ≤ f5), vp_in (v3 - (1 : Int32)) 12) (h9 : ∀ (c1 : ¬ v3 ≤ 0) (c6 : ¬ f4 ≤ f5), vp_in v3 12) (k10 : ∀ (c1 : ¬ v3 ≤ 0) (c6 : ¬ f4 ≤ f5), ZZ K (0, 0) 28 [(0, .ref 312), (1, .int v1), (2, .int v2), (3, .int (v3 + (-1)))] [] (up g5 318 (v3.toNatClampNeg) (g5 318 (v3 - (1 : Int32)).toNatClampNeg))) : ZZ K (0, 0) 28 [(0, .ref 312), (1, .int v1), (2, .int v2), (3, .int v3)] [] I := by
  obtain ⟨hb, ho, hnl, hR, hE⟩ := hK
  refine zz_iload_n hb (z_dec dX11_orderByDeadline 17 rfl) rfl 3 rfl ?_
  refine zz_if_le (tgt := 74) hb (z_dec dX11_orderByDeadline 18 rfl) (by decide) (fun c1 => ?_) (fun c1 => ?_)
  · exact (k2 c1)
  · refine zz_aload_n hb (z_dec dX11_orderByDeadline 19 rfl) rfl 0 rfl ?_
    refine zz_aload_n hb (z_dec dX11_orderByDeadline 20 rfl) rfl 0 rfl ?_
    refine zz_getr (k := 15) (q := 318) hb ho rfl ckX11 t0 rfl rfl (rX11_orderByDeadline 4 rfl) rfl (z_dec dX11_orderByDeadline 21 rfl) ?_
    refine zz_iload_n hb (z_dec dX11_orderByDeadline 22 rfl) rfl 3 rfl ?_
    refine zz_iconst (v := (1 : Int32)) hb (z_dec dX11_orderByDeadline 23 rfl) (by decide) ?_
    refine zz_isub hb (z_dec dX11_orderByDeadline 24 rfl) ?_
    refine zz_iald (j := (v3 - (1 : Int32)).toNatClampNeg) hb (show isT (kw K) 20 318 from isT.f (k := 15) t0 hw rfl rfl rfl (by decide)) rfl (zvi rfl (h3 c1)) (z_dec dX11_orderByDeadline 25 rfl) ?_
    refine zz_iconst (v := (3 : Int32)) hb (z_dec dX11_orderByDeadline 26 rfl) (by decide) ?_
    refine zz_inv (as := [.int (I 318 (v3 - (1 : Int32)).toNatClampNeg), .int (3 : Int32)]) (d := 0) (mc := (0, 0)) (P := (qE f4 g4)) (X := nX) hb ho hnl hR hE mkX11_of rfl ckX11 t0 rfl ⟨Nat.le_refl 0, Nat.le_refl 0⟩ rfl (rX11_orderByDeadline 5 rfl) (rX11_orderByDeadline 6 rfl) (rX11_orderByDeadline 7 rfl) rfl (z_dec dX11_orderByDeadline 27 rfl) (m4 c1) (fun v J4 hp => ?_) (fun _ _ h => h.elim)
    obtain ⟨r4, rfl, e4, w4⟩ := hp
    have e4 := e4.symm
    subst e4
    have w4 := w4.symm
    subst w4
    show ZZ K (0, 0) 45 [(0, .ref 312), (1, .int v1), (2, .int v2), (3, .int v3)] [.int f4] g4
    refine zz_aload_n hb (z_dec dX11_orderByDeadline 28 rfl) rfl 0 rfl ?_
    refine zz_iload_n hb (z_dec dX11_orderByDeadline 29 rfl) rfl 2 rfl ?_
    refine zz_iconst (v := (3 : Int32)) hb (z_dec dX11_orderByDeadline 30 rfl) (by decide) ?_
    refine zz_inv (as := [.int v2, .int (3 : Int32)]) (d := 0) (mc := (0, 0)) (P := (qE f5 g5)) (X := nX) hb ho hnl hR hE mkX11_of rfl ckX11 t0 rfl ⟨Nat.le_refl 0, Nat.le_refl 0⟩ rfl (rX11_orderByDeadline 5 rfl) (rX11_orderByDeadline 6 rfl) (rX11_orderByDeadline 7 rfl) rfl (z_dec dX11_orderByDeadline 31 rfl) (m5 c1) (fun v J5 hp => ?_) (fun _ _ h => h.elim)
    obtain ⟨r5, rfl, e5, w5⟩ := hp
    have e5 := e5.symm
    subst e5
    have w5 := w5.symm
    subst w5
    show ZZ K (0, 0) 51 [(0, .ref 312), (1, .int v1), (2, .int v2), (3, .int v3)] [.int f5, .int f4] g5
    refine zz_icmp_le (tgt := 74) hb (z_dec dX11_orderByDeadline 32 rfl) (by decide) (fun c6 => ?_) (fun c6 => ?_)
    · exact (k7 c1 c6)
    · refine zz_aload_n hb (z_dec dX11_orderByDeadline 33 rfl) rfl 0 rfl ?_
      refine zz_getr (k := 15) (q := 318) hb ho rfl ckX11 t0 rfl rfl (rX11_orderByDeadline 4 rfl) rfl (z_dec dX11_orderByDeadline 34 rfl) ?_
      refine zz_iload_n hb (z_dec dX11_orderByDeadline 35 rfl) rfl 3 rfl ?_
      refine zz_aload_n hb (z_dec dX11_orderByDeadline 36 rfl) rfl 0 rfl ?_
      refine zz_getr (k := 15) (q := 318) hb ho rfl ckX11 t0 rfl rfl (rX11_orderByDeadline 4 rfl) rfl (z_dec dX11_orderByDeadline 37 rfl) ?_
      refine zz_iload_n hb (z_dec dX11_orderByDeadline 38 rfl) rfl 3 rfl ?_
      refine zz_iconst (v := (1 : Int32)) hb (z_dec dX11_orderByDeadline 39 rfl) (by decide) ?_
      refine zz_isub hb (z_dec dX11_orderByDeadline 40 rfl) ?_
      refine zz_iald (j := (v3 - (1 : Int32)).toNatClampNeg) hb (show isT (kw K) 20 318 from isT.f (k := 15) t0 hw rfl rfl rfl (by decide)) rfl (zvi rfl (h8 c1 c6)) (z_dec dX11_orderByDeadline 41 rfl) ?_
      refine zz_iast (j := v3.toNatClampNeg) hb (show isT (kw K) 20 318 from isT.f (k := 15) t0 hw rfl rfl rfl (by decide)) rfl (zvi rfl (h9 c1 c6)) (z_dec dX11_orderByDeadline 42 rfl) ?_
      refine zz_iinc (v := (v3 + (-1))) (L' := [(0, .ref 312), (1, .int v1), (2, .int v2), (3, .int (v3 + (-1)))]) hb (z_dec dX11_orderByDeadline 43 rfl) 3 rfl rfl hnl rfl [1, 2, 3, 0] rfl ?_
      refine zz_goto (tgt := 28) hb (z_dec dX11_orderByDeadline 44 rfl) (by decide) ?_
      exact (k10 c1 c6)
set_option maxRecDepth 20000 in
theorem bX11_orderByDeadline_74 {K : zK} {P : Option Value → zM → Prop} {X : String → zM → Prop} (hK : zIs K RX11 cX11_orderByDeadline 4 (some .int) 2 (0, 0) P X) (hw : wOK (kw K)) {I : zM} (t0 : isT (kw K) 11 312) {v1 : Int32} {v2 : Int32} {v3 : Int32} (h1 : vp_in v3 12) (k2 : ZZ K (0, 0) 4 [(0, .ref 312), (1, .int (v1 + 1)), (2, .int (v2 + 1))] [] (up I 318 (v3.toNatClampNeg) v2)) : ZZ K (0, 0) 74 [(0, .ref 312), (1, .int v1), (2, .int v2), (3, .int v3)] [] I := by
  obtain ⟨hb, ho, hnl, hR, hE⟩ := hK
  refine zz_aload_n hb (z_dec dX11_orderByDeadline 45 rfl) rfl 0 rfl ?_
  refine zz_getr (k := 15) (q := 318) hb ho rfl ckX11 t0 rfl rfl (rX11_orderByDeadline 4 rfl) rfl (z_dec dX11_orderByDeadline 46 rfl) ?_
  refine zz_iload_n hb (z_dec dX11_orderByDeadline 47 rfl) rfl 3 rfl ?_
  refine zz_iload_n hb (z_dec dX11_orderByDeadline 48 rfl) rfl 2 rfl ?_
  refine zz_iast (j := v3.toNatClampNeg) hb (show isT (kw K) 20 318 from isT.f (k := 15) t0 hw rfl rfl rfl (by decide)) rfl (zvi rfl h1) (z_dec dX11_orderByDeadline 49 rfl) ?_
  refine zz_iinc (v := (v1 + 1)) (L' := [(0, .ref 312), (1, .int (v1 + 1)), (2, .int v2), (3, .int v3)]) hb (z_dec dX11_orderByDeadline 50 rfl) 1 rfl rfl hnl rfl [1, 0, 2, 3] rfl ?_
  refine zz_iinc (v := (v2 + 1)) (L' := [(0, .ref 312), (1, .int (v1 + 1)), (2, .int (v2 + 1)), (3, .int v3)]) hb (z_dec dX11_orderByDeadline 51 rfl) 2 rfl rfl hnl rfl [1, 2, 0, 3] rfl ?_
  refine zz_goto (tgt := 4) hb (z_dec dX11_orderByDeadline 52 rfl) (by decide) ?_
  refine zz_sub [0, 1, 2] (L' := [(0, .ref 312), (1, .int (v1 + 1)), (2, .int (v2 + 1))]) rfl ?_
  exact k2
set_option maxRecDepth 20000 in
theorem bX11_isInTime_0 {K : zK} {P : Option Value → zM → Prop} {X : String → zM → Prop} (hK : zIs K RX11 cX11_isInTime 5 (some .boolean) 1 (0, 0) P X) (hw : wOK (kw K)) {I : zM} (t0 : isT (kw K) 11 312) {v1 : Int32} {v2 : Int32} (k1 : ZZ K (0, 0) 11 [(0, .ref 312), (1, .int v1), (2, .int v2), (3, .int (I 313 9)), (4, .int (0 : Int32))] [] I) : ZZ K (0, 0) 0 [(0, .ref 312), (1, .int v1), (2, .int v2)] [] I := by
  obtain ⟨hb, ho, hnl, hR, hE⟩ := hK
  refine zz_aload_n hb (z_dec dX11_isInTime 0 rfl) rfl 0 rfl ?_
  refine zz_getr (k := 0) (q := 313) hb ho rfl ckX11 t0 rfl rfl (rX11_isInTime 0 rfl) rfl (z_dec dX11_isInTime 1 rfl) ?_
  refine zz_bipush (v := (9 : Int32)) hb (z_dec dX11_isInTime 2 rfl) (by decide) ?_
  refine zz_iald (j := 9) hb (show isT (kw K) 20 313 from isT.f (k := 0) t0 hw rfl rfl rfl (by decide)) rfl (zvi rfl (zin rfl)) (z_dec dX11_isInTime 3 rfl) ?_
  refine zz_istore_n (L' := [(0, .ref 312), (1, .int v1), (2, .int v2), (3, .int (I 313 9))]) hb (z_dec dX11_isInTime 4 rfl) rfl hnl rfl [1, 2, 3, 0] rfl ?_
  refine zz_iconst (v := (0 : Int32)) hb (z_dec dX11_isInTime 5 rfl) (by decide) ?_
  refine zz_istore (L' := [(0, .ref 312), (1, .int v1), (2, .int v2), (3, .int (I 313 9)), (4, .int (0 : Int32))]) hb (z_dec dX11_isInTime 6 rfl) hnl rfl [1, 2, 3, 4, 0] rfl ?_
  exact k1
set_option maxRecDepth 20000 in
theorem bX11_isInTime_11 {K : zK} {P : Option Value → zM → Prop} {X : String → zM → Prop} (hK : zIs K RX11 cX11_isInTime 5 (some .boolean) 1 (0, 0) P X) (hw : wOK (kw K)) {I : zM} (t0 : isT (kw K) 11 312) {v1 : Int32} {v2 : Int32} {v3 : Int32} {v4 : Int32} (h2 : ∀ (c1 : v2 ≤ v4), P (some (.int (1 : Int32))) I) (h4 : ∀ (c1 : ¬ v2 ≤ v4) (c3 : ¬ ((v1 >>> (v4 &&& 31)) &&& (1 : Int32)) = 0), vp_in v4 12) {f5 : Int32} {g5 : zM} (m5 : ∀ (c1 : ¬ v2 ≤ v4) (c3 : ¬ ((v1 >>> (v4 &&& 31)) &&& (1 : Int32)) = 0), CT (kG K) (kw K) (kl K) (yX11_of, cX11_of, 3, (some .int)) 0 (0, 0) [.ref 312, .int (I 318 v4.toNatClampNeg), .int (5 : Int32)] I (qE f5 g5) nX) (h6 : ∀ (c1 : ¬ v2 ≤ v4) (c3 : ¬ ((v1 >>> (v4 &&& 31)) &&& (1 : Int32)) = 0), vp_in v4 12) {f7 : Int32} {g7 : zM} (m7 : ∀ (c1 : ¬ v2 ≤ v4) (c3 : ¬ ((v1 >>> (v4 &&& 31)) &&& (1 : Int32)) = 0), CT (kG K) (kw K) (kl K) (yX11_of, cX11_of, 3, (some .int)) 0 (0, 0) [.ref 312, .int (g5 318 v4.toNatClampNeg), .int (3 : Int32)] g5 (qE f7 g7) nX) (k9 : ∀ (c1 : ¬ v2 ≤ v4) (c3 : ¬ ((v1 >>> (v4 &&& 31)) &&& (1 : Int32)) = 0) (c8 : (v3 + f5) ≤ f7), ZZ K (0, 0) 11 [(0, .ref 312), (1, .int v1), (2, .int v2), (3, .int (v3 + f5)), (4, .int (v4 + 1))] [] g7) (h10 : ∀ (c1 : ¬ v2 ≤ v4) (c3 : ¬ ((v1 >>> (v4 &&& 31)) &&& (1 : Int32)) = 0) (c8 : ¬ (v3 + f5) ≤ f7), P (some (.int (0 : Int32))) g7) (k11 : ∀ (c1 : ¬ v2 ≤ v4) (c3 : ((v1 >>> (v4 &&& 31)) &&& (1 : Int32)) = 0), ZZ K (0, 0) 11 [(0, .ref 312), (1, .int v1), (2, .int v2), (3, .int v3), (4, .int (v4 + 1))] [] I) : ZZ K (0, 0) 11 [(0, .ref 312), (1, .int v1), (2, .int v2), (3, .int v3), (4, .int v4)] [] I := by
  obtain ⟨hb, ho, hnl, hR, hE⟩ := hK
  refine zz_iload hb (z_dec dX11_isInTime 7 rfl) 4 rfl ?_
  refine zz_iload_n hb (z_dec dX11_isInTime 8 rfl) rfl 2 rfl ?_
  refine zz_icmp_ge (tgt := 68) hb (z_dec dX11_isInTime 9 rfl) (by decide) (fun c1 => ?_) (fun c1 => ?_)
  · refine zz_iconst (v := (1 : Int32)) hb (z_dec dX11_isInTime 40 rfl) (by decide) ?_
    exact zz_zret hb hE ⟨Nat.le_refl 0, Nat.le_refl 0⟩ (by decide) (z_dec dX11_isInTime 41 rfl) (h2 c1)
  · refine zz_iload_n hb (z_dec dX11_isInTime 10 rfl) rfl 1 rfl ?_
    refine zz_iload hb (z_dec dX11_isInTime 11 rfl) 4 rfl ?_
    refine zz_ishr hb (z_dec dX11_isInTime 12 rfl) ?_
    refine zz_iconst (v := (1 : Int32)) hb (z_dec dX11_isInTime 13 rfl) (by decide) ?_
    refine zz_iand hb (z_dec dX11_isInTime 14 rfl) ?_
    refine zz_if_ne (tgt := 29) hb (z_dec dX11_isInTime 15 rfl) (by decide) (fun c3 => ?_) (fun c3 => ?_)
    · refine zz_iload_n hb (z_dec dX11_isInTime 17 rfl) rfl 3 rfl ?_
      refine zz_aload_n hb (z_dec dX11_isInTime 18 rfl) rfl 0 rfl ?_
      refine zz_aload_n hb (z_dec dX11_isInTime 19 rfl) rfl 0 rfl ?_
      refine zz_getr (k := 15) (q := 318) hb ho rfl ckX11 t0 rfl rfl (rX11_isInTime 1 rfl) rfl (z_dec dX11_isInTime 20 rfl) ?_
      refine zz_iload hb (z_dec dX11_isInTime 21 rfl) 4 rfl ?_
      refine zz_iald (j := v4.toNatClampNeg) hb (show isT (kw K) 20 318 from isT.f (k := 15) t0 hw rfl rfl rfl (by decide)) rfl (zvi rfl (h4 c1 c3)) (z_dec dX11_isInTime 22 rfl) ?_
      refine zz_iconst (v := (5 : Int32)) hb (z_dec dX11_isInTime 23 rfl) (by decide) ?_
      refine zz_inv (as := [.int (I 318 v4.toNatClampNeg), .int (5 : Int32)]) (d := 0) (mc := (0, 0)) (P := (qE f5 g5)) (X := nX) hb ho hnl hR hE mkX11_of rfl ckX11 t0 rfl ⟨Nat.le_refl 0, Nat.le_refl 0⟩ rfl (rX11_isInTime 2 rfl) (rX11_isInTime 3 rfl) (rX11_isInTime 4 rfl) rfl (z_dec dX11_isInTime 24 rfl) (m5 c1 c3) (fun v J5 hp => ?_) (fun _ _ h => h.elim)
      obtain ⟨r5, rfl, e5, w5⟩ := hp
      have e5 := e5.symm
      subst e5
      have w5 := w5.symm
      subst w5
      show ZZ K (0, 0) 42 [(0, .ref 312), (1, .int v1), (2, .int v2), (3, .int v3), (4, .int v4)] [.int f5, .int v3] g5
      refine zz_iadd hb (z_dec dX11_isInTime 25 rfl) ?_
      refine zz_istore_n (L' := [(0, .ref 312), (1, .int v1), (2, .int v2), (3, .int (v3 + f5)), (4, .int v4)]) hb (z_dec dX11_isInTime 26 rfl) rfl hnl rfl [1, 2, 3, 0, 4] rfl ?_
      refine zz_iload_n hb (z_dec dX11_isInTime 27 rfl) rfl 3 rfl ?_
      refine zz_aload_n hb (z_dec dX11_isInTime 28 rfl) rfl 0 rfl ?_
      refine zz_aload_n hb (z_dec dX11_isInTime 29 rfl) rfl 0 rfl ?_
      refine zz_getr (k := 15) (q := 318) hb ho rfl ckX11 t0 rfl rfl (rX11_isInTime 1 rfl) rfl (z_dec dX11_isInTime 30 rfl) ?_
      refine zz_iload hb (z_dec dX11_isInTime 31 rfl) 4 rfl ?_
      refine zz_iald (j := v4.toNatClampNeg) hb (show isT (kw K) 20 318 from isT.f (k := 15) t0 hw rfl rfl rfl (by decide)) rfl (zvi rfl (h6 c1 c3)) (z_dec dX11_isInTime 32 rfl) ?_
      refine zz_iconst (v := (3 : Int32)) hb (z_dec dX11_isInTime 33 rfl) (by decide) ?_
      refine zz_inv (as := [.int (g5 318 v4.toNatClampNeg), .int (3 : Int32)]) (d := 0) (mc := (0, 0)) (P := (qE f7 g7)) (X := nX) hb ho hnl hR hE mkX11_of rfl ckX11 t0 rfl ⟨Nat.le_refl 0, Nat.le_refl 0⟩ rfl (rX11_isInTime 2 rfl) (rX11_isInTime 3 rfl) (rX11_isInTime 4 rfl) rfl (z_dec dX11_isInTime 34 rfl) (m7 c1 c3) (fun v J7 hp => ?_) (fun _ _ h => h.elim)
      obtain ⟨r7, rfl, e7, w7⟩ := hp
      have e7 := e7.symm
      subst e7
      have w7 := w7.symm
      subst w7
      show ZZ K (0, 0) 57 [(0, .ref 312), (1, .int v1), (2, .int v2), (3, .int (v3 + f5)), (4, .int v4)] [.int f7, .int (v3 + f5)] g7
      refine zz_icmp_le (tgt := 62) hb (z_dec dX11_isInTime 35 rfl) (by decide) (fun c8 => ?_) (fun c8 => ?_)
      · refine zz_iinc (v := (v4 + 1)) (L' := [(0, .ref 312), (1, .int v1), (2, .int v2), (3, .int (v3 + f5)), (4, .int (v4 + 1))]) hb (z_dec dX11_isInTime 38 rfl) 4 rfl rfl hnl rfl [1, 2, 3, 4, 0] rfl ?_
        refine zz_goto (tgt := 11) hb (z_dec dX11_isInTime 39 rfl) (by decide) ?_
        exact (k9 c1 c3 c8)
      · refine zz_iconst (v := (0 : Int32)) hb (z_dec dX11_isInTime 36 rfl) (by decide) ?_
        exact zz_zret hb hE ⟨Nat.le_refl 0, Nat.le_refl 0⟩ (by decide) (z_dec dX11_isInTime 37 rfl) (h10 c1 c3 c8)
    · refine zz_goto (tgt := 62) hb (z_dec dX11_isInTime 16 rfl) (by decide) ?_
      refine zz_iinc (v := (v4 + 1)) (L' := [(0, .ref 312), (1, .int v1), (2, .int v2), (3, .int v3), (4, .int (v4 + 1))]) hb (z_dec dX11_isInTime 38 rfl) 4 rfl rfl hnl rfl [1, 2, 3, 4, 0] rfl ?_
      refine zz_goto (tgt := 11) hb (z_dec dX11_isInTime 39 rfl) (by decide) ?_
      exact (k11 c1 c3)
set_option maxRecDepth 20000 in
theorem bX11_count_0 {K : zK} {P : Option Value → zM → Prop} {X : String → zM → Prop} (hK : zIs K RX11 cX11_count 3 (some .int) 0 (0, 0) P X) (hw : wOK (kw K)) {I : zM} {v0 : Int32} (k1 : ZZ K (0, 0) 4 [(0, .int v0), (1, .int (0 : Int32)), (2, .int v0)] [] I) : ZZ K (0, 0) 0 [(0, .int v0)] [] I := by
  obtain ⟨hb, ho, hnl, hR, hE⟩ := hK
  refine zz_iconst (v := (0 : Int32)) hb (z_dec dX11_count 0 rfl) (by decide) ?_
  refine zz_istore_n (L' := [(0, .int v0), (1, .int (0 : Int32))]) hb (z_dec dX11_count 1 rfl) rfl hnl rfl [1, 0] rfl ?_
  refine zz_iload_n hb (z_dec dX11_count 2 rfl) rfl 0 rfl ?_
  refine zz_istore_n (L' := [(0, .int v0), (1, .int (0 : Int32)), (2, .int v0)]) hb (z_dec dX11_count 3 rfl) rfl hnl rfl [1, 2, 0] rfl ?_
  exact k1
set_option maxRecDepth 20000 in
theorem bX11_count_4 {K : zK} {P : Option Value → zM → Prop} {X : String → zM → Prop} (hK : zIs K RX11 cX11_count 3 (some .int) 0 (0, 0) P X) (hw : wOK (kw K)) {I : zM} {v0 : Int32} {v1 : Int32} {v2 : Int32} (h2 : ∀ (c1 : v2 ≤ 0), P (some (.int v1)) I) (k3 : ∀ (c1 : ¬ v2 ≤ 0), ZZ K (0, 0) 4 [(0, .int v0), (1, .int (v1 + (v2 &&& (1 : Int32)))), (2, .int (v2 >>> ((1 : Int32) &&& 31)))] [] I) : ZZ K (0, 0) 4 [(0, .int v0), (1, .int v1), (2, .int v2)] [] I := by
  obtain ⟨hb, ho, hnl, hR, hE⟩ := hK
  refine zz_iload_n hb (z_dec dX11_count 4 rfl) rfl 2 rfl ?_
  refine zz_if_le (tgt := 21) hb (z_dec dX11_count 5 rfl) (by decide) (fun c1 => ?_) (fun c1 => ?_)
  · refine zz_iload_n hb (z_dec dX11_count 17 rfl) rfl 1 rfl ?_
    exact zz_iret hb hE ⟨Nat.le_refl 0, Nat.le_refl 0⟩ (z_dec dX11_count 18 rfl) (h2 c1)
  · refine zz_iload_n hb (z_dec dX11_count 6 rfl) rfl 1 rfl ?_
    refine zz_iload_n hb (z_dec dX11_count 7 rfl) rfl 2 rfl ?_
    refine zz_iconst (v := (1 : Int32)) hb (z_dec dX11_count 8 rfl) (by decide) ?_
    refine zz_iand hb (z_dec dX11_count 9 rfl) ?_
    refine zz_iadd hb (z_dec dX11_count 10 rfl) ?_
    refine zz_istore_n (L' := [(0, .int v0), (1, .int (v1 + (v2 &&& (1 : Int32)))), (2, .int v2)]) hb (z_dec dX11_count 11 rfl) rfl hnl rfl [1, 0, 2] rfl ?_
    refine zz_iload_n hb (z_dec dX11_count 12 rfl) rfl 2 rfl ?_
    refine zz_iconst (v := (1 : Int32)) hb (z_dec dX11_count 13 rfl) (by decide) ?_
    refine zz_ishr hb (z_dec dX11_count 14 rfl) ?_
    refine zz_istore_n (L' := [(0, .int v0), (1, .int (v1 + (v2 &&& (1 : Int32)))), (2, .int (v2 >>> ((1 : Int32) &&& 31)))]) hb (z_dec dX11_count 15 rfl) rfl hnl rfl [1, 2, 0] rfl ?_
    refine zz_goto (tgt := 4) hb (z_dec dX11_count 16 rfl) (by decide) ?_
    exact (k3 c1)
set_option maxRecDepth 20000 in
theorem bX11_fewestLate_0 {K : zK} {P : Option Value → zM → Prop} {X : String → zM → Prop} (hK : zIs K RX11 cX11_fewestLate 4 (some .int) 3 (0, 0) P X) (hw : wOK (kw K)) {I : zM} (t0 : isT (kw K) 11 312) {f1 : Int32} {g1 : zM} (m1 : CT (kG K) (kw K) (kl K) (yX11_orderByDeadline, cX11_orderByDeadline, 4, (some .int)) 2 (0, 0) [.ref 312] (up I 312 9 (0 : Int32)) (qE f1 g1) nX) (k2 : ZZ K (0, 0) 14 [(0, .ref 312), (1, .int f1), (2, .int (0 : Int32)), (3, .int (1 : Int32))] [] g1) : ZZ K (0, 0) 0 [(0, .ref 312)] [] I := by
  obtain ⟨hb, ho, hnl, hR, hE⟩ := hK
  refine zz_aload_n hb (z_dec dX11_fewestLate 0 rfl) rfl 0 rfl ?_
  refine zz_iconst (v := (0 : Int32)) hb (z_dec dX11_fewestLate 1 rfl) (by decide) ?_
  refine zz_put (k := 9) hb ho ckX11 t0 rfl rfl (rX11_fewestLate 0 rfl) rfl rfl rfl (z_dec dX11_fewestLate 2 rfl) ?_
  refine zz_aload_n hb (z_dec dX11_fewestLate 3 rfl) rfl 0 rfl ?_
  refine zz_inv (as := []) (d := 2) (mc := (0, 0)) (P := (qE f1 g1)) (X := nX) hb ho hnl hR hE mkX11_orderByDeadline rfl ckX11 t0 rfl ⟨Nat.le_refl 0, Nat.le_refl 0⟩ rfl (rX11_fewestLate 1 rfl) (rX11_fewestLate 2 rfl) (rX11_fewestLate 3 rfl) rfl (z_dec dX11_fewestLate 4 rfl) m1 (fun v J1 hp => ?_) (fun _ _ h => h.elim)
  obtain ⟨r1, rfl, e1, w1⟩ := hp
  have e1 := e1.symm
  subst e1
  have w1 := w1.symm
  subst w1
  show ZZ K (0, 0) 9 [(0, .ref 312)] [.int f1] g1
  refine zz_istore_n (L' := [(0, .ref 312), (1, .int f1)]) hb (z_dec dX11_fewestLate 5 rfl) rfl hnl rfl [1, 0] rfl ?_
  refine zz_iconst (v := (0 : Int32)) hb (z_dec dX11_fewestLate 6 rfl) (by decide) ?_
  refine zz_istore_n (L' := [(0, .ref 312), (1, .int f1), (2, .int (0 : Int32))]) hb (z_dec dX11_fewestLate 7 rfl) rfl hnl rfl [1, 2, 0] rfl ?_
  refine zz_iconst (v := (1 : Int32)) hb (z_dec dX11_fewestLate 8 rfl) (by decide) ?_
  refine zz_istore_n (L' := [(0, .ref 312), (1, .int f1), (2, .int (0 : Int32)), (3, .int (1 : Int32))]) hb (z_dec dX11_fewestLate 9 rfl) rfl hnl rfl [1, 2, 3, 0] rfl ?_
  exact k2
set_option maxRecDepth 20000 in
theorem bX11_fewestLate_14 {K : zK} {P : Option Value → zM → Prop} {X : String → zM → Prop} (hK : zIs K RX11 cX11_fewestLate 4 (some .int) 3 (0, 0) P X) (hw : wOK (kw K)) {I : zM} (t0 : isT (kw K) 11 312) {v1 : Int32} {v2 : Int32} {v3 : Int32} (h2 : ∀ (c1 : ((1 : Int32) <<< (v1 &&& 31)) ≤ v3), P (some (.int (v1 - v2))) I) {f3 : Int32} {g3 : zM} (m3 : ∀ (c1 : ¬ ((1 : Int32) <<< (v1 &&& 31)) ≤ v3), CT (kG K) (kw K) (kl K) (yX11_count, cX11_count, 3, (some .int)) 0 (0, 0) [.int v3] I (qE f3 g3) nX) (k5 : ∀ (c1 : ¬ ((1 : Int32) <<< (v1 &&& 31)) ≤ v3) (c4 : f3 ≤ v2), ZZ K (0, 0) 14 [(0, .ref 312), (1, .int v1), (2, .int v2), (3, .int (v3 + 1))] [] g3) {f6 : Int32} {g6 : zM} (m6 : ∀ (c1 : ¬ ((1 : Int32) <<< (v1 &&& 31)) ≤ v3) (c4 : ¬ f3 ≤ v2), CT (kG K) (kw K) (kl K) (yX11_isInTime, cX11_isInTime, 5, (some .boolean)) 1 (0, 0) [.ref 312, .int v3, .int v1] g3 (qE f6 g6) nX) (k8 : ∀ (c1 : ¬ ((1 : Int32) <<< (v1 &&& 31)) ≤ v3) (c4 : ¬ f3 ≤ v2) (c7 : f6 = 0), ZZ K (0, 0) 14 [(0, .ref 312), (1, .int v1), (2, .int v2), (3, .int (v3 + 1))] [] g6) {f9 : Int32} {g9 : zM} (m9 : ∀ (c1 : ¬ ((1 : Int32) <<< (v1 &&& 31)) ≤ v3) (c4 : ¬ f3 ≤ v2) (c7 : ¬ f6 = 0), CT (kG K) (kw K) (kl K) (yX11_count, cX11_count, 3, (some .int)) 0 (0, 0) [.int v3] g6 (qE f9 g9) nX) (k10 : ∀ (c1 : ¬ ((1 : Int32) <<< (v1 &&& 31)) ≤ v3) (c4 : ¬ f3 ≤ v2) (c7 : ¬ f6 = 0), ZZ K (0, 0) 14 [(0, .ref 312), (1, .int v1), (2, .int f9), (3, .int (v3 + 1))] [] g9) : ZZ K (0, 0) 14 [(0, .ref 312), (1, .int v1), (2, .int v2), (3, .int v3)] [] I := by
  obtain ⟨hb, ho, hnl, hR, hE⟩ := hK
  refine zz_iload_n hb (z_dec dX11_fewestLate 10 rfl) rfl 3 rfl ?_
  refine zz_iconst (v := (1 : Int32)) hb (z_dec dX11_fewestLate 11 rfl) (by decide) ?_
  refine zz_iload_n hb (z_dec dX11_fewestLate 12 rfl) rfl 1 rfl ?_
  refine zz_ishl hb (z_dec dX11_fewestLate 13 rfl) ?_
  refine zz_icmp_ge (tgt := 49) hb (z_dec dX11_fewestLate 14 rfl) (by decide) (fun c1 => ?_) (fun c1 => ?_)
  · refine zz_iload_n hb (z_dec dX11_fewestLate 29 rfl) rfl 1 rfl ?_
    refine zz_iload_n hb (z_dec dX11_fewestLate 30 rfl) rfl 2 rfl ?_
    refine zz_isub hb (z_dec dX11_fewestLate 31 rfl) ?_
    exact zz_iret hb hE ⟨Nat.le_refl 0, Nat.le_refl 0⟩ (z_dec dX11_fewestLate 32 rfl) (h2 c1)
  · refine zz_iload_n hb (z_dec dX11_fewestLate 15 rfl) rfl 3 rfl ?_
    refine zz_invS (as := [.int v3]) (d := 0) (mc := (0, 0)) (P := (qE f3 g3)) (X := nX) hb ho hnl hR hE mkX11_count rfl rfl ⟨Nat.le_refl 0, Nat.le_refl 0⟩ rfl (rX11_fewestLate 4 rfl) (rX11_fewestLate 5 rfl) rfl (z_dec dX11_fewestLate 16 rfl) (m3 c1) (fun v J3 hp => ?_) (fun _ _ h => h.elim)
    obtain ⟨r3, rfl, e3, w3⟩ := hp
    have e3 := e3.symm
    subst e3
    have w3 := w3.symm
    subst w3
    show ZZ K (0, 0) 25 [(0, .ref 312), (1, .int v1), (2, .int v2), (3, .int v3)] [.int f3] g3
    refine zz_iload_n hb (z_dec dX11_fewestLate 17 rfl) rfl 2 rfl ?_
    refine zz_icmp_le (tgt := 43) hb (z_dec dX11_fewestLate 18 rfl) (by decide) (fun c4 => ?_) (fun c4 => ?_)
    · refine zz_iinc (v := (v3 + 1)) (L' := [(0, .ref 312), (1, .int v1), (2, .int v2), (3, .int (v3 + 1))]) hb (z_dec dX11_fewestLate 27 rfl) 3 rfl rfl hnl rfl [1, 2, 3, 0] rfl ?_
      refine zz_goto (tgt := 14) hb (z_dec dX11_fewestLate 28 rfl) (by decide) ?_
      exact (k5 c1 c4)
    · refine zz_aload_n hb (z_dec dX11_fewestLate 19 rfl) rfl 0 rfl ?_
      refine zz_iload_n hb (z_dec dX11_fewestLate 20 rfl) rfl 3 rfl ?_
      refine zz_iload_n hb (z_dec dX11_fewestLate 21 rfl) rfl 1 rfl ?_
      refine zz_inv (as := [.int v3, .int v1]) (d := 1) (mc := (0, 0)) (P := (qE f6 g6)) (X := nX) hb ho hnl hR hE mkX11_isInTime rfl ckX11 t0 rfl ⟨Nat.le_refl 0, Nat.le_refl 0⟩ rfl (rX11_fewestLate 6 rfl) (rX11_fewestLate 7 rfl) (rX11_fewestLate 8 rfl) rfl (z_dec dX11_fewestLate 22 rfl) (m6 c1 c4) (fun v J6 hp => ?_) (fun _ _ h => h.elim)
      obtain ⟨r6, rfl, e6, w6⟩ := hp
      have e6 := e6.symm
      subst e6
      have w6 := w6.symm
      subst w6
      show ZZ K (0, 0) 35 [(0, .ref 312), (1, .int v1), (2, .int v2), (3, .int v3)] [.int f6] g6
      refine zz_if_eq (tgt := 43) hb (z_dec dX11_fewestLate 23 rfl) (by decide) (fun c7 => ?_) (fun c7 => ?_)
      · refine zz_iinc (v := (v3 + 1)) (L' := [(0, .ref 312), (1, .int v1), (2, .int v2), (3, .int (v3 + 1))]) hb (z_dec dX11_fewestLate 27 rfl) 3 rfl rfl hnl rfl [1, 2, 3, 0] rfl ?_
        refine zz_goto (tgt := 14) hb (z_dec dX11_fewestLate 28 rfl) (by decide) ?_
        exact (k8 c1 c4 c7)
      · refine zz_iload_n hb (z_dec dX11_fewestLate 24 rfl) rfl 3 rfl ?_
        refine zz_invS (as := [.int v3]) (d := 0) (mc := (0, 0)) (P := (qE f9 g9)) (X := nX) hb ho hnl hR hE mkX11_count rfl rfl ⟨Nat.le_refl 0, Nat.le_refl 0⟩ rfl (rX11_fewestLate 4 rfl) (rX11_fewestLate 5 rfl) rfl (z_dec dX11_fewestLate 25 rfl) (m9 c1 c4 c7) (fun v J9 hp => ?_) (fun _ _ h => h.elim)
        obtain ⟨r9, rfl, e9, w9⟩ := hp
        have e9 := e9.symm
        subst e9
        have w9 := w9.symm
        subst w9
        show ZZ K (0, 0) 42 [(0, .ref 312), (1, .int v1), (2, .int v2), (3, .int v3)] [.int f9] g9
        refine zz_istore_n (L' := [(0, .ref 312), (1, .int v1), (2, .int f9), (3, .int v3)]) hb (z_dec dX11_fewestLate 26 rfl) rfl hnl rfl [1, 2, 0, 3] rfl ?_
        refine zz_iinc (v := (v3 + 1)) (L' := [(0, .ref 312), (1, .int v1), (2, .int f9), (3, .int (v3 + 1))]) hb (z_dec dX11_fewestLate 27 rfl) 3 rfl rfl hnl rfl [1, 2, 3, 0] rfl ?_
        refine zz_goto (tgt := 14) hb (z_dec dX11_fewestLate 28 rfl) (by decide) ?_
        exact (k10 c1 c4 c7)
set_option maxRecDepth 20000 in
theorem bX11_addLetter_0 {K : zK} {P : Option Value → zM → Prop} {X : String → zM → Prop} (hK : zIs K RX11 cX11_addLetter 7 (some .int) 2 (0, 0) P X) (hw : wOK (kw K)) {I : zM} (t0 : isT (kw K) 11 312) {v1 : Int32} {v2 : Int32} {v3 : Int32} {v4 : Int32} {v5 : Int32} {f1 : Int32} {g1 : zM} (m1 : CT (kG K) (kw K) (kl K) (yX11_isLetterData, cX11_isLetterData, 4, (some .boolean)) 1 (0, 0) [.int v2, .int v3, .int v4, .int v5] I (qE f1 g1) nX) {f2 : Int32} {g2 : zM} (m2 : CT (kG K) (kw K) (kl K) (yX11_isClerk, cX11_isClerk, 2, (some .boolean)) 1 (0, 0) [.ref 312, .int v1] g1 (qE f2 g2) nX) (k4 : ∀ (c3 : ¬ f2 = 0), ZZ K (0, 0) 25 [(0, .ref 312), (1, .int v1), (2, .int v2), (3, .int v3), (4, .int v4), (5, .int v5), (6, .int f1)] [.int (0 : Int32), .ref 312] g2) (k5 : ∀ (c3 : f2 = 0), ZZ K (0, 0) 25 [(0, .ref 312), (1, .int v1), (2, .int v2), (3, .int v3), (4, .int v4), (5, .int v5), (6, .int f1)] [.int (1 : Int32), .ref 312] g2) : ZZ K (0, 0) 0 [(0, .ref 312), (1, .int v1), (2, .int v2), (3, .int v3), (4, .int v4), (5, .int v5)] [] I := by
  obtain ⟨hb, ho, hnl, hR, hE⟩ := hK
  refine zz_iload_n hb (z_dec dX11_addLetter 0 rfl) rfl 2 rfl ?_
  refine zz_iload_n hb (z_dec dX11_addLetter 1 rfl) rfl 3 rfl ?_
  refine zz_iload hb (z_dec dX11_addLetter 2 rfl) 4 rfl ?_
  refine zz_iload hb (z_dec dX11_addLetter 3 rfl) 5 rfl ?_
  refine zz_invS (as := [.int v2, .int v3, .int v4, .int v5]) (d := 1) (mc := (0, 0)) (P := (qE f1 g1)) (X := nX) hb ho hnl hR hE mkX11_isLetterData rfl rfl ⟨Nat.le_refl 0, Nat.le_refl 0⟩ rfl (rX11_addLetter 0 rfl) (rX11_addLetter 1 rfl) rfl (z_dec dX11_addLetter 4 rfl) m1 (fun v J1 hp => ?_) (fun _ _ h => h.elim)
  obtain ⟨r1, rfl, e1, w1⟩ := hp
  have e1 := e1.symm
  subst e1
  have w1 := w1.symm
  subst w1
  show ZZ K (0, 0) 9 [(0, .ref 312), (1, .int v1), (2, .int v2), (3, .int v3), (4, .int v4), (5, .int v5)] [.int f1] g1
  refine zz_istore (L' := [(0, .ref 312), (1, .int v1), (2, .int v2), (3, .int v3), (4, .int v4), (5, .int v5), (6, .int f1)]) hb (z_dec dX11_addLetter 5 rfl) hnl rfl [1, 2, 3, 4, 5, 6, 0] rfl ?_
  refine zz_aload_n hb (z_dec dX11_addLetter 6 rfl) rfl 0 rfl ?_
  refine zz_aload_n hb (z_dec dX11_addLetter 7 rfl) rfl 0 rfl ?_
  refine zz_iload_n hb (z_dec dX11_addLetter 8 rfl) rfl 1 rfl ?_
  refine zz_inv (as := [.int v1]) (d := 1) (mc := (0, 0)) (P := (qE f2 g2)) (X := nX) hb ho hnl hR hE mkX11_isClerk rfl ckX11 t0 rfl ⟨Nat.le_refl 0, Nat.le_refl 0⟩ rfl (rX11_addLetter 2 rfl) (rX11_addLetter 3 rfl) (rX11_addLetter 4 rfl) rfl (z_dec dX11_addLetter 9 rfl) m2 (fun v J2 hp => ?_) (fun _ _ h => h.elim)
  obtain ⟨r2, rfl, e2, w2⟩ := hp
  have e2 := e2.symm
  subst e2
  have w2 := w2.symm
  subst w2
  show ZZ K (0, 0) 17 [(0, .ref 312), (1, .int v1), (2, .int v2), (3, .int v3), (4, .int v4), (5, .int v5), (6, .int f1)] [.int f2, .ref 312] g2
  refine zz_if_ne (tgt := 24) hb (z_dec dX11_addLetter 10 rfl) (by decide) (fun c3 => ?_) (fun c3 => ?_)
  · refine zz_iconst (v := (0 : Int32)) hb (z_dec dX11_addLetter 13 rfl) (by decide) ?_
    exact (k4 c3)
  · refine zz_iconst (v := (1 : Int32)) hb (z_dec dX11_addLetter 11 rfl) (by decide) ?_
    refine zz_goto (tgt := 25) hb (z_dec dX11_addLetter 12 rfl) (by decide) ?_
    exact (k5 c3)
set_option maxRecDepth 20000 in
theorem bX11_addLetter_25 {K : zK} {P : Option Value → zM → Prop} {X : String → zM → Prop} (hK : zIs K RX11 cX11_addLetter 7 (some .int) 2 (0, 0) P X) (hw : wOK (kw K)) {I : zM} (t0 : isT (kw K) 11 312) {v1 : Int32} {v2 : Int32} {v3 : Int32} {v4 : Int32} {v5 : Int32} {v6 : Int32} (ts0 : isT (kw K) 11 312) {vs1 : Int32} (k2 : ∀ (c1 : ¬ v6 = 0), ZZ K (0, 0) 35 [(0, .ref 312), (1, .int v1), (2, .int v2), (3, .int v3), (4, .int v4), (5, .int v5), (6, .int v6)] [.int (0 : Int32), .int vs1, .ref 312] I) (k3 : ∀ (c1 : v6 = 0), ZZ K (0, 0) 35 [(0, .ref 312), (1, .int v1), (2, .int v2), (3, .int v3), (4, .int v4), (5, .int v5), (6, .int v6)] [.int (1 : Int32), .int vs1, .ref 312] I) : ZZ K (0, 0) 25 [(0, .ref 312), (1, .int v1), (2, .int v2), (3, .int v3), (4, .int v4), (5, .int v5), (6, .int v6)] [.int vs1, .ref 312] I := by
  obtain ⟨hb, ho, hnl, hR, hE⟩ := hK
  refine zz_iload hb (z_dec dX11_addLetter 14 rfl) 6 rfl ?_
  refine zz_if_ne (tgt := 34) hb (z_dec dX11_addLetter 15 rfl) (by decide) (fun c1 => ?_) (fun c1 => ?_)
  · refine zz_iconst (v := (0 : Int32)) hb (z_dec dX11_addLetter 18 rfl) (by decide) ?_
    exact (k2 c1)
  · refine zz_iconst (v := (1 : Int32)) hb (z_dec dX11_addLetter 16 rfl) (by decide) ?_
    refine zz_goto (tgt := 35) hb (z_dec dX11_addLetter 17 rfl) (by decide) ?_
    exact (k3 c1)
set_option maxRecDepth 20000 in
theorem bX11_addLetter_35 {K : zK} {P : Option Value → zM → Prop} {X : String → zM → Prop} (hK : zIs K RX11 cX11_addLetter 7 (some .int) 2 (0, 0) P X) (hw : wOK (kw K)) {I : zM} (t0 : isT (kw K) 11 312) {v1 : Int32} {v2 : Int32} {v3 : Int32} {v4 : Int32} {v5 : Int32} {v6 : Int32} (ts0 : isT (kw K) 11 312) {vs1 : Int32} {vs2 : Int32} (k2 : ∀ (c1 : v6 = 0), ZZ K (0, 0) 52 [(0, .ref 312), (1, .int v1), (2, .int v2), (3, .int v3), (4, .int v4), (5, .int v5), (6, .int v6)] [.int vs2, .int vs1, .ref 312] I) {f3 : Int32} {g3 : zM} (m3 : ∀ (c1 : ¬ v6 = 0), CT (kG K) (kw K) (kl K) (yX11_canAdd, cX11_canAdd, 2, (some .boolean)) 0 (0, 0) [.ref 312, .int v3] I (qE f3 g3) nX) (k5 : ∀ (c1 : ¬ v6 = 0) (c4 : ¬ f3 = 0), ZZ K (0, 0) 52 [(0, .ref 312), (1, .int v1), (2, .int v2), (3, .int v3), (4, .int v4), (5, .int v5), (6, .int v6)] [.int vs2, .int vs1, .ref 312] g3) (k6 : ∀ (c1 : ¬ v6 = 0) (c4 : f3 = 0), ZZ K (0, 0) 53 [(0, .ref 312), (1, .int v1), (2, .int v2), (3, .int v3), (4, .int v4), (5, .int v5), (6, .int v6)] [.int (1 : Int32), .int vs2, .int vs1, .ref 312] g3) : ZZ K (0, 0) 35 [(0, .ref 312), (1, .int v1), (2, .int v2), (3, .int v3), (4, .int v4), (5, .int v5), (6, .int v6)] [.int vs2, .int vs1, .ref 312] I := by
  obtain ⟨hb, ho, hnl, hR, hE⟩ := hK
  refine zz_iload hb (z_dec dX11_addLetter 19 rfl) 6 rfl ?_
  refine zz_if_eq (tgt := 52) hb (z_dec dX11_addLetter 20 rfl) (by decide) (fun c1 => ?_) (fun c1 => ?_)
  · exact (k2 c1)
  · refine zz_aload_n hb (z_dec dX11_addLetter 21 rfl) rfl 0 rfl ?_
    refine zz_iload_n hb (z_dec dX11_addLetter 22 rfl) rfl 3 rfl ?_
    refine zz_inv (as := [.int v3]) (d := 0) (mc := (0, 0)) (P := (qE f3 g3)) (X := nX) hb ho hnl hR hE mkX11_canAdd rfl ckX11 t0 rfl ⟨Nat.le_refl 0, Nat.le_refl 0⟩ rfl (rX11_addLetter 5 rfl) (rX11_addLetter 6 rfl) (rX11_addLetter 7 rfl) rfl (z_dec dX11_addLetter 23 rfl) (m3 c1) (fun v J3 hp => ?_) (fun _ _ h => h.elim)
    obtain ⟨r3, rfl, e3, w3⟩ := hp
    have e3 := e3.symm
    subst e3
    have w3 := w3.symm
    subst w3
    show ZZ K (0, 0) 45 [(0, .ref 312), (1, .int v1), (2, .int v2), (3, .int v3), (4, .int v4), (5, .int v5), (6, .int v6)] [.int f3, .int vs2, .int vs1, .ref 312] g3
    refine zz_if_ne (tgt := 52) hb (z_dec dX11_addLetter 24 rfl) (by decide) (fun c4 => ?_) (fun c4 => ?_)
    · exact (k5 c1 c4)
    · refine zz_iconst (v := (1 : Int32)) hb (z_dec dX11_addLetter 25 rfl) (by decide) ?_
      refine zz_goto (tgt := 53) hb (z_dec dX11_addLetter 26 rfl) (by decide) ?_
      exact (k6 c1 c4)
set_option maxRecDepth 20000 in
theorem bX11_addLetter_52 {K : zK} {P : Option Value → zM → Prop} {X : String → zM → Prop} (hK : zIs K RX11 cX11_addLetter 7 (some .int) 2 (0, 0) P X) (hw : wOK (kw K)) {I : zM} (t0 : isT (kw K) 11 312) {v1 : Int32} {v2 : Int32} {v3 : Int32} {v4 : Int32} {v5 : Int32} {v6 : Int32} (ts0 : isT (kw K) 11 312) {vs1 : Int32} {vs2 : Int32} (k1 : ZZ K (0, 0) 53 [(0, .ref 312), (1, .int v1), (2, .int v2), (3, .int v3), (4, .int v4), (5, .int v5), (6, .int v6)] [.int (0 : Int32), .int vs2, .int vs1, .ref 312] I) : ZZ K (0, 0) 52 [(0, .ref 312), (1, .int v1), (2, .int v2), (3, .int v3), (4, .int v4), (5, .int v5), (6, .int v6)] [.int vs2, .int vs1, .ref 312] I := by
  obtain ⟨hb, ho, hnl, hR, hE⟩ := hK
  refine zz_iconst (v := (0 : Int32)) hb (z_dec dX11_addLetter 27 rfl) (by decide) ?_
  exact k1
set_option maxRecDepth 20000 in
theorem bX11_addLetter_53 {K : zK} {P : Option Value → zM → Prop} {X : String → zM → Prop} (hK : zIs K RX11 cX11_addLetter 7 (some .int) 2 (0, 0) P X) (hw : wOK (kw K)) {I : zM} (t0 : isT (kw K) 11 312) {v1 : Int32} {v2 : Int32} {v3 : Int32} {v4 : Int32} {v5 : Int32} {v6 : Int32} (ts0 : isT (kw K) 11 312) {vs1 : Int32} {vs2 : Int32} {vs3 : Int32} {f1 : Int32} {g1 : zM} (m1 : CT (kG K) (kw K) (kl K) (yX11_fails, cX11_fails, 4, (some .boolean)) 0 (0, 0) [.ref 312, .int vs1, .int vs2, .int vs3] I (qE f1 g1) nX) {g3 : zM} (m3 : ∀ (c2 : f1 = 0), CT (kG K) (kw K) (kl K) (yX11_remember, cX11_remember, 3, none) 1 (0, 0) [.ref 312, .int (0 : Int32)] g1 (qV (fun J => J = g3)) nX) {f4 : Int32} {g4 : zM} (m4 : ∀ (c2 : f1 = 0), CT (kG K) (kw K) (kl K) (yX11_add, cX11_add, 7, (some .int)) 1 (0, 0) [.ref 312, .int v1, .int v2, .int ((g3 313 9) + v3), .int v4, .int v5] g3 (qE f4 g4) nX) (h5 : ∀ (c2 : f1 = 0), P (some (.int f4)) g4) (h6 : ∀ (c2 : ¬ f1 = 0), P (some (.int (0 : Int32))) g1) : ZZ K (0, 0) 53 [(0, .ref 312), (1, .int v1), (2, .int v2), (3, .int v3), (4, .int v4), (5, .int v5), (6, .int v6)] [.int vs3, .int vs2, .int vs1, .ref 312] I := by
  obtain ⟨hb, ho, hnl, hR, hE⟩ := hK
  refine zz_inv (as := [.int vs1, .int vs2, .int vs3]) (d := 0) (mc := (0, 0)) (P := (qE f1 g1)) (X := nX) hb ho hnl hR hE mkX11_fails rfl ckX11 ts0 rfl ⟨Nat.le_refl 0, Nat.le_refl 0⟩ rfl (rX11_addLetter 8 rfl) (rX11_addLetter 9 rfl) (rX11_addLetter 10 rfl) rfl (z_dec dX11_addLetter 28 rfl) m1 (fun v J1 hp => ?_) (fun _ _ h => h.elim)
  obtain ⟨r1, rfl, e1, w1⟩ := hp
  have e1 := e1.symm
  subst e1
  have w1 := w1.symm
  subst w1
  show ZZ K (0, 0) 56 [(0, .ref 312), (1, .int v1), (2, .int v2), (3, .int v3), (4, .int v4), (5, .int v5), (6, .int v6)] [.int f1] g1
  refine zz_if_eq (tgt := 61) hb (z_dec dX11_addLetter 29 rfl) (by decide) (fun c2 => ?_) (fun c2 => ?_)
  · refine zz_aload_n hb (z_dec dX11_addLetter 32 rfl) rfl 0 rfl ?_
    refine zz_iconst (v := (0 : Int32)) hb (z_dec dX11_addLetter 33 rfl) (by decide) ?_
    refine zz_inv (as := [.int (0 : Int32)]) (d := 1) (mc := (0, 0)) (P := (qV (fun J => J = g3))) (X := nX) hb ho hnl hR hE mkX11_remember rfl ckX11 t0 rfl ⟨Nat.le_refl 0, Nat.le_refl 0⟩ rfl (rX11_addLetter 11 rfl) (rX11_addLetter 12 rfl) (rX11_addLetter 13 rfl) rfl (z_dec dX11_addLetter 34 rfl) (m3 c2) (fun v J3 hp => ?_) (fun _ _ h => h.elim)
    obtain ⟨rfl, w3⟩ := hp
    have w3 := w3.symm
    subst w3
    show ZZ K (0, 0) 66 [(0, .ref 312), (1, .int v1), (2, .int v2), (3, .int v3), (4, .int v4), (5, .int v5), (6, .int v6)] [] g3
    refine zz_aload_n hb (z_dec dX11_addLetter 35 rfl) rfl 0 rfl ?_
    refine zz_iload_n hb (z_dec dX11_addLetter 36 rfl) rfl 1 rfl ?_
    refine zz_iload_n hb (z_dec dX11_addLetter 37 rfl) rfl 2 rfl ?_
    refine zz_aload_n hb (z_dec dX11_addLetter 38 rfl) rfl 0 rfl ?_
    refine zz_getr (k := 0) (q := 313) hb ho rfl ckX11 t0 rfl rfl (rX11_addLetter 14 rfl) rfl (z_dec dX11_addLetter 39 rfl) ?_
    refine zz_bipush (v := (9 : Int32)) hb (z_dec dX11_addLetter 40 rfl) (by decide) ?_
    refine zz_iald (j := 9) hb (show isT (kw K) 20 313 from isT.f (k := 0) t0 hw rfl rfl rfl (by decide)) rfl (zvi rfl (zin rfl)) (z_dec dX11_addLetter 41 rfl) ?_
    refine zz_iload_n hb (z_dec dX11_addLetter 42 rfl) rfl 3 rfl ?_
    refine zz_iadd hb (z_dec dX11_addLetter 43 rfl) ?_
    refine zz_iload hb (z_dec dX11_addLetter 44 rfl) 4 rfl ?_
    refine zz_iload hb (z_dec dX11_addLetter 45 rfl) 5 rfl ?_
    refine zz_inv (as := [.int v1, .int v2, .int ((g3 313 9) + v3), .int v4, .int v5]) (d := 1) (mc := (0, 0)) (P := (qE f4 g4)) (X := nX) hb ho hnl hR hE mkX11_add rfl ckX11 t0 rfl ⟨Nat.le_refl 0, Nat.le_refl 0⟩ rfl (rX11_addLetter 15 rfl) (rX11_addLetter 16 rfl) (rX11_addLetter 17 rfl) rfl (z_dec dX11_addLetter 46 rfl) (m4 c2) (fun v J4 hp => ?_) (fun _ _ h => h.elim)
    obtain ⟨r4, rfl, e4, w4⟩ := hp
    have e4 := e4.symm
    subst e4
    have w4 := w4.symm
    subst w4
    show ZZ K (0, 0) 85 [(0, .ref 312), (1, .int v1), (2, .int v2), (3, .int v3), (4, .int v4), (5, .int v5), (6, .int v6)] [.int f4] g4
    exact zz_iret hb hE ⟨Nat.le_refl 0, Nat.le_refl 0⟩ (z_dec dX11_addLetter 47 rfl) (h5 c2)
  · refine zz_iconst (v := (0 : Int32)) hb (z_dec dX11_addLetter 30 rfl) (by decide) ?_
    exact zz_iret hb hE ⟨Nat.le_refl 0, Nat.le_refl 0⟩ (z_dec dX11_addLetter 31 rfl) (h6 c2)
set_option maxRecDepth 20000 in
theorem bX11_pass_0 {K : zK} {P : Option Value → zM → Prop} {X : String → zM → Prop} (hK : zIs K RX11 cX11_pass 3 (some .int) 9 (0, 0) P X) (hw : wOK (kw K)) {I : zM} (t0 : isT (kw K) 11 312) {v1 : Int32} {f1 : Int32} {g1 : zM} (m1 : CT (kG K) (kw K) (kl K) (yX11_in, cX11_in, 3, (some .boolean)) 0 (0, 0) [.int v1, .int (1 : Int32), .int (300 : Int32)] I (qE f1 g1) nX) (k3 : ∀ (c2 : ¬ f1 = 0), ZZ K (0, 0) 19 [(0, .ref 312), (1, .int v1), (2, .int f1)] [.int (0 : Int32), .ref 312] g1) (k4 : ∀ (c2 : f1 = 0), ZZ K (0, 0) 19 [(0, .ref 312), (1, .int v1), (2, .int f1)] [.int (1 : Int32), .ref 312] g1) : ZZ K (0, 0) 0 [(0, .ref 312), (1, .int v1)] [] I := by
  obtain ⟨hb, ho, hnl, hR, hE⟩ := hK
  refine zz_iload_n hb (z_dec dX11_pass 0 rfl) rfl 1 rfl ?_
  refine zz_iconst (v := (1 : Int32)) hb (z_dec dX11_pass 1 rfl) (by decide) ?_
  refine zz_sipush (v := (300 : Int32)) hb (z_dec dX11_pass 2 rfl) (by decide) ?_
  refine zz_invS (as := [.int v1, .int (1 : Int32), .int (300 : Int32)]) (d := 0) (mc := (0, 0)) (P := (qE f1 g1)) (X := nX) hb ho hnl hR hE mkX11_in rfl rfl ⟨Nat.le_refl 0, Nat.le_refl 0⟩ rfl (rX11_pass 0 rfl) (rX11_pass 1 rfl) rfl (z_dec dX11_pass 3 rfl) m1 (fun v J1 hp => ?_) (fun _ _ h => h.elim)
  obtain ⟨r1, rfl, e1, w1⟩ := hp
  have e1 := e1.symm
  subst e1
  have w1 := w1.symm
  subst w1
  show ZZ K (0, 0) 8 [(0, .ref 312), (1, .int v1)] [.int f1] g1
  refine zz_istore_n (L' := [(0, .ref 312), (1, .int v1), (2, .int f1)]) hb (z_dec dX11_pass 4 rfl) rfl hnl rfl [1, 2, 0] rfl ?_
  refine zz_aload_n hb (z_dec dX11_pass 5 rfl) rfl 0 rfl ?_
  refine zz_iload_n hb (z_dec dX11_pass 6 rfl) rfl 2 rfl ?_
  refine zz_if_ne (tgt := 18) hb (z_dec dX11_pass 7 rfl) (by decide) (fun c2 => ?_) (fun c2 => ?_)
  · refine zz_iconst (v := (0 : Int32)) hb (z_dec dX11_pass 10 rfl) (by decide) ?_
    exact (k3 c2)
  · refine zz_iconst (v := (1 : Int32)) hb (z_dec dX11_pass 8 rfl) (by decide) ?_
    refine zz_goto (tgt := 19) hb (z_dec dX11_pass 9 rfl) (by decide) ?_
    exact (k4 c2)
set_option maxRecDepth 20000 in
theorem bX11_pass_19 {K : zK} {P : Option Value → zM → Prop} {X : String → zM → Prop} (hK : zIs K RX11 cX11_pass 3 (some .int) 9 (0, 0) P X) (hw : wOK (kw K)) {I : zM} (t0 : isT (kw K) 11 312) {v1 : Int32} {v2 : Int32} (ts0 : isT (kw K) 11 312) {vs1 : Int32} (k2 : ∀ (c1 : v2 = 0), ZZ K (0, 0) 42 [(0, .ref 312), (1, .int v1), (2, .int v2)] [.int vs1, .ref 312] I) (k4 : ∀ (c1 : ¬ v2 = 0) (c3 : ((I 313 9) + v1) ≤ (2000 : Int32)), ZZ K (0, 0) 42 [(0, .ref 312), (1, .int v1), (2, .int v2)] [.int vs1, .ref 312] I) (k5 : ∀ (c1 : ¬ v2 = 0) (c3 : ¬ ((I 313 9) + v1) ≤ (2000 : Int32)), ZZ K (0, 0) 43 [(0, .ref 312), (1, .int v1), (2, .int v2)] [.int (1 : Int32), .int vs1, .ref 312] I) : ZZ K (0, 0) 19 [(0, .ref 312), (1, .int v1), (2, .int v2)] [.int vs1, .ref 312] I := by
  obtain ⟨hb, ho, hnl, hR, hE⟩ := hK
  refine zz_iload_n hb (z_dec dX11_pass 11 rfl) rfl 2 rfl ?_
  refine zz_if_eq (tgt := 42) hb (z_dec dX11_pass 12 rfl) (by decide) (fun c1 => ?_) (fun c1 => ?_)
  · exact (k2 c1)
  · refine zz_aload_n hb (z_dec dX11_pass 13 rfl) rfl 0 rfl ?_
    refine zz_getr (k := 0) (q := 313) hb ho rfl ckX11 t0 rfl rfl (rX11_pass 2 rfl) rfl (z_dec dX11_pass 14 rfl) ?_
    refine zz_bipush (v := (9 : Int32)) hb (z_dec dX11_pass 15 rfl) (by decide) ?_
    refine zz_iald (j := 9) hb (show isT (kw K) 20 313 from isT.f (k := 0) t0 hw rfl rfl rfl (by decide)) rfl (zvi rfl (zin rfl)) (z_dec dX11_pass 16 rfl) ?_
    refine zz_iload_n hb (z_dec dX11_pass 17 rfl) rfl 1 rfl ?_
    refine zz_iadd hb (z_dec dX11_pass 18 rfl) ?_
    refine zz_sipush (v := (2000 : Int32)) hb (z_dec dX11_pass 19 rfl) (by decide) ?_
    refine zz_icmp_le (tgt := 42) hb (z_dec dX11_pass 20 rfl) (by decide) (fun c3 => ?_) (fun c3 => ?_)
    · exact (k4 c1 c3)
    · refine zz_iconst (v := (1 : Int32)) hb (z_dec dX11_pass 21 rfl) (by decide) ?_
      refine zz_goto (tgt := 43) hb (z_dec dX11_pass 22 rfl) (by decide) ?_
      exact (k5 c1 c3)
set_option maxRecDepth 20000 in
theorem bX11_pass_42 {K : zK} {P : Option Value → zM → Prop} {X : String → zM → Prop} (hK : zIs K RX11 cX11_pass 3 (some .int) 9 (0, 0) P X) (hw : wOK (kw K)) {I : zM} (t0 : isT (kw K) 11 312) {v1 : Int32} {v2 : Int32} (ts0 : isT (kw K) 11 312) {vs1 : Int32} (k1 : ZZ K (0, 0) 43 [(0, .ref 312), (1, .int v1), (2, .int v2)] [.int (0 : Int32), .int vs1, .ref 312] I) : ZZ K (0, 0) 42 [(0, .ref 312), (1, .int v1), (2, .int v2)] [.int vs1, .ref 312] I := by
  obtain ⟨hb, ho, hnl, hR, hE⟩ := hK
  refine zz_iconst (v := (0 : Int32)) hb (z_dec dX11_pass 23 rfl) (by decide) ?_
  exact k1
set_option maxRecDepth 20000 in
theorem bX11_pass_43 {K : zK} {P : Option Value → zM → Prop} {X : String → zM → Prop} (hK : zIs K RX11 cX11_pass 3 (some .int) 9 (0, 0) P X) (hw : wOK (kw K)) {I : zM} (t0 : isT (kw K) 11 312) {v1 : Int32} {v2 : Int32} (ts0 : isT (kw K) 11 312) {vs1 : Int32} {vs2 : Int32} {f1 : Int32} {g1 : zM} (m1 : CT (kG K) (kw K) (kl K) (yX11_fails, cX11_fails, 4, (some .boolean)) 0 (0, 0) [.ref 312, .int vs1, .int vs2, .int (0 : Int32)] I (qE f1 g1) nX) {g3 : zM} (m3 : ∀ (c2 : f1 = 0), CT (kG K) (kw K) (kl K) (yX11_remember, cX11_remember, 3, none) 1 (0, 0) [.ref 312, .int (0 : Int32)] g1 (qV (fun J => J = g3)) nX) {f4 : Int32} {g4 : zM} (m4 : ∀ (c2 : f1 = 0), CT (kG K) (kw K) (kl K) (yX11_passMinutes, cX11_passMinutes, 4, (some .int)) 8 (0, 0) [.ref 312, .int v1] g3 (qE f4 g4) nX) (h5 : ∀ (c2 : f1 = 0), P (some (.int f4)) g4) (h6 : ∀ (c2 : ¬ f1 = 0), P (some (.int (0 : Int32))) g1) : ZZ K (0, 0) 43 [(0, .ref 312), (1, .int v1), (2, .int v2)] [.int vs2, .int vs1, .ref 312] I := by
  obtain ⟨hb, ho, hnl, hR, hE⟩ := hK
  refine zz_iconst (v := (0 : Int32)) hb (z_dec dX11_pass 24 rfl) (by decide) ?_
  refine zz_inv (as := [.int vs1, .int vs2, .int (0 : Int32)]) (d := 0) (mc := (0, 0)) (P := (qE f1 g1)) (X := nX) hb ho hnl hR hE mkX11_fails rfl ckX11 ts0 rfl ⟨Nat.le_refl 0, Nat.le_refl 0⟩ rfl (rX11_pass 3 rfl) (rX11_pass 4 rfl) (rX11_pass 5 rfl) rfl (z_dec dX11_pass 25 rfl) m1 (fun v J1 hp => ?_) (fun _ _ h => h.elim)
  obtain ⟨r1, rfl, e1, w1⟩ := hp
  have e1 := e1.symm
  subst e1
  have w1 := w1.symm
  subst w1
  show ZZ K (0, 0) 47 [(0, .ref 312), (1, .int v1), (2, .int v2)] [.int f1] g1
  refine zz_if_eq (tgt := 52) hb (z_dec dX11_pass 26 rfl) (by decide) (fun c2 => ?_) (fun c2 => ?_)
  · refine zz_aload_n hb (z_dec dX11_pass 29 rfl) rfl 0 rfl ?_
    refine zz_iconst (v := (0 : Int32)) hb (z_dec dX11_pass 30 rfl) (by decide) ?_
    refine zz_inv (as := [.int (0 : Int32)]) (d := 1) (mc := (0, 0)) (P := (qV (fun J => J = g3))) (X := nX) hb ho hnl hR hE mkX11_remember rfl ckX11 t0 rfl ⟨Nat.le_refl 0, Nat.le_refl 0⟩ rfl (rX11_pass 6 rfl) (rX11_pass 7 rfl) (rX11_pass 8 rfl) rfl (z_dec dX11_pass 31 rfl) (m3 c2) (fun v J3 hp => ?_) (fun _ _ h => h.elim)
    obtain ⟨rfl, w3⟩ := hp
    have w3 := w3.symm
    subst w3
    show ZZ K (0, 0) 57 [(0, .ref 312), (1, .int v1), (2, .int v2)] [] g3
    refine zz_aload_n hb (z_dec dX11_pass 32 rfl) rfl 0 rfl ?_
    refine zz_iload_n hb (z_dec dX11_pass 33 rfl) rfl 1 rfl ?_
    refine zz_inv (as := [.int v1]) (d := 8) (mc := (0, 0)) (P := (qE f4 g4)) (X := nX) hb ho hnl hR hE mkX11_passMinutes rfl ckX11 t0 rfl ⟨Nat.le_refl 0, Nat.le_refl 0⟩ rfl (rX11_pass 9 rfl) (rX11_pass 10 rfl) (rX11_pass 11 rfl) rfl (z_dec dX11_pass 34 rfl) (m4 c2) (fun v J4 hp => ?_) (fun _ _ h => h.elim)
    obtain ⟨r4, rfl, e4, w4⟩ := hp
    have e4 := e4.symm
    subst e4
    have w4 := w4.symm
    subst w4
    show ZZ K (0, 0) 62 [(0, .ref 312), (1, .int v1), (2, .int v2)] [.int f4] g4
    exact zz_iret hb hE ⟨Nat.le_refl 0, Nat.le_refl 0⟩ (z_dec dX11_pass 35 rfl) (h5 c2)
  · refine zz_iconst (v := (0 : Int32)) hb (z_dec dX11_pass 27 rfl) (by decide) ?_
    exact zz_iret hb hE ⟨Nat.le_refl 0, Nat.le_refl 0⟩ (z_dec dX11_pass 28 rfl) (h6 c2)
set_option maxRecDepth 20000 in
theorem bX11_setPolicy_0 {K : zK} {P : Option Value → zM → Prop} {X : String → zM → Prop} (hK : zIs K RX11 cX11_setPolicy 3 (some .int) 2 (0, 0) P X) (hw : wOK (kw K)) {I : zM} (t0 : isT (kw K) 11 312) {v1 : Int32} {f1 : Int32} {g1 : zM} (m1 : CT (kG K) (kw K) (kl K) (yX11_in, cX11_in, 3, (some .boolean)) 0 (0, 0) [.int v1, .int (0 : Int32), .int (4 : Int32)] I (qE f1 g1) nX) (k3 : ∀ (c2 : ¬ f1 = 0), ZZ K (0, 0) 15 [(0, .ref 312), (1, .int v1)] [.int (0 : Int32), .ref 312] g1) (k4 : ∀ (c2 : f1 = 0), ZZ K (0, 0) 15 [(0, .ref 312), (1, .int v1)] [.int (1 : Int32), .ref 312] g1) : ZZ K (0, 0) 0 [(0, .ref 312), (1, .int v1)] [] I := by
  obtain ⟨hb, ho, hnl, hR, hE⟩ := hK
  refine zz_aload_n hb (z_dec dX11_setPolicy 0 rfl) rfl 0 rfl ?_
  refine zz_iload_n hb (z_dec dX11_setPolicy 1 rfl) rfl 1 rfl ?_
  refine zz_iconst (v := (0 : Int32)) hb (z_dec dX11_setPolicy 2 rfl) (by decide) ?_
  refine zz_iconst (v := (4 : Int32)) hb (z_dec dX11_setPolicy 3 rfl) (by decide) ?_
  refine zz_invS (as := [.int v1, .int (0 : Int32), .int (4 : Int32)]) (d := 0) (mc := (0, 0)) (P := (qE f1 g1)) (X := nX) hb ho hnl hR hE mkX11_in rfl rfl ⟨Nat.le_refl 0, Nat.le_refl 0⟩ rfl (rX11_setPolicy 0 rfl) (rX11_setPolicy 1 rfl) rfl (z_dec dX11_setPolicy 4 rfl) m1 (fun v J1 hp => ?_) (fun _ _ h => h.elim)
  obtain ⟨r1, rfl, e1, w1⟩ := hp
  have e1 := e1.symm
  subst e1
  have w1 := w1.symm
  subst w1
  show ZZ K (0, 0) 7 [(0, .ref 312), (1, .int v1)] [.int f1, .ref 312] g1
  refine zz_if_ne (tgt := 14) hb (z_dec dX11_setPolicy 5 rfl) (by decide) (fun c2 => ?_) (fun c2 => ?_)
  · refine zz_iconst (v := (0 : Int32)) hb (z_dec dX11_setPolicy 8 rfl) (by decide) ?_
    exact (k3 c2)
  · refine zz_iconst (v := (1 : Int32)) hb (z_dec dX11_setPolicy 6 rfl) (by decide) ?_
    refine zz_goto (tgt := 15) hb (z_dec dX11_setPolicy 7 rfl) (by decide) ?_
    exact (k4 c2)
set_option maxRecDepth 20000 in
theorem bX11_setPolicy_15 {K : zK} {P : Option Value → zM → Prop} {X : String → zM → Prop} (hK : zIs K RX11 cX11_setPolicy 3 (some .int) 2 (0, 0) P X) (hw : wOK (kw K)) {I : zM} (t0 : isT (kw K) 11 312) {v1 : Int32} (ts0 : isT (kw K) 11 312) {vs1 : Int32} {f1 : Int32} {g1 : zM} (m1 : CT (kG K) (kw K) (kl K) (yX11_fails, cX11_fails, 4, (some .boolean)) 0 (0, 0) [.ref 312, .int vs1, .int (0 : Int32), .int (0 : Int32)] I (qE f1 g1) nX) {g3 : zM} (m3 : ∀ (c2 : f1 = 0), CT (kG K) (kw K) (kl K) (yX11_remember, cX11_remember, 3, none) 1 (0, 0) [.ref 312, .int (0 : Int32)] g1 (qV (fun J => J = g3)) nX) (h4 : ∀ (c2 : f1 = 0), P (some (.int (g3 313 0))) (up g3 313 0 v1)) (h5 : ∀ (c2 : ¬ f1 = 0), P (some (.int (0 : Int32))) g1) : ZZ K (0, 0) 15 [(0, .ref 312), (1, .int v1)] [.int vs1, .ref 312] I := by
  obtain ⟨hb, ho, hnl, hR, hE⟩ := hK
  refine zz_iconst (v := (0 : Int32)) hb (z_dec dX11_setPolicy 9 rfl) (by decide) ?_
  refine zz_iconst (v := (0 : Int32)) hb (z_dec dX11_setPolicy 10 rfl) (by decide) ?_
  refine zz_inv (as := [.int vs1, .int (0 : Int32), .int (0 : Int32)]) (d := 0) (mc := (0, 0)) (P := (qE f1 g1)) (X := nX) hb ho hnl hR hE mkX11_fails rfl ckX11 ts0 rfl ⟨Nat.le_refl 0, Nat.le_refl 0⟩ rfl (rX11_setPolicy 2 rfl) (rX11_setPolicy 3 rfl) (rX11_setPolicy 4 rfl) rfl (z_dec dX11_setPolicy 11 rfl) m1 (fun v J1 hp => ?_) (fun _ _ h => h.elim)
  obtain ⟨r1, rfl, e1, w1⟩ := hp
  have e1 := e1.symm
  subst e1
  have w1 := w1.symm
  subst w1
  show ZZ K (0, 0) 20 [(0, .ref 312), (1, .int v1)] [.int f1] g1
  refine zz_if_eq (tgt := 25) hb (z_dec dX11_setPolicy 12 rfl) (by decide) (fun c2 => ?_) (fun c2 => ?_)
  · refine zz_aload_n hb (z_dec dX11_setPolicy 15 rfl) rfl 0 rfl ?_
    refine zz_iconst (v := (0 : Int32)) hb (z_dec dX11_setPolicy 16 rfl) (by decide) ?_
    refine zz_inv (as := [.int (0 : Int32)]) (d := 1) (mc := (0, 0)) (P := (qV (fun J => J = g3))) (X := nX) hb ho hnl hR hE mkX11_remember rfl ckX11 t0 rfl ⟨Nat.le_refl 0, Nat.le_refl 0⟩ rfl (rX11_setPolicy 5 rfl) (rX11_setPolicy 6 rfl) (rX11_setPolicy 7 rfl) rfl (z_dec dX11_setPolicy 17 rfl) (m3 c2) (fun v J3 hp => ?_) (fun _ _ h => h.elim)
    obtain ⟨rfl, w3⟩ := hp
    have w3 := w3.symm
    subst w3
    show ZZ K (0, 0) 30 [(0, .ref 312), (1, .int v1)] [] g3
    refine zz_aload_n hb (z_dec dX11_setPolicy 18 rfl) rfl 0 rfl ?_
    refine zz_getr (k := 0) (q := 313) hb ho rfl ckX11 t0 rfl rfl (rX11_setPolicy 8 rfl) rfl (z_dec dX11_setPolicy 19 rfl) ?_
    refine zz_iconst (v := (0 : Int32)) hb (z_dec dX11_setPolicy 20 rfl) (by decide) ?_
    refine zz_iald (j := 0) hb (show isT (kw K) 20 313 from isT.f (k := 0) t0 hw rfl rfl rfl (by decide)) rfl (zvi rfl (zin rfl)) (z_dec dX11_setPolicy 21 rfl) ?_
    refine zz_istore_n (L' := [(0, .ref 312), (1, .int v1), (2, .int (g3 313 0))]) hb (z_dec dX11_setPolicy 22 rfl) rfl hnl rfl [1, 2, 0] rfl ?_
    refine zz_aload_n hb (z_dec dX11_setPolicy 23 rfl) rfl 0 rfl ?_
    refine zz_getr (k := 0) (q := 313) hb ho rfl ckX11 t0 rfl rfl (rX11_setPolicy 8 rfl) rfl (z_dec dX11_setPolicy 24 rfl) ?_
    refine zz_iconst (v := (0 : Int32)) hb (z_dec dX11_setPolicy 25 rfl) (by decide) ?_
    refine zz_iload_n hb (z_dec dX11_setPolicy 26 rfl) rfl 1 rfl ?_
    refine zz_iast (j := 0) hb (show isT (kw K) 20 313 from isT.f (k := 0) t0 hw rfl rfl rfl (by decide)) rfl (zvi rfl (zin rfl)) (z_dec dX11_setPolicy 27 rfl) ?_
    refine zz_iload_n hb (z_dec dX11_setPolicy 28 rfl) rfl 2 rfl ?_
    exact zz_iret hb hE ⟨Nat.le_refl 0, Nat.le_refl 0⟩ (z_dec dX11_setPolicy 29 rfl) (h4 c2)
  · refine zz_iconst (v := (0 : Int32)) hb (z_dec dX11_setPolicy 13 rfl) (by decide) ?_
    exact zz_iret hb hE ⟨Nat.le_refl 0, Nat.le_refl 0⟩ (z_dec dX11_setPolicy 14 rfl) (h5 c2)
set_option maxRecDepth 20000 in
theorem bX11_change_0 {K : zK} {P : Option Value → zM → Prop} {X : String → zM → Prop} (hK : zIs K RX11 cX11_change 7 (some .int) 2 (0, 0) P X) (hw : wOK (kw K)) {I : zM} (t0 : isT (kw K) 11 312) {v1 : Int32} {v2 : Int32} {v3 : Int32} {v4 : Int32} {v5 : Int32} {f1 : Int32} {g1 : zM} (m1 : CT (kG K) (kw K) (kl K) (yX11_isLetter, cX11_isLetter, 2, (some .boolean)) 1 (0, 0) [.ref 312, .int v1] I (qE f1 g1) nX) (k3 : ∀ (c2 : ¬ f1 = 0), ZZ K (0, 0) 14 [(0, .ref 312), (1, .int v1), (2, .int v2), (3, .int v3), (4, .int v4), (5, .int v5)] [.int (0 : Int32), .ref 312] g1) (k4 : ∀ (c2 : f1 = 0), ZZ K (0, 0) 14 [(0, .ref 312), (1, .int v1), (2, .int v2), (3, .int v3), (4, .int v4), (5, .int v5)] [.int (1 : Int32), .ref 312] g1) : ZZ K (0, 0) 0 [(0, .ref 312), (1, .int v1), (2, .int v2), (3, .int v3), (4, .int v4), (5, .int v5)] [] I := by
  obtain ⟨hb, ho, hnl, hR, hE⟩ := hK
  refine zz_aload_n hb (z_dec dX11_change 0 rfl) rfl 0 rfl ?_
  refine zz_aload_n hb (z_dec dX11_change 1 rfl) rfl 0 rfl ?_
  refine zz_iload_n hb (z_dec dX11_change 2 rfl) rfl 1 rfl ?_
  refine zz_inv (as := [.int v1]) (d := 1) (mc := (0, 0)) (P := (qE f1 g1)) (X := nX) hb ho hnl hR hE mkX11_isLetter rfl ckX11 t0 rfl ⟨Nat.le_refl 0, Nat.le_refl 0⟩ rfl (rX11_change 0 rfl) (rX11_change 1 rfl) (rX11_change 2 rfl) rfl (z_dec dX11_change 3 rfl) m1 (fun v J1 hp => ?_) (fun _ _ h => h.elim)
  obtain ⟨r1, rfl, e1, w1⟩ := hp
  have e1 := e1.symm
  subst e1
  have w1 := w1.symm
  subst w1
  show ZZ K (0, 0) 6 [(0, .ref 312), (1, .int v1), (2, .int v2), (3, .int v3), (4, .int v4), (5, .int v5)] [.int f1, .ref 312] g1
  refine zz_if_ne (tgt := 13) hb (z_dec dX11_change 4 rfl) (by decide) (fun c2 => ?_) (fun c2 => ?_)
  · refine zz_iconst (v := (0 : Int32)) hb (z_dec dX11_change 7 rfl) (by decide) ?_
    exact (k3 c2)
  · refine zz_iconst (v := (1 : Int32)) hb (z_dec dX11_change 5 rfl) (by decide) ?_
    refine zz_goto (tgt := 14) hb (z_dec dX11_change 6 rfl) (by decide) ?_
    exact (k4 c2)
set_option maxRecDepth 20000 in
theorem bX11_change_14 {K : zK} {P : Option Value → zM → Prop} {X : String → zM → Prop} (hK : zIs K RX11 cX11_change 7 (some .int) 2 (0, 0) P X) (hw : wOK (kw K)) {I : zM} (t0 : isT (kw K) 11 312) {v1 : Int32} {v2 : Int32} {v3 : Int32} {v4 : Int32} {v5 : Int32} (ts0 : isT (kw K) 11 312) {vs1 : Int32} {f1 : Int32} {g1 : zM} (m1 : CT (kG K) (kw K) (kl K) (yX11_in, cX11_in, 3, (some .boolean)) 0 (0, 0) [.int v3, .int v4, .int v5] I (qE f1 g1) nX) (k3 : ∀ (c2 : ¬ f1 = 0), ZZ K (0, 0) 30 [(0, .ref 312), (1, .int v1), (2, .int v2), (3, .int v3), (4, .int v4), (5, .int v5)] [.int (0 : Int32), .int vs1, .ref 312] g1) (k4 : ∀ (c2 : f1 = 0), ZZ K (0, 0) 30 [(0, .ref 312), (1, .int v1), (2, .int v2), (3, .int v3), (4, .int v4), (5, .int v5)] [.int (1 : Int32), .int vs1, .ref 312] g1) : ZZ K (0, 0) 14 [(0, .ref 312), (1, .int v1), (2, .int v2), (3, .int v3), (4, .int v4), (5, .int v5)] [.int vs1, .ref 312] I := by
  obtain ⟨hb, ho, hnl, hR, hE⟩ := hK
  refine zz_iload_n hb (z_dec dX11_change 8 rfl) rfl 3 rfl ?_
  refine zz_iload hb (z_dec dX11_change 9 rfl) 4 rfl ?_
  refine zz_iload hb (z_dec dX11_change 10 rfl) 5 rfl ?_
  refine zz_invS (as := [.int v3, .int v4, .int v5]) (d := 0) (mc := (0, 0)) (P := (qE f1 g1)) (X := nX) hb ho hnl hR hE mkX11_in rfl rfl ⟨Nat.le_refl 0, Nat.le_refl 0⟩ rfl (rX11_change 3 rfl) (rX11_change 4 rfl) rfl (z_dec dX11_change 11 rfl) m1 (fun v J1 hp => ?_) (fun _ _ h => h.elim)
  obtain ⟨r1, rfl, e1, w1⟩ := hp
  have e1 := e1.symm
  subst e1
  have w1 := w1.symm
  subst w1
  show ZZ K (0, 0) 22 [(0, .ref 312), (1, .int v1), (2, .int v2), (3, .int v3), (4, .int v4), (5, .int v5)] [.int f1, .int vs1, .ref 312] g1
  refine zz_if_ne (tgt := 29) hb (z_dec dX11_change 12 rfl) (by decide) (fun c2 => ?_) (fun c2 => ?_)
  · refine zz_iconst (v := (0 : Int32)) hb (z_dec dX11_change 15 rfl) (by decide) ?_
    exact (k3 c2)
  · refine zz_iconst (v := (1 : Int32)) hb (z_dec dX11_change 13 rfl) (by decide) ?_
    refine zz_goto (tgt := 30) hb (z_dec dX11_change 14 rfl) (by decide) ?_
    exact (k4 c2)
set_option maxRecDepth 20000 in
theorem bX11_change_30 {K : zK} {P : Option Value → zM → Prop} {X : String → zM → Prop} (hK : zIs K RX11 cX11_change 7 (some .int) 2 (0, 0) P X) (hw : wOK (kw K)) {I : zM} (t0 : isT (kw K) 11 312) {v1 : Int32} {v2 : Int32} {v3 : Int32} {v4 : Int32} {v5 : Int32} (ts0 : isT (kw K) 11 312) {vs1 : Int32} {vs2 : Int32} {f1 : Int32} {g1 : zM} (m1 : CT (kG K) (kw K) (kl K) (yX11_fails, cX11_fails, 4, (some .boolean)) 0 (0, 0) [.ref 312, .int vs1, .int vs2, .int (0 : Int32)] I (qE f1 g1) nX) {g3 : zM} (m3 : ∀ (c2 : f1 = 0), CT (kG K) (kw K) (kl K) (yX11_remember, cX11_remember, 3, none) 1 (0, 0) [.ref 312, .int (0 : Int32)] g1 (qV (fun J => J = g3)) nX) {f4 : Int32} {g4 : zM} (m4 : ∀ (c2 : f1 = 0), CT (kG K) (kw K) (kl K) (yX11_of, cX11_of, 3, (some .int)) 0 (0, 0) [.ref 312, .int v1, .int v2] g3 (qE f4 g4) nX) {g5 : zM} (m5 : ∀ (c2 : f1 = 0), CT (kG K) (kw K) (kl K) (yX11_set, cX11_set, 4, none) 0 (0, 0) [.ref 312, .int v1, .int v2, .int v3] g4 (qV (fun J => J = g5)) nX) (h6 : ∀ (c2 : f1 = 0), P (some (.int f4)) g5) (h7 : ∀ (c2 : ¬ f1 = 0), P (some (.int (0 : Int32))) g1) : ZZ K (0, 0) 30 [(0, .ref 312), (1, .int v1), (2, .int v2), (3, .int v3), (4, .int v4), (5, .int v5)] [.int vs2, .int vs1, .ref 312] I := by
  obtain ⟨hb, ho, hnl, hR, hE⟩ := hK
  refine zz_iconst (v := (0 : Int32)) hb (z_dec dX11_change 16 rfl) (by decide) ?_
  refine zz_inv (as := [.int vs1, .int vs2, .int (0 : Int32)]) (d := 0) (mc := (0, 0)) (P := (qE f1 g1)) (X := nX) hb ho hnl hR hE mkX11_fails rfl ckX11 ts0 rfl ⟨Nat.le_refl 0, Nat.le_refl 0⟩ rfl (rX11_change 5 rfl) (rX11_change 6 rfl) (rX11_change 7 rfl) rfl (z_dec dX11_change 17 rfl) m1 (fun v J1 hp => ?_) (fun _ _ h => h.elim)
  obtain ⟨r1, rfl, e1, w1⟩ := hp
  have e1 := e1.symm
  subst e1
  have w1 := w1.symm
  subst w1
  show ZZ K (0, 0) 34 [(0, .ref 312), (1, .int v1), (2, .int v2), (3, .int v3), (4, .int v4), (5, .int v5)] [.int f1] g1
  refine zz_if_eq (tgt := 39) hb (z_dec dX11_change 18 rfl) (by decide) (fun c2 => ?_) (fun c2 => ?_)
  · refine zz_aload_n hb (z_dec dX11_change 21 rfl) rfl 0 rfl ?_
    refine zz_iconst (v := (0 : Int32)) hb (z_dec dX11_change 22 rfl) (by decide) ?_
    refine zz_inv (as := [.int (0 : Int32)]) (d := 1) (mc := (0, 0)) (P := (qV (fun J => J = g3))) (X := nX) hb ho hnl hR hE mkX11_remember rfl ckX11 t0 rfl ⟨Nat.le_refl 0, Nat.le_refl 0⟩ rfl (rX11_change 8 rfl) (rX11_change 9 rfl) (rX11_change 10 rfl) rfl (z_dec dX11_change 23 rfl) (m3 c2) (fun v J3 hp => ?_) (fun _ _ h => h.elim)
    obtain ⟨rfl, w3⟩ := hp
    have w3 := w3.symm
    subst w3
    show ZZ K (0, 0) 44 [(0, .ref 312), (1, .int v1), (2, .int v2), (3, .int v3), (4, .int v4), (5, .int v5)] [] g3
    refine zz_aload_n hb (z_dec dX11_change 24 rfl) rfl 0 rfl ?_
    refine zz_iload_n hb (z_dec dX11_change 25 rfl) rfl 1 rfl ?_
    refine zz_iload_n hb (z_dec dX11_change 26 rfl) rfl 2 rfl ?_
    refine zz_inv (as := [.int v1, .int v2]) (d := 0) (mc := (0, 0)) (P := (qE f4 g4)) (X := nX) hb ho hnl hR hE mkX11_of rfl ckX11 t0 rfl ⟨Nat.le_refl 0, Nat.le_refl 0⟩ rfl (rX11_change 11 rfl) (rX11_change 12 rfl) (rX11_change 13 rfl) rfl (z_dec dX11_change 27 rfl) (m4 c2) (fun v J4 hp => ?_) (fun _ _ h => h.elim)
    obtain ⟨r4, rfl, e4, w4⟩ := hp
    have e4 := e4.symm
    subst e4
    have w4 := w4.symm
    subst w4
    show ZZ K (0, 0) 50 [(0, .ref 312), (1, .int v1), (2, .int v2), (3, .int v3), (4, .int v4), (5, .int v5)] [.int f4] g4
    refine zz_istore (L' := [(0, .ref 312), (1, .int v1), (2, .int v2), (3, .int v3), (4, .int v4), (5, .int v5), (6, .int f4)]) hb (z_dec dX11_change 28 rfl) hnl rfl [1, 2, 3, 4, 5, 6, 0] rfl ?_
    refine zz_aload_n hb (z_dec dX11_change 29 rfl) rfl 0 rfl ?_
    refine zz_iload_n hb (z_dec dX11_change 30 rfl) rfl 1 rfl ?_
    refine zz_iload_n hb (z_dec dX11_change 31 rfl) rfl 2 rfl ?_
    refine zz_iload_n hb (z_dec dX11_change 32 rfl) rfl 3 rfl ?_
    refine zz_inv (as := [.int v1, .int v2, .int v3]) (d := 0) (mc := (0, 0)) (P := (qV (fun J => J = g5))) (X := nX) hb ho hnl hR hE mkX11_set rfl ckX11 t0 rfl ⟨Nat.le_refl 0, Nat.le_refl 0⟩ rfl (rX11_change 14 rfl) (rX11_change 15 rfl) (rX11_change 16 rfl) rfl (z_dec dX11_change 33 rfl) (m5 c2) (fun v J5 hp => ?_) (fun _ _ h => h.elim)
    obtain ⟨rfl, w5⟩ := hp
    have w5 := w5.symm
    subst w5
    show ZZ K (0, 0) 59 [(0, .ref 312), (1, .int v1), (2, .int v2), (3, .int v3), (4, .int v4), (5, .int v5), (6, .int f4)] [] g5
    refine zz_iload hb (z_dec dX11_change 34 rfl) 6 rfl ?_
    exact zz_iret hb hE ⟨Nat.le_refl 0, Nat.le_refl 0⟩ (z_dec dX11_change 35 rfl) (h6 c2)
  · refine zz_iconst (v := (0 : Int32)) hb (z_dec dX11_change 19 rfl) (by decide) ?_
    exact zz_iret hb hE ⟨Nat.le_refl 0, Nat.le_refl 0⟩ (z_dec dX11_change 20 rfl) (h7 c2)
set_option maxRecDepth 20000 in
theorem bX11_setDeadline_0 {K : zK} {P : Option Value → zM → Prop} {X : String → zM → Prop} (hK : zIs K RX11 cX11_setDeadline 3 (some .int) 3 (0, 0) P X) (hw : wOK (kw K)) {I : zM} (t0 : isT (kw K) 11 312) {v1 : Int32} {v2 : Int32} {f1 : Int32} {g1 : zM} (m1 : CT (kG K) (kw K) (kl K) (yX11_change, cX11_change, 7, (some .int)) 2 (0, 0) [.ref 312, .int v1, .int (3 : Int32), .int v2, .int (1 : Int32), .int (999 : Int32)] I (qE f1 g1) nX) (h2 : P (some (.int f1)) g1) : ZZ K (0, 0) 0 [(0, .ref 312), (1, .int v1), (2, .int v2)] [] I := by
  obtain ⟨hb, ho, hnl, hR, hE⟩ := hK
  refine zz_aload_n hb (z_dec dX11_setDeadline 0 rfl) rfl 0 rfl ?_
  refine zz_iload_n hb (z_dec dX11_setDeadline 1 rfl) rfl 1 rfl ?_
  refine zz_iconst (v := (3 : Int32)) hb (z_dec dX11_setDeadline 2 rfl) (by decide) ?_
  refine zz_iload_n hb (z_dec dX11_setDeadline 3 rfl) rfl 2 rfl ?_
  refine zz_iconst (v := (1 : Int32)) hb (z_dec dX11_setDeadline 4 rfl) (by decide) ?_
  refine zz_sipush (v := (999 : Int32)) hb (z_dec dX11_setDeadline 5 rfl) (by decide) ?_
  refine zz_inv (as := [.int v1, .int (3 : Int32), .int v2, .int (1 : Int32), .int (999 : Int32)]) (d := 2) (mc := (0, 0)) (P := (qE f1 g1)) (X := nX) hb ho hnl hR hE mkX11_change rfl ckX11 t0 rfl ⟨Nat.le_refl 0, Nat.le_refl 0⟩ rfl (rX11_setDeadline 0 rfl) (rX11_setDeadline 1 rfl) (rX11_setDeadline 2 rfl) rfl (z_dec dX11_setDeadline 6 rfl) m1 (fun v J1 hp => ?_) (fun _ _ h => h.elim)
  obtain ⟨r1, rfl, e1, w1⟩ := hp
  have e1 := e1.symm
  subst e1
  have w1 := w1.symm
  subst w1
  show ZZ K (0, 0) 11 [(0, .ref 312), (1, .int v1), (2, .int v2)] [.int f1] g1
  exact zz_iret hb hE ⟨Nat.le_refl 0, Nat.le_refl 0⟩ (z_dec dX11_setDeadline 7 rfl) h2
set_option maxRecDepth 20000 in
theorem bX11_setPriority_0 {K : zK} {P : Option Value → zM → Prop} {X : String → zM → Prop} (hK : zIs K RX11 cX11_setPriority 3 (some .int) 3 (0, 0) P X) (hw : wOK (kw K)) {I : zM} (t0 : isT (kw K) 11 312) {v1 : Int32} {v2 : Int32} {f1 : Int32} {g1 : zM} (m1 : CT (kG K) (kw K) (kl K) (yX11_change, cX11_change, 7, (some .int)) 2 (0, 0) [.ref 312, .int v1, .int (4 : Int32), .int v2, .int (0 : Int32), .int (9 : Int32)] I (qE f1 g1) nX) (h2 : P (some (.int f1)) g1) : ZZ K (0, 0) 0 [(0, .ref 312), (1, .int v1), (2, .int v2)] [] I := by
  obtain ⟨hb, ho, hnl, hR, hE⟩ := hK
  refine zz_aload_n hb (z_dec dX11_setPriority 0 rfl) rfl 0 rfl ?_
  refine zz_iload_n hb (z_dec dX11_setPriority 1 rfl) rfl 1 rfl ?_
  refine zz_iconst (v := (4 : Int32)) hb (z_dec dX11_setPriority 2 rfl) (by decide) ?_
  refine zz_iload_n hb (z_dec dX11_setPriority 3 rfl) rfl 2 rfl ?_
  refine zz_iconst (v := (0 : Int32)) hb (z_dec dX11_setPriority 4 rfl) (by decide) ?_
  refine zz_bipush (v := (9 : Int32)) hb (z_dec dX11_setPriority 5 rfl) (by decide) ?_
  refine zz_inv (as := [.int v1, .int (4 : Int32), .int v2, .int (0 : Int32), .int (9 : Int32)]) (d := 2) (mc := (0, 0)) (P := (qE f1 g1)) (X := nX) hb ho hnl hR hE mkX11_change rfl ckX11 t0 rfl ⟨Nat.le_refl 0, Nat.le_refl 0⟩ rfl (rX11_setPriority 0 rfl) (rX11_setPriority 1 rfl) (rX11_setPriority 2 rfl) rfl (z_dec dX11_setPriority 6 rfl) m1 (fun v J1 hp => ?_) (fun _ _ h => h.elim)
  obtain ⟨r1, rfl, e1, w1⟩ := hp
  have e1 := e1.symm
  subst e1
  have w1 := w1.symm
  subst w1
  show ZZ K (0, 0) 10 [(0, .ref 312), (1, .int v1), (2, .int v2)] [.int f1] g1
  exact zz_iret hb hE ⟨Nat.le_refl 0, Nat.le_refl 0⟩ (z_dec dX11_setPriority 7 rfl) h2
set_option maxRecDepth 20000 in
theorem bX11_extend_0 {K : zK} {P : Option Value → zM → Prop} {X : String → zM → Prop} (hK : zIs K RX11 cX11_extend 4 (some .int) 2 (0, 0) P X) (hw : wOK (kw K)) {I : zM} (t0 : isT (kw K) 11 312) {v1 : Int32} {v2 : Int32} {f1 : Int32} {g1 : zM} (m1 : CT (kG K) (kw K) (kl K) (yX11_isLetter, cX11_isLetter, 2, (some .boolean)) 1 (0, 0) [.ref 312, .int v1] I (qE f1 g1) nX) (k3 : ∀ (c2 : f1 = 0), ZZ K (0, 0) 22 [(0, .ref 312), (1, .int v1), (2, .int v2)] [] g1) {f4 : Int32} {g4 : zM} (m4 : ∀ (c2 : ¬ f1 = 0), CT (kG K) (kw K) (kl K) (yX11_in, cX11_in, 3, (some .boolean)) 0 (0, 0) [.int v2, .int (1 : Int32), .int (29 : Int32)] g1 (qE f4 g4) nX) (k6 : ∀ (c2 : ¬ f1 = 0) (c5 : f4 = 0), ZZ K (0, 0) 22 [(0, .ref 312), (1, .int v1), (2, .int v2)] [] g4) (k7 : ∀ (c2 : ¬ f1 = 0) (c5 : ¬ f4 = 0), ZZ K (0, 0) 23 [(0, .ref 312), (1, .int v1), (2, .int v2)] [.int (1 : Int32)] g4) : ZZ K (0, 0) 0 [(0, .ref 312), (1, .int v1), (2, .int v2)] [] I := by
  obtain ⟨hb, ho, hnl, hR, hE⟩ := hK
  refine zz_aload_n hb (z_dec dX11_extend 0 rfl) rfl 0 rfl ?_
  refine zz_iload_n hb (z_dec dX11_extend 1 rfl) rfl 1 rfl ?_
  refine zz_inv (as := [.int v1]) (d := 1) (mc := (0, 0)) (P := (qE f1 g1)) (X := nX) hb ho hnl hR hE mkX11_isLetter rfl ckX11 t0 rfl ⟨Nat.le_refl 0, Nat.le_refl 0⟩ rfl (rX11_extend 0 rfl) (rX11_extend 1 rfl) (rX11_extend 2 rfl) rfl (z_dec dX11_extend 2 rfl) m1 (fun v J1 hp => ?_) (fun _ _ h => h.elim)
  obtain ⟨r1, rfl, e1, w1⟩ := hp
  have e1 := e1.symm
  subst e1
  have w1 := w1.symm
  subst w1
  show ZZ K (0, 0) 5 [(0, .ref 312), (1, .int v1), (2, .int v2)] [.int f1] g1
  refine zz_if_eq (tgt := 22) hb (z_dec dX11_extend 3 rfl) (by decide) (fun c2 => ?_) (fun c2 => ?_)
  · exact (k3 c2)
  · refine zz_iload_n hb (z_dec dX11_extend 4 rfl) rfl 2 rfl ?_
    refine zz_iconst (v := (1 : Int32)) hb (z_dec dX11_extend 5 rfl) (by decide) ?_
    refine zz_bipush (v := (29 : Int32)) hb (z_dec dX11_extend 6 rfl) (by decide) ?_
    refine zz_invS (as := [.int v2, .int (1 : Int32), .int (29 : Int32)]) (d := 0) (mc := (0, 0)) (P := (qE f4 g4)) (X := nX) hb ho hnl hR hE mkX11_in rfl rfl ⟨Nat.le_refl 0, Nat.le_refl 0⟩ rfl (rX11_extend 3 rfl) (rX11_extend 4 rfl) rfl (z_dec dX11_extend 7 rfl) (m4 c2) (fun v J4 hp => ?_) (fun _ _ h => h.elim)
    obtain ⟨r4, rfl, e4, w4⟩ := hp
    have e4 := e4.symm
    subst e4
    have w4 := w4.symm
    subst w4
    show ZZ K (0, 0) 15 [(0, .ref 312), (1, .int v1), (2, .int v2)] [.int f4] g4
    refine zz_if_eq (tgt := 22) hb (z_dec dX11_extend 8 rfl) (by decide) (fun c5 => ?_) (fun c5 => ?_)
    · exact (k6 c2 c5)
    · refine zz_iconst (v := (1 : Int32)) hb (z_dec dX11_extend 9 rfl) (by decide) ?_
      refine zz_goto (tgt := 23) hb (z_dec dX11_extend 10 rfl) (by decide) ?_
      exact (k7 c2 c5)
set_option maxRecDepth 20000 in
theorem bX11_extend_22 {K : zK} {P : Option Value → zM → Prop} {X : String → zM → Prop} (hK : zIs K RX11 cX11_extend 4 (some .int) 2 (0, 0) P X) (hw : wOK (kw K)) {I : zM} (t0 : isT (kw K) 11 312) {v1 : Int32} {v2 : Int32} (k1 : ZZ K (0, 0) 23 [(0, .ref 312), (1, .int v1), (2, .int v2)] [.int (0 : Int32)] I) : ZZ K (0, 0) 22 [(0, .ref 312), (1, .int v1), (2, .int v2)] [] I := by
  obtain ⟨hb, ho, hnl, hR, hE⟩ := hK
  refine zz_iconst (v := (0 : Int32)) hb (z_dec dX11_extend 11 rfl) (by decide) ?_
  exact k1
set_option maxRecDepth 20000 in
theorem bX11_extend_23 {K : zK} {P : Option Value → zM → Prop} {X : String → zM → Prop} (hK : zIs K RX11 cX11_extend 4 (some .int) 2 (0, 0) P X) (hw : wOK (kw K)) {I : zM} (t0 : isT (kw K) 11 312) {v1 : Int32} {v2 : Int32} {vs0 : Int32} {f1 : Int32} {g1 : zM} (m1 : CT (kG K) (kw K) (kl K) (yX11_isLetter, cX11_isLetter, 2, (some .boolean)) 1 (0, 0) [.ref 312, .int v1] I (qE f1 g1) nX) (k3 : ∀ (c2 : ¬ f1 = 0), ZZ K (0, 0) 38 [(0, .ref 312), (1, .int v1), (2, .int v2), (3, .int vs0)] [.int (0 : Int32), .ref 312] g1) (k4 : ∀ (c2 : f1 = 0), ZZ K (0, 0) 38 [(0, .ref 312), (1, .int v1), (2, .int v2), (3, .int vs0)] [.int (1 : Int32), .ref 312] g1) : ZZ K (0, 0) 23 [(0, .ref 312), (1, .int v1), (2, .int v2)] [.int vs0] I := by
  obtain ⟨hb, ho, hnl, hR, hE⟩ := hK
  refine zz_istore_n (L' := [(0, .ref 312), (1, .int v1), (2, .int v2), (3, .int vs0)]) hb (z_dec dX11_extend 12 rfl) rfl hnl rfl [1, 2, 3, 0] rfl ?_
  refine zz_aload_n hb (z_dec dX11_extend 13 rfl) rfl 0 rfl ?_
  refine zz_aload_n hb (z_dec dX11_extend 14 rfl) rfl 0 rfl ?_
  refine zz_iload_n hb (z_dec dX11_extend 15 rfl) rfl 1 rfl ?_
  refine zz_inv (as := [.int v1]) (d := 1) (mc := (0, 0)) (P := (qE f1 g1)) (X := nX) hb ho hnl hR hE mkX11_isLetter rfl ckX11 t0 rfl ⟨Nat.le_refl 0, Nat.le_refl 0⟩ rfl (rX11_extend 0 rfl) (rX11_extend 1 rfl) (rX11_extend 2 rfl) rfl (z_dec dX11_extend 16 rfl) m1 (fun v J1 hp => ?_) (fun _ _ h => h.elim)
  obtain ⟨r1, rfl, e1, w1⟩ := hp
  have e1 := e1.symm
  subst e1
  have w1 := w1.symm
  subst w1
  show ZZ K (0, 0) 30 [(0, .ref 312), (1, .int v1), (2, .int v2), (3, .int vs0)] [.int f1, .ref 312] g1
  refine zz_if_ne (tgt := 37) hb (z_dec dX11_extend 17 rfl) (by decide) (fun c2 => ?_) (fun c2 => ?_)
  · refine zz_iconst (v := (0 : Int32)) hb (z_dec dX11_extend 20 rfl) (by decide) ?_
    exact (k3 c2)
  · refine zz_iconst (v := (1 : Int32)) hb (z_dec dX11_extend 18 rfl) (by decide) ?_
    refine zz_goto (tgt := 38) hb (z_dec dX11_extend 19 rfl) (by decide) ?_
    exact (k4 c2)
set_option maxRecDepth 20000 in
theorem bX11_extend_38 {K : zK} {P : Option Value → zM → Prop} {X : String → zM → Prop} (hK : zIs K RX11 cX11_extend 4 (some .int) 2 (0, 0) P X) (hw : wOK (kw K)) {I : zM} (t0 : isT (kw K) 11 312) {v1 : Int32} {v2 : Int32} {v3 : Int32} (ts0 : isT (kw K) 11 312) {vs1 : Int32} {f1 : Int32} {g1 : zM} (m1 : CT (kG K) (kw K) (kl K) (yX11_in, cX11_in, 3, (some .boolean)) 0 (0, 0) [.int v2, .int (1 : Int32), .int (29 : Int32)] I (qE f1 g1) nX) (k3 : ∀ (c2 : ¬ f1 = 0), ZZ K (0, 0) 53 [(0, .ref 312), (1, .int v1), (2, .int v2), (3, .int v3)] [.int (0 : Int32), .int vs1, .ref 312] g1) (k4 : ∀ (c2 : f1 = 0), ZZ K (0, 0) 53 [(0, .ref 312), (1, .int v1), (2, .int v2), (3, .int v3)] [.int (1 : Int32), .int vs1, .ref 312] g1) : ZZ K (0, 0) 38 [(0, .ref 312), (1, .int v1), (2, .int v2), (3, .int v3)] [.int vs1, .ref 312] I := by
  obtain ⟨hb, ho, hnl, hR, hE⟩ := hK
  refine zz_iload_n hb (z_dec dX11_extend 21 rfl) rfl 2 rfl ?_
  refine zz_iconst (v := (1 : Int32)) hb (z_dec dX11_extend 22 rfl) (by decide) ?_
  refine zz_bipush (v := (29 : Int32)) hb (z_dec dX11_extend 23 rfl) (by decide) ?_
  refine zz_invS (as := [.int v2, .int (1 : Int32), .int (29 : Int32)]) (d := 0) (mc := (0, 0)) (P := (qE f1 g1)) (X := nX) hb ho hnl hR hE mkX11_in rfl rfl ⟨Nat.le_refl 0, Nat.le_refl 0⟩ rfl (rX11_extend 3 rfl) (rX11_extend 4 rfl) rfl (z_dec dX11_extend 24 rfl) m1 (fun v J1 hp => ?_) (fun _ _ h => h.elim)
  obtain ⟨r1, rfl, e1, w1⟩ := hp
  have e1 := e1.symm
  subst e1
  have w1 := w1.symm
  subst w1
  show ZZ K (0, 0) 45 [(0, .ref 312), (1, .int v1), (2, .int v2), (3, .int v3)] [.int f1, .int vs1, .ref 312] g1
  refine zz_if_ne (tgt := 52) hb (z_dec dX11_extend 25 rfl) (by decide) (fun c2 => ?_) (fun c2 => ?_)
  · refine zz_iconst (v := (0 : Int32)) hb (z_dec dX11_extend 28 rfl) (by decide) ?_
    exact (k3 c2)
  · refine zz_iconst (v := (1 : Int32)) hb (z_dec dX11_extend 26 rfl) (by decide) ?_
    refine zz_goto (tgt := 53) hb (z_dec dX11_extend 27 rfl) (by decide) ?_
    exact (k4 c2)
set_option maxRecDepth 20000 in
theorem bX11_extend_53 {K : zK} {P : Option Value → zM → Prop} {X : String → zM → Prop} (hK : zIs K RX11 cX11_extend 4 (some .int) 2 (0, 0) P X) (hw : wOK (kw K)) {I : zM} (t0 : isT (kw K) 11 312) {v1 : Int32} {v2 : Int32} {v3 : Int32} (ts0 : isT (kw K) 11 312) {vs1 : Int32} {vs2 : Int32} (k2 : ∀ (c1 : v3 = 0), ZZ K (0, 0) 82 [(0, .ref 312), (1, .int v1), (2, .int v2), (3, .int v3)] [.int vs2, .int vs1, .ref 312] I) {f3 : Int32} {g3 : zM} (m3 : ∀ (c1 : ¬ v3 = 0), CT (kG K) (kw K) (kl K) (yX11_isDone, cX11_isDone, 2, (some .boolean)) 1 (0, 0) [.ref 312, .int v1] I (qE f3 g3) nX) (k5 : ∀ (c1 : ¬ v3 = 0) (c4 : ¬ f3 = 0), ZZ K (0, 0) 83 [(0, .ref 312), (1, .int v1), (2, .int v2), (3, .int v3)] [.int (1 : Int32), .int vs2, .int vs1, .ref 312] g3) {f6 : Int32} {g6 : zM} (m6 : ∀ (c1 : ¬ v3 = 0) (c4 : f3 = 0), CT (kG K) (kw K) (kl K) (yX11_of, cX11_of, 3, (some .int)) 0 (0, 0) [.ref 312, .int v1, .int (1 : Int32)] g3 (qE f6 g6) nX) (k8 : ∀ (c1 : ¬ v3 = 0) (c4 : f3 = 0) (c7 : (f6 + v2) ≤ (30 : Int32)), ZZ K (0, 0) 82 [(0, .ref 312), (1, .int v1), (2, .int v2), (3, .int v3)] [.int vs2, .int vs1, .ref 312] g6) (k9 : ∀ (c1 : ¬ v3 = 0) (c4 : f3 = 0) (c7 : ¬ (f6 + v2) ≤ (30 : Int32)), ZZ K (0, 0) 83 [(0, .ref 312), (1, .int v1), (2, .int v2), (3, .int v3)] [.int (1 : Int32), .int vs2, .int vs1, .ref 312] g6) : ZZ K (0, 0) 53 [(0, .ref 312), (1, .int v1), (2, .int v2), (3, .int v3)] [.int vs2, .int vs1, .ref 312] I := by
  obtain ⟨hb, ho, hnl, hR, hE⟩ := hK
  refine zz_iload_n hb (z_dec dX11_extend 29 rfl) rfl 3 rfl ?_
  refine zz_if_eq (tgt := 82) hb (z_dec dX11_extend 30 rfl) (by decide) (fun c1 => ?_) (fun c1 => ?_)
  · exact (k2 c1)
  · refine zz_aload_n hb (z_dec dX11_extend 31 rfl) rfl 0 rfl ?_
    refine zz_iload_n hb (z_dec dX11_extend 32 rfl) rfl 1 rfl ?_
    refine zz_inv (as := [.int v1]) (d := 1) (mc := (0, 0)) (P := (qE f3 g3)) (X := nX) hb ho hnl hR hE mkX11_isDone rfl ckX11 t0 rfl ⟨Nat.le_refl 0, Nat.le_refl 0⟩ rfl (rX11_extend 5 rfl) (rX11_extend 6 rfl) (rX11_extend 7 rfl) rfl (z_dec dX11_extend 33 rfl) (m3 c1) (fun v J3 hp => ?_) (fun _ _ h => h.elim)
    obtain ⟨r3, rfl, e3, w3⟩ := hp
    have e3 := e3.symm
    subst e3
    have w3 := w3.symm
    subst w3
    show ZZ K (0, 0) 62 [(0, .ref 312), (1, .int v1), (2, .int v2), (3, .int v3)] [.int f3, .int vs2, .int vs1, .ref 312] g3
    refine zz_if_ne (tgt := 78) hb (z_dec dX11_extend 34 rfl) (by decide) (fun c4 => ?_) (fun c4 => ?_)
    · refine zz_iconst (v := (1 : Int32)) hb (z_dec dX11_extend 43 rfl) (by decide) ?_
      refine zz_goto (tgt := 83) hb (z_dec dX11_extend 44 rfl) (by decide) ?_
      exact (k5 c1 c4)
    · refine zz_aload_n hb (z_dec dX11_extend 35 rfl) rfl 0 rfl ?_
      refine zz_iload_n hb (z_dec dX11_extend 36 rfl) rfl 1 rfl ?_
      refine zz_iconst (v := (1 : Int32)) hb (z_dec dX11_extend 37 rfl) (by decide) ?_
      refine zz_inv (as := [.int v1, .int (1 : Int32)]) (d := 0) (mc := (0, 0)) (P := (qE f6 g6)) (X := nX) hb ho hnl hR hE mkX11_of rfl ckX11 t0 rfl ⟨Nat.le_refl 0, Nat.le_refl 0⟩ rfl (rX11_extend 8 rfl) (rX11_extend 9 rfl) (rX11_extend 10 rfl) rfl (z_dec dX11_extend 38 rfl) (m6 c1 c4) (fun v J6 hp => ?_) (fun _ _ h => h.elim)
      obtain ⟨r6, rfl, e6, w6⟩ := hp
      have e6 := e6.symm
      subst e6
      have w6 := w6.symm
      subst w6
      show ZZ K (0, 0) 71 [(0, .ref 312), (1, .int v1), (2, .int v2), (3, .int v3)] [.int f6, .int vs2, .int vs1, .ref 312] g6
      refine zz_iload_n hb (z_dec dX11_extend 39 rfl) rfl 2 rfl ?_
      refine zz_iadd hb (z_dec dX11_extend 40 rfl) ?_
      refine zz_bipush (v := (30 : Int32)) hb (z_dec dX11_extend 41 rfl) (by decide) ?_
      refine zz_icmp_le (tgt := 82) hb (z_dec dX11_extend 42 rfl) (by decide) (fun c7 => ?_) (fun c7 => ?_)
      · exact (k8 c1 c4 c7)
      · refine zz_iconst (v := (1 : Int32)) hb (z_dec dX11_extend 43 rfl) (by decide) ?_
        refine zz_goto (tgt := 83) hb (z_dec dX11_extend 44 rfl) (by decide) ?_
        exact (k9 c1 c4 c7)
set_option maxRecDepth 20000 in
theorem bX11_extend_82 {K : zK} {P : Option Value → zM → Prop} {X : String → zM → Prop} (hK : zIs K RX11 cX11_extend 4 (some .int) 2 (0, 0) P X) (hw : wOK (kw K)) {I : zM} (t0 : isT (kw K) 11 312) {v1 : Int32} {v2 : Int32} {v3 : Int32} (ts0 : isT (kw K) 11 312) {vs1 : Int32} {vs2 : Int32} (k1 : ZZ K (0, 0) 83 [(0, .ref 312), (1, .int v1), (2, .int v2), (3, .int v3)] [.int (0 : Int32), .int vs2, .int vs1, .ref 312] I) : ZZ K (0, 0) 82 [(0, .ref 312), (1, .int v1), (2, .int v2), (3, .int v3)] [.int vs2, .int vs1, .ref 312] I := by
  obtain ⟨hb, ho, hnl, hR, hE⟩ := hK
  refine zz_iconst (v := (0 : Int32)) hb (z_dec dX11_extend 45 rfl) (by decide) ?_
  exact k1
set_option maxRecDepth 20000 in
theorem bX11_extend_83 {K : zK} {P : Option Value → zM → Prop} {X : String → zM → Prop} (hK : zIs K RX11 cX11_extend 4 (some .int) 2 (0, 0) P X) (hw : wOK (kw K)) {I : zM} (t0 : isT (kw K) 11 312) {v1 : Int32} {v2 : Int32} {v3 : Int32} (ts0 : isT (kw K) 11 312) {vs1 : Int32} {vs2 : Int32} {vs3 : Int32} {f1 : Int32} {g1 : zM} (m1 : CT (kG K) (kw K) (kl K) (yX11_fails, cX11_fails, 4, (some .boolean)) 0 (0, 0) [.ref 312, .int vs1, .int vs2, .int vs3] I (qE f1 g1) nX) {g3 : zM} (m3 : ∀ (c2 : f1 = 0), CT (kG K) (kw K) (kl K) (yX11_remember, cX11_remember, 3, none) 1 (0, 0) [.ref 312, .int (0 : Int32)] g1 (qV (fun J => J = g3)) nX) {f4 : Int32} {g4 : zM} (m4 : ∀ (c2 : f1 = 0), CT (kG K) (kw K) (kl K) (yX11_of, cX11_of, 3, (some .int)) 0 (0, 0) [.ref 312, .int v1, .int (1 : Int32)] g3 (qE f4 g4) nX) {g5 : zM} (m5 : ∀ (c2 : f1 = 0), CT (kG K) (kw K) (kl K) (yX11_set, cX11_set, 4, none) 0 (0, 0) [.ref 312, .int v1, .int (1 : Int32), .int (f4 + v2)] g4 (qV (fun J => J = g5)) nX) {f6 : Int32} {g6 : zM} (m6 : ∀ (c2 : f1 = 0), CT (kG K) (kw K) (kl K) (yX11_of, cX11_of, 3, (some .int)) 0 (0, 0) [.ref 312, .int v1, .int (5 : Int32)] g5 (qE f6 g6) nX) {g7 : zM} (m7 : ∀ (c2 : f1 = 0), CT (kG K) (kw K) (kl K) (yX11_set, cX11_set, 4, none) 0 (0, 0) [.ref 312, .int v1, .int (5 : Int32), .int (f6 + v2)] g6 (qV (fun J => J = g7)) nX) {f8 : Int32} {g8 : zM} (m8 : ∀ (c2 : f1 = 0), CT (kG K) (kw K) (kl K) (yX11_of, cX11_of, 3, (some .int)) 0 (0, 0) [.ref 312, .int v1, .int (5 : Int32)] g7 (qE f8 g8) nX) (h9 : ∀ (c2 : f1 = 0), P (some (.int f8)) g8) (h10 : ∀ (c2 : ¬ f1 = 0), P (some (.int (0 : Int32))) g1) : ZZ K (0, 0) 83 [(0, .ref 312), (1, .int v1), (2, .int v2), (3, .int v3)] [.int vs3, .int vs2, .int vs1, .ref 312] I := by
  obtain ⟨hb, ho, hnl, hR, hE⟩ := hK
  refine zz_inv (as := [.int vs1, .int vs2, .int vs3]) (d := 0) (mc := (0, 0)) (P := (qE f1 g1)) (X := nX) hb ho hnl hR hE mkX11_fails rfl ckX11 ts0 rfl ⟨Nat.le_refl 0, Nat.le_refl 0⟩ rfl (rX11_extend 11 rfl) (rX11_extend 12 rfl) (rX11_extend 13 rfl) rfl (z_dec dX11_extend 46 rfl) m1 (fun v J1 hp => ?_) (fun _ _ h => h.elim)
  obtain ⟨r1, rfl, e1, w1⟩ := hp
  have e1 := e1.symm
  subst e1
  have w1 := w1.symm
  subst w1
  show ZZ K (0, 0) 86 [(0, .ref 312), (1, .int v1), (2, .int v2), (3, .int v3)] [.int f1] g1
  refine zz_if_eq (tgt := 91) hb (z_dec dX11_extend 47 rfl) (by decide) (fun c2 => ?_) (fun c2 => ?_)
  · refine zz_aload_n hb (z_dec dX11_extend 50 rfl) rfl 0 rfl ?_
    refine zz_iconst (v := (0 : Int32)) hb (z_dec dX11_extend 51 rfl) (by decide) ?_
    refine zz_inv (as := [.int (0 : Int32)]) (d := 1) (mc := (0, 0)) (P := (qV (fun J => J = g3))) (X := nX) hb ho hnl hR hE mkX11_remember rfl ckX11 t0 rfl ⟨Nat.le_refl 0, Nat.le_refl 0⟩ rfl (rX11_extend 14 rfl) (rX11_extend 15 rfl) (rX11_extend 16 rfl) rfl (z_dec dX11_extend 52 rfl) (m3 c2) (fun v J3 hp => ?_) (fun _ _ h => h.elim)
    obtain ⟨rfl, w3⟩ := hp
    have w3 := w3.symm
    subst w3
    show ZZ K (0, 0) 96 [(0, .ref 312), (1, .int v1), (2, .int v2), (3, .int v3)] [] g3
    refine zz_aload_n hb (z_dec dX11_extend 53 rfl) rfl 0 rfl ?_
    refine zz_iload_n hb (z_dec dX11_extend 54 rfl) rfl 1 rfl ?_
    refine zz_iconst (v := (1 : Int32)) hb (z_dec dX11_extend 55 rfl) (by decide) ?_
    refine zz_aload_n hb (z_dec dX11_extend 56 rfl) rfl 0 rfl ?_
    refine zz_iload_n hb (z_dec dX11_extend 57 rfl) rfl 1 rfl ?_
    refine zz_iconst (v := (1 : Int32)) hb (z_dec dX11_extend 58 rfl) (by decide) ?_
    refine zz_inv (as := [.int v1, .int (1 : Int32)]) (d := 0) (mc := (0, 0)) (P := (qE f4 g4)) (X := nX) hb ho hnl hR hE mkX11_of rfl ckX11 t0 rfl ⟨Nat.le_refl 0, Nat.le_refl 0⟩ rfl (rX11_extend 8 rfl) (rX11_extend 9 rfl) (rX11_extend 10 rfl) rfl (z_dec dX11_extend 59 rfl) (m4 c2) (fun v J4 hp => ?_) (fun _ _ h => h.elim)
    obtain ⟨r4, rfl, e4, w4⟩ := hp
    have e4 := e4.symm
    subst e4
    have w4 := w4.symm
    subst w4
    show ZZ K (0, 0) 105 [(0, .ref 312), (1, .int v1), (2, .int v2), (3, .int v3)] [.int f4, .int (1 : Int32), .int v1, .ref 312] g4
    refine zz_iload_n hb (z_dec dX11_extend 60 rfl) rfl 2 rfl ?_
    refine zz_iadd hb (z_dec dX11_extend 61 rfl) ?_
    refine zz_inv (as := [.int v1, .int (1 : Int32), .int (f4 + v2)]) (d := 0) (mc := (0, 0)) (P := (qV (fun J => J = g5))) (X := nX) hb ho hnl hR hE mkX11_set rfl ckX11 t0 rfl ⟨Nat.le_refl 0, Nat.le_refl 0⟩ rfl (rX11_extend 17 rfl) (rX11_extend 18 rfl) (rX11_extend 19 rfl) rfl (z_dec dX11_extend 62 rfl) (m5 c2) (fun v J5 hp => ?_) (fun _ _ h => h.elim)
    obtain ⟨rfl, w5⟩ := hp
    have w5 := w5.symm
    subst w5
    show ZZ K (0, 0) 110 [(0, .ref 312), (1, .int v1), (2, .int v2), (3, .int v3)] [] g5
    refine zz_aload_n hb (z_dec dX11_extend 63 rfl) rfl 0 rfl ?_
    refine zz_iload_n hb (z_dec dX11_extend 64 rfl) rfl 1 rfl ?_
    refine zz_iconst (v := (5 : Int32)) hb (z_dec dX11_extend 65 rfl) (by decide) ?_
    refine zz_aload_n hb (z_dec dX11_extend 66 rfl) rfl 0 rfl ?_
    refine zz_iload_n hb (z_dec dX11_extend 67 rfl) rfl 1 rfl ?_
    refine zz_iconst (v := (5 : Int32)) hb (z_dec dX11_extend 68 rfl) (by decide) ?_
    refine zz_inv (as := [.int v1, .int (5 : Int32)]) (d := 0) (mc := (0, 0)) (P := (qE f6 g6)) (X := nX) hb ho hnl hR hE mkX11_of rfl ckX11 t0 rfl ⟨Nat.le_refl 0, Nat.le_refl 0⟩ rfl (rX11_extend 8 rfl) (rX11_extend 9 rfl) (rX11_extend 10 rfl) rfl (z_dec dX11_extend 69 rfl) (m6 c2) (fun v J6 hp => ?_) (fun _ _ h => h.elim)
    obtain ⟨r6, rfl, e6, w6⟩ := hp
    have e6 := e6.symm
    subst e6
    have w6 := w6.symm
    subst w6
    show ZZ K (0, 0) 119 [(0, .ref 312), (1, .int v1), (2, .int v2), (3, .int v3)] [.int f6, .int (5 : Int32), .int v1, .ref 312] g6
    refine zz_iload_n hb (z_dec dX11_extend 70 rfl) rfl 2 rfl ?_
    refine zz_iadd hb (z_dec dX11_extend 71 rfl) ?_
    refine zz_inv (as := [.int v1, .int (5 : Int32), .int (f6 + v2)]) (d := 0) (mc := (0, 0)) (P := (qV (fun J => J = g7))) (X := nX) hb ho hnl hR hE mkX11_set rfl ckX11 t0 rfl ⟨Nat.le_refl 0, Nat.le_refl 0⟩ rfl (rX11_extend 17 rfl) (rX11_extend 18 rfl) (rX11_extend 19 rfl) rfl (z_dec dX11_extend 72 rfl) (m7 c2) (fun v J7 hp => ?_) (fun _ _ h => h.elim)
    obtain ⟨rfl, w7⟩ := hp
    have w7 := w7.symm
    subst w7
    show ZZ K (0, 0) 124 [(0, .ref 312), (1, .int v1), (2, .int v2), (3, .int v3)] [] g7
    refine zz_aload_n hb (z_dec dX11_extend 73 rfl) rfl 0 rfl ?_
    refine zz_iload_n hb (z_dec dX11_extend 74 rfl) rfl 1 rfl ?_
    refine zz_iconst (v := (5 : Int32)) hb (z_dec dX11_extend 75 rfl) (by decide) ?_
    refine zz_inv (as := [.int v1, .int (5 : Int32)]) (d := 0) (mc := (0, 0)) (P := (qE f8 g8)) (X := nX) hb ho hnl hR hE mkX11_of rfl ckX11 t0 rfl ⟨Nat.le_refl 0, Nat.le_refl 0⟩ rfl (rX11_extend 8 rfl) (rX11_extend 9 rfl) (rX11_extend 10 rfl) rfl (z_dec dX11_extend 76 rfl) (m8 c2) (fun v J8 hp => ?_) (fun _ _ h => h.elim)
    obtain ⟨r8, rfl, e8, w8⟩ := hp
    have e8 := e8.symm
    subst e8
    have w8 := w8.symm
    subst w8
    show ZZ K (0, 0) 130 [(0, .ref 312), (1, .int v1), (2, .int v2), (3, .int v3)] [.int f8] g8
    exact zz_iret hb hE ⟨Nat.le_refl 0, Nat.le_refl 0⟩ (z_dec dX11_extend 77 rfl) (h9 c2)
  · refine zz_iconst (v := (0 : Int32)) hb (z_dec dX11_extend 48 rfl) (by decide) ?_
    exact zz_iret hb hE ⟨Nat.le_refl 0, Nat.le_refl 0⟩ (z_dec dX11_extend 49 rfl) (h10 c2)
set_option maxRecDepth 20000 in
theorem bX11_discard_0 {K : zK} {P : Option Value → zM → Prop} {X : String → zM → Prop} (hK : zIs K RX11 cX11_discard 3 (some .int) 3 (0, 0) P X) (hw : wOK (kw K)) {I : zM} (t0 : isT (kw K) 11 312) {v1 : Int32} {f1 : Int32} {g1 : zM} (m1 : CT (kG K) (kw K) (kl K) (yX11_isLetter, cX11_isLetter, 2, (some .boolean)) 1 (0, 0) [.ref 312, .int v1] I (qE f1 g1) nX) (k3 : ∀ (c2 : ¬ f1 = 0), ZZ K (0, 0) 16 [(0, .ref 312), (1, .int v1), (2, .int f1)] [.int (0 : Int32), .ref 312] g1) (k4 : ∀ (c2 : f1 = 0), ZZ K (0, 0) 16 [(0, .ref 312), (1, .int v1), (2, .int f1)] [.int (1 : Int32), .ref 312] g1) : ZZ K (0, 0) 0 [(0, .ref 312), (1, .int v1)] [] I := by
  obtain ⟨hb, ho, hnl, hR, hE⟩ := hK
  refine zz_aload_n hb (z_dec dX11_discard 0 rfl) rfl 0 rfl ?_
  refine zz_iload_n hb (z_dec dX11_discard 1 rfl) rfl 1 rfl ?_
  refine zz_inv (as := [.int v1]) (d := 1) (mc := (0, 0)) (P := (qE f1 g1)) (X := nX) hb ho hnl hR hE mkX11_isLetter rfl ckX11 t0 rfl ⟨Nat.le_refl 0, Nat.le_refl 0⟩ rfl (rX11_discard 0 rfl) (rX11_discard 1 rfl) (rX11_discard 2 rfl) rfl (z_dec dX11_discard 2 rfl) m1 (fun v J1 hp => ?_) (fun _ _ h => h.elim)
  obtain ⟨r1, rfl, e1, w1⟩ := hp
  have e1 := e1.symm
  subst e1
  have w1 := w1.symm
  subst w1
  show ZZ K (0, 0) 5 [(0, .ref 312), (1, .int v1)] [.int f1] g1
  refine zz_istore_n (L' := [(0, .ref 312), (1, .int v1), (2, .int f1)]) hb (z_dec dX11_discard 3 rfl) rfl hnl rfl [1, 2, 0] rfl ?_
  refine zz_aload_n hb (z_dec dX11_discard 4 rfl) rfl 0 rfl ?_
  refine zz_iload_n hb (z_dec dX11_discard 5 rfl) rfl 2 rfl ?_
  refine zz_if_ne (tgt := 15) hb (z_dec dX11_discard 6 rfl) (by decide) (fun c2 => ?_) (fun c2 => ?_)
  · refine zz_iconst (v := (0 : Int32)) hb (z_dec dX11_discard 9 rfl) (by decide) ?_
    exact (k3 c2)
  · refine zz_iconst (v := (1 : Int32)) hb (z_dec dX11_discard 7 rfl) (by decide) ?_
    refine zz_goto (tgt := 16) hb (z_dec dX11_discard 8 rfl) (by decide) ?_
    exact (k4 c2)
set_option maxRecDepth 20000 in
theorem bX11_discard_16 {K : zK} {P : Option Value → zM → Prop} {X : String → zM → Prop} (hK : zIs K RX11 cX11_discard 3 (some .int) 3 (0, 0) P X) (hw : wOK (kw K)) {I : zM} (t0 : isT (kw K) 11 312) {v1 : Int32} {v2 : Int32} (ts0 : isT (kw K) 11 312) {vs1 : Int32} (k2 : ∀ (c1 : v2 = 0), ZZ K (0, 0) 32 [(0, .ref 312), (1, .int v1), (2, .int v2)] [.int vs1, .ref 312] I) {f3 : Int32} {g3 : zM} (m3 : ∀ (c1 : ¬ v2 = 0), CT (kG K) (kw K) (kl K) (yX11_isOpen, cX11_isOpen, 2, (some .boolean)) 2 (0, 0) [.ref 312, .int v1] I (qE f3 g3) nX) (k5 : ∀ (c1 : ¬ v2 = 0) (c4 : ¬ f3 = 0), ZZ K (0, 0) 32 [(0, .ref 312), (1, .int v1), (2, .int v2)] [.int vs1, .ref 312] g3) (k6 : ∀ (c1 : ¬ v2 = 0) (c4 : f3 = 0), ZZ K (0, 0) 33 [(0, .ref 312), (1, .int v1), (2, .int v2)] [.int (1 : Int32), .int vs1, .ref 312] g3) : ZZ K (0, 0) 16 [(0, .ref 312), (1, .int v1), (2, .int v2)] [.int vs1, .ref 312] I := by
  obtain ⟨hb, ho, hnl, hR, hE⟩ := hK
  refine zz_iload_n hb (z_dec dX11_discard 10 rfl) rfl 2 rfl ?_
  refine zz_if_eq (tgt := 32) hb (z_dec dX11_discard 11 rfl) (by decide) (fun c1 => ?_) (fun c1 => ?_)
  · exact (k2 c1)
  · refine zz_aload_n hb (z_dec dX11_discard 12 rfl) rfl 0 rfl ?_
    refine zz_iload_n hb (z_dec dX11_discard 13 rfl) rfl 1 rfl ?_
    refine zz_inv (as := [.int v1]) (d := 2) (mc := (0, 0)) (P := (qE f3 g3)) (X := nX) hb ho hnl hR hE mkX11_isOpen rfl ckX11 t0 rfl ⟨Nat.le_refl 0, Nat.le_refl 0⟩ rfl (rX11_discard 3 rfl) (rX11_discard 4 rfl) (rX11_discard 5 rfl) rfl (z_dec dX11_discard 14 rfl) (m3 c1) (fun v J3 hp => ?_) (fun _ _ h => h.elim)
    obtain ⟨r3, rfl, e3, w3⟩ := hp
    have e3 := e3.symm
    subst e3
    have w3 := w3.symm
    subst w3
    show ZZ K (0, 0) 25 [(0, .ref 312), (1, .int v1), (2, .int v2)] [.int f3, .int vs1, .ref 312] g3
    refine zz_if_ne (tgt := 32) hb (z_dec dX11_discard 15 rfl) (by decide) (fun c4 => ?_) (fun c4 => ?_)
    · exact (k5 c1 c4)
    · refine zz_iconst (v := (1 : Int32)) hb (z_dec dX11_discard 16 rfl) (by decide) ?_
      refine zz_goto (tgt := 33) hb (z_dec dX11_discard 17 rfl) (by decide) ?_
      exact (k6 c1 c4)
set_option maxRecDepth 20000 in
theorem bX11_discard_32 {K : zK} {P : Option Value → zM → Prop} {X : String → zM → Prop} (hK : zIs K RX11 cX11_discard 3 (some .int) 3 (0, 0) P X) (hw : wOK (kw K)) {I : zM} (t0 : isT (kw K) 11 312) {v1 : Int32} {v2 : Int32} (ts0 : isT (kw K) 11 312) {vs1 : Int32} (k1 : ZZ K (0, 0) 33 [(0, .ref 312), (1, .int v1), (2, .int v2)] [.int (0 : Int32), .int vs1, .ref 312] I) : ZZ K (0, 0) 32 [(0, .ref 312), (1, .int v1), (2, .int v2)] [.int vs1, .ref 312] I := by
  obtain ⟨hb, ho, hnl, hR, hE⟩ := hK
  refine zz_iconst (v := (0 : Int32)) hb (z_dec dX11_discard 18 rfl) (by decide) ?_
  exact k1
set_option maxRecDepth 20000 in
theorem bX11_discard_33 {K : zK} {P : Option Value → zM → Prop} {X : String → zM → Prop} (hK : zIs K RX11 cX11_discard 3 (some .int) 3 (0, 0) P X) (hw : wOK (kw K)) {I : zM} (t0 : isT (kw K) 11 312) {v1 : Int32} {v2 : Int32} (ts0 : isT (kw K) 11 312) {vs1 : Int32} {vs2 : Int32} {f1 : Int32} {g1 : zM} (m1 : CT (kG K) (kw K) (kl K) (yX11_fails, cX11_fails, 4, (some .boolean)) 0 (0, 0) [.ref 312, .int vs1, .int vs2, .int (0 : Int32)] I (qE f1 g1) nX) {g3 : zM} (m3 : ∀ (c2 : f1 = 0), CT (kG K) (kw K) (kl K) (yX11_remember, cX11_remember, 3, none) 1 (0, 0) [.ref 312, .int (0 : Int32)] g1 (qV (fun J => J = g3)) nX) {f4 : Int32} {g4 : zM} (m4 : ∀ (c2 : f1 = 0), CT (kG K) (kw K) (kl K) (yX11_throwAway, cX11_throwAway, 3, (some .int)) 1 (0, 0) [.ref 312, .int v1] g3 (qE f4 g4) nX) (h5 : ∀ (c2 : f1 = 0), P (some (.int f4)) g4) (h6 : ∀ (c2 : ¬ f1 = 0), P (some (.int (0 : Int32))) g1) : ZZ K (0, 0) 33 [(0, .ref 312), (1, .int v1), (2, .int v2)] [.int vs2, .int vs1, .ref 312] I := by
  obtain ⟨hb, ho, hnl, hR, hE⟩ := hK
  refine zz_iconst (v := (0 : Int32)) hb (z_dec dX11_discard 19 rfl) (by decide) ?_
  refine zz_inv (as := [.int vs1, .int vs2, .int (0 : Int32)]) (d := 0) (mc := (0, 0)) (P := (qE f1 g1)) (X := nX) hb ho hnl hR hE mkX11_fails rfl ckX11 ts0 rfl ⟨Nat.le_refl 0, Nat.le_refl 0⟩ rfl (rX11_discard 6 rfl) (rX11_discard 7 rfl) (rX11_discard 8 rfl) rfl (z_dec dX11_discard 20 rfl) m1 (fun v J1 hp => ?_) (fun _ _ h => h.elim)
  obtain ⟨r1, rfl, e1, w1⟩ := hp
  have e1 := e1.symm
  subst e1
  have w1 := w1.symm
  subst w1
  show ZZ K (0, 0) 37 [(0, .ref 312), (1, .int v1), (2, .int v2)] [.int f1] g1
  refine zz_if_eq (tgt := 42) hb (z_dec dX11_discard 21 rfl) (by decide) (fun c2 => ?_) (fun c2 => ?_)
  · refine zz_aload_n hb (z_dec dX11_discard 24 rfl) rfl 0 rfl ?_
    refine zz_iconst (v := (0 : Int32)) hb (z_dec dX11_discard 25 rfl) (by decide) ?_
    refine zz_inv (as := [.int (0 : Int32)]) (d := 1) (mc := (0, 0)) (P := (qV (fun J => J = g3))) (X := nX) hb ho hnl hR hE mkX11_remember rfl ckX11 t0 rfl ⟨Nat.le_refl 0, Nat.le_refl 0⟩ rfl (rX11_discard 9 rfl) (rX11_discard 10 rfl) (rX11_discard 11 rfl) rfl (z_dec dX11_discard 26 rfl) (m3 c2) (fun v J3 hp => ?_) (fun _ _ h => h.elim)
    obtain ⟨rfl, w3⟩ := hp
    have w3 := w3.symm
    subst w3
    show ZZ K (0, 0) 47 [(0, .ref 312), (1, .int v1), (2, .int v2)] [] g3
    refine zz_aload_n hb (z_dec dX11_discard 27 rfl) rfl 0 rfl ?_
    refine zz_iload_n hb (z_dec dX11_discard 28 rfl) rfl 1 rfl ?_
    refine zz_inv (as := [.int v1]) (d := 1) (mc := (0, 0)) (P := (qE f4 g4)) (X := nX) hb ho hnl hR hE mkX11_throwAway rfl ckX11 t0 rfl ⟨Nat.le_refl 0, Nat.le_refl 0⟩ rfl (rX11_discard 12 rfl) (rX11_discard 13 rfl) (rX11_discard 14 rfl) rfl (z_dec dX11_discard 29 rfl) (m4 c2) (fun v J4 hp => ?_) (fun _ _ h => h.elim)
    obtain ⟨r4, rfl, e4, w4⟩ := hp
    have e4 := e4.symm
    subst e4
    have w4 := w4.symm
    subst w4
    show ZZ K (0, 0) 52 [(0, .ref 312), (1, .int v1), (2, .int v2)] [.int f4] g4
    exact zz_iret hb hE ⟨Nat.le_refl 0, Nat.le_refl 0⟩ (z_dec dX11_discard 30 rfl) (h5 c2)
  · refine zz_iconst (v := (0 : Int32)) hb (z_dec dX11_discard 22 rfl) (by decide) ?_
    exact zz_iret hb hE ⟨Nat.le_refl 0, Nat.le_refl 0⟩ (z_dec dX11_discard 23 rfl) (h6 c2)
set_option maxRecDepth 20000 in
theorem bX11_undo_0 {K : zK} {P : Option Value → zM → Prop} {X : String → zM → Prop} (hK : zIs K RX11 cX11_undo 1 (some .int) 1 (0, 0) P X) (hw : wOK (kw K)) {I : zM} (t0 : isT (kw K) 11 312) (k2 : ∀ (c1 : ¬ (I 312 2) = 0), ZZ K (0, 0) 13 [(0, .ref 312)] [.int (0 : Int32), .ref 312] I) (k3 : ∀ (c1 : (I 312 2) = 0), ZZ K (0, 0) 13 [(0, .ref 312)] [.int (1 : Int32), .ref 312] I) : ZZ K (0, 0) 0 [(0, .ref 312)] [] I := by
  obtain ⟨hb, ho, hnl, hR, hE⟩ := hK
  refine zz_aload_n hb (z_dec dX11_undo 0 rfl) rfl 0 rfl ?_
  refine zz_aload_n hb (z_dec dX11_undo 1 rfl) rfl 0 rfl ?_
  refine zz_get (k := 2) hb ho ckX11 t0 rfl rfl (rX11_undo 0 rfl) rfl (z_dec dX11_undo 2 rfl) ?_
  refine zz_if_ne (tgt := 12) hb (z_dec dX11_undo 3 rfl) (by decide) (fun c1 => ?_) (fun c1 => ?_)
  · refine zz_iconst (v := (0 : Int32)) hb (z_dec dX11_undo 6 rfl) (by decide) ?_
    exact (k2 c1)
  · refine zz_iconst (v := (1 : Int32)) hb (z_dec dX11_undo 4 rfl) (by decide) ?_
    refine zz_goto (tgt := 13) hb (z_dec dX11_undo 5 rfl) (by decide) ?_
    exact (k3 c1)
set_option maxRecDepth 20000 in
theorem bX11_undo_13 {K : zK} {P : Option Value → zM → Prop} {X : String → zM → Prop} (hK : zIs K RX11 cX11_undo 1 (some .int) 1 (0, 0) P X) (hw : wOK (kw K)) {I : zM} (t0 : isT (kw K) 11 312) (ts0 : isT (kw K) 11 312) {vs1 : Int32} {f1 : Int32} {g1 : zM} (m1 : CT (kG K) (kw K) (kl K) (yX11_fails, cX11_fails, 4, (some .boolean)) 0 (0, 0) [.ref 312, .int vs1, .int (0 : Int32), .int (0 : Int32)] I (qE f1 g1) nX) {g3 : zM} (m3 : ∀ (c2 : f1 = 0), CT (kG K) (kw K) (kl K) (yX11_copyBlock, cX11_copyBlock, 4, none) 0 (0, 0) [.ref 312, .int (g1 312 2), .int (0 : Int32)] g1 (qV (fun J => J = g3)) nX) (h4 : ∀ (c2 : f1 = 0), P (some (.int ((up g3 312 2 ((g3 312 2) - (1 : Int32))) 312 2))) (up g3 312 2 ((g3 312 2) - (1 : Int32)))) (h5 : ∀ (c2 : ¬ f1 = 0), P (some (.int (0 : Int32))) g1) : ZZ K (0, 0) 13 [(0, .ref 312)] [.int vs1, .ref 312] I := by
  obtain ⟨hb, ho, hnl, hR, hE⟩ := hK
  refine zz_iconst (v := (0 : Int32)) hb (z_dec dX11_undo 7 rfl) (by decide) ?_
  refine zz_iconst (v := (0 : Int32)) hb (z_dec dX11_undo 8 rfl) (by decide) ?_
  refine zz_inv (as := [.int vs1, .int (0 : Int32), .int (0 : Int32)]) (d := 0) (mc := (0, 0)) (P := (qE f1 g1)) (X := nX) hb ho hnl hR hE mkX11_fails rfl ckX11 ts0 rfl ⟨Nat.le_refl 0, Nat.le_refl 0⟩ rfl (rX11_undo 1 rfl) (rX11_undo 2 rfl) (rX11_undo 3 rfl) rfl (z_dec dX11_undo 9 rfl) m1 (fun v J1 hp => ?_) (fun _ _ h => h.elim)
  obtain ⟨r1, rfl, e1, w1⟩ := hp
  have e1 := e1.symm
  subst e1
  have w1 := w1.symm
  subst w1
  show ZZ K (0, 0) 18 [(0, .ref 312)] [.int f1] g1
  refine zz_if_eq (tgt := 23) hb (z_dec dX11_undo 10 rfl) (by decide) (fun c2 => ?_) (fun c2 => ?_)
  · refine zz_aload_n hb (z_dec dX11_undo 13 rfl) rfl 0 rfl ?_
    refine zz_aload_n hb (z_dec dX11_undo 14 rfl) rfl 0 rfl ?_
    refine zz_get (k := 2) hb ho ckX11 t0 rfl rfl (rX11_undo 0 rfl) rfl (z_dec dX11_undo 15 rfl) ?_
    refine zz_iconst (v := (0 : Int32)) hb (z_dec dX11_undo 16 rfl) (by decide) ?_
    refine zz_inv (as := [.int (g1 312 2), .int (0 : Int32)]) (d := 0) (mc := (0, 0)) (P := (qV (fun J => J = g3))) (X := nX) hb ho hnl hR hE mkX11_copyBlock rfl ckX11 t0 rfl ⟨Nat.le_refl 0, Nat.le_refl 0⟩ rfl (rX11_undo 4 rfl) (rX11_undo 5 rfl) (rX11_undo 6 rfl) rfl (z_dec dX11_undo 17 rfl) (m3 c2) (fun v J3 hp => ?_) (fun _ _ h => h.elim)
    obtain ⟨rfl, w3⟩ := hp
    have w3 := w3.symm
    subst w3
    show ZZ K (0, 0) 32 [(0, .ref 312)] [] g3
    refine zz_aload_n hb (z_dec dX11_undo 18 rfl) rfl 0 rfl ?_
    refine zz_dup hb (z_dec dX11_undo 19 rfl) rfl ?_
    refine zz_get (k := 2) hb ho ckX11 t0 rfl rfl (rX11_undo 0 rfl) rfl (z_dec dX11_undo 20 rfl) ?_
    refine zz_iconst (v := (1 : Int32)) hb (z_dec dX11_undo 21 rfl) (by decide) ?_
    refine zz_isub hb (z_dec dX11_undo 22 rfl) ?_
    refine zz_put (k := 2) hb ho ckX11 t0 rfl rfl (rX11_undo 0 rfl) rfl rfl rfl (z_dec dX11_undo 23 rfl) ?_
    refine zz_aload_n hb (z_dec dX11_undo 24 rfl) rfl 0 rfl ?_
    refine zz_get (k := 2) hb ho ckX11 t0 rfl rfl (rX11_undo 0 rfl) rfl (z_dec dX11_undo 25 rfl) ?_
    exact zz_iret hb hE ⟨Nat.le_refl 0, Nat.le_refl 0⟩ (z_dec dX11_undo 26 rfl) (h4 c2)
  · refine zz_iconst (v := (0 : Int32)) hb (z_dec dX11_undo 11 rfl) (by decide) ?_
    exact zz_iret hb hE ⟨Nat.le_refl 0, Nat.le_refl 0⟩ (z_dec dX11_undo 12 rfl) (h5 c2)
set_option maxRecDepth 20000 in
theorem bX11_save_0 {K : zK} {P : Option Value → zM → Prop} {X : String → zM → Prop} (hK : zIs K RX11 cX11_save 2 (some .int) 1 (0, 0) P X) (hw : wOK (kw K)) {I : zM} (t0 : isT (kw K) 11 312) {v1 : Int32} {f1 : Int32} {g1 : zM} (m1 : CT (kG K) (kw K) (kl K) (yX11_in, cX11_in, 3, (some .boolean)) 0 (0, 0) [.int v1, .int (0 : Int32), .int (1 : Int32)] I (qE f1 g1) nX) (k3 : ∀ (c2 : ¬ f1 = 0), ZZ K (0, 0) 15 [(0, .ref 312), (1, .int v1)] [.int (0 : Int32), .ref 312] g1) (k4 : ∀ (c2 : f1 = 0), ZZ K (0, 0) 15 [(0, .ref 312), (1, .int v1)] [.int (1 : Int32), .ref 312] g1) : ZZ K (0, 0) 0 [(0, .ref 312), (1, .int v1)] [] I := by
  obtain ⟨hb, ho, hnl, hR, hE⟩ := hK
  refine zz_aload_n hb (z_dec dX11_save 0 rfl) rfl 0 rfl ?_
  refine zz_iload_n hb (z_dec dX11_save 1 rfl) rfl 1 rfl ?_
  refine zz_iconst (v := (0 : Int32)) hb (z_dec dX11_save 2 rfl) (by decide) ?_
  refine zz_iconst (v := (1 : Int32)) hb (z_dec dX11_save 3 rfl) (by decide) ?_
  refine zz_invS (as := [.int v1, .int (0 : Int32), .int (1 : Int32)]) (d := 0) (mc := (0, 0)) (P := (qE f1 g1)) (X := nX) hb ho hnl hR hE mkX11_in rfl rfl ⟨Nat.le_refl 0, Nat.le_refl 0⟩ rfl (rX11_save 0 rfl) (rX11_save 1 rfl) rfl (z_dec dX11_save 4 rfl) m1 (fun v J1 hp => ?_) (fun _ _ h => h.elim)
  obtain ⟨r1, rfl, e1, w1⟩ := hp
  have e1 := e1.symm
  subst e1
  have w1 := w1.symm
  subst w1
  show ZZ K (0, 0) 7 [(0, .ref 312), (1, .int v1)] [.int f1, .ref 312] g1
  refine zz_if_ne (tgt := 14) hb (z_dec dX11_save 5 rfl) (by decide) (fun c2 => ?_) (fun c2 => ?_)
  · refine zz_iconst (v := (0 : Int32)) hb (z_dec dX11_save 8 rfl) (by decide) ?_
    exact (k3 c2)
  · refine zz_iconst (v := (1 : Int32)) hb (z_dec dX11_save 6 rfl) (by decide) ?_
    refine zz_goto (tgt := 15) hb (z_dec dX11_save 7 rfl) (by decide) ?_
    exact (k4 c2)
set_option maxRecDepth 20000 in
theorem bX11_save_15 {K : zK} {P : Option Value → zM → Prop} {X : String → zM → Prop} (hK : zIs K RX11 cX11_save 2 (some .int) 1 (0, 0) P X) (hw : wOK (kw K)) {I : zM} (t0 : isT (kw K) 11 312) {v1 : Int32} (ts0 : isT (kw K) 11 312) {vs1 : Int32} {f1 : Int32} {g1 : zM} (m1 : CT (kG K) (kw K) (kl K) (yX11_fails, cX11_fails, 4, (some .boolean)) 0 (0, 0) [.ref 312, .int vs1, .int (0 : Int32), .int (0 : Int32)] I (qE f1 g1) nX) {g3 : zM} (m3 : ∀ (c2 : f1 = 0), CT (kG K) (kw K) (kl K) (yX11_copyBlock, cX11_copyBlock, 4, none) 0 (0, 0) [.ref 312, .int (0 : Int32), .int ((7 : Int32) + v1)] g1 (qV (fun J => J = g3)) nX) (h4 : ∀ (c2 : f1 = 0), vp_in v1 2) (h5 : ∀ (c2 : f1 = 0), P (some (.int ((up g3 314 (v1.toNatClampNeg) (vp_nar .boolean (1 : Int32))) 313 9))) (up g3 314 (v1.toNatClampNeg) (vp_nar .boolean (1 : Int32)))) (h6 : ∀ (c2 : ¬ f1 = 0), P (some (.int (0 : Int32))) g1) : ZZ K (0, 0) 15 [(0, .ref 312), (1, .int v1)] [.int vs1, .ref 312] I := by
  obtain ⟨hb, ho, hnl, hR, hE⟩ := hK
  refine zz_iconst (v := (0 : Int32)) hb (z_dec dX11_save 9 rfl) (by decide) ?_
  refine zz_iconst (v := (0 : Int32)) hb (z_dec dX11_save 10 rfl) (by decide) ?_
  refine zz_inv (as := [.int vs1, .int (0 : Int32), .int (0 : Int32)]) (d := 0) (mc := (0, 0)) (P := (qE f1 g1)) (X := nX) hb ho hnl hR hE mkX11_fails rfl ckX11 ts0 rfl ⟨Nat.le_refl 0, Nat.le_refl 0⟩ rfl (rX11_save 2 rfl) (rX11_save 3 rfl) (rX11_save 4 rfl) rfl (z_dec dX11_save 11 rfl) m1 (fun v J1 hp => ?_) (fun _ _ h => h.elim)
  obtain ⟨r1, rfl, e1, w1⟩ := hp
  have e1 := e1.symm
  subst e1
  have w1 := w1.symm
  subst w1
  show ZZ K (0, 0) 20 [(0, .ref 312), (1, .int v1)] [.int f1] g1
  refine zz_if_eq (tgt := 25) hb (z_dec dX11_save 12 rfl) (by decide) (fun c2 => ?_) (fun c2 => ?_)
  · refine zz_aload_n hb (z_dec dX11_save 15 rfl) rfl 0 rfl ?_
    refine zz_iconst (v := (0 : Int32)) hb (z_dec dX11_save 16 rfl) (by decide) ?_
    refine zz_bipush (v := (7 : Int32)) hb (z_dec dX11_save 17 rfl) (by decide) ?_
    refine zz_iload_n hb (z_dec dX11_save 18 rfl) rfl 1 rfl ?_
    refine zz_iadd hb (z_dec dX11_save 19 rfl) ?_
    refine zz_inv (as := [.int (0 : Int32), .int ((7 : Int32) + v1)]) (d := 0) (mc := (0, 0)) (P := (qV (fun J => J = g3))) (X := nX) hb ho hnl hR hE mkX11_copyBlock rfl ckX11 t0 rfl ⟨Nat.le_refl 0, Nat.le_refl 0⟩ rfl (rX11_save 5 rfl) (rX11_save 6 rfl) (rX11_save 7 rfl) rfl (z_dec dX11_save 20 rfl) (m3 c2) (fun v J3 hp => ?_) (fun _ _ h => h.elim)
    obtain ⟨rfl, w3⟩ := hp
    have w3 := w3.symm
    subst w3
    show ZZ K (0, 0) 34 [(0, .ref 312), (1, .int v1)] [] g3
    refine zz_aload_n hb (z_dec dX11_save 21 rfl) rfl 0 rfl ?_
    refine zz_getr (k := 1) (q := 314) hb ho rfl ckX11 t0 rfl rfl (rX11_save 8 rfl) rfl (z_dec dX11_save 22 rfl) ?_
    refine zz_iload_n hb (z_dec dX11_save 23 rfl) rfl 1 rfl ?_
    refine zz_iconst (v := (1 : Int32)) hb (z_dec dX11_save 24 rfl) (by decide) ?_
    refine zz_zast (j := v1.toNatClampNeg) hb (show isT (kw K) 22 314 from isT.f (k := 1) t0 hw rfl rfl rfl (by decide)) rfl (zvi rfl (h4 c2)) (z_dec dX11_save 25 rfl) ?_
    refine zz_aload_n hb (z_dec dX11_save 26 rfl) rfl 0 rfl ?_
    refine zz_getr (k := 0) (q := 313) hb ho rfl ckX11 t0 rfl rfl (rX11_save 9 rfl) rfl (z_dec dX11_save 27 rfl) ?_
    refine zz_bipush (v := (9 : Int32)) hb (z_dec dX11_save 28 rfl) (by decide) ?_
    refine zz_iald (j := 9) hb (show isT (kw K) 20 313 from isT.f (k := 0) t0 hw rfl rfl rfl (by decide)) rfl (zvi rfl (zin rfl)) (z_dec dX11_save 29 rfl) ?_
    exact zz_iret hb hE ⟨Nat.le_refl 0, Nat.le_refl 0⟩ (z_dec dX11_save 30 rfl) (h5 c2)
  · refine zz_iconst (v := (0 : Int32)) hb (z_dec dX11_save 13 rfl) (by decide) ?_
    exact zz_iret hb hE ⟨Nat.le_refl 0, Nat.le_refl 0⟩ (z_dec dX11_save 14 rfl) (h6 c2)
set_option maxRecDepth 20000 in
theorem bX11_restore_0 {K : zK} {P : Option Value → zM → Prop} {X : String → zM → Prop} (hK : zIs K RX11 cX11_restore 3 (some .int) 1 (0, 0) P X) (hw : wOK (kw K)) {I : zM} (t0 : isT (kw K) 11 312) {v1 : Int32} {f1 : Int32} {g1 : zM} (m1 : CT (kG K) (kw K) (kl K) (yX11_in, cX11_in, 3, (some .boolean)) 0 (0, 0) [.int v1, .int (0 : Int32), .int (1 : Int32)] I (qE f1 g1) nX) (k3 : ∀ (c2 : ¬ f1 = 0), ZZ K (0, 0) 17 [(0, .ref 312), (1, .int v1), (2, .int f1)] [.int (0 : Int32), .ref 312] g1) (k4 : ∀ (c2 : f1 = 0), ZZ K (0, 0) 17 [(0, .ref 312), (1, .int v1), (2, .int f1)] [.int (1 : Int32), .ref 312] g1) : ZZ K (0, 0) 0 [(0, .ref 312), (1, .int v1)] [] I := by
  obtain ⟨hb, ho, hnl, hR, hE⟩ := hK
  refine zz_iload_n hb (z_dec dX11_restore 0 rfl) rfl 1 rfl ?_
  refine zz_iconst (v := (0 : Int32)) hb (z_dec dX11_restore 1 rfl) (by decide) ?_
  refine zz_iconst (v := (1 : Int32)) hb (z_dec dX11_restore 2 rfl) (by decide) ?_
  refine zz_invS (as := [.int v1, .int (0 : Int32), .int (1 : Int32)]) (d := 0) (mc := (0, 0)) (P := (qE f1 g1)) (X := nX) hb ho hnl hR hE mkX11_in rfl rfl ⟨Nat.le_refl 0, Nat.le_refl 0⟩ rfl (rX11_restore 0 rfl) (rX11_restore 1 rfl) rfl (z_dec dX11_restore 3 rfl) m1 (fun v J1 hp => ?_) (fun _ _ h => h.elim)
  obtain ⟨r1, rfl, e1, w1⟩ := hp
  have e1 := e1.symm
  subst e1
  have w1 := w1.symm
  subst w1
  show ZZ K (0, 0) 6 [(0, .ref 312), (1, .int v1)] [.int f1] g1
  refine zz_istore_n (L' := [(0, .ref 312), (1, .int v1), (2, .int f1)]) hb (z_dec dX11_restore 4 rfl) rfl hnl rfl [1, 2, 0] rfl ?_
  refine zz_aload_n hb (z_dec dX11_restore 5 rfl) rfl 0 rfl ?_
  refine zz_iload_n hb (z_dec dX11_restore 6 rfl) rfl 2 rfl ?_
  refine zz_if_ne (tgt := 16) hb (z_dec dX11_restore 7 rfl) (by decide) (fun c2 => ?_) (fun c2 => ?_)
  · refine zz_iconst (v := (0 : Int32)) hb (z_dec dX11_restore 10 rfl) (by decide) ?_
    exact (k3 c2)
  · refine zz_iconst (v := (1 : Int32)) hb (z_dec dX11_restore 8 rfl) (by decide) ?_
    refine zz_goto (tgt := 17) hb (z_dec dX11_restore 9 rfl) (by decide) ?_
    exact (k4 c2)
set_option maxRecDepth 20000 in
theorem bX11_restore_17 {K : zK} {P : Option Value → zM → Prop} {X : String → zM → Prop} (hK : zIs K RX11 cX11_restore 3 (some .int) 1 (0, 0) P X) (hw : wOK (kw K)) {I : zM} (t0 : isT (kw K) 11 312) {v1 : Int32} {v2 : Int32} (ts0 : isT (kw K) 11 312) {vs1 : Int32} (k2 : ∀ (c1 : v2 = 0), ZZ K (0, 0) 34 [(0, .ref 312), (1, .int v1), (2, .int v2)] [.int vs1, .ref 312] I) (h3 : ∀ (c1 : ¬ v2 = 0), vp_in v1 2) (k5 : ∀ (c1 : ¬ v2 = 0) (c4 : ¬ (I 314 v1.toNatClampNeg) = 0), ZZ K (0, 0) 34 [(0, .ref 312), (1, .int v1), (2, .int v2)] [.int vs1, .ref 312] I) (k6 : ∀ (c1 : ¬ v2 = 0) (c4 : (I 314 v1.toNatClampNeg) = 0), ZZ K (0, 0) 35 [(0, .ref 312), (1, .int v1), (2, .int v2)] [.int (1 : Int32), .int vs1, .ref 312] I) : ZZ K (0, 0) 17 [(0, .ref 312), (1, .int v1), (2, .int v2)] [.int vs1, .ref 312] I := by
  obtain ⟨hb, ho, hnl, hR, hE⟩ := hK
  refine zz_iload_n hb (z_dec dX11_restore 11 rfl) rfl 2 rfl ?_
  refine zz_if_eq (tgt := 34) hb (z_dec dX11_restore 12 rfl) (by decide) (fun c1 => ?_) (fun c1 => ?_)
  · exact (k2 c1)
  · refine zz_aload_n hb (z_dec dX11_restore 13 rfl) rfl 0 rfl ?_
    refine zz_getr (k := 1) (q := 314) hb ho rfl ckX11 t0 rfl rfl (rX11_restore 2 rfl) rfl (z_dec dX11_restore 14 rfl) ?_
    refine zz_iload_n hb (z_dec dX11_restore 15 rfl) rfl 1 rfl ?_
    refine zz_zald (j := v1.toNatClampNeg) hb (show isT (kw K) 22 314 from isT.f (k := 1) t0 hw rfl rfl rfl (by decide)) rfl (zvi rfl (h3 c1)) (z_dec dX11_restore 16 rfl) ?_
    refine zz_if_ne (tgt := 34) hb (z_dec dX11_restore 17 rfl) (by decide) (fun c4 => ?_) (fun c4 => ?_)
    · exact (k5 c1 c4)
    · refine zz_iconst (v := (1 : Int32)) hb (z_dec dX11_restore 18 rfl) (by decide) ?_
      refine zz_goto (tgt := 35) hb (z_dec dX11_restore 19 rfl) (by decide) ?_
      exact (k6 c1 c4)
set_option maxRecDepth 20000 in
theorem bX11_restore_34 {K : zK} {P : Option Value → zM → Prop} {X : String → zM → Prop} (hK : zIs K RX11 cX11_restore 3 (some .int) 1 (0, 0) P X) (hw : wOK (kw K)) {I : zM} (t0 : isT (kw K) 11 312) {v1 : Int32} {v2 : Int32} (ts0 : isT (kw K) 11 312) {vs1 : Int32} (k1 : ZZ K (0, 0) 35 [(0, .ref 312), (1, .int v1), (2, .int v2)] [.int (0 : Int32), .int vs1, .ref 312] I) : ZZ K (0, 0) 34 [(0, .ref 312), (1, .int v1), (2, .int v2)] [.int vs1, .ref 312] I := by
  obtain ⟨hb, ho, hnl, hR, hE⟩ := hK
  refine zz_iconst (v := (0 : Int32)) hb (z_dec dX11_restore 20 rfl) (by decide) ?_
  exact k1
set_option maxRecDepth 20000 in
theorem bX11_restore_35 {K : zK} {P : Option Value → zM → Prop} {X : String → zM → Prop} (hK : zIs K RX11 cX11_restore 3 (some .int) 1 (0, 0) P X) (hw : wOK (kw K)) {I : zM} (t0 : isT (kw K) 11 312) {v1 : Int32} {v2 : Int32} (ts0 : isT (kw K) 11 312) {vs1 : Int32} {vs2 : Int32} {f1 : Int32} {g1 : zM} (m1 : CT (kG K) (kw K) (kl K) (yX11_fails, cX11_fails, 4, (some .boolean)) 0 (0, 0) [.ref 312, .int vs1, .int vs2, .int (0 : Int32)] I (qE f1 g1) nX) {g3 : zM} (m3 : ∀ (c2 : f1 = 0), CT (kG K) (kw K) (kl K) (yX11_copyBlock, cX11_copyBlock, 4, none) 0 (0, 0) [.ref 312, .int ((7 : Int32) + v1), .int (0 : Int32)] g1 (qV (fun J => J = g3)) nX) (h4 : ∀ (c2 : f1 = 0), P (some (.int ((up g3 312 2 (0 : Int32)) 313 9))) (up g3 312 2 (0 : Int32))) (h5 : ∀ (c2 : ¬ f1 = 0), P (some (.int (0 : Int32))) g1) : ZZ K (0, 0) 35 [(0, .ref 312), (1, .int v1), (2, .int v2)] [.int vs2, .int vs1, .ref 312] I := by
  obtain ⟨hb, ho, hnl, hR, hE⟩ := hK
  refine zz_iconst (v := (0 : Int32)) hb (z_dec dX11_restore 21 rfl) (by decide) ?_
  refine zz_inv (as := [.int vs1, .int vs2, .int (0 : Int32)]) (d := 0) (mc := (0, 0)) (P := (qE f1 g1)) (X := nX) hb ho hnl hR hE mkX11_fails rfl ckX11 ts0 rfl ⟨Nat.le_refl 0, Nat.le_refl 0⟩ rfl (rX11_restore 3 rfl) (rX11_restore 4 rfl) (rX11_restore 5 rfl) rfl (z_dec dX11_restore 22 rfl) m1 (fun v J1 hp => ?_) (fun _ _ h => h.elim)
  obtain ⟨r1, rfl, e1, w1⟩ := hp
  have e1 := e1.symm
  subst e1
  have w1 := w1.symm
  subst w1
  show ZZ K (0, 0) 39 [(0, .ref 312), (1, .int v1), (2, .int v2)] [.int f1] g1
  refine zz_if_eq (tgt := 44) hb (z_dec dX11_restore 23 rfl) (by decide) (fun c2 => ?_) (fun c2 => ?_)
  · refine zz_aload_n hb (z_dec dX11_restore 26 rfl) rfl 0 rfl ?_
    refine zz_bipush (v := (7 : Int32)) hb (z_dec dX11_restore 27 rfl) (by decide) ?_
    refine zz_iload_n hb (z_dec dX11_restore 28 rfl) rfl 1 rfl ?_
    refine zz_iadd hb (z_dec dX11_restore 29 rfl) ?_
    refine zz_iconst (v := (0 : Int32)) hb (z_dec dX11_restore 30 rfl) (by decide) ?_
    refine zz_inv (as := [.int ((7 : Int32) + v1), .int (0 : Int32)]) (d := 0) (mc := (0, 0)) (P := (qV (fun J => J = g3))) (X := nX) hb ho hnl hR hE mkX11_copyBlock rfl ckX11 t0 rfl ⟨Nat.le_refl 0, Nat.le_refl 0⟩ rfl (rX11_restore 6 rfl) (rX11_restore 7 rfl) (rX11_restore 8 rfl) rfl (z_dec dX11_restore 31 rfl) (m3 c2) (fun v J3 hp => ?_) (fun _ _ h => h.elim)
    obtain ⟨rfl, w3⟩ := hp
    have w3 := w3.symm
    subst w3
    show ZZ K (0, 0) 53 [(0, .ref 312), (1, .int v1), (2, .int v2)] [] g3
    refine zz_aload_n hb (z_dec dX11_restore 32 rfl) rfl 0 rfl ?_
    refine zz_iconst (v := (0 : Int32)) hb (z_dec dX11_restore 33 rfl) (by decide) ?_
    refine zz_put (k := 2) hb ho ckX11 t0 rfl rfl (rX11_restore 9 rfl) rfl rfl rfl (z_dec dX11_restore 34 rfl) ?_
    refine zz_aload_n hb (z_dec dX11_restore 35 rfl) rfl 0 rfl ?_
    refine zz_getr (k := 0) (q := 313) hb ho rfl ckX11 t0 rfl rfl (rX11_restore 10 rfl) rfl (z_dec dX11_restore 36 rfl) ?_
    refine zz_bipush (v := (9 : Int32)) hb (z_dec dX11_restore 37 rfl) (by decide) ?_
    refine zz_iald (j := 9) hb (show isT (kw K) 20 313 from isT.f (k := 0) t0 hw rfl rfl rfl (by decide)) rfl (zvi rfl (zin rfl)) (z_dec dX11_restore 38 rfl) ?_
    exact zz_iret hb hE ⟨Nat.le_refl 0, Nat.le_refl 0⟩ (z_dec dX11_restore 39 rfl) (h4 c2)
  · refine zz_iconst (v := (0 : Int32)) hb (z_dec dX11_restore 24 rfl) (by decide) ?_
    exact zz_iret hb hE ⟨Nat.le_refl 0, Nat.le_refl 0⟩ (z_dec dX11_restore 25 rfl) (h5 c2)
set_option maxRecDepth 20000 in
theorem bX11_put_0 {K : zK} {P : Option Value → zM → Prop} {X : String → zM → Prop} (hK : zIs K RX11 cX11_put 2 none 0 (0, 0) P X) (hw : wOK (kw K)) {I : zM} (t0 : isT (kw K) 11 312) {v1 : Int32} (h1 : vp_in (I 312 8) 150) (h2 : P none (up (up I 316 ((I 312 8).toNatClampNeg) v1) 312 8 (((up I 316 ((I 312 8).toNatClampNeg) v1) 312 8) + (1 : Int32)))) : ZZ K (0, 0) 0 [(0, .ref 312), (1, .int v1)] [] I := by
  obtain ⟨hb, ho, hnl, hR, hE⟩ := hK
  refine zz_aload_n hb (z_dec dX11_put 0 rfl) rfl 0 rfl ?_
  refine zz_getr (k := 7) (q := 316) hb ho rfl ckX11 t0 rfl rfl (rX11_put 0 rfl) rfl (z_dec dX11_put 1 rfl) ?_
  refine zz_aload_n hb (z_dec dX11_put 2 rfl) rfl 0 rfl ?_
  refine zz_get (k := 8) hb ho ckX11 t0 rfl rfl (rX11_put 1 rfl) rfl (z_dec dX11_put 3 rfl) ?_
  refine zz_iload_n hb (z_dec dX11_put 4 rfl) rfl 1 rfl ?_
  refine zz_iast (j := (I 312 8).toNatClampNeg) hb (show isT (kw K) 20 316 from isT.f (k := 7) t0 hw rfl rfl rfl (by decide)) rfl (zvi rfl h1) (z_dec dX11_put 5 rfl) ?_
  refine zz_aload_n hb (z_dec dX11_put 6 rfl) rfl 0 rfl ?_
  refine zz_dup hb (z_dec dX11_put 7 rfl) rfl ?_
  refine zz_get (k := 8) hb ho ckX11 t0 rfl rfl (rX11_put 1 rfl) rfl (z_dec dX11_put 8 rfl) ?_
  refine zz_iconst (v := (1 : Int32)) hb (z_dec dX11_put 9 rfl) (by decide) ?_
  refine zz_iadd hb (z_dec dX11_put 10 rfl) ?_
  refine zz_put (k := 8) hb ho ckX11 t0 rfl rfl (rX11_put 1 rfl) rfl rfl rfl (z_dec dX11_put 11 rfl) ?_
  exact zz_vret hb hE ⟨Nat.le_refl 0, Nat.le_refl 0⟩ (z_dec dX11_put 12 rfl) h2
set_option maxRecDepth 20000 in
theorem bX11_writeLetters_0 {K : zK} {P : Option Value → zM → Prop} {X : String → zM → Prop} (hK : zIs K RX11 cX11_writeLetters 4 (some .int) 3 (0, 0) P X) (hw : wOK (kw K)) {I : zM} (t0 : isT (kw K) 11 312) (k1 : ZZ K (0, 0) 12 [(0, .ref 312), (1, .int (0 : Int32))] [] (up (up I 312 9 (0 : Int32)) 312 8 (0 : Int32))) : ZZ K (0, 0) 0 [(0, .ref 312)] [] I := by
  obtain ⟨hb, ho, hnl, hR, hE⟩ := hK
  refine zz_aload_n hb (z_dec dX11_writeLetters 0 rfl) rfl 0 rfl ?_
  refine zz_iconst (v := (0 : Int32)) hb (z_dec dX11_writeLetters 1 rfl) (by decide) ?_
  refine zz_put (k := 9) hb ho ckX11 t0 rfl rfl (rX11_writeLetters 0 rfl) rfl rfl rfl (z_dec dX11_writeLetters 2 rfl) ?_
  refine zz_aload_n hb (z_dec dX11_writeLetters 3 rfl) rfl 0 rfl ?_
  refine zz_iconst (v := (0 : Int32)) hb (z_dec dX11_writeLetters 4 rfl) (by decide) ?_
  refine zz_put (k := 8) hb ho ckX11 t0 rfl rfl (rX11_writeLetters 1 rfl) rfl rfl rfl (z_dec dX11_writeLetters 5 rfl) ?_
  refine zz_iconst (v := (0 : Int32)) hb (z_dec dX11_writeLetters 6 rfl) (by decide) ?_
  refine zz_istore_n (L' := [(0, .ref 312), (1, .int (0 : Int32))]) hb (z_dec dX11_writeLetters 7 rfl) rfl hnl rfl [1, 0] rfl ?_
  exact k1
set_option maxRecDepth 20000 in
theorem bX11_writeLetters_12 {K : zK} {P : Option Value → zM → Prop} {X : String → zM → Prop} (hK : zIs K RX11 cX11_writeLetters 4 (some .int) 3 (0, 0) P X) (hw : wOK (kw K)) {I : zM} (t0 : isT (kw K) 11 312) {v1 : Int32} (h2 : ∀ (c1 : (I 313 8) ≤ v1), P (some (.int (I 312 8))) I) (k4 : ∀ (c1 : ¬ (I 313 8) ≤ v1) (c3 : v1 ≤ 0), ZZ K (0, 0) 33 [(0, .ref 312), (1, .int v1)] [] I) {g5 : zM} (m5 : ∀ (c1 : ¬ (I 313 8) ≤ v1) (c3 : ¬ v1 ≤ 0), CT (kG K) (kw K) (kl K) (yX11_put, cX11_put, 2, none) 0 (0, 0) [.ref 312, .int (32 : Int32)] I (qV (fun J => J = g5)) nX) (k6 : ∀ (c1 : ¬ (I 313 8) ≤ v1) (c3 : ¬ v1 ≤ 0), ZZ K (0, 0) 33 [(0, .ref 312), (1, .int v1)] [] g5) : ZZ K (0, 0) 12 [(0, .ref 312), (1, .int v1)] [] I := by
  obtain ⟨hb, ho, hnl, hR, hE⟩ := hK
  refine zz_iload_n hb (z_dec dX11_writeLetters 8 rfl) rfl 1 rfl ?_
  refine zz_aload_n hb (z_dec dX11_writeLetters 9 rfl) rfl 0 rfl ?_
  refine zz_getr (k := 0) (q := 313) hb ho rfl ckX11 t0 rfl rfl (rX11_writeLetters 2 rfl) rfl (z_dec dX11_writeLetters 10 rfl) ?_
  refine zz_bipush (v := (8 : Int32)) hb (z_dec dX11_writeLetters 11 rfl) (by decide) ?_
  refine zz_iald (j := 8) hb (show isT (kw K) 20 313 from isT.f (k := 0) t0 hw rfl rfl rfl (by decide)) rfl (zvi rfl (zin rfl)) (z_dec dX11_writeLetters 12 rfl) ?_
  refine zz_icmp_ge (tgt := 164) hb (z_dec dX11_writeLetters 13 rfl) (by decide) (fun c1 => ?_) (fun c1 => ?_)
  · refine zz_aload_n hb (z_dec dX11_writeLetters 94 rfl) rfl 0 rfl ?_
    refine zz_get (k := 8) hb ho ckX11 t0 rfl rfl (rX11_writeLetters 1 rfl) rfl (z_dec dX11_writeLetters 95 rfl) ?_
    exact zz_iret hb hE ⟨Nat.le_refl 0, Nat.le_refl 0⟩ (z_dec dX11_writeLetters 96 rfl) (h2 c1)
  · refine zz_iload_n hb (z_dec dX11_writeLetters 14 rfl) rfl 1 rfl ?_
    refine zz_if_le (tgt := 33) hb (z_dec dX11_writeLetters 15 rfl) (by decide) (fun c3 => ?_) (fun c3 => ?_)
    · exact (k4 c1 c3)
    · refine zz_aload_n hb (z_dec dX11_writeLetters 16 rfl) rfl 0 rfl ?_
      refine zz_bipush (v := (32 : Int32)) hb (z_dec dX11_writeLetters 17 rfl) (by decide) ?_
      refine zz_inv (as := [.int (32 : Int32)]) (d := 0) (mc := (0, 0)) (P := (qV (fun J => J = g5))) (X := nX) hb ho hnl hR hE mkX11_put rfl ckX11 t0 rfl ⟨Nat.le_refl 0, Nat.le_refl 0⟩ rfl (rX11_writeLetters 3 rfl) (rX11_writeLetters 4 rfl) (rX11_writeLetters 5 rfl) rfl (z_dec dX11_writeLetters 18 rfl) (m5 c1 c3) (fun v J5 hp => ?_) (fun _ _ h => h.elim)
      obtain ⟨rfl, w5⟩ := hp
      have w5 := w5.symm
      subst w5
      show ZZ K (0, 0) 33 [(0, .ref 312), (1, .int v1)] [] g5
      exact (k6 c1 c3)
set_option maxRecDepth 20000 in
theorem bX11_writeLetters_33 {K : zK} {P : Option Value → zM → Prop} {X : String → zM → Prop} (hK : zIs K RX11 cX11_writeLetters 4 (some .int) 3 (0, 0) P X) (hw : wOK (kw K)) {I : zM} (t0 : isT (kw K) 11 312) {v1 : Int32} {f1 : Int32} {g1 : zM} (m1 : CT (kG K) (kw K) (kl K) (yX11_of, cX11_of, 3, (some .int)) 0 (0, 0) [.ref 312, .int v1, .int (0 : Int32)] I (qE f1 g1) nX) (k2 : ZZ K (0, 0) 48 [(0, .ref 312), (1, .int v1), (2, .int ((22 : Int32) + (f1 * (7 : Int32)))), (3, .int (0 : Int32))] [] g1) : ZZ K (0, 0) 33 [(0, .ref 312), (1, .int v1)] [] I := by
  obtain ⟨hb, ho, hnl, hR, hE⟩ := hK
  refine zz_bipush (v := (22 : Int32)) hb (z_dec dX11_writeLetters 19 rfl) (by decide) ?_
  refine zz_aload_n hb (z_dec dX11_writeLetters 20 rfl) rfl 0 rfl ?_
  refine zz_iload_n hb (z_dec dX11_writeLetters 21 rfl) rfl 1 rfl ?_
  refine zz_iconst (v := (0 : Int32)) hb (z_dec dX11_writeLetters 22 rfl) (by decide) ?_
  refine zz_inv (as := [.int v1, .int (0 : Int32)]) (d := 0) (mc := (0, 0)) (P := (qE f1 g1)) (X := nX) hb ho hnl hR hE mkX11_of rfl ckX11 t0 rfl ⟨Nat.le_refl 0, Nat.le_refl 0⟩ rfl (rX11_writeLetters 6 rfl) (rX11_writeLetters 7 rfl) (rX11_writeLetters 8 rfl) rfl (z_dec dX11_writeLetters 23 rfl) m1 (fun v J1 hp => ?_) (fun _ _ h => h.elim)
  obtain ⟨r1, rfl, e1, w1⟩ := hp
  have e1 := e1.symm
  subst e1
  have w1 := w1.symm
  subst w1
  show ZZ K (0, 0) 41 [(0, .ref 312), (1, .int v1)] [.int f1, .int (22 : Int32)] g1
  refine zz_bipush (v := (7 : Int32)) hb (z_dec dX11_writeLetters 24 rfl) (by decide) ?_
  refine zz_imul hb (z_dec dX11_writeLetters 25 rfl) ?_
  refine zz_iadd hb (z_dec dX11_writeLetters 26 rfl) ?_
  refine zz_istore_n (L' := [(0, .ref 312), (1, .int v1), (2, .int ((22 : Int32) + (f1 * (7 : Int32))))]) hb (z_dec dX11_writeLetters 27 rfl) rfl hnl rfl [1, 2, 0] rfl ?_
  refine zz_iconst (v := (0 : Int32)) hb (z_dec dX11_writeLetters 28 rfl) (by decide) ?_
  refine zz_istore_n (L' := [(0, .ref 312), (1, .int v1), (2, .int ((22 : Int32) + (f1 * (7 : Int32)))), (3, .int (0 : Int32))]) hb (z_dec dX11_writeLetters 29 rfl) rfl hnl rfl [1, 2, 3, 0] rfl ?_
  exact k2
set_option maxRecDepth 20000 in
theorem bX11_writeLetters_48 {K : zK} {P : Option Value → zM → Prop} {X : String → zM → Prop} (hK : zIs K RX11 cX11_writeLetters 4 (some .int) 3 (0, 0) P X) (hw : wOK (kw K)) {I : zM} (t0 : isT (kw K) 11 312) {v1 : Int32} {v2 : Int32} {v3 : Int32} (h1 : vp_in v2 1600) {g3 : zM} (m3 : ∀ (c2 : (I 313 v2.toNatClampNeg) ≤ v3), CT (kG K) (kw K) (kl K) (yX11_put, cX11_put, 2, none) 0 (0, 0) [.ref 312, .int (58 : Int32)] I (qV (fun J => J = g3)) nX) {f4 : Int32} {g4 : zM} (m4 : ∀ (c2 : (I 313 v2.toNatClampNeg) ≤ v3), CT (kG K) (kw K) (kl K) (yX11_of, cX11_of, 3, (some .int)) 0 (0, 0) [.ref 312, .int v1, .int (5 : Int32)] g3 (qE f4 g4) nX) (k6 : ∀ (c2 : (I 313 v2.toNatClampNeg) ≤ v3) (c5 : f4 < (10 : Int32)), ZZ K (0, 0) 111 [(0, .ref 312), (1, .int v1), (2, .int v2), (3, .int v3)] [] g4) {f7 : Int32} {g7 : zM} (m7 : ∀ (c2 : (I 313 v2.toNatClampNeg) ≤ v3) (c5 : ¬ f4 < (10 : Int32)), CT (kG K) (kw K) (kl K) (yX11_of, cX11_of, 3, (some .int)) 0 (0, 0) [.ref 312, .int v1, .int (5 : Int32)] g4 (qE f7 g7) nX) {g8 : zM} (m8 : ∀ (c2 : (I 313 v2.toNatClampNeg) ≤ v3) (c5 : ¬ f4 < (10 : Int32)), CT (kG K) (kw K) (kl K) (yX11_put, cX11_put, 2, none) 0 (0, 0) [.ref 312, .int ((48 : Int32) + (f7 / (10 : Int32)))] g7 (qV (fun J => J = g8)) nX) (k9 : ∀ (c2 : (I 313 v2.toNatClampNeg) ≤ v3) (c5 : ¬ f4 < (10 : Int32)), ZZ K (0, 0) 111 [(0, .ref 312), (1, .int v1), (2, .int v2), (3, .int v3)] [] g8) (h10 : ∀ (c2 : ¬ (I 313 v2.toNatClampNeg) ≤ v3), vp_in ((v2 + (1 : Int32)) + v3) 1600) {g11 : zM} (m11 : ∀ (c2 : ¬ (I 313 v2.toNatClampNeg) ≤ v3), CT (kG K) (kw K) (kl K) (yX11_put, cX11_put, 2, none) 0 (0, 0) [.ref 312, .int (I 313 ((v2 + (1 : Int32)) + v3).toNatClampNeg)] I (qV (fun J => J = g11)) nX) (k12 : ∀ (c2 : ¬ (I 313 v2.toNatClampNeg) ≤ v3), ZZ K (0, 0) 48 [(0, .ref 312), (1, .int v1), (2, .int v2), (3, .int (v3 + 1))] [] g11) : ZZ K (0, 0) 48 [(0, .ref 312), (1, .int v1), (2, .int v2), (3, .int v3)] [] I := by
  obtain ⟨hb, ho, hnl, hR, hE⟩ := hK
  refine zz_iload_n hb (z_dec dX11_writeLetters 30 rfl) rfl 3 rfl ?_
  refine zz_aload_n hb (z_dec dX11_writeLetters 31 rfl) rfl 0 rfl ?_
  refine zz_getr (k := 0) (q := 313) hb ho rfl ckX11 t0 rfl rfl (rX11_writeLetters 2 rfl) rfl (z_dec dX11_writeLetters 32 rfl) ?_
  refine zz_iload_n hb (z_dec dX11_writeLetters 33 rfl) rfl 2 rfl ?_
  refine zz_iald (j := v2.toNatClampNeg) hb (show isT (kw K) 20 313 from isT.f (k := 0) t0 hw rfl rfl rfl (by decide)) rfl (zvi rfl h1) (z_dec dX11_writeLetters 34 rfl) ?_
  refine zz_icmp_ge (tgt := 78) hb (z_dec dX11_writeLetters 35 rfl) (by decide) (fun c2 => ?_) (fun c2 => ?_)
  · refine zz_aload_n hb (z_dec dX11_writeLetters 48 rfl) rfl 0 rfl ?_
    refine zz_bipush (v := (58 : Int32)) hb (z_dec dX11_writeLetters 49 rfl) (by decide) ?_
    refine zz_inv (as := [.int (58 : Int32)]) (d := 0) (mc := (0, 0)) (P := (qV (fun J => J = g3))) (X := nX) hb ho hnl hR hE mkX11_put rfl ckX11 t0 rfl ⟨Nat.le_refl 0, Nat.le_refl 0⟩ rfl (rX11_writeLetters 3 rfl) (rX11_writeLetters 4 rfl) (rX11_writeLetters 5 rfl) rfl (z_dec dX11_writeLetters 50 rfl) (m3 c2) (fun v J3 hp => ?_) (fun _ _ h => h.elim)
    obtain ⟨rfl, w3⟩ := hp
    have w3 := w3.symm
    subst w3
    show ZZ K (0, 0) 84 [(0, .ref 312), (1, .int v1), (2, .int v2), (3, .int v3)] [] g3
    refine zz_aload_n hb (z_dec dX11_writeLetters 51 rfl) rfl 0 rfl ?_
    refine zz_iload_n hb (z_dec dX11_writeLetters 52 rfl) rfl 1 rfl ?_
    refine zz_iconst (v := (5 : Int32)) hb (z_dec dX11_writeLetters 53 rfl) (by decide) ?_
    refine zz_inv (as := [.int v1, .int (5 : Int32)]) (d := 0) (mc := (0, 0)) (P := (qE f4 g4)) (X := nX) hb ho hnl hR hE mkX11_of rfl ckX11 t0 rfl ⟨Nat.le_refl 0, Nat.le_refl 0⟩ rfl (rX11_writeLetters 6 rfl) (rX11_writeLetters 7 rfl) (rX11_writeLetters 8 rfl) rfl (z_dec dX11_writeLetters 54 rfl) (m4 c2) (fun v J4 hp => ?_) (fun _ _ h => h.elim)
    obtain ⟨r4, rfl, e4, w4⟩ := hp
    have e4 := e4.symm
    subst e4
    have w4 := w4.symm
    subst w4
    show ZZ K (0, 0) 90 [(0, .ref 312), (1, .int v1), (2, .int v2), (3, .int v3)] [.int f4] g4
    refine zz_bipush (v := (10 : Int32)) hb (z_dec dX11_writeLetters 55 rfl) (by decide) ?_
    refine zz_icmp_lt (tgt := 111) hb (z_dec dX11_writeLetters 56 rfl) (by decide) (fun c5 => ?_) (fun c5 => ?_)
    · exact (k6 c2 c5)
    · refine zz_aload_n hb (z_dec dX11_writeLetters 57 rfl) rfl 0 rfl ?_
      refine zz_bipush (v := (48 : Int32)) hb (z_dec dX11_writeLetters 58 rfl) (by decide) ?_
      refine zz_aload_n hb (z_dec dX11_writeLetters 59 rfl) rfl 0 rfl ?_
      refine zz_iload_n hb (z_dec dX11_writeLetters 60 rfl) rfl 1 rfl ?_
      refine zz_iconst (v := (5 : Int32)) hb (z_dec dX11_writeLetters 61 rfl) (by decide) ?_
      refine zz_inv (as := [.int v1, .int (5 : Int32)]) (d := 0) (mc := (0, 0)) (P := (qE f7 g7)) (X := nX) hb ho hnl hR hE mkX11_of rfl ckX11 t0 rfl ⟨Nat.le_refl 0, Nat.le_refl 0⟩ rfl (rX11_writeLetters 6 rfl) (rX11_writeLetters 7 rfl) (rX11_writeLetters 8 rfl) rfl (z_dec dX11_writeLetters 62 rfl) (m7 c2 c5) (fun v J7 hp => ?_) (fun _ _ h => h.elim)
      obtain ⟨r7, rfl, e7, w7⟩ := hp
      have e7 := e7.symm
      subst e7
      have w7 := w7.symm
      subst w7
      show ZZ K (0, 0) 104 [(0, .ref 312), (1, .int v1), (2, .int v2), (3, .int v3)] [.int f7, .int (48 : Int32), .ref 312] g7
      refine zz_bipush (v := (10 : Int32)) hb (z_dec dX11_writeLetters 63 rfl) (by decide) ?_
      refine zz_idiv hb (z_dec dX11_writeLetters 64 rfl) (by decide) ?_
      refine zz_iadd hb (z_dec dX11_writeLetters 65 rfl) ?_
      refine zz_inv (as := [.int ((48 : Int32) + (f7 / (10 : Int32)))]) (d := 0) (mc := (0, 0)) (P := (qV (fun J => J = g8))) (X := nX) hb ho hnl hR hE mkX11_put rfl ckX11 t0 rfl ⟨Nat.le_refl 0, Nat.le_refl 0⟩ rfl (rX11_writeLetters 3 rfl) (rX11_writeLetters 4 rfl) (rX11_writeLetters 5 rfl) rfl (z_dec dX11_writeLetters 66 rfl) (m8 c2 c5) (fun v J8 hp => ?_) (fun _ _ h => h.elim)
      obtain ⟨rfl, w8⟩ := hp
      have w8 := w8.symm
      subst w8
      show ZZ K (0, 0) 111 [(0, .ref 312), (1, .int v1), (2, .int v2), (3, .int v3)] [] g8
      exact (k9 c2 c5)
  · refine zz_aload_n hb (z_dec dX11_writeLetters 36 rfl) rfl 0 rfl ?_
    refine zz_aload_n hb (z_dec dX11_writeLetters 37 rfl) rfl 0 rfl ?_
    refine zz_getr (k := 0) (q := 313) hb ho rfl ckX11 t0 rfl rfl (rX11_writeLetters 2 rfl) rfl (z_dec dX11_writeLetters 38 rfl) ?_
    refine zz_iload_n hb (z_dec dX11_writeLetters 39 rfl) rfl 2 rfl ?_
    refine zz_iconst (v := (1 : Int32)) hb (z_dec dX11_writeLetters 40 rfl) (by decide) ?_
    refine zz_iadd hb (z_dec dX11_writeLetters 41 rfl) ?_
    refine zz_iload_n hb (z_dec dX11_writeLetters 42 rfl) rfl 3 rfl ?_
    refine zz_iadd hb (z_dec dX11_writeLetters 43 rfl) ?_
    refine zz_iald (j := ((v2 + (1 : Int32)) + v3).toNatClampNeg) hb (show isT (kw K) 20 313 from isT.f (k := 0) t0 hw rfl rfl rfl (by decide)) rfl (zvi rfl (h10 c2)) (z_dec dX11_writeLetters 44 rfl) ?_
    refine zz_inv (as := [.int (I 313 ((v2 + (1 : Int32)) + v3).toNatClampNeg)]) (d := 0) (mc := (0, 0)) (P := (qV (fun J => J = g11))) (X := nX) hb ho hnl hR hE mkX11_put rfl ckX11 t0 rfl ⟨Nat.le_refl 0, Nat.le_refl 0⟩ rfl (rX11_writeLetters 3 rfl) (rX11_writeLetters 4 rfl) (rX11_writeLetters 5 rfl) rfl (z_dec dX11_writeLetters 45 rfl) (m11 c2) (fun v J11 hp => ?_) (fun _ _ h => h.elim)
    obtain ⟨rfl, w11⟩ := hp
    have w11 := w11.symm
    subst w11
    show ZZ K (0, 0) 72 [(0, .ref 312), (1, .int v1), (2, .int v2), (3, .int v3)] [] g11
    refine zz_iinc (v := (v3 + 1)) (L' := [(0, .ref 312), (1, .int v1), (2, .int v2), (3, .int (v3 + 1))]) hb (z_dec dX11_writeLetters 46 rfl) 3 rfl rfl hnl rfl [1, 2, 3, 0] rfl ?_
    refine zz_goto (tgt := 48) hb (z_dec dX11_writeLetters 47 rfl) (by decide) ?_
    exact (k12 c2)
set_option maxRecDepth 20000 in
theorem bX11_writeLetters_111 {K : zK} {P : Option Value → zM → Prop} {X : String → zM → Prop} (hK : zIs K RX11 cX11_writeLetters 4 (some .int) 3 (0, 0) P X) (hw : wOK (kw K)) {I : zM} (t0 : isT (kw K) 11 312) {v1 : Int32} {v2 : Int32} {v3 : Int32} {f1 : Int32} {g1 : zM} (m1 : CT (kG K) (kw K) (kl K) (yX11_of, cX11_of, 3, (some .int)) 0 (0, 0) [.ref 312, .int v1, .int (5 : Int32)] I (qE f1 g1) nX) {g2 : zM} (m2 : CT (kG K) (kw K) (kl K) (yX11_put, cX11_put, 2, none) 0 (0, 0) [.ref 312, .int ((48 : Int32) + (f1 - f1 / (10 : Int32) * (10 : Int32)))] g1 (qV (fun J => J = g2)) nX) {f3 : Int32} {g3 : zM} (m3 : CT (kG K) (kw K) (kl K) (yX11_current, cX11_current, 1, (some .int)) 2 (0, 0) [.ref 312] g2 (qE f3 g3) nX) {f5 : Int32} {g5 : zM} (m5 : ∀ (c4 : ¬ v1 = f3), CT (kG K) (kw K) (kl K) (yX11_isLate, cX11_isLate, 2, (some .boolean)) 2 (0, 0) [.ref 312, .int v1] g3 (qE f5 g5) nX) (k7 : ∀ (c4 : ¬ v1 = f3) (c6 : f5 = 0), ZZ K (0, 0) 12 [(0, .ref 312), (1, .int (v1 + 1))] [] g5) {g8 : zM} (m8 : ∀ (c4 : ¬ v1 = f3) (c6 : ¬ f5 = 0), CT (kG K) (kw K) (kl K) (yX11_put, cX11_put, 2, none) 0 (0, 0) [.ref 312, .int (33 : Int32)] g5 (qV (fun J => J = g8)) nX) (k9 : ∀ (c4 : ¬ v1 = f3) (c6 : ¬ f5 = 0), ZZ K (0, 0) 12 [(0, .ref 312), (1, .int (v1 + 1))] [] g8) {g10 : zM} (m10 : ∀ (c4 : v1 = f3), CT (kG K) (kw K) (kl K) (yX11_put, cX11_put, 2, none) 0 (0, 0) [.ref 312, .int (42 : Int32)] g3 (qV (fun J => J = g10)) nX) (k11 : ∀ (c4 : v1 = f3), ZZ K (0, 0) 12 [(0, .ref 312), (1, .int (v1 + 1))] [] g10) : ZZ K (0, 0) 111 [(0, .ref 312), (1, .int v1), (2, .int v2), (3, .int v3)] [] I := by
  obtain ⟨hb, ho, hnl, hR, hE⟩ := hK
  refine zz_aload_n hb (z_dec dX11_writeLetters 67 rfl) rfl 0 rfl ?_
  refine zz_bipush (v := (48 : Int32)) hb (z_dec dX11_writeLetters 68 rfl) (by decide) ?_
  refine zz_aload_n hb (z_dec dX11_writeLetters 69 rfl) rfl 0 rfl ?_
  refine zz_iload_n hb (z_dec dX11_writeLetters 70 rfl) rfl 1 rfl ?_
  refine zz_iconst (v := (5 : Int32)) hb (z_dec dX11_writeLetters 71 rfl) (by decide) ?_
  refine zz_inv (as := [.int v1, .int (5 : Int32)]) (d := 0) (mc := (0, 0)) (P := (qE f1 g1)) (X := nX) hb ho hnl hR hE mkX11_of rfl ckX11 t0 rfl ⟨Nat.le_refl 0, Nat.le_refl 0⟩ rfl (rX11_writeLetters 6 rfl) (rX11_writeLetters 7 rfl) (rX11_writeLetters 8 rfl) rfl (z_dec dX11_writeLetters 72 rfl) m1 (fun v J1 hp => ?_) (fun _ _ h => h.elim)
  obtain ⟨r1, rfl, e1, w1⟩ := hp
  have e1 := e1.symm
  subst e1
  have w1 := w1.symm
  subst w1
  show ZZ K (0, 0) 120 [(0, .ref 312), (1, .int v1), (2, .int v2), (3, .int v3)] [.int f1, .int (48 : Int32), .ref 312] g1
  refine zz_bipush (v := (10 : Int32)) hb (z_dec dX11_writeLetters 73 rfl) (by decide) ?_
  refine zz_irem hb (z_dec dX11_writeLetters 74 rfl) (by decide) ?_
  refine zz_iadd hb (z_dec dX11_writeLetters 75 rfl) ?_
  refine zz_inv (as := [.int ((48 : Int32) + (f1 - f1 / (10 : Int32) * (10 : Int32)))]) (d := 0) (mc := (0, 0)) (P := (qV (fun J => J = g2))) (X := nX) hb ho hnl hR hE mkX11_put rfl ckX11 t0 rfl ⟨Nat.le_refl 0, Nat.le_refl 0⟩ rfl (rX11_writeLetters 3 rfl) (rX11_writeLetters 4 rfl) (rX11_writeLetters 5 rfl) rfl (z_dec dX11_writeLetters 76 rfl) m2 (fun v J2 hp => ?_) (fun _ _ h => h.elim)
  obtain ⟨rfl, w2⟩ := hp
  have w2 := w2.symm
  subst w2
  show ZZ K (0, 0) 127 [(0, .ref 312), (1, .int v1), (2, .int v2), (3, .int v3)] [] g2
  refine zz_iload_n hb (z_dec dX11_writeLetters 77 rfl) rfl 1 rfl ?_
  refine zz_aload_n hb (z_dec dX11_writeLetters 78 rfl) rfl 0 rfl ?_
  refine zz_inv (as := []) (d := 2) (mc := (0, 0)) (P := (qE f3 g3)) (X := nX) hb ho hnl hR hE mkX11_current rfl ckX11 t0 rfl ⟨Nat.le_refl 0, Nat.le_refl 0⟩ rfl (rX11_writeLetters 9 rfl) (rX11_writeLetters 10 rfl) (rX11_writeLetters 11 rfl) rfl (z_dec dX11_writeLetters 79 rfl) m3 (fun v J3 hp => ?_) (fun _ _ h => h.elim)
  obtain ⟨r3, rfl, e3, w3⟩ := hp
  have e3 := e3.symm
  subst e3
  have w3 := w3.symm
  subst w3
  show ZZ K (0, 0) 132 [(0, .ref 312), (1, .int v1), (2, .int v2), (3, .int v3)] [.int f3, .int v1] g3
  refine zz_icmp_ne (tgt := 144) hb (z_dec dX11_writeLetters 80 rfl) (by decide) (fun c4 => ?_) (fun c4 => ?_)
  · refine zz_aload_n hb (z_dec dX11_writeLetters 85 rfl) rfl 0 rfl ?_
    refine zz_iload_n hb (z_dec dX11_writeLetters 86 rfl) rfl 1 rfl ?_
    refine zz_inv (as := [.int v1]) (d := 2) (mc := (0, 0)) (P := (qE f5 g5)) (X := nX) hb ho hnl hR hE mkX11_isLate rfl ckX11 t0 rfl ⟨Nat.le_refl 0, Nat.le_refl 0⟩ rfl (rX11_writeLetters 12 rfl) (rX11_writeLetters 13 rfl) (rX11_writeLetters 14 rfl) rfl (z_dec dX11_writeLetters 87 rfl) (m5 c4) (fun v J5 hp => ?_) (fun _ _ h => h.elim)
    obtain ⟨r5, rfl, e5, w5⟩ := hp
    have e5 := e5.symm
    subst e5
    have w5 := w5.symm
    subst w5
    show ZZ K (0, 0) 149 [(0, .ref 312), (1, .int v1), (2, .int v2), (3, .int v3)] [.int f5] g5
    refine zz_if_eq (tgt := 158) hb (z_dec dX11_writeLetters 88 rfl) (by decide) (fun c6 => ?_) (fun c6 => ?_)
    · refine zz_iinc (v := (v1 + 1)) (L' := [(0, .ref 312), (1, .int (v1 + 1)), (2, .int v2), (3, .int v3)]) hb (z_dec dX11_writeLetters 92 rfl) 1 rfl rfl hnl rfl [1, 0, 2, 3] rfl ?_
      refine zz_goto (tgt := 12) hb (z_dec dX11_writeLetters 93 rfl) (by decide) ?_
      refine zz_sub [0, 1] (L' := [(0, .ref 312), (1, .int (v1 + 1))]) rfl ?_
      exact (k7 c4 c6)
    · refine zz_aload_n hb (z_dec dX11_writeLetters 89 rfl) rfl 0 rfl ?_
      refine zz_bipush (v := (33 : Int32)) hb (z_dec dX11_writeLetters 90 rfl) (by decide) ?_
      refine zz_inv (as := [.int (33 : Int32)]) (d := 0) (mc := (0, 0)) (P := (qV (fun J => J = g8))) (X := nX) hb ho hnl hR hE mkX11_put rfl ckX11 t0 rfl ⟨Nat.le_refl 0, Nat.le_refl 0⟩ rfl (rX11_writeLetters 3 rfl) (rX11_writeLetters 4 rfl) (rX11_writeLetters 5 rfl) rfl (z_dec dX11_writeLetters 91 rfl) (m8 c4 c6) (fun v J8 hp => ?_) (fun _ _ h => h.elim)
      obtain ⟨rfl, w8⟩ := hp
      have w8 := w8.symm
      subst w8
      show ZZ K (0, 0) 158 [(0, .ref 312), (1, .int v1), (2, .int v2), (3, .int v3)] [] g8
      refine zz_iinc (v := (v1 + 1)) (L' := [(0, .ref 312), (1, .int (v1 + 1)), (2, .int v2), (3, .int v3)]) hb (z_dec dX11_writeLetters 92 rfl) 1 rfl rfl hnl rfl [1, 0, 2, 3] rfl ?_
      refine zz_goto (tgt := 12) hb (z_dec dX11_writeLetters 93 rfl) (by decide) ?_
      refine zz_sub [0, 1] (L' := [(0, .ref 312), (1, .int (v1 + 1))]) rfl ?_
      exact (k9 c4 c6)
  · refine zz_aload_n hb (z_dec dX11_writeLetters 81 rfl) rfl 0 rfl ?_
    refine zz_bipush (v := (42 : Int32)) hb (z_dec dX11_writeLetters 82 rfl) (by decide) ?_
    refine zz_inv (as := [.int (42 : Int32)]) (d := 0) (mc := (0, 0)) (P := (qV (fun J => J = g10))) (X := nX) hb ho hnl hR hE mkX11_put rfl ckX11 t0 rfl ⟨Nat.le_refl 0, Nat.le_refl 0⟩ rfl (rX11_writeLetters 3 rfl) (rX11_writeLetters 4 rfl) (rX11_writeLetters 5 rfl) rfl (z_dec dX11_writeLetters 83 rfl) (m10 c4) (fun v J10 hp => ?_) (fun _ _ h => h.elim)
    obtain ⟨rfl, w10⟩ := hp
    have w10 := w10.symm
    subst w10
    show ZZ K (0, 0) 141 [(0, .ref 312), (1, .int v1), (2, .int v2), (3, .int v3)] [] g10
    refine zz_goto (tgt := 158) hb (z_dec dX11_writeLetters 84 rfl) (by decide) ?_
    refine zz_iinc (v := (v1 + 1)) (L' := [(0, .ref 312), (1, .int (v1 + 1)), (2, .int v2), (3, .int v3)]) hb (z_dec dX11_writeLetters 92 rfl) 1 rfl rfl hnl rfl [1, 0, 2, 3] rfl ?_
    refine zz_goto (tgt := 12) hb (z_dec dX11_writeLetters 93 rfl) (by decide) ?_
    refine zz_sub [0, 1] (L' := [(0, .ref 312), (1, .int (v1 + 1))]) rfl ?_
    exact (k11 c4)
set_option maxRecDepth 20000 in
theorem bX11_outputByte_0 {K : zK} {P : Option Value → zM → Prop} {X : String → zM → Prop} (hK : zIs K RX11 cX11_outputByte 2 (some .int) 1 (0, 0) P X) (hw : wOK (kw K)) {I : zM} (t0 : isT (kw K) 11 312) {v1 : Int32} {f1 : Int32} {g1 : zM} (m1 : CT (kG K) (kw K) (kl K) (yX11_in, cX11_in, 3, (some .boolean)) 0 (0, 0) [.int v1, .int (0 : Int32), .int ((I 312 8) - (1 : Int32))] I (qE f1 g1) nX) (k3 : ∀ (c2 : ¬ f1 = 0), ZZ K (0, 0) 20 [(0, .ref 312), (1, .int v1)] [.int (0 : Int32), .ref 312] g1) (k4 : ∀ (c2 : f1 = 0), ZZ K (0, 0) 20 [(0, .ref 312), (1, .int v1)] [.int (1 : Int32), .ref 312] g1) : ZZ K (0, 0) 0 [(0, .ref 312), (1, .int v1)] [] I := by
  obtain ⟨hb, ho, hnl, hR, hE⟩ := hK
  refine zz_aload_n hb (z_dec dX11_outputByte 0 rfl) rfl 0 rfl ?_
  refine zz_iload_n hb (z_dec dX11_outputByte 1 rfl) rfl 1 rfl ?_
  refine zz_iconst (v := (0 : Int32)) hb (z_dec dX11_outputByte 2 rfl) (by decide) ?_
  refine zz_aload_n hb (z_dec dX11_outputByte 3 rfl) rfl 0 rfl ?_
  refine zz_get (k := 8) hb ho ckX11 t0 rfl rfl (rX11_outputByte 0 rfl) rfl (z_dec dX11_outputByte 4 rfl) ?_
  refine zz_iconst (v := (1 : Int32)) hb (z_dec dX11_outputByte 5 rfl) (by decide) ?_
  refine zz_isub hb (z_dec dX11_outputByte 6 rfl) ?_
  refine zz_invS (as := [.int v1, .int (0 : Int32), .int ((I 312 8) - (1 : Int32))]) (d := 0) (mc := (0, 0)) (P := (qE f1 g1)) (X := nX) hb ho hnl hR hE mkX11_in rfl rfl ⟨Nat.le_refl 0, Nat.le_refl 0⟩ rfl (rX11_outputByte 1 rfl) (rX11_outputByte 2 rfl) rfl (z_dec dX11_outputByte 7 rfl) m1 (fun v J1 hp => ?_) (fun _ _ h => h.elim)
  obtain ⟨r1, rfl, e1, w1⟩ := hp
  have e1 := e1.symm
  subst e1
  have w1 := w1.symm
  subst w1
  show ZZ K (0, 0) 12 [(0, .ref 312), (1, .int v1)] [.int f1, .ref 312] g1
  refine zz_if_ne (tgt := 19) hb (z_dec dX11_outputByte 8 rfl) (by decide) (fun c2 => ?_) (fun c2 => ?_)
  · refine zz_iconst (v := (0 : Int32)) hb (z_dec dX11_outputByte 11 rfl) (by decide) ?_
    exact (k3 c2)
  · refine zz_iconst (v := (1 : Int32)) hb (z_dec dX11_outputByte 9 rfl) (by decide) ?_
    refine zz_goto (tgt := 20) hb (z_dec dX11_outputByte 10 rfl) (by decide) ?_
    exact (k4 c2)
set_option maxRecDepth 20000 in
theorem bX11_outputByte_20 {K : zK} {P : Option Value → zM → Prop} {X : String → zM → Prop} (hK : zIs K RX11 cX11_outputByte 2 (some .int) 1 (0, 0) P X) (hw : wOK (kw K)) {I : zM} (t0 : isT (kw K) 11 312) {v1 : Int32} (ts0 : isT (kw K) 11 312) {vs1 : Int32} {f1 : Int32} {g1 : zM} (m1 : CT (kG K) (kw K) (kl K) (yX11_fails, cX11_fails, 4, (some .boolean)) 0 (0, 0) [.ref 312, .int vs1, .int (0 : Int32), .int (0 : Int32)] I (qE f1 g1) nX) (h3 : ∀ (c2 : f1 = 0), vp_in v1 150) (h4 : ∀ (c2 : f1 = 0), P (some (.int (g1 316 v1.toNatClampNeg))) g1) (h5 : ∀ (c2 : ¬ f1 = 0), P (some (.int (0 : Int32))) g1) : ZZ K (0, 0) 20 [(0, .ref 312), (1, .int v1)] [.int vs1, .ref 312] I := by
  obtain ⟨hb, ho, hnl, hR, hE⟩ := hK
  refine zz_iconst (v := (0 : Int32)) hb (z_dec dX11_outputByte 12 rfl) (by decide) ?_
  refine zz_iconst (v := (0 : Int32)) hb (z_dec dX11_outputByte 13 rfl) (by decide) ?_
  refine zz_inv (as := [.int vs1, .int (0 : Int32), .int (0 : Int32)]) (d := 0) (mc := (0, 0)) (P := (qE f1 g1)) (X := nX) hb ho hnl hR hE mkX11_fails rfl ckX11 ts0 rfl ⟨Nat.le_refl 0, Nat.le_refl 0⟩ rfl (rX11_outputByte 3 rfl) (rX11_outputByte 4 rfl) (rX11_outputByte 5 rfl) rfl (z_dec dX11_outputByte 14 rfl) m1 (fun v J1 hp => ?_) (fun _ _ h => h.elim)
  obtain ⟨r1, rfl, e1, w1⟩ := hp
  have e1 := e1.symm
  subst e1
  have w1 := w1.symm
  subst w1
  show ZZ K (0, 0) 25 [(0, .ref 312), (1, .int v1)] [.int f1] g1
  refine zz_if_eq (tgt := 30) hb (z_dec dX11_outputByte 15 rfl) (by decide) (fun c2 => ?_) (fun c2 => ?_)
  · refine zz_aload_n hb (z_dec dX11_outputByte 18 rfl) rfl 0 rfl ?_
    refine zz_getr (k := 7) (q := 316) hb ho rfl ckX11 t0 rfl rfl (rX11_outputByte 6 rfl) rfl (z_dec dX11_outputByte 19 rfl) ?_
    refine zz_iload_n hb (z_dec dX11_outputByte 20 rfl) rfl 1 rfl ?_
    refine zz_iald (j := v1.toNatClampNeg) hb (show isT (kw K) 20 316 from isT.f (k := 7) t0 hw rfl rfl rfl (by decide)) rfl (zvi rfl (h3 c2)) (z_dec dX11_outputByte 21 rfl) ?_
    exact zz_iret hb hE ⟨Nat.le_refl 0, Nat.le_refl 0⟩ (z_dec dX11_outputByte 22 rfl) (h4 c2)
  · refine zz_iconst (v := (0 : Int32)) hb (z_dec dX11_outputByte 16 rfl) (by decide) ?_
    exact zz_iret hb hE ⟨Nat.le_refl 0, Nat.le_refl 0⟩ (z_dec dX11_outputByte 17 rfl) (h5 c2)
