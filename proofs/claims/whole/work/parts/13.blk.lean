set_option maxRecDepth 20000 in
theorem bX9_countOpen_0 {K : zK} {P : Option Value → zM → Prop} {X : String → zM → Prop} (hK : zIs K RX9 cX9_countOpen 3 (some .int) 0 (0, 0) P X) (hw : wOK (kw K)) {I : zM} {v0 : Nat} (t0 : isT (kw K) 9 v0) (k1 : ZZ K (0, 0) 4 [(0, .ref v0), (1, .int (0 : Int32)), (2, .int (0 : Int32))] [] I) : ZZ K (0, 0) 0 [(0, .ref v0)] [] I := by
  obtain ⟨hb, ho, hnl, hR, hE⟩ := hK
  refine zz_iconst (v := (0 : Int32)) hb (z_dec dX9_countOpen 0 rfl) (by decide) ?_
  refine zz_istore_n (L' := [(0, .ref v0), (1, .int (0 : Int32))]) hb (z_dec dX9_countOpen 1 rfl) rfl hnl rfl [1, 0] rfl ?_
  refine zz_iconst (v := (0 : Int32)) hb (z_dec dX9_countOpen 2 rfl) (by decide) ?_
  refine zz_istore_n (L' := [(0, .ref v0), (1, .int (0 : Int32)), (2, .int (0 : Int32))]) hb (z_dec dX9_countOpen 3 rfl) rfl hnl rfl [1, 2, 0] rfl ?_
  exact k1
set_option maxRecDepth 20000 in
theorem bX9_countOpen_4 {K : zK} {P : Option Value → zM → Prop} {X : String → zM → Prop} (hK : zIs K RX9 cX9_countOpen 3 (some .int) 0 (0, 0) P X) (hw : wOK (kw K)) {I : zM} {v0 : Nat} (t0 : isT (kw K) 9 v0) {v1 : Int32} {v2 : Int32} (h2 : ∀ (c1 : (I v0 3) ≤ v2), P (some (.int v1)) I) (h3 : ∀ (c1 : ¬ (I v0 3) ≤ v2), vp_in v2 12) (k5 : ∀ (c1 : ¬ (I v0 3) ≤ v2) (c4 : (I (LR (LR v0 2) v2.toNatClampNeg) 5) ≤ 0), ZZ K (0, 0) 4 [(0, .ref v0), (1, .int v1), (2, .int (v2 + 1))] [] I) (k6 : ∀ (c1 : ¬ (I v0 3) ≤ v2) (c4 : ¬ (I (LR (LR v0 2) v2.toNatClampNeg) 5) ≤ 0), ZZ K (0, 0) 4 [(0, .ref v0), (1, .int (v1 + 1)), (2, .int (v2 + 1))] [] I) : ZZ K (0, 0) 4 [(0, .ref v0), (1, .int v1), (2, .int v2)] [] I := by
  obtain ⟨hb, ho, hnl, hR, hE⟩ := hK
  refine zz_iload_n hb (z_dec dX9_countOpen 4 rfl) rfl 2 rfl ?_
  refine zz_aload_n hb (z_dec dX9_countOpen 5 rfl) rfl 0 rfl ?_
  refine zz_get (k := 3) hb ho ckX9 t0 rfl rfl (rX9_countOpen 0 rfl) rfl (z_dec dX9_countOpen 6 rfl) ?_
  refine zz_icmp_ge (tgt := 33) hb (z_dec dX9_countOpen 7 rfl) (by decide) (fun c1 => ?_) (fun c1 => ?_)
  · refine zz_iload_n hb (z_dec dX9_countOpen 17 rfl) rfl 1 rfl ?_
    exact zz_iret hb hE ⟨Nat.le_refl 0, Nat.le_refl 0⟩ (z_dec dX9_countOpen 18 rfl) (h2 c1)
  · refine zz_aload_n hb (z_dec dX9_countOpen 8 rfl) rfl 0 rfl ?_
    refine zz_getr (k := 2) (q := (LR v0 2)) hb ho rfl ckX9 t0 rfl rfl (rX9_countOpen 1 rfl) rfl (z_dec dX9_countOpen 9 rfl) ?_
    refine zz_iload_n hb (z_dec dX9_countOpen 10 rfl) rfl 2 rfl ?_
    refine zz_aald (j := v2.toNatClampNeg) (q := (LR (LR v0 2) v2.toNatClampNeg)) hb (show isT (kw K) 31 (LR v0 2) from isT.f (k := 2) t0 hw rfl rfl rfl (by decide)) (by decide) rfl rfl (zvi (zLn9 hw t0) (h3 c1)) (z_dec dX9_countOpen 11 rfl) ?_
    refine zz_get (k := 5) hb ho ckX5 (show isT (kw K) 5 (LR (LR v0 2) v2.toNatClampNeg) from isT.a (i := v2) (show isT (kw K) 31 (LR v0 2) from isT.f (k := 2) t0 hw rfl rfl rfl (by decide)) hw (zvi (zLn9 hw t0) (h3 c1)) rfl (fun _ => rfl) (by decide)) rfl rfl (rX9_countOpen 2 rfl) rfl (z_dec dX9_countOpen 12 rfl) ?_
    refine zz_if_le (tgt := 27) hb (z_dec dX9_countOpen 13 rfl) (by decide) (fun c4 => ?_) (fun c4 => ?_)
    · refine zz_iinc (v := (v2 + 1)) (L' := [(0, .ref v0), (1, .int v1), (2, .int (v2 + 1))]) hb (z_dec dX9_countOpen 15 rfl) 2 rfl rfl hnl rfl [1, 2, 0] rfl ?_
      refine zz_goto (tgt := 4) hb (z_dec dX9_countOpen 16 rfl) (by decide) ?_
      exact (k5 c1 c4)
    · refine zz_iinc (v := (v1 + 1)) (L' := [(0, .ref v0), (1, .int (v1 + 1)), (2, .int v2)]) hb (z_dec dX9_countOpen 14 rfl) 1 rfl rfl hnl rfl [1, 0, 2] rfl ?_
      refine zz_iinc (v := (v2 + 1)) (L' := [(0, .ref v0), (1, .int (v1 + 1)), (2, .int (v2 + 1))]) hb (z_dec dX9_countOpen 15 rfl) 2 rfl rfl hnl rfl [1, 2, 0] rfl ?_
      refine zz_goto (tgt := 4) hb (z_dec dX9_countOpen 16 rfl) (by decide) ?_
      exact (k6 c1 c4)
set_option maxRecDepth 20000 in
theorem bX9_runMinute_0 {K : zK} {P : Option Value → zM → Prop} {X : String → zM → Prop} (hK : zIs K RX9 cX9_runMinute 3 (some .int) 3 (0, 0) P X) (hw : wOK (kw K)) {I : zM} {v0 : Nat} (t0 : isT (kw K) 9 v0) {p3 : Int32 → zM → Prop} (m3 : ∀ (c1 : (I v0 11) ≤ 0) (c2 : (I v0 12) ≤ 0), CT (kG K) (kw K) (kl K) (yX9_selectBy, cX9_selectBy, 6, (some .int)) 2 (0, 0) [.ref v0, .int (I v0 5)] I (qI p3) nX) (h5 : ∀ (c1 : (I v0 11) ≤ 0) (c2 : (I v0 12) ≤ 0) (r3 : Int32) (J3 : zM) (q3 : p3 r3 J3) (c4 : ¬ r3 = (-1 : Int32)), vp_in r3 12) {p6 : Int32 → zM → Int32 → zM → Prop} (m6 : ∀ (c1 : (I v0 11) ≤ 0) (c2 : (I v0 12) ≤ 0) (r3 : Int32) (J3 : zM) (q3 : p3 r3 J3) (c4 : ¬ r3 = (-1 : Int32)), CT (kG K) (kw K) (kl K) (yX9_beginsHandOverTo, cX9_beginsHandOverTo, 2, (some .boolean)) 0 (0, 0) [.ref v0, .int (J3 (LR (LR v0 2) r3.toNatClampNeg) 0)] J3 (qI (p6 r3 J3)) nX) (k8 : ∀ (c1 : (I v0 11) ≤ 0) (c2 : (I v0 12) ≤ 0) (r3 : Int32) (J3 : zM) (q3 : p3 r3 J3) (c4 : ¬ r3 = (-1 : Int32)) (r6 : Int32) (J6 : zM) (q6 : p6 r3 J3 r6 J6) (c7 : ¬ r6 = 0), ZZ K (0, 0) 96 [(0, .ref v0), (1, .int (-1 : Int32))] [] J6) {p9 : Int32 → zM → Int32 → zM → zM → Prop} (m9 : ∀ (c1 : (I v0 11) ≤ 0) (c2 : (I v0 12) ≤ 0) (r3 : Int32) (J3 : zM) (q3 : p3 r3 J3) (c4 : ¬ r3 = (-1 : Int32)) (r6 : Int32) (J6 : zM) (q6 : p6 r3 J3 r6 J6) (c7 : r6 = 0), CT (kG K) (kw K) (kl K) (yX9_write, cX9_write, 4, none) 1 (0, 0) [.ref v0, .int r3] J6 (qV (p9 r3 J3 r6 J6)) nX) (k10 : ∀ (c1 : (I v0 11) ≤ 0) (c2 : (I v0 12) ≤ 0) (r3 : Int32) (J3 : zM) (q3 : p3 r3 J3) (c4 : ¬ r3 = (-1 : Int32)) (r6 : Int32) (J6 : zM) (q6 : p6 r3 J3 r6 J6) (c7 : r6 = 0) (J9 : zM) (q9 : p9 r3 J3 r6 J6 J9), ZZ K (0, 0) 96 [(0, .ref v0), (1, .int r3)] [] J9) (k11 : ∀ (c1 : (I v0 11) ≤ 0) (c2 : (I v0 12) ≤ 0) (r3 : Int32) (J3 : zM) (q3 : p3 r3 J3) (c4 : r3 = (-1 : Int32)), ZZ K (0, 0) 96 [(0, .ref v0), (1, .int (-1 : Int32))] [] (up J3 v0 16 ((J3 v0 16) + (1 : Int32)))) (k12 : ∀ (c1 : (I v0 11) ≤ 0) (c2 : ¬ (I v0 12) ≤ 0), ZZ K (0, 0) 96 [(0, .ref v0), (1, .int (-1 : Int32))] [] (up (up I v0 18 ((I v0 18) + (1 : Int32))) v0 12 (((up I v0 18 ((I v0 18) + (1 : Int32))) v0 12) - (1 : Int32)))) {p13 : zM → Prop} (m13 : ∀ (c1 : ¬ (I v0 11) ≤ 0), CT (kG K) (kw K) (kl K) (yX9_refill, cX9_refill, 1, none) 0 (0, 0) [.ref v0] I (qV p13) nX) (k14 : ∀ (c1 : ¬ (I v0 11) ≤ 0) (J13 : zM) (q13 : p13 J13), ZZ K (0, 0) 96 [(0, .ref v0), (1, .int (-1 : Int32))] [] J13) : ZZ K (0, 0) 0 [(0, .ref v0)] [] I := by
  obtain ⟨hb, ho, hnl, hR, hE⟩ := hK
  refine zz_iconst (v := (-1 : Int32)) hb (z_dec dX9_runMinute 0 rfl) (by decide) ?_
  refine zz_istore_n (L' := [(0, .ref v0), (1, .int (-1 : Int32))]) hb (z_dec dX9_runMinute 1 rfl) rfl hnl rfl [1, 0] rfl ?_
  refine zz_aload_n hb (z_dec dX9_runMinute 2 rfl) rfl 0 rfl ?_
  refine zz_get (k := 11) hb ho ckX9 t0 rfl rfl (rX9_runMinute 0 rfl) rfl (z_dec dX9_runMinute 3 rfl) ?_
  refine zz_if_le (tgt := 16) hb (z_dec dX9_runMinute 4 rfl) (by decide) (fun c1 => ?_) (fun c1 => ?_)
  · refine zz_aload_n hb (z_dec dX9_runMinute 8 rfl) rfl 0 rfl ?_
    refine zz_get (k := 12) hb ho ckX9 t0 rfl rfl (rX9_runMinute 4 rfl) rfl (z_dec dX9_runMinute 9 rfl) ?_
    refine zz_if_le (tgt := 46) hb (z_dec dX9_runMinute 10 rfl) (by decide) (fun c2 => ?_) (fun c2 => ?_)
    · refine zz_aload_n hb (z_dec dX9_runMinute 24 rfl) rfl 0 rfl ?_
      refine zz_aload_n hb (z_dec dX9_runMinute 25 rfl) rfl 0 rfl ?_
      refine zz_get (k := 5) hb ho ckX9 t0 rfl rfl (rX9_runMinute 6 rfl) rfl (z_dec dX9_runMinute 26 rfl) ?_
      refine zz_inv (as := [.int (I v0 5)]) (d := 2) (mc := (0, 0)) (P := qI p3) (X := nX) hb ho hnl hR hE mkX9_selectBy rfl ckX9 t0 rfl ⟨Nat.le_refl 0, Nat.le_refl 0⟩ rfl (rX9_runMinute 7 rfl) (rX9_runMinute 8 rfl) (rX9_runMinute 9 rfl) rfl (z_dec dX9_runMinute 27 rfl) (m3 c1 c2) (fun v J3 hp => ?_) (fun _ _ h => h.elim)
      obtain ⟨r3, rfl, q3⟩ := hp
      show ZZ K (0, 0) 54 [(0, .ref v0), (1, .int (-1 : Int32))] [.int r3] J3
      refine zz_istore_n (L' := [(0, .ref v0), (1, .int (-1 : Int32)), (2, .int r3)]) hb (z_dec dX9_runMinute 28 rfl) rfl hnl rfl [1, 2, 0] rfl ?_
      refine zz_iload_n hb (z_dec dX9_runMinute 29 rfl) rfl 2 rfl ?_
      refine zz_iconst (v := (-1 : Int32)) hb (z_dec dX9_runMinute 30 rfl) (by decide) ?_
      refine zz_icmp_ne (tgt := 73) hb (z_dec dX9_runMinute 31 rfl) (by decide) (fun c4 => ?_) (fun c4 => ?_)
      · refine zz_aload_n hb (z_dec dX9_runMinute 39 rfl) rfl 0 rfl ?_
        refine zz_aload_n hb (z_dec dX9_runMinute 40 rfl) rfl 0 rfl ?_
        refine zz_getr (k := 2) (q := (LR v0 2)) hb ho rfl ckX9 t0 rfl rfl (rX9_runMinute 11 rfl) rfl (z_dec dX9_runMinute 41 rfl) ?_
        refine zz_iload_n hb (z_dec dX9_runMinute 42 rfl) rfl 2 rfl ?_
        refine zz_aald (j := r3.toNatClampNeg) (q := (LR (LR v0 2) r3.toNatClampNeg)) hb (show isT (kw K) 31 (LR v0 2) from isT.f (k := 2) t0 hw rfl rfl rfl (by decide)) (by decide) rfl rfl (zvi (zLn9 hw t0) (h5 c1 c2 r3 J3 q3 c4)) (z_dec dX9_runMinute 43 rfl) ?_
        refine zz_get (k := 0) hb ho ckX5 (show isT (kw K) 5 (LR (LR v0 2) r3.toNatClampNeg) from isT.a (i := r3) (show isT (kw K) 31 (LR v0 2) from isT.f (k := 2) t0 hw rfl rfl rfl (by decide)) hw (zvi (zLn9 hw t0) (h5 c1 c2 r3 J3 q3 c4)) rfl (fun _ => rfl) (by decide)) rfl rfl (rX9_runMinute 12 rfl) rfl (z_dec dX9_runMinute 44 rfl) ?_
        refine zz_inv (as := [.int (J3 (LR (LR v0 2) r3.toNatClampNeg) 0)]) (d := 0) (mc := (0, 0)) (P := qI (p6 r3 J3)) (X := nX) hb ho hnl hR hE mkX9_beginsHandOverTo rfl ckX9 t0 rfl ⟨Nat.le_refl 0, Nat.le_refl 0⟩ rfl (rX9_runMinute 13 rfl) (rX9_runMinute 14 rfl) (rX9_runMinute 15 rfl) rfl (z_dec dX9_runMinute 45 rfl) (m6 c1 c2 r3 J3 q3 c4) (fun v J6 hp => ?_) (fun _ _ h => h.elim)
        obtain ⟨r6, rfl, q6⟩ := hp
        show ZZ K (0, 0) 86 [(0, .ref v0), (1, .int (-1 : Int32)), (2, .int r3)] [.int r6] J6
        refine zz_if_ne (tgt := 96) hb (z_dec dX9_runMinute 46 rfl) (by decide) (fun c7 => ?_) (fun c7 => ?_)
        · refine zz_sub [0, 1] (L' := [(0, .ref v0), (1, .int (-1 : Int32))]) rfl ?_
          exact (k8 c1 c2 r3 J3 q3 c4 r6 J6 q6 c7)
        · refine zz_aload_n hb (z_dec dX9_runMinute 47 rfl) rfl 0 rfl ?_
          refine zz_iload_n hb (z_dec dX9_runMinute 48 rfl) rfl 2 rfl ?_
          refine zz_inv (as := [.int r3]) (d := 1) (mc := (0, 0)) (P := qV (p9 r3 J3 r6 J6)) (X := nX) hb ho hnl hR hE mkX9_write rfl ckX9 t0 rfl ⟨Nat.le_refl 0, Nat.le_refl 0⟩ rfl (rX9_runMinute 16 rfl) (rX9_runMinute 17 rfl) (rX9_runMinute 18 rfl) rfl (z_dec dX9_runMinute 49 rfl) (m9 c1 c2 r3 J3 q3 c4 r6 J6 q6 c7) (fun v J9 hp => ?_) (fun _ _ h => h.elim)
          obtain ⟨rfl, q9⟩ := hp
          show ZZ K (0, 0) 94 [(0, .ref v0), (1, .int (-1 : Int32)), (2, .int r3)] [] J9
          refine zz_iload_n hb (z_dec dX9_runMinute 50 rfl) rfl 2 rfl ?_
          refine zz_istore_n (L' := [(0, .ref v0), (1, .int r3), (2, .int r3)]) hb (z_dec dX9_runMinute 51 rfl) rfl hnl rfl [1, 0, 2] rfl ?_
          refine zz_sub [0, 1] (L' := [(0, .ref v0), (1, .int r3)]) rfl ?_
          exact (k10 c1 c2 r3 J3 q3 c4 r6 J6 q6 c7 J9 q9)
      · refine zz_aload_n hb (z_dec dX9_runMinute 32 rfl) rfl 0 rfl ?_
        refine zz_dup hb (z_dec dX9_runMinute 33 rfl) rfl ?_
        refine zz_get (k := 16) hb ho ckX9 t0 rfl rfl (rX9_runMinute 10 rfl) rfl (z_dec dX9_runMinute 34 rfl) ?_
        refine zz_iconst (v := (1 : Int32)) hb (z_dec dX9_runMinute 35 rfl) (by decide) ?_
        refine zz_iadd hb (z_dec dX9_runMinute 36 rfl) ?_
        refine zz_put (k := 16) hb ho ckX9 t0 rfl rfl (rX9_runMinute 10 rfl) rfl rfl rfl (z_dec dX9_runMinute 37 rfl) ?_
        refine zz_goto (tgt := 96) hb (z_dec dX9_runMinute 38 rfl) (by decide) ?_
        refine zz_sub [0, 1] (L' := [(0, .ref v0), (1, .int (-1 : Int32))]) rfl ?_
        exact (k11 c1 c2 r3 J3 q3 c4)
    · refine zz_aload_n hb (z_dec dX9_runMinute 11 rfl) rfl 0 rfl ?_
      refine zz_dup hb (z_dec dX9_runMinute 12 rfl) rfl ?_
      refine zz_get (k := 18) hb ho ckX9 t0 rfl rfl (rX9_runMinute 5 rfl) rfl (z_dec dX9_runMinute 13 rfl) ?_
      refine zz_iconst (v := (1 : Int32)) hb (z_dec dX9_runMinute 14 rfl) (by decide) ?_
      refine zz_iadd hb (z_dec dX9_runMinute 15 rfl) ?_
      refine zz_put (k := 18) hb ho ckX9 t0 rfl rfl (rX9_runMinute 5 rfl) rfl rfl rfl (z_dec dX9_runMinute 16 rfl) ?_
      refine zz_aload_n hb (z_dec dX9_runMinute 17 rfl) rfl 0 rfl ?_
      refine zz_dup hb (z_dec dX9_runMinute 18 rfl) rfl ?_
      refine zz_get (k := 12) hb ho ckX9 t0 rfl rfl (rX9_runMinute 4 rfl) rfl (z_dec dX9_runMinute 19 rfl) ?_
      refine zz_iconst (v := (1 : Int32)) hb (z_dec dX9_runMinute 20 rfl) (by decide) ?_
      refine zz_isub hb (z_dec dX9_runMinute 21 rfl) ?_
      refine zz_put (k := 12) hb ho ckX9 t0 rfl rfl (rX9_runMinute 4 rfl) rfl rfl rfl (z_dec dX9_runMinute 22 rfl) ?_
      refine zz_goto (tgt := 96) hb (z_dec dX9_runMinute 23 rfl) (by decide) ?_
      exact (k12 c1 c2)
  · refine zz_aload_n hb (z_dec dX9_runMinute 5 rfl) rfl 0 rfl ?_
    refine zz_inv (as := []) (d := 0) (mc := (0, 0)) (P := qV p13) (X := nX) hb ho hnl hR hE mkX9_refill rfl ckX9 t0 rfl ⟨Nat.le_refl 0, Nat.le_refl 0⟩ rfl (rX9_runMinute 1 rfl) (rX9_runMinute 2 rfl) (rX9_runMinute 3 rfl) rfl (z_dec dX9_runMinute 6 rfl) (m13 c1) (fun v J13 hp => ?_) (fun _ _ h => h.elim)
    obtain ⟨rfl, q13⟩ := hp
    show ZZ K (0, 0) 13 [(0, .ref v0), (1, .int (-1 : Int32))] [] J13
    refine zz_goto (tgt := 96) hb (z_dec dX9_runMinute 7 rfl) (by decide) ?_
    exact (k14 c1 J13 q13)
set_option maxRecDepth 20000 in
theorem bX9_runMinute_96 {K : zK} {P : Option Value → zM → Prop} {X : String → zM → Prop} (hK : zIs K RX9 cX9_runMinute 3 (some .int) 3 (0, 0) P X) (hw : wOK (kw K)) {I : zM} {v0 : Nat} (t0 : isT (kw K) 9 v0) {v1 : Int32} (h1 : P (some (.int v1)) (up I v0 4 ((I v0 4) + (1 : Int32)))) : ZZ K (0, 0) 96 [(0, .ref v0), (1, .int v1)] [] I := by
  obtain ⟨hb, ho, hnl, hR, hE⟩ := hK
  refine zz_aload_n hb (z_dec dX9_runMinute 52 rfl) rfl 0 rfl ?_
  refine zz_dup hb (z_dec dX9_runMinute 53 rfl) rfl ?_
  refine zz_get (k := 4) hb ho ckX9 t0 rfl rfl (rX9_runMinute 19 rfl) rfl (z_dec dX9_runMinute 54 rfl) ?_
  refine zz_iconst (v := (1 : Int32)) hb (z_dec dX9_runMinute 55 rfl) (by decide) ?_
  refine zz_iadd hb (z_dec dX9_runMinute 56 rfl) ?_
  refine zz_put (k := 4) hb ho ckX9 t0 rfl rfl (rX9_runMinute 19 rfl) rfl rfl rfl (z_dec dX9_runMinute 57 rfl) ?_
  refine zz_iload_n hb (z_dec dX9_runMinute 58 rfl) rfl 1 rfl ?_
  exact zz_iret hb hE ⟨Nat.le_refl 0, Nat.le_refl 0⟩ (z_dec dX9_runMinute 59 rfl) h1
set_option maxRecDepth 20000 in
theorem bX5_isReadyAt_0 {K : zK} {P : Option Value → zM → Prop} {X : String → zM → Prop} (hK : zIs K RX5 cX5_isReadyAt 2 (some .boolean) 0 (0, 0) P X) (hw : wOK (kw K)) {I : zM} {v0 : Nat} (t0 : isT (kw K) 5 v0) {v1 : Int32} (h2 : ∀ (c1 : v1 < (I v0 2)), P (some (.int (0 : Int32))) I) (h4 : ∀ (c1 : ¬ v1 < (I v0 2)) (c3 : (I v0 5) ≤ 0), P (some (.int (0 : Int32))) I) (h5 : ∀ (c1 : ¬ v1 < (I v0 2)) (c3 : ¬ (I v0 5) ≤ 0), P (some (.int (1 : Int32))) I) : ZZ K (0, 0) 0 [(0, .ref v0), (1, .int v1)] [] I := by
  obtain ⟨hb, ho, hnl, hR, hE⟩ := hK
  refine zz_aload_n hb (z_dec dX5_isReadyAt 0 rfl) rfl 0 rfl ?_
  refine zz_get (k := 2) hb ho ckX5 t0 rfl rfl (rX5_isReadyAt 0 rfl) rfl (z_dec dX5_isReadyAt 1 rfl) ?_
  refine zz_iload_n hb (z_dec dX5_isReadyAt 2 rfl) rfl 1 rfl ?_
  refine zz_icmp_gt (tgt := 19) hb (z_dec dX5_isReadyAt 3 rfl) (by decide) (fun c1 => ?_) (fun c1 => ?_)
  · refine zz_iconst (v := (0 : Int32)) hb (z_dec dX5_isReadyAt 9 rfl) (by decide) ?_
    exact zz_zret hb hE ⟨Nat.le_refl 0, Nat.le_refl 0⟩ (by decide) (z_dec dX5_isReadyAt 10 rfl) (h2 c1)
  · refine zz_aload_n hb (z_dec dX5_isReadyAt 4 rfl) rfl 0 rfl ?_
    refine zz_get (k := 5) hb ho ckX5 t0 rfl rfl (rX5_isReadyAt 1 rfl) rfl (z_dec dX5_isReadyAt 5 rfl) ?_
    refine zz_if_le (tgt := 19) hb (z_dec dX5_isReadyAt 6 rfl) (by decide) (fun c3 => ?_) (fun c3 => ?_)
    · refine zz_iconst (v := (0 : Int32)) hb (z_dec dX5_isReadyAt 9 rfl) (by decide) ?_
      exact zz_zret hb hE ⟨Nat.le_refl 0, Nat.le_refl 0⟩ (by decide) (z_dec dX5_isReadyAt 10 rfl) (h4 c1 c3)
    · refine zz_iconst (v := (1 : Int32)) hb (z_dec dX5_isReadyAt 7 rfl) (by decide) ?_
      refine zz_goto (tgt := 20) hb (z_dec dX5_isReadyAt 8 rfl) (by decide) ?_
      exact zz_zret hb hE ⟨Nat.le_refl 0, Nat.le_refl 0⟩ (by decide) (z_dec dX5_isReadyAt 10 rfl) (h5 c1 c3)
set_option maxRecDepth 20000 in
theorem bX5_waitedAt_0 {K : zK} {P : Option Value → zM → Prop} {X : String → zM → Prop} (hK : zIs K RX5 cX5_waitedAt 3 (some .int) 0 (0, 0) P X) (hw : wOK (kw K)) {I : zM} {v0 : Nat} (t0 : isT (kw K) 5 v0) {v1 : Int32} (k3 : ∀ (c1 : (I v0 2) ≤ v1) (c2 : ¬ (I v0 5) = 0), ZZ K (0, 0) 25 [(0, .ref v0), (1, .int v1)] [.int v1] I) (k4 : ∀ (c1 : (I v0 2) ≤ v1) (c2 : (I v0 5) = 0), ZZ K (0, 0) 25 [(0, .ref v0), (1, .int v1)] [.int (I v0 6)] I) (h5 : ∀ (c1 : ¬ (I v0 2) ≤ v1), P (some (.int (0 : Int32))) I) : ZZ K (0, 0) 0 [(0, .ref v0), (1, .int v1)] [] I := by
  obtain ⟨hb, ho, hnl, hR, hE⟩ := hK
  refine zz_aload_n hb (z_dec dX5_waitedAt 0 rfl) rfl 0 rfl ?_
  refine zz_get (k := 2) hb ho ckX5 t0 rfl rfl (rX5_waitedAt 0 rfl) rfl (z_dec dX5_waitedAt 1 rfl) ?_
  refine zz_iload_n hb (z_dec dX5_waitedAt 2 rfl) rfl 1 rfl ?_
  refine zz_icmp_le (tgt := 10) hb (z_dec dX5_waitedAt 3 rfl) (by decide) (fun c1 => ?_) (fun c1 => ?_)
  · refine zz_aload_n hb (z_dec dX5_waitedAt 6 rfl) rfl 0 rfl ?_
    refine zz_get (k := 5) hb ho ckX5 t0 rfl rfl (rX5_waitedAt 1 rfl) rfl (z_dec dX5_waitedAt 7 rfl) ?_
    refine zz_if_ne (tgt := 24) hb (z_dec dX5_waitedAt 8 rfl) (by decide) (fun c2 => ?_) (fun c2 => ?_)
    · refine zz_iload_n hb (z_dec dX5_waitedAt 12 rfl) rfl 1 rfl ?_
      exact (k3 c1 c2)
    · refine zz_aload_n hb (z_dec dX5_waitedAt 9 rfl) rfl 0 rfl ?_
      refine zz_get (k := 6) hb ho ckX5 t0 rfl rfl (rX5_waitedAt 2 rfl) rfl (z_dec dX5_waitedAt 10 rfl) ?_
      refine zz_goto (tgt := 25) hb (z_dec dX5_waitedAt 11 rfl) (by decide) ?_
      exact (k4 c1 c2)
  · refine zz_iconst (v := (0 : Int32)) hb (z_dec dX5_waitedAt 4 rfl) (by decide) ?_
    exact zz_iret hb hE ⟨Nat.le_refl 0, Nat.le_refl 0⟩ (z_dec dX5_waitedAt 5 rfl) (h5 c1)
set_option maxRecDepth 20000 in
theorem bX5_waitedAt_25 {K : zK} {P : Option Value → zM → Prop} {X : String → zM → Prop} (hK : zIs K RX5 cX5_waitedAt 3 (some .int) 0 (0, 0) P X) (hw : wOK (kw K)) {I : zM} {v0 : Nat} (t0 : isT (kw K) 5 v0) {v1 : Int32} {vs0 : Int32} (h1 : P (some (.int ((vs0 - (I v0 2)) - (I v0 7)))) I) : ZZ K (0, 0) 25 [(0, .ref v0), (1, .int v1)] [.int vs0] I := by
  obtain ⟨hb, ho, hnl, hR, hE⟩ := hK
  refine zz_istore_n (L' := [(0, .ref v0), (1, .int v1), (2, .int vs0)]) hb (z_dec dX5_waitedAt 13 rfl) rfl hnl rfl [1, 2, 0] rfl ?_
  refine zz_iload_n hb (z_dec dX5_waitedAt 14 rfl) rfl 2 rfl ?_
  refine zz_aload_n hb (z_dec dX5_waitedAt 15 rfl) rfl 0 rfl ?_
  refine zz_get (k := 2) hb ho ckX5 t0 rfl rfl (rX5_waitedAt 0 rfl) rfl (z_dec dX5_waitedAt 16 rfl) ?_
  refine zz_isub hb (z_dec dX5_waitedAt 17 rfl) ?_
  refine zz_aload_n hb (z_dec dX5_waitedAt 18 rfl) rfl 0 rfl ?_
  refine zz_get (k := 7) hb ho ckX5 t0 rfl rfl (rX5_waitedAt 3 rfl) rfl (z_dec dX5_waitedAt 19 rfl) ?_
  refine zz_isub hb (z_dec dX5_waitedAt 20 rfl) ?_
  exact zz_iret hb hE ⟨Nat.le_refl 0, Nat.le_refl 0⟩ (z_dec dX5_waitedAt 21 rfl) h1
set_option maxRecDepth 20000 in
theorem bX11_of_0 {K : zK} {P : Option Value → zM → Prop} {X : String → zM → Prop} (hK : zIs K RX11 cX11_of 3 (some .int) 0 (0, 0) P X) (hw : wOK (kw K)) {I : zM} (t0 : isT (kw K) 11 312) {v1 : Int32} {v2 : Int32} (h1 : vp_in (((64 : Int32) + (v1 * (8 : Int32))) + v2) 1600) (h2 : P (some (.int (I 313 (((64 : Int32) + (v1 * (8 : Int32))) + v2).toNatClampNeg))) I) : ZZ K (0, 0) 0 [(0, .ref 312), (1, .int v1), (2, .int v2)] [] I := by
  obtain ⟨hb, ho, hnl, hR, hE⟩ := hK
  refine zz_aload_n hb (z_dec dX11_of 0 rfl) rfl 0 rfl ?_
  refine zz_getr (k := 0) (q := 313) hb ho rfl ckX11 t0 rfl rfl (rX11_of 0 rfl) rfl (z_dec dX11_of 1 rfl) ?_
  refine zz_bipush (v := (64 : Int32)) hb (z_dec dX11_of 2 rfl) (by decide) ?_
  refine zz_iload_n hb (z_dec dX11_of 3 rfl) rfl 1 rfl ?_
  refine zz_bipush (v := (8 : Int32)) hb (z_dec dX11_of 4 rfl) (by decide) ?_
  refine zz_imul hb (z_dec dX11_of 5 rfl) ?_
  refine zz_iadd hb (z_dec dX11_of 6 rfl) ?_
  refine zz_iload_n hb (z_dec dX11_of 7 rfl) rfl 2 rfl ?_
  refine zz_iadd hb (z_dec dX11_of 8 rfl) ?_
  refine zz_iald (j := (((64 : Int32) + (v1 * (8 : Int32))) + v2).toNatClampNeg) hb (show isT (kw K) 20 313 from isT.f (k := 0) t0 hw rfl rfl rfl (by decide)) rfl (zvi rfl h1) (z_dec dX11_of 9 rfl) ?_
  exact zz_iret hb hE ⟨Nat.le_refl 0, Nat.le_refl 0⟩ (z_dec dX11_of 10 rfl) h2
set_option maxRecDepth 20000 in
theorem bX11_passMinute_0 {K : zK} {P : Option Value → zM → Prop} {X : String → zM → Prop} (hK : zIs K RX11 cX11_passMinute 2 none 7 (0, 0) P X) (hw : wOK (kw K)) {I : zM} (t0 : isT (kw K) 11 312) {p3 : Int32 → zM → Prop} (m3 : ∀ (c1 : (I 313 14) ≤ 0) (c2 : (I 313 15) ≤ 0), CT (kG K) (kw K) (kl K) (yX11_select, cX11_select, 4, (some .int)) 6 (0, 0) [.ref 312, .int (I 313 0)] I (qI p3) nX) {p5 : Int32 → zM → zM → Prop} (m5 : ∀ (c1 : (I 313 14) ≤ 0) (c2 : (I 313 15) ≤ 0) (r3 : Int32) (J3 : zM) (q3 : p3 r3 J3) (c4 : ¬ r3 = (-1 : Int32)), CT (kG K) (kw K) (kl K) (yX11_workOn, cX11_workOn, 2, none) 4 (0, 0) [.ref 312, .int r3] J3 (qV (p5 r3 J3)) nX) (k6 : ∀ (c1 : (I 313 14) ≤ 0) (c2 : (I 313 15) ≤ 0) (r3 : Int32) (J3 : zM) (q3 : p3 r3 J3) (c4 : ¬ r3 = (-1 : Int32)) (J5 : zM) (q5 : p5 r3 J3 J5), ZZ K (0, 0) 87 [(0, .ref 312)] [] J5) (k7 : ∀ (c1 : (I 313 14) ≤ 0) (c2 : (I 313 15) ≤ 0) (r3 : Int32) (J3 : zM) (q3 : p3 r3 J3) (c4 : r3 = (-1 : Int32)), ZZ K (0, 0) 87 [(0, .ref 312)] [] (up J3 313 19 ((J3 313 19) + (1 : Int32)))) (k8 : ∀ (c1 : (I 313 14) ≤ 0) (c2 : ¬ (I 313 15) ≤ 0), ZZ K (0, 0) 87 [(0, .ref 312)] [] (up (up I 313 15 ((I 313 15) - (1 : Int32))) 313 21 (((up I 313 15 ((I 313 15) - (1 : Int32))) 313 21) + (1 : Int32)))) {p9 : zM → Prop} (m9 : ∀ (c1 : ¬ (I 313 14) ≤ 0), CT (kG K) (kw K) (kl K) (yX11_refill, cX11_refill, 1, none) 0 (0, 0) [.ref 312] I (qV p9) nX) (k10 : ∀ (c1 : ¬ (I 313 14) ≤ 0) (J9 : zM) (q9 : p9 J9), ZZ K (0, 0) 87 [(0, .ref 312)] [] J9) : ZZ K (0, 0) 0 [(0, .ref 312)] [] I := by
  obtain ⟨hb, ho, hnl, hR, hE⟩ := hK
  refine zz_aload_n hb (z_dec dX11_passMinute 0 rfl) rfl 0 rfl ?_
  refine zz_getr (k := 0) (q := 313) hb ho rfl ckX11 t0 rfl rfl (rX11_passMinute 0 rfl) rfl (z_dec dX11_passMinute 1 rfl) ?_
  refine zz_bipush (v := (14 : Int32)) hb (z_dec dX11_passMinute 2 rfl) (by decide) ?_
  refine zz_iald (j := 14) hb (show isT (kw K) 20 313 from isT.f (k := 0) t0 hw rfl rfl rfl (by decide)) rfl (zvi rfl (zin rfl)) (z_dec dX11_passMinute 3 rfl) ?_
  refine zz_if_le (tgt := 17) hb (z_dec dX11_passMinute 4 rfl) (by decide) (fun c1 => ?_) (fun c1 => ?_)
  · refine zz_aload_n hb (z_dec dX11_passMinute 8 rfl) rfl 0 rfl ?_
    refine zz_getr (k := 0) (q := 313) hb ho rfl ckX11 t0 rfl rfl (rX11_passMinute 0 rfl) rfl (z_dec dX11_passMinute 9 rfl) ?_
    refine zz_bipush (v := (15 : Int32)) hb (z_dec dX11_passMinute 10 rfl) (by decide) ?_
    refine zz_iald (j := 15) hb (show isT (kw K) 20 313 from isT.f (k := 0) t0 hw rfl rfl rfl (by decide)) rfl (zvi rfl (zin rfl)) (z_dec dX11_passMinute 11 rfl) ?_
    refine zz_if_le (tgt := 52) hb (z_dec dX11_passMinute 12 rfl) (by decide) (fun c2 => ?_) (fun c2 => ?_)
    · refine zz_aload_n hb (z_dec dX11_passMinute 30 rfl) rfl 0 rfl ?_
      refine zz_aload_n hb (z_dec dX11_passMinute 31 rfl) rfl 0 rfl ?_
      refine zz_getr (k := 0) (q := 313) hb ho rfl ckX11 t0 rfl rfl (rX11_passMinute 0 rfl) rfl (z_dec dX11_passMinute 32 rfl) ?_
      refine zz_iconst (v := (0 : Int32)) hb (z_dec dX11_passMinute 33 rfl) (by decide) ?_
      refine zz_iald (j := 0) hb (show isT (kw K) 20 313 from isT.f (k := 0) t0 hw rfl rfl rfl (by decide)) rfl (zvi rfl (zin rfl)) (z_dec dX11_passMinute 34 rfl) ?_
      refine zz_inv (as := [.int (I 313 0)]) (d := 6) (mc := (0, 0)) (P := qI p3) (X := nX) hb ho hnl hR hE mkX11_select rfl ckX11 t0 rfl ⟨Nat.le_refl 0, Nat.le_refl 0⟩ rfl (rX11_passMinute 4 rfl) (rX11_passMinute 5 rfl) (rX11_passMinute 6 rfl) rfl (z_dec dX11_passMinute 35 rfl) (m3 c1 c2) (fun v J3 hp => ?_) (fun _ _ h => h.elim)
      obtain ⟨r3, rfl, q3⟩ := hp
      show ZZ K (0, 0) 62 [(0, .ref 312)] [.int r3] J3
      refine zz_istore_n (L' := [(0, .ref 312), (1, .int r3)]) hb (z_dec dX11_passMinute 36 rfl) rfl hnl rfl [1, 0] rfl ?_
      refine zz_iload_n hb (z_dec dX11_passMinute 37 rfl) rfl 1 rfl ?_
      refine zz_iconst (v := (-1 : Int32)) hb (z_dec dX11_passMinute 38 rfl) (by decide) ?_
      refine zz_icmp_ne (tgt := 82) hb (z_dec dX11_passMinute 39 rfl) (by decide) (fun c4 => ?_) (fun c4 => ?_)
      · refine zz_aload_n hb (z_dec dX11_passMinute 49 rfl) rfl 0 rfl ?_
        refine zz_iload_n hb (z_dec dX11_passMinute 50 rfl) rfl 1 rfl ?_
        refine zz_inv (as := [.int r3]) (d := 4) (mc := (0, 0)) (P := qV (p5 r3 J3)) (X := nX) hb ho hnl hR hE mkX11_workOn rfl ckX11 t0 rfl ⟨Nat.le_refl 0, Nat.le_refl 0⟩ rfl (rX11_passMinute 7 rfl) (rX11_passMinute 8 rfl) (rX11_passMinute 9 rfl) rfl (z_dec dX11_passMinute 51 rfl) (m5 c1 c2 r3 J3 q3 c4) (fun v J5 hp => ?_) (fun _ _ h => h.elim)
        obtain ⟨rfl, q5⟩ := hp
        show ZZ K (0, 0) 87 [(0, .ref 312), (1, .int r3)] [] J5
        refine zz_sub [0] (L' := [(0, .ref 312)]) rfl ?_
        exact (k6 c1 c2 r3 J3 q3 c4 J5 q5)
      · refine zz_aload_n hb (z_dec dX11_passMinute 40 rfl) rfl 0 rfl ?_
        refine zz_getr (k := 0) (q := 313) hb ho rfl ckX11 t0 rfl rfl (rX11_passMinute 0 rfl) rfl (z_dec dX11_passMinute 41 rfl) ?_
        refine zz_bipush (v := (19 : Int32)) hb (z_dec dX11_passMinute 42 rfl) (by decide) ?_
        refine zz_dup2 hb (z_dec dX11_passMinute 43 rfl) rfl rfl ?_
        refine zz_iald (j := 19) hb (show isT (kw K) 20 313 from isT.f (k := 0) t0 hw rfl rfl rfl (by decide)) rfl (zvi rfl (zin rfl)) (z_dec dX11_passMinute 44 rfl) ?_
        refine zz_iconst (v := (1 : Int32)) hb (z_dec dX11_passMinute 45 rfl) (by decide) ?_
        refine zz_iadd hb (z_dec dX11_passMinute 46 rfl) ?_
        refine zz_iast (j := 19) hb (show isT (kw K) 20 313 from isT.f (k := 0) t0 hw rfl rfl rfl (by decide)) rfl (zvi rfl (zin rfl)) (z_dec dX11_passMinute 47 rfl) ?_
        refine zz_goto (tgt := 87) hb (z_dec dX11_passMinute 48 rfl) (by decide) ?_
        refine zz_sub [0] (L' := [(0, .ref 312)]) rfl ?_
        exact (k7 c1 c2 r3 J3 q3 c4)
    · refine zz_aload_n hb (z_dec dX11_passMinute 13 rfl) rfl 0 rfl ?_
      refine zz_getr (k := 0) (q := 313) hb ho rfl ckX11 t0 rfl rfl (rX11_passMinute 0 rfl) rfl (z_dec dX11_passMinute 14 rfl) ?_
      refine zz_bipush (v := (15 : Int32)) hb (z_dec dX11_passMinute 15 rfl) (by decide) ?_
      refine zz_dup2 hb (z_dec dX11_passMinute 16 rfl) rfl rfl ?_
      refine zz_iald (j := 15) hb (show isT (kw K) 20 313 from isT.f (k := 0) t0 hw rfl rfl rfl (by decide)) rfl (zvi rfl (zin rfl)) (z_dec dX11_passMinute 17 rfl) ?_
      refine zz_iconst (v := (1 : Int32)) hb (z_dec dX11_passMinute 18 rfl) (by decide) ?_
      refine zz_isub hb (z_dec dX11_passMinute 19 rfl) ?_
      refine zz_iast (j := 15) hb (show isT (kw K) 20 313 from isT.f (k := 0) t0 hw rfl rfl rfl (by decide)) rfl (zvi rfl (zin rfl)) (z_dec dX11_passMinute 20 rfl) ?_
      refine zz_aload_n hb (z_dec dX11_passMinute 21 rfl) rfl 0 rfl ?_
      refine zz_getr (k := 0) (q := 313) hb ho rfl ckX11 t0 rfl rfl (rX11_passMinute 0 rfl) rfl (z_dec dX11_passMinute 22 rfl) ?_
      refine zz_bipush (v := (21 : Int32)) hb (z_dec dX11_passMinute 23 rfl) (by decide) ?_
      refine zz_dup2 hb (z_dec dX11_passMinute 24 rfl) rfl rfl ?_
      refine zz_iald (j := 21) hb (show isT (kw K) 20 313 from isT.f (k := 0) t0 hw rfl rfl rfl (by decide)) rfl (zvi rfl (zin rfl)) (z_dec dX11_passMinute 25 rfl) ?_
      refine zz_iconst (v := (1 : Int32)) hb (z_dec dX11_passMinute 26 rfl) (by decide) ?_
      refine zz_iadd hb (z_dec dX11_passMinute 27 rfl) ?_
      refine zz_iast (j := 21) hb (show isT (kw K) 20 313 from isT.f (k := 0) t0 hw rfl rfl rfl (by decide)) rfl (zvi rfl (zin rfl)) (z_dec dX11_passMinute 28 rfl) ?_
      refine zz_goto (tgt := 87) hb (z_dec dX11_passMinute 29 rfl) (by decide) ?_
      exact (k8 c1 c2)
  · refine zz_aload_n hb (z_dec dX11_passMinute 5 rfl) rfl 0 rfl ?_
    refine zz_inv (as := []) (d := 0) (mc := (0, 0)) (P := qV p9) (X := nX) hb ho hnl hR hE mkX11_refill rfl ckX11 t0 rfl ⟨Nat.le_refl 0, Nat.le_refl 0⟩ rfl (rX11_passMinute 1 rfl) (rX11_passMinute 2 rfl) (rX11_passMinute 3 rfl) rfl (z_dec dX11_passMinute 6 rfl) (m9 c1) (fun v J9 hp => ?_) (fun _ _ h => h.elim)
    obtain ⟨rfl, q9⟩ := hp
    show ZZ K (0, 0) 14 [(0, .ref 312)] [] J9
    refine zz_goto (tgt := 87) hb (z_dec dX11_passMinute 7 rfl) (by decide) ?_
    exact (k10 c1 J9 q9)
set_option maxRecDepth 20000 in
theorem bX11_passMinute_87 {K : zK} {P : Option Value → zM → Prop} {X : String → zM → Prop} (hK : zIs K RX11 cX11_passMinute 2 none 7 (0, 0) P X) (hw : wOK (kw K)) {I : zM} (t0 : isT (kw K) 11 312) (h1 : P none (up I 313 9 ((I 313 9) + (1 : Int32)))) : ZZ K (0, 0) 87 [(0, .ref 312)] [] I := by
  obtain ⟨hb, ho, hnl, hR, hE⟩ := hK
  refine zz_aload_n hb (z_dec dX11_passMinute 52 rfl) rfl 0 rfl ?_
  refine zz_getr (k := 0) (q := 313) hb ho rfl ckX11 t0 rfl rfl (rX11_passMinute 0 rfl) rfl (z_dec dX11_passMinute 53 rfl) ?_
  refine zz_bipush (v := (9 : Int32)) hb (z_dec dX11_passMinute 54 rfl) (by decide) ?_
  refine zz_dup2 hb (z_dec dX11_passMinute 55 rfl) rfl rfl ?_
  refine zz_iald (j := 9) hb (show isT (kw K) 20 313 from isT.f (k := 0) t0 hw rfl rfl rfl (by decide)) rfl (zvi rfl (zin rfl)) (z_dec dX11_passMinute 56 rfl) ?_
  refine zz_iconst (v := (1 : Int32)) hb (z_dec dX11_passMinute 57 rfl) (by decide) ?_
  refine zz_iadd hb (z_dec dX11_passMinute 58 rfl) ?_
  refine zz_iast (j := 9) hb (show isT (kw K) 20 313 from isT.f (k := 0) t0 hw rfl rfl rfl (by decide)) rfl (zvi rfl (zin rfl)) (z_dec dX11_passMinute 59 rfl) ?_
  exact zz_vret hb hE ⟨Nat.le_refl 0, Nat.le_refl 0⟩ (z_dec dX11_passMinute 60 rfl) h1
set_option maxRecDepth 20000 in
theorem bX11_copyBlock_0 {K : zK} {P : Option Value → zM → Prop} {X : String → zM → Prop} (hK : zIs K RX11 cX11_copyBlock 4 none 0 (0, 0) P X) (hw : wOK (kw K)) {I : zM} (t0 : isT (kw K) 11 312) {v1 : Int32} {v2 : Int32} (k1 : ZZ K (0, 0) 2 [(0, .ref 312), (1, .int v1), (2, .int v2), (3, .int (0 : Int32))] [] I) : ZZ K (0, 0) 0 [(0, .ref 312), (1, .int v1), (2, .int v2)] [] I := by
  obtain ⟨hb, ho, hnl, hR, hE⟩ := hK
  refine zz_iconst (v := (0 : Int32)) hb (z_dec dX11_copyBlock 0 rfl) (by decide) ?_
  refine zz_istore_n (L' := [(0, .ref 312), (1, .int v1), (2, .int v2), (3, .int (0 : Int32))]) hb (z_dec dX11_copyBlock 1 rfl) rfl hnl rfl [1, 2, 3, 0] rfl ?_
  exact k1
set_option maxRecDepth 20000 in
theorem bX11_copyBlock_2 {K : zK} {P : Option Value → zM → Prop} {X : String → zM → Prop} (hK : zIs K RX11 cX11_copyBlock 4 none 0 (0, 0) P X) (hw : wOK (kw K)) {I : zM} (t0 : isT (kw K) 11 312) {v1 : Int32} {v2 : Int32} {v3 : Int32} (h2 : ∀ (c1 : (160 : Int32) ≤ v3), P none I) (h3 : ∀ (c1 : ¬ (160 : Int32) ≤ v3), vp_in ((v1 * (160 : Int32)) + v3) 1600) (h4 : ∀ (c1 : ¬ (160 : Int32) ≤ v3), vp_in ((v2 * (160 : Int32)) + v3) 1600) (k5 : ∀ (c1 : ¬ (160 : Int32) ≤ v3), ZZ K (0, 0) 2 [(0, .ref 312), (1, .int v1), (2, .int v2), (3, .int (v3 + 1))] [] (up I 313 (((v2 * (160 : Int32)) + v3).toNatClampNeg) (I 313 ((v1 * (160 : Int32)) + v3).toNatClampNeg))) : ZZ K (0, 0) 2 [(0, .ref 312), (1, .int v1), (2, .int v2), (3, .int v3)] [] I := by
  obtain ⟨hb, ho, hnl, hR, hE⟩ := hK
  refine zz_iload_n hb (z_dec dX11_copyBlock 2 rfl) rfl 3 rfl ?_
  refine zz_sipush (v := (160 : Int32)) hb (z_dec dX11_copyBlock 3 rfl) (by decide) ?_
  refine zz_icmp_ge (tgt := 39) hb (z_dec dX11_copyBlock 4 rfl) (by decide) (fun c1 => ?_) (fun c1 => ?_)
  · exact zz_vret hb hE ⟨Nat.le_refl 0, Nat.le_refl 0⟩ (z_dec dX11_copyBlock 23 rfl) (h2 c1)
  · refine zz_aload_n hb (z_dec dX11_copyBlock 5 rfl) rfl 0 rfl ?_
    refine zz_getr (k := 0) (q := 313) hb ho rfl ckX11 t0 rfl rfl (rX11_copyBlock 0 rfl) rfl (z_dec dX11_copyBlock 6 rfl) ?_
    refine zz_iload_n hb (z_dec dX11_copyBlock 7 rfl) rfl 2 rfl ?_
    refine zz_sipush (v := (160 : Int32)) hb (z_dec dX11_copyBlock 8 rfl) (by decide) ?_
    refine zz_imul hb (z_dec dX11_copyBlock 9 rfl) ?_
    refine zz_iload_n hb (z_dec dX11_copyBlock 10 rfl) rfl 3 rfl ?_
    refine zz_iadd hb (z_dec dX11_copyBlock 11 rfl) ?_
    refine zz_aload_n hb (z_dec dX11_copyBlock 12 rfl) rfl 0 rfl ?_
    refine zz_getr (k := 0) (q := 313) hb ho rfl ckX11 t0 rfl rfl (rX11_copyBlock 0 rfl) rfl (z_dec dX11_copyBlock 13 rfl) ?_
    refine zz_iload_n hb (z_dec dX11_copyBlock 14 rfl) rfl 1 rfl ?_
    refine zz_sipush (v := (160 : Int32)) hb (z_dec dX11_copyBlock 15 rfl) (by decide) ?_
    refine zz_imul hb (z_dec dX11_copyBlock 16 rfl) ?_
    refine zz_iload_n hb (z_dec dX11_copyBlock 17 rfl) rfl 3 rfl ?_
    refine zz_iadd hb (z_dec dX11_copyBlock 18 rfl) ?_
    refine zz_iald (j := ((v1 * (160 : Int32)) + v3).toNatClampNeg) hb (show isT (kw K) 20 313 from isT.f (k := 0) t0 hw rfl rfl rfl (by decide)) rfl (zvi rfl (h3 c1)) (z_dec dX11_copyBlock 19 rfl) ?_
    refine zz_iast (j := ((v2 * (160 : Int32)) + v3).toNatClampNeg) hb (show isT (kw K) 20 313 from isT.f (k := 0) t0 hw rfl rfl rfl (by decide)) rfl (zvi rfl (h4 c1)) (z_dec dX11_copyBlock 20 rfl) ?_
    refine zz_iinc (v := (v3 + 1)) (L' := [(0, .ref 312), (1, .int v1), (2, .int v2), (3, .int (v3 + 1))]) hb (z_dec dX11_copyBlock 21 rfl) 3 rfl rfl hnl rfl [1, 2, 3, 0] rfl ?_
    refine zz_goto (tgt := 2) hb (z_dec dX11_copyBlock 22 rfl) (by decide) ?_
    exact (k5 c1)
set_option maxRecDepth 20000 in
theorem bX10_selectedBy_0 {K : zK} {P : Option Value → zM → Prop} {X : String → zM → Prop} {u mc : Nat × Nat} (hK : zIs K RX10 cX10_selectedBy 2 (some .int) 7 mc P X) (hw : wOK (kw K)) {I : zM} (t0 : isT (kw K) 10 0) {v1 : Int32} {p1 : Nat → zM → Prop} (g1 : u.1 ≤ mc.1 ∧ u.2 ≤ mc.2) (m1 : CT (kG K) (kw K) (kl K) (yX10_policyFault, cX10_policyFault, 1, (some (.object "PenOffice$Fault"))) 1 (0, 0) [.int v1] I (qR p1) nX) {p2 : Nat → zM → zM → Prop} {mc2 : Nat × Nat} {x2 : Nat → zM → String → zM → Prop} (g2 : u.1 + mc2.1 ≤ mc.1 ∧ u.2 + mc2.2 ≤ mc.2) (n2 : ∀ (r1 : Nat) (J1 : zM) (q1 : p1 r1 J1), ∀ (E : String) (J : zM), x2 r1 J1 E J → X E J) (m2 : ∀ (r1 : Nat) (J1 : zM) (q1 : p1 r1 J1), CT (kG K) (kw K) (kl K) (yX10_refuse, cX10_refuse, 1, none) 6 mc2 [.ref r1] J1 (qV (p2 r1 J1)) (x2 r1 J1)) {p3 : Nat → zM → zM → Int32 → zM → Prop} (g3 : (u.1 + mc2.1, u.2 + mc2.2).1 ≤ mc.1 ∧ (u.1 + mc2.1, u.2 + mc2.2).2 ≤ mc.2) (m3 : ∀ (r1 : Nat) (J1 : zM) (q1 : p1 r1 J1) (J2 : zM) (q2 : p2 r1 J1 J2), CT (kG K) (kw K) (kl K) (yX9_selectBy, cX9_selectBy, 6, (some .int)) 2 (0, 0) [.ref 288, .int v1] J2 (qI (p3 r1 J1 J2)) nX) (g4 : (u.1 + mc2.1, u.2 + mc2.2).1 ≤ mc.1 ∧ (u.1 + mc2.1, u.2 + mc2.2).2 ≤ mc.2) (h5 : ∀ (r1 : Nat) (J1 : zM) (q1 : p1 r1 J1) (J2 : zM) (q2 : p2 r1 J1 J2) (r3 : Int32) (J3 : zM) (q3 : p3 r1 J1 J2 r3 J3), P (some (.int r3)) J3) : ZZ K u 0 [(0, .ref 0), (1, .int v1)] [] I := by
  obtain ⟨hb, ho, hnl, hR, hE⟩ := hK
  refine zz_iload_n hb (z_dec dX10_selectedBy 0 rfl) rfl 1 rfl ?_
  refine zz_invS (as := [.int v1]) (d := 1) (mc := (0, 0)) (P := qR p1) (X := nX) hb ho hnl hR hE mkX10_policyFault rfl rfl g1 rfl (rX10_selectedBy 0 rfl) (rX10_selectedBy 1 rfl) rfl (z_dec dX10_selectedBy 1 rfl) m1 (fun v J1 hp => ?_) (fun _ _ h => h.elim)
  obtain ⟨r1, rfl, q1⟩ := hp
  show ZZ K u 4 [(0, .ref 0), (1, .int v1)] [.ref r1] J1
  refine zz_invS (as := [.ref r1]) (d := 6) (mc := mc2) (P := qV (p2 r1 J1)) (X := (x2 r1 J1)) hb ho hnl hR hE mkX10_refuse rfl rfl g2 rfl (rX10_selectedBy 2 rfl) (rX10_selectedBy 3 rfl) rfl (z_dec dX10_selectedBy 2 rfl) (m2 r1 J1 q1) (fun v J2 hp => ?_) (n2 r1 J1 q1)
  obtain ⟨rfl, q2⟩ := hp
  show ZZ K (u.1 + mc2.1, u.2 + mc2.2) 7 [(0, .ref 0), (1, .int v1)] [] J2
  refine zz_aload_n hb (z_dec dX10_selectedBy 3 rfl) rfl 0 rfl ?_
  refine zz_getr (k := 0) (q := 288) hb ho rfl ckX10 t0 rfl rfl (rX10_selectedBy 4 rfl) rfl (z_dec dX10_selectedBy 4 rfl) ?_
  refine zz_iload_n hb (z_dec dX10_selectedBy 5 rfl) rfl 1 rfl ?_
  refine zz_inv (as := [.int v1]) (d := 2) (mc := (0, 0)) (P := qI (p3 r1 J1 J2)) (X := nX) hb ho hnl hR hE mkX9_selectBy rfl ckX9 (show isT (kw K) 9 288 from isT.f (k := 0) t0 hw rfl rfl rfl (by decide)) rfl g3 rfl (rX10_selectedBy 5 rfl) (rX10_selectedBy 6 rfl) (rX10_selectedBy 7 rfl) rfl (z_dec dX10_selectedBy 6 rfl) (m3 r1 J1 q1 J2 q2) (fun v J3 hp => ?_) (fun _ _ h => h.elim)
  obtain ⟨r3, rfl, q3⟩ := hp
  show ZZ K (u.1 + mc2.1, u.2 + mc2.2) 15 [(0, .ref 0), (1, .int v1)] [.int r3] J3
  exact zz_iret hb hE g4 (z_dec dX10_selectedBy 7 rfl) (h5 r1 J1 q1 J2 q2 r3 J3 q3)
set_option maxRecDepth 20000 in
theorem bX4_takeNumbers_0 {K : zK} {P : Option Value → zM → Prop} {X : String → zM → Prop} (hK : zIs K RX4 cX4_takeNumbers 4 (some .boolean) 2 (0, 0) P X) (hw : wOK (kw K)) {I : zM} (t0 : isT (kw K) 4 285) {v1 n1 : Nat} {f1 : Nat → Int32} (o1 : zSA (kG K) v1 n1 f1) {v2 n2 : Nat} {f2 : Nat → Int32} (o2 : zSA (kG K) v2 n2 f2) (k1 : ZZ K (0, 0) 2 [(0, .ref 285), (1, .ref v1), (2, .ref v2), (3, .int (0 : Int32))] [] I) : ZZ K (0, 0) 0 [(0, .ref 285), (1, .ref v1), (2, .ref v2)] [] I := by
  obtain ⟨hb, ho, hnl, hR, hE⟩ := hK
  refine zz_iconst (v := (0 : Int32)) hb (z_dec dX4_takeNumbers 0 rfl) (by decide) ?_
  refine zz_istore_n (L' := [(0, .ref 285), (1, .ref v1), (2, .ref v2), (3, .int (0 : Int32))]) hb (z_dec dX4_takeNumbers 1 rfl) rfl hnl rfl [1, 2, 3, 0] rfl ?_
  exact k1
set_option maxRecDepth 20000 in
theorem bX4_takeNumbers_2 {K : zK} {P : Option Value → zM → Prop} {X : String → zM → Prop} (hK : zIs K RX4 cX4_takeNumbers 4 (some .boolean) 2 (0, 0) P X) (hw : wOK (kw K)) {I : zM} (t0 : isT (kw K) 4 285) {v1 n1 : Nat} {f1 : Nat → Int32} (o1 : zSA (kG K) v1 n1 f1) {v2 n2 : Nat} {f2 : Nat → Int32} (o2 : zSA (kG K) v2 n2 f2) {v3 : Int32} (h2 : ∀ (c1 : (Int32.ofNat n1) ≤ v3), P (some (.int (1 : Int32))) I) (h4 : ∀ (c1 : ¬ (Int32.ofNat n1) ≤ v3) (c3 : (Int32.ofNat n2) ≤ v3), P (some (.int (1 : Int32))) I) (h6 : ∀ (c1 : ¬ (Int32.ofNat n1) ≤ v3) (c3 : ¬ (Int32.ofNat n2) ≤ v3) (c5 : (Int32.ofNat (LL 287)) ≤ v3), P (some (.int (1 : Int32))) I) {p7 : Int32 → zM → Prop} (m7 : ∀ (c1 : ¬ (Int32.ofNat n1) ≤ v3) (c3 : ¬ (Int32.ofNat n2) ≤ v3) (c5 : ¬ (Int32.ofNat (LL 287)) ≤ v3), CT (kG K) (kw K) (kl K) (yX4_takeNumber, cX4_takeNumber, 4, (some .boolean)) 1 (0, 0) [.ref 285, .int v3] I (qI p7) nX) (h9 : ∀ (c1 : ¬ (Int32.ofNat n1) ≤ v3) (c3 : ¬ (Int32.ofNat n2) ≤ v3) (c5 : ¬ (Int32.ofNat (LL 287)) ≤ v3) (r7 : Int32) (J7 : zM) (q7 : p7 r7 J7) (c8 : ¬ r7 = 0), vp_in v3 7) (h10 : ∀ (c1 : ¬ (Int32.ofNat n1) ≤ v3) (c3 : ¬ (Int32.ofNat n2) ≤ v3) (c5 : ¬ (Int32.ofNat (LL 287)) ≤ v3) (r7 : Int32) (J7 : zM) (q7 : p7 r7 J7) (c8 : ¬ r7 = 0), vp_in v3 n1) (h11 : ∀ (c1 : ¬ (Int32.ofNat n1) ≤ v3) (c3 : ¬ (Int32.ofNat n2) ≤ v3) (c5 : ¬ (Int32.ofNat (LL 287)) ≤ v3) (r7 : Int32) (J7 : zM) (q7 : p7 r7 J7) (c8 : ¬ r7 = 0), vp_in v3 n2) {p12 : Int32 → zM → Int32 → zM → Prop} (m12 : ∀ (c1 : ¬ (Int32.ofNat n1) ≤ v3) (c3 : ¬ (Int32.ofNat n2) ≤ v3) (c5 : ¬ (Int32.ofNat (LL 287)) ≤ v3) (r7 : Int32) (J7 : zM) (q7 : p7 r7 J7) (c8 : ¬ r7 = 0), CT (kG K) (kw K) (kl K) (yX10_outside, cX10_outside, 3, (some .boolean)) 0 (0, 0) [.int (J7 287 v3.toNatClampNeg), .int (f1 (v3.toNatClampNeg)), .int (f2 (v3.toNatClampNeg))] J7 (qI (p12 r7 J7)) nX) {p14 : Int32 → zM → Int32 → zM → zM → Prop} (m14 : ∀ (c1 : ¬ (Int32.ofNat n1) ≤ v3) (c3 : ¬ (Int32.ofNat n2) ≤ v3) (c5 : ¬ (Int32.ofNat (LL 287)) ≤ v3) (r7 : Int32) (J7 : zM) (q7 : p7 r7 J7) (c8 : ¬ r7 = 0) (r12 : Int32) (J12 : zM) (q12 : p12 r7 J7 r12 J12) (c13 : r12 = 0), CT (kG K) (kw K) (kl K) (yX4_advance, cX4_advance, 1, none) 1 (0, 0) [.ref 285] J12 (qV (p14 r7 J7 r12 J12)) nX) (k15 : ∀ (c1 : ¬ (Int32.ofNat n1) ≤ v3) (c3 : ¬ (Int32.ofNat n2) ≤ v3) (c5 : ¬ (Int32.ofNat (LL 287)) ≤ v3) (r7 : Int32) (J7 : zM) (q7 : p7 r7 J7) (c8 : ¬ r7 = 0) (r12 : Int32) (J12 : zM) (q12 : p12 r7 J7 r12 J12) (c13 : r12 = 0) (J14 : zM) (q14 : p14 r7 J7 r12 J12 J14), ZZ K (0, 0) 2 [(0, .ref 285), (1, .ref v1), (2, .ref v2), (3, .int (v3 + 1))] [] J14) {p16 : Int32 → zM → Int32 → zM → Int32 → zM → Prop} (m16 : ∀ (c1 : ¬ (Int32.ofNat n1) ≤ v3) (c3 : ¬ (Int32.ofNat n2) ≤ v3) (c5 : ¬ (Int32.ofNat (LL 287)) ≤ v3) (r7 : Int32) (J7 : zM) (q7 : p7 r7 J7) (c8 : ¬ r7 = 0) (r12 : Int32) (J12 : zM) (q12 : p12 r7 J7 r12 J12) (c13 : ¬ r12 = 0), CT (kG K) (kw K) (kl K) (yX4_fail, cX4_fail, 2, (some .boolean)) 0 (0, 0) [.ref 285, .int (2 : Int32)] J12 (qI (p16 r7 J7 r12 J12)) nX) (h17 : ∀ (c1 : ¬ (Int32.ofNat n1) ≤ v3) (c3 : ¬ (Int32.ofNat n2) ≤ v3) (c5 : ¬ (Int32.ofNat (LL 287)) ≤ v3) (r7 : Int32) (J7 : zM) (q7 : p7 r7 J7) (c8 : ¬ r7 = 0) (r12 : Int32) (J12 : zM) (q12 : p12 r7 J7 r12 J12) (c13 : ¬ r12 = 0) (r16 : Int32) (J16 : zM) (q16 : p16 r7 J7 r12 J12 r16 J16), P (some (.int r16)) J16) (z18 : ∀ (c1 : ¬ (Int32.ofNat n1) ≤ v3) (c3 : ¬ (Int32.ofNat n2) ≤ v3) (c5 : ¬ (Int32.ofNat (LL 287)) ≤ v3) (r7 : Int32) (J7 : zM) (q7 : p7 r7 J7) (c8 : ¬ r7 = 0) (r12 : Int32) (J12 : zM) (q12 : p12 r7 J7 r12 J12) (c13 : ¬ r12 = 0) (r16 : Int32) (J16 : zM) (q16 : p16 r7 J7 r12 J12 r16 J16), r16 = 0 ∨ r16 = 1) (h19 : ∀ (c1 : ¬ (Int32.ofNat n1) ≤ v3) (c3 : ¬ (Int32.ofNat n2) ≤ v3) (c5 : ¬ (Int32.ofNat (LL 287)) ≤ v3) (r7 : Int32) (J7 : zM) (q7 : p7 r7 J7) (c8 : r7 = 0), P (some (.int (0 : Int32))) J7) : ZZ K (0, 0) 2 [(0, .ref 285), (1, .ref v1), (2, .ref v2), (3, .int v3)] [] I := by
  obtain ⟨hb, ho, hnl, hR, hE⟩ := hK
  refine zz_iload_n hb (z_dec dX4_takeNumbers 2 rfl) rfl 3 rfl ?_
  refine zz_aload_n hb (z_dec dX4_takeNumbers 3 rfl) rfl 1 rfl ?_
  refine zz_alenS (N := n1) (f := f1) hb o1 (z_dec dX4_takeNumbers 4 rfl) ?_
  refine zz_icmp_ge (tgt := 67) hb (z_dec dX4_takeNumbers 5 rfl) (by decide) (fun c1 => ?_) (fun c1 => ?_)
  · refine zz_iconst (v := (1 : Int32)) hb (z_dec dX4_takeNumbers 41 rfl) (by decide) ?_
    exact zz_zret hb hE ⟨Nat.le_refl 0, Nat.le_refl 0⟩ (by decide) (z_dec dX4_takeNumbers 42 rfl) (h2 c1)
  · refine zz_iload_n hb (z_dec dX4_takeNumbers 6 rfl) rfl 3 rfl ?_
    refine zz_aload_n hb (z_dec dX4_takeNumbers 7 rfl) rfl 2 rfl ?_
    refine zz_alenS (N := n2) (f := f2) hb o2 (z_dec dX4_takeNumbers 8 rfl) ?_
    refine zz_icmp_ge (tgt := 67) hb (z_dec dX4_takeNumbers 9 rfl) (by decide) (fun c3 => ?_) (fun c3 => ?_)
    · refine zz_iconst (v := (1 : Int32)) hb (z_dec dX4_takeNumbers 41 rfl) (by decide) ?_
      exact zz_zret hb hE ⟨Nat.le_refl 0, Nat.le_refl 0⟩ (by decide) (z_dec dX4_takeNumbers 42 rfl) (h4 c1 c3)
    · refine zz_iload_n hb (z_dec dX4_takeNumbers 10 rfl) rfl 3 rfl ?_
      refine zz_aload_n hb (z_dec dX4_takeNumbers 11 rfl) rfl 0 rfl ?_
      refine zz_getr (k := 5) (q := 287) hb ho rfl ckX4 t0 rfl rfl (rX4_takeNumbers 0 rfl) rfl (z_dec dX4_takeNumbers 12 rfl) ?_
      refine zz_alen hb (show isT (kw K) 20 287 from isT.f (k := 5) t0 hw rfl rfl rfl (by decide)) (z_dec dX4_takeNumbers 13 rfl) ?_
      refine zz_icmp_ge (tgt := 67) hb (z_dec dX4_takeNumbers 14 rfl) (by decide) (fun c5 => ?_) (fun c5 => ?_)
      · refine zz_iconst (v := (1 : Int32)) hb (z_dec dX4_takeNumbers 41 rfl) (by decide) ?_
        exact zz_zret hb hE ⟨Nat.le_refl 0, Nat.le_refl 0⟩ (by decide) (z_dec dX4_takeNumbers 42 rfl) (h6 c1 c3 c5)
      · refine zz_aload_n hb (z_dec dX4_takeNumbers 15 rfl) rfl 0 rfl ?_
        refine zz_iload_n hb (z_dec dX4_takeNumbers 16 rfl) rfl 3 rfl ?_
        refine zz_inv (as := [.int v3]) (d := 1) (mc := (0, 0)) (P := qI p7) (X := nX) hb ho hnl hR hE mkX4_takeNumber rfl ckX4 t0 rfl ⟨Nat.le_refl 0, Nat.le_refl 0⟩ rfl (rX4_takeNumbers 1 rfl) (rX4_takeNumbers 2 rfl) (rX4_takeNumbers 3 rfl) rfl (z_dec dX4_takeNumbers 17 rfl) (m7 c1 c3 c5) (fun v J7 hp => ?_) (fun _ _ h => h.elim)
        obtain ⟨r7, rfl, q7⟩ := hp
        show ZZ K (0, 0) 28 [(0, .ref 285), (1, .ref v1), (2, .ref v2), (3, .int v3)] [.int r7] J7
        refine zz_if_ne (tgt := 33) hb (z_dec dX4_takeNumbers 18 rfl) (by decide) (fun c8 => ?_) (fun c8 => ?_)
        · refine zz_aload_n hb (z_dec dX4_takeNumbers 21 rfl) rfl 0 rfl ?_
          refine zz_getr (k := 5) (q := 287) hb ho rfl ckX4 t0 rfl rfl (rX4_takeNumbers 0 rfl) rfl (z_dec dX4_takeNumbers 22 rfl) ?_
          refine zz_iload_n hb (z_dec dX4_takeNumbers 23 rfl) rfl 3 rfl ?_
          refine zz_iald (j := v3.toNatClampNeg) hb (show isT (kw K) 20 287 from isT.f (k := 5) t0 hw rfl rfl rfl (by decide)) rfl (zvi rfl (h9 c1 c3 c5 r7 J7 q7 c8)) (z_dec dX4_takeNumbers 24 rfl) ?_
          refine zz_aload_n hb (z_dec dX4_takeNumbers 25 rfl) rfl 1 rfl ?_
          refine zz_iload_n hb (z_dec dX4_takeNumbers 26 rfl) rfl 3 rfl ?_
          refine zz_ialdS (N := n1) (f := f1) (j := v3.toNatClampNeg) hb o1 rfl (h10 c1 c3 c5 r7 J7 q7 c8) (z_dec dX4_takeNumbers 27 rfl) ?_
          refine zz_aload_n hb (z_dec dX4_takeNumbers 28 rfl) rfl 2 rfl ?_
          refine zz_iload_n hb (z_dec dX4_takeNumbers 29 rfl) rfl 3 rfl ?_
          refine zz_ialdS (N := n2) (f := f2) (j := v3.toNatClampNeg) hb o2 rfl (h11 c1 c3 c5 r7 J7 q7 c8) (z_dec dX4_takeNumbers 30 rfl) ?_
          refine zz_invSN (as := [.int (J7 287 v3.toNatClampNeg), .int (f1 (v3.toNatClampNeg)), .int (f2 (v3.toNatClampNeg))]) (d := 0) (mc := (0, 0)) (P := qI (p12 r7 J7)) (X := nX) hb ho hnl hR hE mkX10_outside rfl rfl ⟨Nat.le_refl 0, Nat.le_refl 0⟩ rfl (List.mem_of_getElem? (i := 8) rfl) (rX4_takeNumbers 4 rfl) rfl (z_dec dX4_takeNumbers 31 rfl) (m12 c1 c3 c5 r7 J7 q7 c8) (fun v J12 hp => ?_) (fun _ _ h => h.elim)
          obtain ⟨r12, rfl, q12⟩ := hp
          show ZZ K (0, 0) 48 [(0, .ref 285), (1, .ref v1), (2, .ref v2), (3, .int v3)] [.int r12] J12
          refine zz_if_eq (tgt := 57) hb (z_dec dX4_takeNumbers 32 rfl) (by decide) (fun c13 => ?_) (fun c13 => ?_)
          · refine zz_aload_n hb (z_dec dX4_takeNumbers 37 rfl) rfl 0 rfl ?_
            refine zz_inv (as := []) (d := 1) (mc := (0, 0)) (P := qV (p14 r7 J7 r12 J12)) (X := nX) hb ho hnl hR hE mkX4_advance rfl ckX4 t0 rfl ⟨Nat.le_refl 0, Nat.le_refl 0⟩ rfl (rX4_takeNumbers 8 rfl) (rX4_takeNumbers 9 rfl) (rX4_takeNumbers 10 rfl) rfl (z_dec dX4_takeNumbers 38 rfl) (m14 c1 c3 c5 r7 J7 q7 c8 r12 J12 q12 c13) (fun v J14 hp => ?_) (fun _ _ h => h.elim)
            obtain ⟨rfl, q14⟩ := hp
            show ZZ K (0, 0) 61 [(0, .ref 285), (1, .ref v1), (2, .ref v2), (3, .int v3)] [] J14
            refine zz_iinc (v := (v3 + 1)) (L' := [(0, .ref 285), (1, .ref v1), (2, .ref v2), (3, .int (v3 + 1))]) hb (z_dec dX4_takeNumbers 39 rfl) 3 rfl rfl hnl rfl [1, 2, 3, 0] rfl ?_
            refine zz_goto (tgt := 2) hb (z_dec dX4_takeNumbers 40 rfl) (by decide) ?_
            exact (k15 c1 c3 c5 r7 J7 q7 c8 r12 J12 q12 c13 J14 q14)
          · refine zz_aload_n hb (z_dec dX4_takeNumbers 33 rfl) rfl 0 rfl ?_
            refine zz_iconst (v := (2 : Int32)) hb (z_dec dX4_takeNumbers 34 rfl) (by decide) ?_
            refine zz_inv (as := [.int (2 : Int32)]) (d := 0) (mc := (0, 0)) (P := qI (p16 r7 J7 r12 J12)) (X := nX) hb ho hnl hR hE mkX4_fail rfl ckX4 t0 rfl ⟨Nat.le_refl 0, Nat.le_refl 0⟩ rfl (rX4_takeNumbers 5 rfl) (rX4_takeNumbers 6 rfl) (rX4_takeNumbers 7 rfl) rfl (z_dec dX4_takeNumbers 35 rfl) (m16 c1 c3 c5 r7 J7 q7 c8 r12 J12 q12 c13) (fun v J16 hp => ?_) (fun _ _ h => h.elim)
            obtain ⟨r16, rfl, q16⟩ := hp
            show ZZ K (0, 0) 56 [(0, .ref 285), (1, .ref v1), (2, .ref v2), (3, .int v3)] [.int r16] J16
            exact zz_zret hb hE ⟨Nat.le_refl 0, Nat.le_refl 0⟩ (z18 c1 c3 c5 r7 J7 q7 c8 r12 J12 q12 c13 r16 J16 q16) (z_dec dX4_takeNumbers 36 rfl) (h17 c1 c3 c5 r7 J7 q7 c8 r12 J12 q12 c13 r16 J16 q16)
        · refine zz_iconst (v := (0 : Int32)) hb (z_dec dX4_takeNumbers 19 rfl) (by decide) ?_
          exact zz_zret hb hE ⟨Nat.le_refl 0, Nat.le_refl 0⟩ (by decide) (z_dec dX4_takeNumbers 20 rfl) (h19 c1 c3 c5 r7 J7 q7 c8)
set_option maxRecDepth 20000 in
theorem bX0_isNamed_0 {K : zK} {P : Option Value → zM → Prop} {X : String → zM → Prop} (hK : zIs K RX0 cX0_isNamed 6 (some .boolean) 0 (0, 0) P X) (hw : wOK (kw K)) {I : zM} {v0 : Nat} (t0 : isT (kw K) 1 v0) {v1 : Int32} (t2 : isT (kw K) 21 286) {v3 : Int32} {v4 : Int32} (h1 : vp_in v1 6) (k3 : ∀ (c2 : (I (LR v0 2) v1.toNatClampNeg) = (v4 - v3)), ZZ K (0, 0) 18 [(0, .ref v0), (1, .int v1), (2, .ref 286), (3, .int v3), (4, .int v4), (5, .int (0 : Int32))] [] I) (h4 : ∀ (c2 : ¬ (I (LR v0 2) v1.toNatClampNeg) = (v4 - v3)), P (some (.int (0 : Int32))) I) : ZZ K (0, 0) 0 [(0, .ref v0), (1, .int v1), (2, .ref 286), (3, .int v3), (4, .int v4)] [] I := by
  obtain ⟨hb, ho, hnl, hR, hE⟩ := hK
  refine zz_aload_n hb (z_dec dX0_isNamed 0 rfl) rfl 0 rfl ?_
  refine zz_getr (k := 2) (q := (LR v0 2)) hb ho rfl ckX0 t0 rfl rfl (rX0_isNamed 0 rfl) rfl (z_dec dX0_isNamed 1 rfl) ?_
  refine zz_iload_n hb (z_dec dX0_isNamed 2 rfl) rfl 1 rfl ?_
  refine zz_iald (j := v1.toNatClampNeg) hb (show isT (kw K) 20 (LR v0 2) from isT.f (k := 2) t0 hw rfl rfl rfl (by decide)) rfl (zvi (zLn12 hw t0) h1) (z_dec dX0_isNamed 3 rfl) ?_
  refine zz_iload hb (z_dec dX0_isNamed 4 rfl) 4 rfl ?_
  refine zz_iload_n hb (z_dec dX0_isNamed 5 rfl) rfl 3 rfl ?_
  refine zz_isub hb (z_dec dX0_isNamed 6 rfl) ?_
  refine zz_icmp_eq (tgt := 15) hb (z_dec dX0_isNamed 7 rfl) (by decide) (fun c2 => ?_) (fun c2 => ?_)
  · refine zz_iconst (v := (0 : Int32)) hb (z_dec dX0_isNamed 10 rfl) (by decide) ?_
    refine zz_istore (L' := [(0, .ref v0), (1, .int v1), (2, .ref 286), (3, .int v3), (4, .int v4), (5, .int (0 : Int32))]) hb (z_dec dX0_isNamed 11 rfl) hnl rfl [1, 2, 3, 4, 5, 0] rfl ?_
    exact (k3 c2)
  · refine zz_iconst (v := (0 : Int32)) hb (z_dec dX0_isNamed 8 rfl) (by decide) ?_
    exact zz_zret hb hE ⟨Nat.le_refl 0, Nat.le_refl 0⟩ (by decide) (z_dec dX0_isNamed 9 rfl) (h4 c2)
set_option maxRecDepth 20000 in
theorem bX0_isNamed_18 {K : zK} {P : Option Value → zM → Prop} {X : String → zM → Prop} (hK : zIs K RX0 cX0_isNamed 6 (some .boolean) 0 (0, 0) P X) (hw : wOK (kw K)) {I : zM} {v0 : Nat} (t0 : isT (kw K) 1 v0) {v1 : Int32} (t2 : isT (kw K) 21 286) {v3 : Int32} {v4 : Int32} {v5 : Int32} (h1 : vp_in v1 6) (h3 : ∀ (c2 : (I (LR v0 2) v1.toNatClampNeg) ≤ v5), P (some (.int (1 : Int32))) I) (h4 : ∀ (c2 : ¬ (I (LR v0 2) v1.toNatClampNeg) ≤ v5), vp_in v1 6) (h5 : ∀ (c2 : ¬ (I (LR v0 2) v1.toNatClampNeg) ≤ v5), vp_in v5 6) (h6 : ∀ (c2 : ¬ (I (LR v0 2) v1.toNatClampNeg) ≤ v5), vp_in (v3 + v5) 600) (k8 : ∀ (c2 : ¬ (I (LR v0 2) v1.toNatClampNeg) ≤ v5) (c7 : (I (LR (LR v0 1) v1.toNatClampNeg) v5.toNatClampNeg) = (I 286 (v3 + v5).toNatClampNeg)), ZZ K (0, 0) 18 [(0, .ref v0), (1, .int v1), (2, .ref 286), (3, .int v3), (4, .int v4), (5, .int (v5 + 1))] [] I) (h9 : ∀ (c2 : ¬ (I (LR v0 2) v1.toNatClampNeg) ≤ v5) (c7 : ¬ (I (LR (LR v0 1) v1.toNatClampNeg) v5.toNatClampNeg) = (I 286 (v3 + v5).toNatClampNeg)), P (some (.int (0 : Int32))) I) : ZZ K (0, 0) 18 [(0, .ref v0), (1, .int v1), (2, .ref 286), (3, .int v3), (4, .int v4), (5, .int v5)] [] I := by
  obtain ⟨hb, ho, hnl, hR, hE⟩ := hK
  refine zz_iload hb (z_dec dX0_isNamed 12 rfl) 5 rfl ?_
  refine zz_aload_n hb (z_dec dX0_isNamed 13 rfl) rfl 0 rfl ?_
  refine zz_getr (k := 2) (q := (LR v0 2)) hb ho rfl ckX0 t0 rfl rfl (rX0_isNamed 0 rfl) rfl (z_dec dX0_isNamed 14 rfl) ?_
  refine zz_iload_n hb (z_dec dX0_isNamed 15 rfl) rfl 1 rfl ?_
  refine zz_iald (j := v1.toNatClampNeg) hb (show isT (kw K) 20 (LR v0 2) from isT.f (k := 2) t0 hw rfl rfl rfl (by decide)) rfl (zvi (zLn12 hw t0) h1) (z_dec dX0_isNamed 16 rfl) ?_
  refine zz_icmp_ge (tgt := 55) hb (z_dec dX0_isNamed 17 rfl) (by decide) (fun c2 => ?_) (fun c2 => ?_)
  · refine zz_iconst (v := (1 : Int32)) hb (z_dec dX0_isNamed 34 rfl) (by decide) ?_
    exact zz_zret hb hE ⟨Nat.le_refl 0, Nat.le_refl 0⟩ (by decide) (z_dec dX0_isNamed 35 rfl) (h3 c2)
  · refine zz_aload_n hb (z_dec dX0_isNamed 18 rfl) rfl 0 rfl ?_
    refine zz_getr (k := 1) (q := (LR v0 1)) hb ho rfl ckX0 t0 rfl rfl (rX0_isNamed 1 rfl) rfl (z_dec dX0_isNamed 19 rfl) ?_
    refine zz_iload_n hb (z_dec dX0_isNamed 20 rfl) rfl 1 rfl ?_
    refine zz_aaldB (j := v1.toNatClampNeg) (q := (LR (LR v0 1) v1.toNatClampNeg)) hb (show isT (kw K) 30 (LR v0 1) from isT.f (k := 1) t0 hw rfl rfl rfl (by decide)) rfl rfl (zvi (zLn1 hw t0) (h4 c2)) (z_dec dX0_isNamed 21 rfl) ?_
    refine zz_iload hb (z_dec dX0_isNamed 22 rfl) 5 rfl ?_
    refine zz_bald (j := v5.toNatClampNeg) hb (show isT (kw K) 21 (LR (LR v0 1) v1.toNatClampNeg) from isT.a (i := v1) (show isT (kw K) 30 (LR v0 1) from isT.f (k := 1) t0 hw rfl rfl rfl (by decide)) hw (zvi (zLn1 hw t0) (h4 c2)) rfl (fun _ => rfl) (by decide)) rfl (zvi (zLn30 hw (show isT (kw K) 30 (LR v0 1) from isT.f (k := 1) t0 hw rfl rfl rfl (by decide)) (zvi (zLn1 hw t0) (h4 c2))) (h5 c2)) (z_dec dX0_isNamed 23 rfl) ?_
    refine zz_aload_n hb (z_dec dX0_isNamed 24 rfl) rfl 2 rfl ?_
    refine zz_iload_n hb (z_dec dX0_isNamed 25 rfl) rfl 3 rfl ?_
    refine zz_iload hb (z_dec dX0_isNamed 26 rfl) 5 rfl ?_
    refine zz_iadd hb (z_dec dX0_isNamed 27 rfl) ?_
    refine zz_bald (j := (v3 + v5).toNatClampNeg) hb t2 rfl (zvi rfl (h6 c2)) (z_dec dX0_isNamed 28 rfl) ?_
    refine zz_icmp_eq (tgt := 49) hb (z_dec dX0_isNamed 29 rfl) (by decide) (fun c7 => ?_) (fun c7 => ?_)
    · refine zz_iinc (v := (v5 + 1)) (L' := [(0, .ref v0), (1, .int v1), (2, .ref 286), (3, .int v3), (4, .int v4), (5, .int (v5 + 1))]) hb (z_dec dX0_isNamed 32 rfl) 5 rfl rfl hnl rfl [1, 2, 3, 4, 5, 0] rfl ?_
      refine zz_goto (tgt := 18) hb (z_dec dX0_isNamed 33 rfl) (by decide) ?_
      exact (k8 c2 c7)
    · refine zz_iconst (v := (0 : Int32)) hb (z_dec dX0_isNamed 30 rfl) (by decide) ?_
      exact zz_zret hb hE ⟨Nat.le_refl 0, Nat.le_refl 0⟩ (by decide) (z_dec dX0_isNamed 31 rfl) (h9 c2 c7)
set_option maxRecDepth 20000 in
theorem bX11_badness_0 {K : zK} {P : Option Value → zM → Prop} {X : String → zM → Prop} (hK : zIs K RX11 cX11_badness 3 (some .int) 4 (0, 0) P X) (hw : wOK (kw K)) {I : zM} (t0 : isT (kw K) 11 312) {v1 : Int32} {v2 : Int32} {p2 : Int32 → zM → Prop} (m2 : ∀ (c1 : v2.toInt < 0 ∨ 2 < v2.toInt), CT (kG K) (kw K) (kl K) (yX11_urgency, cX11_urgency, 2, (some .int)) 3 (0, 0) [.ref 312, .int v1] I (qI p2) nX) (h3 : ∀ (c1 : v2.toInt < 0 ∨ 2 < v2.toInt) (r2 : Int32) (J2 : zM) (q2 : p2 r2 J2), P (some (.int (-r2))) J2) {p4 : Int32 → zM → Prop} (m4 : ∀ (c1 : v2.toInt = 0), CT (kG K) (kw K) (kl K) (yX11_of, cX11_of, 3, (some .int)) 0 (0, 0) [.ref 312, .int v1, .int (2 : Int32)] I (qI p4) nX) (h5 : ∀ (c1 : v2.toInt = 0) (r4 : Int32) (J4 : zM) (q4 : p4 r4 J4), P (some (.int r4)) J4) {p6 : Int32 → zM → Prop} (m6 : ∀ (c1 : v2.toInt = 1), CT (kG K) (kw K) (kl K) (yX11_of, cX11_of, 3, (some .int)) 0 (0, 0) [.ref 312, .int v1, .int (5 : Int32)] I (qI p6) nX) (h7 : ∀ (c1 : v2.toInt = 1) (r6 : Int32) (J6 : zM) (q6 : p6 r6 J6), P (some (.int r6)) J6) {p8 : Int32 → zM → Prop} (m8 : ∀ (c1 : v2.toInt = 2), CT (kG K) (kw K) (kl K) (yX11_of, cX11_of, 3, (some .int)) 0 (0, 0) [.ref 312, .int v1, .int (3 : Int32)] I (qI p8) nX) (h9 : ∀ (c1 : v2.toInt = 2) (r8 : Int32) (J8 : zM) (q8 : p8 r8 J8), P (some (.int r8)) J8) : ZZ K (0, 0) 0 [(0, .ref 312), (1, .int v1), (2, .int v2)] [] I := by
  obtain ⟨hb, ho, hnl, hR, hE⟩ := hK
  refine zz_iload_n hb (z_dec dX11_badness 0 rfl) rfl 2 rfl ?_
  refine zz_tsw (td := 49) (tg := [28, 35, 42]) hb (z_dec dX11_badness 1 rfl) (by decide) rfl (by decide) (fun c1 => ?_) (fun i t hi c1 => ?_)
  · refine zz_aload_n hb (z_dec dX11_badness 17 rfl) rfl 0 rfl ?_
    refine zz_iload_n hb (z_dec dX11_badness 18 rfl) rfl 1 rfl ?_
    refine zz_inv (as := [.int v1]) (d := 3) (mc := (0, 0)) (P := qI p2) (X := nX) hb ho hnl hR hE mkX11_urgency rfl ckX11 t0 rfl ⟨Nat.le_refl 0, Nat.le_refl 0⟩ rfl (rX11_badness 3 rfl) (rX11_badness 4 rfl) (rX11_badness 5 rfl) rfl (z_dec dX11_badness 19 rfl) (m2 c1) (fun v J2 hp => ?_) (fun _ _ h => h.elim)
    obtain ⟨r2, rfl, q2⟩ := hp
    show ZZ K (0, 0) 54 [(0, .ref 312), (1, .int v1), (2, .int v2)] [.int r2] J2
    refine zz_ineg hb (z_dec dX11_badness 20 rfl) ?_
    exact zz_iret hb hE ⟨Nat.le_refl 0, Nat.le_refl 0⟩ (z_dec dX11_badness 21 rfl) (h3 c1 r2 J2 q2)
  · obtain _ | i := i
    · obtain rfl := Option.some.inj hi
      refine zz_aload_n hb (z_dec dX11_badness 2 rfl) rfl 0 rfl ?_
      refine zz_iload_n hb (z_dec dX11_badness 3 rfl) rfl 1 rfl ?_
      refine zz_iconst (v := (2 : Int32)) hb (z_dec dX11_badness 4 rfl) (by decide) ?_
      refine zz_inv (as := [.int v1, .int (2 : Int32)]) (d := 0) (mc := (0, 0)) (P := qI p4) (X := nX) hb ho hnl hR hE mkX11_of rfl ckX11 t0 rfl ⟨Nat.le_refl 0, Nat.le_refl 0⟩ rfl (rX11_badness 0 rfl) (rX11_badness 1 rfl) (rX11_badness 2 rfl) rfl (z_dec dX11_badness 5 rfl) (m4 c1) (fun v J4 hp => ?_) (fun _ _ h => h.elim)
      obtain ⟨r4, rfl, q4⟩ := hp
      show ZZ K (0, 0) 34 [(0, .ref 312), (1, .int v1), (2, .int v2)] [.int r4] J4
      exact zz_iret hb hE ⟨Nat.le_refl 0, Nat.le_refl 0⟩ (z_dec dX11_badness 6 rfl) (h5 c1 r4 J4 q4)
    obtain _ | i := i
    · obtain rfl := Option.some.inj hi
      refine zz_aload_n hb (z_dec dX11_badness 7 rfl) rfl 0 rfl ?_
      refine zz_iload_n hb (z_dec dX11_badness 8 rfl) rfl 1 rfl ?_
      refine zz_iconst (v := (5 : Int32)) hb (z_dec dX11_badness 9 rfl) (by decide) ?_
      refine zz_inv (as := [.int v1, .int (5 : Int32)]) (d := 0) (mc := (0, 0)) (P := qI p6) (X := nX) hb ho hnl hR hE mkX11_of rfl ckX11 t0 rfl ⟨Nat.le_refl 0, Nat.le_refl 0⟩ rfl (rX11_badness 0 rfl) (rX11_badness 1 rfl) (rX11_badness 2 rfl) rfl (z_dec dX11_badness 10 rfl) (m6 c1) (fun v J6 hp => ?_) (fun _ _ h => h.elim)
      obtain ⟨r6, rfl, q6⟩ := hp
      show ZZ K (0, 0) 41 [(0, .ref 312), (1, .int v1), (2, .int v2)] [.int r6] J6
      exact zz_iret hb hE ⟨Nat.le_refl 0, Nat.le_refl 0⟩ (z_dec dX11_badness 11 rfl) (h7 c1 r6 J6 q6)
    obtain _ | i := i
    · obtain rfl := Option.some.inj hi
      refine zz_aload_n hb (z_dec dX11_badness 12 rfl) rfl 0 rfl ?_
      refine zz_iload_n hb (z_dec dX11_badness 13 rfl) rfl 1 rfl ?_
      refine zz_iconst (v := (3 : Int32)) hb (z_dec dX11_badness 14 rfl) (by decide) ?_
      refine zz_inv (as := [.int v1, .int (3 : Int32)]) (d := 0) (mc := (0, 0)) (P := qI p8) (X := nX) hb ho hnl hR hE mkX11_of rfl ckX11 t0 rfl ⟨Nat.le_refl 0, Nat.le_refl 0⟩ rfl (rX11_badness 0 rfl) (rX11_badness 1 rfl) (rX11_badness 2 rfl) rfl (z_dec dX11_badness 15 rfl) (m8 c1) (fun v J8 hp => ?_) (fun _ _ h => h.elim)
      obtain ⟨r8, rfl, q8⟩ := hp
      show ZZ K (0, 0) 48 [(0, .ref 312), (1, .int v1), (2, .int v2)] [.int r8] J8
      exact zz_iret hb hE ⟨Nat.le_refl 0, Nat.le_refl 0⟩ (z_dec dX11_badness 16 rfl) (h9 c1 r8 J8 q8)
    cases hi
