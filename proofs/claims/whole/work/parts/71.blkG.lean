/-! block rows: indexOfGreatest over an array of ours -/
set_option maxRecDepth 20000 in
theorem bY10_indexOfGreatest_0 {K : zK} {P : Option Value → zM → Prop} {X : String → zM → Prop} (hK : zIs K RX10 cX10_indexOfGreatest 4 (some .int) 0 (0, 0) P X) (hw : wOK (kw K)) {I : zM} {v0 : Nat} (t0 : isT (kw K) 20 v0) {v1 : Int32} (k1 : ZZ K (0, 0) 4 [(0, .ref v0), (1, .int v1), (2, .int (0 : Int32)), (3, .int (1 : Int32))] [] I) : ZZ K (0, 0) 0 [(0, .ref v0), (1, .int v1)] [] I := by
  obtain ⟨hb, ho, hnl, hR, hE⟩ := hK
  refine zz_iconst (v := (0 : Int32)) hb (z_dec dX10_indexOfGreatest 0 rfl) (by decide) ?_
  refine zz_istore_n (L' := [(0, .ref v0), (1, .int v1), (2, .int (0 : Int32))]) hb (z_dec dX10_indexOfGreatest 1 rfl) rfl hnl rfl [1, 2, 0] rfl ?_
  refine zz_iconst (v := (1 : Int32)) hb (z_dec dX10_indexOfGreatest 2 rfl) (by decide) ?_
  refine zz_istore_n (L' := [(0, .ref v0), (1, .int v1), (2, .int (0 : Int32)), (3, .int (1 : Int32))]) hb (z_dec dX10_indexOfGreatest 3 rfl) rfl hnl rfl [1, 2, 3, 0] rfl ?_
  exact k1
set_option maxRecDepth 20000 in
theorem bY10_indexOfGreatest_4 {K : zK} {P : Option Value → zM → Prop} {X : String → zM → Prop} (hK : zIs K RX10 cX10_indexOfGreatest 4 (some .int) 0 (0, 0) P X) (hw : wOK (kw K)) {I : zM} {v0 : Nat} (t0 : isT (kw K) 20 v0) {v1 : Int32} {v2 : Int32} {v3 : Int32} (h2 : ∀ (c1 : v1 ≤ v3), P (some (.int v2)) I) (h3 : ∀ (c1 : ¬ v1 ≤ v3), vp_in v3 (LL v0)) (h4 : ∀ (c1 : ¬ v1 ≤ v3), vp_in v2 (LL v0)) (k6 : ∀ (c1 : ¬ v1 ≤ v3) (c5 : ((I v0) (v3.toNatClampNeg)) ≤ ((I v0) (v2.toNatClampNeg))), ZZ K (0, 0) 4 [(0, .ref v0), (1, .int v1), (2, .int v2), (3, .int (v3 + 1))] [] I) (k7 : ∀ (c1 : ¬ v1 ≤ v3) (c5 : ¬ ((I v0) (v3.toNatClampNeg)) ≤ ((I v0) (v2.toNatClampNeg))), ZZ K (0, 0) 4 [(0, .ref v0), (1, .int v1), (2, .int v3), (3, .int (v3 + 1))] [] I) : ZZ K (0, 0) 4 [(0, .ref v0), (1, .int v1), (2, .int v2), (3, .int v3)] [] I := by
  obtain ⟨hb, ho, hnl, hR, hE⟩ := hK
  refine zz_iload_n hb (z_dec dX10_indexOfGreatest 4 rfl) rfl 3 rfl ?_
  refine zz_iload_n hb (z_dec dX10_indexOfGreatest 5 rfl) rfl 1 rfl ?_
  refine zz_icmp_ge (tgt := 26) hb (z_dec dX10_indexOfGreatest 6 rfl) (by decide) (fun c1 => ?_) (fun c1 => ?_)
  · refine zz_iload_n hb (z_dec dX10_indexOfGreatest 18 rfl) rfl 2 rfl ?_
    exact zz_iret hb hE ⟨Nat.le_refl 0, Nat.le_refl 0⟩ (z_dec dX10_indexOfGreatest 19 rfl) (h2 c1)
  · refine zz_aload_n hb (z_dec dX10_indexOfGreatest 7 rfl) rfl 0 rfl ?_
    refine zz_iload_n hb (z_dec dX10_indexOfGreatest 8 rfl) rfl 3 rfl ?_
    refine zz_iald (j := v3.toNatClampNeg) hb t0 rfl (zvi rfl (h3 c1)) (z_dec dX10_indexOfGreatest 9 rfl) ?_
    refine zz_aload_n hb (z_dec dX10_indexOfGreatest 10 rfl) rfl 0 rfl ?_
    refine zz_iload_n hb (z_dec dX10_indexOfGreatest 11 rfl) rfl 2 rfl ?_
    refine zz_iald (j := v2.toNatClampNeg) hb t0 rfl (zvi rfl (h4 c1)) (z_dec dX10_indexOfGreatest 12 rfl) ?_
    refine zz_icmp_le (tgt := 20) hb (z_dec dX10_indexOfGreatest 13 rfl) (by decide) (fun c5 => ?_) (fun c5 => ?_)
    · refine zz_iinc (v := (v3 + 1)) (L' := [(0, .ref v0), (1, .int v1), (2, .int v2), (3, .int (v3 + 1))]) hb (z_dec dX10_indexOfGreatest 16 rfl) 3 rfl rfl hnl rfl [1, 2, 3, 0] rfl ?_
      refine zz_goto (tgt := 4) hb (z_dec dX10_indexOfGreatest 17 rfl) (by decide) ?_
      exact (k6 c1 c5)
    · refine zz_iload_n hb (z_dec dX10_indexOfGreatest 14 rfl) rfl 3 rfl ?_
      refine zz_istore_n (L' := [(0, .ref v0), (1, .int v1), (2, .int v3), (3, .int v3)]) hb (z_dec dX10_indexOfGreatest 15 rfl) rfl hnl rfl [1, 2, 0, 3] rfl ?_
      refine zz_iinc (v := (v3 + 1)) (L' := [(0, .ref v0), (1, .int v1), (2, .int v3), (3, .int (v3 + 1))]) hb (z_dec dX10_indexOfGreatest 16 rfl) 3 rfl rfl hnl rfl [1, 2, 3, 0] rfl ?_
      refine zz_goto (tgt := 4) hb (z_dec dX10_indexOfGreatest 17 rfl) (by decide) ?_
      exact (k7 c1 c5)
