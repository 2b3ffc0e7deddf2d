/-! the law's cases (written by wip/gen/law.py) -/
theorem lg_cmp_self (x : Int64) : lg_cmp x x = 0 := by
  unfold lg_cmp
  simp
section LAC
variable {K : zK} {b L : Nat} {xs : Nat → Int32} {Z : lZ}
theorem r_thrown {G : zG} {w : Nat × Nat} {gl : Launch} {I : zM} (hm : isT w 11 312) : CT G w gl (yX11_thrown, cX11_thrown, 1, some .int) 0 (0, 0) [.ref 312] I (qE (I 312 9) I) nX := by
  refine ct_of (by decide) [(0, .ref 312)] rfl rfl (fun K hG hw hgl hwo hK => ?_)
  subst hG; subst hw; subst hgl
  exact bX11_thrown_0 hK hwo hm (qE_i rfl rfl)
/-- append -/
theorem lc_0 (hK : zKl K b L xs Z) (hx : isT (kw K) 10 0) (hm : isT (kw K) 11 312) (ho : isT (kw K) 23 319) {u : Nat × Nat} {I : zM} {i : Int32} {x1 : Int32} (h1 : vp_in (i + 1) L) (e1 : xs (i + 1).toNatClampNeg = x1) {x2 : Int32} (h2 : vp_in (i + 2) L) (e2 : xs (i + 2).toNatClampNeg = x2) {x3 : Int32} (h3 : vp_in (i + 3) L) (e3 : xs (i + 3).toNatClampNeg = x3) {x4 : Int32} (h4 : vp_in (i + 4) L) (e4 : xs (i + 4).toNatClampNeg = x4) {x5 : Int32} (h5 : vp_in (i + 5) L) (e5 : xs (i + 5).toNatClampNeg = x5) {mc : Nat × Nat} {P1 : Option Value → zM → Prop} (m1 : CTW (kG K) (kw K) (kl K) (yL_append, cL_append, 8, some .int) [(0, 16, 19, 13)] 7 mc [.ref 0, .int x1, .int x2, .int x3, .int x4, .int x5, .ref 319] I P1) (m2 : ∀ v J, P1 v J → ∃ e f J2, v = some (.int e) ∧ CT (kG K) (kw K) (kl K) (yX11_append, cX11_append, 6, some .int) 1 (0, 0) [.ref 312, .int x1, .int x2, .int x3, .int x4, .int x5] J (qE f J2) nX ∧ J2 312 9 = e ∧ (e = 0 → J2 319 0 = f) ∧ True ∧ ZZ K (u.1 + mc.1, u.2 + mc.2) 2798 [(0, .ref 2000), (1, .ref 0), (2, .ref 312), (3, .ref 319), (4, .int i)] [] J2) (hu : u.1 + mc.1 ≤ 601024 ∧ u.2 + mc.2 ≤ 7293034) : ZZ K u 312 [(0, .ref 2000), (1, .ref 0), (2, .ref 312), (3, .ref 319), (4, .int i)] [] I := by
  have hb := hK.1
  have hnl := hK.2.2.1
  refine zz_aload_n hb (z_dec dL_law0 25 rfl) rfl 1 rfl ?_
  refine zz_aload_n hb (z_dec dL_law0 26 rfl) rfl 0 rfl ?_
  refine zz_iload hb (z_dec dL_law0 27 rfl) 4 rfl ?_
  refine zz_iconst (v := 1) hb (z_dec dL_law0 28 rfl) (by decide) ?_
  refine zz_iadd hb (z_dec dL_law0 29 rfl) ?_
  refine zl_sld hK h1 e1 (z_dec dL_law0 30 rfl) ?_
  refine zz_aload_n hb (z_dec dL_law0 31 rfl) rfl 0 rfl ?_
  refine zz_iload hb (z_dec dL_law0 32 rfl) 4 rfl ?_
  refine zz_iconst (v := 2) hb (z_dec dL_law0 33 rfl) (by decide) ?_
  refine zz_iadd hb (z_dec dL_law0 34 rfl) ?_
  refine zl_sld hK h2 e2 (z_dec dL_law0 35 rfl) ?_
  refine zz_aload_n hb (z_dec dL_law0 36 rfl) rfl 0 rfl ?_
  refine zz_iload hb (z_dec dL_law0 37 rfl) 4 rfl ?_
  refine zz_iconst (v := 3) hb (z_dec dL_law0 38 rfl) (by decide) ?_
  refine zz_iadd hb (z_dec dL_law0 39 rfl) ?_
  refine zl_sld hK h3 e3 (z_dec dL_law0 40 rfl) ?_
  refine zz_aload_n hb (z_dec dL_law0 41 rfl) rfl 0 rfl ?_
  refine zz_iload hb (z_dec dL_law0 42 rfl) 4 rfl ?_
  refine zz_iconst (v := 4) hb (z_dec dL_law0 43 rfl) (by decide) ?_
  refine zz_iadd hb (z_dec dL_law0 44 rfl) ?_
  refine zl_sld hK h4 e4 (z_dec dL_law0 45 rfl) ?_
  refine zz_aload_n hb (z_dec dL_law0 46 rfl) rfl 0 rfl ?_
  refine zz_iload hb (z_dec dL_law0 47 rfl) 4 rfl ?_
  refine zz_iconst (v := 5) hb (z_dec dL_law0 48 rfl) (by decide) ?_
  refine zz_iadd hb (z_dec dL_law0 49 rfl) ?_
  refine zl_sld hK h5 e5 (z_dec dL_law0 50 rfl) ?_
  refine zz_aload_n hb (z_dec dL_law0 51 rfl) rfl 3 rfl ?_
  refine zl_invW (as := [.ref 0, .int x1, .int x2, .int x3, .int x4, .int x5, .ref 319]) (d := 7) hK mkL_append rfl rfl hu rfl rfl (rL_law 6 rfl) rfl (z_dec dL_law0 52 rfl) m1 (fun v J hv => ?_)
  obtain ⟨e, f, J2, rfl, m2, ht, hf, h01, kN⟩ := m2 v J hv
  show ZZ K (u.1 + mc.1, u.2 + mc.2) 347 [(0, .ref 2000), (1, .ref 0), (2, .ref 312), (3, .ref 319), (4, .int i)] [.int e] J
  refine zz_istore (L' := [(0, .ref 2000), (1, .ref 0), (2, .ref 312), (3, .ref 319), (4, .int i), (5, .int e)]) hb (z_dec dL_law0 53 rfl) hnl rfl [1, 2, 3, 4, 5, 0] rfl ?_
  refine zz_aload_n hb (z_dec dL_law0 54 rfl) rfl 2 rfl ?_
  refine zz_aload_n hb (z_dec dL_law0 55 rfl) rfl 0 rfl ?_
  refine zz_iload hb (z_dec dL_law0 56 rfl) 4 rfl ?_
  refine zz_iconst (v := 1) hb (z_dec dL_law0 57 rfl) (by decide) ?_
  refine zz_iadd hb (z_dec dL_law0 58 rfl) ?_
  refine zl_sld hK h1 e1 (z_dec dL_law0 59 rfl) ?_
  refine zz_aload_n hb (z_dec dL_law1 0 rfl) rfl 0 rfl ?_
  refine zz_iload hb (z_dec dL_law1 1 rfl) 4 rfl ?_
  refine zz_iconst (v := 2) hb (z_dec dL_law1 2 rfl) (by decide) ?_
  refine zz_iadd hb (z_dec dL_law1 3 rfl) ?_
  refine zl_sld hK h2 e2 (z_dec dL_law1 4 rfl) ?_
  refine zz_aload_n hb (z_dec dL_law1 5 rfl) rfl 0 rfl ?_
  refine zz_iload hb (z_dec dL_law1 6 rfl) 4 rfl ?_
  refine zz_iconst (v := 3) hb (z_dec dL_law1 7 rfl) (by decide) ?_
  refine zz_iadd hb (z_dec dL_law1 8 rfl) ?_
  refine zl_sld hK h3 e3 (z_dec dL_law1 9 rfl) ?_
  refine zz_aload_n hb (z_dec dL_law1 10 rfl) rfl 0 rfl ?_
  refine zz_iload hb (z_dec dL_law1 11 rfl) 4 rfl ?_
  refine zz_iconst (v := 4) hb (z_dec dL_law1 12 rfl) (by decide) ?_
  refine zz_iadd hb (z_dec dL_law1 13 rfl) ?_
  refine zl_sld hK h4 e4 (z_dec dL_law1 14 rfl) ?_
  refine zz_aload_n hb (z_dec dL_law1 15 rfl) rfl 0 rfl ?_
  refine zz_iload hb (z_dec dL_law1 16 rfl) 4 rfl ?_
  refine zz_iconst (v := 5) hb (z_dec dL_law1 17 rfl) (by decide) ?_
  refine zz_iadd hb (z_dec dL_law1 18 rfl) ?_
  refine zl_sld hK h5 e5 (z_dec dL_law1 19 rfl) ?_
  refine zl_inv (as := [.int x1, .int x2, .int x3, .int x4, .int x5]) (d := 1) (mc := (0, 0)) hK mkX11_append rfl ckX11 hm rfl hu rfl (rL_law 8 rfl) (rL_law 9 rfl) (rL_law 10 rfl) rfl (z_dec dL_law1 20 rfl) m2 (fun v9 J9 hv => ?_)
  obtain ⟨f9, rfl, e9, w9⟩ := hv
  have e9 := e9.symm
  subst e9
  have w9 := w9.symm
  subst w9
  show ZZ K (u.1 + mc.1, u.2 + mc.2) 383 [(0, .ref 2000), (1, .ref 0), (2, .ref 312), (3, .ref 319), (4, .int i), (5, .int e)] [.int f] J2
  refine zz_istore (L' := [(0, .ref 2000), (1, .ref 0), (2, .ref 312), (3, .ref 319), (4, .int i), (5, .int e), (6, .int f)]) hb (z_dec dL_law1 21 rfl) hnl rfl [1, 2, 3, 4, 5, 6, 0] rfl ?_
  refine zz_aload_n hb (z_dec dL_law1 22 rfl) rfl 2 rfl ?_
  refine zl_inv (as := []) (d := 0) (mc := (0, 0)) hK mkX11_thrown rfl ckX11 hm rfl hu rfl (rL_law 11 rfl) (rL_law 12 rfl) (rL_law 13 rfl) rfl (z_dec dL_law1 23 rfl) (r_thrown hm) (fun v J9 hv => ?_)
  obtain ⟨f9, rfl, e9, w9⟩ := hv
  have e9 := e9.symm
  subst e9
  have w9 := w9.symm
  subst w9
  show ZZ K (u.1 + mc.1, u.2 + mc.2) 389 [(0, .ref 2000), (1, .ref 0), (2, .ref 312), (3, .ref 319), (4, .int i), (5, .int e), (6, .int f)] [.int (J2 312 9)] J2
  refine zz_iload hb (z_dec dL_law1 24 rfl) 5 rfl ?_
  refine zz_icmp_eq (tgt := 396) hb (z_dec dL_law1 25 rfl) (by decide) (fun c => ?_) (fun c => absurd ht c)
  refine zz_iload hb (z_dec dL_law1 28 rfl) 5 rfl ?_
  refine zz_if_ne (tgt := 413) hb (z_dec dL_law1 29 rfl) (by decide) (fun ce => ?_) (fun ce => ?_)
  · refine zz_goto (tgt := 2798) hb (z_dec dL_law1 39 rfl) (by decide) ?_
    refine zz_sub [0, 1, 2, 3, 4] (L' := [(0, .ref 2000), (1, .ref 0), (2, .ref 312), (3, .ref 319), (4, .int i)]) rfl ?_
    exact kN
  · refine zz_aload_n hb (z_dec dL_law1 30 rfl) rfl 3 rfl ?_
    refine zz_iconst (v := 0) hb (z_dec dL_law1 31 rfl) (by decide) ?_
    refine zz_lald (j := 0) hb ho rfl (show vp_in 0 1 from zin rfl) (z_dec dL_law1 32 rfl) ?_
    refine zz_iload hb (z_dec dL_law1 33 rfl) 6 rfl ?_
    refine zz_i2l hb (z_dec dL_law1 34 rfl) ?_
    refine zz_lcmp hb (z_dec dL_law1 35 rfl) ?_
    refine zz_if_eq (tgt := 413) hb (z_dec dL_law1 36 rfl) (by decide) (fun c => ?_) (fun c => absurd (by rw [hf ce]; exact lg_cmp_self _) c)
    refine zz_goto (tgt := 2798) hb (z_dec dL_law1 39 rfl) (by decide) ?_
    refine zz_sub [0, 1, 2, 3, 4] (L' := [(0, .ref 2000), (1, .ref 0), (2, .ref 312), (3, .ref 319), (4, .int i)]) rfl ?_
    exact kN
/-- truncate -/
theorem lc_1 (hK : zKl K b L xs Z) (hx : isT (kw K) 10 0) (hm : isT (kw K) 11 312) (ho : isT (kw K) 23 319) {u : Nat × Nat} {I : zM} {i : Int32} {x1 : Int32} (h1 : vp_in (i + 1) L) (e1 : xs (i + 1).toNatClampNeg = x1) {mc : Nat × Nat} {P1 : Option Value → zM → Prop} (m1 : CTW (kG K) (kw K) (kl K) (yL_truncate, cL_truncate, 4, some .int) [(0, 9, 12, 19)] 7 mc [.ref 0, .int x1, .ref 319] I P1) (m2 : ∀ v J, P1 v J → ∃ e f J2, v = some (.int e) ∧ CT (kG K) (kw K) (kl K) (yX11_truncate, cX11_truncate, 2, some .int) 1 (0, 0) [.ref 312, .int x1] J (qE f J2) nX ∧ J2 312 9 = e ∧ (e = 0 → J2 319 0 = f) ∧ True ∧ ZZ K (u.1 + mc.1, u.2 + mc.2) 2798 [(0, .ref 2000), (1, .ref 0), (2, .ref 312), (3, .ref 319), (4, .int i)] [] J2) (hu : u.1 + mc.1 ≤ 601024 ∧ u.2 + mc.2 ≤ 7293034) : ZZ K u 416 [(0, .ref 2000), (1, .ref 0), (2, .ref 312), (3, .ref 319), (4, .int i)] [] I := by
  have hb := hK.1
  have hnl := hK.2.2.1
  refine zz_aload_n hb (z_dec dL_law1 40 rfl) rfl 1 rfl ?_
  refine zz_aload_n hb (z_dec dL_law1 41 rfl) rfl 0 rfl ?_
  refine zz_iload hb (z_dec dL_law1 42 rfl) 4 rfl ?_
  refine zz_iconst (v := 1) hb (z_dec dL_law1 43 rfl) (by decide) ?_
  refine zz_iadd hb (z_dec dL_law1 44 rfl) ?_
  refine zl_sld hK h1 e1 (z_dec dL_law1 45 rfl) ?_
  refine zz_aload_n hb (z_dec dL_law1 46 rfl) rfl 3 rfl ?_
  refine zl_invW (as := [.ref 0, .int x1, .ref 319]) (d := 7) hK mkL_truncate rfl rfl hu rfl rfl (rL_law 14 rfl) rfl (z_dec dL_law1 47 rfl) m1 (fun v J hv => ?_)
  obtain ⟨e, f, J2, rfl, m2, ht, hf, h01, kN⟩ := m2 v J hv
  show ZZ K (u.1 + mc.1, u.2 + mc.2) 427 [(0, .ref 2000), (1, .ref 0), (2, .ref 312), (3, .ref 319), (4, .int i)] [.int e] J
  refine zz_istore (L' := [(0, .ref 2000), (1, .ref 0), (2, .ref 312), (3, .ref 319), (4, .int i), (5, .int e)]) hb (z_dec dL_law1 48 rfl) hnl rfl [1, 2, 3, 4, 5, 0] rfl ?_
  refine zz_aload_n hb (z_dec dL_law1 49 rfl) rfl 2 rfl ?_
  refine zz_aload_n hb (z_dec dL_law1 50 rfl) rfl 0 rfl ?_
  refine zz_iload hb (z_dec dL_law1 51 rfl) 4 rfl ?_
  refine zz_iconst (v := 1) hb (z_dec dL_law1 52 rfl) (by decide) ?_
  refine zz_iadd hb (z_dec dL_law1 53 rfl) ?_
  refine zl_sld hK h1 e1 (z_dec dL_law1 54 rfl) ?_
  refine zl_inv (as := [.int x1]) (d := 1) (mc := (0, 0)) hK mkX11_truncate rfl ckX11 hm rfl hu rfl (rL_law 16 rfl) (rL_law 17 rfl) (rL_law 18 rfl) rfl (z_dec dL_law1 55 rfl) m2 (fun v9 J9 hv => ?_)
  obtain ⟨f9, rfl, e9, w9⟩ := hv
  have e9 := e9.symm
  subst e9
  have w9 := w9.symm
  subst w9
  show ZZ K (u.1 + mc.1, u.2 + mc.2) 439 [(0, .ref 2000), (1, .ref 0), (2, .ref 312), (3, .ref 319), (4, .int i), (5, .int e)] [.int f] J2
  refine zz_istore (L' := [(0, .ref 2000), (1, .ref 0), (2, .ref 312), (3, .ref 319), (4, .int i), (5, .int e), (6, .int f)]) hb (z_dec dL_law1 56 rfl) hnl rfl [1, 2, 3, 4, 5, 6, 0] rfl ?_
  refine zz_aload_n hb (z_dec dL_law1 57 rfl) rfl 2 rfl ?_
  refine zl_inv (as := []) (d := 0) (mc := (0, 0)) hK mkX11_thrown rfl ckX11 hm rfl hu rfl (rL_law 11 rfl) (rL_law 12 rfl) (rL_law 13 rfl) rfl (z_dec dL_law1 58 rfl) (r_thrown hm) (fun v J9 hv => ?_)
  obtain ⟨f9, rfl, e9, w9⟩ := hv
  have e9 := e9.symm
  subst e9
  have w9 := w9.symm
  subst w9
  show ZZ K (u.1 + mc.1, u.2 + mc.2) 445 [(0, .ref 2000), (1, .ref 0), (2, .ref 312), (3, .ref 319), (4, .int i), (5, .int e), (6, .int f)] [.int (J2 312 9)] J2
  refine zz_iload hb (z_dec dL_law1 59 rfl) 5 rfl ?_
  refine zz_icmp_eq (tgt := 452) hb (z_dec dL_law2 0 rfl) (by decide) (fun c => ?_) (fun c => absurd ht c)
  refine zz_iload hb (z_dec dL_law2 3 rfl) 5 rfl ?_
  refine zz_if_ne (tgt := 469) hb (z_dec dL_law2 4 rfl) (by decide) (fun ce => ?_) (fun ce => ?_)
  · refine zz_goto (tgt := 2798) hb (z_dec dL_law2 14 rfl) (by decide) ?_
    refine zz_sub [0, 1, 2, 3, 4] (L' := [(0, .ref 2000), (1, .ref 0), (2, .ref 312), (3, .ref 319), (4, .int i)]) rfl ?_
    exact kN
  · refine zz_aload_n hb (z_dec dL_law2 5 rfl) rfl 3 rfl ?_
    refine zz_iconst (v := 0) hb (z_dec dL_law2 6 rfl) (by decide) ?_
    refine zz_lald (j := 0) hb ho rfl (show vp_in 0 1 from zin rfl) (z_dec dL_law2 7 rfl) ?_
    refine zz_iload hb (z_dec dL_law2 8 rfl) 6 rfl ?_
    refine zz_i2l hb (z_dec dL_law2 9 rfl) ?_
    refine zz_lcmp hb (z_dec dL_law2 10 rfl) ?_
    refine zz_if_eq (tgt := 469) hb (z_dec dL_law2 11 rfl) (by decide) (fun c => ?_) (fun c => absurd (by rw [hf ce]; exact lg_cmp_self _) c)
    refine zz_goto (tgt := 2798) hb (z_dec dL_law2 14 rfl) (by decide) ?_
    refine zz_sub [0, 1, 2, 3, 4] (L' := [(0, .ref 2000), (1, .ref 0), (2, .ref 312), (3, .ref 319), (4, .int i)]) rfl ?_
    exact kN
/-- load -/
theorem lc_2 (hK : zKl K b L xs Z) (hx : isT (kw K) 10 0) (hm : isT (kw K) 11 312) (ho : isT (kw K) 23 319) {u : Nat × Nat} {I : zM} {i : Int32}  {mc : Nat × Nat} {P1 : Option Value → zM → Prop} (m1 : CTW (kG K) (kw K) (kl K) (yL_load, cL_load, 3, some .int) [(0, 8, 11, 19)] 9 mc [.ref 0, .ref 319] I P1) (m2 : ∀ v J, P1 v J → ∃ e f J2, v = some (.int e) ∧ CT (kG K) (kw K) (kl K) (yX11_load, cX11_load, 2, some .int) 6 (0, 0) [.ref 312] J (qE f J2) nX ∧ J2 312 9 = e ∧ (e = 0 → J2 319 0 = f) ∧ True ∧ ZZ K (u.1 + mc.1, u.2 + mc.2) 2798 [(0, .ref 2000), (1, .ref 0), (2, .ref 312), (3, .ref 319), (4, .int i)] [] J2) (hu : u.1 + mc.1 ≤ 601024 ∧ u.2 + mc.2 ≤ 7293034) : ZZ K u 472 [(0, .ref 2000), (1, .ref 0), (2, .ref 312), (3, .ref 319), (4, .int i)] [] I := by
  have hb := hK.1
  have hnl := hK.2.2.1
  refine zz_aload_n hb (z_dec dL_law2 15 rfl) rfl 1 rfl ?_
  refine zz_aload_n hb (z_dec dL_law2 16 rfl) rfl 3 rfl ?_
  refine zl_invW (as := [.ref 0, .ref 319]) (d := 9) hK mkL_load rfl rfl hu rfl rfl (rL_law 19 rfl) rfl (z_dec dL_law2 17 rfl) m1 (fun v J hv => ?_)
  obtain ⟨e, f, J2, rfl, m2, ht, hf, h01, kN⟩ := m2 v J hv
  show ZZ K (u.1 + mc.1, u.2 + mc.2) 477 [(0, .ref 2000), (1, .ref 0), (2, .ref 312), (3, .ref 319), (4, .int i)] [.int e] J
  refine zz_istore (L' := [(0, .ref 2000), (1, .ref 0), (2, .ref 312), (3, .ref 319), (4, .int i), (5, .int e)]) hb (z_dec dL_law2 18 rfl) hnl rfl [1, 2, 3, 4, 5, 0] rfl ?_
  refine zz_aload_n hb (z_dec dL_law2 19 rfl) rfl 2 rfl ?_
  refine zl_inv (as := []) (d := 6) (mc := (0, 0)) hK mkX11_load rfl ckX11 hm rfl hu rfl (rL_law 21 rfl) (rL_law 22 rfl) (rL_law 23 rfl) rfl (z_dec dL_law2 20 rfl) m2 (fun v9 J9 hv => ?_)
  obtain ⟨f9, rfl, e9, w9⟩ := hv
  have e9 := e9.symm
  subst e9
  have w9 := w9.symm
  subst w9
  show ZZ K (u.1 + mc.1, u.2 + mc.2) 483 [(0, .ref 2000), (1, .ref 0), (2, .ref 312), (3, .ref 319), (4, .int i), (5, .int e)] [.int f] J2
  refine zz_istore (L' := [(0, .ref 2000), (1, .ref 0), (2, .ref 312), (3, .ref 319), (4, .int i), (5, .int e), (6, .int f)]) hb (z_dec dL_law2 21 rfl) hnl rfl [1, 2, 3, 4, 5, 6, 0] rfl ?_
  refine zz_aload_n hb (z_dec dL_law2 22 rfl) rfl 2 rfl ?_
  refine zl_inv (as := []) (d := 0) (mc := (0, 0)) hK mkX11_thrown rfl ckX11 hm rfl hu rfl (rL_law 11 rfl) (rL_law 12 rfl) (rL_law 13 rfl) rfl (z_dec dL_law2 23 rfl) (r_thrown hm) (fun v J9 hv => ?_)
  obtain ⟨f9, rfl, e9, w9⟩ := hv
  have e9 := e9.symm
  subst e9
  have w9 := w9.symm
  subst w9
  show ZZ K (u.1 + mc.1, u.2 + mc.2) 489 [(0, .ref 2000), (1, .ref 0), (2, .ref 312), (3, .ref 319), (4, .int i), (5, .int e), (6, .int f)] [.int (J2 312 9)] J2
  refine zz_iload hb (z_dec dL_law2 24 rfl) 5 rfl ?_
  refine zz_icmp_eq (tgt := 496) hb (z_dec dL_law2 25 rfl) (by decide) (fun c => ?_) (fun c => absurd ht c)
  refine zz_iload hb (z_dec dL_law2 28 rfl) 5 rfl ?_
  refine zz_if_ne (tgt := 513) hb (z_dec dL_law2 29 rfl) (by decide) (fun ce => ?_) (fun ce => ?_)
  · refine zz_goto (tgt := 2798) hb (z_dec dL_law2 39 rfl) (by decide) ?_
    refine zz_sub [0, 1, 2, 3, 4] (L' := [(0, .ref 2000), (1, .ref 0), (2, .ref 312), (3, .ref 319), (4, .int i)]) rfl ?_
    exact kN
  · refine zz_aload_n hb (z_dec dL_law2 30 rfl) rfl 3 rfl ?_
    refine zz_iconst (v := 0) hb (z_dec dL_law2 31 rfl) (by decide) ?_
    refine zz_lald (j := 0) hb ho rfl (show vp_in 0 1 from zin rfl) (z_dec dL_law2 32 rfl) ?_
    refine zz_iload hb (z_dec dL_law2 33 rfl) 6 rfl ?_
    refine zz_i2l hb (z_dec dL_law2 34 rfl) ?_
    refine zz_lcmp hb (z_dec dL_law2 35 rfl) ?_
    refine zz_if_eq (tgt := 513) hb (z_dec dL_law2 36 rfl) (by decide) (fun c => ?_) (fun c => absurd (by rw [hf ce]; exact lg_cmp_self _) c)
    refine zz_goto (tgt := 2798) hb (z_dec dL_law2 39 rfl) (by decide) ?_
    refine zz_sub [0, 1, 2, 3, 4] (L' := [(0, .ref 2000), (1, .ref 0), (2, .ref 312), (3, .ref 319), (4, .int i)]) rfl ?_
    exact kN
/-- errorCode -/
theorem lc_3 (hK : zKl K b L xs Z) (hx : isT (kw K) 10 0) (hm : isT (kw K) 11 312) (ho : isT (kw K) 23 319) {u : Nat × Nat} {I : zM} {i : Int32}  {mc : Nat × Nat} {P1 : Option Value → zM → Prop} (m1 : CT (kG K) (kw K) (kl K) (yX10_errorCode, cX10_errorCode, 1, some .int) 0 mc [.ref 0] I P1 nX) (m2 : ∀ v J, P1 v J → ∃ f J2, v = some (.int f) ∧ CT (kG K) (kw K) (kl K) (yX11_errorCode, cX11_errorCode, 1, some .int) 0 (0, 0) [.ref 312] J (qE f J2) nX ∧ ZZ K (u.1 + mc.1, u.2 + mc.2) 2798 [(0, .ref 2000), (1, .ref 0), (2, .ref 312), (3, .ref 319), (4, .int i)] [] J2) (hu : u.1 + mc.1 ≤ 601024 ∧ u.2 + mc.2 ≤ 7293034) : ZZ K u 516 [(0, .ref 2000), (1, .ref 0), (2, .ref 312), (3, .ref 319), (4, .int i)] [] I := by
  have hb := hK.1
  have hnl := hK.2.2.1
  refine zz_aload_n hb (z_dec dL_law2 40 rfl) rfl 1 rfl ?_
  refine zl_inv (as := []) (d := 0) hK mkX10_errorCode rfl ckX10 hx rfl hu rfl (rL_law 24 rfl) (rL_law 25 rfl) (rL_law 26 rfl) rfl (z_dec dL_law2 41 rfl) m1 (fun v J hv => ?_)
  obtain ⟨f, J2, rfl, m2, kN⟩ := m2 v J hv
  show ZZ K (u.1 + mc.1, u.2 + mc.2) 520 [(0, .ref 2000), (1, .ref 0), (2, .ref 312), (3, .ref 319), (4, .int i)] [.int f] J
  refine zz_aload_n hb (z_dec dL_law2 42 rfl) rfl 2 rfl ?_
  refine zl_inv (as := []) (d := 0) (mc := (0, 0)) hK mkX11_errorCode rfl ckX11 hm rfl hu rfl (rL_law 27 rfl) (rL_law 28 rfl) (rL_law 29 rfl) rfl (z_dec dL_law2 43 rfl) m2 (fun v9 J9 hv => ?_)
  obtain ⟨f9, rfl, e9, w9⟩ := hv
  have e9 := e9.symm
  subst e9
  have w9 := w9.symm
  subst w9
  show ZZ K (u.1 + mc.1, u.2 + mc.2) 524 [(0, .ref 2000), (1, .ref 0), (2, .ref 312), (3, .ref 319), (4, .int i)] [.int f, .int f] J2
  refine zz_icmp_eq (tgt := 2798) hb (z_dec dL_law2 44 rfl) (by decide) (fun c => ?_) (fun c => absurd rfl c)
  exact kN
/-- errorPosition -/
theorem lc_4 (hK : zKl K b L xs Z) (hx : isT (kw K) 10 0) (hm : isT (kw K) 11 312) (ho : isT (kw K) 23 319) {u : Nat × Nat} {I : zM} {i : Int32}  {mc : Nat × Nat} {P1 : Option Value → zM → Prop} (m1 : CT (kG K) (kw K) (kl K) (yX10_errorPosition, cX10_errorPosition, 1, some .int) 0 mc [.ref 0] I P1 nX) (m2 : ∀ v J, P1 v J → ∃ f J2, v = some (.int f) ∧ CT (kG K) (kw K) (kl K) (yX11_errorPosition, cX11_errorPosition, 1, some .int) 0 (0, 0) [.ref 312] J (qE f J2) nX ∧ ZZ K (u.1 + mc.1, u.2 + mc.2) 2798 [(0, .ref 2000), (1, .ref 0), (2, .ref 312), (3, .ref 319), (4, .int i)] [] J2) (hu : u.1 + mc.1 ≤ 601024 ∧ u.2 + mc.2 ≤ 7293034) : ZZ K u 529 [(0, .ref 2000), (1, .ref 0), (2, .ref 312), (3, .ref 319), (4, .int i)] [] I := by
  have hb := hK.1
  have hnl := hK.2.2.1
  refine zz_aload_n hb (z_dec dL_law2 47 rfl) rfl 1 rfl ?_
  refine zl_inv (as := []) (d := 0) hK mkX10_errorPosition rfl ckX10 hx rfl hu rfl (rL_law 30 rfl) (rL_law 31 rfl) (rL_law 32 rfl) rfl (z_dec dL_law2 48 rfl) m1 (fun v J hv => ?_)
  obtain ⟨f, J2, rfl, m2, kN⟩ := m2 v J hv
  show ZZ K (u.1 + mc.1, u.2 + mc.2) 533 [(0, .ref 2000), (1, .ref 0), (2, .ref 312), (3, .ref 319), (4, .int i)] [.int f] J
  refine zz_aload_n hb (z_dec dL_law2 49 rfl) rfl 2 rfl ?_
  refine zl_inv (as := []) (d := 0) (mc := (0, 0)) hK mkX11_errorPosition rfl ckX11 hm rfl hu rfl (rL_law 33 rfl) (rL_law 34 rfl) (rL_law 35 rfl) rfl (z_dec dL_law2 50 rfl) m2 (fun v9 J9 hv => ?_)
  obtain ⟨f9, rfl, e9, w9⟩ := hv
  have e9 := e9.symm
  subst e9
  have w9 := w9.symm
  subst w9
  show ZZ K (u.1 + mc.1, u.2 + mc.2) 537 [(0, .ref 2000), (1, .ref 0), (2, .ref 312), (3, .ref 319), (4, .int i)] [.int f, .int f] J2
  refine zz_icmp_eq (tgt := 2798) hb (z_dec dL_law2 51 rfl) (by decide) (fun c => ?_) (fun c => absurd rfl c)
  exact kN
/-- clerkCount -/
theorem lc_5 (hK : zKl K b L xs Z) (hx : isT (kw K) 10 0) (hm : isT (kw K) 11 312) (ho : isT (kw K) 23 319) {u : Nat × Nat} {I : zM} {i : Int32}  {mc : Nat × Nat} {P1 : Option Value → zM → Prop} (m1 : CT (kG K) (kw K) (kl K) (yX10_clerkCount, cX10_clerkCount, 1, some .int) 0 mc [.ref 0] I P1 nX) (m2 : ∀ v J, P1 v J → ∃ f J2, v = some (.int f) ∧ CT (kG K) (kw K) (kl K) (yX11_clerkCount, cX11_clerkCount, 1, some .int) 1 (0, 0) [.ref 312] J (qE f J2) nX ∧ ZZ K (u.1 + mc.1, u.2 + mc.2) 2798 [(0, .ref 2000), (1, .ref 0), (2, .ref 312), (3, .ref 319), (4, .int i)] [] J2) (hu : u.1 + mc.1 ≤ 601024 ∧ u.2 + mc.2 ≤ 7293034) : ZZ K u 542 [(0, .ref 2000), (1, .ref 0), (2, .ref 312), (3, .ref 319), (4, .int i)] [] I := by
  have hb := hK.1
  have hnl := hK.2.2.1
  refine zz_aload_n hb (z_dec dL_law2 54 rfl) rfl 1 rfl ?_
  refine zl_inv (as := []) (d := 0) hK mkX10_clerkCount rfl ckX10 hx rfl hu rfl (rL_law 36 rfl) (rL_law 37 rfl) (rL_law 38 rfl) rfl (z_dec dL_law2 55 rfl) m1 (fun v J hv => ?_)
  obtain ⟨f, J2, rfl, m2, kN⟩ := m2 v J hv
  show ZZ K (u.1 + mc.1, u.2 + mc.2) 546 [(0, .ref 2000), (1, .ref 0), (2, .ref 312), (3, .ref 319), (4, .int i)] [.int f] J
  refine zz_aload_n hb (z_dec dL_law2 56 rfl) rfl 2 rfl ?_
  refine zl_inv (as := []) (d := 1) (mc := (0, 0)) hK mkX11_clerkCount rfl ckX11 hm rfl hu rfl (rL_law 39 rfl) (rL_law 40 rfl) (rL_law 41 rfl) rfl (z_dec dL_law2 57 rfl) m2 (fun v9 J9 hv => ?_)
  obtain ⟨f9, rfl, e9, w9⟩ := hv
  have e9 := e9.symm
  subst e9
  have w9 := w9.symm
  subst w9
  show ZZ K (u.1 + mc.1, u.2 + mc.2) 550 [(0, .ref 2000), (1, .ref 0), (2, .ref 312), (3, .ref 319), (4, .int i)] [.int f, .int f] J2
  refine zz_icmp_eq (tgt := 2798) hb (z_dec dL_law2 58 rfl) (by decide) (fun c => ?_) (fun c => absurd rfl c)
  exact kN
/-- letterCount -/
theorem lc_6 (hK : zKl K b L xs Z) (hx : isT (kw K) 10 0) (hm : isT (kw K) 11 312) (ho : isT (kw K) 23 319) {u : Nat × Nat} {I : zM} {i : Int32}  {mc : Nat × Nat} {P1 : Option Value → zM → Prop} (m1 : CT (kG K) (kw K) (kl K) (yX10_letterCount, cX10_letterCount, 1, some .int) 0 mc [.ref 0] I P1 nX) (m2 : ∀ v J, P1 v J → ∃ f J2, v = some (.int f) ∧ CT (kG K) (kw K) (kl K) (yX11_letterCount, cX11_letterCount, 1, some .int) 1 (0, 0) [.ref 312] J (qE f J2) nX ∧ ZZ K (u.1 + mc.1, u.2 + mc.2) 2798 [(0, .ref 2000), (1, .ref 0), (2, .ref 312), (3, .ref 319), (4, .int i)] [] J2) (hu : u.1 + mc.1 ≤ 601024 ∧ u.2 + mc.2 ≤ 7293034) : ZZ K u 555 [(0, .ref 2000), (1, .ref 0), (2, .ref 312), (3, .ref 319), (4, .int i)] [] I := by
  have hb := hK.1
  have hnl := hK.2.2.1
  refine zz_aload_n hb (z_dec dL_law3 1 rfl) rfl 1 rfl ?_
  refine zl_inv (as := []) (d := 0) hK mkX10_letterCount rfl ckX10 hx rfl hu rfl (rL_law 42 rfl) (rL_law 43 rfl) (rL_law 44 rfl) rfl (z_dec dL_law3 2 rfl) m1 (fun v J hv => ?_)
  obtain ⟨f, J2, rfl, m2, kN⟩ := m2 v J hv
  show ZZ K (u.1 + mc.1, u.2 + mc.2) 559 [(0, .ref 2000), (1, .ref 0), (2, .ref 312), (3, .ref 319), (4, .int i)] [.int f] J
  refine zz_aload_n hb (z_dec dL_law3 3 rfl) rfl 2 rfl ?_
  refine zl_inv (as := []) (d := 1) (mc := (0, 0)) hK mkX11_letterCount rfl ckX11 hm rfl hu rfl (rL_law 45 rfl) (rL_law 46 rfl) (rL_law 47 rfl) rfl (z_dec dL_law3 4 rfl) m2 (fun v9 J9 hv => ?_)
  obtain ⟨f9, rfl, e9, w9⟩ := hv
  have e9 := e9.symm
  subst e9
  have w9 := w9.symm
  subst w9
  show ZZ K (u.1 + mc.1, u.2 + mc.2) 563 [(0, .ref 2000), (1, .ref 0), (2, .ref 312), (3, .ref 319), (4, .int i)] [.int f, .int f] J2
  refine zz_icmp_eq (tgt := 2798) hb (z_dec dL_law3 5 rfl) (by decide) (fun c => ?_) (fun c => absurd rfl c)
  exact kN
/-- minute -/
theorem lc_7 (hK : zKl K b L xs Z) (hx : isT (kw K) 10 0) (hm : isT (kw K) 11 312) (ho : isT (kw K) 23 319) {u : Nat × Nat} {I : zM} {i : Int32}  {mc : Nat × Nat} {P1 : Option Value → zM → Prop} (m1 : CT (kG K) (kw K) (kl K) (yX10_minute, cX10_minute, 1, some .int) 0 mc [.ref 0] I P1 nX) (m2 : ∀ v J, P1 v J → ∃ f J2, v = some (.int f) ∧ CT (kG K) (kw K) (kl K) (yX11_minute, cX11_minute, 1, some .int) 1 (0, 0) [.ref 312] J (qE f J2) nX ∧ ZZ K (u.1 + mc.1, u.2 + mc.2) 2798 [(0, .ref 2000), (1, .ref 0), (2, .ref 312), (3, .ref 319), (4, .int i)] [] J2) (hu : u.1 + mc.1 ≤ 601024 ∧ u.2 + mc.2 ≤ 7293034) : ZZ K u 568 [(0, .ref 2000), (1, .ref 0), (2, .ref 312), (3, .ref 319), (4, .int i)] [] I := by
  have hb := hK.1
  have hnl := hK.2.2.1
  refine zz_aload_n hb (z_dec dL_law3 8 rfl) rfl 1 rfl ?_
  refine zl_inv (as := []) (d := 0) hK mkX10_minute rfl ckX10 hx rfl hu rfl (rL_law 48 rfl) (rL_law 49 rfl) (rL_law 50 rfl) rfl (z_dec dL_law3 9 rfl) m1 (fun v J hv => ?_)
  obtain ⟨f, J2, rfl, m2, kN⟩ := m2 v J hv
  show ZZ K (u.1 + mc.1, u.2 + mc.2) 572 [(0, .ref 2000), (1, .ref 0), (2, .ref 312), (3, .ref 319), (4, .int i)] [.int f] J
  refine zz_aload_n hb (z_dec dL_law3 10 rfl) rfl 2 rfl ?_
  refine zl_inv (as := []) (d := 1) (mc := (0, 0)) hK mkX11_minute rfl ckX11 hm rfl hu rfl (rL_law 51 rfl) (rL_law 52 rfl) (rL_law 53 rfl) rfl (z_dec dL_law3 11 rfl) m2 (fun v9 J9 hv => ?_)
  obtain ⟨f9, rfl, e9, w9⟩ := hv
  have e9 := e9.symm
  subst e9
  have w9 := w9.symm
  subst w9
  show ZZ K (u.1 + mc.1, u.2 + mc.2) 576 [(0, .ref 2000), (1, .ref 0), (2, .ref 312), (3, .ref 319), (4, .int i)] [.int f, .int f] J2
  refine zz_icmp_eq (tgt := 2798) hb (z_dec dL_law3 12 rfl) (by decide) (fun c => ?_) (fun c => absurd rfl c)
  exact kN
/-- policy -/
theorem lc_8 (hK : zKl K b L xs Z) (hx : isT (kw K) 10 0) (hm : isT (kw K) 11 312) (ho : isT (kw K) 23 319) {u : Nat × Nat} {I : zM} {i : Int32}  {mc : Nat × Nat} {P1 : Option Value → zM → Prop} (m1 : CT (kG K) (kw K) (kl K) (yX10_policy, cX10_policy, 1, some .int) 0 mc [.ref 0] I P1 nX) (m2 : ∀ v J, P1 v J → ∃ f J2, v = some (.int f) ∧ CT (kG K) (kw K) (kl K) (yX11_policy, cX11_policy, 1, some .int) 1 (0, 0) [.ref 312] J (qE f J2) nX ∧ ZZ K (u.1 + mc.1, u.2 + mc.2) 2798 [(0, .ref 2000), (1, .ref 0), (2, .ref 312), (3, .ref 319), (4, .int i)] [] J2) (hu : u.1 + mc.1 ≤ 601024 ∧ u.2 + mc.2 ≤ 7293034) : ZZ K u 581 [(0, .ref 2000), (1, .ref 0), (2, .ref 312), (3, .ref 319), (4, .int i)] [] I := by
  have hb := hK.1
  have hnl := hK.2.2.1
  refine zz_aload_n hb (z_dec dL_law3 15 rfl) rfl 1 rfl ?_
  refine zl_inv (as := []) (d := 0) hK mkX10_policy rfl ckX10 hx rfl hu rfl (rL_law 54 rfl) (rL_law 55 rfl) (rL_law 56 rfl) rfl (z_dec dL_law3 16 rfl) m1 (fun v J hv => ?_)
  obtain ⟨f, J2, rfl, m2, kN⟩ := m2 v J hv
  show ZZ K (u.1 + mc.1, u.2 + mc.2) 585 [(0, .ref 2000), (1, .ref 0), (2, .ref 312), (3, .ref 319), (4, .int i)] [.int f] J
  refine zz_aload_n hb (z_dec dL_law3 17 rfl) rfl 2 rfl ?_
  refine zl_inv (as := []) (d := 1) (mc := (0, 0)) hK mkX11_policy rfl ckX11 hm rfl hu rfl (rL_law 57 rfl) (rL_law 58 rfl) (rL_law 59 rfl) rfl (z_dec dL_law3 18 rfl) m2 (fun v9 J9 hv => ?_)
  obtain ⟨f9, rfl, e9, w9⟩ := hv
  have e9 := e9.symm
  subst e9
  have w9 := w9.symm
  subst w9
  show ZZ K (u.1 + mc.1, u.2 + mc.2) 589 [(0, .ref 2000), (1, .ref 0), (2, .ref 312), (3, .ref 319), (4, .int i)] [.int f, .int f] J2
  refine zz_icmp_eq (tgt := 2798) hb (z_dec dL_law3 19 rfl) (by decide) (fun c => ?_) (fun c => absurd rfl c)
  exact kN
/-- holder -/
theorem lc_9 (hK : zKl K b L xs Z) (hx : isT (kw K) 10 0) (hm : isT (kw K) 11 312) (ho : isT (kw K) 23 319) {u : Nat × Nat} {I : zM} {i : Int32}  {mc : Nat × Nat} {P1 : Option Value → zM → Prop} (m1 : CT (kG K) (kw K) (kl K) (yX10_holder, cX10_holder, 1, some .int) 0 mc [.ref 0] I P1 nX) (m2 : ∀ v J, P1 v J → ∃ f J2, v = some (.int f) ∧ CT (kG K) (kw K) (kl K) (yX11_holder, cX11_holder, 1, some .int) 1 (0, 0) [.ref 312] J (qE f J2) nX ∧ ZZ K (u.1 + mc.1, u.2 + mc.2) 2798 [(0, .ref 2000), (1, .ref 0), (2, .ref 312), (3, .ref 319), (4, .int i)] [] J2) (hu : u.1 + mc.1 ≤ 601024 ∧ u.2 + mc.2 ≤ 7293034) : ZZ K u 594 [(0, .ref 2000), (1, .ref 0), (2, .ref 312), (3, .ref 319), (4, .int i)] [] I := by
  have hb := hK.1
  have hnl := hK.2.2.1
  refine zz_aload_n hb (z_dec dL_law3 22 rfl) rfl 1 rfl ?_
  refine zl_inv (as := []) (d := 0) hK mkX10_holder rfl ckX10 hx rfl hu rfl (rL_law 60 rfl) (rL_law 61 rfl) (rL_law 62 rfl) rfl (z_dec dL_law3 23 rfl) m1 (fun v J hv => ?_)
  obtain ⟨f, J2, rfl, m2, kN⟩ := m2 v J hv
  show ZZ K (u.1 + mc.1, u.2 + mc.2) 598 [(0, .ref 2000), (1, .ref 0), (2, .ref 312), (3, .ref 319), (4, .int i)] [.int f] J
  refine zz_aload_n hb (z_dec dL_law3 24 rfl) rfl 2 rfl ?_
  refine zl_inv (as := []) (d := 1) (mc := (0, 0)) hK mkX11_holder rfl ckX11 hm rfl hu rfl (rL_law 63 rfl) (rL_law 64 rfl) (rL_law 65 rfl) rfl (z_dec dL_law3 25 rfl) m2 (fun v9 J9 hv => ?_)
  obtain ⟨f9, rfl, e9, w9⟩ := hv
  have e9 := e9.symm
  subst e9
  have w9 := w9.symm
  subst w9
  show ZZ K (u.1 + mc.1, u.2 + mc.2) 602 [(0, .ref 2000), (1, .ref 0), (2, .ref 312), (3, .ref 319), (4, .int i)] [.int f, .int f] J2
  refine zz_icmp_eq (tgt := 2798) hb (z_dec dL_law3 26 rfl) (by decide) (fun c => ?_) (fun c => absurd rfl c)
  exact kN
/-- currentLetter -/
theorem lc_10 (hK : zKl K b L xs Z) (hx : isT (kw K) 10 0) (hm : isT (kw K) 11 312) (ho : isT (kw K) 23 319) {u : Nat × Nat} {I : zM} {i : Int32}  {mc : Nat × Nat} {P1 : Option Value → zM → Prop} (m1 : CT (kG K) (kw K) (kl K) (yX10_currentLetter, cX10_currentLetter, 1, some .int) 0 mc [.ref 0] I P1 nX) (m2 : ∀ v J, P1 v J → ∃ f J2, v = some (.int f) ∧ CT (kG K) (kw K) (kl K) (yX11_currentLetter, cX11_currentLetter, 1, some .int) 3 (0, 0) [.ref 312] J (qE f J2) nX ∧ ZZ K (u.1 + mc.1, u.2 + mc.2) 2798 [(0, .ref 2000), (1, .ref 0), (2, .ref 312), (3, .ref 319), (4, .int i)] [] J2) (hu : u.1 + mc.1 ≤ 601024 ∧ u.2 + mc.2 ≤ 7293034) : ZZ K u 607 [(0, .ref 2000), (1, .ref 0), (2, .ref 312), (3, .ref 319), (4, .int i)] [] I := by
  have hb := hK.1
  have hnl := hK.2.2.1
  refine zz_aload_n hb (z_dec dL_law3 29 rfl) rfl 1 rfl ?_
  refine zl_inv (as := []) (d := 0) hK mkX10_currentLetter rfl ckX10 hx rfl hu rfl (rL_law 66 rfl) (rL_law 67 rfl) (rL_law 68 rfl) rfl (z_dec dL_law3 30 rfl) m1 (fun v J hv => ?_)
  obtain ⟨f, J2, rfl, m2, kN⟩ := m2 v J hv
  show ZZ K (u.1 + mc.1, u.2 + mc.2) 611 [(0, .ref 2000), (1, .ref 0), (2, .ref 312), (3, .ref 319), (4, .int i)] [.int f] J
  refine zz_aload_n hb (z_dec dL_law3 31 rfl) rfl 2 rfl ?_
  refine zl_inv (as := []) (d := 3) (mc := (0, 0)) hK mkX11_currentLetter rfl ckX11 hm rfl hu rfl (rL_law 69 rfl) (rL_law 70 rfl) (rL_law 71 rfl) rfl (z_dec dL_law3 32 rfl) m2 (fun v9 J9 hv => ?_)
  obtain ⟨f9, rfl, e9, w9⟩ := hv
  have e9 := e9.symm
  subst e9
  have w9 := w9.symm
  subst w9
  show ZZ K (u.1 + mc.1, u.2 + mc.2) 615 [(0, .ref 2000), (1, .ref 0), (2, .ref 312), (3, .ref 319), (4, .int i)] [.int f, .int f] J2
  refine zz_icmp_eq (tgt := 2798) hb (z_dec dL_law3 33 rfl) (by decide) (fun c => ?_) (fun c => absurd rfl c)
  exact kN
/-- lastLetter -/
theorem lc_11 (hK : zKl K b L xs Z) (hx : isT (kw K) 10 0) (hm : isT (kw K) 11 312) (ho : isT (kw K) 23 319) {u : Nat × Nat} {I : zM} {i : Int32}  {mc : Nat × Nat} {P1 : Option Value → zM → Prop} (m1 : CT (kG K) (kw K) (kl K) (yX10_lastLetter, cX10_lastLetter, 1, some .int) 0 mc [.ref 0] I P1 nX) (m2 : ∀ v J, P1 v J → ∃ f J2, v = some (.int f) ∧ CT (kG K) (kw K) (kl K) (yX11_lastLetter, cX11_lastLetter, 1, some .int) 1 (0, 0) [.ref 312] J (qE f J2) nX ∧ ZZ K (u.1 + mc.1, u.2 + mc.2) 2798 [(0, .ref 2000), (1, .ref 0), (2, .ref 312), (3, .ref 319), (4, .int i)] [] J2) (hu : u.1 + mc.1 ≤ 601024 ∧ u.2 + mc.2 ≤ 7293034) : ZZ K u 620 [(0, .ref 2000), (1, .ref 0), (2, .ref 312), (3, .ref 319), (4, .int i)] [] I := by
  have hb := hK.1
  have hnl := hK.2.2.1
  refine zz_aload_n hb (z_dec dL_law3 36 rfl) rfl 1 rfl ?_
  refine zl_inv (as := []) (d := 0) hK mkX10_lastLetter rfl ckX10 hx rfl hu rfl (rL_law 72 rfl) (rL_law 73 rfl) (rL_law 74 rfl) rfl (z_dec dL_law3 37 rfl) m1 (fun v J hv => ?_)
  obtain ⟨f, J2, rfl, m2, kN⟩ := m2 v J hv
  show ZZ K (u.1 + mc.1, u.2 + mc.2) 624 [(0, .ref 2000), (1, .ref 0), (2, .ref 312), (3, .ref 319), (4, .int i)] [.int f] J
  refine zz_aload_n hb (z_dec dL_law3 38 rfl) rfl 2 rfl ?_
  refine zl_inv (as := []) (d := 1) (mc := (0, 0)) hK mkX11_lastLetter rfl ckX11 hm rfl hu rfl (rL_law 75 rfl) (rL_law 76 rfl) (rL_law 77 rfl) rfl (z_dec dL_law3 39 rfl) m2 (fun v9 J9 hv => ?_)
  obtain ⟨f9, rfl, e9, w9⟩ := hv
  have e9 := e9.symm
  subst e9
  have w9 := w9.symm
  subst w9
  show ZZ K (u.1 + mc.1, u.2 + mc.2) 628 [(0, .ref 2000), (1, .ref 0), (2, .ref 312), (3, .ref 319), (4, .int i)] [.int f, .int f] J2
  refine zz_icmp_eq (tgt := 2798) hb (z_dec dL_law3 40 rfl) (by decide) (fun c => ?_) (fun c => absurd rfl c)
  exact kN
/-- runLength -/
theorem lc_12 (hK : zKl K b L xs Z) (hx : isT (kw K) 10 0) (hm : isT (kw K) 11 312) (ho : isT (kw K) 23 319) {u : Nat × Nat} {I : zM} {i : Int32}  {mc : Nat × Nat} {P1 : Option Value → zM → Prop} (m1 : CT (kG K) (kw K) (kl K) (yX10_runLength, cX10_runLength, 1, some .int) 0 mc [.ref 0] I P1 nX) (m2 : ∀ v J, P1 v J → ∃ f J2, v = some (.int f) ∧ CT (kG K) (kw K) (kl K) (yX11_runLength, cX11_runLength, 1, some .int) 1 (0, 0) [.ref 312] J (qE f J2) nX ∧ ZZ K (u.1 + mc.1, u.2 + mc.2) 2798 [(0, .ref 2000), (1, .ref 0), (2, .ref 312), (3, .ref 319), (4, .int i)] [] J2) (hu : u.1 + mc.1 ≤ 601024 ∧ u.2 + mc.2 ≤ 7293034) : ZZ K u 633 [(0, .ref 2000), (1, .ref 0), (2, .ref 312), (3, .ref 319), (4, .int i)] [] I := by
  have hb := hK.1
  have hnl := hK.2.2.1
  refine zz_aload_n hb (z_dec dL_law3 43 rfl) rfl 1 rfl ?_
  refine zl_inv (as := []) (d := 0) hK mkX10_runLength rfl ckX10 hx rfl hu rfl (rL_law 78 rfl) (rL_law 79 rfl) (rL_law 80 rfl) rfl (z_dec dL_law3 44 rfl) m1 (fun v J hv => ?_)
  obtain ⟨f, J2, rfl, m2, kN⟩ := m2 v J hv
  show ZZ K (u.1 + mc.1, u.2 + mc.2) 637 [(0, .ref 2000), (1, .ref 0), (2, .ref 312), (3, .ref 319), (4, .int i)] [.int f] J
  refine zz_aload_n hb (z_dec dL_law3 45 rfl) rfl 2 rfl ?_
  refine zl_inv (as := []) (d := 1) (mc := (0, 0)) hK mkX11_runLength rfl ckX11 hm rfl hu rfl (rL_law 81 rfl) (rL_law 82 rfl) (rL_law 83 rfl) rfl (z_dec dL_law3 46 rfl) m2 (fun v9 J9 hv => ?_)
  obtain ⟨f9, rfl, e9, w9⟩ := hv
  have e9 := e9.symm
  subst e9
  have w9 := w9.symm
  subst w9
  show ZZ K (u.1 + mc.1, u.2 + mc.2) 641 [(0, .ref 2000), (1, .ref 0), (2, .ref 312), (3, .ref 319), (4, .int i)] [.int f, .int f] J2
  refine zz_icmp_eq (tgt := 2798) hb (z_dec dL_law3 47 rfl) (by decide) (fun c => ?_) (fun c => absurd rfl c)
  exact kN
/-- ink -/
theorem lc_13 (hK : zKl K b L xs Z) (hx : isT (kw K) 10 0) (hm : isT (kw K) 11 312) (ho : isT (kw K) 23 319) {u : Nat × Nat} {I : zM} {i : Int32}  {mc : Nat × Nat} {P1 : Option Value → zM → Prop} (m1 : CT (kG K) (kw K) (kl K) (yX10_ink, cX10_ink, 1, some .int) 0 mc [.ref 0] I P1 nX) (m2 : ∀ v J, P1 v J → ∃ f J2, v = some (.int f) ∧ CT (kG K) (kw K) (kl K) (yX11_ink, cX11_ink, 1, some .int) 1 (0, 0) [.ref 312] J (qE f J2) nX ∧ ZZ K (u.1 + mc.1, u.2 + mc.2) 2798 [(0, .ref 2000), (1, .ref 0), (2, .ref 312), (3, .ref 319), (4, .int i)] [] J2) (hu : u.1 + mc.1 ≤ 601024 ∧ u.2 + mc.2 ≤ 7293034) : ZZ K u 646 [(0, .ref 2000), (1, .ref 0), (2, .ref 312), (3, .ref 319), (4, .int i)] [] I := by
  have hb := hK.1
  have hnl := hK.2.2.1
  refine zz_aload_n hb (z_dec dL_law3 50 rfl) rfl 1 rfl ?_
  refine zl_inv (as := []) (d := 0) hK mkX10_ink rfl ckX10 hx rfl hu rfl (rL_law 84 rfl) (rL_law 85 rfl) (rL_law 86 rfl) rfl (z_dec dL_law3 51 rfl) m1 (fun v J hv => ?_)
  obtain ⟨f, J2, rfl, m2, kN⟩ := m2 v J hv
  show ZZ K (u.1 + mc.1, u.2 + mc.2) 650 [(0, .ref 2000), (1, .ref 0), (2, .ref 312), (3, .ref 319), (4, .int i)] [.int f] J
  refine zz_aload_n hb (z_dec dL_law3 52 rfl) rfl 2 rfl ?_
  refine zl_inv (as := []) (d := 1) (mc := (0, 0)) hK mkX11_ink rfl ckX11 hm rfl hu rfl (rL_law 87 rfl) (rL_law 88 rfl) (rL_law 89 rfl) rfl (z_dec dL_law3 53 rfl) m2 (fun v9 J9 hv => ?_)
  obtain ⟨f9, rfl, e9, w9⟩ := hv
  have e9 := e9.symm
  subst e9
  have w9 := w9.symm
  subst w9
  show ZZ K (u.1 + mc.1, u.2 + mc.2) 654 [(0, .ref 2000), (1, .ref 0), (2, .ref 312), (3, .ref 319), (4, .int i)] [.int f, .int f] J2
  refine zz_icmp_eq (tgt := 2798) hb (z_dec dL_law3 54 rfl) (by decide) (fun c => ?_) (fun c => absurd rfl c)
  exact kN
/-- refillLeft -/
theorem lc_14 (hK : zKl K b L xs Z) (hx : isT (kw K) 10 0) (hm : isT (kw K) 11 312) (ho : isT (kw K) 23 319) {u : Nat × Nat} {I : zM} {i : Int32}  {mc : Nat × Nat} {P1 : Option Value → zM → Prop} (m1 : CT (kG K) (kw K) (kl K) (yX10_refillLeft, cX10_refillLeft, 1, some .int) 0 mc [.ref 0] I P1 nX) (m2 : ∀ v J, P1 v J → ∃ f J2, v = some (.int f) ∧ CT (kG K) (kw K) (kl K) (yX11_refillLeft, cX11_refillLeft, 1, some .int) 1 (0, 0) [.ref 312] J (qE f J2) nX ∧ ZZ K (u.1 + mc.1, u.2 + mc.2) 2798 [(0, .ref 2000), (1, .ref 0), (2, .ref 312), (3, .ref 319), (4, .int i)] [] J2) (hu : u.1 + mc.1 ≤ 601024 ∧ u.2 + mc.2 ≤ 7293034) : ZZ K u 659 [(0, .ref 2000), (1, .ref 0), (2, .ref 312), (3, .ref 319), (4, .int i)] [] I := by
  have hb := hK.1
  have hnl := hK.2.2.1
  refine zz_aload_n hb (z_dec dL_law3 57 rfl) rfl 1 rfl ?_
  refine zl_inv (as := []) (d := 0) hK mkX10_refillLeft rfl ckX10 hx rfl hu rfl (rL_law 90 rfl) (rL_law 91 rfl) (rL_law 92 rfl) rfl (z_dec dL_law3 58 rfl) m1 (fun v J hv => ?_)
  obtain ⟨f, J2, rfl, m2, kN⟩ := m2 v J hv
  show ZZ K (u.1 + mc.1, u.2 + mc.2) 663 [(0, .ref 2000), (1, .ref 0), (2, .ref 312), (3, .ref 319), (4, .int i)] [.int f] J
  refine zz_aload_n hb (z_dec dL_law3 59 rfl) rfl 2 rfl ?_
  refine zl_inv (as := []) (d := 1) (mc := (0, 0)) hK mkX11_refillLeft rfl ckX11 hm rfl hu rfl (rL_law 93 rfl) (rL_law 94 rfl) (rL_law 95 rfl) rfl (z_dec dL_law4 0 rfl) m2 (fun v9 J9 hv => ?_)
  obtain ⟨f9, rfl, e9, w9⟩ := hv
  have e9 := e9.symm
  subst e9
  have w9 := w9.symm
  subst w9
  show ZZ K (u.1 + mc.1, u.2 + mc.2) 667 [(0, .ref 2000), (1, .ref 0), (2, .ref 312), (3, .ref 319), (4, .int i)] [.int f, .int f] J2
  refine zz_icmp_eq (tgt := 2798) hb (z_dec dL_law4 1 rfl) (by decide) (fun c => ?_) (fun c => absurd rfl c)
  exact kN
/-- handOverLeft -/
theorem lc_15 (hK : zKl K b L xs Z) (hx : isT (kw K) 10 0) (hm : isT (kw K) 11 312) (ho : isT (kw K) 23 319) {u : Nat × Nat} {I : zM} {i : Int32}  {mc : Nat × Nat} {P1 : Option Value → zM → Prop} (m1 : CT (kG K) (kw K) (kl K) (yX10_handOverLeft, cX10_handOverLeft, 1, some .int) 0 mc [.ref 0] I P1 nX) (m2 : ∀ v J, P1 v J → ∃ f J2, v = some (.int f) ∧ CT (kG K) (kw K) (kl K) (yX11_handOverLeft, cX11_handOverLeft, 1, some .int) 1 (0, 0) [.ref 312] J (qE f J2) nX ∧ ZZ K (u.1 + mc.1, u.2 + mc.2) 2798 [(0, .ref 2000), (1, .ref 0), (2, .ref 312), (3, .ref 319), (4, .int i)] [] J2) (hu : u.1 + mc.1 ≤ 601024 ∧ u.2 + mc.2 ≤ 7293034) : ZZ K u 672 [(0, .ref 2000), (1, .ref 0), (2, .ref 312), (3, .ref 319), (4, .int i)] [] I := by
  have hb := hK.1
  have hnl := hK.2.2.1
  refine zz_aload_n hb (z_dec dL_law4 4 rfl) rfl 1 rfl ?_
  refine zl_inv (as := []) (d := 0) hK mkX10_handOverLeft rfl ckX10 hx rfl hu rfl (rL_law 96 rfl) (rL_law 97 rfl) (rL_law 98 rfl) rfl (z_dec dL_law4 5 rfl) m1 (fun v J hv => ?_)
  obtain ⟨f, J2, rfl, m2, kN⟩ := m2 v J hv
  show ZZ K (u.1 + mc.1, u.2 + mc.2) 676 [(0, .ref 2000), (1, .ref 0), (2, .ref 312), (3, .ref 319), (4, .int i)] [.int f] J
  refine zz_aload_n hb (z_dec dL_law4 6 rfl) rfl 2 rfl ?_
  refine zl_inv (as := []) (d := 1) (mc := (0, 0)) hK mkX11_handOverLeft rfl ckX11 hm rfl hu rfl (rL_law 99 rfl) (rL_law 100 rfl) (rL_law 101 rfl) rfl (z_dec dL_law4 7 rfl) m2 (fun v9 J9 hv => ?_)
  obtain ⟨f9, rfl, e9, w9⟩ := hv
  have e9 := e9.symm
  subst e9
  have w9 := w9.symm
  subst w9
  show ZZ K (u.1 + mc.1, u.2 + mc.2) 680 [(0, .ref 2000), (1, .ref 0), (2, .ref 312), (3, .ref 319), (4, .int i)] [.int f, .int f] J2
  refine zz_icmp_eq (tgt := 2798) hb (z_dec dL_law4 8 rfl) (by decide) (fun c => ?_) (fun c => absurd rfl c)
  exact kN
/-- nameByte -/
theorem lc_16 (hK : zKl K b L xs Z) (hx : isT (kw K) 10 0) (hm : isT (kw K) 11 312) (ho : isT (kw K) 23 319) {u : Nat × Nat} {I : zM} {i : Int32} {x1 : Int32} (h1 : vp_in (i + 1) L) (e1 : xs (i + 1).toNatClampNeg = x1) {x2 : Int32} (h2 : vp_in (i + 2) L) (e2 : xs (i + 2).toNatClampNeg = x2) {mc : Nat × Nat} {P1 : Option Value → zM → Prop} (m1 : CTW (kG K) (kw K) (kl K) (yL_nameByte, cL_nameByte, 5, some .int) [(0, 10, 13, 29)] 8 mc [.ref 0, .int x1, .int x2, .ref 319] I P1) (m2 : ∀ v J, P1 v J → ∃ e f J2, v = some (.int e) ∧ CT (kG K) (kw K) (kl K) (yX11_nameByte, cX11_nameByte, 4, some .int) 2 (0, 0) [.ref 312, .int x1, .int x2] J (qE f J2) nX ∧ J2 312 9 = e ∧ (e = 0 → J2 319 0 = f) ∧ True ∧ ZZ K (u.1 + mc.1, u.2 + mc.2) 2798 [(0, .ref 2000), (1, .ref 0), (2, .ref 312), (3, .ref 319), (4, .int i)] [] J2) (hu : u.1 + mc.1 ≤ 601024 ∧ u.2 + mc.2 ≤ 7293034) : ZZ K u 685 [(0, .ref 2000), (1, .ref 0), (2, .ref 312), (3, .ref 319), (4, .int i)] [] I := by
  have hb := hK.1
  have hnl := hK.2.2.1
  refine zz_aload_n hb (z_dec dL_law4 11 rfl) rfl 1 rfl ?_
  refine zz_aload_n hb (z_dec dL_law4 12 rfl) rfl 0 rfl ?_
  refine zz_iload hb (z_dec dL_law4 13 rfl) 4 rfl ?_
  refine zz_iconst (v := 1) hb (z_dec dL_law4 14 rfl) (by decide) ?_
  refine zz_iadd hb (z_dec dL_law4 15 rfl) ?_
  refine zl_sld hK h1 e1 (z_dec dL_law4 16 rfl) ?_
  refine zz_aload_n hb (z_dec dL_law4 17 rfl) rfl 0 rfl ?_
  refine zz_iload hb (z_dec dL_law4 18 rfl) 4 rfl ?_
  refine zz_iconst (v := 2) hb (z_dec dL_law4 19 rfl) (by decide) ?_
  refine zz_iadd hb (z_dec dL_law4 20 rfl) ?_
  refine zl_sld hK h2 e2 (z_dec dL_law4 21 rfl) ?_
  refine zz_aload_n hb (z_dec dL_law4 22 rfl) rfl 3 rfl ?_
  refine zl_invW (as := [.ref 0, .int x1, .int x2, .ref 319]) (d := 8) hK mkL_nameByte rfl rfl hu rfl rfl (rL_law 102 rfl) rfl (z_dec dL_law4 23 rfl) m1 (fun v J hv => ?_)
  obtain ⟨e, f, J2, rfl, m2, ht, hf, h01, kN⟩ := m2 v J hv
  show ZZ K (u.1 + mc.1, u.2 + mc.2) 702 [(0, .ref 2000), (1, .ref 0), (2, .ref 312), (3, .ref 319), (4, .int i)] [.int e] J
  refine zz_istore (L' := [(0, .ref 2000), (1, .ref 0), (2, .ref 312), (3, .ref 319), (4, .int i), (5, .int e)]) hb (z_dec dL_law4 24 rfl) hnl rfl [1, 2, 3, 4, 5, 0] rfl ?_
  refine zz_aload_n hb (z_dec dL_law4 25 rfl) rfl 2 rfl ?_
  refine zz_aload_n hb (z_dec dL_law4 26 rfl) rfl 0 rfl ?_
  refine zz_iload hb (z_dec dL_law4 27 rfl) 4 rfl ?_
  refine zz_iconst (v := 1) hb (z_dec dL_law4 28 rfl) (by decide) ?_
  refine zz_iadd hb (z_dec dL_law4 29 rfl) ?_
  refine zl_sld hK h1 e1 (z_dec dL_law4 30 rfl) ?_
  refine zz_aload_n hb (z_dec dL_law4 31 rfl) rfl 0 rfl ?_
  refine zz_iload hb (z_dec dL_law4 32 rfl) 4 rfl ?_
  refine zz_iconst (v := 2) hb (z_dec dL_law4 33 rfl) (by decide) ?_
  refine zz_iadd hb (z_dec dL_law4 34 rfl) ?_
  refine zl_sld hK h2 e2 (z_dec dL_law4 35 rfl) ?_
  refine zl_inv (as := [.int x1, .int x2]) (d := 2) (mc := (0, 0)) hK mkX11_nameByte rfl ckX11 hm rfl hu rfl (rL_law 104 rfl) (rL_law 105 rfl) (rL_law 106 rfl) rfl (z_dec dL_law4 36 rfl) m2 (fun v9 J9 hv => ?_)
  obtain ⟨f9, rfl, e9, w9⟩ := hv
  have e9 := e9.symm
  subst e9
  have w9 := w9.symm
  subst w9
  show ZZ K (u.1 + mc.1, u.2 + mc.2) 720 [(0, .ref 2000), (1, .ref 0), (2, .ref 312), (3, .ref 319), (4, .int i), (5, .int e)] [.int f] J2
  refine zz_istore (L' := [(0, .ref 2000), (1, .ref 0), (2, .ref 312), (3, .ref 319), (4, .int i), (5, .int e), (6, .int f)]) hb (z_dec dL_law4 37 rfl) hnl rfl [1, 2, 3, 4, 5, 6, 0] rfl ?_
  refine zz_aload_n hb (z_dec dL_law4 38 rfl) rfl 2 rfl ?_
  refine zl_inv (as := []) (d := 0) (mc := (0, 0)) hK mkX11_thrown rfl ckX11 hm rfl hu rfl (rL_law 11 rfl) (rL_law 12 rfl) (rL_law 13 rfl) rfl (z_dec dL_law4 39 rfl) (r_thrown hm) (fun v J9 hv => ?_)
  obtain ⟨f9, rfl, e9, w9⟩ := hv
  have e9 := e9.symm
  subst e9
  have w9 := w9.symm
  subst w9
  show ZZ K (u.1 + mc.1, u.2 + mc.2) 726 [(0, .ref 2000), (1, .ref 0), (2, .ref 312), (3, .ref 319), (4, .int i), (5, .int e), (6, .int f)] [.int (J2 312 9)] J2
  refine zz_iload hb (z_dec dL_law4 40 rfl) 5 rfl ?_
  refine zz_icmp_eq (tgt := 733) hb (z_dec dL_law4 41 rfl) (by decide) (fun c => ?_) (fun c => absurd ht c)
  refine zz_iload hb (z_dec dL_law4 44 rfl) 5 rfl ?_
  refine zz_if_ne (tgt := 750) hb (z_dec dL_law4 45 rfl) (by decide) (fun ce => ?_) (fun ce => ?_)
  · refine zz_goto (tgt := 2798) hb (z_dec dL_law4 55 rfl) (by decide) ?_
    refine zz_sub [0, 1, 2, 3, 4] (L' := [(0, .ref 2000), (1, .ref 0), (2, .ref 312), (3, .ref 319), (4, .int i)]) rfl ?_
    exact kN
  · refine zz_aload_n hb (z_dec dL_law4 46 rfl) rfl 3 rfl ?_
    refine zz_iconst (v := 0) hb (z_dec dL_law4 47 rfl) (by decide) ?_
    refine zz_lald (j := 0) hb ho rfl (show vp_in 0 1 from zin rfl) (z_dec dL_law4 48 rfl) ?_
    refine zz_iload hb (z_dec dL_law4 49 rfl) 6 rfl ?_
    refine zz_i2l hb (z_dec dL_law4 50 rfl) ?_
    refine zz_lcmp hb (z_dec dL_law4 51 rfl) ?_
    refine zz_if_eq (tgt := 750) hb (z_dec dL_law4 52 rfl) (by decide) (fun c => ?_) (fun c => absurd (by rw [hf ce]; exact lg_cmp_self _) c)
    refine zz_goto (tgt := 2798) hb (z_dec dL_law4 55 rfl) (by decide) ?_
    refine zz_sub [0, 1, 2, 3, 4] (L' := [(0, .ref 2000), (1, .ref 0), (2, .ref 312), (3, .ref 319), (4, .int i)]) rfl ?_
    exact kN
/-- findClerk -/
theorem lc_17 (hK : zKl K b L xs Z) (hx : isT (kw K) 10 0) (hm : isT (kw K) 11 312) (ho : isT (kw K) 23 319) {u : Nat × Nat} {I : zM} {i : Int32}  {mc : Nat × Nat} {P1 : Option Value → zM → Prop} (m1 : CTW (kG K) (kw K) (kl K) (yL_findClerk, cL_findClerk, 3, some .int) [(0, 8, 11, 34)] 8 mc [.ref 0, .ref 319] I P1) (m2 : ∀ v J, P1 v J → ∃ e f J2, v = some (.int e) ∧ CT (kG K) (kw K) (kl K) (yX11_findClerk, cX11_findClerk, 2, some .int) 1 (0, 0) [.ref 312] J (qE f J2) nX ∧ J2 312 9 = e ∧ (e = 0 → J2 319 0 = f) ∧ True ∧ ZZ K (u.1 + mc.1, u.2 + mc.2) 2798 [(0, .ref 2000), (1, .ref 0), (2, .ref 312), (3, .ref 319), (4, .int i)] [] J2) (hu : u.1 + mc.1 ≤ 601024 ∧ u.2 + mc.2 ≤ 7293034) : ZZ K u 753 [(0, .ref 2000), (1, .ref 0), (2, .ref 312), (3, .ref 319), (4, .int i)] [] I := by
  have hb := hK.1
  have hnl := hK.2.2.1
  refine zz_aload_n hb (z_dec dL_law4 56 rfl) rfl 1 rfl ?_
  refine zz_aload_n hb (z_dec dL_law4 57 rfl) rfl 3 rfl ?_
  refine zl_invW (as := [.ref 0, .ref 319]) (d := 8) hK mkL_findClerk rfl rfl hu rfl rfl (rL_law 107 rfl) rfl (z_dec dL_law4 58 rfl) m1 (fun v J hv => ?_)
  obtain ⟨e, f, J2, rfl, m2, ht, hf, h01, kN⟩ := m2 v J hv
  show ZZ K (u.1 + mc.1, u.2 + mc.2) 758 [(0, .ref 2000), (1, .ref 0), (2, .ref 312), (3, .ref 319), (4, .int i)] [.int e] J
  refine zz_istore (L' := [(0, .ref 2000), (1, .ref 0), (2, .ref 312), (3, .ref 319), (4, .int i), (5, .int e)]) hb (z_dec dL_law4 59 rfl) hnl rfl [1, 2, 3, 4, 5, 0] rfl ?_
  refine zz_aload_n hb (z_dec dL_law5 0 rfl) rfl 2 rfl ?_
  refine zl_inv (as := []) (d := 1) (mc := (0, 0)) hK mkX11_findClerk rfl ckX11 hm rfl hu rfl (rL_law 109 rfl) (rL_law 110 rfl) (rL_law 111 rfl) rfl (z_dec dL_law5 1 rfl) m2 (fun v9 J9 hv => ?_)
  obtain ⟨f9, rfl, e9, w9⟩ := hv
  have e9 := e9.symm
  subst e9
  have w9 := w9.symm
  subst w9
  show ZZ K (u.1 + mc.1, u.2 + mc.2) 764 [(0, .ref 2000), (1, .ref 0), (2, .ref 312), (3, .ref 319), (4, .int i), (5, .int e)] [.int f] J2
  refine zz_istore (L' := [(0, .ref 2000), (1, .ref 0), (2, .ref 312), (3, .ref 319), (4, .int i), (5, .int e), (6, .int f)]) hb (z_dec dL_law5 2 rfl) hnl rfl [1, 2, 3, 4, 5, 6, 0] rfl ?_
  refine zz_aload_n hb (z_dec dL_law5 3 rfl) rfl 2 rfl ?_
  refine zl_inv (as := []) (d := 0) (mc := (0, 0)) hK mkX11_thrown rfl ckX11 hm rfl hu rfl (rL_law 11 rfl) (rL_law 12 rfl) (rL_law 13 rfl) rfl (z_dec dL_law5 4 rfl) (r_thrown hm) (fun v J9 hv => ?_)
  obtain ⟨f9, rfl, e9, w9⟩ := hv
  have e9 := e9.symm
  subst e9
  have w9 := w9.symm
  subst w9
  show ZZ K (u.1 + mc.1, u.2 + mc.2) 770 [(0, .ref 2000), (1, .ref 0), (2, .ref 312), (3, .ref 319), (4, .int i), (5, .int e), (6, .int f)] [.int (J2 312 9)] J2
  refine zz_iload hb (z_dec dL_law5 5 rfl) 5 rfl ?_
  refine zz_icmp_eq (tgt := 777) hb (z_dec dL_law5 6 rfl) (by decide) (fun c => ?_) (fun c => absurd ht c)
  refine zz_iload hb (z_dec dL_law5 9 rfl) 5 rfl ?_
  refine zz_if_ne (tgt := 794) hb (z_dec dL_law5 10 rfl) (by decide) (fun ce => ?_) (fun ce => ?_)
  · refine zz_goto (tgt := 2798) hb (z_dec dL_law5 20 rfl) (by decide) ?_
    refine zz_sub [0, 1, 2, 3, 4] (L' := [(0, .ref 2000), (1, .ref 0), (2, .ref 312), (3, .ref 319), (4, .int i)]) rfl ?_
    exact kN
  · refine zz_aload_n hb (z_dec dL_law5 11 rfl) rfl 3 rfl ?_
    refine zz_iconst (v := 0) hb (z_dec dL_law5 12 rfl) (by decide) ?_
    refine zz_lald (j := 0) hb ho rfl (show vp_in 0 1 from zin rfl) (z_dec dL_law5 13 rfl) ?_
    refine zz_iload hb (z_dec dL_law5 14 rfl) 6 rfl ?_
    refine zz_i2l hb (z_dec dL_law5 15 rfl) ?_
    refine zz_lcmp hb (z_dec dL_law5 16 rfl) ?_
    refine zz_if_eq (tgt := 794) hb (z_dec dL_law5 17 rfl) (by decide) (fun c => ?_) (fun c => absurd (by rw [hf ce]; exact lg_cmp_self _) c)
    refine zz_goto (tgt := 2798) hb (z_dec dL_law5 20 rfl) (by decide) ?_
    refine zz_sub [0, 1, 2, 3, 4] (L' := [(0, .ref 2000), (1, .ref 0), (2, .ref 312), (3, .ref 319), (4, .int i)]) rfl ?_
    exact kN
/-- clerkOf -/
theorem lc_18 (hK : zKl K b L xs Z) (hx : isT (kw K) 10 0) (hm : isT (kw K) 11 312) (ho : isT (kw K) 23 319) {u : Nat × Nat} {I : zM} {i : Int32} {x1 : Int32} (h1 : vp_in (i + 1) L) (e1 : xs (i + 1).toNatClampNeg = x1) {mc : Nat × Nat} {P1 : Option Value → zM → Prop} (m1 : CTW (kG K) (kw K) (kl K) (yL_clerkOf, cL_clerkOf, 4, some .int) [(0, 9, 12, 29)] 8 mc [.ref 0, .int x1, .ref 319] I P1) (m2 : ∀ v J, P1 v J → ∃ e f J2, v = some (.int e) ∧ CT (kG K) (kw K) (kl K) (yX11_clerkOf, cX11_clerkOf, 2, some .int) 3 (0, 0) [.ref 312, .int x1] J (qE f J2) nX ∧ J2 312 9 = e ∧ (e = 0 → J2 319 0 = f) ∧ True ∧ ZZ K (u.1 + mc.1, u.2 + mc.2) 2798 [(0, .ref 2000), (1, .ref 0), (2, .ref 312), (3, .ref 319), (4, .int i)] [] J2) (hu : u.1 + mc.1 ≤ 601024 ∧ u.2 + mc.2 ≤ 7293034) : ZZ K u 797 [(0, .ref 2000), (1, .ref 0), (2, .ref 312), (3, .ref 319), (4, .int i)] [] I := by
  have hb := hK.1
  have hnl := hK.2.2.1
  refine zz_aload_n hb (z_dec dL_law5 21 rfl) rfl 1 rfl ?_
  refine zz_aload_n hb (z_dec dL_law5 22 rfl) rfl 0 rfl ?_
  refine zz_iload hb (z_dec dL_law5 23 rfl) 4 rfl ?_
  refine zz_iconst (v := 1) hb (z_dec dL_law5 24 rfl) (by decide) ?_
  refine zz_iadd hb (z_dec dL_law5 25 rfl) ?_
  refine zl_sld hK h1 e1 (z_dec dL_law5 26 rfl) ?_
  refine zz_aload_n hb (z_dec dL_law5 27 rfl) rfl 3 rfl ?_
  refine zl_invW (as := [.ref 0, .int x1, .ref 319]) (d := 8) hK mkL_clerkOf rfl rfl hu rfl rfl (rL_law 112 rfl) rfl (z_dec dL_law5 28 rfl) m1 (fun v J hv => ?_)
  obtain ⟨e, f, J2, rfl, m2, ht, hf, h01, kN⟩ := m2 v J hv
  show ZZ K (u.1 + mc.1, u.2 + mc.2) 808 [(0, .ref 2000), (1, .ref 0), (2, .ref 312), (3, .ref 319), (4, .int i)] [.int e] J
  refine zz_istore (L' := [(0, .ref 2000), (1, .ref 0), (2, .ref 312), (3, .ref 319), (4, .int i), (5, .int e)]) hb (z_dec dL_law5 29 rfl) hnl rfl [1, 2, 3, 4, 5, 0] rfl ?_
  refine zz_aload_n hb (z_dec dL_law5 30 rfl) rfl 2 rfl ?_
  refine zz_aload_n hb (z_dec dL_law5 31 rfl) rfl 0 rfl ?_
  refine zz_iload hb (z_dec dL_law5 32 rfl) 4 rfl ?_
  refine zz_iconst (v := 1) hb (z_dec dL_law5 33 rfl) (by decide) ?_
  refine zz_iadd hb (z_dec dL_law5 34 rfl) ?_
  refine zl_sld hK h1 e1 (z_dec dL_law5 35 rfl) ?_
  refine zl_inv (as := [.int x1]) (d := 3) (mc := (0, 0)) hK mkX11_clerkOf rfl ckX11 hm rfl hu rfl (rL_law 114 rfl) (rL_law 115 rfl) (rL_law 116 rfl) rfl (z_dec dL_law5 36 rfl) m2 (fun v9 J9 hv => ?_)
  obtain ⟨f9, rfl, e9, w9⟩ := hv
  have e9 := e9.symm
  subst e9
  have w9 := w9.symm
  subst w9
  show ZZ K (u.1 + mc.1, u.2 + mc.2) 820 [(0, .ref 2000), (1, .ref 0), (2, .ref 312), (3, .ref 319), (4, .int i), (5, .int e)] [.int f] J2
  refine zz_istore (L' := [(0, .ref 2000), (1, .ref 0), (2, .ref 312), (3, .ref 319), (4, .int i), (5, .int e), (6, .int f)]) hb (z_dec dL_law5 37 rfl) hnl rfl [1, 2, 3, 4, 5, 6, 0] rfl ?_
  refine zz_aload_n hb (z_dec dL_law5 38 rfl) rfl 2 rfl ?_
  refine zl_inv (as := []) (d := 0) (mc := (0, 0)) hK mkX11_thrown rfl ckX11 hm rfl hu rfl (rL_law 11 rfl) (rL_law 12 rfl) (rL_law 13 rfl) rfl (z_dec dL_law5 39 rfl) (r_thrown hm) (fun v J9 hv => ?_)
  obtain ⟨f9, rfl, e9, w9⟩ := hv
  have e9 := e9.symm
  subst e9
  have w9 := w9.symm
  subst w9
  show ZZ K (u.1 + mc.1, u.2 + mc.2) 826 [(0, .ref 2000), (1, .ref 0), (2, .ref 312), (3, .ref 319), (4, .int i), (5, .int e), (6, .int f)] [.int (J2 312 9)] J2
  refine zz_iload hb (z_dec dL_law5 40 rfl) 5 rfl ?_
  refine zz_icmp_eq (tgt := 833) hb (z_dec dL_law5 41 rfl) (by decide) (fun c => ?_) (fun c => absurd ht c)
  refine zz_iload hb (z_dec dL_law5 44 rfl) 5 rfl ?_
  refine zz_if_ne (tgt := 850) hb (z_dec dL_law5 45 rfl) (by decide) (fun ce => ?_) (fun ce => ?_)
  · refine zz_goto (tgt := 2798) hb (z_dec dL_law5 55 rfl) (by decide) ?_
    refine zz_sub [0, 1, 2, 3, 4] (L' := [(0, .ref 2000), (1, .ref 0), (2, .ref 312), (3, .ref 319), (4, .int i)]) rfl ?_
    exact kN
  · refine zz_aload_n hb (z_dec dL_law5 46 rfl) rfl 3 rfl ?_
    refine zz_iconst (v := 0) hb (z_dec dL_law5 47 rfl) (by decide) ?_
    refine zz_lald (j := 0) hb ho rfl (show vp_in 0 1 from zin rfl) (z_dec dL_law5 48 rfl) ?_
    refine zz_iload hb (z_dec dL_law5 49 rfl) 6 rfl ?_
    refine zz_i2l hb (z_dec dL_law5 50 rfl) ?_
    refine zz_lcmp hb (z_dec dL_law5 51 rfl) ?_
    refine zz_if_eq (tgt := 850) hb (z_dec dL_law5 52 rfl) (by decide) (fun c => ?_) (fun c => absurd (by rw [hf ce]; exact lg_cmp_self _) c)
    refine zz_goto (tgt := 2798) hb (z_dec dL_law5 55 rfl) (by decide) ?_
    refine zz_sub [0, 1, 2, 3, 4] (L' := [(0, .ref 2000), (1, .ref 0), (2, .ref 312), (3, .ref 319), (4, .int i)]) rfl ?_
    exact kN
/-- length -/
theorem lc_19 (hK : zKl K b L xs Z) (hx : isT (kw K) 10 0) (hm : isT (kw K) 11 312) (ho : isT (kw K) 23 319) {u : Nat × Nat} {I : zM} {i : Int32} {x1 : Int32} (h1 : vp_in (i + 1) L) (e1 : xs (i + 1).toNatClampNeg = x1) {mc : Nat × Nat} {P1 : Option Value → zM → Prop} (m1 : CTW (kG K) (kw K) (kl K) (yL_length, cL_length, 4, some .int) [(0, 9, 12, 29)] 8 mc [.ref 0, .int x1, .ref 319] I P1) (m2 : ∀ v J, P1 v J → ∃ e f J2, v = some (.int e) ∧ CT (kG K) (kw K) (kl K) (yX11_length, cX11_length, 2, some .int) 3 (0, 0) [.ref 312, .int x1] J (qE f J2) nX ∧ J2 312 9 = e ∧ (e = 0 → J2 319 0 = f) ∧ True ∧ ZZ K (u.1 + mc.1, u.2 + mc.2) 2798 [(0, .ref 2000), (1, .ref 0), (2, .ref 312), (3, .ref 319), (4, .int i)] [] J2) (hu : u.1 + mc.1 ≤ 601024 ∧ u.2 + mc.2 ≤ 7293034) : ZZ K u 853 [(0, .ref 2000), (1, .ref 0), (2, .ref 312), (3, .ref 319), (4, .int i)] [] I := by
  have hb := hK.1
  have hnl := hK.2.2.1
  refine zz_aload_n hb (z_dec dL_law5 56 rfl) rfl 1 rfl ?_
  refine zz_aload_n hb (z_dec dL_law5 57 rfl) rfl 0 rfl ?_
  refine zz_iload hb (z_dec dL_law5 58 rfl) 4 rfl ?_
  refine zz_iconst (v := 1) hb (z_dec dL_law5 59 rfl) (by decide) ?_
  refine zz_iadd hb (z_dec dL_law6 0 rfl) ?_
  refine zl_sld hK h1 e1 (z_dec dL_law6 1 rfl) ?_
  refine zz_aload_n hb (z_dec dL_law6 2 rfl) rfl 3 rfl ?_
  refine zl_invW (as := [.ref 0, .int x1, .ref 319]) (d := 8) hK mkL_length rfl rfl hu rfl rfl (rL_law 117 rfl) rfl (z_dec dL_law6 3 rfl) m1 (fun v J hv => ?_)
  obtain ⟨e, f, J2, rfl, m2, ht, hf, h01, kN⟩ := m2 v J hv
  show ZZ K (u.1 + mc.1, u.2 + mc.2) 864 [(0, .ref 2000), (1, .ref 0), (2, .ref 312), (3, .ref 319), (4, .int i)] [.int e] J
  refine zz_istore (L' := [(0, .ref 2000), (1, .ref 0), (2, .ref 312), (3, .ref 319), (4, .int i), (5, .int e)]) hb (z_dec dL_law6 4 rfl) hnl rfl [1, 2, 3, 4, 5, 0] rfl ?_
  refine zz_aload_n hb (z_dec dL_law6 5 rfl) rfl 2 rfl ?_
  refine zz_aload_n hb (z_dec dL_law6 6 rfl) rfl 0 rfl ?_
  refine zz_iload hb (z_dec dL_law6 7 rfl) 4 rfl ?_
  refine zz_iconst (v := 1) hb (z_dec dL_law6 8 rfl) (by decide) ?_
  refine zz_iadd hb (z_dec dL_law6 9 rfl) ?_
  refine zl_sld hK h1 e1 (z_dec dL_law6 10 rfl) ?_
  refine zl_inv (as := [.int x1]) (d := 3) (mc := (0, 0)) hK mkX11_length rfl ckX11 hm rfl hu rfl (rL_law 119 rfl) (rL_law 120 rfl) (rL_law 121 rfl) rfl (z_dec dL_law6 11 rfl) m2 (fun v9 J9 hv => ?_)
  obtain ⟨f9, rfl, e9, w9⟩ := hv
  have e9 := e9.symm
  subst e9
  have w9 := w9.symm
  subst w9
  show ZZ K (u.1 + mc.1, u.2 + mc.2) 876 [(0, .ref 2000), (1, .ref 0), (2, .ref 312), (3, .ref 319), (4, .int i), (5, .int e)] [.int f] J2
  refine zz_istore (L' := [(0, .ref 2000), (1, .ref 0), (2, .ref 312), (3, .ref 319), (4, .int i), (5, .int e), (6, .int f)]) hb (z_dec dL_law6 12 rfl) hnl rfl [1, 2, 3, 4, 5, 6, 0] rfl ?_
  refine zz_aload_n hb (z_dec dL_law6 13 rfl) rfl 2 rfl ?_
  refine zl_inv (as := []) (d := 0) (mc := (0, 0)) hK mkX11_thrown rfl ckX11 hm rfl hu rfl (rL_law 11 rfl) (rL_law 12 rfl) (rL_law 13 rfl) rfl (z_dec dL_law6 14 rfl) (r_thrown hm) (fun v J9 hv => ?_)
  obtain ⟨f9, rfl, e9, w9⟩ := hv
  have e9 := e9.symm
  subst e9
  have w9 := w9.symm
  subst w9
  show ZZ K (u.1 + mc.1, u.2 + mc.2) 882 [(0, .ref 2000), (1, .ref 0), (2, .ref 312), (3, .ref 319), (4, .int i), (5, .int e), (6, .int f)] [.int (J2 312 9)] J2
  refine zz_iload hb (z_dec dL_law6 15 rfl) 5 rfl ?_
  refine zz_icmp_eq (tgt := 889) hb (z_dec dL_law6 16 rfl) (by decide) (fun c => ?_) (fun c => absurd ht c)
  refine zz_iload hb (z_dec dL_law6 19 rfl) 5 rfl ?_
  refine zz_if_ne (tgt := 906) hb (z_dec dL_law6 20 rfl) (by decide) (fun ce => ?_) (fun ce => ?_)
  · refine zz_goto (tgt := 2798) hb (z_dec dL_law6 30 rfl) (by decide) ?_
    refine zz_sub [0, 1, 2, 3, 4] (L' := [(0, .ref 2000), (1, .ref 0), (2, .ref 312), (3, .ref 319), (4, .int i)]) rfl ?_
    exact kN
  · refine zz_aload_n hb (z_dec dL_law6 21 rfl) rfl 3 rfl ?_
    refine zz_iconst (v := 0) hb (z_dec dL_law6 22 rfl) (by decide) ?_
    refine zz_lald (j := 0) hb ho rfl (show vp_in 0 1 from zin rfl) (z_dec dL_law6 23 rfl) ?_
    refine zz_iload hb (z_dec dL_law6 24 rfl) 6 rfl ?_
    refine zz_i2l hb (z_dec dL_law6 25 rfl) ?_
    refine zz_lcmp hb (z_dec dL_law6 26 rfl) ?_
    refine zz_if_eq (tgt := 906) hb (z_dec dL_law6 27 rfl) (by decide) (fun c => ?_) (fun c => absurd (by rw [hf ce]; exact lg_cmp_self _) c)
    refine zz_goto (tgt := 2798) hb (z_dec dL_law6 30 rfl) (by decide) ?_
    refine zz_sub [0, 1, 2, 3, 4] (L' := [(0, .ref 2000), (1, .ref 0), (2, .ref 312), (3, .ref 319), (4, .int i)]) rfl ?_
    exact kN
/-- arrival -/
theorem lc_20 (hK : zKl K b L xs Z) (hx : isT (kw K) 10 0) (hm : isT (kw K) 11 312) (ho : isT (kw K) 23 319) {u : Nat × Nat} {I : zM} {i : Int32} {x1 : Int32} (h1 : vp_in (i + 1) L) (e1 : xs (i + 1).toNatClampNeg = x1) {mc : Nat × Nat} {P1 : Option Value → zM → Prop} (m1 : CTW (kG K) (kw K) (kl K) (yL_arrival, cL_arrival, 4, some .int) [(0, 9, 12, 29)] 8 mc [.ref 0, .int x1, .ref 319] I P1) (m2 : ∀ v J, P1 v J → ∃ e f J2, v = some (.int e) ∧ CT (kG K) (kw K) (kl K) (yX11_arrival, cX11_arrival, 2, some .int) 3 (0, 0) [.ref 312, .int x1] J (qE f J2) nX ∧ J2 312 9 = e ∧ (e = 0 → J2 319 0 = f) ∧ True ∧ ZZ K (u.1 + mc.1, u.2 + mc.2) 2798 [(0, .ref 2000), (1, .ref 0), (2, .ref 312), (3, .ref 319), (4, .int i)] [] J2) (hu : u.1 + mc.1 ≤ 601024 ∧ u.2 + mc.2 ≤ 7293034) : ZZ K u 909 [(0, .ref 2000), (1, .ref 0), (2, .ref 312), (3, .ref 319), (4, .int i)] [] I := by
  have hb := hK.1
  have hnl := hK.2.2.1
  refine zz_aload_n hb (z_dec dL_law6 31 rfl) rfl 1 rfl ?_
  refine zz_aload_n hb (z_dec dL_law6 32 rfl) rfl 0 rfl ?_
  refine zz_iload hb (z_dec dL_law6 33 rfl) 4 rfl ?_
  refine zz_iconst (v := 1) hb (z_dec dL_law6 34 rfl) (by decide) ?_
  refine zz_iadd hb (z_dec dL_law6 35 rfl) ?_
  refine zl_sld hK h1 e1 (z_dec dL_law6 36 rfl) ?_
  refine zz_aload_n hb (z_dec dL_law6 37 rfl) rfl 3 rfl ?_
  refine zl_invW (as := [.ref 0, .int x1, .ref 319]) (d := 8) hK mkL_arrival rfl rfl hu rfl rfl (rL_law 122 rfl) rfl (z_dec dL_law6 38 rfl) m1 (fun v J hv => ?_)
  obtain ⟨e, f, J2, rfl, m2, ht, hf, h01, kN⟩ := m2 v J hv
  show ZZ K (u.1 + mc.1, u.2 + mc.2) 920 [(0, .ref 2000), (1, .ref 0), (2, .ref 312), (3, .ref 319), (4, .int i)] [.int e] J
  refine zz_istore (L' := [(0, .ref 2000), (1, .ref 0), (2, .ref 312), (3, .ref 319), (4, .int i), (5, .int e)]) hb (z_dec dL_law6 39 rfl) hnl rfl [1, 2, 3, 4, 5, 0] rfl ?_
  refine zz_aload_n hb (z_dec dL_law6 40 rfl) rfl 2 rfl ?_
  refine zz_aload_n hb (z_dec dL_law6 41 rfl) rfl 0 rfl ?_
  refine zz_iload hb (z_dec dL_law6 42 rfl) 4 rfl ?_
  refine zz_iconst (v := 1) hb (z_dec dL_law6 43 rfl) (by decide) ?_
  refine zz_iadd hb (z_dec dL_law6 44 rfl) ?_
  refine zl_sld hK h1 e1 (z_dec dL_law6 45 rfl) ?_
  refine zl_inv (as := [.int x1]) (d := 3) (mc := (0, 0)) hK mkX11_arrival rfl ckX11 hm rfl hu rfl (rL_law 124 rfl) (rL_law 125 rfl) (rL_law 126 rfl) rfl (z_dec dL_law6 46 rfl) m2 (fun v9 J9 hv => ?_)
  obtain ⟨f9, rfl, e9, w9⟩ := hv
  have e9 := e9.symm
  subst e9
  have w9 := w9.symm
  subst w9
  show ZZ K (u.1 + mc.1, u.2 + mc.2) 932 [(0, .ref 2000), (1, .ref 0), (2, .ref 312), (3, .ref 319), (4, .int i), (5, .int e)] [.int f] J2
  refine zz_istore (L' := [(0, .ref 2000), (1, .ref 0), (2, .ref 312), (3, .ref 319), (4, .int i), (5, .int e), (6, .int f)]) hb (z_dec dL_law6 47 rfl) hnl rfl [1, 2, 3, 4, 5, 6, 0] rfl ?_
  refine zz_aload_n hb (z_dec dL_law6 48 rfl) rfl 2 rfl ?_
  refine zl_inv (as := []) (d := 0) (mc := (0, 0)) hK mkX11_thrown rfl ckX11 hm rfl hu rfl (rL_law 11 rfl) (rL_law 12 rfl) (rL_law 13 rfl) rfl (z_dec dL_law6 49 rfl) (r_thrown hm) (fun v J9 hv => ?_)
  obtain ⟨f9, rfl, e9, w9⟩ := hv
  have e9 := e9.symm
  subst e9
  have w9 := w9.symm
  subst w9
  show ZZ K (u.1 + mc.1, u.2 + mc.2) 938 [(0, .ref 2000), (1, .ref 0), (2, .ref 312), (3, .ref 319), (4, .int i), (5, .int e), (6, .int f)] [.int (J2 312 9)] J2
  refine zz_iload hb (z_dec dL_law6 50 rfl) 5 rfl ?_
  refine zz_icmp_eq (tgt := 945) hb (z_dec dL_law6 51 rfl) (by decide) (fun c => ?_) (fun c => absurd ht c)
  refine zz_iload hb (z_dec dL_law6 54 rfl) 5 rfl ?_
  refine zz_if_ne (tgt := 962) hb (z_dec dL_law6 55 rfl) (by decide) (fun ce => ?_) (fun ce => ?_)
  · refine zz_goto (tgt := 2798) hb (z_dec dL_law7 5 rfl) (by decide) ?_
    refine zz_sub [0, 1, 2, 3, 4] (L' := [(0, .ref 2000), (1, .ref 0), (2, .ref 312), (3, .ref 319), (4, .int i)]) rfl ?_
    exact kN
  · refine zz_aload_n hb (z_dec dL_law6 56 rfl) rfl 3 rfl ?_
    refine zz_iconst (v := 0) hb (z_dec dL_law6 57 rfl) (by decide) ?_
    refine zz_lald (j := 0) hb ho rfl (show vp_in 0 1 from zin rfl) (z_dec dL_law6 58 rfl) ?_
    refine zz_iload hb (z_dec dL_law6 59 rfl) 6 rfl ?_
    refine zz_i2l hb (z_dec dL_law7 0 rfl) ?_
    refine zz_lcmp hb (z_dec dL_law7 1 rfl) ?_
    refine zz_if_eq (tgt := 962) hb (z_dec dL_law7 2 rfl) (by decide) (fun c => ?_) (fun c => absurd (by rw [hf ce]; exact lg_cmp_self _) c)
    refine zz_goto (tgt := 2798) hb (z_dec dL_law7 5 rfl) (by decide) ?_
    refine zz_sub [0, 1, 2, 3, 4] (L' := [(0, .ref 2000), (1, .ref 0), (2, .ref 312), (3, .ref 319), (4, .int i)]) rfl ?_
    exact kN
/-- deadline -/
theorem lc_21 (hK : zKl K b L xs Z) (hx : isT (kw K) 10 0) (hm : isT (kw K) 11 312) (ho : isT (kw K) 23 319) {u : Nat × Nat} {I : zM} {i : Int32} {x1 : Int32} (h1 : vp_in (i + 1) L) (e1 : xs (i + 1).toNatClampNeg = x1) {mc : Nat × Nat} {P1 : Option Value → zM → Prop} (m1 : CTW (kG K) (kw K) (kl K) (yL_deadline, cL_deadline, 4, some .int) [(0, 9, 12, 29)] 8 mc [.ref 0, .int x1, .ref 319] I P1) (m2 : ∀ v J, P1 v J → ∃ e f J2, v = some (.int e) ∧ CT (kG K) (kw K) (kl K) (yX11_deadline, cX11_deadline, 2, some .int) 3 (0, 0) [.ref 312, .int x1] J (qE f J2) nX ∧ J2 312 9 = e ∧ (e = 0 → J2 319 0 = f) ∧ True ∧ ZZ K (u.1 + mc.1, u.2 + mc.2) 2798 [(0, .ref 2000), (1, .ref 0), (2, .ref 312), (3, .ref 319), (4, .int i)] [] J2) (hu : u.1 + mc.1 ≤ 601024 ∧ u.2 + mc.2 ≤ 7293034) : ZZ K u 965 [(0, .ref 2000), (1, .ref 0), (2, .ref 312), (3, .ref 319), (4, .int i)] [] I := by
  have hb := hK.1
  have hnl := hK.2.2.1
  refine zz_aload_n hb (z_dec dL_law7 6 rfl) rfl 1 rfl ?_
  refine zz_aload_n hb (z_dec dL_law7 7 rfl) rfl 0 rfl ?_
  refine zz_iload hb (z_dec dL_law7 8 rfl) 4 rfl ?_
  refine zz_iconst (v := 1) hb (z_dec dL_law7 9 rfl) (by decide) ?_
  refine zz_iadd hb (z_dec dL_law7 10 rfl) ?_
  refine zl_sld hK h1 e1 (z_dec dL_law7 11 rfl) ?_
  refine zz_aload_n hb (z_dec dL_law7 12 rfl) rfl 3 rfl ?_
  refine zl_invW (as := [.ref 0, .int x1, .ref 319]) (d := 8) hK mkL_deadline rfl rfl hu rfl rfl (rL_law 127 rfl) rfl (z_dec dL_law7 13 rfl) m1 (fun v J hv => ?_)
  obtain ⟨e, f, J2, rfl, m2, ht, hf, h01, kN⟩ := m2 v J hv
  show ZZ K (u.1 + mc.1, u.2 + mc.2) 976 [(0, .ref 2000), (1, .ref 0), (2, .ref 312), (3, .ref 319), (4, .int i)] [.int e] J
  refine zz_istore (L' := [(0, .ref 2000), (1, .ref 0), (2, .ref 312), (3, .ref 319), (4, .int i), (5, .int e)]) hb (z_dec dL_law7 14 rfl) hnl rfl [1, 2, 3, 4, 5, 0] rfl ?_
  refine zz_aload_n hb (z_dec dL_law7 15 rfl) rfl 2 rfl ?_
  refine zz_aload_n hb (z_dec dL_law7 16 rfl) rfl 0 rfl ?_
  refine zz_iload hb (z_dec dL_law7 17 rfl) 4 rfl ?_
  refine zz_iconst (v := 1) hb (z_dec dL_law7 18 rfl) (by decide) ?_
  refine zz_iadd hb (z_dec dL_law7 19 rfl) ?_
  refine zl_sld hK h1 e1 (z_dec dL_law7 20 rfl) ?_
  refine zl_inv (as := [.int x1]) (d := 3) (mc := (0, 0)) hK mkX11_deadline rfl ckX11 hm rfl hu rfl (rL_law 129 rfl) (rL_law 130 rfl) (rL_law 131 rfl) rfl (z_dec dL_law7 21 rfl) m2 (fun v9 J9 hv => ?_)
  obtain ⟨f9, rfl, e9, w9⟩ := hv
  have e9 := e9.symm
  subst e9
  have w9 := w9.symm
  subst w9
  show ZZ K (u.1 + mc.1, u.2 + mc.2) 988 [(0, .ref 2000), (1, .ref 0), (2, .ref 312), (3, .ref 319), (4, .int i), (5, .int e)] [.int f] J2
  refine zz_istore (L' := [(0, .ref 2000), (1, .ref 0), (2, .ref 312), (3, .ref 319), (4, .int i), (5, .int e), (6, .int f)]) hb (z_dec dL_law7 22 rfl) hnl rfl [1, 2, 3, 4, 5, 6, 0] rfl ?_
  refine zz_aload_n hb (z_dec dL_law7 23 rfl) rfl 2 rfl ?_
  refine zl_inv (as := []) (d := 0) (mc := (0, 0)) hK mkX11_thrown rfl ckX11 hm rfl hu rfl (rL_law 11 rfl) (rL_law 12 rfl) (rL_law 13 rfl) rfl (z_dec dL_law7 24 rfl) (r_thrown hm) (fun v J9 hv => ?_)
  obtain ⟨f9, rfl, e9, w9⟩ := hv
  have e9 := e9.symm
  subst e9
  have w9 := w9.symm
  subst w9
  show ZZ K (u.1 + mc.1, u.2 + mc.2) 994 [(0, .ref 2000), (1, .ref 0), (2, .ref 312), (3, .ref 319), (4, .int i), (5, .int e), (6, .int f)] [.int (J2 312 9)] J2
  refine zz_iload hb (z_dec dL_law7 25 rfl) 5 rfl ?_
  refine zz_icmp_eq (tgt := 1001) hb (z_dec dL_law7 26 rfl) (by decide) (fun c => ?_) (fun c => absurd ht c)
  refine zz_iload hb (z_dec dL_law7 29 rfl) 5 rfl ?_
  refine zz_if_ne (tgt := 1018) hb (z_dec dL_law7 30 rfl) (by decide) (fun ce => ?_) (fun ce => ?_)
  · refine zz_goto (tgt := 2798) hb (z_dec dL_law7 40 rfl) (by decide) ?_
    refine zz_sub [0, 1, 2, 3, 4] (L' := [(0, .ref 2000), (1, .ref 0), (2, .ref 312), (3, .ref 319), (4, .int i)]) rfl ?_
    exact kN
  · refine zz_aload_n hb (z_dec dL_law7 31 rfl) rfl 3 rfl ?_
    refine zz_iconst (v := 0) hb (z_dec dL_law7 32 rfl) (by decide) ?_
    refine zz_lald (j := 0) hb ho rfl (show vp_in 0 1 from zin rfl) (z_dec dL_law7 33 rfl) ?_
    refine zz_iload hb (z_dec dL_law7 34 rfl) 6 rfl ?_
    refine zz_i2l hb (z_dec dL_law7 35 rfl) ?_
    refine zz_lcmp hb (z_dec dL_law7 36 rfl) ?_
    refine zz_if_eq (tgt := 1018) hb (z_dec dL_law7 37 rfl) (by decide) (fun c => ?_) (fun c => absurd (by rw [hf ce]; exact lg_cmp_self _) c)
    refine zz_goto (tgt := 2798) hb (z_dec dL_law7 40 rfl) (by decide) ?_
    refine zz_sub [0, 1, 2, 3, 4] (L' := [(0, .ref 2000), (1, .ref 0), (2, .ref 312), (3, .ref 319), (4, .int i)]) rfl ?_
    exact kN
/-- priority -/
theorem lc_22 (hK : zKl K b L xs Z) (hx : isT (kw K) 10 0) (hm : isT (kw K) 11 312) (ho : isT (kw K) 23 319) {u : Nat × Nat} {I : zM} {i : Int32} {x1 : Int32} (h1 : vp_in (i + 1) L) (e1 : xs (i + 1).toNatClampNeg = x1) {mc : Nat × Nat} {P1 : Option Value → zM → Prop} (m1 : CTW (kG K) (kw K) (kl K) (yL_priority, cL_priority, 4, some .int) [(0, 9, 12, 29)] 8 mc [.ref 0, .int x1, .ref 319] I P1) (m2 : ∀ v J, P1 v J → ∃ e f J2, v = some (.int e) ∧ CT (kG K) (kw K) (kl K) (yX11_priority, cX11_priority, 2, some .int) 3 (0, 0) [.ref 312, .int x1] J (qE f J2) nX ∧ J2 312 9 = e ∧ (e = 0 → J2 319 0 = f) ∧ True ∧ ZZ K (u.1 + mc.1, u.2 + mc.2) 2798 [(0, .ref 2000), (1, .ref 0), (2, .ref 312), (3, .ref 319), (4, .int i)] [] J2) (hu : u.1 + mc.1 ≤ 601024 ∧ u.2 + mc.2 ≤ 7293034) : ZZ K u 1021 [(0, .ref 2000), (1, .ref 0), (2, .ref 312), (3, .ref 319), (4, .int i)] [] I := by
  have hb := hK.1
  have hnl := hK.2.2.1
  refine zz_aload_n hb (z_dec dL_law7 41 rfl) rfl 1 rfl ?_
  refine zz_aload_n hb (z_dec dL_law7 42 rfl) rfl 0 rfl ?_
  refine zz_iload hb (z_dec dL_law7 43 rfl) 4 rfl ?_
  refine zz_iconst (v := 1) hb (z_dec dL_law7 44 rfl) (by decide) ?_
  refine zz_iadd hb (z_dec dL_law7 45 rfl) ?_
  refine zl_sld hK h1 e1 (z_dec dL_law7 46 rfl) ?_
  refine zz_aload_n hb (z_dec dL_law7 47 rfl) rfl 3 rfl ?_
  refine zl_invW (as := [.ref 0, .int x1, .ref 319]) (d := 8) hK mkL_priority rfl rfl hu rfl rfl (rL_law 132 rfl) rfl (z_dec dL_law7 48 rfl) m1 (fun v J hv => ?_)
  obtain ⟨e, f, J2, rfl, m2, ht, hf, h01, kN⟩ := m2 v J hv
  show ZZ K (u.1 + mc.1, u.2 + mc.2) 1032 [(0, .ref 2000), (1, .ref 0), (2, .ref 312), (3, .ref 319), (4, .int i)] [.int e] J
  refine zz_istore (L' := [(0, .ref 2000), (1, .ref 0), (2, .ref 312), (3, .ref 319), (4, .int i), (5, .int e)]) hb (z_dec dL_law7 49 rfl) hnl rfl [1, 2, 3, 4, 5, 0] rfl ?_
  refine zz_aload_n hb (z_dec dL_law7 50 rfl) rfl 2 rfl ?_
  refine zz_aload_n hb (z_dec dL_law7 51 rfl) rfl 0 rfl ?_
  refine zz_iload hb (z_dec dL_law7 52 rfl) 4 rfl ?_
  refine zz_iconst (v := 1) hb (z_dec dL_law7 53 rfl) (by decide) ?_
  refine zz_iadd hb (z_dec dL_law7 54 rfl) ?_
  refine zl_sld hK h1 e1 (z_dec dL_law7 55 rfl) ?_
  refine zl_inv (as := [.int x1]) (d := 3) (mc := (0, 0)) hK mkX11_priority rfl ckX11 hm rfl hu rfl (rL_law 134 rfl) (rL_law 135 rfl) (rL_law 136 rfl) rfl (z_dec dL_law7 56 rfl) m2 (fun v9 J9 hv => ?_)
  obtain ⟨f9, rfl, e9, w9⟩ := hv
  have e9 := e9.symm
  subst e9
  have w9 := w9.symm
  subst w9
  show ZZ K (u.1 + mc.1, u.2 + mc.2) 1044 [(0, .ref 2000), (1, .ref 0), (2, .ref 312), (3, .ref 319), (4, .int i), (5, .int e)] [.int f] J2
  refine zz_istore (L' := [(0, .ref 2000), (1, .ref 0), (2, .ref 312), (3, .ref 319), (4, .int i), (5, .int e), (6, .int f)]) hb (z_dec dL_law7 57 rfl) hnl rfl [1, 2, 3, 4, 5, 6, 0] rfl ?_
  refine zz_aload_n hb (z_dec dL_law7 58 rfl) rfl 2 rfl ?_
  refine zl_inv (as := []) (d := 0) (mc := (0, 0)) hK mkX11_thrown rfl ckX11 hm rfl hu rfl (rL_law 11 rfl) (rL_law 12 rfl) (rL_law 13 rfl) rfl (z_dec dL_law7 59 rfl) (r_thrown hm) (fun v J9 hv => ?_)
  obtain ⟨f9, rfl, e9, w9⟩ := hv
  have e9 := e9.symm
  subst e9
  have w9 := w9.symm
  subst w9
  show ZZ K (u.1 + mc.1, u.2 + mc.2) 1050 [(0, .ref 2000), (1, .ref 0), (2, .ref 312), (3, .ref 319), (4, .int i), (5, .int e), (6, .int f)] [.int (J2 312 9)] J2
  refine zz_iload hb (z_dec dL_law8 0 rfl) 5 rfl ?_
  refine zz_icmp_eq (tgt := 1057) hb (z_dec dL_law8 1 rfl) (by decide) (fun c => ?_) (fun c => absurd ht c)
  refine zz_iload hb (z_dec dL_law8 4 rfl) 5 rfl ?_
  refine zz_if_ne (tgt := 1074) hb (z_dec dL_law8 5 rfl) (by decide) (fun ce => ?_) (fun ce => ?_)
  · refine zz_goto (tgt := 2798) hb (z_dec dL_law8 15 rfl) (by decide) ?_
    refine zz_sub [0, 1, 2, 3, 4] (L' := [(0, .ref 2000), (1, .ref 0), (2, .ref 312), (3, .ref 319), (4, .int i)]) rfl ?_
    exact kN
  · refine zz_aload_n hb (z_dec dL_law8 6 rfl) rfl 3 rfl ?_
    refine zz_iconst (v := 0) hb (z_dec dL_law8 7 rfl) (by decide) ?_
    refine zz_lald (j := 0) hb ho rfl (show vp_in 0 1 from zin rfl) (z_dec dL_law8 8 rfl) ?_
    refine zz_iload hb (z_dec dL_law8 9 rfl) 6 rfl ?_
    refine zz_i2l hb (z_dec dL_law8 10 rfl) ?_
    refine zz_lcmp hb (z_dec dL_law8 11 rfl) ?_
    refine zz_if_eq (tgt := 1074) hb (z_dec dL_law8 12 rfl) (by decide) (fun c => ?_) (fun c => absurd (by rw [hf ce]; exact lg_cmp_self _) c)
    refine zz_goto (tgt := 2798) hb (z_dec dL_law8 15 rfl) (by decide) ?_
    refine zz_sub [0, 1, 2, 3, 4] (L' := [(0, .ref 2000), (1, .ref 0), (2, .ref 312), (3, .ref 319), (4, .int i)]) rfl ?_
    exact kN
/-- remaining -/
theorem lc_23 (hK : zKl K b L xs Z) (hx : isT (kw K) 10 0) (hm : isT (kw K) 11 312) (ho : isT (kw K) 23 319) {u : Nat × Nat} {I : zM} {i : Int32} {x1 : Int32} (h1 : vp_in (i + 1) L) (e1 : xs (i + 1).toNatClampNeg = x1) {mc : Nat × Nat} {P1 : Option Value → zM → Prop} (m1 : CTW (kG K) (kw K) (kl K) (yL_remaining, cL_remaining, 4, some .int) [(0, 9, 12, 29)] 8 mc [.ref 0, .int x1, .ref 319] I P1) (m2 : ∀ v J, P1 v J → ∃ e f J2, v = some (.int e) ∧ CT (kG K) (kw K) (kl K) (yX11_remaining, cX11_remaining, 2, some .int) 3 (0, 0) [.ref 312, .int x1] J (qE f J2) nX ∧ J2 312 9 = e ∧ (e = 0 → J2 319 0 = f) ∧ True ∧ ZZ K (u.1 + mc.1, u.2 + mc.2) 2798 [(0, .ref 2000), (1, .ref 0), (2, .ref 312), (3, .ref 319), (4, .int i)] [] J2) (hu : u.1 + mc.1 ≤ 601024 ∧ u.2 + mc.2 ≤ 7293034) : ZZ K u 1077 [(0, .ref 2000), (1, .ref 0), (2, .ref 312), (3, .ref 319), (4, .int i)] [] I := by
  have hb := hK.1
  have hnl := hK.2.2.1
  refine zz_aload_n hb (z_dec dL_law8 16 rfl) rfl 1 rfl ?_
  refine zz_aload_n hb (z_dec dL_law8 17 rfl) rfl 0 rfl ?_
  refine zz_iload hb (z_dec dL_law8 18 rfl) 4 rfl ?_
  refine zz_iconst (v := 1) hb (z_dec dL_law8 19 rfl) (by decide) ?_
  refine zz_iadd hb (z_dec dL_law8 20 rfl) ?_
  refine zl_sld hK h1 e1 (z_dec dL_law8 21 rfl) ?_
  refine zz_aload_n hb (z_dec dL_law8 22 rfl) rfl 3 rfl ?_
  refine zl_invW (as := [.ref 0, .int x1, .ref 319]) (d := 8) hK mkL_remaining rfl rfl hu rfl rfl (rL_law 137 rfl) rfl (z_dec dL_law8 23 rfl) m1 (fun v J hv => ?_)
  obtain ⟨e, f, J2, rfl, m2, ht, hf, h01, kN⟩ := m2 v J hv
  show ZZ K (u.1 + mc.1, u.2 + mc.2) 1088 [(0, .ref 2000), (1, .ref 0), (2, .ref 312), (3, .ref 319), (4, .int i)] [.int e] J
  refine zz_istore (L' := [(0, .ref 2000), (1, .ref 0), (2, .ref 312), (3, .ref 319), (4, .int i), (5, .int e)]) hb (z_dec dL_law8 24 rfl) hnl rfl [1, 2, 3, 4, 5, 0] rfl ?_
  refine zz_aload_n hb (z_dec dL_law8 25 rfl) rfl 2 rfl ?_
  refine zz_aload_n hb (z_dec dL_law8 26 rfl) rfl 0 rfl ?_
  refine zz_iload hb (z_dec dL_law8 27 rfl) 4 rfl ?_
  refine zz_iconst (v := 1) hb (z_dec dL_law8 28 rfl) (by decide) ?_
  refine zz_iadd hb (z_dec dL_law8 29 rfl) ?_
  refine zl_sld hK h1 e1 (z_dec dL_law8 30 rfl) ?_
  refine zl_inv (as := [.int x1]) (d := 3) (mc := (0, 0)) hK mkX11_remaining rfl ckX11 hm rfl hu rfl (rL_law 139 rfl) (rL_law 140 rfl) (rL_law 141 rfl) rfl (z_dec dL_law8 31 rfl) m2 (fun v9 J9 hv => ?_)
  obtain ⟨f9, rfl, e9, w9⟩ := hv
  have e9 := e9.symm
  subst e9
  have w9 := w9.symm
  subst w9
  show ZZ K (u.1 + mc.1, u.2 + mc.2) 1100 [(0, .ref 2000), (1, .ref 0), (2, .ref 312), (3, .ref 319), (4, .int i), (5, .int e)] [.int f] J2
  refine zz_istore (L' := [(0, .ref 2000), (1, .ref 0), (2, .ref 312), (3, .ref 319), (4, .int i), (5, .int e), (6, .int f)]) hb (z_dec dL_law8 32 rfl) hnl rfl [1, 2, 3, 4, 5, 6, 0] rfl ?_
  refine zz_aload_n hb (z_dec dL_law8 33 rfl) rfl 2 rfl ?_
  refine zl_inv (as := []) (d := 0) (mc := (0, 0)) hK mkX11_thrown rfl ckX11 hm rfl hu rfl (rL_law 11 rfl) (rL_law 12 rfl) (rL_law 13 rfl) rfl (z_dec dL_law8 34 rfl) (r_thrown hm) (fun v J9 hv => ?_)
  obtain ⟨f9, rfl, e9, w9⟩ := hv
  have e9 := e9.symm
  subst e9
  have w9 := w9.symm
  subst w9
  show ZZ K (u.1 + mc.1, u.2 + mc.2) 1106 [(0, .ref 2000), (1, .ref 0), (2, .ref 312), (3, .ref 319), (4, .int i), (5, .int e), (6, .int f)] [.int (J2 312 9)] J2
  refine zz_iload hb (z_dec dL_law8 35 rfl) 5 rfl ?_
  refine zz_icmp_eq (tgt := 1113) hb (z_dec dL_law8 36 rfl) (by decide) (fun c => ?_) (fun c => absurd ht c)
  refine zz_iload hb (z_dec dL_law8 39 rfl) 5 rfl ?_
  refine zz_if_ne (tgt := 1130) hb (z_dec dL_law8 40 rfl) (by decide) (fun ce => ?_) (fun ce => ?_)
  · refine zz_goto (tgt := 2798) hb (z_dec dL_law8 50 rfl) (by decide) ?_
    refine zz_sub [0, 1, 2, 3, 4] (L' := [(0, .ref 2000), (1, .ref 0), (2, .ref 312), (3, .ref 319), (4, .int i)]) rfl ?_
    exact kN
  · refine zz_aload_n hb (z_dec dL_law8 41 rfl) rfl 3 rfl ?_
    refine zz_iconst (v := 0) hb (z_dec dL_law8 42 rfl) (by decide) ?_
    refine zz_lald (j := 0) hb ho rfl (show vp_in 0 1 from zin rfl) (z_dec dL_law8 43 rfl) ?_
    refine zz_iload hb (z_dec dL_law8 44 rfl) 6 rfl ?_
    refine zz_i2l hb (z_dec dL_law8 45 rfl) ?_
    refine zz_lcmp hb (z_dec dL_law8 46 rfl) ?_
    refine zz_if_eq (tgt := 1130) hb (z_dec dL_law8 47 rfl) (by decide) (fun c => ?_) (fun c => absurd (by rw [hf ce]; exact lg_cmp_self _) c)
    refine zz_goto (tgt := 2798) hb (z_dec dL_law8 50 rfl) (by decide) ?_
    refine zz_sub [0, 1, 2, 3, 4] (L' := [(0, .ref 2000), (1, .ref 0), (2, .ref 312), (3, .ref 319), (4, .int i)]) rfl ?_
    exact kN
/-- finishMinute -/
theorem lc_24 (hK : zKl K b L xs Z) (hx : isT (kw K) 10 0) (hm : isT (kw K) 11 312) (ho : isT (kw K) 23 319) {u : Nat × Nat} {I : zM} {i : Int32} {x1 : Int32} (h1 : vp_in (i + 1) L) (e1 : xs (i + 1).toNatClampNeg = x1) {mc : Nat × Nat} {P1 : Option Value → zM → Prop} (m1 : CTW (kG K) (kw K) (kl K) (yL_finishMinute, cL_finishMinute, 4, some .int) [(0, 9, 12, 29)] 8 mc [.ref 0, .int x1, .ref 319] I P1) (m2 : ∀ v J, P1 v J → ∃ e f J2, v = some (.int e) ∧ CT (kG K) (kw K) (kl K) (yX11_finishMinute, cX11_finishMinute, 2, some .int) 3 (0, 0) [.ref 312, .int x1] J (qE f J2) nX ∧ J2 312 9 = e ∧ (e = 0 → J2 319 0 = f) ∧ True ∧ ZZ K (u.1 + mc.1, u.2 + mc.2) 2798 [(0, .ref 2000), (1, .ref 0), (2, .ref 312), (3, .ref 319), (4, .int i)] [] J2) (hu : u.1 + mc.1 ≤ 601024 ∧ u.2 + mc.2 ≤ 7293034) : ZZ K u 1133 [(0, .ref 2000), (1, .ref 0), (2, .ref 312), (3, .ref 319), (4, .int i)] [] I := by
  have hb := hK.1
  have hnl := hK.2.2.1
  refine zz_aload_n hb (z_dec dL_law8 51 rfl) rfl 1 rfl ?_
  refine zz_aload_n hb (z_dec dL_law8 52 rfl) rfl 0 rfl ?_
  refine zz_iload hb (z_dec dL_law8 53 rfl) 4 rfl ?_
  refine zz_iconst (v := 1) hb (z_dec dL_law8 54 rfl) (by decide) ?_
  refine zz_iadd hb (z_dec dL_law8 55 rfl) ?_
  refine zl_sld hK h1 e1 (z_dec dL_law8 56 rfl) ?_
  refine zz_aload_n hb (z_dec dL_law8 57 rfl) rfl 3 rfl ?_
  refine zl_invW (as := [.ref 0, .int x1, .ref 319]) (d := 8) hK mkL_finishMinute rfl rfl hu rfl rfl (rL_law 142 rfl) rfl (z_dec dL_law8 58 rfl) m1 (fun v J hv => ?_)
  obtain ⟨e, f, J2, rfl, m2, ht, hf, h01, kN⟩ := m2 v J hv
  show ZZ K (u.1 + mc.1, u.2 + mc.2) 1144 [(0, .ref 2000), (1, .ref 0), (2, .ref 312), (3, .ref 319), (4, .int i)] [.int e] J
  refine zz_istore (L' := [(0, .ref 2000), (1, .ref 0), (2, .ref 312), (3, .ref 319), (4, .int i), (5, .int e)]) hb (z_dec dL_law8 59 rfl) hnl rfl [1, 2, 3, 4, 5, 0] rfl ?_
  refine zz_aload_n hb (z_dec dL_law9 0 rfl) rfl 2 rfl ?_
  refine zz_aload_n hb (z_dec dL_law9 1 rfl) rfl 0 rfl ?_
  refine zz_iload hb (z_dec dL_law9 2 rfl) 4 rfl ?_
  refine zz_iconst (v := 1) hb (z_dec dL_law9 3 rfl) (by decide) ?_
  refine zz_iadd hb (z_dec dL_law9 4 rfl) ?_
  refine zl_sld hK h1 e1 (z_dec dL_law9 5 rfl) ?_
  refine zl_inv (as := [.int x1]) (d := 3) (mc := (0, 0)) hK mkX11_finishMinute rfl ckX11 hm rfl hu rfl (rL_law 144 rfl) (rL_law 145 rfl) (rL_law 146 rfl) rfl (z_dec dL_law9 6 rfl) m2 (fun v9 J9 hv => ?_)
  obtain ⟨f9, rfl, e9, w9⟩ := hv
  have e9 := e9.symm
  subst e9
  have w9 := w9.symm
  subst w9
  show ZZ K (u.1 + mc.1, u.2 + mc.2) 1156 [(0, .ref 2000), (1, .ref 0), (2, .ref 312), (3, .ref 319), (4, .int i), (5, .int e)] [.int f] J2
  refine zz_istore (L' := [(0, .ref 2000), (1, .ref 0), (2, .ref 312), (3, .ref 319), (4, .int i), (5, .int e), (6, .int f)]) hb (z_dec dL_law9 7 rfl) hnl rfl [1, 2, 3, 4, 5, 6, 0] rfl ?_
  refine zz_aload_n hb (z_dec dL_law9 8 rfl) rfl 2 rfl ?_
  refine zl_inv (as := []) (d := 0) (mc := (0, 0)) hK mkX11_thrown rfl ckX11 hm rfl hu rfl (rL_law 11 rfl) (rL_law 12 rfl) (rL_law 13 rfl) rfl (z_dec dL_law9 9 rfl) (r_thrown hm) (fun v J9 hv => ?_)
  obtain ⟨f9, rfl, e9, w9⟩ := hv
  have e9 := e9.symm
  subst e9
  have w9 := w9.symm
  subst w9
  show ZZ K (u.1 + mc.1, u.2 + mc.2) 1162 [(0, .ref 2000), (1, .ref 0), (2, .ref 312), (3, .ref 319), (4, .int i), (5, .int e), (6, .int f)] [.int (J2 312 9)] J2
  refine zz_iload hb (z_dec dL_law9 10 rfl) 5 rfl ?_
  refine zz_icmp_eq (tgt := 1169) hb (z_dec dL_law9 11 rfl) (by decide) (fun c => ?_) (fun c => absurd ht c)
  refine zz_iload hb (z_dec dL_law9 14 rfl) 5 rfl ?_
  refine zz_if_ne (tgt := 1186) hb (z_dec dL_law9 15 rfl) (by decide) (fun ce => ?_) (fun ce => ?_)
  · refine zz_goto (tgt := 2798) hb (z_dec dL_law9 25 rfl) (by decide) ?_
    refine zz_sub [0, 1, 2, 3, 4] (L' := [(0, .ref 2000), (1, .ref 0), (2, .ref 312), (3, .ref 319), (4, .int i)]) rfl ?_
    exact kN
  · refine zz_aload_n hb (z_dec dL_law9 16 rfl) rfl 3 rfl ?_
    refine zz_iconst (v := 0) hb (z_dec dL_law9 17 rfl) (by decide) ?_
    refine zz_lald (j := 0) hb ho rfl (show vp_in 0 1 from zin rfl) (z_dec dL_law9 18 rfl) ?_
    refine zz_iload hb (z_dec dL_law9 19 rfl) 6 rfl ?_
    refine zz_i2l hb (z_dec dL_law9 20 rfl) ?_
    refine zz_lcmp hb (z_dec dL_law9 21 rfl) ?_
    refine zz_if_eq (tgt := 1186) hb (z_dec dL_law9 22 rfl) (by decide) (fun c => ?_) (fun c => absurd (by rw [hf ce]; exact lg_cmp_self _) c)
    refine zz_goto (tgt := 2798) hb (z_dec dL_law9 25 rfl) (by decide) ?_
    refine zz_sub [0, 1, 2, 3, 4] (L' := [(0, .ref 2000), (1, .ref 0), (2, .ref 312), (3, .ref 319), (4, .int i)]) rfl ?_
    exact kN
/-- waitingTime -/
theorem lc_25 (hK : zKl K b L xs Z) (hx : isT (kw K) 10 0) (hm : isT (kw K) 11 312) (ho : isT (kw K) 23 319) {u : Nat × Nat} {I : zM} {i : Int32} {x1 : Int32} (h1 : vp_in (i + 1) L) (e1 : xs (i + 1).toNatClampNeg = x1) {mc : Nat × Nat} {P1 : Option Value → zM → Prop} (m1 : CTW (kG K) (kw K) (kl K) (yL_waitingTime, cL_waitingTime, 4, some .int) [(0, 9, 12, 29)] 8 mc [.ref 0, .int x1, .ref 319] I P1) (m2 : ∀ v J, P1 v J → ∃ e f J2, v = some (.int e) ∧ CT (kG K) (kw K) (kl K) (yX11_waitingTime, cX11_waitingTime, 2, some .int) 3 (0, 0) [.ref 312, .int x1] J (qE f J2) nX ∧ J2 312 9 = e ∧ (e = 0 → J2 319 0 = f) ∧ True ∧ ZZ K (u.1 + mc.1, u.2 + mc.2) 2798 [(0, .ref 2000), (1, .ref 0), (2, .ref 312), (3, .ref 319), (4, .int i)] [] J2) (hu : u.1 + mc.1 ≤ 601024 ∧ u.2 + mc.2 ≤ 7293034) : ZZ K u 1189 [(0, .ref 2000), (1, .ref 0), (2, .ref 312), (3, .ref 319), (4, .int i)] [] I := by
  have hb := hK.1
  have hnl := hK.2.2.1
  refine zz_aload_n hb (z_dec dL_law9 26 rfl) rfl 1 rfl ?_
  refine zz_aload_n hb (z_dec dL_law9 27 rfl) rfl 0 rfl ?_
  refine zz_iload hb (z_dec dL_law9 28 rfl) 4 rfl ?_
  refine zz_iconst (v := 1) hb (z_dec dL_law9 29 rfl) (by decide) ?_
  refine zz_iadd hb (z_dec dL_law9 30 rfl) ?_
  refine zl_sld hK h1 e1 (z_dec dL_law9 31 rfl) ?_
  refine zz_aload_n hb (z_dec dL_law9 32 rfl) rfl 3 rfl ?_
  refine zl_invW (as := [.ref 0, .int x1, .ref 319]) (d := 8) hK mkL_waitingTime rfl rfl hu rfl rfl (rL_law 147 rfl) rfl (z_dec dL_law9 33 rfl) m1 (fun v J hv => ?_)
  obtain ⟨e, f, J2, rfl, m2, ht, hf, h01, kN⟩ := m2 v J hv
  show ZZ K (u.1 + mc.1, u.2 + mc.2) 1200 [(0, .ref 2000), (1, .ref 0), (2, .ref 312), (3, .ref 319), (4, .int i)] [.int e] J
  refine zz_istore (L' := [(0, .ref 2000), (1, .ref 0), (2, .ref 312), (3, .ref 319), (4, .int i), (5, .int e)]) hb (z_dec dL_law9 34 rfl) hnl rfl [1, 2, 3, 4, 5, 0] rfl ?_
  refine zz_aload_n hb (z_dec dL_law9 35 rfl) rfl 2 rfl ?_
  refine zz_aload_n hb (z_dec dL_law9 36 rfl) rfl 0 rfl ?_
  refine zz_iload hb (z_dec dL_law9 37 rfl) 4 rfl ?_
  refine zz_iconst (v := 1) hb (z_dec dL_law9 38 rfl) (by decide) ?_
  refine zz_iadd hb (z_dec dL_law9 39 rfl) ?_
  refine zl_sld hK h1 e1 (z_dec dL_law9 40 rfl) ?_
  refine zl_inv (as := [.int x1]) (d := 3) (mc := (0, 0)) hK mkX11_waitingTime rfl ckX11 hm rfl hu rfl (rL_law 149 rfl) (rL_law 150 rfl) (rL_law 151 rfl) rfl (z_dec dL_law9 41 rfl) m2 (fun v9 J9 hv => ?_)
  obtain ⟨f9, rfl, e9, w9⟩ := hv
  have e9 := e9.symm
  subst e9
  have w9 := w9.symm
  subst w9
  show ZZ K (u.1 + mc.1, u.2 + mc.2) 1212 [(0, .ref 2000), (1, .ref 0), (2, .ref 312), (3, .ref 319), (4, .int i), (5, .int e)] [.int f] J2
  refine zz_istore (L' := [(0, .ref 2000), (1, .ref 0), (2, .ref 312), (3, .ref 319), (4, .int i), (5, .int e), (6, .int f)]) hb (z_dec dL_law9 42 rfl) hnl rfl [1, 2, 3, 4, 5, 6, 0] rfl ?_
  refine zz_aload_n hb (z_dec dL_law9 43 rfl) rfl 2 rfl ?_
  refine zl_inv (as := []) (d := 0) (mc := (0, 0)) hK mkX11_thrown rfl ckX11 hm rfl hu rfl (rL_law 11 rfl) (rL_law 12 rfl) (rL_law 13 rfl) rfl (z_dec dL_law9 44 rfl) (r_thrown hm) (fun v J9 hv => ?_)
  obtain ⟨f9, rfl, e9, w9⟩ := hv
  have e9 := e9.symm
  subst e9
  have w9 := w9.symm
  subst w9
  show ZZ K (u.1 + mc.1, u.2 + mc.2) 1218 [(0, .ref 2000), (1, .ref 0), (2, .ref 312), (3, .ref 319), (4, .int i), (5, .int e), (6, .int f)] [.int (J2 312 9)] J2
  refine zz_iload hb (z_dec dL_law9 45 rfl) 5 rfl ?_
  refine zz_icmp_eq (tgt := 1225) hb (z_dec dL_law9 46 rfl) (by decide) (fun c => ?_) (fun c => absurd ht c)
  refine zz_iload hb (z_dec dL_law9 49 rfl) 5 rfl ?_
  refine zz_if_ne (tgt := 1242) hb (z_dec dL_law9 50 rfl) (by decide) (fun ce => ?_) (fun ce => ?_)
  · refine zz_goto (tgt := 2798) hb (z_dec dL_law10 0 rfl) (by decide) ?_
    refine zz_sub [0, 1, 2, 3, 4] (L' := [(0, .ref 2000), (1, .ref 0), (2, .ref 312), (3, .ref 319), (4, .int i)]) rfl ?_
    exact kN
  · refine zz_aload_n hb (z_dec dL_law9 51 rfl) rfl 3 rfl ?_
    refine zz_iconst (v := 0) hb (z_dec dL_law9 52 rfl) (by decide) ?_
    refine zz_lald (j := 0) hb ho rfl (show vp_in 0 1 from zin rfl) (z_dec dL_law9 53 rfl) ?_
    refine zz_iload hb (z_dec dL_law9 54 rfl) 6 rfl ?_
    refine zz_i2l hb (z_dec dL_law9 55 rfl) ?_
    refine zz_lcmp hb (z_dec dL_law9 56 rfl) ?_
    refine zz_if_eq (tgt := 1242) hb (z_dec dL_law9 57 rfl) (by decide) (fun c => ?_) (fun c => absurd (by rw [hf ce]; exact lg_cmp_self _) c)
    refine zz_goto (tgt := 2798) hb (z_dec dL_law10 0 rfl) (by decide) ?_
    refine zz_sub [0, 1, 2, 3, 4] (L' := [(0, .ref 2000), (1, .ref 0), (2, .ref 312), (3, .ref 319), (4, .int i)]) rfl ?_
    exact kN
/-- effectivePriority -/
theorem lc_26 (hK : zKl K b L xs Z) (hx : isT (kw K) 10 0) (hm : isT (kw K) 11 312) (ho : isT (kw K) 23 319) {u : Nat × Nat} {I : zM} {i : Int32} {x1 : Int32} (h1 : vp_in (i + 1) L) (e1 : xs (i + 1).toNatClampNeg = x1) {mc : Nat × Nat} {P1 : Option Value → zM → Prop} (m1 : CTW (kG K) (kw K) (kl K) (yL_effectivePriority, cL_effectivePriority, 4, some .int) [(0, 9, 12, 29)] 8 mc [.ref 0, .int x1, .ref 319] I P1) (m2 : ∀ v J, P1 v J → ∃ e f J2, v = some (.int e) ∧ CT (kG K) (kw K) (kl K) (yX11_effectivePriority, cX11_effectivePriority, 2, some .int) 4 (0, 0) [.ref 312, .int x1] J (qE f J2) nX ∧ J2 312 9 = e ∧ (e = 0 → J2 319 0 = f) ∧ True ∧ ZZ K (u.1 + mc.1, u.2 + mc.2) 2798 [(0, .ref 2000), (1, .ref 0), (2, .ref 312), (3, .ref 319), (4, .int i)] [] J2) (hu : u.1 + mc.1 ≤ 601024 ∧ u.2 + mc.2 ≤ 7293034) : ZZ K u 1245 [(0, .ref 2000), (1, .ref 0), (2, .ref 312), (3, .ref 319), (4, .int i)] [] I := by
  have hb := hK.1
  have hnl := hK.2.2.1
  refine zz_aload_n hb (z_dec dL_law10 1 rfl) rfl 1 rfl ?_
  refine zz_aload_n hb (z_dec dL_law10 2 rfl) rfl 0 rfl ?_
  refine zz_iload hb (z_dec dL_law10 3 rfl) 4 rfl ?_
  refine zz_iconst (v := 1) hb (z_dec dL_law10 4 rfl) (by decide) ?_
  refine zz_iadd hb (z_dec dL_law10 5 rfl) ?_
  refine zl_sld hK h1 e1 (z_dec dL_law10 6 rfl) ?_
  refine zz_aload_n hb (z_dec dL_law10 7 rfl) rfl 3 rfl ?_
  refine zl_invW (as := [.ref 0, .int x1, .ref 319]) (d := 8) hK mkL_effectivePriority rfl rfl hu rfl rfl (rL_law 152 rfl) rfl (z_dec dL_law10 8 rfl) m1 (fun v J hv => ?_)
  obtain ⟨e, f, J2, rfl, m2, ht, hf, h01, kN⟩ := m2 v J hv
  show ZZ K (u.1 + mc.1, u.2 + mc.2) 1256 [(0, .ref 2000), (1, .ref 0), (2, .ref 312), (3, .ref 319), (4, .int i)] [.int e] J
  refine zz_istore (L' := [(0, .ref 2000), (1, .ref 0), (2, .ref 312), (3, .ref 319), (4, .int i), (5, .int e)]) hb (z_dec dL_law10 9 rfl) hnl rfl [1, 2, 3, 4, 5, 0] rfl ?_
  refine zz_aload_n hb (z_dec dL_law10 10 rfl) rfl 2 rfl ?_
  refine zz_aload_n hb (z_dec dL_law10 11 rfl) rfl 0 rfl ?_
  refine zz_iload hb (z_dec dL_law10 12 rfl) 4 rfl ?_
  refine zz_iconst (v := 1) hb (z_dec dL_law10 13 rfl) (by decide) ?_
  refine zz_iadd hb (z_dec dL_law10 14 rfl) ?_
  refine zl_sld hK h1 e1 (z_dec dL_law10 15 rfl) ?_
  refine zl_inv (as := [.int x1]) (d := 4) (mc := (0, 0)) hK mkX11_effectivePriority rfl ckX11 hm rfl hu rfl (rL_law 154 rfl) (rL_law 155 rfl) (rL_law 156 rfl) rfl (z_dec dL_law10 16 rfl) m2 (fun v9 J9 hv => ?_)
  obtain ⟨f9, rfl, e9, w9⟩ := hv
  have e9 := e9.symm
  subst e9
  have w9 := w9.symm
  subst w9
  show ZZ K (u.1 + mc.1, u.2 + mc.2) 1268 [(0, .ref 2000), (1, .ref 0), (2, .ref 312), (3, .ref 319), (4, .int i), (5, .int e)] [.int f] J2
  refine zz_istore (L' := [(0, .ref 2000), (1, .ref 0), (2, .ref 312), (3, .ref 319), (4, .int i), (5, .int e), (6, .int f)]) hb (z_dec dL_law10 17 rfl) hnl rfl [1, 2, 3, 4, 5, 6, 0] rfl ?_
  refine zz_aload_n hb (z_dec dL_law10 18 rfl) rfl 2 rfl ?_
  refine zl_inv (as := []) (d := 0) (mc := (0, 0)) hK mkX11_thrown rfl ckX11 hm rfl hu rfl (rL_law 11 rfl) (rL_law 12 rfl) (rL_law 13 rfl) rfl (z_dec dL_law10 19 rfl) (r_thrown hm) (fun v J9 hv => ?_)
  obtain ⟨f9, rfl, e9, w9⟩ := hv
  have e9 := e9.symm
  subst e9
  have w9 := w9.symm
  subst w9
  show ZZ K (u.1 + mc.1, u.2 + mc.2) 1274 [(0, .ref 2000), (1, .ref 0), (2, .ref 312), (3, .ref 319), (4, .int i), (5, .int e), (6, .int f)] [.int (J2 312 9)] J2
  refine zz_iload hb (z_dec dL_law10 20 rfl) 5 rfl ?_
  refine zz_icmp_eq (tgt := 1281) hb (z_dec dL_law10 21 rfl) (by decide) (fun c => ?_) (fun c => absurd ht c)
  refine zz_iload hb (z_dec dL_law10 24 rfl) 5 rfl ?_
  refine zz_if_ne (tgt := 1298) hb (z_dec dL_law10 25 rfl) (by decide) (fun ce => ?_) (fun ce => ?_)
  · refine zz_goto (tgt := 2798) hb (z_dec dL_law10 35 rfl) (by decide) ?_
    refine zz_sub [0, 1, 2, 3, 4] (L' := [(0, .ref 2000), (1, .ref 0), (2, .ref 312), (3, .ref 319), (4, .int i)]) rfl ?_
    exact kN
  · refine zz_aload_n hb (z_dec dL_law10 26 rfl) rfl 3 rfl ?_
    refine zz_iconst (v := 0) hb (z_dec dL_law10 27 rfl) (by decide) ?_
    refine zz_lald (j := 0) hb ho rfl (show vp_in 0 1 from zin rfl) (z_dec dL_law10 28 rfl) ?_
    refine zz_iload hb (z_dec dL_law10 29 rfl) 6 rfl ?_
    refine zz_i2l hb (z_dec dL_law10 30 rfl) ?_
    refine zz_lcmp hb (z_dec dL_law10 31 rfl) ?_
    refine zz_if_eq (tgt := 1298) hb (z_dec dL_law10 32 rfl) (by decide) (fun c => ?_) (fun c => absurd (by rw [hf ce]; exact lg_cmp_self _) c)
    refine zz_goto (tgt := 2798) hb (z_dec dL_law10 35 rfl) (by decide) ?_
    refine zz_sub [0, 1, 2, 3, 4] (L' := [(0, .ref 2000), (1, .ref 0), (2, .ref 312), (3, .ref 319), (4, .int i)]) rfl ?_
    exact kN
/-- isReady -/
theorem lc_27 (hK : zKl K b L xs Z) (hx : isT (kw K) 10 0) (hm : isT (kw K) 11 312) (ho : isT (kw K) 23 319) {u : Nat × Nat} {I : zM} {i : Int32} {x1 : Int32} (h1 : vp_in (i + 1) L) (e1 : xs (i + 1).toNatClampNeg = x1) {mc : Nat × Nat} {P1 : Option Value → zM → Prop} (m1 : CTW (kG K) (kw K) (kl K) (yL_isReady, cL_isReady, 4, some .int) [(0, 16, 19, 29)] 8 mc [.ref 0, .int x1, .ref 319] I P1) (m2 : ∀ v J, P1 v J → ∃ e f J2, v = some (.int e) ∧ CT (kG K) (kw K) (kl K) (yX11_isReady, cX11_isReady, 2, some .boolean) 3 (0, 0) [.ref 312, .int x1] J (qE f J2) nX ∧ J2 312 9 = e ∧ (e = 0 → J2 319 0 = f) ∧ (f = 0 ∨ f = 1) ∧ ZZ K (u.1 + mc.1, u.2 + mc.2) 2798 [(0, .ref 2000), (1, .ref 0), (2, .ref 312), (3, .ref 319), (4, .int i)] [] J2) (hu : u.1 + mc.1 ≤ 601024 ∧ u.2 + mc.2 ≤ 7293034) : ZZ K u 1301 [(0, .ref 2000), (1, .ref 0), (2, .ref 312), (3, .ref 319), (4, .int i)] [] I := by
  have hb := hK.1
  have hnl := hK.2.2.1
  refine zz_aload_n hb (z_dec dL_law10 36 rfl) rfl 1 rfl ?_
  refine zz_aload_n hb (z_dec dL_law10 37 rfl) rfl 0 rfl ?_
  refine zz_iload hb (z_dec dL_law10 38 rfl) 4 rfl ?_
  refine zz_iconst (v := 1) hb (z_dec dL_law10 39 rfl) (by decide) ?_
  refine zz_iadd hb (z_dec dL_law10 40 rfl) ?_
  refine zl_sld hK h1 e1 (z_dec dL_law10 41 rfl) ?_
  refine zz_aload_n hb (z_dec dL_law10 42 rfl) rfl 3 rfl ?_
  refine zl_invW (as := [.ref 0, .int x1, .ref 319]) (d := 8) hK mkL_isReady rfl rfl hu rfl rfl (rL_law 157 rfl) rfl (z_dec dL_law10 43 rfl) m1 (fun v J hv => ?_)
  obtain ⟨e, f, J2, rfl, m2, ht, hf, h01, kN⟩ := m2 v J hv
  show ZZ K (u.1 + mc.1, u.2 + mc.2) 1312 [(0, .ref 2000), (1, .ref 0), (2, .ref 312), (3, .ref 319), (4, .int i)] [.int e] J
  refine zz_istore (L' := [(0, .ref 2000), (1, .ref 0), (2, .ref 312), (3, .ref 319), (4, .int i), (5, .int e)]) hb (z_dec dL_law10 44 rfl) hnl rfl [1, 2, 3, 4, 5, 0] rfl ?_
  refine zz_aload_n hb (z_dec dL_law10 45 rfl) rfl 2 rfl ?_
  refine zz_aload_n hb (z_dec dL_law10 46 rfl) rfl 0 rfl ?_
  refine zz_iload hb (z_dec dL_law10 47 rfl) 4 rfl ?_
  refine zz_iconst (v := 1) hb (z_dec dL_law10 48 rfl) (by decide) ?_
  refine zz_iadd hb (z_dec dL_law10 49 rfl) ?_
  refine zl_sld hK h1 e1 (z_dec dL_law10 50 rfl) ?_
  refine zl_inv (as := [.int x1]) (d := 3) (mc := (0, 0)) hK mkX11_isReady rfl ckX11 hm rfl hu rfl (rL_law 159 rfl) (rL_law 160 rfl) (rL_law 161 rfl) rfl (z_dec dL_law10 51 rfl) m2 (fun v9 J9 hv => ?_)
  obtain ⟨f9, rfl, e9, w9⟩ := hv
  have e9 := e9.symm
  subst e9
  have w9 := w9.symm
  subst w9
  show ZZ K (u.1 + mc.1, u.2 + mc.2) 1324 [(0, .ref 2000), (1, .ref 0), (2, .ref 312), (3, .ref 319), (4, .int i), (5, .int e)] [.int f] J2
  refine zz_istore (L' := [(0, .ref 2000), (1, .ref 0), (2, .ref 312), (3, .ref 319), (4, .int i), (5, .int e), (6, .int f)]) hb (z_dec dL_law10 52 rfl) hnl rfl [1, 2, 3, 4, 5, 6, 0] rfl ?_
  refine zz_aload_n hb (z_dec dL_law10 53 rfl) rfl 2 rfl ?_
  refine zl_inv (as := []) (d := 0) (mc := (0, 0)) hK mkX11_thrown rfl ckX11 hm rfl hu rfl (rL_law 11 rfl) (rL_law 12 rfl) (rL_law 13 rfl) rfl (z_dec dL_law10 54 rfl) (r_thrown hm) (fun v J9 hv => ?_)
  obtain ⟨f9, rfl, e9, w9⟩ := hv
  have e9 := e9.symm
  subst e9
  have w9 := w9.symm
  subst w9
  show ZZ K (u.1 + mc.1, u.2 + mc.2) 1330 [(0, .ref 2000), (1, .ref 0), (2, .ref 312), (3, .ref 319), (4, .int i), (5, .int e), (6, .int f)] [.int (J2 312 9)] J2
  refine zz_iload hb (z_dec dL_law10 55 rfl) 5 rfl ?_
  refine zz_icmp_eq (tgt := 1337) hb (z_dec dL_law10 56 rfl) (by decide) (fun c => ?_) (fun c => absurd ht c)
  refine zz_iload hb (z_dec dL_law10 59 rfl) 5 rfl ?_
  refine zz_if_ne (tgt := 1361) hb (z_dec dL_law11 0 rfl) (by decide) (fun ce => ?_) (fun ce => ?_)
  · refine zz_goto (tgt := 2798) hb (z_dec dL_law11 13 rfl) (by decide) ?_
    refine zz_sub [0, 1, 2, 3, 4] (L' := [(0, .ref 2000), (1, .ref 0), (2, .ref 312), (3, .ref 319), (4, .int i)]) rfl ?_
    exact kN
  · refine zz_aload_n hb (z_dec dL_law11 1 rfl) rfl 3 rfl ?_
    refine zz_iconst (v := 0) hb (z_dec dL_law11 2 rfl) (by decide) ?_
    refine zz_lald (j := 0) hb ho rfl (show vp_in 0 1 from zin rfl) (z_dec dL_law11 3 rfl) ?_
    refine zz_iload hb (z_dec dL_law11 4 rfl) 6 rfl ?_
    refine zz_if_eq (tgt := 1354) hb (z_dec dL_law11 5 rfl) (by decide) (fun cz => ?_) (fun cz => ?_)
    · refine zz_lconst (v := 0) hb (z_dec dL_law11 8 rfl) (by decide) ?_
      refine zz_lcmp hb (z_dec dL_law11 9 rfl) ?_
      refine zz_if_eq (tgt := 1361) hb (z_dec dL_law11 10 rfl) (by decide) (fun c => ?_) (fun c => absurd (by rw [hf ce, cz]; rfl) c)
      refine zz_goto (tgt := 2798) hb (z_dec dL_law11 13 rfl) (by decide) ?_
      refine zz_sub [0, 1, 2, 3, 4] (L' := [(0, .ref 2000), (1, .ref 0), (2, .ref 312), (3, .ref 319), (4, .int i)]) rfl ?_
      exact kN
    · refine zz_lconst (v := 1) hb (z_dec dL_law11 6 rfl) (by decide) ?_
      refine zz_goto (tgt := 1355) hb (z_dec dL_law11 7 rfl) (by decide) ?_
      refine zz_lcmp hb (z_dec dL_law11 9 rfl) ?_
      refine zz_if_eq (tgt := 1361) hb (z_dec dL_law11 10 rfl) (by decide) (fun c => ?_) (fun c => absurd (by rw [hf ce, h01.resolve_left cz]; rfl) c)
      refine zz_goto (tgt := 2798) hb (z_dec dL_law11 13 rfl) (by decide) ?_
      refine zz_sub [0, 1, 2, 3, 4] (L' := [(0, .ref 2000), (1, .ref 0), (2, .ref 312), (3, .ref 319), (4, .int i)]) rfl ?_
      exact kN
/-- readyCount -/
theorem lc_28 (hK : zKl K b L xs Z) (hx : isT (kw K) 10 0) (hm : isT (kw K) 11 312) (ho : isT (kw K) 23 319) {u : Nat × Nat} {I : zM} {i : Int32}  {mc : Nat × Nat} {P1 : Option Value → zM → Prop} (m1 : CT (kG K) (kw K) (kl K) (yX10_readyCount, cX10_readyCount, 1, some .int) 2 mc [.ref 0] I P1 nX) (m2 : ∀ v J, P1 v J → ∃ f J2, v = some (.int f) ∧ CT (kG K) (kw K) (kl K) (yX11_readyCount, cX11_readyCount, 3, some .int) 3 (0, 0) [.ref 312] J (qE f J2) nX ∧ ZZ K (u.1 + mc.1, u.2 + mc.2) 2798 [(0, .ref 2000), (1, .ref 0), (2, .ref 312), (3, .ref 319), (4, .int i)] [] J2) (hu : u.1 + mc.1 ≤ 601024 ∧ u.2 + mc.2 ≤ 7293034) : ZZ K u 1364 [(0, .ref 2000), (1, .ref 0), (2, .ref 312), (3, .ref 319), (4, .int i)] [] I := by
  have hb := hK.1
  have hnl := hK.2.2.1
  refine zz_aload_n hb (z_dec dL_law11 14 rfl) rfl 1 rfl ?_
  refine zl_inv (as := []) (d := 2) hK mkX10_readyCount rfl ckX10 hx rfl hu rfl (rL_law 162 rfl) (rL_law 163 rfl) (rL_law 164 rfl) rfl (z_dec dL_law11 15 rfl) m1 (fun v J hv => ?_)
  obtain ⟨f, J2, rfl, m2, kN⟩ := m2 v J hv
  show ZZ K (u.1 + mc.1, u.2 + mc.2) 1368 [(0, .ref 2000), (1, .ref 0), (2, .ref 312), (3, .ref 319), (4, .int i)] [.int f] J
  refine zz_aload_n hb (z_dec dL_law11 16 rfl) rfl 2 rfl ?_
  refine zl_inv (as := []) (d := 3) (mc := (0, 0)) hK mkX11_readyCount rfl ckX11 hm rfl hu rfl (rL_law 165 rfl) (rL_law 166 rfl) (rL_law 167 rfl) rfl (z_dec dL_law11 17 rfl) m2 (fun v9 J9 hv => ?_)
  obtain ⟨f9, rfl, e9, w9⟩ := hv
  have e9 := e9.symm
  subst e9
  have w9 := w9.symm
  subst w9
  show ZZ K (u.1 + mc.1, u.2 + mc.2) 1372 [(0, .ref 2000), (1, .ref 0), (2, .ref 312), (3, .ref 319), (4, .int i)] [.int f, .int f] J2
  refine zz_icmp_eq (tgt := 2798) hb (z_dec dL_law11 18 rfl) (by decide) (fun c => ?_) (fun c => absurd rfl c)
  exact kN
/-- selectedLetter -/
theorem lc_29 (hK : zKl K b L xs Z) (hx : isT (kw K) 10 0) (hm : isT (kw K) 11 312) (ho : isT (kw K) 23 319) {u : Nat × Nat} {I : zM} {i : Int32}  {mc : Nat × Nat} {P1 : Option Value → zM → Prop} (m1 : CT (kG K) (kw K) (kl K) (yX10_selectedLetter, cX10_selectedLetter, 1, some .int) 3 mc [.ref 0] I P1 nX) (m2 : ∀ v J, P1 v J → ∃ f J2, v = some (.int f) ∧ CT (kG K) (kw K) (kl K) (yX11_selectedLetter, cX11_selectedLetter, 1, some .int) 7 (0, 0) [.ref 312] J (qE f J2) nX ∧ ZZ K (u.1 + mc.1, u.2 + mc.2) 2798 [(0, .ref 2000), (1, .ref 0), (2, .ref 312), (3, .ref 319), (4, .int i)] [] J2) (hu : u.1 + mc.1 ≤ 601024 ∧ u.2 + mc.2 ≤ 7293034) : ZZ K u 1377 [(0, .ref 2000), (1, .ref 0), (2, .ref 312), (3, .ref 319), (4, .int i)] [] I := by
  have hb := hK.1
  have hnl := hK.2.2.1
  refine zz_aload_n hb (z_dec dL_law11 21 rfl) rfl 1 rfl ?_
  refine zl_inv (as := []) (d := 3) hK mkX10_selectedLetter rfl ckX10 hx rfl hu rfl (rL_law 168 rfl) (rL_law 169 rfl) (rL_law 170 rfl) rfl (z_dec dL_law11 22 rfl) m1 (fun v J hv => ?_)
  obtain ⟨f, J2, rfl, m2, kN⟩ := m2 v J hv
  show ZZ K (u.1 + mc.1, u.2 + mc.2) 1381 [(0, .ref 2000), (1, .ref 0), (2, .ref 312), (3, .ref 319), (4, .int i)] [.int f] J
  refine zz_aload_n hb (z_dec dL_law11 23 rfl) rfl 2 rfl ?_
  refine zl_inv (as := []) (d := 7) (mc := (0, 0)) hK mkX11_selectedLetter rfl ckX11 hm rfl hu rfl (rL_law 171 rfl) (rL_law 172 rfl) (rL_law 173 rfl) rfl (z_dec dL_law11 24 rfl) m2 (fun v9 J9 hv => ?_)
  obtain ⟨f9, rfl, e9, w9⟩ := hv
  have e9 := e9.symm
  subst e9
  have w9 := w9.symm
  subst w9
  show ZZ K (u.1 + mc.1, u.2 + mc.2) 1385 [(0, .ref 2000), (1, .ref 0), (2, .ref 312), (3, .ref 319), (4, .int i)] [.int f, .int f] J2
  refine zz_icmp_eq (tgt := 2798) hb (z_dec dL_law11 25 rfl) (by decide) (fun c => ?_) (fun c => absurd rfl c)
  exact kN
/-- selectedBy -/
theorem lc_30 (hK : zKl K b L xs Z) (hx : isT (kw K) 10 0) (hm : isT (kw K) 11 312) (ho : isT (kw K) 23 319) {u : Nat × Nat} {I : zM} {i : Int32} {x1 : Int32} (h1 : vp_in (i + 1) L) (e1 : xs (i + 1).toNatClampNeg = x1) {mc : Nat × Nat} {P1 : Option Value → zM → Prop} (m1 : CTW (kG K) (kw K) (kl K) (yL_selectedBy, cL_selectedBy, 4, some .int) [(0, 9, 12, 19)] 8 mc [.ref 0, .int x1, .ref 319] I P1) (m2 : ∀ v J, P1 v J → ∃ e f J2, v = some (.int e) ∧ CT (kG K) (kw K) (kl K) (yX11_selectedBy, cX11_selectedBy, 2, some .int) 7 (0, 0) [.ref 312, .int x1] J (qE f J2) nX ∧ J2 312 9 = e ∧ (e = 0 → J2 319 0 = f) ∧ True ∧ ZZ K (u.1 + mc.1, u.2 + mc.2) 2798 [(0, .ref 2000), (1, .ref 0), (2, .ref 312), (3, .ref 319), (4, .int i)] [] J2) (hu : u.1 + mc.1 ≤ 601024 ∧ u.2 + mc.2 ≤ 7293034) : ZZ K u 1390 [(0, .ref 2000), (1, .ref 0), (2, .ref 312), (3, .ref 319), (4, .int i)] [] I := by
  have hb := hK.1
  have hnl := hK.2.2.1
  refine zz_aload_n hb (z_dec dL_law11 28 rfl) rfl 1 rfl ?_
  refine zz_aload_n hb (z_dec dL_law11 29 rfl) rfl 0 rfl ?_
  refine zz_iload hb (z_dec dL_law11 30 rfl) 4 rfl ?_
  refine zz_iconst (v := 1) hb (z_dec dL_law11 31 rfl) (by decide) ?_
  refine zz_iadd hb (z_dec dL_law11 32 rfl) ?_
  refine zl_sld hK h1 e1 (z_dec dL_law11 33 rfl) ?_
  refine zz_aload_n hb (z_dec dL_law11 34 rfl) rfl 3 rfl ?_
  refine zl_invW (as := [.ref 0, .int x1, .ref 319]) (d := 8) hK mkL_selectedBy rfl rfl hu rfl rfl (rL_law 174 rfl) rfl (z_dec dL_law11 35 rfl) m1 (fun v J hv => ?_)
  obtain ⟨e, f, J2, rfl, m2, ht, hf, h01, kN⟩ := m2 v J hv
  show ZZ K (u.1 + mc.1, u.2 + mc.2) 1401 [(0, .ref 2000), (1, .ref 0), (2, .ref 312), (3, .ref 319), (4, .int i)] [.int e] J
  refine zz_istore (L' := [(0, .ref 2000), (1, .ref 0), (2, .ref 312), (3, .ref 319), (4, .int i), (5, .int e)]) hb (z_dec dL_law11 36 rfl) hnl rfl [1, 2, 3, 4, 5, 0] rfl ?_
  refine zz_aload_n hb (z_dec dL_law11 37 rfl) rfl 2 rfl ?_
  refine zz_aload_n hb (z_dec dL_law11 38 rfl) rfl 0 rfl ?_
  refine zz_iload hb (z_dec dL_law11 39 rfl) 4 rfl ?_
  refine zz_iconst (v := 1) hb (z_dec dL_law11 40 rfl) (by decide) ?_
  refine zz_iadd hb (z_dec dL_law11 41 rfl) ?_
  refine zl_sld hK h1 e1 (z_dec dL_law11 42 rfl) ?_
  refine zl_inv (as := [.int x1]) (d := 7) (mc := (0, 0)) hK mkX11_selectedBy rfl ckX11 hm rfl hu rfl (rL_law 176 rfl) (rL_law 177 rfl) (rL_law 178 rfl) rfl (z_dec dL_law11 43 rfl) m2 (fun v9 J9 hv => ?_)
  obtain ⟨f9, rfl, e9, w9⟩ := hv
  have e9 := e9.symm
  subst e9
  have w9 := w9.symm
  subst w9
  show ZZ K (u.1 + mc.1, u.2 + mc.2) 1413 [(0, .ref 2000), (1, .ref 0), (2, .ref 312), (3, .ref 319), (4, .int i), (5, .int e)] [.int f] J2
  refine zz_istore (L' := [(0, .ref 2000), (1, .ref 0), (2, .ref 312), (3, .ref 319), (4, .int i), (5, .int e), (6, .int f)]) hb (z_dec dL_law11 44 rfl) hnl rfl [1, 2, 3, 4, 5, 6, 0] rfl ?_
  refine zz_aload_n hb (z_dec dL_law11 45 rfl) rfl 2 rfl ?_
  refine zl_inv (as := []) (d := 0) (mc := (0, 0)) hK mkX11_thrown rfl ckX11 hm rfl hu rfl (rL_law 11 rfl) (rL_law 12 rfl) (rL_law 13 rfl) rfl (z_dec dL_law11 46 rfl) (r_thrown hm) (fun v J9 hv => ?_)
  obtain ⟨f9, rfl, e9, w9⟩ := hv
  have e9 := e9.symm
  subst e9
  have w9 := w9.symm
  subst w9
  show ZZ K (u.1 + mc.1, u.2 + mc.2) 1419 [(0, .ref 2000), (1, .ref 0), (2, .ref 312), (3, .ref 319), (4, .int i), (5, .int e), (6, .int f)] [.int (J2 312 9)] J2
  refine zz_iload hb (z_dec dL_law11 47 rfl) 5 rfl ?_
  refine zz_icmp_eq (tgt := 1426) hb (z_dec dL_law11 48 rfl) (by decide) (fun c => ?_) (fun c => absurd ht c)
  refine zz_iload hb (z_dec dL_law11 51 rfl) 5 rfl ?_
  refine zz_if_ne (tgt := 1443) hb (z_dec dL_law11 52 rfl) (by decide) (fun ce => ?_) (fun ce => ?_)
  · refine zz_goto (tgt := 2798) hb (z_dec dL_law12 2 rfl) (by decide) ?_
    refine zz_sub [0, 1, 2, 3, 4] (L' := [(0, .ref 2000), (1, .ref 0), (2, .ref 312), (3, .ref 319), (4, .int i)]) rfl ?_
    exact kN
  · refine zz_aload_n hb (z_dec dL_law11 53 rfl) rfl 3 rfl ?_
    refine zz_iconst (v := 0) hb (z_dec dL_law11 54 rfl) (by decide) ?_
    refine zz_lald (j := 0) hb ho rfl (show vp_in 0 1 from zin rfl) (z_dec dL_law11 55 rfl) ?_
    refine zz_iload hb (z_dec dL_law11 56 rfl) 6 rfl ?_
    refine zz_i2l hb (z_dec dL_law11 57 rfl) ?_
    refine zz_lcmp hb (z_dec dL_law11 58 rfl) ?_
    refine zz_if_eq (tgt := 1443) hb (z_dec dL_law11 59 rfl) (by decide) (fun c => ?_) (fun c => absurd (by rw [hf ce]; exact lg_cmp_self _) c)
    refine zz_goto (tgt := 2798) hb (z_dec dL_law12 2 rfl) (by decide) ?_
    refine zz_sub [0, 1, 2, 3, 4] (L' := [(0, .ref 2000), (1, .ref 0), (2, .ref 312), (3, .ref 319), (4, .int i)]) rfl ?_
    exact kN
/-- openLettersOf -/
theorem lc_31 (hK : zKl K b L xs Z) (hx : isT (kw K) 10 0) (hm : isT (kw K) 11 312) (ho : isT (kw K) 23 319) {u : Nat × Nat} {I : zM} {i : Int32} {x1 : Int32} (h1 : vp_in (i + 1) L) (e1 : xs (i + 1).toNatClampNeg = x1) {mc : Nat × Nat} {P1 : Option Value → zM → Prop} (m1 : CTW (kG K) (kw K) (kl K) (yL_openLettersOf, cL_openLettersOf, 4, some .int) [(0, 9, 12, 29)] 8 mc [.ref 0, .int x1, .ref 319] I P1) (m2 : ∀ v J, P1 v J → ∃ e f J2, v = some (.int e) ∧ CT (kG K) (kw K) (kl K) (yX11_openLettersOf, cX11_openLettersOf, 4, some .int) 2 (0, 0) [.ref 312, .int x1] J (qE f J2) nX ∧ J2 312 9 = e ∧ (e = 0 → J2 319 0 = f) ∧ True ∧ ZZ K (u.1 + mc.1, u.2 + mc.2) 2798 [(0, .ref 2000), (1, .ref 0), (2, .ref 312), (3, .ref 319), (4, .int i)] [] J2) (hu : u.1 + mc.1 ≤ 601024 ∧ u.2 + mc.2 ≤ 7293034) : ZZ K u 1446 [(0, .ref 2000), (1, .ref 0), (2, .ref 312), (3, .ref 319), (4, .int i)] [] I := by
  have hb := hK.1
  have hnl := hK.2.2.1
  refine zz_aload_n hb (z_dec dL_law12 3 rfl) rfl 1 rfl ?_
  refine zz_aload_n hb (z_dec dL_law12 4 rfl) rfl 0 rfl ?_
  refine zz_iload hb (z_dec dL_law12 5 rfl) 4 rfl ?_
  refine zz_iconst (v := 1) hb (z_dec dL_law12 6 rfl) (by decide) ?_
  refine zz_iadd hb (z_dec dL_law12 7 rfl) ?_
  refine zl_sld hK h1 e1 (z_dec dL_law12 8 rfl) ?_
  refine zz_aload_n hb (z_dec dL_law12 9 rfl) rfl 3 rfl ?_
  refine zl_invW (as := [.ref 0, .int x1, .ref 319]) (d := 8) hK mkL_openLettersOf rfl rfl hu rfl rfl (rL_law 179 rfl) rfl (z_dec dL_law12 10 rfl) m1 (fun v J hv => ?_)
  obtain ⟨e, f, J2, rfl, m2, ht, hf, h01, kN⟩ := m2 v J hv
  show ZZ K (u.1 + mc.1, u.2 + mc.2) 1457 [(0, .ref 2000), (1, .ref 0), (2, .ref 312), (3, .ref 319), (4, .int i)] [.int e] J
  refine zz_istore (L' := [(0, .ref 2000), (1, .ref 0), (2, .ref 312), (3, .ref 319), (4, .int i), (5, .int e)]) hb (z_dec dL_law12 11 rfl) hnl rfl [1, 2, 3, 4, 5, 0] rfl ?_
  refine zz_aload_n hb (z_dec dL_law12 12 rfl) rfl 2 rfl ?_
  refine zz_aload_n hb (z_dec dL_law12 13 rfl) rfl 0 rfl ?_
  refine zz_iload hb (z_dec dL_law12 14 rfl) 4 rfl ?_
  refine zz_iconst (v := 1) hb (z_dec dL_law12 15 rfl) (by decide) ?_
  refine zz_iadd hb (z_dec dL_law12 16 rfl) ?_
  refine zl_sld hK h1 e1 (z_dec dL_law12 17 rfl) ?_
  refine zl_inv (as := [.int x1]) (d := 2) (mc := (0, 0)) hK mkX11_openLettersOf rfl ckX11 hm rfl hu rfl (rL_law 181 rfl) (rL_law 182 rfl) (rL_law 183 rfl) rfl (z_dec dL_law12 18 rfl) m2 (fun v9 J9 hv => ?_)
  obtain ⟨f9, rfl, e9, w9⟩ := hv
  have e9 := e9.symm
  subst e9
  have w9 := w9.symm
  subst w9
  show ZZ K (u.1 + mc.1, u.2 + mc.2) 1469 [(0, .ref 2000), (1, .ref 0), (2, .ref 312), (3, .ref 319), (4, .int i), (5, .int e)] [.int f] J2
  refine zz_istore (L' := [(0, .ref 2000), (1, .ref 0), (2, .ref 312), (3, .ref 319), (4, .int i), (5, .int e), (6, .int f)]) hb (z_dec dL_law12 19 rfl) hnl rfl [1, 2, 3, 4, 5, 6, 0] rfl ?_
  refine zz_aload_n hb (z_dec dL_law12 20 rfl) rfl 2 rfl ?_
  refine zl_inv (as := []) (d := 0) (mc := (0, 0)) hK mkX11_thrown rfl ckX11 hm rfl hu rfl (rL_law 11 rfl) (rL_law 12 rfl) (rL_law 13 rfl) rfl (z_dec dL_law12 21 rfl) (r_thrown hm) (fun v J9 hv => ?_)
  obtain ⟨f9, rfl, e9, w9⟩ := hv
  have e9 := e9.symm
  subst e9
  have w9 := w9.symm
  subst w9
  show ZZ K (u.1 + mc.1, u.2 + mc.2) 1475 [(0, .ref 2000), (1, .ref 0), (2, .ref 312), (3, .ref 319), (4, .int i), (5, .int e), (6, .int f)] [.int (J2 312 9)] J2
  refine zz_iload hb (z_dec dL_law12 22 rfl) 5 rfl ?_
  refine zz_icmp_eq (tgt := 1482) hb (z_dec dL_law12 23 rfl) (by decide) (fun c => ?_) (fun c => absurd ht c)
  refine zz_iload hb (z_dec dL_law12 26 rfl) 5 rfl ?_
  refine zz_if_ne (tgt := 1499) hb (z_dec dL_law12 27 rfl) (by decide) (fun ce => ?_) (fun ce => ?_)
  · refine zz_goto (tgt := 2798) hb (z_dec dL_law12 37 rfl) (by decide) ?_
    refine zz_sub [0, 1, 2, 3, 4] (L' := [(0, .ref 2000), (1, .ref 0), (2, .ref 312), (3, .ref 319), (4, .int i)]) rfl ?_
    exact kN
  · refine zz_aload_n hb (z_dec dL_law12 28 rfl) rfl 3 rfl ?_
    refine zz_iconst (v := 0) hb (z_dec dL_law12 29 rfl) (by decide) ?_
    refine zz_lald (j := 0) hb ho rfl (show vp_in 0 1 from zin rfl) (z_dec dL_law12 30 rfl) ?_
    refine zz_iload hb (z_dec dL_law12 31 rfl) 6 rfl ?_
    refine zz_i2l hb (z_dec dL_law12 32 rfl) ?_
    refine zz_lcmp hb (z_dec dL_law12 33 rfl) ?_
    refine zz_if_eq (tgt := 1499) hb (z_dec dL_law12 34 rfl) (by decide) (fun c => ?_) (fun c => absurd (by rw [hf ce]; exact lg_cmp_self _) c)
    refine zz_goto (tgt := 2798) hb (z_dec dL_law12 37 rfl) (by decide) ?_
    refine zz_sub [0, 1, 2, 3, 4] (L' := [(0, .ref 2000), (1, .ref 0), (2, .ref 312), (3, .ref 319), (4, .int i)]) rfl ?_
    exact kN
/-- workOf -/
theorem lc_32 (hK : zKl K b L xs Z) (hx : isT (kw K) 10 0) (hm : isT (kw K) 11 312) (ho : isT (kw K) 23 319) {u : Nat × Nat} {I : zM} {i : Int32} {x1 : Int32} (h1 : vp_in (i + 1) L) (e1 : xs (i + 1).toNatClampNeg = x1) {mc : Nat × Nat} {P1 : Option Value → zM → Prop} (m1 : CTW (kG K) (kw K) (kl K) (yL_workOf, cL_workOf, 4, some .int) [(0, 9, 12, 29)] 8 mc [.ref 0, .int x1, .ref 319] I P1) (m2 : ∀ v J, P1 v J → ∃ e f J2, v = some (.int e) ∧ CT (kG K) (kw K) (kl K) (yX11_workOf, cX11_workOf, 2, some .int) 2 (0, 0) [.ref 312, .int x1] J (qE f J2) nX ∧ J2 312 9 = e ∧ (e = 0 → J2 319 0 = f) ∧ True ∧ ZZ K (u.1 + mc.1, u.2 + mc.2) 2798 [(0, .ref 2000), (1, .ref 0), (2, .ref 312), (3, .ref 319), (4, .int i)] [] J2) (hu : u.1 + mc.1 ≤ 601024 ∧ u.2 + mc.2 ≤ 7293034) : ZZ K u 1502 [(0, .ref 2000), (1, .ref 0), (2, .ref 312), (3, .ref 319), (4, .int i)] [] I := by
  have hb := hK.1
  have hnl := hK.2.2.1
  refine zz_aload_n hb (z_dec dL_law12 38 rfl) rfl 1 rfl ?_
  refine zz_aload_n hb (z_dec dL_law12 39 rfl) rfl 0 rfl ?_
  refine zz_iload hb (z_dec dL_law12 40 rfl) 4 rfl ?_
  refine zz_iconst (v := 1) hb (z_dec dL_law12 41 rfl) (by decide) ?_
  refine zz_iadd hb (z_dec dL_law12 42 rfl) ?_
  refine zl_sld hK h1 e1 (z_dec dL_law12 43 rfl) ?_
  refine zz_aload_n hb (z_dec dL_law12 44 rfl) rfl 3 rfl ?_
  refine zl_invW (as := [.ref 0, .int x1, .ref 319]) (d := 8) hK mkL_workOf rfl rfl hu rfl rfl (rL_law 184 rfl) rfl (z_dec dL_law12 45 rfl) m1 (fun v J hv => ?_)
  obtain ⟨e, f, J2, rfl, m2, ht, hf, h01, kN⟩ := m2 v J hv
  show ZZ K (u.1 + mc.1, u.2 + mc.2) 1513 [(0, .ref 2000), (1, .ref 0), (2, .ref 312), (3, .ref 319), (4, .int i)] [.int e] J
  refine zz_istore (L' := [(0, .ref 2000), (1, .ref 0), (2, .ref 312), (3, .ref 319), (4, .int i), (5, .int e)]) hb (z_dec dL_law12 46 rfl) hnl rfl [1, 2, 3, 4, 5, 0] rfl ?_
  refine zz_aload_n hb (z_dec dL_law12 47 rfl) rfl 2 rfl ?_
  refine zz_aload_n hb (z_dec dL_law12 48 rfl) rfl 0 rfl ?_
  refine zz_iload hb (z_dec dL_law12 49 rfl) 4 rfl ?_
  refine zz_iconst (v := 1) hb (z_dec dL_law12 50 rfl) (by decide) ?_
  refine zz_iadd hb (z_dec dL_law12 51 rfl) ?_
  refine zl_sld hK h1 e1 (z_dec dL_law12 52 rfl) ?_
  refine zl_inv (as := [.int x1]) (d := 2) (mc := (0, 0)) hK mkX11_workOf rfl ckX11 hm rfl hu rfl (rL_law 186 rfl) (rL_law 187 rfl) (rL_law 188 rfl) rfl (z_dec dL_law12 53 rfl) m2 (fun v9 J9 hv => ?_)
  obtain ⟨f9, rfl, e9, w9⟩ := hv
  have e9 := e9.symm
  subst e9
  have w9 := w9.symm
  subst w9
  show ZZ K (u.1 + mc.1, u.2 + mc.2) 1525 [(0, .ref 2000), (1, .ref 0), (2, .ref 312), (3, .ref 319), (4, .int i), (5, .int e)] [.int f] J2
  refine zz_istore (L' := [(0, .ref 2000), (1, .ref 0), (2, .ref 312), (3, .ref 319), (4, .int i), (5, .int e), (6, .int f)]) hb (z_dec dL_law12 54 rfl) hnl rfl [1, 2, 3, 4, 5, 6, 0] rfl ?_
  refine zz_aload_n hb (z_dec dL_law12 55 rfl) rfl 2 rfl ?_
  refine zl_inv (as := []) (d := 0) (mc := (0, 0)) hK mkX11_thrown rfl ckX11 hm rfl hu rfl (rL_law 11 rfl) (rL_law 12 rfl) (rL_law 13 rfl) rfl (z_dec dL_law12 56 rfl) (r_thrown hm) (fun v J9 hv => ?_)
  obtain ⟨f9, rfl, e9, w9⟩ := hv
  have e9 := e9.symm
  subst e9
  have w9 := w9.symm
  subst w9
  show ZZ K (u.1 + mc.1, u.2 + mc.2) 1531 [(0, .ref 2000), (1, .ref 0), (2, .ref 312), (3, .ref 319), (4, .int i), (5, .int e), (6, .int f)] [.int (J2 312 9)] J2
  refine zz_iload hb (z_dec dL_law12 57 rfl) 5 rfl ?_
  refine zz_icmp_eq (tgt := 1538) hb (z_dec dL_law12 58 rfl) (by decide) (fun c => ?_) (fun c => absurd ht c)
  refine zz_iload hb (z_dec dL_law13 1 rfl) 5 rfl ?_
  refine zz_if_ne (tgt := 1555) hb (z_dec dL_law13 2 rfl) (by decide) (fun ce => ?_) (fun ce => ?_)
  · refine zz_goto (tgt := 2798) hb (z_dec dL_law13 12 rfl) (by decide) ?_
    refine zz_sub [0, 1, 2, 3, 4] (L' := [(0, .ref 2000), (1, .ref 0), (2, .ref 312), (3, .ref 319), (4, .int i)]) rfl ?_
    exact kN
  · refine zz_aload_n hb (z_dec dL_law13 3 rfl) rfl 3 rfl ?_
    refine zz_iconst (v := 0) hb (z_dec dL_law13 4 rfl) (by decide) ?_
    refine zz_lald (j := 0) hb ho rfl (show vp_in 0 1 from zin rfl) (z_dec dL_law13 5 rfl) ?_
    refine zz_iload hb (z_dec dL_law13 6 rfl) 6 rfl ?_
    refine zz_i2l hb (z_dec dL_law13 7 rfl) ?_
    refine zz_lcmp hb (z_dec dL_law13 8 rfl) ?_
    refine zz_if_eq (tgt := 1555) hb (z_dec dL_law13 9 rfl) (by decide) (fun c => ?_) (fun c => absurd (by rw [hf ce]; exact lg_cmp_self _) c)
    refine zz_goto (tgt := 2798) hb (z_dec dL_law13 12 rfl) (by decide) ?_
    refine zz_sub [0, 1, 2, 3, 4] (L' := [(0, .ref 2000), (1, .ref 0), (2, .ref 312), (3, .ref 319), (4, .int i)]) rfl ?_
    exact kN
/-- busiestClerk -/
theorem lc_33 (hK : zKl K b L xs Z) (hx : isT (kw K) 10 0) (hm : isT (kw K) 11 312) (ho : isT (kw K) 23 319) {u : Nat × Nat} {I : zM} {i : Int32}  {mc : Nat × Nat} {P1 : Option Value → zM → Prop} (m1 : CT (kG K) (kw K) (kl K) (yX10_busiestClerk, cX10_busiestClerk, 3, some .int) 1 mc [.ref 0] I P1 nX) (m2 : ∀ v J, P1 v J → ∃ f J2, v = some (.int f) ∧ CT (kG K) (kw K) (kl K) (yX11_busiestClerk, cX11_busiestClerk, 3, some .int) 2 (0, 0) [.ref 312] J (qE f J2) nX ∧ ZZ K (u.1 + mc.1, u.2 + mc.2) 2798 [(0, .ref 2000), (1, .ref 0), (2, .ref 312), (3, .ref 319), (4, .int i)] [] J2) (hu : u.1 + mc.1 ≤ 601024 ∧ u.2 + mc.2 ≤ 7293034) : ZZ K u 1558 [(0, .ref 2000), (1, .ref 0), (2, .ref 312), (3, .ref 319), (4, .int i)] [] I := by
  have hb := hK.1
  have hnl := hK.2.2.1
  refine zz_aload_n hb (z_dec dL_law13 13 rfl) rfl 1 rfl ?_
  refine zl_inv (as := []) (d := 1) hK mkX10_busiestClerk rfl ckX10 hx rfl hu rfl (rL_law 189 rfl) (rL_law 190 rfl) (rL_law 191 rfl) rfl (z_dec dL_law13 14 rfl) m1 (fun v J hv => ?_)
  obtain ⟨f, J2, rfl, m2, kN⟩ := m2 v J hv
  show ZZ K (u.1 + mc.1, u.2 + mc.2) 1562 [(0, .ref 2000), (1, .ref 0), (2, .ref 312), (3, .ref 319), (4, .int i)] [.int f] J
  refine zz_aload_n hb (z_dec dL_law13 15 rfl) rfl 2 rfl ?_
  refine zl_inv (as := []) (d := 2) (mc := (0, 0)) hK mkX11_busiestClerk rfl ckX11 hm rfl hu rfl (rL_law 192 rfl) (rL_law 193 rfl) (rL_law 194 rfl) rfl (z_dec dL_law13 16 rfl) m2 (fun v9 J9 hv => ?_)
  obtain ⟨f9, rfl, e9, w9⟩ := hv
  have e9 := e9.symm
  subst e9
  have w9 := w9.symm
  subst w9
  show ZZ K (u.1 + mc.1, u.2 + mc.2) 1566 [(0, .ref 2000), (1, .ref 0), (2, .ref 312), (3, .ref 319), (4, .int i)] [.int f, .int f] J2
  refine zz_icmp_eq (tgt := 2798) hb (z_dec dL_law13 17 rfl) (by decide) (fun c => ?_) (fun c => absurd rfl c)
  exact kN
/-- finishedCount -/
theorem lc_34 (hK : zKl K b L xs Z) (hx : isT (kw K) 10 0) (hm : isT (kw K) 11 312) (ho : isT (kw K) 23 319) {u : Nat × Nat} {I : zM} {i : Int32}  {mc : Nat × Nat} {P1 : Option Value → zM → Prop} (m1 : CT (kG K) (kw K) (kl K) (yX10_finishedCount, cX10_finishedCount, 1, some .int) 1 mc [.ref 0] I P1 nX) (m2 : ∀ v J, P1 v J → ∃ f J2, v = some (.int f) ∧ CT (kG K) (kw K) (kl K) (yX11_finishedCount, cX11_finishedCount, 1, some .int) 3 (0, 0) [.ref 312] J (qE f J2) nX ∧ ZZ K (u.1 + mc.1, u.2 + mc.2) 2798 [(0, .ref 2000), (1, .ref 0), (2, .ref 312), (3, .ref 319), (4, .int i)] [] J2) (hu : u.1 + mc.1 ≤ 601024 ∧ u.2 + mc.2 ≤ 7293034) : ZZ K u 1571 [(0, .ref 2000), (1, .ref 0), (2, .ref 312), (3, .ref 319), (4, .int i)] [] I := by
  have hb := hK.1
  have hnl := hK.2.2.1
  refine zz_aload_n hb (z_dec dL_law13 20 rfl) rfl 1 rfl ?_
  refine zl_inv (as := []) (d := 1) hK mkX10_finishedCount rfl ckX10 hx rfl hu rfl (rL_law 195 rfl) (rL_law 196 rfl) (rL_law 197 rfl) rfl (z_dec dL_law13 21 rfl) m1 (fun v J hv => ?_)
  obtain ⟨f, J2, rfl, m2, kN⟩ := m2 v J hv
  show ZZ K (u.1 + mc.1, u.2 + mc.2) 1575 [(0, .ref 2000), (1, .ref 0), (2, .ref 312), (3, .ref 319), (4, .int i)] [.int f] J
  refine zz_aload_n hb (z_dec dL_law13 22 rfl) rfl 2 rfl ?_
  refine zl_inv (as := []) (d := 3) (mc := (0, 0)) hK mkX11_finishedCount rfl ckX11 hm rfl hu rfl (rL_law 198 rfl) (rL_law 199 rfl) (rL_law 200 rfl) rfl (z_dec dL_law13 23 rfl) m2 (fun v9 J9 hv => ?_)
  obtain ⟨f9, rfl, e9, w9⟩ := hv
  have e9 := e9.symm
  subst e9
  have w9 := w9.symm
  subst w9
  show ZZ K (u.1 + mc.1, u.2 + mc.2) 1579 [(0, .ref 2000), (1, .ref 0), (2, .ref 312), (3, .ref 319), (4, .int i)] [.int f, .int f] J2
  refine zz_icmp_eq (tgt := 2798) hb (z_dec dL_law13 24 rfl) (by decide) (fun c => ?_) (fun c => absurd rfl c)
  exact kN
/-- lateCount -/
theorem lc_35 (hK : zKl K b L xs Z) (hx : isT (kw K) 10 0) (hm : isT (kw K) 11 312) (ho : isT (kw K) 23 319) {u : Nat × Nat} {I : zM} {i : Int32}  {mc : Nat × Nat} {P1 : Option Value → zM → Prop} (m1 : CT (kG K) (kw K) (kl K) (yX10_lateCount, cX10_lateCount, 1, some .int) 2 mc [.ref 0] I P1 nX) (m2 : ∀ v J, P1 v J → ∃ f J2, v = some (.int f) ∧ CT (kG K) (kw K) (kl K) (yX11_lateCount, cX11_lateCount, 1, some .int) 4 (0, 0) [.ref 312] J (qE f J2) nX ∧ ZZ K (u.1 + mc.1, u.2 + mc.2) 2798 [(0, .ref 2000), (1, .ref 0), (2, .ref 312), (3, .ref 319), (4, .int i)] [] J2) (hu : u.1 + mc.1 ≤ 601024 ∧ u.2 + mc.2 ≤ 7293034) : ZZ K u 1584 [(0, .ref 2000), (1, .ref 0), (2, .ref 312), (3, .ref 319), (4, .int i)] [] I := by
  have hb := hK.1
  have hnl := hK.2.2.1
  refine zz_aload_n hb (z_dec dL_law13 27 rfl) rfl 1 rfl ?_
  refine zl_inv (as := []) (d := 2) hK mkX10_lateCount rfl ckX10 hx rfl hu rfl (rL_law 201 rfl) (rL_law 202 rfl) (rL_law 203 rfl) rfl (z_dec dL_law13 28 rfl) m1 (fun v J hv => ?_)
  obtain ⟨f, J2, rfl, m2, kN⟩ := m2 v J hv
  show ZZ K (u.1 + mc.1, u.2 + mc.2) 1588 [(0, .ref 2000), (1, .ref 0), (2, .ref 312), (3, .ref 319), (4, .int i)] [.int f] J
  refine zz_aload_n hb (z_dec dL_law13 29 rfl) rfl 2 rfl ?_
  refine zl_inv (as := []) (d := 4) (mc := (0, 0)) hK mkX11_lateCount rfl ckX11 hm rfl hu rfl (rL_law 204 rfl) (rL_law 205 rfl) (rL_law 206 rfl) rfl (z_dec dL_law13 30 rfl) m2 (fun v9 J9 hv => ?_)
  obtain ⟨f9, rfl, e9, w9⟩ := hv
  have e9 := e9.symm
  subst e9
  have w9 := w9.symm
  subst w9
  show ZZ K (u.1 + mc.1, u.2 + mc.2) 1592 [(0, .ref 2000), (1, .ref 0), (2, .ref 312), (3, .ref 319), (4, .int i)] [.int f, .int f] J2
  refine zz_icmp_eq (tgt := 2798) hb (z_dec dL_law13 31 rfl) (by decide) (fun c => ?_) (fun c => absurd rfl c)
  exact kN
/-- greatestLateness -/
theorem lc_36 (hK : zKl K b L xs Z) (hx : isT (kw K) 10 0) (hm : isT (kw K) 11 312) (ho : isT (kw K) 23 319) {u : Nat × Nat} {I : zM} {i : Int32}  {mc : Nat × Nat} {P1 : Option Value → zM → Prop} (m1 : CTW (kG K) (kw K) (kl K) (yL_greatestLateness, cL_greatestLateness, 3, some .int) [(0, 8, 11, 34)] 8 mc [.ref 0, .ref 319] I P1) (m2 : ∀ v J, P1 v J → ∃ e f J2, v = some (.int e) ∧ CT (kG K) (kw K) (kl K) (yX11_greatestLateness, cX11_greatestLateness, 3, some .int) 2 (0, 0) [.ref 312] J (qE f J2) nX ∧ J2 312 9 = e ∧ (e = 0 → J2 319 0 = f) ∧ True ∧ ZZ K (u.1 + mc.1, u.2 + mc.2) 2798 [(0, .ref 2000), (1, .ref 0), (2, .ref 312), (3, .ref 319), (4, .int i)] [] J2) (hu : u.1 + mc.1 ≤ 601024 ∧ u.2 + mc.2 ≤ 7293034) : ZZ K u 1597 [(0, .ref 2000), (1, .ref 0), (2, .ref 312), (3, .ref 319), (4, .int i)] [] I := by
  have hb := hK.1
  have hnl := hK.2.2.1
  refine zz_aload_n hb (z_dec dL_law13 34 rfl) rfl 1 rfl ?_
  refine zz_aload_n hb (z_dec dL_law13 35 rfl) rfl 3 rfl ?_
  refine zl_invW (as := [.ref 0, .ref 319]) (d := 8) hK mkL_greatestLateness rfl rfl hu rfl rfl (rL_law 207 rfl) rfl (z_dec dL_law13 36 rfl) m1 (fun v J hv => ?_)
  obtain ⟨e, f, J2, rfl, m2, ht, hf, h01, kN⟩ := m2 v J hv
  show ZZ K (u.1 + mc.1, u.2 + mc.2) 1602 [(0, .ref 2000), (1, .ref 0), (2, .ref 312), (3, .ref 319), (4, .int i)] [.int e] J
  refine zz_istore (L' := [(0, .ref 2000), (1, .ref 0), (2, .ref 312), (3, .ref 319), (4, .int i), (5, .int e)]) hb (z_dec dL_law13 37 rfl) hnl rfl [1, 2, 3, 4, 5, 0] rfl ?_
  refine zz_aload_n hb (z_dec dL_law13 38 rfl) rfl 2 rfl ?_
  refine zl_inv (as := []) (d := 2) (mc := (0, 0)) hK mkX11_greatestLateness rfl ckX11 hm rfl hu rfl (rL_law 209 rfl) (rL_law 210 rfl) (rL_law 211 rfl) rfl (z_dec dL_law13 39 rfl) m2 (fun v9 J9 hv => ?_)
  obtain ⟨f9, rfl, e9, w9⟩ := hv
  have e9 := e9.symm
  subst e9
  have w9 := w9.symm
  subst w9
  show ZZ K (u.1 + mc.1, u.2 + mc.2) 1608 [(0, .ref 2000), (1, .ref 0), (2, .ref 312), (3, .ref 319), (4, .int i), (5, .int e)] [.int f] J2
  refine zz_istore (L' := [(0, .ref 2000), (1, .ref 0), (2, .ref 312), (3, .ref 319), (4, .int i), (5, .int e), (6, .int f)]) hb (z_dec dL_law13 40 rfl) hnl rfl [1, 2, 3, 4, 5, 6, 0] rfl ?_
  refine zz_aload_n hb (z_dec dL_law13 41 rfl) rfl 2 rfl ?_
  refine zl_inv (as := []) (d := 0) (mc := (0, 0)) hK mkX11_thrown rfl ckX11 hm rfl hu rfl (rL_law 11 rfl) (rL_law 12 rfl) (rL_law 13 rfl) rfl (z_dec dL_law13 42 rfl) (r_thrown hm) (fun v J9 hv => ?_)
  obtain ⟨f9, rfl, e9, w9⟩ := hv
  have e9 := e9.symm
  subst e9
  have w9 := w9.symm
  subst w9
  show ZZ K (u.1 + mc.1, u.2 + mc.2) 1614 [(0, .ref 2000), (1, .ref 0), (2, .ref 312), (3, .ref 319), (4, .int i), (5, .int e), (6, .int f)] [.int (J2 312 9)] J2
  refine zz_iload hb (z_dec dL_law13 43 rfl) 5 rfl ?_
  refine zz_icmp_eq (tgt := 1621) hb (z_dec dL_law13 44 rfl) (by decide) (fun c => ?_) (fun c => absurd ht c)
  refine zz_iload hb (z_dec dL_law13 47 rfl) 5 rfl ?_
  refine zz_if_ne (tgt := 1638) hb (z_dec dL_law13 48 rfl) (by decide) (fun ce => ?_) (fun ce => ?_)
  · refine zz_goto (tgt := 2798) hb (z_dec dL_law13 58 rfl) (by decide) ?_
    refine zz_sub [0, 1, 2, 3, 4] (L' := [(0, .ref 2000), (1, .ref 0), (2, .ref 312), (3, .ref 319), (4, .int i)]) rfl ?_
    exact kN
  · refine zz_aload_n hb (z_dec dL_law13 49 rfl) rfl 3 rfl ?_
    refine zz_iconst (v := 0) hb (z_dec dL_law13 50 rfl) (by decide) ?_
    refine zz_lald (j := 0) hb ho rfl (show vp_in 0 1 from zin rfl) (z_dec dL_law13 51 rfl) ?_
    refine zz_iload hb (z_dec dL_law13 52 rfl) 6 rfl ?_
    refine zz_i2l hb (z_dec dL_law13 53 rfl) ?_
    refine zz_lcmp hb (z_dec dL_law13 54 rfl) ?_
    refine zz_if_eq (tgt := 1638) hb (z_dec dL_law13 55 rfl) (by decide) (fun c => ?_) (fun c => absurd (by rw [hf ce]; exact lg_cmp_self _) c)
    refine zz_goto (tgt := 2798) hb (z_dec dL_law13 58 rfl) (by decide) ?_
    refine zz_sub [0, 1, 2, 3, 4] (L' := [(0, .ref 2000), (1, .ref 0), (2, .ref 312), (3, .ref 319), (4, .int i)]) rfl ?_
    exact kN
/-- blots -/
theorem lc_37 (hK : zKl K b L xs Z) (hx : isT (kw K) 10 0) (hm : isT (kw K) 11 312) (ho : isT (kw K) 23 319) {u : Nat × Nat} {I : zM} {i : Int32}  {mc : Nat × Nat} {P1 : Option Value → zM → Prop} (m1 : CT (kG K) (kw K) (kl K) (yX10_blots, cX10_blots, 1, some .int) 0 mc [.ref 0] I P1 nX) (m2 : ∀ v J, P1 v J → ∃ f J2, v = some (.int f) ∧ CT (kG K) (kw K) (kl K) (yX11_blots, cX11_blots, 1, some .int) 1 (0, 0) [.ref 312] J (qE f J2) nX ∧ ZZ K (u.1 + mc.1, u.2 + mc.2) 2798 [(0, .ref 2000), (1, .ref 0), (2, .ref 312), (3, .ref 319), (4, .int i)] [] J2) (hu : u.1 + mc.1 ≤ 601024 ∧ u.2 + mc.2 ≤ 7293034) : ZZ K u 1641 [(0, .ref 2000), (1, .ref 0), (2, .ref 312), (3, .ref 319), (4, .int i)] [] I := by
  have hb := hK.1
  have hnl := hK.2.2.1
  refine zz_aload_n hb (z_dec dL_law13 59 rfl) rfl 1 rfl ?_
  refine zl_inv (as := []) (d := 0) hK mkX10_blots rfl ckX10 hx rfl hu rfl (rL_law 212 rfl) (rL_law 213 rfl) (rL_law 214 rfl) rfl (z_dec dL_law14 0 rfl) m1 (fun v J hv => ?_)
  obtain ⟨f, J2, rfl, m2, kN⟩ := m2 v J hv
  show ZZ K (u.1 + mc.1, u.2 + mc.2) 1645 [(0, .ref 2000), (1, .ref 0), (2, .ref 312), (3, .ref 319), (4, .int i)] [.int f] J
  refine zz_aload_n hb (z_dec dL_law14 1 rfl) rfl 2 rfl ?_
  refine zl_inv (as := []) (d := 1) (mc := (0, 0)) hK mkX11_blots rfl ckX11 hm rfl hu rfl (rL_law 215 rfl) (rL_law 216 rfl) (rL_law 217 rfl) rfl (z_dec dL_law14 2 rfl) m2 (fun v9 J9 hv => ?_)
  obtain ⟨f9, rfl, e9, w9⟩ := hv
  have e9 := e9.symm
  subst e9
  have w9 := w9.symm
  subst w9
  show ZZ K (u.1 + mc.1, u.2 + mc.2) 1649 [(0, .ref 2000), (1, .ref 0), (2, .ref 312), (3, .ref 319), (4, .int i)] [.int f, .int f] J2
  refine zz_icmp_eq (tgt := 2798) hb (z_dec dL_law14 3 rfl) (by decide) (fun c => ?_) (fun c => absurd rfl c)
  exact kN
/-- handOvers -/
theorem lc_38 (hK : zKl K b L xs Z) (hx : isT (kw K) 10 0) (hm : isT (kw K) 11 312) (ho : isT (kw K) 23 319) {u : Nat × Nat} {I : zM} {i : Int32}  {mc : Nat × Nat} {P1 : Option Value → zM → Prop} (m1 : CT (kG K) (kw K) (kl K) (yX10_handOvers, cX10_handOvers, 1, some .int) 0 mc [.ref 0] I P1 nX) (m2 : ∀ v J, P1 v J → ∃ f J2, v = some (.int f) ∧ CT (kG K) (kw K) (kl K) (yX11_handOvers, cX11_handOvers, 1, some .int) 1 (0, 0) [.ref 312] J (qE f J2) nX ∧ ZZ K (u.1 + mc.1, u.2 + mc.2) 2798 [(0, .ref 2000), (1, .ref 0), (2, .ref 312), (3, .ref 319), (4, .int i)] [] J2) (hu : u.1 + mc.1 ≤ 601024 ∧ u.2 + mc.2 ≤ 7293034) : ZZ K u 1654 [(0, .ref 2000), (1, .ref 0), (2, .ref 312), (3, .ref 319), (4, .int i)] [] I := by
  have hb := hK.1
  have hnl := hK.2.2.1
  refine zz_aload_n hb (z_dec dL_law14 6 rfl) rfl 1 rfl ?_
  refine zl_inv (as := []) (d := 0) hK mkX10_handOvers rfl ckX10 hx rfl hu rfl (rL_law 218 rfl) (rL_law 219 rfl) (rL_law 220 rfl) rfl (z_dec dL_law14 7 rfl) m1 (fun v J hv => ?_)
  obtain ⟨f, J2, rfl, m2, kN⟩ := m2 v J hv
  show ZZ K (u.1 + mc.1, u.2 + mc.2) 1658 [(0, .ref 2000), (1, .ref 0), (2, .ref 312), (3, .ref 319), (4, .int i)] [.int f] J
  refine zz_aload_n hb (z_dec dL_law14 8 rfl) rfl 2 rfl ?_
  refine zl_inv (as := []) (d := 1) (mc := (0, 0)) hK mkX11_handOvers rfl ckX11 hm rfl hu rfl (rL_law 221 rfl) (rL_law 222 rfl) (rL_law 223 rfl) rfl (z_dec dL_law14 9 rfl) m2 (fun v9 J9 hv => ?_)
  obtain ⟨f9, rfl, e9, w9⟩ := hv
  have e9 := e9.symm
  subst e9
  have w9 := w9.symm
  subst w9
  show ZZ K (u.1 + mc.1, u.2 + mc.2) 1662 [(0, .ref 2000), (1, .ref 0), (2, .ref 312), (3, .ref 319), (4, .int i)] [.int f, .int f] J2
  refine zz_icmp_eq (tgt := 2798) hb (z_dec dL_law14 10 rfl) (by decide) (fun c => ?_) (fun c => absurd rfl c)
  exact kN
/-- writtenMinutes -/
theorem lc_39 (hK : zKl K b L xs Z) (hx : isT (kw K) 10 0) (hm : isT (kw K) 11 312) (ho : isT (kw K) 23 319) {u : Nat × Nat} {I : zM} {i : Int32}  {mc : Nat × Nat} {P1 : Option Value → zM → Prop} (m1 : CT (kG K) (kw K) (kl K) (yX10_writtenMinutes, cX10_writtenMinutes, 1, some .int) 0 mc [.ref 0] I P1 nX) (m2 : ∀ v J, P1 v J → ∃ f J2, v = some (.int f) ∧ CT (kG K) (kw K) (kl K) (yX11_writtenMinutes, cX11_writtenMinutes, 1, some .int) 1 (0, 0) [.ref 312] J (qE f J2) nX ∧ ZZ K (u.1 + mc.1, u.2 + mc.2) 2798 [(0, .ref 2000), (1, .ref 0), (2, .ref 312), (3, .ref 319), (4, .int i)] [] J2) (hu : u.1 + mc.1 ≤ 601024 ∧ u.2 + mc.2 ≤ 7293034) : ZZ K u 1667 [(0, .ref 2000), (1, .ref 0), (2, .ref 312), (3, .ref 319), (4, .int i)] [] I := by
  have hb := hK.1
  have hnl := hK.2.2.1
  refine zz_aload_n hb (z_dec dL_law14 13 rfl) rfl 1 rfl ?_
  refine zl_inv (as := []) (d := 0) hK mkX10_writtenMinutes rfl ckX10 hx rfl hu rfl (rL_law 224 rfl) (rL_law 225 rfl) (rL_law 226 rfl) rfl (z_dec dL_law14 14 rfl) m1 (fun v J hv => ?_)
  obtain ⟨f, J2, rfl, m2, kN⟩ := m2 v J hv
  show ZZ K (u.1 + mc.1, u.2 + mc.2) 1671 [(0, .ref 2000), (1, .ref 0), (2, .ref 312), (3, .ref 319), (4, .int i)] [.int f] J
  refine zz_aload_n hb (z_dec dL_law14 15 rfl) rfl 2 rfl ?_
  refine zl_inv (as := []) (d := 1) (mc := (0, 0)) hK mkX11_writtenMinutes rfl ckX11 hm rfl hu rfl (rL_law 227 rfl) (rL_law 228 rfl) (rL_law 229 rfl) rfl (z_dec dL_law14 16 rfl) m2 (fun v9 J9 hv => ?_)
  obtain ⟨f9, rfl, e9, w9⟩ := hv
  have e9 := e9.symm
  subst e9
  have w9 := w9.symm
  subst w9
  show ZZ K (u.1 + mc.1, u.2 + mc.2) 1675 [(0, .ref 2000), (1, .ref 0), (2, .ref 312), (3, .ref 319), (4, .int i)] [.int f, .int f] J2
  refine zz_icmp_eq (tgt := 2798) hb (z_dec dL_law14 17 rfl) (by decide) (fun c => ?_) (fun c => absurd rfl c)
  exact kN
/-- idleMinutes -/
theorem lc_40 (hK : zKl K b L xs Z) (hx : isT (kw K) 10 0) (hm : isT (kw K) 11 312) (ho : isT (kw K) 23 319) {u : Nat × Nat} {I : zM} {i : Int32}  {mc : Nat × Nat} {P1 : Option Value → zM → Prop} (m1 : CT (kG K) (kw K) (kl K) (yX10_idleMinutes, cX10_idleMinutes, 1, some .int) 0 mc [.ref 0] I P1 nX) (m2 : ∀ v J, P1 v J → ∃ f J2, v = some (.int f) ∧ CT (kG K) (kw K) (kl K) (yX11_idleMinutes, cX11_idleMinutes, 1, some .int) 1 (0, 0) [.ref 312] J (qE f J2) nX ∧ ZZ K (u.1 + mc.1, u.2 + mc.2) 2798 [(0, .ref 2000), (1, .ref 0), (2, .ref 312), (3, .ref 319), (4, .int i)] [] J2) (hu : u.1 + mc.1 ≤ 601024 ∧ u.2 + mc.2 ≤ 7293034) : ZZ K u 1680 [(0, .ref 2000), (1, .ref 0), (2, .ref 312), (3, .ref 319), (4, .int i)] [] I := by
  have hb := hK.1
  have hnl := hK.2.2.1
  refine zz_aload_n hb (z_dec dL_law14 20 rfl) rfl 1 rfl ?_
  refine zl_inv (as := []) (d := 0) hK mkX10_idleMinutes rfl ckX10 hx rfl hu rfl (rL_law 230 rfl) (rL_law 231 rfl) (rL_law 232 rfl) rfl (z_dec dL_law14 21 rfl) m1 (fun v J hv => ?_)
  obtain ⟨f, J2, rfl, m2, kN⟩ := m2 v J hv
  show ZZ K (u.1 + mc.1, u.2 + mc.2) 1684 [(0, .ref 2000), (1, .ref 0), (2, .ref 312), (3, .ref 319), (4, .int i)] [.int f] J
  refine zz_aload_n hb (z_dec dL_law14 22 rfl) rfl 2 rfl ?_
  refine zl_inv (as := []) (d := 1) (mc := (0, 0)) hK mkX11_idleMinutes rfl ckX11 hm rfl hu rfl (rL_law 233 rfl) (rL_law 234 rfl) (rL_law 235 rfl) rfl (z_dec dL_law14 23 rfl) m2 (fun v9 J9 hv => ?_)
  obtain ⟨f9, rfl, e9, w9⟩ := hv
  have e9 := e9.symm
  subst e9
  have w9 := w9.symm
  subst w9
  show ZZ K (u.1 + mc.1, u.2 + mc.2) 1688 [(0, .ref 2000), (1, .ref 0), (2, .ref 312), (3, .ref 319), (4, .int i)] [.int f, .int f] J2
  refine zz_icmp_eq (tgt := 2798) hb (z_dec dL_law14 24 rfl) (by decide) (fun c => ?_) (fun c => absurd rfl c)
  exact kN
/-- utilization -/
theorem lc_41 (hK : zKl K b L xs Z) (hx : isT (kw K) 10 0) (hm : isT (kw K) 11 312) (ho : isT (kw K) 23 319) {u : Nat × Nat} {I : zM} {i : Int32}  {mc : Nat × Nat} {P1 : Option Value → zM → Prop} (m1 : CT (kG K) (kw K) (kl K) (yX10_utilization, cX10_utilization, 1, some .float) 0 mc [.ref 0] I P1 nX) (m2 : ∀ v J, P1 v J → ∃ f J2, v = some (.float f) ∧ CT (kG K) (kw K) (kl K) (yX11_utilization, cX11_utilization, 1, some .float) 0 (0, 0) [.ref 312] J (qF f J2) nX ∧ FP.Core.decode FP.Core.b32 f.toNat ≠ .nan ∧ ZZ K (u.1 + mc.1, u.2 + mc.2) 2798 [(0, .ref 2000), (1, .ref 0), (2, .ref 312), (3, .ref 319), (4, .int i)] [] J2) (hu : u.1 + mc.1 ≤ 601024 ∧ u.2 + mc.2 ≤ 7293034) : ZZ K u 1693 [(0, .ref 2000), (1, .ref 0), (2, .ref 312), (3, .ref 319), (4, .int i)] [] I := by
  have hb := hK.1
  have hnl := hK.2.2.1
  refine zz_aload_n hb (z_dec dL_law14 27 rfl) rfl 1 rfl ?_
  refine zl_inv (as := []) (d := 0) hK mkX10_utilization rfl ckX10 hx rfl hu rfl (rL_law 236 rfl) (rL_law 237 rfl) (rL_law 238 rfl) rfl (z_dec dL_law14 28 rfl) m1 (fun v J hv => ?_)
  obtain ⟨f, J2, rfl, m2, hn, kN⟩ := m2 v J hv
  show ZZ K (u.1 + mc.1, u.2 + mc.2) 1697 [(0, .ref 2000), (1, .ref 0), (2, .ref 312), (3, .ref 319), (4, .int i)] [.float f] J
  refine zz_f2d hb (z_dec dL_law14 29 rfl) (f2d_num hn).1 ?_
  refine zl_dstore (Lc' := [(0, .ref 2000), (1, .ref 0), (2, .ref 312), (3, .ref 319), (4, .int i), (5, .double (FP.f2d f))]) hb (z_dec dL_law14 30 rfl) hnl rfl [1, 2, 3, 4, 5, 0] rfl ?_
  refine zz_aload_n hb (z_dec dL_law14 31 rfl) rfl 2 rfl ?_
  refine zl_inv (as := []) (d := 0) (mc := (0, 0)) hK mkX11_utilization rfl ckX11 hm rfl hu rfl (rL_law 239 rfl) (rL_law 240 rfl) (rL_law 241 rfl) rfl (z_dec dL_law14 32 rfl) m2 (fun v9 J9 hv => ?_)
  obtain ⟨rfl, w9⟩ := hv
  have w9 := w9.symm
  subst w9
  show ZZ K (u.1 + mc.1, u.2 + mc.2) 1704 [(0, .ref 2000), (1, .ref 0), (2, .ref 312), (3, .ref 319), (4, .int i), (5, .double (FP.f2d f))] [.float f] J2
  refine zz_f2d hb (z_dec dL_law14 33 rfl) (f2d_num hn).1 ?_
  refine zl_dstore (Lc' := [(0, .ref 2000), (1, .ref 0), (2, .ref 312), (3, .ref 319), (4, .int i), (5, .double (FP.f2d f)), (7, .double (FP.f2d f))]) hb (z_dec dL_law14 34 rfl) hnl rfl [1, 2, 3, 4, 5, 6, 0] rfl ?_
  refine zl_dload hb (z_dec dL_law14 35 rfl) 5 rfl ?_
  refine zl_dload hb (z_dec dL_law14 36 rfl) 6 rfl ?_
  refine zz_dcmp hb (z_dec dL_law14 37 rfl) ?_
  refine zz_if_eq (tgt := 1733) hb (z_dec dL_law14 38 rfl) (by decide) (fun c => ?_) (fun c => absurd (by rw [dcmp_eq (f2d_num hn).2]; rfl) c)
  refine zz_goto (tgt := 2798) hb (z_dec dL_law14 49 rfl) (by decide) ?_
  refine zz_sub [0, 1, 2, 3, 4] (L' := [(0, .ref 2000), (1, .ref 0), (2, .ref 312), (3, .ref 319), (4, .int i)]) rfl ?_
  exact kN
/-- meanTurnaround -/
theorem lc_42 (hK : zKl K b L xs Z) (hx : isT (kw K) 10 0) (hm : isT (kw K) 11 312) (ho : isT (kw K) 23 319) {u : Nat × Nat} {I : zM} {i : Int32}  {mc : Nat × Nat} {P1 : Option Value → zM → Prop} (m1 : CT (kG K) (kw K) (kl K) (yX10_meanTurnaround, cX10_meanTurnaround, 2, some .double) 1 mc [.ref 0] I P1 nX) (m2 : ∀ v J, P1 v J → ∃ f J2, v = some (.double f) ∧ CT (kG K) (kw K) (kl K) (yX11_meanTurnaround, cX11_meanTurnaround, 3, some .double) 3 (0, 0) [.ref 312] J (qD f J2) nX ∧ FP.Core.decode FP.Core.b64 f.toNat ≠ .nan ∧ ZZ K (u.1 + mc.1, u.2 + mc.2) 2798 [(0, .ref 2000), (1, .ref 0), (2, .ref 312), (3, .ref 319), (4, .int i)] [] J2) (hu : u.1 + mc.1 ≤ 601024 ∧ u.2 + mc.2 ≤ 7293034) : ZZ K u 1736 [(0, .ref 2000), (1, .ref 0), (2, .ref 312), (3, .ref 319), (4, .int i)] [] I := by
  have hb := hK.1
  have hnl := hK.2.2.1
  refine zz_aload_n hb (z_dec dL_law14 50 rfl) rfl 1 rfl ?_
  refine zl_inv (as := []) (d := 1) hK mkX10_meanTurnaround rfl ckX10 hx rfl hu rfl (rL_law 242 rfl) (rL_law 243 rfl) (rL_law 244 rfl) rfl (z_dec dL_law14 51 rfl) m1 (fun v J hv => ?_)
  obtain ⟨f, J2, rfl, m2, hn, kN⟩ := m2 v J hv
  show ZZ K (u.1 + mc.1, u.2 + mc.2) 1740 [(0, .ref 2000), (1, .ref 0), (2, .ref 312), (3, .ref 319), (4, .int i)] [.double f] J
  refine zl_dstore (Lc' := [(0, .ref 2000), (1, .ref 0), (2, .ref 312), (3, .ref 319), (4, .int i), (5, .double f)]) hb (z_dec dL_law14 52 rfl) hnl rfl [1, 2, 3, 4, 5, 0] rfl ?_
  refine zz_aload_n hb (z_dec dL_law14 53 rfl) rfl 2 rfl ?_
  refine zl_inv (as := []) (d := 3) (mc := (0, 0)) hK mkX11_meanTurnaround rfl ckX11 hm rfl hu rfl (rL_law 245 rfl) (rL_law 246 rfl) (rL_law 247 rfl) rfl (z_dec dL_law14 54 rfl) m2 (fun v9 J9 hv => ?_)
  obtain ⟨rfl, w9⟩ := hv
  have w9 := w9.symm
  subst w9
  show ZZ K (u.1 + mc.1, u.2 + mc.2) 1746 [(0, .ref 2000), (1, .ref 0), (2, .ref 312), (3, .ref 319), (4, .int i), (5, .double f)] [.double f] J2
  refine zl_dstore (Lc' := [(0, .ref 2000), (1, .ref 0), (2, .ref 312), (3, .ref 319), (4, .int i), (5, .double f), (7, .double f)]) hb (z_dec dL_law14 55 rfl) hnl rfl [1, 2, 3, 4, 5, 6, 0] rfl ?_
  refine zl_dload hb (z_dec dL_law14 56 rfl) 5 rfl ?_
  refine zl_dload hb (z_dec dL_law14 57 rfl) 6 rfl ?_
  refine zz_dcmp hb (z_dec dL_law14 58 rfl) ?_
  refine zz_if_eq (tgt := 1774) hb (z_dec dL_law14 59 rfl) (by decide) (fun c => ?_) (fun c => absurd (by rw [dcmp_eq hn]; rfl) c)
  refine zz_goto (tgt := 2798) hb (z_dec dL_law15 10 rfl) (by decide) ?_
  refine zz_sub [0, 1, 2, 3, 4] (L' := [(0, .ref 2000), (1, .ref 0), (2, .ref 312), (3, .ref 319), (4, .int i)]) rfl ?_
  exact kN
/-- inconsistencies -/
theorem lc_43 (hK : zKl K b L xs Z) (hx : isT (kw K) 10 0) (hm : isT (kw K) 11 312) (ho : isT (kw K) 23 319) {u : Nat × Nat} {I : zM} {i : Int32}  {mc : Nat × Nat} {P1 : Option Value → zM → Prop} (m1 : CT (kG K) (kw K) (kl K) (yX10_inconsistencies, cX10_inconsistencies, 1, some .int) 0 mc [.ref 0] I P1 nX) (m2 : ∀ v J, P1 v J → ∃ f J2, v = some (.int f) ∧ CT (kG K) (kw K) (kl K) (yX11_inconsistencies, cX11_inconsistencies, 1, some .int) 0 (0, 0) [.ref 312] J (qE f J2) nX ∧ ZZ K (u.1 + mc.1, u.2 + mc.2) 2798 [(0, .ref 2000), (1, .ref 0), (2, .ref 312), (3, .ref 319), (4, .int i)] [] J2) (hu : u.1 + mc.1 ≤ 601024 ∧ u.2 + mc.2 ≤ 7293034) : ZZ K u 1777 [(0, .ref 2000), (1, .ref 0), (2, .ref 312), (3, .ref 319), (4, .int i)] [] I := by
  have hb := hK.1
  have hnl := hK.2.2.1
  refine zz_aload_n hb (z_dec dL_law15 11 rfl) rfl 1 rfl ?_
  refine zl_inv (as := []) (d := 0) hK mkX10_inconsistencies rfl ckX10 hx rfl hu rfl (rL_law 248 rfl) (rL_law 249 rfl) (rL_law 250 rfl) rfl (z_dec dL_law15 12 rfl) m1 (fun v J hv => ?_)
  obtain ⟨f, J2, rfl, m2, kN⟩ := m2 v J hv
  show ZZ K (u.1 + mc.1, u.2 + mc.2) 1781 [(0, .ref 2000), (1, .ref 0), (2, .ref 312), (3, .ref 319), (4, .int i)] [.int f] J
  refine zz_aload_n hb (z_dec dL_law15 13 rfl) rfl 2 rfl ?_
  refine zl_inv (as := []) (d := 0) (mc := (0, 0)) hK mkX11_inconsistencies rfl ckX11 hm rfl hu rfl (rL_law 251 rfl) (rL_law 252 rfl) (rL_law 253 rfl) rfl (z_dec dL_law15 14 rfl) m2 (fun v9 J9 hv => ?_)
  obtain ⟨f9, rfl, e9, w9⟩ := hv
  have e9 := e9.symm
  subst e9
  have w9 := w9.symm
  subst w9
  show ZZ K (u.1 + mc.1, u.2 + mc.2) 1785 [(0, .ref 2000), (1, .ref 0), (2, .ref 312), (3, .ref 319), (4, .int i)] [.int f, .int f] J2
  refine zz_icmp_eq (tgt := 2798) hb (z_dec dL_law15 15 rfl) (by decide) (fun c => ?_) (fun c => absurd rfl c)
  exact kN
/-- minutesToFinish -/
theorem lc_44 (hK : zKl K b L xs Z) (hx : isT (kw K) 10 0) (hm : isT (kw K) 11 312) (ho : isT (kw K) 23 319) {u : Nat × Nat} {I : zM} {i : Int32}  {mc : Nat × Nat} {P1 : Option Value → zM → Prop} (m1 : CT (kG K) (kw K) (kl K) (yX10_minutesToFinish, cX10_minutesToFinish, 3, some .int) 5 mc [.ref 0] I P1 nX) (m2 : ∀ v J, P1 v J → ∃ f J2, v = some (.int f) ∧ CT (kG K) (kw K) (kl K) (yX11_minutesToFinish, cX11_minutesToFinish, 3, some .int) 8 (0, 0) [.ref 312] J (qE f J2) nX ∧ ZZ K (u.1 + mc.1, u.2 + mc.2) 2798 [(0, .ref 2000), (1, .ref 0), (2, .ref 312), (3, .ref 319), (4, .int i)] [] J2) (hu : u.1 + mc.1 ≤ 601024 ∧ u.2 + mc.2 ≤ 7293034) : ZZ K u 1790 [(0, .ref 2000), (1, .ref 0), (2, .ref 312), (3, .ref 319), (4, .int i)] [] I := by
  have hb := hK.1
  have hnl := hK.2.2.1
  refine zz_aload_n hb (z_dec dL_law15 18 rfl) rfl 1 rfl ?_
  refine zl_inv (as := []) (d := 5) hK mkX10_minutesToFinish rfl ckX10 hx rfl hu rfl (rL_law 254 rfl) (rL_law 255 rfl) (rL_law 256 rfl) rfl (z_dec dL_law15 19 rfl) m1 (fun v J hv => ?_)
  obtain ⟨f, J2, rfl, m2, kN⟩ := m2 v J hv
  show ZZ K (u.1 + mc.1, u.2 + mc.2) 1794 [(0, .ref 2000), (1, .ref 0), (2, .ref 312), (3, .ref 319), (4, .int i)] [.int f] J
  refine zz_aload_n hb (z_dec dL_law15 20 rfl) rfl 2 rfl ?_
  refine zl_inv (as := []) (d := 8) (mc := (0, 0)) hK mkX11_minutesToFinish rfl ckX11 hm rfl hu rfl (rL_law 257 rfl) (rL_law 258 rfl) (rL_law 259 rfl) rfl (z_dec dL_law15 21 rfl) m2 (fun v9 J9 hv => ?_)
  obtain ⟨f9, rfl, e9, w9⟩ := hv
  have e9 := e9.symm
  subst e9
  have w9 := w9.symm
  subst w9
  show ZZ K (u.1 + mc.1, u.2 + mc.2) 1798 [(0, .ref 2000), (1, .ref 0), (2, .ref 312), (3, .ref 319), (4, .int i)] [.int f, .int f] J2
  refine zz_icmp_eq (tgt := 2798) hb (z_dec dL_law15 22 rfl) (by decide) (fun c => ?_) (fun c => absurd rfl c)
  exact kN
/-- minutesToFinishLetter -/
theorem lc_45 (hK : zKl K b L xs Z) (hx : isT (kw K) 10 0) (hm : isT (kw K) 11 312) (ho : isT (kw K) 23 319) {u : Nat × Nat} {I : zM} {i : Int32} {x1 : Int32} (h1 : vp_in (i + 1) L) (e1 : xs (i + 1).toNatClampNeg = x1) {mc : Nat × Nat} {P1 : Option Value → zM → Prop} (m1 : CTW (kG K) (kw K) (kl K) (yL_minutesToFinishLetter, cL_minutesToFinishLetter, 4, some .int) [(0, 9, 12, 29)] 8 mc [.ref 0, .int x1, .ref 319] I P1) (m2 : ∀ v J, P1 v J → ∃ e f J2, v = some (.int e) ∧ CT (kG K) (kw K) (kl K) (yX11_minutesToFinishLetter, cX11_minutesToFinishLetter, 4, some .int) 8 (0, 0) [.ref 312, .int x1] J (qE f J2) nX ∧ J2 312 9 = e ∧ (e = 0 → J2 319 0 = f) ∧ True ∧ ZZ K (u.1 + mc.1, u.2 + mc.2) 2798 [(0, .ref 2000), (1, .ref 0), (2, .ref 312), (3, .ref 319), (4, .int i)] [] J2) (hu : u.1 + mc.1 ≤ 601024 ∧ u.2 + mc.2 ≤ 7293034) : ZZ K u 1803 [(0, .ref 2000), (1, .ref 0), (2, .ref 312), (3, .ref 319), (4, .int i)] [] I := by
  have hb := hK.1
  have hnl := hK.2.2.1
  refine zz_aload_n hb (z_dec dL_law15 25 rfl) rfl 1 rfl ?_
  refine zz_aload_n hb (z_dec dL_law15 26 rfl) rfl 0 rfl ?_
  refine zz_iload hb (z_dec dL_law15 27 rfl) 4 rfl ?_
  refine zz_iconst (v := 1) hb (z_dec dL_law15 28 rfl) (by decide) ?_
  refine zz_iadd hb (z_dec dL_law15 29 rfl) ?_
  refine zl_sld hK h1 e1 (z_dec dL_law15 30 rfl) ?_
  refine zz_aload_n hb (z_dec dL_law15 31 rfl) rfl 3 rfl ?_
  refine zl_invW (as := [.ref 0, .int x1, .ref 319]) (d := 8) hK mkL_minutesToFinishLetter rfl rfl hu rfl rfl (rL_law 260 rfl) rfl (z_dec dL_law15 32 rfl) m1 (fun v J hv => ?_)
  obtain ⟨e, f, J2, rfl, m2, ht, hf, h01, kN⟩ := m2 v J hv
  show ZZ K (u.1 + mc.1, u.2 + mc.2) 1814 [(0, .ref 2000), (1, .ref 0), (2, .ref 312), (3, .ref 319), (4, .int i)] [.int e] J
  refine zz_istore (L' := [(0, .ref 2000), (1, .ref 0), (2, .ref 312), (3, .ref 319), (4, .int i), (5, .int e)]) hb (z_dec dL_law15 33 rfl) hnl rfl [1, 2, 3, 4, 5, 0] rfl ?_
  refine zz_aload_n hb (z_dec dL_law15 34 rfl) rfl 2 rfl ?_
  refine zz_aload_n hb (z_dec dL_law15 35 rfl) rfl 0 rfl ?_
  refine zz_iload hb (z_dec dL_law15 36 rfl) 4 rfl ?_
  refine zz_iconst (v := 1) hb (z_dec dL_law15 37 rfl) (by decide) ?_
  refine zz_iadd hb (z_dec dL_law15 38 rfl) ?_
  refine zl_sld hK h1 e1 (z_dec dL_law15 39 rfl) ?_
  refine zl_inv (as := [.int x1]) (d := 8) (mc := (0, 0)) hK mkX11_minutesToFinishLetter rfl ckX11 hm rfl hu rfl (rL_law 262 rfl) (rL_law 263 rfl) (rL_law 264 rfl) rfl (z_dec dL_law15 40 rfl) m2 (fun v9 J9 hv => ?_)
  obtain ⟨f9, rfl, e9, w9⟩ := hv
  have e9 := e9.symm
  subst e9
  have w9 := w9.symm
  subst w9
  show ZZ K (u.1 + mc.1, u.2 + mc.2) 1826 [(0, .ref 2000), (1, .ref 0), (2, .ref 312), (3, .ref 319), (4, .int i), (5, .int e)] [.int f] J2
  refine zz_istore (L' := [(0, .ref 2000), (1, .ref 0), (2, .ref 312), (3, .ref 319), (4, .int i), (5, .int e), (6, .int f)]) hb (z_dec dL_law15 41 rfl) hnl rfl [1, 2, 3, 4, 5, 6, 0] rfl ?_
  refine zz_aload_n hb (z_dec dL_law15 42 rfl) rfl 2 rfl ?_
  refine zl_inv (as := []) (d := 0) (mc := (0, 0)) hK mkX11_thrown rfl ckX11 hm rfl hu rfl (rL_law 11 rfl) (rL_law 12 rfl) (rL_law 13 rfl) rfl (z_dec dL_law15 43 rfl) (r_thrown hm) (fun v J9 hv => ?_)
  obtain ⟨f9, rfl, e9, w9⟩ := hv
  have e9 := e9.symm
  subst e9
  have w9 := w9.symm
  subst w9
  show ZZ K (u.1 + mc.1, u.2 + mc.2) 1832 [(0, .ref 2000), (1, .ref 0), (2, .ref 312), (3, .ref 319), (4, .int i), (5, .int e), (6, .int f)] [.int (J2 312 9)] J2
  refine zz_iload hb (z_dec dL_law15 44 rfl) 5 rfl ?_
  refine zz_icmp_eq (tgt := 1839) hb (z_dec dL_law15 45 rfl) (by decide) (fun c => ?_) (fun c => absurd ht c)
  refine zz_iload hb (z_dec dL_law15 48 rfl) 5 rfl ?_
  refine zz_if_ne (tgt := 1856) hb (z_dec dL_law15 49 rfl) (by decide) (fun ce => ?_) (fun ce => ?_)
  · refine zz_goto (tgt := 2798) hb (z_dec dL_law15 59 rfl) (by decide) ?_
    refine zz_sub [0, 1, 2, 3, 4] (L' := [(0, .ref 2000), (1, .ref 0), (2, .ref 312), (3, .ref 319), (4, .int i)]) rfl ?_
    exact kN
  · refine zz_aload_n hb (z_dec dL_law15 50 rfl) rfl 3 rfl ?_
    refine zz_iconst (v := 0) hb (z_dec dL_law15 51 rfl) (by decide) ?_
    refine zz_lald (j := 0) hb ho rfl (show vp_in 0 1 from zin rfl) (z_dec dL_law15 52 rfl) ?_
    refine zz_iload hb (z_dec dL_law15 53 rfl) 6 rfl ?_
    refine zz_i2l hb (z_dec dL_law15 54 rfl) ?_
    refine zz_lcmp hb (z_dec dL_law15 55 rfl) ?_
    refine zz_if_eq (tgt := 1856) hb (z_dec dL_law15 56 rfl) (by decide) (fun c => ?_) (fun c => absurd (by rw [hf ce]; exact lg_cmp_self _) c)
    refine zz_goto (tgt := 2798) hb (z_dec dL_law15 59 rfl) (by decide) ?_
    refine zz_sub [0, 1, 2, 3, 4] (L' := [(0, .ref 2000), (1, .ref 0), (2, .ref 312), (3, .ref 319), (4, .int i)]) rfl ?_
    exact kN
/-- letterWrittenIn -/
theorem lc_46 (hK : zKl K b L xs Z) (hx : isT (kw K) 10 0) (hm : isT (kw K) 11 312) (ho : isT (kw K) 23 319) {u : Nat × Nat} {I : zM} {i : Int32} {x1 : Int32} (h1 : vp_in (i + 1) L) (e1 : xs (i + 1).toNatClampNeg = x1) {mc : Nat × Nat} {P1 : Option Value → zM → Prop} (m1 : CTW (kG K) (kw K) (kl K) (yL_letterWrittenIn, cL_letterWrittenIn, 4, some .int) [(0, 9, 12, 19)] 7 mc [.ref 0, .int x1, .ref 319] I P1) (m2 : ∀ v J, P1 v J → ∃ e f J2, v = some (.int e) ∧ CT (kG K) (kw K) (kl K) (yX11_letterWrittenIn, cX11_letterWrittenIn, 4, some .int) 9 (0, 0) [.ref 312, .int x1] J (qE f J2) nX ∧ J2 312 9 = e ∧ (e = 0 → J2 319 0 = f) ∧ True ∧ ZZ K (u.1 + mc.1, u.2 + mc.2) 2798 [(0, .ref 2000), (1, .ref 0), (2, .ref 312), (3, .ref 319), (4, .int i)] [] J2) (hu : u.1 + mc.1 ≤ 601024 ∧ u.2 + mc.2 ≤ 7293034) : ZZ K u 1859 [(0, .ref 2000), (1, .ref 0), (2, .ref 312), (3, .ref 319), (4, .int i)] [] I := by
  have hb := hK.1
  have hnl := hK.2.2.1
  refine zz_aload_n hb (z_dec dL_law16 0 rfl) rfl 1 rfl ?_
  refine zz_aload_n hb (z_dec dL_law16 1 rfl) rfl 0 rfl ?_
  refine zz_iload hb (z_dec dL_law16 2 rfl) 4 rfl ?_
  refine zz_iconst (v := 1) hb (z_dec dL_law16 3 rfl) (by decide) ?_
  refine zz_iadd hb (z_dec dL_law16 4 rfl) ?_
  refine zl_sld hK h1 e1 (z_dec dL_law16 5 rfl) ?_
  refine zz_aload_n hb (z_dec dL_law16 6 rfl) rfl 3 rfl ?_
  refine zl_invW (as := [.ref 0, .int x1, .ref 319]) (d := 7) hK mkL_letterWrittenIn rfl rfl hu rfl rfl (rL_law 265 rfl) rfl (z_dec dL_law16 7 rfl) m1 (fun v J hv => ?_)
  obtain ⟨e, f, J2, rfl, m2, ht, hf, h01, kN⟩ := m2 v J hv
  show ZZ K (u.1 + mc.1, u.2 + mc.2) 1870 [(0, .ref 2000), (1, .ref 0), (2, .ref 312), (3, .ref 319), (4, .int i)] [.int e] J
  refine zz_istore (L' := [(0, .ref 2000), (1, .ref 0), (2, .ref 312), (3, .ref 319), (4, .int i), (5, .int e)]) hb (z_dec dL_law16 8 rfl) hnl rfl [1, 2, 3, 4, 5, 0] rfl ?_
  refine zz_aload_n hb (z_dec dL_law16 9 rfl) rfl 2 rfl ?_
  refine zz_aload_n hb (z_dec dL_law16 10 rfl) rfl 0 rfl ?_
  refine zz_iload hb (z_dec dL_law16 11 rfl) 4 rfl ?_
  refine zz_iconst (v := 1) hb (z_dec dL_law16 12 rfl) (by decide) ?_
  refine zz_iadd hb (z_dec dL_law16 13 rfl) ?_
  refine zl_sld hK h1 e1 (z_dec dL_law16 14 rfl) ?_
  refine zl_inv (as := [.int x1]) (d := 9) (mc := (0, 0)) hK mkX11_letterWrittenIn rfl ckX11 hm rfl hu rfl (rL_law 267 rfl) (rL_law 268 rfl) (rL_law 269 rfl) rfl (z_dec dL_law16 15 rfl) m2 (fun v9 J9 hv => ?_)
  obtain ⟨f9, rfl, e9, w9⟩ := hv
  have e9 := e9.symm
  subst e9
  have w9 := w9.symm
  subst w9
  show ZZ K (u.1 + mc.1, u.2 + mc.2) 1882 [(0, .ref 2000), (1, .ref 0), (2, .ref 312), (3, .ref 319), (4, .int i), (5, .int e)] [.int f] J2
  refine zz_istore (L' := [(0, .ref 2000), (1, .ref 0), (2, .ref 312), (3, .ref 319), (4, .int i), (5, .int e), (6, .int f)]) hb (z_dec dL_law16 16 rfl) hnl rfl [1, 2, 3, 4, 5, 6, 0] rfl ?_
  refine zz_aload_n hb (z_dec dL_law16 17 rfl) rfl 2 rfl ?_
  refine zl_inv (as := []) (d := 0) (mc := (0, 0)) hK mkX11_thrown rfl ckX11 hm rfl hu rfl (rL_law 11 rfl) (rL_law 12 rfl) (rL_law 13 rfl) rfl (z_dec dL_law16 18 rfl) (r_thrown hm) (fun v J9 hv => ?_)
  obtain ⟨f9, rfl, e9, w9⟩ := hv
  have e9 := e9.symm
  subst e9
  have w9 := w9.symm
  subst w9
  show ZZ K (u.1 + mc.1, u.2 + mc.2) 1888 [(0, .ref 2000), (1, .ref 0), (2, .ref 312), (3, .ref 319), (4, .int i), (5, .int e), (6, .int f)] [.int (J2 312 9)] J2
  refine zz_iload hb (z_dec dL_law16 19 rfl) 5 rfl ?_
  refine zz_icmp_eq (tgt := 1895) hb (z_dec dL_law16 20 rfl) (by decide) (fun c => ?_) (fun c => absurd ht c)
  refine zz_iload hb (z_dec dL_law16 23 rfl) 5 rfl ?_
  refine zz_if_ne (tgt := 1912) hb (z_dec dL_law16 24 rfl) (by decide) (fun ce => ?_) (fun ce => ?_)
  · refine zz_goto (tgt := 2798) hb (z_dec dL_law16 34 rfl) (by decide) ?_
    refine zz_sub [0, 1, 2, 3, 4] (L' := [(0, .ref 2000), (1, .ref 0), (2, .ref 312), (3, .ref 319), (4, .int i)]) rfl ?_
    exact kN
  · refine zz_aload_n hb (z_dec dL_law16 25 rfl) rfl 3 rfl ?_
    refine zz_iconst (v := 0) hb (z_dec dL_law16 26 rfl) (by decide) ?_
    refine zz_lald (j := 0) hb ho rfl (show vp_in 0 1 from zin rfl) (z_dec dL_law16 27 rfl) ?_
    refine zz_iload hb (z_dec dL_law16 28 rfl) 6 rfl ?_
    refine zz_i2l hb (z_dec dL_law16 29 rfl) ?_
    refine zz_lcmp hb (z_dec dL_law16 30 rfl) ?_
    refine zz_if_eq (tgt := 1912) hb (z_dec dL_law16 31 rfl) (by decide) (fun c => ?_) (fun c => absurd (by rw [hf ce]; exact lg_cmp_self _) c)
    refine zz_goto (tgt := 2798) hb (z_dec dL_law16 34 rfl) (by decide) ?_
    refine zz_sub [0, 1, 2, 3, 4] (L' := [(0, .ref 2000), (1, .ref 0), (2, .ref 312), (3, .ref 319), (4, .int i)]) rfl ?_
    exact kN
/-- lateWith -/
theorem lc_47 (hK : zKl K b L xs Z) (hx : isT (kw K) 10 0) (hm : isT (kw K) 11 312) (ho : isT (kw K) 23 319) {u : Nat × Nat} {I : zM} {i : Int32} {x1 : Int32} (h1 : vp_in (i + 1) L) (e1 : xs (i + 1).toNatClampNeg = x1) {mc : Nat × Nat} {P1 : Option Value → zM → Prop} (m1 : CTW (kG K) (kw K) (kl K) (yL_lateWith, cL_lateWith, 4, some .int) [(0, 9, 12, 19)] 8 mc [.ref 0, .int x1, .ref 319] I P1) (m2 : ∀ v J, P1 v J → ∃ e f J2, v = some (.int e) ∧ CT (kG K) (kw K) (kl K) (yX11_lateWith, cX11_lateWith, 2, some .int) 11 (0, 0) [.ref 312, .int x1] J (qE f J2) nX ∧ J2 312 9 = e ∧ (e = 0 → J2 319 0 = f) ∧ True ∧ ZZ K (u.1 + mc.1, u.2 + mc.2) 2798 [(0, .ref 2000), (1, .ref 0), (2, .ref 312), (3, .ref 319), (4, .int i)] [] J2) (hu : u.1 + mc.1 ≤ 601024 ∧ u.2 + mc.2 ≤ 7293034) : ZZ K u 1915 [(0, .ref 2000), (1, .ref 0), (2, .ref 312), (3, .ref 319), (4, .int i)] [] I := by
  have hb := hK.1
  have hnl := hK.2.2.1
  refine zz_aload_n hb (z_dec dL_law16 35 rfl) rfl 1 rfl ?_
  refine zz_aload_n hb (z_dec dL_law16 36 rfl) rfl 0 rfl ?_
  refine zz_iload hb (z_dec dL_law16 37 rfl) 4 rfl ?_
  refine zz_iconst (v := 1) hb (z_dec dL_law16 38 rfl) (by decide) ?_
  refine zz_iadd hb (z_dec dL_law16 39 rfl) ?_
  refine zl_sld hK h1 e1 (z_dec dL_law16 40 rfl) ?_
  refine zz_aload_n hb (z_dec dL_law16 41 rfl) rfl 3 rfl ?_
  refine zl_invW (as := [.ref 0, .int x1, .ref 319]) (d := 8) hK mkL_lateWith rfl rfl hu rfl rfl (rL_law 270 rfl) rfl (z_dec dL_law16 42 rfl) m1 (fun v J hv => ?_)
  obtain ⟨e, f, J2, rfl, m2, ht, hf, h01, kN⟩ := m2 v J hv
  show ZZ K (u.1 + mc.1, u.2 + mc.2) 1926 [(0, .ref 2000), (1, .ref 0), (2, .ref 312), (3, .ref 319), (4, .int i)] [.int e] J
  refine zz_istore (L' := [(0, .ref 2000), (1, .ref 0), (2, .ref 312), (3, .ref 319), (4, .int i), (5, .int e)]) hb (z_dec dL_law16 43 rfl) hnl rfl [1, 2, 3, 4, 5, 0] rfl ?_
  refine zz_aload_n hb (z_dec dL_law16 44 rfl) rfl 2 rfl ?_
  refine zz_aload_n hb (z_dec dL_law16 45 rfl) rfl 0 rfl ?_
  refine zz_iload hb (z_dec dL_law16 46 rfl) 4 rfl ?_
  refine zz_iconst (v := 1) hb (z_dec dL_law16 47 rfl) (by decide) ?_
  refine zz_iadd hb (z_dec dL_law16 48 rfl) ?_
  refine zl_sld hK h1 e1 (z_dec dL_law16 49 rfl) ?_
  refine zl_inv (as := [.int x1]) (d := 11) (mc := (0, 0)) hK mkX11_lateWith rfl ckX11 hm rfl hu rfl (rL_law 272 rfl) (rL_law 273 rfl) (rL_law 274 rfl) rfl (z_dec dL_law16 50 rfl) m2 (fun v9 J9 hv => ?_)
  obtain ⟨f9, rfl, e9, w9⟩ := hv
  have e9 := e9.symm
  subst e9
  have w9 := w9.symm
  subst w9
  show ZZ K (u.1 + mc.1, u.2 + mc.2) 1938 [(0, .ref 2000), (1, .ref 0), (2, .ref 312), (3, .ref 319), (4, .int i), (5, .int e)] [.int f] J2
  refine zz_istore (L' := [(0, .ref 2000), (1, .ref 0), (2, .ref 312), (3, .ref 319), (4, .int i), (5, .int e), (6, .int f)]) hb (z_dec dL_law16 51 rfl) hnl rfl [1, 2, 3, 4, 5, 6, 0] rfl ?_
  refine zz_aload_n hb (z_dec dL_law16 52 rfl) rfl 2 rfl ?_
  refine zl_inv (as := []) (d := 0) (mc := (0, 0)) hK mkX11_thrown rfl ckX11 hm rfl hu rfl (rL_law 11 rfl) (rL_law 12 rfl) (rL_law 13 rfl) rfl (z_dec dL_law16 53 rfl) (r_thrown hm) (fun v J9 hv => ?_)
  obtain ⟨f9, rfl, e9, w9⟩ := hv
  have e9 := e9.symm
  subst e9
  have w9 := w9.symm
  subst w9
  show ZZ K (u.1 + mc.1, u.2 + mc.2) 1944 [(0, .ref 2000), (1, .ref 0), (2, .ref 312), (3, .ref 319), (4, .int i), (5, .int e), (6, .int f)] [.int (J2 312 9)] J2
  refine zz_iload hb (z_dec dL_law16 54 rfl) 5 rfl ?_
  refine zz_icmp_eq (tgt := 1951) hb (z_dec dL_law16 55 rfl) (by decide) (fun c => ?_) (fun c => absurd ht c)
  refine zz_iload hb (z_dec dL_law16 58 rfl) 5 rfl ?_
  refine zz_if_ne (tgt := 1968) hb (z_dec dL_law16 59 rfl) (by decide) (fun ce => ?_) (fun ce => ?_)
  · refine zz_goto (tgt := 2798) hb (z_dec dL_law17 9 rfl) (by decide) ?_
    refine zz_sub [0, 1, 2, 3, 4] (L' := [(0, .ref 2000), (1, .ref 0), (2, .ref 312), (3, .ref 319), (4, .int i)]) rfl ?_
    exact kN
  · refine zz_aload_n hb (z_dec dL_law17 0 rfl) rfl 3 rfl ?_
    refine zz_iconst (v := 0) hb (z_dec dL_law17 1 rfl) (by decide) ?_
    refine zz_lald (j := 0) hb ho rfl (show vp_in 0 1 from zin rfl) (z_dec dL_law17 2 rfl) ?_
    refine zz_iload hb (z_dec dL_law17 3 rfl) 6 rfl ?_
    refine zz_i2l hb (z_dec dL_law17 4 rfl) ?_
    refine zz_lcmp hb (z_dec dL_law17 5 rfl) ?_
    refine zz_if_eq (tgt := 1968) hb (z_dec dL_law17 6 rfl) (by decide) (fun c => ?_) (fun c => absurd (by rw [hf ce]; exact lg_cmp_self _) c)
    refine zz_goto (tgt := 2798) hb (z_dec dL_law17 9 rfl) (by decide) ?_
    refine zz_sub [0, 1, 2, 3, 4] (L' := [(0, .ref 2000), (1, .ref 0), (2, .ref 312), (3, .ref 319), (4, .int i)]) rfl ?_
    exact kN
/-- waitingWith -/
theorem lc_48 (hK : zKl K b L xs Z) (hx : isT (kw K) 10 0) (hm : isT (kw K) 11 312) (ho : isT (kw K) 23 319) {u : Nat × Nat} {I : zM} {i : Int32} {x1 : Int32} (h1 : vp_in (i + 1) L) (e1 : xs (i + 1).toNatClampNeg = x1) {mc : Nat × Nat} {P1 : Option Value → zM → Prop} (m1 : CTW (kG K) (kw K) (kl K) (yL_waitingWith, cL_waitingWith, 4, some .int) [(0, 9, 12, 19)] 8 mc [.ref 0, .int x1, .ref 319] I P1) (m2 : ∀ v J, P1 v J → ∃ e f J2, v = some (.int e) ∧ CT (kG K) (kw K) (kl K) (yX11_waitingWith, cX11_waitingWith, 2, some .int) 11 (0, 0) [.ref 312, .int x1] J (qE f J2) nX ∧ J2 312 9 = e ∧ (e = 0 → J2 319 0 = f) ∧ True ∧ ZZ K (u.1 + mc.1, u.2 + mc.2) 2798 [(0, .ref 2000), (1, .ref 0), (2, .ref 312), (3, .ref 319), (4, .int i)] [] J2) (hu : u.1 + mc.1 ≤ 601024 ∧ u.2 + mc.2 ≤ 7293034) : ZZ K u 1971 [(0, .ref 2000), (1, .ref 0), (2, .ref 312), (3, .ref 319), (4, .int i)] [] I := by
  have hb := hK.1
  have hnl := hK.2.2.1
  refine zz_aload_n hb (z_dec dL_law17 10 rfl) rfl 1 rfl ?_
  refine zz_aload_n hb (z_dec dL_law17 11 rfl) rfl 0 rfl ?_
  refine zz_iload hb (z_dec dL_law17 12 rfl) 4 rfl ?_
  refine zz_iconst (v := 1) hb (z_dec dL_law17 13 rfl) (by decide) ?_
  refine zz_iadd hb (z_dec dL_law17 14 rfl) ?_
  refine zl_sld hK h1 e1 (z_dec dL_law17 15 rfl) ?_
  refine zz_aload_n hb (z_dec dL_law17 16 rfl) rfl 3 rfl ?_
  refine zl_invW (as := [.ref 0, .int x1, .ref 319]) (d := 8) hK mkL_waitingWith rfl rfl hu rfl rfl (rL_law 275 rfl) rfl (z_dec dL_law17 17 rfl) m1 (fun v J hv => ?_)
  obtain ⟨e, f, J2, rfl, m2, ht, hf, h01, kN⟩ := m2 v J hv
  show ZZ K (u.1 + mc.1, u.2 + mc.2) 1982 [(0, .ref 2000), (1, .ref 0), (2, .ref 312), (3, .ref 319), (4, .int i)] [.int e] J
  refine zz_istore (L' := [(0, .ref 2000), (1, .ref 0), (2, .ref 312), (3, .ref 319), (4, .int i), (5, .int e)]) hb (z_dec dL_law17 18 rfl) hnl rfl [1, 2, 3, 4, 5, 0] rfl ?_
  refine zz_aload_n hb (z_dec dL_law17 19 rfl) rfl 2 rfl ?_
  refine zz_aload_n hb (z_dec dL_law17 20 rfl) rfl 0 rfl ?_
  refine zz_iload hb (z_dec dL_law17 21 rfl) 4 rfl ?_
  refine zz_iconst (v := 1) hb (z_dec dL_law17 22 rfl) (by decide) ?_
  refine zz_iadd hb (z_dec dL_law17 23 rfl) ?_
  refine zl_sld hK h1 e1 (z_dec dL_law17 24 rfl) ?_
  refine zl_inv (as := [.int x1]) (d := 11) (mc := (0, 0)) hK mkX11_waitingWith rfl ckX11 hm rfl hu rfl (rL_law 277 rfl) (rL_law 278 rfl) (rL_law 279 rfl) rfl (z_dec dL_law17 25 rfl) m2 (fun v9 J9 hv => ?_)
  obtain ⟨f9, rfl, e9, w9⟩ := hv
  have e9 := e9.symm
  subst e9
  have w9 := w9.symm
  subst w9
  show ZZ K (u.1 + mc.1, u.2 + mc.2) 1994 [(0, .ref 2000), (1, .ref 0), (2, .ref 312), (3, .ref 319), (4, .int i), (5, .int e)] [.int f] J2
  refine zz_istore (L' := [(0, .ref 2000), (1, .ref 0), (2, .ref 312), (3, .ref 319), (4, .int i), (5, .int e), (6, .int f)]) hb (z_dec dL_law17 26 rfl) hnl rfl [1, 2, 3, 4, 5, 6, 0] rfl ?_
  refine zz_aload_n hb (z_dec dL_law17 27 rfl) rfl 2 rfl ?_
  refine zl_inv (as := []) (d := 0) (mc := (0, 0)) hK mkX11_thrown rfl ckX11 hm rfl hu rfl (rL_law 11 rfl) (rL_law 12 rfl) (rL_law 13 rfl) rfl (z_dec dL_law17 28 rfl) (r_thrown hm) (fun v J9 hv => ?_)
  obtain ⟨f9, rfl, e9, w9⟩ := hv
  have e9 := e9.symm
  subst e9
  have w9 := w9.symm
  subst w9
  show ZZ K (u.1 + mc.1, u.2 + mc.2) 2000 [(0, .ref 2000), (1, .ref 0), (2, .ref 312), (3, .ref 319), (4, .int i), (5, .int e), (6, .int f)] [.int (J2 312 9)] J2
  refine zz_iload hb (z_dec dL_law17 29 rfl) 5 rfl ?_
  refine zz_icmp_eq (tgt := 2007) hb (z_dec dL_law17 30 rfl) (by decide) (fun c => ?_) (fun c => absurd ht c)
  refine zz_iload hb (z_dec dL_law17 33 rfl) 5 rfl ?_
  refine zz_if_ne (tgt := 2024) hb (z_dec dL_law17 34 rfl) (by decide) (fun ce => ?_) (fun ce => ?_)
  · refine zz_goto (tgt := 2798) hb (z_dec dL_law17 44 rfl) (by decide) ?_
    refine zz_sub [0, 1, 2, 3, 4] (L' := [(0, .ref 2000), (1, .ref 0), (2, .ref 312), (3, .ref 319), (4, .int i)]) rfl ?_
    exact kN
  · refine zz_aload_n hb (z_dec dL_law17 35 rfl) rfl 3 rfl ?_
    refine zz_iconst (v := 0) hb (z_dec dL_law17 36 rfl) (by decide) ?_
    refine zz_lald (j := 0) hb ho rfl (show vp_in 0 1 from zin rfl) (z_dec dL_law17 37 rfl) ?_
    refine zz_iload hb (z_dec dL_law17 38 rfl) 6 rfl ?_
    refine zz_i2l hb (z_dec dL_law17 39 rfl) ?_
    refine zz_lcmp hb (z_dec dL_law17 40 rfl) ?_
    refine zz_if_eq (tgt := 2024) hb (z_dec dL_law17 41 rfl) (by decide) (fun c => ?_) (fun c => absurd (by rw [hf ce]; exact lg_cmp_self _) c)
    refine zz_goto (tgt := 2798) hb (z_dec dL_law17 44 rfl) (by decide) ?_
    refine zz_sub [0, 1, 2, 3, 4] (L' := [(0, .ref 2000), (1, .ref 0), (2, .ref 312), (3, .ref 319), (4, .int i)]) rfl ?_
    exact kN
/-- bestPolicy -/
theorem lc_49 (hK : zKl K b L xs Z) (hx : isT (kw K) 10 0) (hm : isT (kw K) 11 312) (ho : isT (kw K) 23 319) {u : Nat × Nat} {I : zM} {i : Int32}  {mc : Nat × Nat} {P1 : Option Value → zM → Prop} (m1 : CT (kG K) (kw K) (kl K) (yX10_bestPolicy, cX10_bestPolicy, 7, some .int) 6 mc [.ref 0] I P1 nX) (m2 : ∀ v J, P1 v J → ∃ f J2, v = some (.int f) ∧ CT (kG K) (kw K) (kl K) (yX11_bestPolicy, cX11_bestPolicy, 4, some .int) 11 (0, 0) [.ref 312] J (qE f J2) nX ∧ ZZ K (u.1 + mc.1, u.2 + mc.2) 2798 [(0, .ref 2000), (1, .ref 0), (2, .ref 312), (3, .ref 319), (4, .int i)] [] J2) (hu : u.1 + mc.1 ≤ 601024 ∧ u.2 + mc.2 ≤ 7293034) : ZZ K u 2027 [(0, .ref 2000), (1, .ref 0), (2, .ref 312), (3, .ref 319), (4, .int i)] [] I := by
  have hb := hK.1
  have hnl := hK.2.2.1
  refine zz_aload_n hb (z_dec dL_law17 45 rfl) rfl 1 rfl ?_
  refine zl_inv (as := []) (d := 6) hK mkX10_bestPolicy rfl ckX10 hx rfl hu rfl (rL_law 280 rfl) (rL_law 281 rfl) (rL_law 282 rfl) rfl (z_dec dL_law17 46 rfl) m1 (fun v J hv => ?_)
  obtain ⟨f, J2, rfl, m2, kN⟩ := m2 v J hv
  show ZZ K (u.1 + mc.1, u.2 + mc.2) 2031 [(0, .ref 2000), (1, .ref 0), (2, .ref 312), (3, .ref 319), (4, .int i)] [.int f] J
  refine zz_aload_n hb (z_dec dL_law17 47 rfl) rfl 2 rfl ?_
  refine zl_inv (as := []) (d := 11) (mc := (0, 0)) hK mkX11_bestPolicy rfl ckX11 hm rfl hu rfl (rL_law 283 rfl) (rL_law 284 rfl) (rL_law 285 rfl) rfl (z_dec dL_law17 48 rfl) m2 (fun v9 J9 hv => ?_)
  obtain ⟨f9, rfl, e9, w9⟩ := hv
  have e9 := e9.symm
  subst e9
  have w9 := w9.symm
  subst w9
  show ZZ K (u.1 + mc.1, u.2 + mc.2) 2035 [(0, .ref 2000), (1, .ref 0), (2, .ref 312), (3, .ref 319), (4, .int i)] [.int f, .int f] J2
  refine zz_icmp_eq (tgt := 2798) hb (z_dec dL_law17 49 rfl) (by decide) (fun c => ?_) (fun c => absurd rfl c)
  exact kN
/-- fewestLate -/
theorem lc_50 (hK : zKl K b L xs Z) (hx : isT (kw K) 10 0) (hm : isT (kw K) 11 312) (ho : isT (kw K) 23 319) {u : Nat × Nat} {I : zM} {i : Int32}  {mc : Nat × Nat} {P1 : Option Value → zM → Prop} (m1 : CT (kG K) (kw K) (kl K) (yX10_fewestLate, cX10_fewestLate, 8, some .int) 2 mc [.ref 0] I P1 nX) (m2 : ∀ v J, P1 v J → ∃ f J2, v = some (.int f) ∧ CT (kG K) (kw K) (kl K) (yX11_fewestLate, cX11_fewestLate, 4, some .int) 3 (0, 0) [.ref 312] J (qE f J2) nX ∧ ZZ K (u.1 + mc.1, u.2 + mc.2) 2798 [(0, .ref 2000), (1, .ref 0), (2, .ref 312), (3, .ref 319), (4, .int i)] [] J2) (hu : u.1 + mc.1 ≤ 601024 ∧ u.2 + mc.2 ≤ 7293034) : ZZ K u 2040 [(0, .ref 2000), (1, .ref 0), (2, .ref 312), (3, .ref 319), (4, .int i)] [] I := by
  have hb := hK.1
  have hnl := hK.2.2.1
  refine zz_aload_n hb (z_dec dL_law17 52 rfl) rfl 1 rfl ?_
  refine zl_inv (as := []) (d := 2) hK mkX10_fewestLate rfl ckX10 hx rfl hu rfl (rL_law 286 rfl) (rL_law 287 rfl) (rL_law 288 rfl) rfl (z_dec dL_law17 53 rfl) m1 (fun v J hv => ?_)
  obtain ⟨f, J2, rfl, m2, kN⟩ := m2 v J hv
  show ZZ K (u.1 + mc.1, u.2 + mc.2) 2044 [(0, .ref 2000), (1, .ref 0), (2, .ref 312), (3, .ref 319), (4, .int i)] [.int f] J
  refine zz_aload_n hb (z_dec dL_law17 54 rfl) rfl 2 rfl ?_
  refine zl_inv (as := []) (d := 3) (mc := (0, 0)) hK mkX11_fewestLate rfl ckX11 hm rfl hu rfl (rL_law 289 rfl) (rL_law 290 rfl) (rL_law 291 rfl) rfl (z_dec dL_law17 55 rfl) m2 (fun v9 J9 hv => ?_)
  obtain ⟨f9, rfl, e9, w9⟩ := hv
  have e9 := e9.symm
  subst e9
  have w9 := w9.symm
  subst w9
  show ZZ K (u.1 + mc.1, u.2 + mc.2) 2048 [(0, .ref 2000), (1, .ref 0), (2, .ref 312), (3, .ref 319), (4, .int i)] [.int f, .int f] J2
  refine zz_icmp_eq (tgt := 2798) hb (z_dec dL_law17 56 rfl) (by decide) (fun c => ?_) (fun c => absurd rfl c)
  exact kN
/-- addLetter -/
theorem lc_51 (hK : zKl K b L xs Z) (hx : isT (kw K) 10 0) (hm : isT (kw K) 11 312) (ho : isT (kw K) 23 319) {u : Nat × Nat} {I : zM} {i : Int32} {x1 : Int32} (h1 : vp_in (i + 1) L) (e1 : xs (i + 1).toNatClampNeg = x1) {x2 : Int32} (h2 : vp_in (i + 2) L) (e2 : xs (i + 2).toNatClampNeg = x2) {x3 : Int32} (h3 : vp_in (i + 3) L) (e3 : xs (i + 3).toNatClampNeg = x3) {x4 : Int32} (h4 : vp_in (i + 4) L) (e4 : xs (i + 4).toNatClampNeg = x4) {x5 : Int32} (h5 : vp_in (i + 5) L) (e5 : xs (i + 5).toNatClampNeg = x5) {mc : Nat × Nat} {P1 : Option Value → zM → Prop} (m1 : CTW (kG K) (kw K) (kl K) (yL_addLetter, cL_addLetter, 8, some .int) [(0, 16, 19, 29), (0, 16, 23, 19), (0, 16, 27, 13)] 8 mc [.ref 0, .int x1, .int x2, .int x3, .int x4, .int x5, .ref 319] I P1) (m2 : ∀ v J, P1 v J → ∃ e f J2, v = some (.int e) ∧ CT (kG K) (kw K) (kl K) (yX11_addLetter, cX11_addLetter, 7, some .int) 2 (0, 0) [.ref 312, .int x1, .int x2, .int x3, .int x4, .int x5] J (qE f J2) nX ∧ J2 312 9 = e ∧ (e = 0 → J2 319 0 = f) ∧ True ∧ ZZ K (u.1 + mc.1, u.2 + mc.2) 2798 [(0, .ref 2000), (1, .ref 0), (2, .ref 312), (3, .ref 319), (4, .int i)] [] J2) (hu : u.1 + mc.1 ≤ 601024 ∧ u.2 + mc.2 ≤ 7293034) : ZZ K u 2053 [(0, .ref 2000), (1, .ref 0), (2, .ref 312), (3, .ref 319), (4, .int i)] [] I := by
  have hb := hK.1
  have hnl := hK.2.2.1
  refine zz_aload_n hb (z_dec dL_law17 59 rfl) rfl 1 rfl ?_
  refine zz_aload_n hb (z_dec dL_law18 0 rfl) rfl 0 rfl ?_
  refine zz_iload hb (z_dec dL_law18 1 rfl) 4 rfl ?_
  refine zz_iconst (v := 1) hb (z_dec dL_law18 2 rfl) (by decide) ?_
  refine zz_iadd hb (z_dec dL_law18 3 rfl) ?_
  refine zl_sld hK h1 e1 (z_dec dL_law18 4 rfl) ?_
  refine zz_aload_n hb (z_dec dL_law18 5 rfl) rfl 0 rfl ?_
  refine zz_iload hb (z_dec dL_law18 6 rfl) 4 rfl ?_
  refine zz_iconst (v := 2) hb (z_dec dL_law18 7 rfl) (by decide) ?_
  refine zz_iadd hb (z_dec dL_law18 8 rfl) ?_
  refine zl_sld hK h2 e2 (z_dec dL_law18 9 rfl) ?_
  refine zz_aload_n hb (z_dec dL_law18 10 rfl) rfl 0 rfl ?_
  refine zz_iload hb (z_dec dL_law18 11 rfl) 4 rfl ?_
  refine zz_iconst (v := 3) hb (z_dec dL_law18 12 rfl) (by decide) ?_
  refine zz_iadd hb (z_dec dL_law18 13 rfl) ?_
  refine zl_sld hK h3 e3 (z_dec dL_law18 14 rfl) ?_
  refine zz_aload_n hb (z_dec dL_law18 15 rfl) rfl 0 rfl ?_
  refine zz_iload hb (z_dec dL_law18 16 rfl) 4 rfl ?_
  refine zz_iconst (v := 4) hb (z_dec dL_law18 17 rfl) (by decide) ?_
  refine zz_iadd hb (z_dec dL_law18 18 rfl) ?_
  refine zl_sld hK h4 e4 (z_dec dL_law18 19 rfl) ?_
  refine zz_aload_n hb (z_dec dL_law18 20 rfl) rfl 0 rfl ?_
  refine zz_iload hb (z_dec dL_law18 21 rfl) 4 rfl ?_
  refine zz_iconst (v := 5) hb (z_dec dL_law18 22 rfl) (by decide) ?_
  refine zz_iadd hb (z_dec dL_law18 23 rfl) ?_
  refine zl_sld hK h5 e5 (z_dec dL_law18 24 rfl) ?_
  refine zz_aload_n hb (z_dec dL_law18 25 rfl) rfl 3 rfl ?_
  refine zl_invW (as := [.ref 0, .int x1, .int x2, .int x3, .int x4, .int x5, .ref 319]) (d := 8) hK mkL_addLetter rfl rfl hu rfl rfl (rL_law 292 rfl) rfl (z_dec dL_law18 26 rfl) m1 (fun v J hv => ?_)
  obtain ⟨e, f, J2, rfl, m2, ht, hf, h01, kN⟩ := m2 v J hv
  show ZZ K (u.1 + mc.1, u.2 + mc.2) 2088 [(0, .ref 2000), (1, .ref 0), (2, .ref 312), (3, .ref 319), (4, .int i)] [.int e] J
  refine zz_istore (L' := [(0, .ref 2000), (1, .ref 0), (2, .ref 312), (3, .ref 319), (4, .int i), (5, .int e)]) hb (z_dec dL_law18 27 rfl) hnl rfl [1, 2, 3, 4, 5, 0] rfl ?_
  refine zz_aload_n hb (z_dec dL_law18 28 rfl) rfl 2 rfl ?_
  refine zz_aload_n hb (z_dec dL_law18 29 rfl) rfl 0 rfl ?_
  refine zz_iload hb (z_dec dL_law18 30 rfl) 4 rfl ?_
  refine zz_iconst (v := 1) hb (z_dec dL_law18 31 rfl) (by decide) ?_
  refine zz_iadd hb (z_dec dL_law18 32 rfl) ?_
  refine zl_sld hK h1 e1 (z_dec dL_law18 33 rfl) ?_
  refine zz_aload_n hb (z_dec dL_law18 34 rfl) rfl 0 rfl ?_
  refine zz_iload hb (z_dec dL_law18 35 rfl) 4 rfl ?_
  refine zz_iconst (v := 2) hb (z_dec dL_law18 36 rfl) (by decide) ?_
  refine zz_iadd hb (z_dec dL_law18 37 rfl) ?_
  refine zl_sld hK h2 e2 (z_dec dL_law18 38 rfl) ?_
  refine zz_aload_n hb (z_dec dL_law18 39 rfl) rfl 0 rfl ?_
  refine zz_iload hb (z_dec dL_law18 40 rfl) 4 rfl ?_
  refine zz_iconst (v := 3) hb (z_dec dL_law18 41 rfl) (by decide) ?_
  refine zz_iadd hb (z_dec dL_law18 42 rfl) ?_
  refine zl_sld hK h3 e3 (z_dec dL_law18 43 rfl) ?_
  refine zz_aload_n hb (z_dec dL_law18 44 rfl) rfl 0 rfl ?_
  refine zz_iload hb (z_dec dL_law18 45 rfl) 4 rfl ?_
  refine zz_iconst (v := 4) hb (z_dec dL_law18 46 rfl) (by decide) ?_
  refine zz_iadd hb (z_dec dL_law18 47 rfl) ?_
  refine zl_sld hK h4 e4 (z_dec dL_law18 48 rfl) ?_
  refine zz_aload_n hb (z_dec dL_law18 49 rfl) rfl 0 rfl ?_
  refine zz_iload hb (z_dec dL_law18 50 rfl) 4 rfl ?_
  refine zz_iconst (v := 5) hb (z_dec dL_law18 51 rfl) (by decide) ?_
  refine zz_iadd hb (z_dec dL_law18 52 rfl) ?_
  refine zl_sld hK h5 e5 (z_dec dL_law18 53 rfl) ?_
  refine zl_inv (as := [.int x1, .int x2, .int x3, .int x4, .int x5]) (d := 2) (mc := (0, 0)) hK mkX11_addLetter rfl ckX11 hm rfl hu rfl (rL_law 294 rfl) (rL_law 295 rfl) (rL_law 296 rfl) rfl (z_dec dL_law18 54 rfl) m2 (fun v9 J9 hv => ?_)
  obtain ⟨f9, rfl, e9, w9⟩ := hv
  have e9 := e9.symm
  subst e9
  have w9 := w9.symm
  subst w9
  show ZZ K (u.1 + mc.1, u.2 + mc.2) 2124 [(0, .ref 2000), (1, .ref 0), (2, .ref 312), (3, .ref 319), (4, .int i), (5, .int e)] [.int f] J2
  refine zz_istore (L' := [(0, .ref 2000), (1, .ref 0), (2, .ref 312), (3, .ref 319), (4, .int i), (5, .int e), (6, .int f)]) hb (z_dec dL_law18 55 rfl) hnl rfl [1, 2, 3, 4, 5, 6, 0] rfl ?_
  refine zz_aload_n hb (z_dec dL_law18 56 rfl) rfl 2 rfl ?_
  refine zl_inv (as := []) (d := 0) (mc := (0, 0)) hK mkX11_thrown rfl ckX11 hm rfl hu rfl (rL_law 11 rfl) (rL_law 12 rfl) (rL_law 13 rfl) rfl (z_dec dL_law18 57 rfl) (r_thrown hm) (fun v J9 hv => ?_)
  obtain ⟨f9, rfl, e9, w9⟩ := hv
  have e9 := e9.symm
  subst e9
  have w9 := w9.symm
  subst w9
  show ZZ K (u.1 + mc.1, u.2 + mc.2) 2130 [(0, .ref 2000), (1, .ref 0), (2, .ref 312), (3, .ref 319), (4, .int i), (5, .int e), (6, .int f)] [.int (J2 312 9)] J2
  refine zz_iload hb (z_dec dL_law18 58 rfl) 5 rfl ?_
  refine zz_icmp_eq (tgt := 2137) hb (z_dec dL_law18 59 rfl) (by decide) (fun c => ?_) (fun c => absurd ht c)
  refine zz_iload hb (z_dec dL_law19 2 rfl) 5 rfl ?_
  refine zz_if_ne (tgt := 2154) hb (z_dec dL_law19 3 rfl) (by decide) (fun ce => ?_) (fun ce => ?_)
  · refine zz_goto (tgt := 2798) hb (z_dec dL_law19 13 rfl) (by decide) ?_
    refine zz_sub [0, 1, 2, 3, 4] (L' := [(0, .ref 2000), (1, .ref 0), (2, .ref 312), (3, .ref 319), (4, .int i)]) rfl ?_
    exact kN
  · refine zz_aload_n hb (z_dec dL_law19 4 rfl) rfl 3 rfl ?_
    refine zz_iconst (v := 0) hb (z_dec dL_law19 5 rfl) (by decide) ?_
    refine zz_lald (j := 0) hb ho rfl (show vp_in 0 1 from zin rfl) (z_dec dL_law19 6 rfl) ?_
    refine zz_iload hb (z_dec dL_law19 7 rfl) 6 rfl ?_
    refine zz_i2l hb (z_dec dL_law19 8 rfl) ?_
    refine zz_lcmp hb (z_dec dL_law19 9 rfl) ?_
    refine zz_if_eq (tgt := 2154) hb (z_dec dL_law19 10 rfl) (by decide) (fun c => ?_) (fun c => absurd (by rw [hf ce]; exact lg_cmp_self _) c)
    refine zz_goto (tgt := 2798) hb (z_dec dL_law19 13 rfl) (by decide) ?_
    refine zz_sub [0, 1, 2, 3, 4] (L' := [(0, .ref 2000), (1, .ref 0), (2, .ref 312), (3, .ref 319), (4, .int i)]) rfl ?_
    exact kN
/-- pass -/
theorem lc_52 (hK : zKl K b L xs Z) (hx : isT (kw K) 10 0) (hm : isT (kw K) 11 312) (ho : isT (kw K) 23 319) {u : Nat × Nat} {I : zM} {i : Int32} {x1 : Int32} (h1 : vp_in (i + 1) L) (e1 : xs (i + 1).toNatClampNeg = x1) {mc : Nat × Nat} {P1 : Option Value → zM → Prop} (m1 : CTW (kG K) (kw K) (kl K) (yL_pass, cL_pass, 4, some .int) [(0, 9, 12, 19), (0, 9, 15, 13)] 8 mc [.ref 0, .int x1, .ref 319] I P1) (m2 : ∀ v J, P1 v J → ∃ e f J2, v = some (.int e) ∧ CT (kG K) (kw K) (kl K) (yX11_pass, cX11_pass, 3, some .int) 9 (0, 0) [.ref 312, .int x1] J (qE f J2) nX ∧ J2 312 9 = e ∧ (e = 0 → J2 319 0 = f) ∧ True ∧ ZZ K (u.1 + mc.1, u.2 + mc.2) 2798 [(0, .ref 2000), (1, .ref 0), (2, .ref 312), (3, .ref 319), (4, .int i)] [] J2) (hu : u.1 + mc.1 ≤ 601024 ∧ u.2 + mc.2 ≤ 7293034) : ZZ K u 2157 [(0, .ref 2000), (1, .ref 0), (2, .ref 312), (3, .ref 319), (4, .int i)] [] I := by
  have hb := hK.1
  have hnl := hK.2.2.1
  refine zz_aload_n hb (z_dec dL_law19 14 rfl) rfl 1 rfl ?_
  refine zz_aload_n hb (z_dec dL_law19 15 rfl) rfl 0 rfl ?_
  refine zz_iload hb (z_dec dL_law19 16 rfl) 4 rfl ?_
  refine zz_iconst (v := 1) hb (z_dec dL_law19 17 rfl) (by decide) ?_
  refine zz_iadd hb (z_dec dL_law19 18 rfl) ?_
  refine zl_sld hK h1 e1 (z_dec dL_law19 19 rfl) ?_
  refine zz_aload_n hb (z_dec dL_law19 20 rfl) rfl 3 rfl ?_
  refine zl_invW (as := [.ref 0, .int x1, .ref 319]) (d := 8) hK mkL_pass rfl rfl hu rfl rfl (rL_law 297 rfl) rfl (z_dec dL_law19 21 rfl) m1 (fun v J hv => ?_)
  obtain ⟨e, f, J2, rfl, m2, ht, hf, h01, kN⟩ := m2 v J hv
  show ZZ K (u.1 + mc.1, u.2 + mc.2) 2168 [(0, .ref 2000), (1, .ref 0), (2, .ref 312), (3, .ref 319), (4, .int i)] [.int e] J
  refine zz_istore (L' := [(0, .ref 2000), (1, .ref 0), (2, .ref 312), (3, .ref 319), (4, .int i), (5, .int e)]) hb (z_dec dL_law19 22 rfl) hnl rfl [1, 2, 3, 4, 5, 0] rfl ?_
  refine zz_aload_n hb (z_dec dL_law19 23 rfl) rfl 2 rfl ?_
  refine zz_aload_n hb (z_dec dL_law19 24 rfl) rfl 0 rfl ?_
  refine zz_iload hb (z_dec dL_law19 25 rfl) 4 rfl ?_
  refine zz_iconst (v := 1) hb (z_dec dL_law19 26 rfl) (by decide) ?_
  refine zz_iadd hb (z_dec dL_law19 27 rfl) ?_
  refine zl_sld hK h1 e1 (z_dec dL_law19 28 rfl) ?_
  refine zl_inv (as := [.int x1]) (d := 9) (mc := (0, 0)) hK mkX11_pass rfl ckX11 hm rfl hu rfl (rL_law 299 rfl) (rL_law 300 rfl) (rL_law 301 rfl) rfl (z_dec dL_law19 29 rfl) m2 (fun v9 J9 hv => ?_)
  obtain ⟨f9, rfl, e9, w9⟩ := hv
  have e9 := e9.symm
  subst e9
  have w9 := w9.symm
  subst w9
  show ZZ K (u.1 + mc.1, u.2 + mc.2) 2180 [(0, .ref 2000), (1, .ref 0), (2, .ref 312), (3, .ref 319), (4, .int i), (5, .int e)] [.int f] J2
  refine zz_istore (L' := [(0, .ref 2000), (1, .ref 0), (2, .ref 312), (3, .ref 319), (4, .int i), (5, .int e), (6, .int f)]) hb (z_dec dL_law19 30 rfl) hnl rfl [1, 2, 3, 4, 5, 6, 0] rfl ?_
  refine zz_aload_n hb (z_dec dL_law19 31 rfl) rfl 2 rfl ?_
  refine zl_inv (as := []) (d := 0) (mc := (0, 0)) hK mkX11_thrown rfl ckX11 hm rfl hu rfl (rL_law 11 rfl) (rL_law 12 rfl) (rL_law 13 rfl) rfl (z_dec dL_law19 32 rfl) (r_thrown hm) (fun v J9 hv => ?_)
  obtain ⟨f9, rfl, e9, w9⟩ := hv
  have e9 := e9.symm
  subst e9
  have w9 := w9.symm
  subst w9
  show ZZ K (u.1 + mc.1, u.2 + mc.2) 2186 [(0, .ref 2000), (1, .ref 0), (2, .ref 312), (3, .ref 319), (4, .int i), (5, .int e), (6, .int f)] [.int (J2 312 9)] J2
  refine zz_iload hb (z_dec dL_law19 33 rfl) 5 rfl ?_
  refine zz_icmp_eq (tgt := 2193) hb (z_dec dL_law19 34 rfl) (by decide) (fun c => ?_) (fun c => absurd ht c)
  refine zz_iload hb (z_dec dL_law19 37 rfl) 5 rfl ?_
  refine zz_if_ne (tgt := 2210) hb (z_dec dL_law19 38 rfl) (by decide) (fun ce => ?_) (fun ce => ?_)
  · refine zz_goto (tgt := 2798) hb (z_dec dL_law19 48 rfl) (by decide) ?_
    refine zz_sub [0, 1, 2, 3, 4] (L' := [(0, .ref 2000), (1, .ref 0), (2, .ref 312), (3, .ref 319), (4, .int i)]) rfl ?_
    exact kN
  · refine zz_aload_n hb (z_dec dL_law19 39 rfl) rfl 3 rfl ?_
    refine zz_iconst (v := 0) hb (z_dec dL_law19 40 rfl) (by decide) ?_
    refine zz_lald (j := 0) hb ho rfl (show vp_in 0 1 from zin rfl) (z_dec dL_law19 41 rfl) ?_
    refine zz_iload hb (z_dec dL_law19 42 rfl) 6 rfl ?_
    refine zz_i2l hb (z_dec dL_law19 43 rfl) ?_
    refine zz_lcmp hb (z_dec dL_law19 44 rfl) ?_
    refine zz_if_eq (tgt := 2210) hb (z_dec dL_law19 45 rfl) (by decide) (fun c => ?_) (fun c => absurd (by rw [hf ce]; exact lg_cmp_self _) c)
    refine zz_goto (tgt := 2798) hb (z_dec dL_law19 48 rfl) (by decide) ?_
    refine zz_sub [0, 1, 2, 3, 4] (L' := [(0, .ref 2000), (1, .ref 0), (2, .ref 312), (3, .ref 319), (4, .int i)]) rfl ?_
    exact kN
/-- setPolicy -/
theorem lc_53 (hK : zKl K b L xs Z) (hx : isT (kw K) 10 0) (hm : isT (kw K) 11 312) (ho : isT (kw K) 23 319) {u : Nat × Nat} {I : zM} {i : Int32} {x1 : Int32} (h1 : vp_in (i + 1) L) (e1 : xs (i + 1).toNatClampNeg = x1) {mc : Nat × Nat} {P1 : Option Value → zM → Prop} (m1 : CTW (kG K) (kw K) (kl K) (yL_setPolicy, cL_setPolicy, 4, some .int) [(0, 9, 12, 19)] 8 mc [.ref 0, .int x1, .ref 319] I P1) (m2 : ∀ v J, P1 v J → ∃ e f J2, v = some (.int e) ∧ CT (kG K) (kw K) (kl K) (yX11_setPolicy, cX11_setPolicy, 3, some .int) 2 (0, 0) [.ref 312, .int x1] J (qE f J2) nX ∧ J2 312 9 = e ∧ (e = 0 → J2 319 0 = f) ∧ True ∧ ZZ K (u.1 + mc.1, u.2 + mc.2) 2798 [(0, .ref 2000), (1, .ref 0), (2, .ref 312), (3, .ref 319), (4, .int i)] [] J2) (hu : u.1 + mc.1 ≤ 601024 ∧ u.2 + mc.2 ≤ 7293034) : ZZ K u 2213 [(0, .ref 2000), (1, .ref 0), (2, .ref 312), (3, .ref 319), (4, .int i)] [] I := by
  have hb := hK.1
  have hnl := hK.2.2.1
  refine zz_aload_n hb (z_dec dL_law19 49 rfl) rfl 1 rfl ?_
  refine zz_aload_n hb (z_dec dL_law19 50 rfl) rfl 0 rfl ?_
  refine zz_iload hb (z_dec dL_law19 51 rfl) 4 rfl ?_
  refine zz_iconst (v := 1) hb (z_dec dL_law19 52 rfl) (by decide) ?_
  refine zz_iadd hb (z_dec dL_law19 53 rfl) ?_
  refine zl_sld hK h1 e1 (z_dec dL_law19 54 rfl) ?_
  refine zz_aload_n hb (z_dec dL_law19 55 rfl) rfl 3 rfl ?_
  refine zl_invW (as := [.ref 0, .int x1, .ref 319]) (d := 8) hK mkL_setPolicy rfl rfl hu rfl rfl (rL_law 302 rfl) rfl (z_dec dL_law19 56 rfl) m1 (fun v J hv => ?_)
  obtain ⟨e, f, J2, rfl, m2, ht, hf, h01, kN⟩ := m2 v J hv
  show ZZ K (u.1 + mc.1, u.2 + mc.2) 2224 [(0, .ref 2000), (1, .ref 0), (2, .ref 312), (3, .ref 319), (4, .int i)] [.int e] J
  refine zz_istore (L' := [(0, .ref 2000), (1, .ref 0), (2, .ref 312), (3, .ref 319), (4, .int i), (5, .int e)]) hb (z_dec dL_law19 57 rfl) hnl rfl [1, 2, 3, 4, 5, 0] rfl ?_
  refine zz_aload_n hb (z_dec dL_law19 58 rfl) rfl 2 rfl ?_
  refine zz_aload_n hb (z_dec dL_law19 59 rfl) rfl 0 rfl ?_
  refine zz_iload hb (z_dec dL_law20 0 rfl) 4 rfl ?_
  refine zz_iconst (v := 1) hb (z_dec dL_law20 1 rfl) (by decide) ?_
  refine zz_iadd hb (z_dec dL_law20 2 rfl) ?_
  refine zl_sld hK h1 e1 (z_dec dL_law20 3 rfl) ?_
  refine zl_inv (as := [.int x1]) (d := 2) (mc := (0, 0)) hK mkX11_setPolicy rfl ckX11 hm rfl hu rfl (rL_law 304 rfl) (rL_law 305 rfl) (rL_law 306 rfl) rfl (z_dec dL_law20 4 rfl) m2 (fun v9 J9 hv => ?_)
  obtain ⟨f9, rfl, e9, w9⟩ := hv
  have e9 := e9.symm
  subst e9
  have w9 := w9.symm
  subst w9
  show ZZ K (u.1 + mc.1, u.2 + mc.2) 2236 [(0, .ref 2000), (1, .ref 0), (2, .ref 312), (3, .ref 319), (4, .int i), (5, .int e)] [.int f] J2
  refine zz_istore (L' := [(0, .ref 2000), (1, .ref 0), (2, .ref 312), (3, .ref 319), (4, .int i), (5, .int e), (6, .int f)]) hb (z_dec dL_law20 5 rfl) hnl rfl [1, 2, 3, 4, 5, 6, 0] rfl ?_
  refine zz_aload_n hb (z_dec dL_law20 6 rfl) rfl 2 rfl ?_
  refine zl_inv (as := []) (d := 0) (mc := (0, 0)) hK mkX11_thrown rfl ckX11 hm rfl hu rfl (rL_law 11 rfl) (rL_law 12 rfl) (rL_law 13 rfl) rfl (z_dec dL_law20 7 rfl) (r_thrown hm) (fun v J9 hv => ?_)
  obtain ⟨f9, rfl, e9, w9⟩ := hv
  have e9 := e9.symm
  subst e9
  have w9 := w9.symm
  subst w9
  show ZZ K (u.1 + mc.1, u.2 + mc.2) 2242 [(0, .ref 2000), (1, .ref 0), (2, .ref 312), (3, .ref 319), (4, .int i), (5, .int e), (6, .int f)] [.int (J2 312 9)] J2
  refine zz_iload hb (z_dec dL_law20 8 rfl) 5 rfl ?_
  refine zz_icmp_eq (tgt := 2249) hb (z_dec dL_law20 9 rfl) (by decide) (fun c => ?_) (fun c => absurd ht c)
  refine zz_iload hb (z_dec dL_law20 12 rfl) 5 rfl ?_
  refine zz_if_ne (tgt := 2266) hb (z_dec dL_law20 13 rfl) (by decide) (fun ce => ?_) (fun ce => ?_)
  · refine zz_goto (tgt := 2798) hb (z_dec dL_law20 23 rfl) (by decide) ?_
    refine zz_sub [0, 1, 2, 3, 4] (L' := [(0, .ref 2000), (1, .ref 0), (2, .ref 312), (3, .ref 319), (4, .int i)]) rfl ?_
    exact kN
  · refine zz_aload_n hb (z_dec dL_law20 14 rfl) rfl 3 rfl ?_
    refine zz_iconst (v := 0) hb (z_dec dL_law20 15 rfl) (by decide) ?_
    refine zz_lald (j := 0) hb ho rfl (show vp_in 0 1 from zin rfl) (z_dec dL_law20 16 rfl) ?_
    refine zz_iload hb (z_dec dL_law20 17 rfl) 6 rfl ?_
    refine zz_i2l hb (z_dec dL_law20 18 rfl) ?_
    refine zz_lcmp hb (z_dec dL_law20 19 rfl) ?_
    refine zz_if_eq (tgt := 2266) hb (z_dec dL_law20 20 rfl) (by decide) (fun c => ?_) (fun c => absurd (by rw [hf ce]; exact lg_cmp_self _) c)
    refine zz_goto (tgt := 2798) hb (z_dec dL_law20 23 rfl) (by decide) ?_
    refine zz_sub [0, 1, 2, 3, 4] (L' := [(0, .ref 2000), (1, .ref 0), (2, .ref 312), (3, .ref 319), (4, .int i)]) rfl ?_
    exact kN
/-- setDeadline -/
theorem lc_54 (hK : zKl K b L xs Z) (hx : isT (kw K) 10 0) (hm : isT (kw K) 11 312) (ho : isT (kw K) 23 319) {u : Nat × Nat} {I : zM} {i : Int32} {x1 : Int32} (h1 : vp_in (i + 1) L) (e1 : xs (i + 1).toNatClampNeg = x1) {x2 : Int32} (h2 : vp_in (i + 2) L) (e2 : xs (i + 2).toNatClampNeg = x2) {mc : Nat × Nat} {P1 : Option Value → zM → Prop} (m1 : CTW (kG K) (kw K) (kl K) (yL_setDeadline, cL_setDeadline, 5, some .int) [(0, 10, 13, 29), (0, 10, 17, 19)] 8 mc [.ref 0, .int x1, .int x2, .ref 319] I P1) (m2 : ∀ v J, P1 v J → ∃ e f J2, v = some (.int e) ∧ CT (kG K) (kw K) (kl K) (yX11_setDeadline, cX11_setDeadline, 3, some .int) 3 (0, 0) [.ref 312, .int x1, .int x2] J (qE f J2) nX ∧ J2 312 9 = e ∧ (e = 0 → J2 319 0 = f) ∧ True ∧ ZZ K (u.1 + mc.1, u.2 + mc.2) 2798 [(0, .ref 2000), (1, .ref 0), (2, .ref 312), (3, .ref 319), (4, .int i)] [] J2) (hu : u.1 + mc.1 ≤ 601024 ∧ u.2 + mc.2 ≤ 7293034) : ZZ K u 2269 [(0, .ref 2000), (1, .ref 0), (2, .ref 312), (3, .ref 319), (4, .int i)] [] I := by
  have hb := hK.1
  have hnl := hK.2.2.1
  refine zz_aload_n hb (z_dec dL_law20 24 rfl) rfl 1 rfl ?_
  refine zz_aload_n hb (z_dec dL_law20 25 rfl) rfl 0 rfl ?_
  refine zz_iload hb (z_dec dL_law20 26 rfl) 4 rfl ?_
  refine zz_iconst (v := 1) hb (z_dec dL_law20 27 rfl) (by decide) ?_
  refine zz_iadd hb (z_dec dL_law20 28 rfl) ?_
  refine zl_sld hK h1 e1 (z_dec dL_law20 29 rfl) ?_
  refine zz_aload_n hb (z_dec dL_law20 30 rfl) rfl 0 rfl ?_
  refine zz_iload hb (z_dec dL_law20 31 rfl) 4 rfl ?_
  refine zz_iconst (v := 2) hb (z_dec dL_law20 32 rfl) (by decide) ?_
  refine zz_iadd hb (z_dec dL_law20 33 rfl) ?_
  refine zl_sld hK h2 e2 (z_dec dL_law20 34 rfl) ?_
  refine zz_aload_n hb (z_dec dL_law20 35 rfl) rfl 3 rfl ?_
  refine zl_invW (as := [.ref 0, .int x1, .int x2, .ref 319]) (d := 8) hK mkL_setDeadline rfl rfl hu rfl rfl (rL_law 307 rfl) rfl (z_dec dL_law20 36 rfl) m1 (fun v J hv => ?_)
  obtain ⟨e, f, J2, rfl, m2, ht, hf, h01, kN⟩ := m2 v J hv
  show ZZ K (u.1 + mc.1, u.2 + mc.2) 2286 [(0, .ref 2000), (1, .ref 0), (2, .ref 312), (3, .ref 319), (4, .int i)] [.int e] J
  refine zz_istore (L' := [(0, .ref 2000), (1, .ref 0), (2, .ref 312), (3, .ref 319), (4, .int i), (5, .int e)]) hb (z_dec dL_law20 37 rfl) hnl rfl [1, 2, 3, 4, 5, 0] rfl ?_
  refine zz_aload_n hb (z_dec dL_law20 38 rfl) rfl 2 rfl ?_
  refine zz_aload_n hb (z_dec dL_law20 39 rfl) rfl 0 rfl ?_
  refine zz_iload hb (z_dec dL_law20 40 rfl) 4 rfl ?_
  refine zz_iconst (v := 1) hb (z_dec dL_law20 41 rfl) (by decide) ?_
  refine zz_iadd hb (z_dec dL_law20 42 rfl) ?_
  refine zl_sld hK h1 e1 (z_dec dL_law20 43 rfl) ?_
  refine zz_aload_n hb (z_dec dL_law20 44 rfl) rfl 0 rfl ?_
  refine zz_iload hb (z_dec dL_law20 45 rfl) 4 rfl ?_
  refine zz_iconst (v := 2) hb (z_dec dL_law20 46 rfl) (by decide) ?_
  refine zz_iadd hb (z_dec dL_law20 47 rfl) ?_
  refine zl_sld hK h2 e2 (z_dec dL_law20 48 rfl) ?_
  refine zl_inv (as := [.int x1, .int x2]) (d := 3) (mc := (0, 0)) hK mkX11_setDeadline rfl ckX11 hm rfl hu rfl (rL_law 309 rfl) (rL_law 310 rfl) (rL_law 311 rfl) rfl (z_dec dL_law20 49 rfl) m2 (fun v9 J9 hv => ?_)
  obtain ⟨f9, rfl, e9, w9⟩ := hv
  have e9 := e9.symm
  subst e9
  have w9 := w9.symm
  subst w9
  show ZZ K (u.1 + mc.1, u.2 + mc.2) 2304 [(0, .ref 2000), (1, .ref 0), (2, .ref 312), (3, .ref 319), (4, .int i), (5, .int e)] [.int f] J2
  refine zz_istore (L' := [(0, .ref 2000), (1, .ref 0), (2, .ref 312), (3, .ref 319), (4, .int i), (5, .int e), (6, .int f)]) hb (z_dec dL_law20 50 rfl) hnl rfl [1, 2, 3, 4, 5, 6, 0] rfl ?_
  refine zz_aload_n hb (z_dec dL_law20 51 rfl) rfl 2 rfl ?_
  refine zl_inv (as := []) (d := 0) (mc := (0, 0)) hK mkX11_thrown rfl ckX11 hm rfl hu rfl (rL_law 11 rfl) (rL_law 12 rfl) (rL_law 13 rfl) rfl (z_dec dL_law20 52 rfl) (r_thrown hm) (fun v J9 hv => ?_)
  obtain ⟨f9, rfl, e9, w9⟩ := hv
  have e9 := e9.symm
  subst e9
  have w9 := w9.symm
  subst w9
  show ZZ K (u.1 + mc.1, u.2 + mc.2) 2310 [(0, .ref 2000), (1, .ref 0), (2, .ref 312), (3, .ref 319), (4, .int i), (5, .int e), (6, .int f)] [.int (J2 312 9)] J2
  refine zz_iload hb (z_dec dL_law20 53 rfl) 5 rfl ?_
  refine zz_icmp_eq (tgt := 2317) hb (z_dec dL_law20 54 rfl) (by decide) (fun c => ?_) (fun c => absurd ht c)
  refine zz_iload hb (z_dec dL_law20 57 rfl) 5 rfl ?_
  refine zz_if_ne (tgt := 2334) hb (z_dec dL_law20 58 rfl) (by decide) (fun ce => ?_) (fun ce => ?_)
  · refine zz_goto (tgt := 2798) hb (z_dec dL_law21 8 rfl) (by decide) ?_
    refine zz_sub [0, 1, 2, 3, 4] (L' := [(0, .ref 2000), (1, .ref 0), (2, .ref 312), (3, .ref 319), (4, .int i)]) rfl ?_
    exact kN
  · refine zz_aload_n hb (z_dec dL_law20 59 rfl) rfl 3 rfl ?_
    refine zz_iconst (v := 0) hb (z_dec dL_law21 0 rfl) (by decide) ?_
    refine zz_lald (j := 0) hb ho rfl (show vp_in 0 1 from zin rfl) (z_dec dL_law21 1 rfl) ?_
    refine zz_iload hb (z_dec dL_law21 2 rfl) 6 rfl ?_
    refine zz_i2l hb (z_dec dL_law21 3 rfl) ?_
    refine zz_lcmp hb (z_dec dL_law21 4 rfl) ?_
    refine zz_if_eq (tgt := 2334) hb (z_dec dL_law21 5 rfl) (by decide) (fun c => ?_) (fun c => absurd (by rw [hf ce]; exact lg_cmp_self _) c)
    refine zz_goto (tgt := 2798) hb (z_dec dL_law21 8 rfl) (by decide) ?_
    refine zz_sub [0, 1, 2, 3, 4] (L' := [(0, .ref 2000), (1, .ref 0), (2, .ref 312), (3, .ref 319), (4, .int i)]) rfl ?_
    exact kN
/-- setPriority -/
theorem lc_55 (hK : zKl K b L xs Z) (hx : isT (kw K) 10 0) (hm : isT (kw K) 11 312) (ho : isT (kw K) 23 319) {u : Nat × Nat} {I : zM} {i : Int32} {x1 : Int32} (h1 : vp_in (i + 1) L) (e1 : xs (i + 1).toNatClampNeg = x1) {x2 : Int32} (h2 : vp_in (i + 2) L) (e2 : xs (i + 2).toNatClampNeg = x2) {mc : Nat × Nat} {P1 : Option Value → zM → Prop} (m1 : CTW (kG K) (kw K) (kl K) (yL_setPriority, cL_setPriority, 5, some .int) [(0, 10, 13, 29), (0, 10, 17, 19)] 8 mc [.ref 0, .int x1, .int x2, .ref 319] I P1) (m2 : ∀ v J, P1 v J → ∃ e f J2, v = some (.int e) ∧ CT (kG K) (kw K) (kl K) (yX11_setPriority, cX11_setPriority, 3, some .int) 3 (0, 0) [.ref 312, .int x1, .int x2] J (qE f J2) nX ∧ J2 312 9 = e ∧ (e = 0 → J2 319 0 = f) ∧ True ∧ ZZ K (u.1 + mc.1, u.2 + mc.2) 2798 [(0, .ref 2000), (1, .ref 0), (2, .ref 312), (3, .ref 319), (4, .int i)] [] J2) (hu : u.1 + mc.1 ≤ 601024 ∧ u.2 + mc.2 ≤ 7293034) : ZZ K u 2337 [(0, .ref 2000), (1, .ref 0), (2, .ref 312), (3, .ref 319), (4, .int i)] [] I := by
  have hb := hK.1
  have hnl := hK.2.2.1
  refine zz_aload_n hb (z_dec dL_law21 9 rfl) rfl 1 rfl ?_
  refine zz_aload_n hb (z_dec dL_law21 10 rfl) rfl 0 rfl ?_
  refine zz_iload hb (z_dec dL_law21 11 rfl) 4 rfl ?_
  refine zz_iconst (v := 1) hb (z_dec dL_law21 12 rfl) (by decide) ?_
  refine zz_iadd hb (z_dec dL_law21 13 rfl) ?_
  refine zl_sld hK h1 e1 (z_dec dL_law21 14 rfl) ?_
  refine zz_aload_n hb (z_dec dL_law21 15 rfl) rfl 0 rfl ?_
  refine zz_iload hb (z_dec dL_law21 16 rfl) 4 rfl ?_
  refine zz_iconst (v := 2) hb (z_dec dL_law21 17 rfl) (by decide) ?_
  refine zz_iadd hb (z_dec dL_law21 18 rfl) ?_
  refine zl_sld hK h2 e2 (z_dec dL_law21 19 rfl) ?_
  refine zz_aload_n hb (z_dec dL_law21 20 rfl) rfl 3 rfl ?_
  refine zl_invW (as := [.ref 0, .int x1, .int x2, .ref 319]) (d := 8) hK mkL_setPriority rfl rfl hu rfl rfl (rL_law 312 rfl) rfl (z_dec dL_law21 21 rfl) m1 (fun v J hv => ?_)
  obtain ⟨e, f, J2, rfl, m2, ht, hf, h01, kN⟩ := m2 v J hv
  show ZZ K (u.1 + mc.1, u.2 + mc.2) 2354 [(0, .ref 2000), (1, .ref 0), (2, .ref 312), (3, .ref 319), (4, .int i)] [.int e] J
  refine zz_istore (L' := [(0, .ref 2000), (1, .ref 0), (2, .ref 312), (3, .ref 319), (4, .int i), (5, .int e)]) hb (z_dec dL_law21 22 rfl) hnl rfl [1, 2, 3, 4, 5, 0] rfl ?_
  refine zz_aload_n hb (z_dec dL_law21 23 rfl) rfl 2 rfl ?_
  refine zz_aload_n hb (z_dec dL_law21 24 rfl) rfl 0 rfl ?_
  refine zz_iload hb (z_dec dL_law21 25 rfl) 4 rfl ?_
  refine zz_iconst (v := 1) hb (z_dec dL_law21 26 rfl) (by decide) ?_
  refine zz_iadd hb (z_dec dL_law21 27 rfl) ?_
  refine zl_sld hK h1 e1 (z_dec dL_law21 28 rfl) ?_
  refine zz_aload_n hb (z_dec dL_law21 29 rfl) rfl 0 rfl ?_
  refine zz_iload hb (z_dec dL_law21 30 rfl) 4 rfl ?_
  refine zz_iconst (v := 2) hb (z_dec dL_law21 31 rfl) (by decide) ?_
  refine zz_iadd hb (z_dec dL_law21 32 rfl) ?_
  refine zl_sld hK h2 e2 (z_dec dL_law21 33 rfl) ?_
  refine zl_inv (as := [.int x1, .int x2]) (d := 3) (mc := (0, 0)) hK mkX11_setPriority rfl ckX11 hm rfl hu rfl (rL_law 314 rfl) (rL_law 315 rfl) (rL_law 316 rfl) rfl (z_dec dL_law21 34 rfl) m2 (fun v9 J9 hv => ?_)
  obtain ⟨f9, rfl, e9, w9⟩ := hv
  have e9 := e9.symm
  subst e9
  have w9 := w9.symm
  subst w9
  show ZZ K (u.1 + mc.1, u.2 + mc.2) 2372 [(0, .ref 2000), (1, .ref 0), (2, .ref 312), (3, .ref 319), (4, .int i), (5, .int e)] [.int f] J2
  refine zz_istore (L' := [(0, .ref 2000), (1, .ref 0), (2, .ref 312), (3, .ref 319), (4, .int i), (5, .int e), (6, .int f)]) hb (z_dec dL_law21 35 rfl) hnl rfl [1, 2, 3, 4, 5, 6, 0] rfl ?_
  refine zz_aload_n hb (z_dec dL_law21 36 rfl) rfl 2 rfl ?_
  refine zl_inv (as := []) (d := 0) (mc := (0, 0)) hK mkX11_thrown rfl ckX11 hm rfl hu rfl (rL_law 11 rfl) (rL_law 12 rfl) (rL_law 13 rfl) rfl (z_dec dL_law21 37 rfl) (r_thrown hm) (fun v J9 hv => ?_)
  obtain ⟨f9, rfl, e9, w9⟩ := hv
  have e9 := e9.symm
  subst e9
  have w9 := w9.symm
  subst w9
  show ZZ K (u.1 + mc.1, u.2 + mc.2) 2378 [(0, .ref 2000), (1, .ref 0), (2, .ref 312), (3, .ref 319), (4, .int i), (5, .int e), (6, .int f)] [.int (J2 312 9)] J2
  refine zz_iload hb (z_dec dL_law21 38 rfl) 5 rfl ?_
  refine zz_icmp_eq (tgt := 2385) hb (z_dec dL_law21 39 rfl) (by decide) (fun c => ?_) (fun c => absurd ht c)
  refine zz_iload hb (z_dec dL_law21 42 rfl) 5 rfl ?_
  refine zz_if_ne (tgt := 2402) hb (z_dec dL_law21 43 rfl) (by decide) (fun ce => ?_) (fun ce => ?_)
  · refine zz_goto (tgt := 2798) hb (z_dec dL_law21 53 rfl) (by decide) ?_
    refine zz_sub [0, 1, 2, 3, 4] (L' := [(0, .ref 2000), (1, .ref 0), (2, .ref 312), (3, .ref 319), (4, .int i)]) rfl ?_
    exact kN
  · refine zz_aload_n hb (z_dec dL_law21 44 rfl) rfl 3 rfl ?_
    refine zz_iconst (v := 0) hb (z_dec dL_law21 45 rfl) (by decide) ?_
    refine zz_lald (j := 0) hb ho rfl (show vp_in 0 1 from zin rfl) (z_dec dL_law21 46 rfl) ?_
    refine zz_iload hb (z_dec dL_law21 47 rfl) 6 rfl ?_
    refine zz_i2l hb (z_dec dL_law21 48 rfl) ?_
    refine zz_lcmp hb (z_dec dL_law21 49 rfl) ?_
    refine zz_if_eq (tgt := 2402) hb (z_dec dL_law21 50 rfl) (by decide) (fun c => ?_) (fun c => absurd (by rw [hf ce]; exact lg_cmp_self _) c)
    refine zz_goto (tgt := 2798) hb (z_dec dL_law21 53 rfl) (by decide) ?_
    refine zz_sub [0, 1, 2, 3, 4] (L' := [(0, .ref 2000), (1, .ref 0), (2, .ref 312), (3, .ref 319), (4, .int i)]) rfl ?_
    exact kN
/-- extend -/
theorem lc_56 (hK : zKl K b L xs Z) (hx : isT (kw K) 10 0) (hm : isT (kw K) 11 312) (ho : isT (kw K) 23 319) {u : Nat × Nat} {I : zM} {i : Int32} {x1 : Int32} (h1 : vp_in (i + 1) L) (e1 : xs (i + 1).toNatClampNeg = x1) {x2 : Int32} (h2 : vp_in (i + 2) L) (e2 : xs (i + 2).toNatClampNeg = x2) {mc : Nat × Nat} {P1 : Option Value → zM → Prop} (m1 : CTW (kG K) (kw K) (kl K) (yL_extend, cL_extend, 5, some .int) [(0, 10, 13, 29), (0, 10, 17, 19), (0, 10, 21, 13)] 8 mc [.ref 0, .int x1, .int x2, .ref 319] I P1) (m2 : ∀ v J, P1 v J → ∃ e f J2, v = some (.int e) ∧ CT (kG K) (kw K) (kl K) (yX11_extend, cX11_extend, 4, some .int) 2 (0, 0) [.ref 312, .int x1, .int x2] J (qE f J2) nX ∧ J2 312 9 = e ∧ (e = 0 → J2 319 0 = f) ∧ True ∧ ZZ K (u.1 + mc.1, u.2 + mc.2) 2798 [(0, .ref 2000), (1, .ref 0), (2, .ref 312), (3, .ref 319), (4, .int i)] [] J2) (hu : u.1 + mc.1 ≤ 601024 ∧ u.2 + mc.2 ≤ 7293034) : ZZ K u 2405 [(0, .ref 2000), (1, .ref 0), (2, .ref 312), (3, .ref 319), (4, .int i)] [] I := by
  have hb := hK.1
  have hnl := hK.2.2.1
  refine zz_aload_n hb (z_dec dL_law21 54 rfl) rfl 1 rfl ?_
  refine zz_aload_n hb (z_dec dL_law21 55 rfl) rfl 0 rfl ?_
  refine zz_iload hb (z_dec dL_law21 56 rfl) 4 rfl ?_
  refine zz_iconst (v := 1) hb (z_dec dL_law21 57 rfl) (by decide) ?_
  refine zz_iadd hb (z_dec dL_law21 58 rfl) ?_
  refine zl_sld hK h1 e1 (z_dec dL_law21 59 rfl) ?_
  refine zz_aload_n hb (z_dec dL_law22 0 rfl) rfl 0 rfl ?_
  refine zz_iload hb (z_dec dL_law22 1 rfl) 4 rfl ?_
  refine zz_iconst (v := 2) hb (z_dec dL_law22 2 rfl) (by decide) ?_
  refine zz_iadd hb (z_dec dL_law22 3 rfl) ?_
  refine zl_sld hK h2 e2 (z_dec dL_law22 4 rfl) ?_
  refine zz_aload_n hb (z_dec dL_law22 5 rfl) rfl 3 rfl ?_
  refine zl_invW (as := [.ref 0, .int x1, .int x2, .ref 319]) (d := 8) hK mkL_extend rfl rfl hu rfl rfl (rL_law 317 rfl) rfl (z_dec dL_law22 6 rfl) m1 (fun v J hv => ?_)
  obtain ⟨e, f, J2, rfl, m2, ht, hf, h01, kN⟩ := m2 v J hv
  show ZZ K (u.1 + mc.1, u.2 + mc.2) 2422 [(0, .ref 2000), (1, .ref 0), (2, .ref 312), (3, .ref 319), (4, .int i)] [.int e] J
  refine zz_istore (L' := [(0, .ref 2000), (1, .ref 0), (2, .ref 312), (3, .ref 319), (4, .int i), (5, .int e)]) hb (z_dec dL_law22 7 rfl) hnl rfl [1, 2, 3, 4, 5, 0] rfl ?_
  refine zz_aload_n hb (z_dec dL_law22 8 rfl) rfl 2 rfl ?_
  refine zz_aload_n hb (z_dec dL_law22 9 rfl) rfl 0 rfl ?_
  refine zz_iload hb (z_dec dL_law22 10 rfl) 4 rfl ?_
  refine zz_iconst (v := 1) hb (z_dec dL_law22 11 rfl) (by decide) ?_
  refine zz_iadd hb (z_dec dL_law22 12 rfl) ?_
  refine zl_sld hK h1 e1 (z_dec dL_law22 13 rfl) ?_
  refine zz_aload_n hb (z_dec dL_law22 14 rfl) rfl 0 rfl ?_
  refine zz_iload hb (z_dec dL_law22 15 rfl) 4 rfl ?_
  refine zz_iconst (v := 2) hb (z_dec dL_law22 16 rfl) (by decide) ?_
  refine zz_iadd hb (z_dec dL_law22 17 rfl) ?_
  refine zl_sld hK h2 e2 (z_dec dL_law22 18 rfl) ?_
  refine zl_inv (as := [.int x1, .int x2]) (d := 2) (mc := (0, 0)) hK mkX11_extend rfl ckX11 hm rfl hu rfl (rL_law 319 rfl) (rL_law 320 rfl) (rL_law 321 rfl) rfl (z_dec dL_law22 19 rfl) m2 (fun v9 J9 hv => ?_)
  obtain ⟨f9, rfl, e9, w9⟩ := hv
  have e9 := e9.symm
  subst e9
  have w9 := w9.symm
  subst w9
  show ZZ K (u.1 + mc.1, u.2 + mc.2) 2440 [(0, .ref 2000), (1, .ref 0), (2, .ref 312), (3, .ref 319), (4, .int i), (5, .int e)] [.int f] J2
  refine zz_istore (L' := [(0, .ref 2000), (1, .ref 0), (2, .ref 312), (3, .ref 319), (4, .int i), (5, .int e), (6, .int f)]) hb (z_dec dL_law22 20 rfl) hnl rfl [1, 2, 3, 4, 5, 6, 0] rfl ?_
  refine zz_aload_n hb (z_dec dL_law22 21 rfl) rfl 2 rfl ?_
  refine zl_inv (as := []) (d := 0) (mc := (0, 0)) hK mkX11_thrown rfl ckX11 hm rfl hu rfl (rL_law 11 rfl) (rL_law 12 rfl) (rL_law 13 rfl) rfl (z_dec dL_law22 22 rfl) (r_thrown hm) (fun v J9 hv => ?_)
  obtain ⟨f9, rfl, e9, w9⟩ := hv
  have e9 := e9.symm
  subst e9
  have w9 := w9.symm
  subst w9
  show ZZ K (u.1 + mc.1, u.2 + mc.2) 2446 [(0, .ref 2000), (1, .ref 0), (2, .ref 312), (3, .ref 319), (4, .int i), (5, .int e), (6, .int f)] [.int (J2 312 9)] J2
  refine zz_iload hb (z_dec dL_law22 23 rfl) 5 rfl ?_
  refine zz_icmp_eq (tgt := 2453) hb (z_dec dL_law22 24 rfl) (by decide) (fun c => ?_) (fun c => absurd ht c)
  refine zz_iload hb (z_dec dL_law22 27 rfl) 5 rfl ?_
  refine zz_if_ne (tgt := 2470) hb (z_dec dL_law22 28 rfl) (by decide) (fun ce => ?_) (fun ce => ?_)
  · refine zz_goto (tgt := 2798) hb (z_dec dL_law22 38 rfl) (by decide) ?_
    refine zz_sub [0, 1, 2, 3, 4] (L' := [(0, .ref 2000), (1, .ref 0), (2, .ref 312), (3, .ref 319), (4, .int i)]) rfl ?_
    exact kN
  · refine zz_aload_n hb (z_dec dL_law22 29 rfl) rfl 3 rfl ?_
    refine zz_iconst (v := 0) hb (z_dec dL_law22 30 rfl) (by decide) ?_
    refine zz_lald (j := 0) hb ho rfl (show vp_in 0 1 from zin rfl) (z_dec dL_law22 31 rfl) ?_
    refine zz_iload hb (z_dec dL_law22 32 rfl) 6 rfl ?_
    refine zz_i2l hb (z_dec dL_law22 33 rfl) ?_
    refine zz_lcmp hb (z_dec dL_law22 34 rfl) ?_
    refine zz_if_eq (tgt := 2470) hb (z_dec dL_law22 35 rfl) (by decide) (fun c => ?_) (fun c => absurd (by rw [hf ce]; exact lg_cmp_self _) c)
    refine zz_goto (tgt := 2798) hb (z_dec dL_law22 38 rfl) (by decide) ?_
    refine zz_sub [0, 1, 2, 3, 4] (L' := [(0, .ref 2000), (1, .ref 0), (2, .ref 312), (3, .ref 319), (4, .int i)]) rfl ?_
    exact kN
/-- discard -/
theorem lc_57 (hK : zKl K b L xs Z) (hx : isT (kw K) 10 0) (hm : isT (kw K) 11 312) (ho : isT (kw K) 23 319) {u : Nat × Nat} {I : zM} {i : Int32} {x1 : Int32} (h1 : vp_in (i + 1) L) (e1 : xs (i + 1).toNatClampNeg = x1) {mc : Nat × Nat} {P1 : Option Value → zM → Prop} (m1 : CTW (kG K) (kw K) (kl K) (yL_discard, cL_discard, 4, some .int) [(0, 9, 12, 29), (0, 9, 15, 13)] 8 mc [.ref 0, .int x1, .ref 319] I P1) (m2 : ∀ v J, P1 v J → ∃ e f J2, v = some (.int e) ∧ CT (kG K) (kw K) (kl K) (yX11_discard, cX11_discard, 3, some .int) 3 (0, 0) [.ref 312, .int x1] J (qE f J2) nX ∧ J2 312 9 = e ∧ (e = 0 → J2 319 0 = f) ∧ True ∧ ZZ K (u.1 + mc.1, u.2 + mc.2) 2798 [(0, .ref 2000), (1, .ref 0), (2, .ref 312), (3, .ref 319), (4, .int i)] [] J2) (hu : u.1 + mc.1 ≤ 601024 ∧ u.2 + mc.2 ≤ 7293034) : ZZ K u 2473 [(0, .ref 2000), (1, .ref 0), (2, .ref 312), (3, .ref 319), (4, .int i)] [] I := by
  have hb := hK.1
  have hnl := hK.2.2.1
  refine zz_aload_n hb (z_dec dL_law22 39 rfl) rfl 1 rfl ?_
  refine zz_aload_n hb (z_dec dL_law22 40 rfl) rfl 0 rfl ?_
  refine zz_iload hb (z_dec dL_law22 41 rfl) 4 rfl ?_
  refine zz_iconst (v := 1) hb (z_dec dL_law22 42 rfl) (by decide) ?_
  refine zz_iadd hb (z_dec dL_law22 43 rfl) ?_
  refine zl_sld hK h1 e1 (z_dec dL_law22 44 rfl) ?_
  refine zz_aload_n hb (z_dec dL_law22 45 rfl) rfl 3 rfl ?_
  refine zl_invW (as := [.ref 0, .int x1, .ref 319]) (d := 8) hK mkL_discard rfl rfl hu rfl rfl (rL_law 322 rfl) rfl (z_dec dL_law22 46 rfl) m1 (fun v J hv => ?_)
  obtain ⟨e, f, J2, rfl, m2, ht, hf, h01, kN⟩ := m2 v J hv
  show ZZ K (u.1 + mc.1, u.2 + mc.2) 2484 [(0, .ref 2000), (1, .ref 0), (2, .ref 312), (3, .ref 319), (4, .int i)] [.int e] J
  refine zz_istore (L' := [(0, .ref 2000), (1, .ref 0), (2, .ref 312), (3, .ref 319), (4, .int i), (5, .int e)]) hb (z_dec dL_law22 47 rfl) hnl rfl [1, 2, 3, 4, 5, 0] rfl ?_
  refine zz_aload_n hb (z_dec dL_law22 48 rfl) rfl 2 rfl ?_
  refine zz_aload_n hb (z_dec dL_law22 49 rfl) rfl 0 rfl ?_
  refine zz_iload hb (z_dec dL_law22 50 rfl) 4 rfl ?_
  refine zz_iconst (v := 1) hb (z_dec dL_law22 51 rfl) (by decide) ?_
  refine zz_iadd hb (z_dec dL_law22 52 rfl) ?_
  refine zl_sld hK h1 e1 (z_dec dL_law22 53 rfl) ?_
  refine zl_inv (as := [.int x1]) (d := 3) (mc := (0, 0)) hK mkX11_discard rfl ckX11 hm rfl hu rfl (rL_law 324 rfl) (rL_law 325 rfl) (rL_law 326 rfl) rfl (z_dec dL_law22 54 rfl) m2 (fun v9 J9 hv => ?_)
  obtain ⟨f9, rfl, e9, w9⟩ := hv
  have e9 := e9.symm
  subst e9
  have w9 := w9.symm
  subst w9
  show ZZ K (u.1 + mc.1, u.2 + mc.2) 2496 [(0, .ref 2000), (1, .ref 0), (2, .ref 312), (3, .ref 319), (4, .int i), (5, .int e)] [.int f] J2
  refine zz_istore (L' := [(0, .ref 2000), (1, .ref 0), (2, .ref 312), (3, .ref 319), (4, .int i), (5, .int e), (6, .int f)]) hb (z_dec dL_law22 55 rfl) hnl rfl [1, 2, 3, 4, 5, 6, 0] rfl ?_
  refine zz_aload_n hb (z_dec dL_law22 56 rfl) rfl 2 rfl ?_
  refine zl_inv (as := []) (d := 0) (mc := (0, 0)) hK mkX11_thrown rfl ckX11 hm rfl hu rfl (rL_law 11 rfl) (rL_law 12 rfl) (rL_law 13 rfl) rfl (z_dec dL_law22 57 rfl) (r_thrown hm) (fun v J9 hv => ?_)
  obtain ⟨f9, rfl, e9, w9⟩ := hv
  have e9 := e9.symm
  subst e9
  have w9 := w9.symm
  subst w9
  show ZZ K (u.1 + mc.1, u.2 + mc.2) 2502 [(0, .ref 2000), (1, .ref 0), (2, .ref 312), (3, .ref 319), (4, .int i), (5, .int e), (6, .int f)] [.int (J2 312 9)] J2
  refine zz_iload hb (z_dec dL_law22 58 rfl) 5 rfl ?_
  refine zz_icmp_eq (tgt := 2509) hb (z_dec dL_law22 59 rfl) (by decide) (fun c => ?_) (fun c => absurd ht c)
  refine zz_iload hb (z_dec dL_law23 2 rfl) 5 rfl ?_
  refine zz_if_ne (tgt := 2526) hb (z_dec dL_law23 3 rfl) (by decide) (fun ce => ?_) (fun ce => ?_)
  · refine zz_goto (tgt := 2798) hb (z_dec dL_law23 13 rfl) (by decide) ?_
    refine zz_sub [0, 1, 2, 3, 4] (L' := [(0, .ref 2000), (1, .ref 0), (2, .ref 312), (3, .ref 319), (4, .int i)]) rfl ?_
    exact kN
  · refine zz_aload_n hb (z_dec dL_law23 4 rfl) rfl 3 rfl ?_
    refine zz_iconst (v := 0) hb (z_dec dL_law23 5 rfl) (by decide) ?_
    refine zz_lald (j := 0) hb ho rfl (show vp_in 0 1 from zin rfl) (z_dec dL_law23 6 rfl) ?_
    refine zz_iload hb (z_dec dL_law23 7 rfl) 6 rfl ?_
    refine zz_i2l hb (z_dec dL_law23 8 rfl) ?_
    refine zz_lcmp hb (z_dec dL_law23 9 rfl) ?_
    refine zz_if_eq (tgt := 2526) hb (z_dec dL_law23 10 rfl) (by decide) (fun c => ?_) (fun c => absurd (by rw [hf ce]; exact lg_cmp_self _) c)
    refine zz_goto (tgt := 2798) hb (z_dec dL_law23 13 rfl) (by decide) ?_
    refine zz_sub [0, 1, 2, 3, 4] (L' := [(0, .ref 2000), (1, .ref 0), (2, .ref 312), (3, .ref 319), (4, .int i)]) rfl ?_
    exact kN
/-- runScript -/
theorem lc_58 (hK : zKl K b L xs Z) (hx : isT (kw K) 10 0) (hm : isT (kw K) 11 312) (ho : isT (kw K) 23 319) {u : Nat × Nat} {I : zM} {i : Int32}  {mc : Nat × Nat} {P1 : Option Value → zM → Prop} (m1 : CTW (kG K) (kw K) (kl K) (yL_runScript, cL_runScript, 3, some .int) [(0, 8, 11, 19)] 8 mc [.ref 0, .ref 319] I P1) (m2 : ∀ v J, P1 v J → ∃ e f J2, v = some (.int e) ∧ CT (kG K) (kw K) (kl K) (yX11_runScript, cX11_runScript, 3, some .int) 10 (0, 0) [.ref 312] J (qE f J2) nX ∧ J2 312 9 = e ∧ (e = 0 → J2 319 0 = f) ∧ True ∧ ZZ K (u.1 + mc.1, u.2 + mc.2) 2798 [(0, .ref 2000), (1, .ref 0), (2, .ref 312), (3, .ref 319), (4, .int i)] [] J2) (hu : u.1 + mc.1 ≤ 601024 ∧ u.2 + mc.2 ≤ 7293034) : ZZ K u 2529 [(0, .ref 2000), (1, .ref 0), (2, .ref 312), (3, .ref 319), (4, .int i)] [] I := by
  have hb := hK.1
  have hnl := hK.2.2.1
  refine zz_aload_n hb (z_dec dL_law23 14 rfl) rfl 1 rfl ?_
  refine zz_aload_n hb (z_dec dL_law23 15 rfl) rfl 3 rfl ?_
  refine zl_invW (as := [.ref 0, .ref 319]) (d := 8) hK mkL_runScript rfl rfl hu rfl rfl (rL_law 327 rfl) rfl (z_dec dL_law23 16 rfl) m1 (fun v J hv => ?_)
  obtain ⟨e, f, J2, rfl, m2, ht, hf, h01, kN⟩ := m2 v J hv
  show ZZ K (u.1 + mc.1, u.2 + mc.2) 2534 [(0, .ref 2000), (1, .ref 0), (2, .ref 312), (3, .ref 319), (4, .int i)] [.int e] J
  refine zz_istore (L' := [(0, .ref 2000), (1, .ref 0), (2, .ref 312), (3, .ref 319), (4, .int i), (5, .int e)]) hb (z_dec dL_law23 17 rfl) hnl rfl [1, 2, 3, 4, 5, 0] rfl ?_
  refine zz_aload_n hb (z_dec dL_law23 18 rfl) rfl 2 rfl ?_
  refine zl_inv (as := []) (d := 10) (mc := (0, 0)) hK mkX11_runScript rfl ckX11 hm rfl hu rfl (rL_law 329 rfl) (rL_law 330 rfl) (rL_law 331 rfl) rfl (z_dec dL_law23 19 rfl) m2 (fun v9 J9 hv => ?_)
  obtain ⟨f9, rfl, e9, w9⟩ := hv
  have e9 := e9.symm
  subst e9
  have w9 := w9.symm
  subst w9
  show ZZ K (u.1 + mc.1, u.2 + mc.2) 2540 [(0, .ref 2000), (1, .ref 0), (2, .ref 312), (3, .ref 319), (4, .int i), (5, .int e)] [.int f] J2
  refine zz_istore (L' := [(0, .ref 2000), (1, .ref 0), (2, .ref 312), (3, .ref 319), (4, .int i), (5, .int e), (6, .int f)]) hb (z_dec dL_law23 20 rfl) hnl rfl [1, 2, 3, 4, 5, 6, 0] rfl ?_
  refine zz_aload_n hb (z_dec dL_law23 21 rfl) rfl 2 rfl ?_
  refine zl_inv (as := []) (d := 0) (mc := (0, 0)) hK mkX11_thrown rfl ckX11 hm rfl hu rfl (rL_law 11 rfl) (rL_law 12 rfl) (rL_law 13 rfl) rfl (z_dec dL_law23 22 rfl) (r_thrown hm) (fun v J9 hv => ?_)
  obtain ⟨f9, rfl, e9, w9⟩ := hv
  have e9 := e9.symm
  subst e9
  have w9 := w9.symm
  subst w9
  show ZZ K (u.1 + mc.1, u.2 + mc.2) 2546 [(0, .ref 2000), (1, .ref 0), (2, .ref 312), (3, .ref 319), (4, .int i), (5, .int e), (6, .int f)] [.int (J2 312 9)] J2
  refine zz_iload hb (z_dec dL_law23 23 rfl) 5 rfl ?_
  refine zz_icmp_eq (tgt := 2553) hb (z_dec dL_law23 24 rfl) (by decide) (fun c => ?_) (fun c => absurd ht c)
  refine zz_iload hb (z_dec dL_law23 27 rfl) 5 rfl ?_
  refine zz_if_ne (tgt := 2570) hb (z_dec dL_law23 28 rfl) (by decide) (fun ce => ?_) (fun ce => ?_)
  · refine zz_goto (tgt := 2798) hb (z_dec dL_law23 38 rfl) (by decide) ?_
    refine zz_sub [0, 1, 2, 3, 4] (L' := [(0, .ref 2000), (1, .ref 0), (2, .ref 312), (3, .ref 319), (4, .int i)]) rfl ?_
    exact kN
  · refine zz_aload_n hb (z_dec dL_law23 29 rfl) rfl 3 rfl ?_
    refine zz_iconst (v := 0) hb (z_dec dL_law23 30 rfl) (by decide) ?_
    refine zz_lald (j := 0) hb ho rfl (show vp_in 0 1 from zin rfl) (z_dec dL_law23 31 rfl) ?_
    refine zz_iload hb (z_dec dL_law23 32 rfl) 6 rfl ?_
    refine zz_i2l hb (z_dec dL_law23 33 rfl) ?_
    refine zz_lcmp hb (z_dec dL_law23 34 rfl) ?_
    refine zz_if_eq (tgt := 2570) hb (z_dec dL_law23 35 rfl) (by decide) (fun c => ?_) (fun c => absurd (by rw [hf ce]; exact lg_cmp_self _) c)
    refine zz_goto (tgt := 2798) hb (z_dec dL_law23 38 rfl) (by decide) ?_
    refine zz_sub [0, 1, 2, 3, 4] (L' := [(0, .ref 2000), (1, .ref 0), (2, .ref 312), (3, .ref 319), (4, .int i)]) rfl ?_
    exact kN
/-- undo -/
theorem lc_59 (hK : zKl K b L xs Z) (hx : isT (kw K) 10 0) (hm : isT (kw K) 11 312) (ho : isT (kw K) 23 319) {u : Nat × Nat} {I : zM} {i : Int32}  {mc : Nat × Nat} {P1 : Option Value → zM → Prop} (m1 : CTW (kG K) (kw K) (kl K) (yL_undo, cL_undo, 3, some .int) [(0, 8, 11, 13)] 7 mc [.ref 0, .ref 319] I P1) (m2 : ∀ v J, P1 v J → ∃ e f J2, v = some (.int e) ∧ CT (kG K) (kw K) (kl K) (yX11_undo, cX11_undo, 1, some .int) 1 (0, 0) [.ref 312] J (qE f J2) nX ∧ J2 312 9 = e ∧ (e = 0 → J2 319 0 = f) ∧ True ∧ ZZ K (u.1 + mc.1, u.2 + mc.2) 2798 [(0, .ref 2000), (1, .ref 0), (2, .ref 312), (3, .ref 319), (4, .int i)] [] J2) (hu : u.1 + mc.1 ≤ 601024 ∧ u.2 + mc.2 ≤ 7293034) : ZZ K u 2573 [(0, .ref 2000), (1, .ref 0), (2, .ref 312), (3, .ref 319), (4, .int i)] [] I := by
  have hb := hK.1
  have hnl := hK.2.2.1
  refine zz_aload_n hb (z_dec dL_law23 39 rfl) rfl 1 rfl ?_
  refine zz_aload_n hb (z_dec dL_law23 40 rfl) rfl 3 rfl ?_
  refine zl_invW (as := [.ref 0, .ref 319]) (d := 7) hK mkL_undo rfl rfl hu rfl rfl (rL_law 332 rfl) rfl (z_dec dL_law23 41 rfl) m1 (fun v J hv => ?_)
  obtain ⟨e, f, J2, rfl, m2, ht, hf, h01, kN⟩ := m2 v J hv
  show ZZ K (u.1 + mc.1, u.2 + mc.2) 2578 [(0, .ref 2000), (1, .ref 0), (2, .ref 312), (3, .ref 319), (4, .int i)] [.int e] J
  refine zz_istore (L' := [(0, .ref 2000), (1, .ref 0), (2, .ref 312), (3, .ref 319), (4, .int i), (5, .int e)]) hb (z_dec dL_law23 42 rfl) hnl rfl [1, 2, 3, 4, 5, 0] rfl ?_
  refine zz_aload_n hb (z_dec dL_law23 43 rfl) rfl 2 rfl ?_
  refine zl_inv (as := []) (d := 1) (mc := (0, 0)) hK mkX11_undo rfl ckX11 hm rfl hu rfl (rL_law 334 rfl) (rL_law 335 rfl) (rL_law 336 rfl) rfl (z_dec dL_law23 44 rfl) m2 (fun v9 J9 hv => ?_)
  obtain ⟨f9, rfl, e9, w9⟩ := hv
  have e9 := e9.symm
  subst e9
  have w9 := w9.symm
  subst w9
  show ZZ K (u.1 + mc.1, u.2 + mc.2) 2584 [(0, .ref 2000), (1, .ref 0), (2, .ref 312), (3, .ref 319), (4, .int i), (5, .int e)] [.int f] J2
  refine zz_istore (L' := [(0, .ref 2000), (1, .ref 0), (2, .ref 312), (3, .ref 319), (4, .int i), (5, .int e), (6, .int f)]) hb (z_dec dL_law23 45 rfl) hnl rfl [1, 2, 3, 4, 5, 6, 0] rfl ?_
  refine zz_aload_n hb (z_dec dL_law23 46 rfl) rfl 2 rfl ?_
  refine zl_inv (as := []) (d := 0) (mc := (0, 0)) hK mkX11_thrown rfl ckX11 hm rfl hu rfl (rL_law 11 rfl) (rL_law 12 rfl) (rL_law 13 rfl) rfl (z_dec dL_law23 47 rfl) (r_thrown hm) (fun v J9 hv => ?_)
  obtain ⟨f9, rfl, e9, w9⟩ := hv
  have e9 := e9.symm
  subst e9
  have w9 := w9.symm
  subst w9
  show ZZ K (u.1 + mc.1, u.2 + mc.2) 2590 [(0, .ref 2000), (1, .ref 0), (2, .ref 312), (3, .ref 319), (4, .int i), (5, .int e), (6, .int f)] [.int (J2 312 9)] J2
  refine zz_iload hb (z_dec dL_law23 48 rfl) 5 rfl ?_
  refine zz_icmp_eq (tgt := 2597) hb (z_dec dL_law23 49 rfl) (by decide) (fun c => ?_) (fun c => absurd ht c)
  refine zz_iload hb (z_dec dL_law23 52 rfl) 5 rfl ?_
  refine zz_if_ne (tgt := 2614) hb (z_dec dL_law23 53 rfl) (by decide) (fun ce => ?_) (fun ce => ?_)
  · refine zz_goto (tgt := 2798) hb (z_dec dL_law24 3 rfl) (by decide) ?_
    refine zz_sub [0, 1, 2, 3, 4] (L' := [(0, .ref 2000), (1, .ref 0), (2, .ref 312), (3, .ref 319), (4, .int i)]) rfl ?_
    exact kN
  · refine zz_aload_n hb (z_dec dL_law23 54 rfl) rfl 3 rfl ?_
    refine zz_iconst (v := 0) hb (z_dec dL_law23 55 rfl) (by decide) ?_
    refine zz_lald (j := 0) hb ho rfl (show vp_in 0 1 from zin rfl) (z_dec dL_law23 56 rfl) ?_
    refine zz_iload hb (z_dec dL_law23 57 rfl) 6 rfl ?_
    refine zz_i2l hb (z_dec dL_law23 58 rfl) ?_
    refine zz_lcmp hb (z_dec dL_law23 59 rfl) ?_
    refine zz_if_eq (tgt := 2614) hb (z_dec dL_law24 0 rfl) (by decide) (fun c => ?_) (fun c => absurd (by rw [hf ce]; exact lg_cmp_self _) c)
    refine zz_goto (tgt := 2798) hb (z_dec dL_law24 3 rfl) (by decide) ?_
    refine zz_sub [0, 1, 2, 3, 4] (L' := [(0, .ref 2000), (1, .ref 0), (2, .ref 312), (3, .ref 319), (4, .int i)]) rfl ?_
    exact kN
/-- save -/
theorem lc_60 (hK : zKl K b L xs Z) (hx : isT (kw K) 10 0) (hm : isT (kw K) 11 312) (ho : isT (kw K) 23 319) {u : Nat × Nat} {I : zM} {i : Int32} {x1 : Int32} (h1 : vp_in (i + 1) L) (e1 : xs (i + 1).toNatClampNeg = x1) {mc : Nat × Nat} {P1 : Option Value → zM → Prop} (m1 : CTW (kG K) (kw K) (kl K) (yL_save, cL_save, 4, some .int) [(0, 9, 12, 29)] 8 mc [.ref 0, .int x1, .ref 319] I P1) (m2 : ∀ v J, P1 v J → ∃ e f J2, v = some (.int e) ∧ CT (kG K) (kw K) (kl K) (yX11_save, cX11_save, 2, some .int) 1 (0, 0) [.ref 312, .int x1] J (qE f J2) nX ∧ J2 312 9 = e ∧ (e = 0 → J2 319 0 = f) ∧ True ∧ ZZ K (u.1 + mc.1, u.2 + mc.2) 2798 [(0, .ref 2000), (1, .ref 0), (2, .ref 312), (3, .ref 319), (4, .int i)] [] J2) (hu : u.1 + mc.1 ≤ 601024 ∧ u.2 + mc.2 ≤ 7293034) : ZZ K u 2617 [(0, .ref 2000), (1, .ref 0), (2, .ref 312), (3, .ref 319), (4, .int i)] [] I := by
  have hb := hK.1
  have hnl := hK.2.2.1
  refine zz_aload_n hb (z_dec dL_law24 4 rfl) rfl 1 rfl ?_
  refine zz_aload_n hb (z_dec dL_law24 5 rfl) rfl 0 rfl ?_
  refine zz_iload hb (z_dec dL_law24 6 rfl) 4 rfl ?_
  refine zz_iconst (v := 1) hb (z_dec dL_law24 7 rfl) (by decide) ?_
  refine zz_iadd hb (z_dec dL_law24 8 rfl) ?_
  refine zl_sld hK h1 e1 (z_dec dL_law24 9 rfl) ?_
  refine zz_aload_n hb (z_dec dL_law24 10 rfl) rfl 3 rfl ?_
  refine zl_invW (as := [.ref 0, .int x1, .ref 319]) (d := 8) hK mkL_save rfl rfl hu rfl rfl (rL_law 337 rfl) rfl (z_dec dL_law24 11 rfl) m1 (fun v J hv => ?_)
  obtain ⟨e, f, J2, rfl, m2, ht, hf, h01, kN⟩ := m2 v J hv
  show ZZ K (u.1 + mc.1, u.2 + mc.2) 2628 [(0, .ref 2000), (1, .ref 0), (2, .ref 312), (3, .ref 319), (4, .int i)] [.int e] J
  refine zz_istore (L' := [(0, .ref 2000), (1, .ref 0), (2, .ref 312), (3, .ref 319), (4, .int i), (5, .int e)]) hb (z_dec dL_law24 12 rfl) hnl rfl [1, 2, 3, 4, 5, 0] rfl ?_
  refine zz_aload_n hb (z_dec dL_law24 13 rfl) rfl 2 rfl ?_
  refine zz_aload_n hb (z_dec dL_law24 14 rfl) rfl 0 rfl ?_
  refine zz_iload hb (z_dec dL_law24 15 rfl) 4 rfl ?_
  refine zz_iconst (v := 1) hb (z_dec dL_law24 16 rfl) (by decide) ?_
  refine zz_iadd hb (z_dec dL_law24 17 rfl) ?_
  refine zl_sld hK h1 e1 (z_dec dL_law24 18 rfl) ?_
  refine zl_inv (as := [.int x1]) (d := 1) (mc := (0, 0)) hK mkX11_save rfl ckX11 hm rfl hu rfl (rL_law 339 rfl) (rL_law 340 rfl) (rL_law 341 rfl) rfl (z_dec dL_law24 19 rfl) m2 (fun v9 J9 hv => ?_)
  obtain ⟨f9, rfl, e9, w9⟩ := hv
  have e9 := e9.symm
  subst e9
  have w9 := w9.symm
  subst w9
  show ZZ K (u.1 + mc.1, u.2 + mc.2) 2640 [(0, .ref 2000), (1, .ref 0), (2, .ref 312), (3, .ref 319), (4, .int i), (5, .int e)] [.int f] J2
  refine zz_istore (L' := [(0, .ref 2000), (1, .ref 0), (2, .ref 312), (3, .ref 319), (4, .int i), (5, .int e), (6, .int f)]) hb (z_dec dL_law24 20 rfl) hnl rfl [1, 2, 3, 4, 5, 6, 0] rfl ?_
  refine zz_aload_n hb (z_dec dL_law24 21 rfl) rfl 2 rfl ?_
  refine zl_inv (as := []) (d := 0) (mc := (0, 0)) hK mkX11_thrown rfl ckX11 hm rfl hu rfl (rL_law 11 rfl) (rL_law 12 rfl) (rL_law 13 rfl) rfl (z_dec dL_law24 22 rfl) (r_thrown hm) (fun v J9 hv => ?_)
  obtain ⟨f9, rfl, e9, w9⟩ := hv
  have e9 := e9.symm
  subst e9
  have w9 := w9.symm
  subst w9
  show ZZ K (u.1 + mc.1, u.2 + mc.2) 2646 [(0, .ref 2000), (1, .ref 0), (2, .ref 312), (3, .ref 319), (4, .int i), (5, .int e), (6, .int f)] [.int (J2 312 9)] J2
  refine zz_iload hb (z_dec dL_law24 23 rfl) 5 rfl ?_
  refine zz_icmp_eq (tgt := 2653) hb (z_dec dL_law24 24 rfl) (by decide) (fun c => ?_) (fun c => absurd ht c)
  refine zz_iload hb (z_dec dL_law24 27 rfl) 5 rfl ?_
  refine zz_if_ne (tgt := 2670) hb (z_dec dL_law24 28 rfl) (by decide) (fun ce => ?_) (fun ce => ?_)
  · refine zz_goto (tgt := 2798) hb (z_dec dL_law24 38 rfl) (by decide) ?_
    refine zz_sub [0, 1, 2, 3, 4] (L' := [(0, .ref 2000), (1, .ref 0), (2, .ref 312), (3, .ref 319), (4, .int i)]) rfl ?_
    exact kN
  · refine zz_aload_n hb (z_dec dL_law24 29 rfl) rfl 3 rfl ?_
    refine zz_iconst (v := 0) hb (z_dec dL_law24 30 rfl) (by decide) ?_
    refine zz_lald (j := 0) hb ho rfl (show vp_in 0 1 from zin rfl) (z_dec dL_law24 31 rfl) ?_
    refine zz_iload hb (z_dec dL_law24 32 rfl) 6 rfl ?_
    refine zz_i2l hb (z_dec dL_law24 33 rfl) ?_
    refine zz_lcmp hb (z_dec dL_law24 34 rfl) ?_
    refine zz_if_eq (tgt := 2670) hb (z_dec dL_law24 35 rfl) (by decide) (fun c => ?_) (fun c => absurd (by rw [hf ce]; exact lg_cmp_self _) c)
    refine zz_goto (tgt := 2798) hb (z_dec dL_law24 38 rfl) (by decide) ?_
    refine zz_sub [0, 1, 2, 3, 4] (L' := [(0, .ref 2000), (1, .ref 0), (2, .ref 312), (3, .ref 319), (4, .int i)]) rfl ?_
    exact kN
/-- restore -/
theorem lc_61 (hK : zKl K b L xs Z) (hx : isT (kw K) 10 0) (hm : isT (kw K) 11 312) (ho : isT (kw K) 23 319) {u : Nat × Nat} {I : zM} {i : Int32} {x1 : Int32} (h1 : vp_in (i + 1) L) (e1 : xs (i + 1).toNatClampNeg = x1) {mc : Nat × Nat} {P1 : Option Value → zM → Prop} (m1 : CTW (kG K) (kw K) (kl K) (yL_restore, cL_restore, 4, some .int) [(0, 9, 12, 29), (0, 9, 15, 13)] 8 mc [.ref 0, .int x1, .ref 319] I P1) (m2 : ∀ v J, P1 v J → ∃ e f J2, v = some (.int e) ∧ CT (kG K) (kw K) (kl K) (yX11_restore, cX11_restore, 3, some .int) 1 (0, 0) [.ref 312, .int x1] J (qE f J2) nX ∧ J2 312 9 = e ∧ (e = 0 → J2 319 0 = f) ∧ True ∧ ZZ K (u.1 + mc.1, u.2 + mc.2) 2798 [(0, .ref 2000), (1, .ref 0), (2, .ref 312), (3, .ref 319), (4, .int i)] [] J2) (hu : u.1 + mc.1 ≤ 601024 ∧ u.2 + mc.2 ≤ 7293034) : ZZ K u 2673 [(0, .ref 2000), (1, .ref 0), (2, .ref 312), (3, .ref 319), (4, .int i)] [] I := by
  have hb := hK.1
  have hnl := hK.2.2.1
  refine zz_aload_n hb (z_dec dL_law24 39 rfl) rfl 1 rfl ?_
  refine zz_aload_n hb (z_dec dL_law24 40 rfl) rfl 0 rfl ?_
  refine zz_iload hb (z_dec dL_law24 41 rfl) 4 rfl ?_
  refine zz_iconst (v := 1) hb (z_dec dL_law24 42 rfl) (by decide) ?_
  refine zz_iadd hb (z_dec dL_law24 43 rfl) ?_
  refine zl_sld hK h1 e1 (z_dec dL_law24 44 rfl) ?_
  refine zz_aload_n hb (z_dec dL_law24 45 rfl) rfl 3 rfl ?_
  refine zl_invW (as := [.ref 0, .int x1, .ref 319]) (d := 8) hK mkL_restore rfl rfl hu rfl rfl (rL_law 342 rfl) rfl (z_dec dL_law24 46 rfl) m1 (fun v J hv => ?_)
  obtain ⟨e, f, J2, rfl, m2, ht, hf, h01, kN⟩ := m2 v J hv
  show ZZ K (u.1 + mc.1, u.2 + mc.2) 2684 [(0, .ref 2000), (1, .ref 0), (2, .ref 312), (3, .ref 319), (4, .int i)] [.int e] J
  refine zz_istore (L' := [(0, .ref 2000), (1, .ref 0), (2, .ref 312), (3, .ref 319), (4, .int i), (5, .int e)]) hb (z_dec dL_law24 47 rfl) hnl rfl [1, 2, 3, 4, 5, 0] rfl ?_
  refine zz_aload_n hb (z_dec dL_law24 48 rfl) rfl 2 rfl ?_
  refine zz_aload_n hb (z_dec dL_law24 49 rfl) rfl 0 rfl ?_
  refine zz_iload hb (z_dec dL_law24 50 rfl) 4 rfl ?_
  refine zz_iconst (v := 1) hb (z_dec dL_law24 51 rfl) (by decide) ?_
  refine zz_iadd hb (z_dec dL_law24 52 rfl) ?_
  refine zl_sld hK h1 e1 (z_dec dL_law24 53 rfl) ?_
  refine zl_inv (as := [.int x1]) (d := 1) (mc := (0, 0)) hK mkX11_restore rfl ckX11 hm rfl hu rfl (rL_law 344 rfl) (rL_law 345 rfl) (rL_law 346 rfl) rfl (z_dec dL_law24 54 rfl) m2 (fun v9 J9 hv => ?_)
  obtain ⟨f9, rfl, e9, w9⟩ := hv
  have e9 := e9.symm
  subst e9
  have w9 := w9.symm
  subst w9
  show ZZ K (u.1 + mc.1, u.2 + mc.2) 2696 [(0, .ref 2000), (1, .ref 0), (2, .ref 312), (3, .ref 319), (4, .int i), (5, .int e)] [.int f] J2
  refine zz_istore (L' := [(0, .ref 2000), (1, .ref 0), (2, .ref 312), (3, .ref 319), (4, .int i), (5, .int e), (6, .int f)]) hb (z_dec dL_law24 55 rfl) hnl rfl [1, 2, 3, 4, 5, 6, 0] rfl ?_
  refine zz_aload_n hb (z_dec dL_law24 56 rfl) rfl 2 rfl ?_
  refine zl_inv (as := []) (d := 0) (mc := (0, 0)) hK mkX11_thrown rfl ckX11 hm rfl hu rfl (rL_law 11 rfl) (rL_law 12 rfl) (rL_law 13 rfl) rfl (z_dec dL_law24 57 rfl) (r_thrown hm) (fun v J9 hv => ?_)
  obtain ⟨f9, rfl, e9, w9⟩ := hv
  have e9 := e9.symm
  subst e9
  have w9 := w9.symm
  subst w9
  show ZZ K (u.1 + mc.1, u.2 + mc.2) 2702 [(0, .ref 2000), (1, .ref 0), (2, .ref 312), (3, .ref 319), (4, .int i), (5, .int e), (6, .int f)] [.int (J2 312 9)] J2
  refine zz_iload hb (z_dec dL_law24 58 rfl) 5 rfl ?_
  refine zz_icmp_eq (tgt := 2709) hb (z_dec dL_law24 59 rfl) (by decide) (fun c => ?_) (fun c => absurd ht c)
  refine zz_iload hb (z_dec dL_law25 2 rfl) 5 rfl ?_
  refine zz_if_ne (tgt := 2726) hb (z_dec dL_law25 3 rfl) (by decide) (fun ce => ?_) (fun ce => ?_)
  · refine zz_goto (tgt := 2798) hb (z_dec dL_law25 13 rfl) (by decide) ?_
    refine zz_sub [0, 1, 2, 3, 4] (L' := [(0, .ref 2000), (1, .ref 0), (2, .ref 312), (3, .ref 319), (4, .int i)]) rfl ?_
    exact kN
  · refine zz_aload_n hb (z_dec dL_law25 4 rfl) rfl 3 rfl ?_
    refine zz_iconst (v := 0) hb (z_dec dL_law25 5 rfl) (by decide) ?_
    refine zz_lald (j := 0) hb ho rfl (show vp_in 0 1 from zin rfl) (z_dec dL_law25 6 rfl) ?_
    refine zz_iload hb (z_dec dL_law25 7 rfl) 6 rfl ?_
    refine zz_i2l hb (z_dec dL_law25 8 rfl) ?_
    refine zz_lcmp hb (z_dec dL_law25 9 rfl) ?_
    refine zz_if_eq (tgt := 2726) hb (z_dec dL_law25 10 rfl) (by decide) (fun c => ?_) (fun c => absurd (by rw [hf ce]; exact lg_cmp_self _) c)
    refine zz_goto (tgt := 2798) hb (z_dec dL_law25 13 rfl) (by decide) ?_
    refine zz_sub [0, 1, 2, 3, 4] (L' := [(0, .ref 2000), (1, .ref 0), (2, .ref 312), (3, .ref 319), (4, .int i)]) rfl ?_
    exact kN
/-- writeLetters -/
theorem lc_62 (hK : zKl K b L xs Z) (hx : isT (kw K) 10 0) (hm : isT (kw K) 11 312) (ho : isT (kw K) 23 319) {u : Nat × Nat} {I : zM} {i : Int32}  {mc : Nat × Nat} {P1 : Option Value → zM → Prop} (m1 : CT (kG K) (kw K) (kl K) (yX10_writeLetters, cX10_writeLetters, 4, some .int) 1 mc [.ref 0] I P1 nX) (m2 : ∀ v J, P1 v J → ∃ f J2, v = some (.int f) ∧ CT (kG K) (kw K) (kl K) (yX11_writeLetters, cX11_writeLetters, 4, some .int) 3 (0, 0) [.ref 312] J (qE f J2) nX ∧ ZZ K (u.1 + mc.1, u.2 + mc.2) 2798 [(0, .ref 2000), (1, .ref 0), (2, .ref 312), (3, .ref 319), (4, .int i)] [] J2) (hu : u.1 + mc.1 ≤ 601024 ∧ u.2 + mc.2 ≤ 7293034) : ZZ K u 2729 [(0, .ref 2000), (1, .ref 0), (2, .ref 312), (3, .ref 319), (4, .int i)] [] I := by
  have hb := hK.1
  have hnl := hK.2.2.1
  refine zz_aload_n hb (z_dec dL_law25 14 rfl) rfl 1 rfl ?_
  refine zl_inv (as := []) (d := 1) hK mkX10_writeLetters rfl ckX10 hx rfl hu rfl (rL_law 347 rfl) (rL_law 348 rfl) (rL_law 349 rfl) rfl (z_dec dL_law25 15 rfl) m1 (fun v J hv => ?_)
  obtain ⟨f, J2, rfl, m2, kN⟩ := m2 v J hv
  show ZZ K (u.1 + mc.1, u.2 + mc.2) 2733 [(0, .ref 2000), (1, .ref 0), (2, .ref 312), (3, .ref 319), (4, .int i)] [.int f] J
  refine zz_aload_n hb (z_dec dL_law25 16 rfl) rfl 2 rfl ?_
  refine zl_inv (as := []) (d := 3) (mc := (0, 0)) hK mkX11_writeLetters rfl ckX11 hm rfl hu rfl (rL_law 350 rfl) (rL_law 351 rfl) (rL_law 352 rfl) rfl (z_dec dL_law25 17 rfl) m2 (fun v9 J9 hv => ?_)
  obtain ⟨f9, rfl, e9, w9⟩ := hv
  have e9 := e9.symm
  subst e9
  have w9 := w9.symm
  subst w9
  show ZZ K (u.1 + mc.1, u.2 + mc.2) 2737 [(0, .ref 2000), (1, .ref 0), (2, .ref 312), (3, .ref 319), (4, .int i)] [.int f, .int f] J2
  refine zz_icmp_eq (tgt := 2798) hb (z_dec dL_law25 18 rfl) (by decide) (fun c => ?_) (fun c => absurd rfl c)
  exact kN
/-- outputByte -/
theorem lc_63 (hK : zKl K b L xs Z) (hx : isT (kw K) 10 0) (hm : isT (kw K) 11 312) (ho : isT (kw K) 23 319) {u : Nat × Nat} {I : zM} {i : Int32} {x1 : Int32} (h1 : vp_in (i + 1) L) (e1 : xs (i + 1).toNatClampNeg = x1) {mc : Nat × Nat} {P1 : Option Value → zM → Prop} (m1 : CTW (kG K) (kw K) (kl K) (yL_outputByte, cL_outputByte, 4, some .int) [(0, 9, 12, 29)] 7 mc [.ref 0, .int x1, .ref 319] I P1) (m2 : ∀ v J, P1 v J → ∃ e f J2, v = some (.int e) ∧ CT (kG K) (kw K) (kl K) (yX11_outputByte, cX11_outputByte, 2, some .int) 1 (0, 0) [.ref 312, .int x1] J (qE f J2) nX ∧ J2 312 9 = e ∧ (e = 0 → J2 319 0 = f) ∧ True ∧ ZZ K (u.1 + mc.1, u.2 + mc.2) 2798 [(0, .ref 2000), (1, .ref 0), (2, .ref 312), (3, .ref 319), (4, .int i)] [] J2) (hu : u.1 + mc.1 ≤ 601024 ∧ u.2 + mc.2 ≤ 7293034) : ZZ K u 2742 [(0, .ref 2000), (1, .ref 0), (2, .ref 312), (3, .ref 319), (4, .int i)] [] I := by
  have hb := hK.1
  have hnl := hK.2.2.1
  refine zz_aload_n hb (z_dec dL_law25 21 rfl) rfl 1 rfl ?_
  refine zz_aload_n hb (z_dec dL_law25 22 rfl) rfl 0 rfl ?_
  refine zz_iload hb (z_dec dL_law25 23 rfl) 4 rfl ?_
  refine zz_iconst (v := 1) hb (z_dec dL_law25 24 rfl) (by decide) ?_
  refine zz_iadd hb (z_dec dL_law25 25 rfl) ?_
  refine zl_sld hK h1 e1 (z_dec dL_law25 26 rfl) ?_
  refine zz_aload_n hb (z_dec dL_law25 27 rfl) rfl 3 rfl ?_
  refine zl_invW (as := [.ref 0, .int x1, .ref 319]) (d := 7) hK mkL_outputByte rfl rfl hu rfl rfl (rL_law 353 rfl) rfl (z_dec dL_law25 28 rfl) m1 (fun v J hv => ?_)
  obtain ⟨e, f, J2, rfl, m2, ht, hf, h01, kN⟩ := m2 v J hv
  show ZZ K (u.1 + mc.1, u.2 + mc.2) 2753 [(0, .ref 2000), (1, .ref 0), (2, .ref 312), (3, .ref 319), (4, .int i)] [.int e] J
  refine zz_istore (L' := [(0, .ref 2000), (1, .ref 0), (2, .ref 312), (3, .ref 319), (4, .int i), (5, .int e)]) hb (z_dec dL_law25 29 rfl) hnl rfl [1, 2, 3, 4, 5, 0] rfl ?_
  refine zz_aload_n hb (z_dec dL_law25 30 rfl) rfl 2 rfl ?_
  refine zz_aload_n hb (z_dec dL_law25 31 rfl) rfl 0 rfl ?_
  refine zz_iload hb (z_dec dL_law25 32 rfl) 4 rfl ?_
  refine zz_iconst (v := 1) hb (z_dec dL_law25 33 rfl) (by decide) ?_
  refine zz_iadd hb (z_dec dL_law25 34 rfl) ?_
  refine zl_sld hK h1 e1 (z_dec dL_law25 35 rfl) ?_
  refine zl_inv (as := [.int x1]) (d := 1) (mc := (0, 0)) hK mkX11_outputByte rfl ckX11 hm rfl hu rfl (rL_law 355 rfl) (rL_law 356 rfl) (rL_law 357 rfl) rfl (z_dec dL_law25 36 rfl) m2 (fun v9 J9 hv => ?_)
  obtain ⟨f9, rfl, e9, w9⟩ := hv
  have e9 := e9.symm
  subst e9
  have w9 := w9.symm
  subst w9
  show ZZ K (u.1 + mc.1, u.2 + mc.2) 2765 [(0, .ref 2000), (1, .ref 0), (2, .ref 312), (3, .ref 319), (4, .int i), (5, .int e)] [.int f] J2
  refine zz_istore (L' := [(0, .ref 2000), (1, .ref 0), (2, .ref 312), (3, .ref 319), (4, .int i), (5, .int e), (6, .int f)]) hb (z_dec dL_law25 37 rfl) hnl rfl [1, 2, 3, 4, 5, 6, 0] rfl ?_
  refine zz_aload_n hb (z_dec dL_law25 38 rfl) rfl 2 rfl ?_
  refine zl_inv (as := []) (d := 0) (mc := (0, 0)) hK mkX11_thrown rfl ckX11 hm rfl hu rfl (rL_law 11 rfl) (rL_law 12 rfl) (rL_law 13 rfl) rfl (z_dec dL_law25 39 rfl) (r_thrown hm) (fun v J9 hv => ?_)
  obtain ⟨f9, rfl, e9, w9⟩ := hv
  have e9 := e9.symm
  subst e9
  have w9 := w9.symm
  subst w9
  show ZZ K (u.1 + mc.1, u.2 + mc.2) 2771 [(0, .ref 2000), (1, .ref 0), (2, .ref 312), (3, .ref 319), (4, .int i), (5, .int e), (6, .int f)] [.int (J2 312 9)] J2
  refine zz_iload hb (z_dec dL_law25 40 rfl) 5 rfl ?_
  refine zz_icmp_eq (tgt := 2778) hb (z_dec dL_law25 41 rfl) (by decide) (fun c => ?_) (fun c => absurd ht c)
  refine zz_iload hb (z_dec dL_law25 44 rfl) 5 rfl ?_
  refine zz_if_ne (tgt := 2795) hb (z_dec dL_law25 45 rfl) (by decide) (fun ce => ?_) (fun ce => ?_)
  · refine zz_goto (tgt := 2798) hb (z_dec dL_law25 55 rfl) (by decide) ?_
    refine zz_sub [0, 1, 2, 3, 4] (L' := [(0, .ref 2000), (1, .ref 0), (2, .ref 312), (3, .ref 319), (4, .int i)]) rfl ?_
    exact kN
  · refine zz_aload_n hb (z_dec dL_law25 46 rfl) rfl 3 rfl ?_
    refine zz_iconst (v := 0) hb (z_dec dL_law25 47 rfl) (by decide) ?_
    refine zz_lald (j := 0) hb ho rfl (show vp_in 0 1 from zin rfl) (z_dec dL_law25 48 rfl) ?_
    refine zz_iload hb (z_dec dL_law25 49 rfl) 6 rfl ?_
    refine zz_i2l hb (z_dec dL_law25 50 rfl) ?_
    refine zz_lcmp hb (z_dec dL_law25 51 rfl) ?_
    refine zz_if_eq (tgt := 2795) hb (z_dec dL_law25 52 rfl) (by decide) (fun c => ?_) (fun c => absurd (by rw [hf ce]; exact lg_cmp_self _) c)
    refine zz_goto (tgt := 2798) hb (z_dec dL_law25 55 rfl) (by decide) ?_
    refine zz_sub [0, 1, 2, 3, 4] (L' := [(0, .ref 2000), (1, .ref 0), (2, .ref 312), (3, .ref 319), (4, .int i)]) rfl ?_
    exact kN
end LAC
