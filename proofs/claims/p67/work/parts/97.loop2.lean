/-! THE LAW'S LOOP: every round -/
section LLP
variable {K : zK} {u : Nat × Nat} {b Lz : Nat} {xs : Nat → Int32} {Z : lZ} {M : zM} {L D Lo : zBk} {n c t : Nat}
theorem f_count {G : zG} {w : Nat × Nat} {gl : Launch} (hx : isT w 10 0) (hs : isT w 9 288) (h : PR G M L n c t) : CT G w gl (yX10_finishedCount, cX10_finishedCount, 1, some .int) 1 (0, 0) [.ref 0] M (qE (nI (s_cnt (s_done (vB M 288)) n)) M) nX := by
  have hf := h.1.wfC
  have q := c_finishedCount (G := G) (w := w) (gl := gl) (I := M) (B := vB M 288) (cu := M 288 7) (n := n) hx hs hf.1 hf.2.1 (fun l hl => wf_0 hf hl)
  rw [sput_self, cnt_v h] at q
  exact q
theorem cnt_sp {I : zM} {X : zBk} {cu : Int32} (hn : n ≤ 12) : s_cnt (s_done (vB (sput I 288 X cu) 288)) n = s_cnt (s_done X) n := cnt_congr n (fun j hj => by
  have e : s_of (vB (sput I 288 X cu) 288) j 5 = s_of X j 5 := vB_sp (by omega)
  unfold s_done
  rw [e])
theorem l_loop (hK : zKl K b Lz xs Z) (hx : isT (kw K) 10 0) (hs : isT (kw K) 9 288) (ho : isT (kw K) 11 312) (hL : (gs (kG K)).1 ≤ 260) (hu : u.1 ≤ 600086 ∧ u.2 ≤ 7301442) (hend : ∀ (I : zM) (Lc : List (Nat × Value)), ZZ K u 189 Lc [.int 1] I) : ∀ (d i : Nat) (M : zM) (L Lo : zBk) (n c t : Nat), i + d = 24 → PR (kG K) M L n c t → oV M Lo → rdOK Lo L n → t ≤ 6 * i → ZZ K u 63 [(5, .int (nI i)), (4, .ref 312), (1, .ref 0), (0, .ref 1400)] [] M := by
  obtain ⟨hb, hown, hnl, hR, hE⟩ := id hK
  intro d
  induction d with
  | zero =>
    intro i M L Lo n c t hi hP hV hr ht
    refine zz_iload hb (z_dec dL_law 37 rfl) 0 rfl ?_
    refine zz_bipush (v := 24) hb (z_dec dL_law 38 rfl) (by decide) ?_
    refine zz_icmp_ge (tgt := 188) hb (z_dec dL_law 39 rfl) (by decide) (fun _ => ?_) (fun q => absurd (show (24 : Int32) ≤ nI i from nI_le (a := 24) (by omega) (by omega)) q)
    refine zz_iconst (v := 1) hb (z_dec dL_law 99 rfl) (by decide) ?_
    exact hend _ _
  | succ d ih =>
    intro i M L Lo n c t hi hP hV hr ht
    refine zz_iload hb (z_dec dL_law 37 rfl) 0 rfl ?_
    refine zz_bipush (v := 24) hb (z_dec dL_law 38 rfl) (by decide) ?_
    refine zz_icmp_ge (tgt := 188) hb (z_dec dL_law 39 rfl) (by decide) (fun q => absurd (show (24 : Int32) ≤ nI i from q) (Int32.not_le.mpr (nI_lt (b := 24) (by omega) (by omega)))) (fun _ => ?_)
    refine zz_aload_n hb (z_dec dL_law 40 rfl) rfl 3 rfl ?_
    refine zz_bipush (v := 21) hb (z_dec dL_law 41 rfl) (by decide) ?_
    refine zz_iload hb (z_dec dL_law 42 rfl) 0 rfl ?_
    refine zz_iadd hb (z_dec dL_law 43 rfl) ?_
    rw [show (21 : Int32) + nI i = nI (21 + i) from nI_add 21 i]
    refine zz_ldci hb hown (rL_law 15 rfl) (z_dec dL_law 44 rfl) ?_
    refine zl_invS (as := [.ref 1400, .int (nI (21 + i)), .int (nI 268435456)]) (d := 0) (mc := (0, 0)) hK mkL_pick rfl rfl ⟨hu.1, hu.2⟩ rfl (rL_law 3 rfl) (rL_law 4 rfl) rfl (z_dec dL_law 45 rfl) (e_pick hL (by omega) (by decide) (by decide)) (fun v J hp => ?_)
    obtain ⟨r9, rfl, rfl, rfl⟩ := hp
    have hz := pik_lt (G := kG K) (k := 21 + i) (n := 268435456) (by decide)
    generalize pik (kG K) (21 + i) 268435456 = z at *
    refine zz_istore (L' := [(6, .int (nI z)), (5, .int (nI i)), (4, .ref 312), (1, .ref 0), (0, .ref 1400)]) hb (z_dec dL_law 46 rfl) hnl rfl [0, 1, 2, 3, 4] rfl ?_
    have dv : nI z / (4194304 : Int32) = nI (z / 4194304) := pk_div (by omega) (by decide) (by decide)
    have md : nI (z / 4194304) - nI (z / 4194304) / (6 : Int32) * (6 : Int32) = nI (z / 4194304 % 6) := pk_rem (by omega) (by decide) (by decide)
    -- behind the change
    have k98 : ∀ (J : zM) (D : zBk) (n' : Nat), PR (kG K) J D n' c t → oV J Lo → rdOK Lo D n' → ZZ K u 98 [(6, .int (nI z)), (5, .int (nI i)), (4, .ref 312), (1, .ref 0), (0, .ref 1400)] [] J := fun J D n' hJ hVJ hrd => by
      have hO := hJ.1
      have hf := hO.1
      have h8 : vB J 288 8 = nI n' := hO.wfC.1
      have m1 := e_read (G := kG K) (w := kw K) (gl := kl K) (I := J) (L := Lo) (n := n') hx hs ho h8 hf.2.1
      rw [read_eq hO.2.2.2.2.2.1 hrd.1 hrd.2.1 hrd.2.2.1 hrd.2.2.2, oV_self hVJ] at m1
      refine zz_aload hb (z_dec dL_law 55 rfl) 2 rfl ?_
      refine zl_inv (as := []) (d := 8) (mc := (0, 0)) hK mkX11_read rfl ckX11 ho rfl ⟨hu.1, hu.2⟩ rfl (rL_law 18 rfl) (rL_law 19 rfl) (rL_law 20 rfl) rfl (z_dec dL_law 56 rfl) m1 (fun v J1 hp => ?_)
      obtain ⟨rfl, rfl⟩ := hp
      have hP1 := PR_op (D := D) hJ
      have hV1 := oV_put J D
      have hu1 := urg_ok hf hO.2.2.2.1 hJ.2.2.2.2.2.2
      have m2 := e_agrees (G := kG K) (w := kw K) (gl := kl K) (I := J) (L := D) hx hs ho hL hO hJ.2.2.2.1 hu1 (sum_0 hJ.2.2.2.2.2.1)
      refine zz_aload hb (z_dec dL_law 57 rfl) 2 rfl ?_
      refine zl_inv (as := []) (d := 11) (mc := (0, 0)) hK mkX11_agrees rfl ckX11 ho rfl ⟨hu.1, hu.2⟩ rfl (rL_law 21 rfl) (rL_law 22 rfl) (rL_law 23 rfl) rfl (z_dec dL_law 58 rfl) m2 (fun v J1 hp => ?_)
      obtain ⟨r9, rfl, rfl, rfl⟩ := hp
      refine zz_if_ne (tgt := 113) hb (z_dec dL_law 59 rfl) (by decide) (fun _ => ?_) (fun q => absurd q (by decide))
      refine zz_iconst (v := 1) hb (z_dec dL_law 62 rfl) (by decide) ?_
      refine zz_iload hb (z_dec dL_law 63 rfl) 0 rfl ?_
      refine zz_ldci hb hown (rL_law 24 rfl) (z_dec dL_law 64 rfl) ?_
      refine zz_idiv hb (z_dec dL_law 65 rfl) (by decide) ?_
      rw [dv]
      refine zz_bipush (v := 6) hb (z_dec dL_law 66 rfl) (by decide) ?_
      refine zz_irem hb (z_dec dL_law 67 rfl) (by decide) ?_
      rw [md]
      refine zz_iadd hb (z_dec dL_law 68 rfl) ?_
      rw [show (1 : Int32) + nI (z / 4194304 % 6) = nI (1 + z / 4194304 % 6) from nI_add 1 _]
      have hk1 : 1 ≤ 1 + z / 4194304 % 6 := by omega
      have hk6 : 1 + z / 4194304 % 6 ≤ 6 := by omega
      generalize 1 + z / 4194304 % 6 = k at *
      generalize hM1 : oput J D = M1 at *
      refine zz_istore (L' := (7, .int (nI k)) :: [(6, .int (nI z)), (5, .int (nI i)), (4, .ref 312), (1, .ref 0), (0, .ref 1400)]) hb (z_dec dL_law 69 rfl) hnl rfl [0, 1, 2, 3, 4, 5] rfl ?_
      refine zz_aload_n hb (z_dec dL_law 70 rfl) rfl 4 rfl ?_
      refine zl_inv (as := []) (d := 1) (mc := (0, 0)) hK mkX10_finishedCount rfl ckX10 hx rfl ⟨hu.1, hu.2⟩ rfl (rL_law 25 rfl) (rL_law 26 rfl) (rL_law 27 rfl) rfl (z_dec dL_law 71 rfl) (f_count hx hs hP1) (fun v J1 hp => ?_)
      obtain ⟨r9, rfl, rfl, hJ1⟩ := hp
      rw [hJ1]
      clear hJ1
      generalize hv0 : nI (s_cnt (s_done (vB M1 288)) n') = v0 at *
      refine zz_istore (L' := (8, .int v0) :: (7, .int (nI k)) :: [(6, .int (nI z)), (5, .int (nI i)), (4, .ref 312), (1, .ref 0), (0, .ref 1400)]) hb (z_dec dL_law 72 rfl) hnl rfl [0, 1, 2, 3, 4, 5, 6] rfl ?_
      refine zz_iconst (v := nI 0) hb (z_dec dL_law 73 rfl) (by decide) ?_
      refine zz_istore (L' := (9, .int (nI 0)) :: (8, .int v0) :: (7, .int (nI k)) :: [(6, .int (nI z)), (5, .int (nI i)), (4, .ref 312), (1, .ref 0), (0, .ref 1400)]) hb (z_dec dL_law 74 rfl) hnl rfl [0, 1, 2, 3, 4, 5, 6, 7] rfl ?_
      have hO1 := hP1.1
      have hsim0 : sim M1 D n' := sim_of hO1.2.2.2.2.2.1
      -- the law's minutes
      have lp : ∀ e j, j + e = k → ZZ K u 134 ((9, .int (nI j)) :: (8, .int v0) :: (7, .int (nI k)) :: [(6, .int (nI z)), (5, .int (nI i)), (4, .ref 312), (1, .ref 0), (0, .ref 1400)]) [] (oput M1 (s_mins D n' j)) := by
        intro e
        induction e with
        | zero =>
          intro j hj
          obtain rfl : j = k := by omega
          refine zz_iload hb (z_dec dL_law 75 rfl) 0 rfl ?_
          refine zz_iload hb (z_dec dL_law 76 rfl) 2 rfl ?_
          refine zz_icmp_ge (tgt := 152) hb (z_dec dL_law 77 rfl) (by decide) (fun _ => ?_) (fun q => absurd (Int32.le_refl _) q)
          have hP2 := PR_op (D := s_mins D n' j) hP1
          have hV2 := oV_put M1 (s_mins D n' j)
          have ec : vB (oput M1 (s_mins D n' j)) 288 = vB (oput M1 (s_mins D n' j)) 288 := rfl
          generalize hM2 : oput M1 (s_mins D n' j) = M2 at *
          have e0 : nI (s_cnt (s_done (vB M2 288)) n') = v0 := by
            rw [← hv0, ← hM2]
            congr 1
            exact cnt_congr n' (fun x hx => by
              have hn9 := hf.2.1
              have e : s_of (vB (oput M1 (s_mins D n' j)) 288) x 5 = s_of (vB M1 288) x 5 := vB_op (by omega)
              unfold s_done
              rw [e])
          obtain ⟨a, ha, ha6⟩ := hP2.2.1
          obtain ⟨m, hm, hm6⟩ := hP2.2.2.1
          have kq := hP2.kq ha ha6 hm hm6
          have hf9 : vB M2 288 9 = nI t := wf_9 hP2.1.wfC
          have ff : ff_pass (vB M2 288) (nI j) = 1003 := by
            unfold ff_pass
            rw [if_pos (show s_in (nI j) 1 300 = true from in_nat (v := j) (lo := 1) (hi := 300) (by omega) (by omega) (by omega)), hf9, nI_add, if_pos (show nI (t + j) ≤ (2000 : Int32) from nI_le (a := t + j) (b := 2000) (by omega) (by omega))]
          have m3 := (d_pass (G := kG K) (w := kw K) (gl := kl K) (x := nI j) hx kq rfl ff)
          rw [nI_clamp (show j < 2 ^ 31 by omega)] at m3
          refine zz_aload_n hb (z_dec dL_law 82 rfl) rfl 6 rfl ?_
          refine zz_iload hb (z_dec dL_law 83 rfl) 2 rfl ?_
          refine zl_inv (as := [.int (nI j)]) (d := 7) (mc := (0, 0)) hK mkX10_pass rfl ckX10 hx rfl ⟨hu.1, hu.2⟩ rfl (rL_law 31 rfl) (rL_law 32 rfl) (rL_law 33 rfl) rfl (z_dec dL_law 84 rfl) m3 (fun v J1 hp => ?_)
          obtain ⟨-, r9, rfl, rfl, rfl⟩ := hp
          refine zz_istore (L' := (9, .int (nI (s_cnt (s_done (s_mins (vB M2 288) n' j)) n') - nI (s_cnt (s_done (vB M2 288)) n'))) :: (8, .int v0) :: (7, .int (nI j)) :: [(6, .int (nI z)), (5, .int (nI i)), (4, .ref 312), (1, .ref 0), (0, .ref 1400)]) hb (z_dec dL_law 85 rfl) hnl rfl [0, 1, 2, 3, 4, 5, 6, 7] rfl ?_
          have hP3 := PR_mins (k := j) hP2 (by omega) ha hm hm6
          have hV3 : oV (sput (kp M2 n' c a) 288 (s_mins (vB M2 288) n' j) (s_cur (s_mins (vB M2 288) n' j))) (s_mins D n' j) := oV_chg hV2
          have ecnt := cnt_sp (n := n') (I := kp M2 n' c a) (X := s_mins (vB M2 288) n' j) (cu := s_cur (s_mins (vB M2 288) n' j)) hf.2.1
          generalize sput (kp M2 n' c a) 288 (s_mins (vB M2 288) n' j) (s_cur (s_mins (vB M2 288) n' j)) = M3 at *
          have hO3 := hP3.1
          have m4 := e_agrees (G := kG K) (w := kw K) (gl := kl K) (I := M3) (L := s_mins D n' j) hx hs ho hL hO3 hP3.2.2.2.1 (urg_ok hO3.1 hO3.2.2.2.1 hP3.2.2.2.2.2.2) (sum_0 hP3.2.2.2.2.2.1)
          rw [oV_self hV3] at m4
          refine zz_aload hb (z_dec dL_law 86 rfl) 5 rfl ?_
          refine zl_inv (as := []) (d := 11) (mc := (0, 0)) hK mkX11_agrees rfl ckX11 ho rfl ⟨hu.1, hu.2⟩ rfl (rL_law 21 rfl) (rL_law 22 rfl) (rL_law 23 rfl) rfl (z_dec dL_law 87 rfl) m4 (fun v J1 hp => ?_)
          obtain ⟨r9, rfl, rfl, rfl⟩ := hp
          refine zz_if_eq (tgt := 180) hb (z_dec dL_law 88 rfl) (by decide) (fun q => absurd q (by decide)) (fun _ => ?_)
          refine zz_aload_n hb (z_dec dL_law 89 rfl) rfl 6 rfl ?_
          refine zl_inv (as := []) (d := 1) (mc := (0, 0)) hK mkX10_finishedCount rfl ckX10 hx rfl ⟨hu.1, hu.2⟩ rfl (rL_law 25 rfl) (rL_law 26 rfl) (rL_law 27 rfl) rfl (z_dec dL_law 90 rfl) (f_count hx hs hP3) (fun v J1 hp => ?_)
          obtain ⟨r9, rfl, rfl, rfl⟩ := hp
          refine zz_iload hb (z_dec dL_law 91 rfl) 1 rfl ?_
          refine zz_iload hb (z_dec dL_law 92 rfl) 0 rfl ?_
          refine zz_iadd hb (z_dec dL_law 93 rfl) ?_
          refine zz_icmp_eq (tgt := 182) hb (z_dec dL_law 94 rfl) (by decide) (fun _ => ?_) (fun q => absurd (by rw [ecnt, e0, sub_back]) q)
          refine zz_iinc (v := nI (i + 1)) (L' := [(5, .int (nI (i + 1))), (4, .ref 312), (1, .ref 0), (0, .ref 1400)]) hb (z_dec dL_law 97 rfl) 4 rfl (nI_1 i) hnl rfl [0, 5, 6, 7] rfl ?_
          refine zz_goto (tgt := 63) hb (z_dec dL_law 98 rfl) (by decide) ?_
          exact ih (i + 1) _ _ _ n' c (t + j) (by omega) hP3 hV3 rdOK.rf (by omega)
        | succ e ihe =>
          intro j hj
          have hfj := wf_mins hf j (by omega)
          have hsj : sim M1 (s_mins D n' j) n' := hsim0.cg (fun x hx => lo_mins hf j (by omega) x hx) (fun l hl f hf => f_mins j l f hf)
          have hnj := num_mins hf hO.2.2.2.1 j (by omega)
          have hij := inv_mins hf hO.2.2.1 hJ.2.2.2.2 j (by omega)
          have m3 := e_pass (G := kG K) (w := kw K) (gl := kl K) (I := M1) (L := s_mins D n' j) hx hs ho hL hfj hsj (setL_mins hf hJ.2.2.2.1 j (by omega)) (urg_ok hfj hnj hij.2.2) (pos_mins hO.2.2.1 n' j) hij.1.2
          refine zz_iload hb (z_dec dL_law 75 rfl) 0 rfl ?_
          refine zz_iload hb (z_dec dL_law 76 rfl) 2 rfl ?_
          refine zz_icmp_ge (tgt := 152) hb (z_dec dL_law 77 rfl) (by decide) (fun q => absurd q (Int32.not_le.mpr (nI_lt (by omega) (by omega)))) (fun _ => ?_)
          refine zz_aload hb (z_dec dL_law 78 rfl) 5 rfl ?_
          refine zl_inv (as := []) (d := 11) (mc := (0, 0)) hK mkX11_pass rfl ckX11 ho rfl ⟨hu.1, hu.2⟩ rfl (rL_law 28 rfl) (rL_law 29 rfl) (rL_law 30 rfl) rfl (z_dec dL_law 79 rfl) m3 (fun v J1 hp => ?_)
          obtain ⟨rfl, rfl⟩ := hp
          refine zz_iinc (v := nI (j + 1)) (L' := (9, .int (nI (j + 1))) :: (8, .int v0) :: (7, .int (nI k)) :: [(6, .int (nI z)), (5, .int (nI i)), (4, .ref 312), (1, .ref 0), (0, .ref 1400)]) hb (z_dec dL_law 80 rfl) 0 rfl (nI_1 j) hnl rfl [0, 1, 2, 3, 4, 5, 6, 7] rfl ?_
          refine zz_goto (tgt := 134) hb (z_dec dL_law 81 rfl) (by decide) ?_
          exact ihe (j + 1) (by omega)
      have z0 := lp k 0 (by omega)
      have e00 : oput M1 (s_mins D n' 0) = M1 := by rw [← hM1]; exact oput_oput
      rw [e00] at z0
      exact z0
    refine zz_iload hb (z_dec dL_law 47 rfl) 0 rfl ?_
    refine zz_bipush (v := 9) hb (z_dec dL_law 48 rfl) (by decide) ?_
    refine zz_irem hb (z_dec dL_law 49 rfl) (by decide) ?_
    rw [show nI z - nI z / (9 : Int32) * (9 : Int32) = nI (z % 9) from pk_rem (by omega) (by decide) (by decide)]
    refine zz_iconst (v := 5) hb (z_dec dL_law 50 rfl) (by decide) ?_
    refine zz_icmp_ge (tgt := 98) hb (z_dec dL_law 51 rfl) (by decide) (fun _ => k98 _ L n hP hV hr) (fun q => ?_)
    have h9 : z % 9 < 5 := by
      by_cases h : z % 9 < 5
      · exact h
      · exact absurd (show (5 : Int32) ≤ nI (z % 9) from nI_le (a := 5) (by omega) (by omega)) q
    refine zz_aload_n hb (z_dec dL_law 52 rfl) rfl 3 rfl ?_
    refine zz_iload hb (z_dec dL_law 53 rfl) 0 rfl ?_
    refine zl_invS (as := [.ref 0, .int (nI z)]) (d := 8) (mc := (0, 0)) hK mkL_act rfl rfl ⟨hu.1, hu.2⟩ rfl (rL_law 16 rfl) (rL_law 17 rfl) rfl (z_dec dL_law 54 rfl) (e_act hx hs hP (by omega) hV hz h9) (fun v J hp => ?_)
    obtain ⟨rfl, D, n', hJ, hVJ, hnn, hrd⟩ := hp
    exact k98 J D n' hJ hVJ (hr.tr hnn hrd)
end LLP
