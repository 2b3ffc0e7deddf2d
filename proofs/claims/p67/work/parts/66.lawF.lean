/-! THE LAW'S OFFICE: it agrees with the class where both hold the same -/
section LAWF
variable {G : zG} {w : Nat × Nat} {gl : Launch} {I : zM} {L : zBk} {n c t : Nat} {cu : Int32}
theorem CT.val {M : zMt} {d : Nat} {as : List Value} {J : zM} {x y : Int32} (h : CT G w gl M d (0, 0) as J (qE x J) nX) (e : x = y) : CT G w gl M d (0, 0) as J (qE y J) nX := by rw [← e]; exact h
theorem sim_of (h : s_eq n L (vB I 288)) : sim I L n := ⟨fun k hk => h.1 k (by omega), fun l hl f hf => h.2 l hl f (by omega)⟩
theorem e_agrees (hx : isT w 10 0) (hs : isT w 9 288) (ho : isT w 11 312) (hL : (gs G).1 ≤ 260) (hO : oR L (vB I 288) (I 288 7) n c t) (hS : setL G L) (hu : urgOK L n) (hz : L 9 - L 18 - L 19 - L 20 - L 21 = 0) : CT G w gl (yX11_agrees, cX11_agrees, 3, some .boolean) 11 (0, 0) [.ref 312] (oput I L) (qE 1 (oput I L)) nX := by
  refine ct_of (by decide) [(0, .ref 312)] rfl rfl (fun K hG hw hgl hwo hK => ?_)
  subst hG; subst hw; subst hgl
  have hf : s_wf L n c t := hO.1
  have hfB := hO.wfC
  have hE : s_eq n L (vB I 288) := hO.2.2.2.2.2.1
  have hm : sim I L n := sim_of hE
  have hcu := hO.curC
  have hcuL : I 288 7 = s_cur L := hO.2.2.2.2.2.2.2.1
  have hn := hf.2.1
  have h8 := hm.h8 hf.1
  have q : ∀ k : Nat, (oput I L) 288 k = I 288 k := fun k => by rw [opO (by omega)]
  -- a number of the office that is asked
  have ask : ∀ (y : MethodName) (cc : ByteArray) (k j x : Nat), CT (kG K) (kw K) (kl K) (y, cc, 1, some .int) 0 (0, 0) [.ref 0] (oput I L) (qE (oput I L 288 k) (oput I L)) nX → I 288 k = vB I 288 j → j < 22 → oput I L 312 x = L j → CT (kG K) (kw K) (kl K) (y, cc, 1, some .int) 0 (0, 0) [.ref 0] (oput I L) (qE (oput I L 312 x) (oput I L)) nX := fun y cc k j x h e hj ex =>
    h.val (by rw [q, e, ex]; exact hE.1 j hj)
  obtain ⟨p0, hp0, ep0⟩ := hf.2.2.2.2.2.2.2.2.1
  have epB : s_pol (vB I 288) = p0 := by unfold s_pol; rw [hE.1 0 (by omega), ep0]; exact nI_clamp (by omega)
  -- the end
  have k273 : ZZ K (0, 0) 273 [(0, .ref 312), (1, .int (nI (s_cnt (s_open L) n))), (2, .int (nI 5))] [.int (L 11), .int (L 11)] (oput I L) := by
    refine bX11_agrees_273 (f3 := oput I L 312 9) (g3 := oput I L) (f5 := oput I L 312 12) (g5 := oput I L) (f8 := oput I L 312 13) (g8 := oput I L) (f11 := oput I L 312 14) (g11 := oput I L) (f14 := oput I L 312 15) (g14 := oput I L) (f17 := oput I L 312 16) (g17 := oput I L) (f19 := s_select L n p0) (g19 := oput I L) (f20 := nI p0) (g20 := oput I L) (f21 := s_select L n p0) (g21 := oput I L) (f24 := 0) (g24 := oput I L) hK hwo ho
      (h2 := fun z => absurd rfl z) (m3 := fun _ => ?_) (m5 := fun _ _ => ?_) (h7 := fun _ _ z => absurd rfl z) (m8 := fun _ _ _ => ?_) (h10 := fun _ _ _ z => absurd rfl z) (m11 := fun _ _ _ _ => ?_) (h13 := fun _ _ _ _ z => absurd rfl z) (m14 := fun _ _ _ _ _ => ?_) (h16 := fun _ _ _ _ _ z => absurd rfl z) (m17 := fun _ _ _ _ _ _ => ?_) (m19 := fun _ _ _ _ _ _ _ => ?_) (m20 := fun _ _ _ _ _ _ _ => ?_) (m21 := fun _ _ _ _ _ _ _ => ?_) (h23 := fun _ _ _ _ _ _ _ z => absurd rfl z) (m24 := fun _ _ _ _ _ _ _ _ => ?_) (h26 := fun _ _ _ _ _ _ _ _ z => absurd rfl z) (h27 := fun _ _ _ _ _ _ _ _ _ => qE_i rfl rfl) (h28 := fun _ _ _ _ _ _ z => absurd rfl z) (h29 := fun _ z => absurd rfl z)
    · exact ask _ _ 9 12 9 (c_runLength hx) rfl (by omega) op9
    · exact ask _ _ 12 15 12 (c_handOverLeft hx) rfl (by omega) op12
    · exact ask _ _ 13 16 13 (c_blots hx) rfl (by omega) op13
    · exact ask _ _ 14 17 14 (c_handOvers hx) rfl (by omega) op14
    · exact ask _ _ 15 18 15 (c_writtenMinutes hx) rfl (by omega) op15
    · exact ask _ _ 16 19 16 (c_idleMinutes hx) rfl (by omega) op16
    · exact (u_selectedLetter (L := L) hx hs hcu hfB).val (by rw [epB]; exact eq_select hE hf p0)
    · exact (c_policy hx).val (by rw [q]; exact (hE.1 0 (by omega)).trans ep0)
    · exact (u_selectedBy (L := L) hx hs hcu hfB hp0).val (eq_select hE hf p0)
    · refine (c_inconsistencies hx).val ?_
      rw [q, q, q, q, q]
      show vB I 288 9 - vB I 288 18 - vB I 288 19 - vB I 288 20 - vB I 288 21 = 0
      rw [hE.1 9 (by omega), hE.1 18 (by omega), hE.1 19 (by omega), hE.1 20 (by omega), hE.1 21 (by omega)]
      exact hz
  -- the five policies
  have k139 : ∀ d p, p + d = 5 → ZZ K (0, 0) 139 [(0, .ref 312), (1, .int (nI (s_cnt (s_open L) n))), (2, .int (nI p))] [] (oput I L) := by
    intro d
    induction d with
    | zero =>
      intro p hp
      obtain rfl : p = 5 := by omega
      have hlt : (4 : Int32) < nI 5 := by decide
      refine bX11_agrees_139 (f2 := nI (s_cnt (s_open L) n)) (g2 := oput I L) (f5 := oput I L 312 6) (g5 := oput I L) (f8 := oput I L 312 7) (g8 := oput I L) (f11 := s_cur L) (g11 := oput I L) (f12 := s_cur L) (g12 := oput I L) (f15 := oput I L 312 10) (g15 := oput I L) (f18 := oput I L 312 11) (g18 := oput I L) (f20 := L 11) (g20 := oput I L) (f25 := 0) (g25 := I) (f26 := 0) (g26 := I) hK hwo ho
        (m2 := fun _ => ?_) (h4 := fun _ z => absurd rfl z) (m5 := fun _ _ => ?_) (h7 := fun _ _ z => absurd rfl z) (m8 := fun _ _ _ => ?_) (h10 := fun _ _ _ z => absurd rfl z) (m11 := fun _ _ _ _ => ?_) (m12 := fun _ _ _ _ => ?_) (h14 := fun _ _ _ _ z => absurd rfl z) (m15 := fun _ _ _ _ _ => ?_) (h17 := fun _ _ _ _ _ z => absurd rfl z) (m18 := fun _ _ _ _ _ _ => ?_) (m20 := fun _ _ _ _ _ _ _ => ?_) (k22 := fun _ _ _ _ _ _ _ _ => ?_) (k23 := fun _ _ _ _ _ _ _ z => ?_) (h24 := fun _ _ _ _ _ _ z => absurd rfl z) (m25 := fun z => absurd hlt z) (m26 := fun z => absurd hlt z) (k28 := fun z => absurd hlt z) (h29 := fun z => absurd hlt z)
      · exact (u_readyCount (L := L) hx hs hfB).val (congrArg nI (cnt_congr n (fun l hl => eq_open hE hl)))
      · exact ask _ _ 4 9 6 (c_minute hx) rfl (by omega) op6
      · exact ask _ _ 6 10 7 (c_holder hx) rfl (by omega) op7
      · exact (c_currentLetter hx).val (by rw [q]; exact hcuL)
      · exact e_current ho hf
      · exact ask _ _ 10 13 10 (c_ink hx) rfl (by omega) op10
      · exact ask _ _ 11 14 11 (c_refillLeft hx) rfl (by omega) op11
      · exact (c_lastLetter hx).val (by rw [q]; exact hE.1 11 (by omega))
      · rw [op8]; exact k273
      · rw [op8] at z
        have e : L 11 = -1 := by
          rcases hf.2.2.2.2.2.1 with h | ⟨l, hl, h, -⟩
          · exact h
          · exact absurd (by rw [h]; exact nI_pos' (by omega)) z
        have z2 := k273
        rw [e] at z2 ⊢
        exact z2
    | succ d ih =>
      intro p hp
      have hge : ¬ (4 : Int32) < nI p := by
        have : nI p ≤ nI 4 := nI_le (by omega) (by omega)
        exact Int32.not_lt.mpr this
      refine bX11_agrees_139 (f2 := 0) (g2 := I) (f5 := 0) (g5 := I) (f8 := 0) (g8 := I) (f11 := 0) (g11 := I) (f12 := 0) (g12 := I) (f15 := 0) (g15 := I) (f18 := 0) (g18 := I) (f20 := 0) (g20 := I) (f25 := s_select L n p) (g25 := oput I L) (f26 := s_select L n p) (g26 := oput I L) hK hwo ho
        (m2 := fun z => absurd z hge) (h4 := fun z => absurd z hge) (m5 := fun z => absurd z hge) (h7 := fun z => absurd z hge) (m8 := fun z => absurd z hge) (h10 := fun z => absurd z hge) (m11 := fun z => absurd z hge) (m12 := fun z => absurd z hge) (h14 := fun z => absurd z hge) (m15 := fun z => absurd z hge) (h17 := fun z => absurd z hge) (m18 := fun z => absurd z hge) (m20 := fun z => absurd z hge) (k22 := fun z => absurd z hge) (k23 := fun z => absurd z hge) (h24 := fun z => absurd z hge) (m25 := fun _ => ?_) (m26 := fun _ => ?_) (k28 := fun _ _ => ?_) (h29 := fun _ z => absurd rfl z)
      · exact (u_selectedBy (L := L) hx hs hcu hfB (by omega)).val (eq_select hE hf p)
      · exact e_select hx hs ho hL hf hm hS hu (by omega)
      · rw [nI_1]; exact ih (p + 1) (by omega)
  -- the letters
  have k4 : ∀ d i, i + d = n → ZZ K (0, 0) 4 [(0, .ref 312), (1, .int (nI (s_cnt (s_open L) i))), (2, .int (nI i))] [] (oput I L) := by
    intro d
    induction d with
    | zero =>
      intro i hi
      obtain rfl : i = n := by omega
      have h : oput I L 312 5 ≤ nI i := by rw [op5, hf.1]; exact nI_le (by omega) (by omega)
      refine bX11_agrees_4 (f3 := 0) (g3 := I) (f7 := 0) (g7 := I) (f11 := 0) (g11 := I) (f12 := 0) (g12 := I) (f15 := 0) (g15 := I) (f16 := 0) (g16 := I) (f18 := 0) (g18 := I) (f19 := 0) (g19 := I) (f20 := 0) (g20 := I) (f21 := 0) (g21 := I) (f24 := 0) (g24 := I) hK hwo ho (k2 := fun _ => ?_) (m3 := fun z => absurd h z) (h4 := fun z => absurd h z) (h6 := fun z => absurd h z) (m7 := fun z => absurd h z) (h8 := fun z => absurd h z) (h10 := fun z => absurd h z) (m11 := fun z => absurd h z) (m12 := fun z => absurd h z) (h14 := fun z => absurd h z) (m15 := fun z => absurd h z) (m16 := fun z => absurd h z) (m18 := fun z => absurd h z) (m19 := fun z => absurd h z) (m20 := fun z => absurd h z) (m21 := fun z => absurd h z) (h22 := fun z => absurd h z) (m24 := fun z => absurd h z) (k26 := fun z => absurd h z) (k27 := fun z => absurd h z) (h28 := fun z => absurd h z) (h29 := fun z => absurd h z)
      exact k139 5 0 (by omega)
    | succ d ih =>
      intro i hi
      have hk : i < n := by omega
      have h : ¬ oput I L 312 5 ≤ nI i := by rw [op5, hf.1]; exact nI_ge (by omega) (by omega)
      have i12 : vp_in (nI i) 12 := vp_in_nI (by omega) (by omega)
      have ci : (nI i).toNatClampNeg = i := nI_clamp (by omega)
      have eB : ∀ f, f < 8 → s_of (vB I 288) i f = s_of L i f := fun f hf => hE.2 i hk f hf
      have ag : CT (kG K) (kw K) (kl K) (yL_aging, cL_aging, 1, some .int) 1 (0, 0) [.ref 1400] (oput I L) (qE (L 5) (oput I L)) nX := (e_aging hL).val (hS 5 (by omega) (by omega)).symm
      have a0 : ¬ L 5 = 0 := fun e => by
        have h1 := wf_51 hf
        rw [e] at h1
        exact absurd h1 (by decide)
      refine bX11_agrees_4 (f3 := oput I L 313 (nI i).toNatClampNeg) (g3 := oput I L) (f7 := oput I L 314 (nI i).toNatClampNeg) (g7 := oput I L) (f11 := s_waited L i) (g11 := oput I L) (f12 := s_waited L i) (g12 := oput I L) (f15 := b2 (s_open L i)) (g15 := oput I L) (f16 := b2 (s_open L i)) (g16 := oput I L) (f18 := s_of L i 4 + s_waited L i / L 5) (g18 := oput I L) (f19 := s_of L i 4) (g19 := oput I L) (f20 := s_waited L i) (g20 := oput I L) (f21 := L 5) (g21 := oput I L) (f24 := b2 (s_open L i)) (g24 := oput I L) hK hwo ho
        (k2 := fun z => absurd z h) (m3 := fun _ => ?_) (h4 := fun _ => i12) (h6 := fun _ z => absurd rfl z) (m7 := fun _ _ => ?_) (h8 := fun _ _ => i12) (h10 := fun _ _ z => absurd rfl z) (m11 := fun _ _ _ => ?_) (m12 := fun _ _ _ => e_waited hx hs ho hf hm hk) (h14 := fun _ _ _ z => absurd rfl z) (m15 := fun _ _ _ _ => ?_) (m16 := fun _ _ _ _ => e_isReady hx hs ho hf hm hk) (m18 := fun _ _ _ _ _ => ?_) (m19 := fun _ _ _ _ _ => ?_) (m20 := fun _ _ _ _ _ => e_waited hx hs ho hf hm hk) (m21 := fun _ _ _ _ _ => ag) (h22 := fun _ _ _ _ _ => a0) (m24 := fun _ _ _ _ _ _ => e_isReady hx hs ho hf hm hk) (k26 := fun _ _ _ _ _ _ z => ?_) (k27 := fun _ _ _ _ _ _ z => ?_) (h28 := fun _ _ _ _ _ z => absurd rfl z) (h29 := fun _ _ _ _ z => absurd rfl z)
      · exact (u_remaining hx hs h8 hn hk).val (by rw [ci, opR (by omega)]; exact eB 5 (by omega))
      · exact (u_finishMinute hx hs h8 hn hk).val (by rw [ci, opN (by omega)]; exact eB 6 (by omega))
      · exact (u_waitingTime hx hs h8 hn hk).val (eq_waited hE hk)
      · exact (u_isReady hx hs h8 hn (fun l hl => wf_0 hfB hl) hk).val (congrArg b2 (eq_open hE hk))
      · exact (u_effectivePriority hx hs h8 hn (wf_51 hfB) hk).val (eq_urg hE hk)
      · exact (u_priority hx hs h8 hn hk).val (eB 4 (by omega))
      · have e := ih (i + 1) (by omega)
        rw [cnt_no (b2_0.mp z)] at e
        rw [Int32.add_zero, nI_1]
        exact e
      · have e := ih (i + 1) (by omega)
        rw [cnt_yes (b2_n0.mp z)] at e
        rw [nI_1, nI_1]
        exact e
  exact bX11_agrees_0 hK hwo ho (k4 n 0 (by omega))
end LAWF
