/-! THE REFERENCE: loading; the script's parser -/
def bF (F : zBk) : zBk := upd (upd F 5 0) 6 (-1)
def bI (I : zM) : zM := ups I 312 (bF (I 312))
theorem rb_hi {r : zRs} {f : zTk → zBk → zRs} {j : Nat} {x : Int32} (h : r.2.2 j = x) (hf : ∀ t C, C j = x → (f t C).2.2 j = x) : (rbind r f).2.2 j = x := by
  unfold rbind
  split
  · exact hf _ _ h
  · exact h
theorem semi_hi {b : zBk} {N j : Nat} {t : zTk} {B : zBk} : (rp_semi b N t B).2.2 j = B j := by rw [semi_B]
theorem clerk_hi {b : zBk} {N : Nat} {t : zTk} {B : zBk} {c j : Nat} (hc : c ≤ 6) (hj : 160 ≤ j) : (rp_clerk b N t B c).2.2 j = B j := by
  unfold rp_clerk
  by_cases c6 : c = 6
  · rw [if_pos c6]
  rw [if_neg c6]
  by_cases hs : tq_short (tq_nx b N t) = 0
  · rw [if_pos hs]
    have hl := (short0 hs).2
    split
    · refine rb_hi ?_ (fun t C h => ?_)
      · rw [semi_hi, nm_far _ (by omega), upd_ne _ _ (by omega)]
      · show upd C 7 (C 7 + 1) j = _
        rw [upd_ne _ _ (by omega)]; exact h
    · rfl
  · rw [if_neg hs]
theorem letter_hi {b : zBk} {N : Nat} {t : zTk} {B : zBk} {c n j : Nat} (hn : n ≤ 12) (hj : 160 ≤ j) : (rp_letter b N c t B n).2.2 j = B j := by
  unfold rp_letter
  by_cases c6 : n = 12
  · rw [if_pos c6]
  rw [if_neg c6]
  split
  · split
    · rfl
    · refine rb_hi (rng_ne (by omega)) (fun t C h => ?_)
      refine rb_hi ((rng_ne (by omega)).trans h) (fun t C h => ?_)
      refine rb_hi ((rng_ne (by omega)).trans h) (fun t C h => ?_)
      refine rb_hi ((rng_ne (by omega)).trans h) (fun t C h => ?_)
      refine rb_hi (semi_hi.trans h) (fun t C h => ?_)
      show s_add C n _ _ _ _ _ j = _
      unfold s_add s_set
      rw [upd_ne _ _ (by omega), upd_ne _ _ (by omega), upd_ne _ _ (by omega), upd_ne _ _ (by omega), upd_ne _ _ (by omega), upd_ne _ _ (by omega), upd_ne _ _ (by omega), upd_ne _ _ (by omega), upd_ne _ _ (by omega)]
      exact h
  · rfl
theorem letters_hi {b : zBk} {N c j : Nat} {x : Int32} (hj : 160 ≤ j) : ∀ k n (t : zTk) (B : zBk), n + k = 13 → B j = x → (rp_letters b N c k n t B).2.2 j = x
  | 0, _, _, _, _, h => h
  | k + 1, n, t, B, h1, h => by
    unfold rp_letters
    split
    · exact rb_hi ((letter_hi (by omega) hj).trans h) (fun t C h => letters_hi hj k (n + 1) t C (by omega) h)
    · split
      · exact h
      · exact h
theorem clerks_hi {b : zBk} {N j : Nat} {x : Int32} (hj : 160 ≤ j) : ∀ k c (t : zTk) (B : zBk), c + k = 7 → B j = x → (rp_clerks b N k c t B).2.2 j = x
  | 0, c, t, B, _, h => letters_hi hj 13 0 t B (by omega) h
  | k + 1, c, t, B, h1, h => by
    unfold rp_clerks
    split
    · exact rb_hi ((clerk_hi (by omega) hj).trans h) (fun t C h => clerks_hi hj k (c + 1) t C (by omega) h)
    · split
      · exact h
      · exact letters_hi hj 13 0 t B (by omega) h
theorem z_hi {B : zBk} {j : Nat} (hj : 160 ≤ j) : s_z B j = B j := by
  unfold s_z
  rw [upd_ne _ _ (by omega), upd_ne _ _ (by omega), if_neg (by omega)]
theorem setup_hi {b : zBk} {N j : Nat} {t : zTk} {B : zBk} (hj : 160 ≤ j) : (rp_setup b N t B).2.2 j = B j := by
  unfold rp_setup
  split
  · refine rb_hi ?_ (fun t C h => clerks_hi hj 7 0 t _ (by omega) ((upd_ne _ _ (by omega)).trans h))
    unfold rp_set
    refine rb_hi ((rng_ne (by omega)).trans (z_hi hj)) (fun t C h => ?_)
    refine rb_hi ((rng_ne (by omega)).trans h) (fun t C h => ?_)
    refine rb_hi ((rng_ne (by omega)).trans h) (fun t C h => ?_)
    refine rb_hi ((rng_ne (by omega)).trans h) (fun t C h => ?_)
    refine rb_hi ((rng_ne (by omega)).trans h) (fun t C h => ?_)
    refine rb_hi ((rng_ne (by omega)).trans h) (fun t C h => ?_)
    refine rb_hi ((rng_ne (by omega)).trans h) (fun t C h => ?_)
    exact semi_hi.trans h
  · exact z_hi hj
/-- the token with which a text begins -/
def t_beg (I : zM) (N : Nat) : zTk := tq_tk (I 315) N 0 (I 312 13)
def sp_cmd (b : zBk) (t : zTk) : Nat → Nat → Int32
  | 0, _ => -1
  | k + 1, i => if tq_isw b t (2 + i) = true then nI i else sp_cmd b t k (i + 1)
abbrev zSs : Type := Nat × zTk × (Nat → Int32)
def sp_args (b : zBk) (N : Nat) (B : zBk) (c cmd to : Nat) (t : zTk) (C : Nat → Int32) : zSs :=
  if cmd = 3 ∨ cmd = 4 then tq_anys b N 2 to t C
  else if cmd ≠ 0 then tq_anys b N 1 to t C
  else if tq_short t = 0 then (if tq_find B b t.2.1 (tq_ln t) 0 c = -1 then (3, t, upd C to (-1)) else tq_anys b N 4 (to + 1) (tq_nx b N t) (upd C to (tq_find B b t.2.1 (tq_ln t) 0 c)))
  else (tq_short t, t, C)
def sp_scr (b : zBk) (N : Nat) (B : zBk) (c : Nat) : Nat → Nat → zTk → (Nat → Int32) → zSs × Nat
  | 0, m, t, C => ((0, t, C), m)
  | k + 1, m, t, C => if t.1 = 0 then ((0, t, C), m) else if sp_cmd b t 6 0 = -1 then ((1, t, C), m) else if m < 30 then
      (if (sp_args b N B c (sp_cmd b t 6 0).toNatClampNeg (m * 6 + 1) (tq_nx b N t) (upd C (m * 6) (sp_cmd b t 6 0))).1 = 0 then
        (if (sp_args b N B c (sp_cmd b t 6 0).toNatClampNeg (m * 6 + 1) (tq_nx b N t) (upd C (m * 6) (sp_cmd b t 6 0))).2.1.1 = 3 then
          sp_scr b N B c k (m + 1) (tq_nx b N (sp_args b N B c (sp_cmd b t 6 0).toNatClampNeg (m * 6 + 1) (tq_nx b N t) (upd C (m * 6) (sp_cmd b t 6 0))).2.1) (sp_args b N B c (sp_cmd b t 6 0).toNatClampNeg (m * 6 + 1) (tq_nx b N t) (upd C (m * 6) (sp_cmd b t 6 0))).2.2
        else ((1, (sp_args b N B c (sp_cmd b t 6 0).toNatClampNeg (m * 6 + 1) (tq_nx b N t) (upd C (m * 6) (sp_cmd b t 6 0))).2), m))
      else (sp_args b N B c (sp_cmd b t 6 0).toNatClampNeg (m * 6 + 1) (tq_nx b N t) (upd C (m * 6) (sp_cmd b t 6 0)), m))
    else ((4, t, C), m)
theorem cmd_in {b : zBk} {t : zTk} : ∀ k i, sp_cmd b t k i = -1 ∨ ∃ j, i ≤ j ∧ j < i + k ∧ sp_cmd b t k i = nI j
  | 0, _ => Or.inl rfl
  | k + 1, i => by
    unfold sp_cmd
    by_cases h : tq_isw b t (2 + i) = true
    · rw [if_pos h]; exact Or.inr ⟨i, Nat.le_refl _, by omega, rfl⟩
    · rw [if_neg h]
      rcases cmd_in (b := b) (t := t) k (i + 1) with e | ⟨j, h1, h2, e⟩
      · exact Or.inl e
      · exact Or.inr ⟨j, by omega, by omega, e⟩
theorem anys_ok {b : zBk} {N : Nat} : ∀ k i (t : zTk) (C : Nat → Int32), tOK b N t → tOK b N (tq_anys b N k i t C).2.1
  | 0, _, _, _, h => h
  | k + 1, i, t, C, h => by
    unfold tq_anys
    split
    · exact anys_ok k (i + 1) _ _ (kT_nx h)
    · exact h
theorem args_ok {b : zBk} {N c cmd to : Nat} {B : zBk} {t : zTk} {C : Nat → Int32} (h : tOK b N t) : tOK b N (sp_args b N B c cmd to t C).2.1 := by
  unfold sp_args
  split
  · exact anys_ok _ _ _ _ h
  · split
    · exact anys_ok _ _ _ _ h
    · split
      · split
        · exact h
        · exact anys_ok _ _ _ _ (kT_nx h)
      · exact h
/-- the memory while a script is parsed -/
def mS (I : zM) (r : zSs) : zM := mR (bI (ups I 317 r.2.2)) (r.1, r.2.1, I 313)
section RSC
variable {G : zG} {w : Nat × Nat} {gl : Launch} {I : zM} {N : Nat}
theorem bI_312 : bI I 312 = bF (I 312) := ups_same _ _ _
theorem bI_ot {q : Nat} (h : q ≠ 312) : bI I q = I q := ups_ne _ _ h
theorem bI_B (h4 : I 312 4 = nI N) (hN : N ≤ 600) : rB (bI I) N := ⟨by rw [bI_312]; unfold bF; rw [upd_ne _ _ (by decide), upd_ne _ _ (by decide)]; exact h4, hN⟩
theorem bI_R {r : zRs} : mR (bI I) r = rM I (rF (bF (I 312)) r.1 r.2.1) r.2.2 := by
  unfold mR bI rM
  rw [ups_ups, ups_same]
theorem m_begin (hm : isT w 11 312) (h4 : I 312 4 = nI N) (hN : N ≤ 600) : CT G w gl (yX11_begin, cX11_begin, 1, none) 2 (0, 0) [.ref 312] I (qV (fun J => J = mR (bI I) (0, t_beg I N, I 313))) nX := by
  refine ct_of (by decide) [(0, .ref 312)] rfl rfl (fun K hG hw hgl hwo hK => ?_)
  subst hG; subst hw; subst hgl
  have e0 : up (up (up I 312 5 0) 312 6 (-1)) 312 10 0 = ups I 312 (upd (bF (I 312)) 10 0) := by
    simp only [up_def, ups_same, ups_ups]; rfl
  have mt := m_token (G := kG K) (w := kw K) (gl := kl K) (I := ups I 312 (upd (bF (I 312)) 10 0)) (N := N) (p := 0) hm (by rw [ups_same]; unfold bF; rw [upd_ne _ _ (by decide), upd_ne _ _ (by decide), upd_ne _ _ (by decide)]; exact h4) hN (by rw [ups_same, upd_same]; rfl) (by omega)
  refine bX11_begin_0 hK hwo hm (by rw [e0]; exact mt) (qV_i ?_)
  rw [bI_R, rt_tok, ups_same, ups_ups, u315]
  have e1 : (upd (bF (I 312)) 10 0) 13 = I 312 13 := by unfold bF; rw [upd_ne _ _ (by decide), upd_ne _ _ (by decide), upd_ne _ _ (by decide)]
  rw [e1]
  have e2 : rt_put (upd (bF (I 312)) 10 0) (tq_tk (I 315) N 0 (I 312 13)) = rt_put (bF (I 312)) (tq_tk (I 315) N 0 (I 312 13)) := by
    funext j
    unfold rt_put
    by_cases a : j = 10
    · rw [if_pos a, if_pos a]
    · rw [if_neg a, if_neg a, upd_ne _ _ a]
  rw [e2]
  have e3 : (ups I 312 (rt_put (bF (I 312)) (tq_tk (I 315) N 0 (I 312 13)))) 313 = I 313 := ups_ne _ _ (by decide)
  show _ = ups (ups I 312 (rF (bF (I 312)) 0 (t_beg I N))) 313 (I 313)
  unfold rF
  rw [if_pos rfl]
  show _ = ups (ups I 312 (rt_put (bF (I 312)) (tq_tk (I 315) N 0 (I 312 13)))) 313 (I 313)
  rw [← e3, ups_id]
def lF (F : zBk) (r : zRs) : zBk := upd (rF (bF F) r.1 r.2.1) 4 0
theorem r_load (hm : isT w 11 312) (h4 : I 312 4 = nI N) (hN : N ≤ 600) {r : zRs} (hr : r = rp_setup (I 315) N (t_beg I N) (s_aside (I 313))) : CT G w gl (yX11_load, cX11_load, 2, some .int) 6 (0, 0) [.ref 312] I (qE (if r.1 = 0 then r.2.2 8 else 0) (if r.1 = 0 then up (up (rM I (upd (upd (lF (I 312) r) 9 0) 2 0) r.2.2) 314 0 (vp_nar .boolean 0)) 314 1 (vp_nar .boolean 0) else rM I (upd (lF (I 312) r) 9 1) (s_aside (I 313)))) nX := by
  refine ct_of (by decide) [(0, .ref 312)] rfl rfl (fun K hG hw hgl hwo hK => ?_)
  subst hG; subst hw; subst hgl
  have z0 : (0, 0).1 ≤ ((0, 0) : Nat × Nat).1 ∧ (0, 0).2 ≤ ((0, 0) : Nat × Nat).2 := ⟨Nat.le_refl _, Nat.le_refl _⟩
  generalize hI1 : ups I 313 (s_aside (I 313)) = I1
  have i12 : I1 312 = I 312 := by rw [← hI1]; exact ups_ne _ _ (by decide)
  have i15 : I1 315 = I 315 := by rw [← hI1]; exact ups_ne _ _ (by decide)
  have i13 : I1 313 = s_aside (I 313) := by rw [← hI1]; exact ups_same _ _ _
  have mc : CT (kG K) (kw K) (kl K) (yX11_copyBlock, cX11_copyBlock, 4, none) 0 (0, 0) [.ref 312, .int 0, .int 9] I (qV (fun J => J = I1)) nX := by
    rw [← hI1]; exact m_copyBlock (a := 0) (b := 9) hm (by omega) (by omega) (by omega)
  have mb := m_begin (G := kG K) (w := kw K) (gl := kl K) (I := I1) (N := N) hm (by rw [i12]; exact h4) hN
  have et : t_beg I1 N = t_beg I N := by unfold t_beg; rw [i12, i15]
  rw [et, i13] at mb
  have ms := m_setup (G := kG K) (w := kw K) (gl := kl K) (I := bI I1) (N := N) (r := (0, t_beg I N, s_aside (I 313))) hm (bI_B (by rw [i12]; exact h4) hN) rfl (by rw [bI_ot (by decide), i15]; exact tk_ok (by omega))
  rw [bI_ot (show 315 ≠ 312 by decide), i15] at ms
  have er : rp_setup (I 315) N (0, t_beg I N, s_aside (I 313)).2.1 (0, t_beg I N, s_aside (I 313)).2.2 = r := hr.symm
  rw [er] at ms
  have eM : up (mR (bI I1) r) 312 4 0 = rM I (lF (I 312) r) r.2.2 := by
    rw [bI_R, up_def, rM_312, rM_2, i12]
    rw [← hI1]
    unfold rM
    rw [ups_sw (show 313 ≠ 312 by decide), ups_ups]
    rfl
  have e42 : ∀ (v1 : Int32) (B : zBk) (a : Nat), a < 2 → (a = 0 ↔ r.1 = 0) → (if a = 0 then B = r.2.2 else B = s_aside (I 313)) → ZZ K (0, 0) 42 [(0, .ref 312), (1, .int v1)] [.int (nI a), .ref 312] (rM I (lF (I 312) r) B) := fun v1 B a ha hi hB => by
    have mf := m_fails (G := kG K) (w := kw K) (gl := kl K) (I := rM I (lF (I 312) r) B) (v1 := nI a) (v2 := 0) (v3 := 0) hm
    rcases (show a = 0 ∨ a = 1 by omega) with rfl | rfl
    · have h0 := hi.mp rfl
      rw [if_pos h0, if_pos h0] at hK
      rw [if_pos rfl] at hB
      subst hB
      have mf0 : CT (kG K) (kw K) (kl K) (yX11_fails, cX11_fails, 4, some .boolean) 0 (0, 0) [.ref 312, .int (nI 0), .int 0, .int 0] (rM I (lF (I 312) r) r.2.2) (qE 0 (rM I (upd (lF (I 312) r) 9 0) r.2.2)) nX := by
        have h := mf
        rw [rM_T] at h; exact h
      refine bX11_load_42 (u := (0, 0)) (mc := (0, 0)) hK hwo hm hm z0 mf0 z0 (fun _ => ?_) z0 (fun q => absurd rfl q)
      rw [up_def (rM I (upd (lF (I 312) r) 9 0) r.2.2), rM_312, rM_2]
      refine qE_i ?_ rfl
      rw [up_def, ups_ne _ _ (by decide), up_def, ups_ne _ _ (by decide), rM_313]
    · have h0 : ¬ r.1 = 0 := fun z => absurd (hi.mpr z) (by decide)
      rw [if_neg h0, if_neg h0] at hK
      rw [if_neg (by decide)] at hB
      subst hB
      have mf1 : CT (kG K) (kw K) (kl K) (yX11_fails, cX11_fails, 4, some .boolean) 0 (0, 0) [.ref 312, .int (nI 1), .int 0, .int 0] (rM I (lF (I 312) r) (s_aside (I 313))) (qE 1 (rM I (upd (lF (I 312) r) 9 1) (s_aside (I 313)))) nX := by
        have h := mf
        rw [rM_T] at h; exact h
      exact bX11_load_42 (u := (0, 0)) (mc := (0, 0)) hK hwo hm hm z0 mf1 z0 (fun q => absurd q (by decide)) z0 (fun _ => qE_i rfl rfl)
  have cb := c_copyBlock (G := kG K) (w := kw K) (gl := kl K) (I := I) (F := lF (I 312) r) (B := r.2.2) (a := 9) (b := 0) hm (by omega) (by omega) (by omega)
  rw [aside_back (B := I 313) (C := r.2.2) (fun j hj => by rw [hr]; exact setup_hi hj)] at cb
  refine bX11_load_0 (u := (0, 0)) (mc := (0, 0)) (mc3 := (0, 0)) (x3 := nX) hK hwo hm z0 mc z0 mb z0 (fun _ _ h => h) ms (fun q => ?_) z0 (fun _ => by rw [eM]; exact cb) (fun q => ?_)
  · rw [eM]
    have q1 := d01 q
    exact bX11_load_32 (u := (0, 0)) (mc := (0, 0)) hK hwo hm (fun _ => e42 _ _ 0 (by omega) ⟨fun _ => q1, fun _ => rfl⟩ rfl) (fun z => absurd z q)
  · have q1 := d10 q
    exact bX11_load_32 (u := (0, 0)) (mc := (0, 0)) hK hwo hm (fun z => absurd q z) (fun _ => e42 _ _ 1 (by omega) ⟨fun z => absurd z (by decide), fun z => absurd z q1⟩ rfl)
theorem mS_315 {r : zSs} : (bI (ups I 317 r.2.2)) 315 = I 315 := by rw [bI_ot (by decide), ups_ne _ _ (by decide)]
theorem mS_B (h4 : I 312 4 = nI N) (hN : N ≤ 600) {C : Nat → Int32} : rB (bI (ups I 317 C)) N := bI_B (by rw [ups_ne _ _ (by decide)]; exact h4) hN
theorem bI_up {C : Nat → Int32} {k : Nat} {x : Int32} {r : zRs} : up (mR (bI (ups I 317 C)) r) 317 k x = mR (bI (ups I 317 (upd C k x))) r := by
  rw [bI_R, bI_R, up_def, rM_ot (by decide) (by decide), ups_same, ups_ne _ _ (show 312 ≠ 317 by decide), ups_ne _ _ (show 312 ≠ 317 by decide)]
  unfold rM
  rw [ups_sw (show 313 ≠ 317 by decide), ups_sw (show 312 ≠ 317 by decide), ups_ups]
theorem mS_up {r : zSs} {k : Nat} {x : Int32} : up (mS I r) 317 k x = mS I (r.1, r.2.1, upd r.2.2 k x) := bI_up
theorem mS_tok (hm : isT w 11 312) (h4 : I 312 4 = nI N) (hN : N ≤ 600) {r : zSs} (h0 : r.1 = 0) (hok : tOK (I 315) N r.2.1) : CT G w gl (yX11_token, cX11_token, 1, none) 1 (0, 0) [.ref 312] (mS I r) (qV (fun J => J = mS I (0, tq_nx (I 315) N r.2.1, r.2.2))) nX := by
  have h := m_tok (G := G) (gl := gl) (I := bI (ups I 317 r.2.2)) (N := N) (r := (r.1, r.2.1, I 313)) hm (mS_B h4 hN) h0 (by rw [mS_315]; exact hok)
  rw [mS_315] at h
  exact h
theorem mS_wrong (hm : isT w 11 312) {r : zSs} {c : Nat} (h0 : r.1 = 0) (hc : c ≠ 0) : CT G w gl (yX11_wrong, cX11_wrong, 2, some .boolean) 0 (0, 0) [.ref 312, .int (nI c)] (mS I r) (qE 0 (mS I (c, r.2.1, r.2.2))) nX :=
  m_wrong (G := G) (gl := gl) (I := bI (ups I 317 r.2.2)) (r := (r.1, r.2.1, I 313)) hm h0 hc
theorem mS_11 (h4 : I 312 4 = nI N) (hN : N ≤ 600) {r : zSs} (h0 : r.1 = 0) (hok : tOK (I 315) N r.2.1) {a : Nat} (ha : a < 2 ^ 31) : mS I r 312 11 = nI a ↔ r.2.1.1 = a :=
  mt (I := bI (ups I 317 r.2.2)) (r := (r.1, r.2.1, I 313)) (mS_B h4 hN) h0 (by rw [mS_315]; exact hok) ha
theorem mS_13 (h4 : I 312 4 = nI N) (hN : N ≤ 600) {r : zSs} (h0 : r.1 = 0) : mS I r 312 13 = r.2.1.2.2.2 :=
  (mR_tok (I := bI (ups I 317 r.2.2)) (r := (r.1, r.2.1, I 313)) (mS_B h4 hN) h0).2.2.2.2
theorem m_anys (hm : isT w 11 312) (h4 : I 312 4 = nI N) (hN : N ≤ 600) {r : zSs} {to n : Nat} (h0 : r.1 = 0) (hok : tOK (I 315) N r.2.1) (hto : to + n ≤ 180) : CT G w gl (yX11_parseNumbers, cX11_parseNumbers, 4, some .boolean) 2 (0, 0) [.ref 312, .int (nI to), .int (nI n)] (mS I r) (qE (b2 (decide ((tq_anys (I 315) N n to r.2.1 r.2.2).1 = 0))) (mS I (tq_anys (I 315) N n to r.2.1 r.2.2))) nX := by
  refine ct_of (by decide) [(0, .ref 312), (1, .int (nI to)), (2, .int (nI n))] rfl rfl (fun K hG hw hgl hwo hK => ?_)
  subst hG; subst hw; subst hgl
  refine bX11_parseNumbers_0 hK hwo hm ?_
  generalize hR : tq_anys (I 315) N n to r.2.1 r.2.2 = R at hK
  have key : ∀ k i (t : zTk) (C : Nat → Int32), i + k = n → tOK (I 315) N t → tq_anys (I 315) N k (to + i) t C = R → ZZ K (0, 0) 2 [(0, .ref 312), (1, .int (nI to)), (2, .int (nI n)), (3, .int (nI i))] [] (mS I (0, t, C)) := by
    intro k
    induction k with
    | zero =>
      intro i t C hi ht he
      have le : nI n ≤ nI i := by rw [show i = n by omega]; exact Int32.le_refl _
      have e9 : R = (0, t, C) := he.symm
      rw [e9] at hK
      exact bX11_parseNumbers_2 (g5 := I) (f7 := 0) (g7 := I) hK hwo hm (fun _ => qE_i rfl rfl) (fun q => absurd le q) (fun q => absurd le q) (fun q => absurd le q) (fun q => absurd le q) (fun q => absurd le q) (fun q => absurd le q)
    | succ k ih =>
      intro i t C hi ht he
      have nle : ¬ nI n ≤ nI i := nI_ge (by omega) (by omega)
      have e2 := mS_11 (r := (0, t, C)) (a := 2) h4 hN rfl ht (by omega)
      unfold tq_anys at he
      refine bX11_parseNumbers_2 (g5 := mS I (0, tq_nx (I 315) N t, upd C (to + i) t.2.2.2)) (f7 := 0) (g7 := mS I (1, t, C)) hK hwo hm (fun q => absurd q nle) (fun _ q => ?_) (fun _ q => ?_) (fun _ q => ?_) (fun _ q => mS_wrong (r := (0, t, C)) (c := 1) hm rfl (by decide)) (fun _ q => ?_) (fun _ _ => Or.inl rfl)
      · rw [nI_add]; exact vp_in_nI (by omega) (by omega)
      · rw [nI_add, nI_clamp (by omega), mS_13 (r := (0, t, C)) h4 hN rfl, mS_up]
        exact mS_tok (r := (0, t, upd C (to + i) t.2.2.2)) hm h4 hN rfl ht
      · rw [if_pos (e2.mp q)] at he
        rw [nI_1]
        exact ih (i + 1) _ _ (by omega) (kT_nx ht) he
      · rw [if_neg (fun z => q (e2.mpr z))] at he
        rw [← he]; exact qE_i rfl rfl
  have h9 := key n 0 r.2.1 r.2.2 (by omega) hok hR
  rw [show (0, r.2.1, r.2.2) = r by rw [← h0]] at h9
  exact h9
theorem mS_313 {r : zSs} : mS I r 313 = I 313 := mR_313
theorem m_args (hm : isT w 11 312) (h4 : I 312 4 = nI N) (hN : N ≤ 600) {c : Nat} (h7 : I 313 7 = nI c) (hL : nmL (I 313) c) {r : zSs} {to cmd : Nat} (h0 : r.1 = 0) (hok : tOK (I 315) N r.2.1) (hto : to + 5 ≤ 180) (hcmd : cmd ≤ 5) : CT G w gl (yX11_parseArguments, cX11_parseArguments, 3, some .boolean) 3 (0, 0) [.ref 312, .int (nI cmd), .int (nI to)] (mS I r) (qE (b2 (decide ((sp_args (I 315) N (I 313) c cmd to r.2.1 r.2.2).1 = 0))) (mS I (sp_args (I 315) N (I 313) c cmd to r.2.1 r.2.2))) nX := by
  refine ct_of (by decide) [(0, .ref 312), (1, .int (nI cmd)), (2, .int (nI to))] rfl rfl (fun K hG hw hgl hwo hK => ?_)
  subst hG; subst hw; subst hgl
  have ec : ∀ q, q < 6 → (nI cmd = nI q ↔ cmd = q) := fun q hq => nI_eq (by omega) (by omega)
  have e10 : (cmd = 3 ∨ cmd = 4) → ZZ K (0, 0) 10 [(0, .ref 312), (1, .int (nI cmd)), (2, .int (nI to))] [] (mS I r) := fun h => by
    have es : sp_args (I 315) N (I 313) c cmd to r.2.1 r.2.2 = tq_anys (I 315) N 2 to r.2.1 r.2.2 := by unfold sp_args; rw [if_pos h]
    rw [es] at hK
    exact bX11_parseArguments_10 hK hwo hm (m_anys (n := 2) hm h4 hN h0 hok (by omega)) (qE_i rfl rfl) (b2_01 _)
  by_cases c34 : cmd = 3 ∨ cmd = 4
  · refine bX11_parseArguments_0 (f5 := 0) (g5 := I) (f7 := 0) (g7 := I) (g11 := I) (f12 := 0) (g12 := I) (f15 := 0) (g15 := I) (f19 := 0) (g19 := I) hK hwo hm (fun _ => e10 c34) (fun a b _ => ?_) (fun a b _ => ?_) (fun a b _ => ?_) (fun a b _ => ?_) (fun a b _ => ?_) (fun a b _ => ?_) (fun a b _ => ?_) (fun a b _ => ?_) (fun a b _ => ?_) (fun a b _ => ?_) (fun a b _ => ?_) (fun a b _ => ?_) (fun a b _ => ?_) (fun a b _ => ?_) (fun a b _ => ?_) (fun _ _ => e10 c34)
    all_goals exact absurd c34 (by rintro (z | z); exact a ((ec 3 (by omega)).mpr z); exact b ((ec 4 (by omega)).mpr z))
  · by_cases cz : cmd = 0
    · have hcz : nI cmd = 0 := by rw [cz]; rfl
      have ms := m_short (G := kG K) (w := kw K) (gl := kl K) (I := bI (ups I 317 r.2.2)) (N := N) (r := (r.1, r.2.1, I 313)) hm (mS_B h4 hN) h0 (by rw [mS_315]; exact hok)
      have hn3 : ¬ nI cmd = 3 := fun z => c34 (Or.inl ((ec 3 (by omega)).mp z))
      have hn4 : ¬ nI cmd = 4 := fun z => c34 (Or.inr ((ec 4 (by omega)).mp z))
      by_cases hs : tq_short r.2.1 = 0
      · have ms2 : CT (kG K) (kw K) (kl K) (yX11_isShortWord, cX11_isShortWord, 1, some .boolean) 1 (0, 0) [.ref 312] (mS I r) (qE 1 (mS I r)) nX := by
          have h := ms
          dsimp only at h
          rw [hs, ← h0] at h
          have e9 : b2 (decide (r.1 = 0)) = 1 := by rw [h0]; rfl
          rw [h0] at h
          have : mR (bI (ups I 317 r.2.2)) (0, r.2.1, I 313) = mS I r := by unfold mS; rw [h0]
          rw [this] at h
          exact h
        have tk := mR_tok (I := bI (ups I 317 r.2.2)) (N := N) (r := (r.1, r.2.1, I 313)) (mS_B h4 hN) h0
        have efr : mS I r 312 12 = nI r.2.1.2.1 := tk.2.2.1
        have eln : mS I r 312 10 - mS I r 312 12 = nI (tq_ln r.2.1) := by
          rw [show mS I r 312 10 = nI r.2.1.2.2.1 from tk.2.2.2.1, efr]; exact nI_sub hok.2.1
        have mn := m_named (G := kG K) (w := kw K) (gl := kl K) (I := mS I r) (fr := r.2.1.2.1) (m := tq_ln r.2.1) (c := c) hm (by rw [mS_313]; exact h7) (by rw [mS_313]; exact hL) (by have := hok.2.1; have := hok.2.2.1; unfold tq_ln; omega)
        rw [mS_313, show mS I r 315 = I 315 from mR_315.trans mS_315] at mn
        generalize hf : tq_find (I 313) (I 315) r.2.1.2.1 (tq_ln r.2.1) 0 c = f at mn
        have ev : (up (mS I r) 317 (nI to).toNatClampNeg f) 317 (nI to).toNatClampNeg = f := by rw [up_def, ups_same, upd_same]
        have er : up (mS I r) 317 (nI to).toNatClampNeg f = mS I (0, r.2.1, upd r.2.2 to f) := by rw [nI_clamp (by omega), mS_up, h0]
        by_cases hf1 : f = -1
        · have es : sp_args (I 315) N (I 313) c cmd to r.2.1 r.2.2 = (3, r.2.1, upd r.2.2 to (-1)) := by
            unfold sp_args; rw [if_neg c34, if_neg (by omega), if_pos hs, hf, if_pos hf1]
          rw [es] at hK
          refine bX11_parseArguments_0 (g11 := I) (f12 := 0) (g12 := I) (f19 := 0) (g19 := I) hK hwo hm (fun a => absurd a hn3) (fun _ _ _ => ms2) (fun _ _ _ _ => by rw [eln, efr]; exact mn) (fun _ _ _ _ => vp_in_nI (by omega) (by omega)) (fun _ _ _ _ => vp_in_nI (by omega) (by omega)) (fun _ _ _ _ q => absurd (ev.trans hf1) q) (fun _ _ _ _ q => absurd (ev.trans hf1) q) (fun _ _ _ _ q => absurd (ev.trans hf1) q) (fun _ _ _ _ q => absurd (ev.trans hf1) q) (fun _ _ _ _ _ => by rw [er, hf1]; exact mS_wrong (r := (0, r.2.1, upd r.2.2 to (-1))) (c := 3) hm rfl (by decide)) (fun _ _ _ _ _ => qE_i rfl rfl) (fun _ _ _ _ _ => Or.inl rfl) (fun _ _ _ q => absurd q (by decide)) (fun _ _ q => absurd hcz q) (fun _ _ q => absurd hcz q) (fun _ _ q => absurd hcz q) (fun _ a => absurd a hn4)
        · have es : sp_args (I 315) N (I 313) c cmd to r.2.1 r.2.2 = tq_anys (I 315) N 4 (to + 1) (tq_nx (I 315) N r.2.1) (upd r.2.2 to f) := by
            unfold sp_args; rw [if_neg c34, if_neg (by omega), if_pos hs, hf, if_neg hf1]
          rw [es] at hK
          have ma := m_anys (G := kG K) (w := kw K) (gl := kl K) (r := (0, tq_nx (I 315) N r.2.1, upd r.2.2 to f)) (to := to + 1) (n := 4) hm h4 hN rfl (kT_nx hok) (by omega)
          rw [← nI_1] at ma
          refine bX11_parseArguments_0 (f15 := 0) (g15 := I) (f19 := 0) (g19 := I) hK hwo hm (fun a => absurd a hn3) (fun _ _ _ => ms2) (fun _ _ _ _ => by rw [eln, efr]; exact mn) (fun _ _ _ _ => vp_in_nI (by omega) (by omega)) (fun _ _ _ _ => vp_in_nI (by omega) (by omega)) (fun _ _ _ _ _ => by rw [er]; exact mS_tok (r := (0, r.2.1, upd r.2.2 to f)) hm h4 hN rfl hok) (fun _ _ _ _ _ => ma) (fun _ _ _ _ _ => qE_i rfl rfl) (fun _ _ _ _ _ => b2_01 _) (fun _ _ _ _ q => absurd (ev.symm.trans q) hf1) (fun _ _ _ _ q => absurd (ev.symm.trans q) hf1) (fun _ _ _ _ q => absurd (ev.symm.trans q) hf1) (fun _ _ _ q => absurd q (by decide)) (fun _ _ q => absurd hcz q) (fun _ _ q => absurd hcz q) (fun _ _ q => absurd hcz q) (fun _ a => absurd a hn4)
      · have es : sp_args (I 315) N (I 313) c cmd to r.2.1 r.2.2 = (tq_short r.2.1, r.2.1, r.2.2) := by
          unfold sp_args; rw [if_neg c34, if_neg (by omega), if_neg hs]
        rw [es] at hK
        have e9 : b2 (decide (tq_short r.2.1 = 0)) = 0 := by rw [decide_eq_false hs]; rfl
        have ms2 : CT (kG K) (kw K) (kl K) (yX11_isShortWord, cX11_isShortWord, 1, some .boolean) 1 (0, 0) [.ref 312] (mS I r) (qE 0 (mS I (tq_short r.2.1, r.2.1, r.2.2))) nX := by
          have h := ms
          dsimp only at h
          rw [e9] at h
          exact h
        refine bX11_parseArguments_0 (f7 := 0) (g7 := I) (g11 := I) (f12 := 0) (g12 := I) (f15 := 0) (g15 := I) (f19 := 0) (g19 := I) hK hwo hm (fun a => absurd a hn3) (fun _ _ _ => ms2) (fun _ _ _ q => absurd rfl q) (fun _ _ _ q => absurd rfl q) (fun _ _ _ q => absurd rfl q) (fun _ _ _ q => absurd rfl q) (fun _ _ _ q => absurd rfl q) (fun _ _ _ q => absurd rfl q) (fun _ _ _ q => absurd rfl q) (fun _ _ _ q => absurd rfl q) (fun _ _ _ q => absurd rfl q) (fun _ _ _ q => absurd rfl q) (fun _ _ _ _ => qE_i e9.symm rfl) (fun _ _ q => absurd hcz q) (fun _ _ q => absurd hcz q) (fun _ _ q => absurd hcz q) (fun _ a => absurd a hn4)
    · have es : sp_args (I 315) N (I 313) c cmd to r.2.1 r.2.2 = tq_anys (I 315) N 1 to r.2.1 r.2.2 := by
        unfold sp_args; rw [if_neg c34, if_pos cz]
      rw [es] at hK
      have hcz : ¬ nI cmd = 0 := fun z => cz ((ec 0 (by omega)).mp z)
      refine bX11_parseArguments_0 (f5 := 0) (g5 := I) (f7 := 0) (g7 := I) (g11 := I) (f12 := 0) (g12 := I) (f15 := 0) (g15 := I) hK hwo hm (fun a => absurd (Or.inl ((ec 3 (by omega)).mp a)) c34) (fun _ _ a => absurd a hcz) (fun _ _ a => absurd a hcz) (fun _ _ a => absurd a hcz) (fun _ _ a => absurd a hcz) (fun _ _ a => absurd a hcz) (fun _ _ a => absurd a hcz) (fun _ _ a => absurd a hcz) (fun _ _ a => absurd a hcz) (fun _ _ a => absurd a hcz) (fun _ _ a => absurd a hcz) (fun _ _ a => absurd a hcz) (fun _ _ a => absurd a hcz) (fun _ _ _ => m_anys (n := 1) hm h4 hN h0 hok (by omega)) (fun _ _ _ => qE_i rfl rfl) (fun _ _ _ => b2_01 _) (fun _ a => absurd (Or.inr ((ec 4 (by omega)).mp a)) c34)
end RSC
