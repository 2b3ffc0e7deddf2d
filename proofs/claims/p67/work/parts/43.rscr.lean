/-! THE REFERENCE: loading; the script's parser -/
def bF (F : zBk) : zBk := upd (upd F 5 0) 6 (-1)
def bI (I : zM) : zM := ups I 312 (bF (I 312))
theorem rb_hi {r : zRs} {f : zTk → zBk → zRs} {j : Nat} {x : Int32} (h : r.2.2 j = x) (hf : ∀ t C, C j = x → (f t C).2.2 j = x) : (rbind r f).2.2 j = x := by
  unfold rbind
  split
  · exact hf _ _ h
  · exact h
theorem semi_hi {b : zBk} {N j : Nat} {t : zTk} {B : zBk} : (rp_semi b N t B).2.2 j = B j := by rw [semi_B]
theorem clerk_hi {b : zBk} {N : Nat} {t : zTk} {B : zBk} {c j : Nat} (hc : c ≤ 6) (hj : 160 ≤ j) : (rp_clerk b N t B c).2.2 j = B j := by
  unfold rp_clerk
  by_cases c6 : c = 6
  · rw [if_pos c6]
  rw [if_neg c6]
  by_cases hs : tq_short (tq_nx b N t) = 0
  · rw [if_pos hs]
    have hl := (short0 hs).2
    split
    · refine rb_hi ?_ (fun t C h => ?_)
      · rw [semi_hi, nm_far _ (by omega), upd_ne _ _ (by omega)]
      · show upd C 7 (C 7 + 1) j = _
        rw [upd_ne _ _ (by omega)]; exact h
    · rfl
  · rw [if_neg hs]
theorem letter_hi {b : zBk} {N : Nat} {t : zTk} {B : zBk} {c n j : Nat} (hn : n ≤ 12) (hj : 160 ≤ j) : (rp_letter b N c t B n).2.2 j = B j := by
  unfold rp_letter
  by_cases c6 : n = 12
  · rw [if_pos c6]
  rw [if_neg c6]
  split
  · split
    · rfl
    · refine rb_hi (rng_ne (by omega)) (fun t C h => ?_)
      refine rb_hi ((rng_ne (by omega)).trans h) (fun t C h => ?_)
      refine rb_hi ((rng_ne (by omega)).trans h) (fun t C h => ?_)
      refine rb_hi ((rng_ne (by omega)).trans h) (fun t C h => ?_)
      refine rb_hi (semi_hi.trans h) (fun t C h => ?_)
      show s_add C n _ _ _ _ _ j = _
      unfold s_add s_set
      rw [upd_ne _ _ (by omega), upd_ne _ _ (by omega), upd_ne _ _ (by omega), upd_ne _ _ (by omega), upd_ne _ _ (by omega), upd_ne _ _ (by omega), upd_ne _ _ (by omega), upd_ne _ _ (by omega), upd_ne _ _ (by omega)]
      exact h
  · rfl
theorem letters_hi {b : zBk} {N c j : Nat} {x : Int32} (hj : 160 ≤ j) : ∀ k n (t : zTk) (B : zBk), n + k = 13 → B j = x → (rp_letters b N c k n t B).2.2 j = x
  | 0, _, _, _, _, h => h
  | k + 1, n, t, B, h1, h => by
    unfold rp_letters
    split
    · exact rb_hi ((letter_hi (by omega) hj).trans h) (fun t C h => letters_hi hj k (n + 1) t C (by omega) h)
    · split
      · exact h
      · exact h
theorem clerks_hi {b : zBk} {N j : Nat} {x : Int32} (hj : 160 ≤ j) : ∀ k c (t : zTk) (B : zBk), c + k = 7 → B j = x → (rp_clerks b N k c t B).2.2 j = x
  | 0, c, t, B, _, h => letters_hi hj 13 0 t B (by omega) h
  | k + 1, c, t, B, h1, h => by
    unfold rp_clerks
    split
    · exact rb_hi ((clerk_hi (by omega) hj).trans h) (fun t C h => clerks_hi hj k (c + 1) t C (by omega) h)
    · split
      · exact h
      · exact letters_hi hj 13 0 t B (by omega) h
theorem z_hi {B : zBk} {j : Nat} (hj : 160 ≤ j) : s_z B j = B j := by
  unfold s_z
  rw [upd_ne _ _ (by omega), upd_ne _ _ (by omega), if_neg (by omega)]
theorem setup_hi {b : zBk} {N j : Nat} {t : zTk} {B : zBk} (hj : 160 ≤ j) : (rp_setup b N t B).2.2 j = B j := by
  unfold rp_setup
  split
  · refine rb_hi ?_ (fun t C h => clerks_hi hj 7 0 t _ (by omega) ((upd_ne _ _ (by omega)).trans h))
    unfold rp_set
    refine rb_hi ((rng_ne (by omega)).trans (z_hi hj)) (fun t C h => ?_)
    refine rb_hi ((rng_ne (by omega)).trans h) (fun t C h => ?_)
    refine rb_hi ((rng_ne (by omega)).trans h) (fun t C h => ?_)
    refine rb_hi ((rng_ne (by omega)).trans h) (fun t C h => ?_)
    refine rb_hi ((rng_ne (by omega)).trans h) (fun t C h => ?_)
    refine rb_hi ((rng_ne (by omega)).trans h) (fun t C h => ?_)
    refine rb_hi ((rng_ne (by omega)).trans h) (fun t C h => ?_)
    exact semi_hi.trans h
  · exact z_hi hj
/-- the token with which a text begins -/
def t_beg (I : zM) (N : Nat) : zTk := tq_tk (I 315) N 0 (I 312 13)
def sp_cmd (b : zBk) (t : zTk) : Nat → Nat → Int32
  | 0, _ => -1
  | k + 1, i => if tq_isw b t (2 + i) = true then nI i else sp_cmd b t k (i + 1)
abbrev zSs : Type := Nat × zTk × (Nat → Int32)
def sp_args (b : zBk) (N : Nat) (B : zBk) (c cmd to : Nat) (t : zTk) (C : Nat → Int32) : zSs :=
  if cmd = 3 ∨ cmd = 4 then tq_anys b N 2 to t C
  else if cmd ≠ 0 then tq_anys b N 1 to t C
  else if tq_short t = 0 then (if tq_find B b t.2.1 (tq_ln t) 0 c = -1 then (3, t, upd C to (-1)) else tq_anys b N 4 (to + 1) (tq_nx b N t) (upd C to (tq_find B b t.2.1 (tq_ln t) 0 c)))
  else (tq_short t, t, C)
def sp_scr (b : zBk) (N : Nat) (B : zBk) (c : Nat) : Nat → Nat → zTk → (Nat → Int32) → zSs × Nat
  | 0, m, t, C => ((0, t, C), m)
  | k + 1, m, t, C => if t.1 = 0 then ((0, t, C), m) else if sp_cmd b t 6 0 = -1 then ((1, t, C), m) else if m < 30 then
      (if (sp_args b N B c (sp_cmd b t 6 0).toNatClampNeg (m * 6 + 1) (tq_nx b N t) (upd C (m * 6) (sp_cmd b t 6 0))).1 = 0 then
        (if (sp_args b N B c (sp_cmd b t 6 0).toNatClampNeg (m * 6 + 1) (tq_nx b N t) (upd C (m * 6) (sp_cmd b t 6 0))).2.1.1 = 3 then
          sp_scr b N B c k (m + 1) (tq_nx b N (sp_args b N B c (sp_cmd b t 6 0).toNatClampNeg (m * 6 + 1) (tq_nx b N t) (upd C (m * 6) (sp_cmd b t 6 0))).2.1) (sp_args b N B c (sp_cmd b t 6 0).toNatClampNeg (m * 6 + 1) (tq_nx b N t) (upd C (m * 6) (sp_cmd b t 6 0))).2.2
        else ((1, (sp_args b N B c (sp_cmd b t 6 0).toNatClampNeg (m * 6 + 1) (tq_nx b N t) (upd C (m * 6) (sp_cmd b t 6 0))).2), m))
      else (sp_args b N B c (sp_cmd b t 6 0).toNatClampNeg (m * 6 + 1) (tq_nx b N t) (upd C (m * 6) (sp_cmd b t 6 0)), m))
    else ((4, t, C), m)
theorem cmd_in {b : zBk} {t : zTk} : ∀ k i, sp_cmd b t k i = -1 ∨ ∃ j, i ≤ j ∧ j < i + k ∧ sp_cmd b t k i = nI j
  | 0, _ => Or.inl rfl
  | k + 1, i => by
    unfold sp_cmd
    by_cases h : tq_isw b t (2 + i) = true
    · rw [if_pos h]; exact Or.inr ⟨i, Nat.le_refl _, by omega, rfl⟩
    · rw [if_neg h]
      rcases cmd_in (b := b) (t := t) k (i + 1) with e | ⟨j, h1, h2, e⟩
      · exact Or.inl e
      · exact Or.inr ⟨j, by omega, by omega, e⟩
theorem anys_ok {b : zBk} {N : Nat} : ∀ k i (t : zTk) (C : Nat → Int32), tOK b N t → tOK b N (tq_anys b N k i t C).2.1
  | 0, _, _, _, h => h
  | k + 1, i, t, C, h => by
    unfold tq_anys
    split
    · exact anys_ok k (i + 1) _ _ (kT_nx h)
    · exact h
theorem args_ok {b : zBk} {N c cmd to : Nat} {B : zBk} {t : zTk} {C : Nat → Int32} (h : tOK b N t) : tOK b N (sp_args b N B c cmd to t C).2.1 := by
  unfold sp_args
  split
  · exact anys_ok _ _ _ _ h
  · split
    · exact anys_ok _ _ _ _ h
    · split
      · split
        · exact h
        · exact anys_ok _ _ _ _ (kT_nx h)
      · exact h
/-- the memory while a script is parsed -/
def mS (I : zM) (r : zSs) : zM := mR (bI (ups I 317 r.2.2)) (r.1, r.2.1, I 313)
section RSC
variable {G : zG} {w : Nat × Nat} {gl : Launch} {I : zM} {N : Nat}
theorem bI_312 : bI I 312 = bF (I 312) := ups_same _ _ _
theorem bI_ot {q : Nat} (h : q ≠ 312) : bI I q = I q := ups_ne _ _ h
theorem bI_B (h4 : I 312 4 = nI N) (hN : N ≤ 600) : rB (bI I) N := ⟨by rw [bI_312]; unfold bF; rw [upd_ne _ _ (by decide), upd_ne _ _ (by decide)]; exact h4, hN⟩
theorem bI_R {r : zRs} : mR (bI I) r = rM I (rF (bF (I 312)) r.1 r.2.1) r.2.2 := by
  unfold mR bI rM
  rw [ups_ups, ups_same]
def lF (F : zBk) (r : zRs) : zBk := upd (rF (bF F) r.1 r.2.1) 4 0
theorem mS_315 {r : zSs} : (bI (ups I 317 r.2.2)) 315 = I 315 := by rw [bI_ot (by decide), ups_ne _ _ (by decide)]
theorem mS_B (h4 : I 312 4 = nI N) (hN : N ≤ 600) {C : Nat → Int32} : rB (bI (ups I 317 C)) N := bI_B (by rw [ups_ne _ _ (by decide)]; exact h4) hN
theorem bI_up {C : Nat → Int32} {k : Nat} {x : Int32} {r : zRs} : up (mR (bI (ups I 317 C)) r) 317 k x = mR (bI (ups I 317 (upd C k x))) r := by
  rw [bI_R, bI_R, up_def, rM_ot (by decide) (by decide), ups_same, ups_ne _ _ (show 312 ≠ 317 by decide), ups_ne _ _ (show 312 ≠ 317 by decide)]
  unfold rM
  rw [ups_sw (show 313 ≠ 317 by decide), ups_sw (show 312 ≠ 317 by decide), ups_ups]
theorem mS_up {r : zSs} {k : Nat} {x : Int32} : up (mS I r) 317 k x = mS I (r.1, r.2.1, upd r.2.2 k x) := bI_up
theorem mS_11 (h4 : I 312 4 = nI N) (hN : N ≤ 600) {r : zSs} (h0 : r.1 = 0) (hok : tOK (I 315) N r.2.1) {a : Nat} (ha : a < 2 ^ 31) : mS I r 312 11 = nI a ↔ r.2.1.1 = a :=
  mt (I := bI (ups I 317 r.2.2)) (r := (r.1, r.2.1, I 313)) (mS_B h4 hN) h0 (by rw [mS_315]; exact hok) ha
theorem mS_13 (h4 : I 312 4 = nI N) (hN : N ≤ 600) {r : zSs} (h0 : r.1 = 0) : mS I r 312 13 = r.2.1.2.2.2 :=
  (mR_tok (I := bI (ups I 317 r.2.2)) (r := (r.1, r.2.1, I 313)) (mS_B h4 hN) h0).2.2.2.2
theorem mS_313 {r : zSs} : mS I r 313 = I 313 := mR_313
end RSC
