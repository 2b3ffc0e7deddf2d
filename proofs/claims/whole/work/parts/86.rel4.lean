/-! THE RELATION IS KEPT: scripts -/
theorem sput_cg {I J : zM} {s r : Nat} {B C : zBk} {c d : Int32} (hc : d = c) (hB : ∀ k, k < 160 → C k = B k) (hr : J r = I r) : sput J s C d r = sput I s B c r := by
  funext x
  unfold sput
  rw [hr]
  by_cases h0 : r = s
  · rw [if_pos h0, if_pos h0, hc, hB 8 (by omega), hB 9 (by omega), hB 0 (by omega), hB 10 (by omega)]
    by_cases h8 : 8 ≤ x ∧ x ≤ 18
    · rw [hB (x + 3) (by omega)]
    · rw [if_neg h8, if_neg h8]
  rw [if_neg h0, if_neg h0]
  by_cases h1 : r = s + 1
  · rw [if_pos h1, if_pos h1]
    by_cases h6 : x < 6
    · rw [hB (x + 1) (by omega)]
    · rw [if_neg h6, if_neg h6]
  rw [if_neg h1, if_neg h1, hB 7 (by omega)]
  by_cases h2 : r = s + 2
  · rw [if_pos h2, if_pos h2]
  rw [if_neg h2, if_neg h2]
  by_cases h3 : s + 4 ≤ r ∧ r < s + 10
  · rw [if_pos h3, if_pos h3]
    by_cases h6 : x < 6
    · rw [if_pos h6, if_pos h6, hB _ (by omega)]
    · rw [if_neg h6, if_neg h6]
  rw [if_neg h3, if_neg h3]
  by_cases h4 : r = s + 10
  · rw [if_pos h4, if_pos h4]
    by_cases h6 : x < 6
    · rw [if_pos h6, if_pos h6, hB _ (by omega)]
    · rw [if_neg h6, if_neg h6]
  rw [if_neg h4, if_neg h4]
  by_cases h5 : s + 12 ≤ r ∧ r < s + 24
  · rw [if_pos h5, if_pos h5]
    by_cases h6 : x < 8
    · rw [if_pos h6, if_pos h6, hB _ (by omega)]
    · rw [if_neg h6, if_neg h6]
  rw [if_neg h5, if_neg h5]
theorem cps_cg {I J : zM} {s o n c r : Nat} (hs : s + 24 ≤ 312) (ho : o + 24 ≤ 312) (h : ∀ r, r < 312 → J r = I r) (hr : J r = I r) : cpS J s o n c r = cpS I s o n c r := by
  unfold cpS
  refine sput_cg (by rw [h o (by omega)]) (fun k hk => ?_) hr
  unfold cpk
  rw [vB_k (s := s) (fun q a b => h q (by omega)) hk, vB_k (s := o) (fun q a b => h q (by omega)) hk]
theorem up_cg {I J : zM} {q k r : Nat} {x y : Int32} (hr : J r = I r) (hx : y = x) : up J q k y r = up I q k x r := by
  by_cases e : r = q
  · subst e
    rw [up_def, up_def, ups_same, ups_same, hr, hx]
  · rw [up_far e, up_far e, hr]
theorem kp_cg {I J : zM} {n c a : Nat} (h : ∀ r, r < 312 → J r = I r) {r : Nat} (hr : r < 312) : kp J n c a r = kp I n c a r := by
  have h2 : ∀ q, q < 312 → up J 89 2 (nI ((a + 1) % 6)) q = up I 89 2 (nI ((a + 1) % 6)) q := fun q hq => up_cg (h q hq) rfl
  have hlt : (a + 1) % 6 < 6 := Nat.mod_lt _ (by omega)
  have e := cps_cg (s := 91 + 24 * ((a + 1) % 6)) (o := 288) (n := n) (c := c) (r := r) (by omega) (by omega) h2 (h2 r hr)
  unfold kp kkeep
  rw [h 89 (by omega)]
  split
  · exact e
  · exact up_cg e rfl
section REQ
variable {I J : zM} {n c t a m N M s : Nat} {z v : Int32}
theorem kSR_285 {k : Nat} : kSR I N c v 285 k = if k = 1 then 0 else kF (upd (upd (I 285) 6 0) 7 (-1)) (kSC I N c v).1.1 (kSC I N c v).1.2.1 k := by
  unfold kSR kSCM
  by_cases e : k = 1
  · rw [if_pos e, e, up_at]
  · rw [if_neg e, up_at2 e, xR_285, dput_ot (by omega) (by decide)]
    unfold kbI
    rw [ups_same]
theorem kSR_286 : kSR I N c v 286 = I 286 := by
  unfold kSR kSCM
  rw [up_far (by decide), xR_286 (Or.inr (by omega)), dput_ot (by omega) (by decide), kbI_286]
/-- a script, as both read it -/
theorem script_both (hB : RelB I N) (hO : RelO I n c t) (hv : v = I 312 13) {R : zSs × Nat} (hR : R = sp_scr (I 315) N (I 313) c 31 0 (t_beg I N) (I 317)) :
    (kSC I N c v).1.1 = R.1.1 ∧ (kSC I N c v).1.2.1 = R.1.2.1 ∧ (kSC I N c v).2 = R.2 ∧ (R.1.1 = 0 → R.2 ≤ 30 ∧ ∀ j, j < R.2 → rw_ok R.1.2.2 c j ∧ rowE (cvt (kSC I N c v).1.2.2.1) R.1.2.2 j) := by
  have hok : tOK (I 315) N (t_beg I N) := tk_ok (Nat.zero_le N)
  have e : tq_tk (I 286) N 0 v = t_beg I N := by
    rw [hv]
    exact bR_tk hB.2.2.2 (Nat.zero_le N) _
  obtain ⟨p1, p2, p3, p4⟩ := scr_both (X := vB I 288) (c := c) hB.2.2.2 hB.2.2.1 hO.2.2.2.2.1 hO.2.2.2.2.2.2.1 31 0 (t_beg I N) (I 317) I (I 287) (by omega) (by omega) hok (fun j hj => absurd hj (Nat.not_lt_zero j))
  have q := scr_ok (B := I 313) (c := c) 31 0 (t_beg I N) (I 317) (by omega) (by omega) hok (fun j hj => absurd hj (Nat.not_lt_zero j))
  unfold kSC
  rw [e]
  rw [← hR] at p1 p2 p3 p4 q
  exact ⟨p1, p2, p3, fun h0 => ⟨(q h0).1, fun j hj => ⟨(q h0).2 j hj, p4 h0 j hj⟩⟩⟩
/-- a row that the parser made is a row of the class -/
theorem rw_both {E C : Nat → Int32} {j : Nat} (hr : rw_ok C c j) (hE : rowE E C j) : rw_ok E c j := by
  obtain ⟨cmd, h5, ec, r0, r1, r3⟩ := hr
  obtain ⟨e0, e1, e2, e3⟩ := hE
  refine ⟨cmd, h5, e0.trans ec, fun hz => ?_, fun hz => ?_, fun hz => ?_⟩
  · have c0 : C (j * 6) = 0 := by rw [ec, hz]; rfl
    obtain ⟨f3, f4, f5⟩ := e3 c0
    have f2 := e2 (Or.inl c0)
    obtain ⟨⟨x, hx, ex⟩, g⟩ := r0 hz
    refine ⟨⟨x, hx, e1.trans ex⟩, fun i a b => ?_⟩
    obtain ⟨y, hy, ey⟩ := g i a b
    refine ⟨y, hy, ?_⟩
    rcases (show i = 2 ∨ i = 3 ∨ i = 4 ∨ i = 5 by omega) with rfl | rfl | rfl | rfl
    · exact f2.trans ey
    · exact f3.trans ey
    · exact f4.trans ey
    · exact f5.trans ey
  · obtain ⟨x, hx, ex⟩ := r1 hz
    exact ⟨x, hx, e1.trans ex⟩
  · obtain ⟨x, hx, ex⟩ := r3 hz
    refine ⟨x, hx, ?_⟩
    have c34 : C (j * 6) = 3 ∨ C (j * 6) = 4 := by
      rcases hz with hz | hz
      · exact Or.inl (by rw [ec, hz]; rfl)
      · exact Or.inr (by rw [ec, hz]; rfl)
    exact (e2 (Or.inr c34)).trans ex
/-- behind a script's reading, on both sides -/
theorem Rel_scr (h : Rel I) (hB : RelB I N) (hO : RelO I n c t) (hv : v = I 312 13) {R : zSs × Nat} (hR : R = sp_scr (I 315) N (I 313) c 31 0 (t_beg I N) (I 317)) (hr : ∀ r, r < 312 → J r = kSR I N c v r) (h13 : J 313 = I 313) (h14 : J 314 = I 314) (h15 : J 315 = I 315) (h16 : J 316 = I 316) (h12 : ∀ k, k ≠ 9 → J 312 k = upd (rF (bF (I 312)) R.1.1 R.1.2.1) 4 0 k) : Rel J := by
  obtain ⟨p1, p2, -, -⟩ := script_both hB hO hv hR
  refine Rel_buf4 h (N' := 0) ⟨?_, ?_, by omega, fun j hj => absurd hj (Nat.not_lt_zero j)⟩ ⟨?_, ?_⟩ ?_ (fun q a1 a2 a3 a4 a5 => ?_) (fun k hk => by rw [h13]) h14 h16 (fun k hk => ?_)
  · rw [h12 4 (by decide), upd_same]; rfl
  · rw [hr 285 (by decide), kSR_285, if_pos rfl]; rfl
  · rw [h12 5 (by decide), upd_ne _ _ (by decide), err_r.1, hr 285 (by decide), kSR_285, if_neg (by decide), err_k.1, p1]
  · rw [h12 6 (by decide), upd_ne _ _ (by decide), err_r.2, hr 285 (by decide), kSR_285, if_neg (show ¬ (7 : Nat) = 1 by decide), err_k.2, p1, p2]
  · exact nmB_fr (fun q a1 a2 => (hr q (by omega)).trans (kSR_hi (by omega))) h.1
  · rw [hr q a2]
    exact kSR_hi (by omega)
  · rw [h12 k (by omega), upd_ne _ _ (by omega), rF_lo hk]
/-- a script that was read is run, on both sides -/
theorem Rel_run (h : Rel I) (hB : RelB I N) (hO : RelO I n c t) (hH : RelH I a m) (hv : v = I 312 13) {R : zSs × Nat} (hR : R = sp_scr (I 315) N (I 313) c 31 0 (t_beg I N) (I 317)) (h0 : R.1.1 = 0)
    (hJ : J = up (sput (kp (kSR I N c v) n c a) 288 (s_run (cvt (kSC I N c v).1.2.2.1) (kSC I N c v).2 0 (vB I 288)).2 (s_cur (s_run (cvt (kSC I N c v).1.2.2.1) (kSC I N c v).2 0 (vB I 288)).2)) 319 0 z) :
    (s_run (cvt (kSC I N c v).1.2.2.1) (kSC I N c v).2 0 (vB I 288)).1 = (s_run R.1.2.2 R.2 0 (s_rem (I 313) m)).1 ∧
    Rel (rM (ups J 317 R.1.2.2) (upd (upd (upd (rF (bF (I 312)) R.1.1 R.1.2.1) 4 0) 9 0) 2 (nI (min (m + 1) 6))) (s_run R.1.2.2 R.2 0 (s_rem (I 313) m)).2) := by
  obtain ⟨p1, p2, p3, p4⟩ := script_both hB hO hv hR
  obtain ⟨hm30, hrow⟩ := p4 h0
  rw [p3] at hJ ⊢
  have hO2 : oR (s_rem (I 313) m) (vB I 288) (I 288 7) n c t := hO.cgB (fun k hk => rem_lo hk)
  obtain ⟨q1, ⟨n', t', q2⟩, q3⟩ := run_both (E := cvt (kSC I N c v).1.2.2.1) (D := R.1.2.2) R.2 0 (s_rem (I 313) m) (vB I 288) (I 288 7) n t hO2 (fun i hi => hrow i (by omega))
  refine ⟨q1, ?_⟩
  have hI1r : ∀ q, q < 312 → rM (kSR I N c v) (upd (rF (bF (I 312)) R.1.1 R.1.2.1) 4 0) (I 313) q = kSR I N c v q := fun q hq => rM_ot (by omega) (by omega)
  have hI1x : ∀ q, q = 314 ∨ q = 315 ∨ q = 316 → rM (kSR I N c v) (upd (rF (bF (I 312)) R.1.1 R.1.2.1) 4 0) (I 313) q = I q := fun q hq => by
    rw [rM_ot (by omega) (by omega)]
    exact kSR_hi (by omega)
  have hI113 : rM (kSR I N c v) (upd (rF (bF (I 312)) R.1.1 R.1.2.1) 4 0) (I 313) 313 = I 313 := rM_313
  have hI112 : rM (kSR I N c v) (upd (rF (bF (I 312)) R.1.1 R.1.2.1) 4 0) (I 313) 312 = upd (rF (bF (I 312)) R.1.1 R.1.2.1) 4 0 := rM_312
  generalize rM (kSR I N c v) (upd (rF (bF (I 312)) R.1.1 R.1.2.1) 4 0) (I 313) = I1 at hI1r hI1x hI113 hI112
  have h1 : Rel I1 := Rel_scr h hB hO hv hR hI1r hI113 (hI1x 314 (by omega)) (hI1x 315 (by omega)) (hI1x 316 (by omega)) (fun k hk => by rw [hI112])
  have e1 : ∀ q, 87 ≤ q → q < 312 → q ≠ 285 → q ≠ 286 → q ≠ 287 → I1 q = I q := fun q a1 a2 a3 a4 a5 => (hI1r q a2).trans (kSR_hi (by omega))
  have hO1 : RelO I1 n c t := hO.fr (fun q a1 a2 => e1 q (by omega) a2 (by omega) (by omega) (by omega)) (fun k hk => by rw [hI113])
  have hH1 : RelH I1 a m := hH.fr (fun q a1 a2 => e1 q (by omega) (by omega) (by omega) (by omega) (by omega)) (by rw [hI112, upd_ne _ _ (by decide), rF_lo (Or.inl rfl)]) (fun k a1 a2 => by rw [hI113])
  refine Rel_change h1 hO1 hH1 q2 (fun k hk => by rw [hI113]; exact q3 k hk) (fun q hq => ?_) rM_313 (fun k hk => ?_) ?_ (fun q hq => ?_)
  · rw [rM_ot (by omega) (by omega), ups_far (by omega), hJ, up_far (by omega)]
    exact (sput_cg rfl (fun _ _ => rfl) (kp_cg hI1r hq)).symm
  · rw [rM_312, upd_ne _ _ (by omega), upd_ne _ _ (by omega), hI112]
  · rw [rM_312, upd_same]
  · rw [rM_ot (by omega) (by omega), ups_far (by omega), hJ, up_far (by omega), so_r (by omega), kp_hi (by omega), hI1x q hq]
    exact kSR_hi (by omega)
end REQ
