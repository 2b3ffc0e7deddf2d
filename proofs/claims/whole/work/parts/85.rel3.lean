/-! THE RELATION IS KEPT: bytes put, texts read -/
/-! bits of a shifted number (after kit/laws/BITS) -/
def qb (x : Int32) (i : Nat) : Bool := x.toBitVec.getLsbD i
theorem qb_and (x y : Int32) (i : Nat) : qb (x &&& y) i = (qb x i && qb y i) := by unfold qb; rw [Int32.toBitVec_and, BitVec.getLsbD_and]
theorem qb_255 : ∀ i, i < 32 → qb 255 i = decide (i < 8) := by decide +kernel
theorem qs_l : ∀ n, n < 32 → ((nI n &&& 31).toBitVec.smod 32).toNat = n := by decide +kernel
theorem qs_u : ∀ n, n < 32 → (((nI n).toUInt32 &&& Int32.toUInt32 31).toBitVec % 32).toNat = n := by decide +kernel
theorem qb_ushr (n : Nat) (hn : n < 32) (x : Int32) (i : Nat) : qb ((x.toUInt32 >>> ((nI n).toUInt32 &&& Int32.toUInt32 31)).toInt32) i = qb x (n + i) := by
  show (x.toUInt32 >>> ((nI n).toUInt32 &&& Int32.toUInt32 31)).toBitVec.getLsbD i = x.toUInt32.toBitVec.getLsbD (n + i)
  rw [UInt32.toBitVec_shiftRight]
  show (x.toUInt32.toBitVec >>> (((nI n).toUInt32 &&& Int32.toUInt32 31).toBitVec % 32).toNat).getLsbD i = _
  rw [qs_u n hn, BitVec.getLsbD_ushiftRight]
theorem qb_sshr (n : Nat) (hn : n < 32) (x : Int32) {i : Nat} (hi : i < 32) : qb (x >>> (nI n &&& 31)) i = if n + i < 32 then qb x (n + i) else qb x 31 := by
  unfold qb
  rw [Int32.toBitVec_shiftRight]
  show (x.toBitVec.sshiftRight ((nI n &&& 31).toBitVec.smod 32).toNat).getLsbD i = _
  rw [qs_l n hn, BitVec.getLsbD_sshiftRight, BitVec.msb_eq_getLsbD_last]
  simp [hi]
theorem i8_cg {x y : Int32} (h : ∀ i, i < 8 → qb x i = qb y i) : x.toInt8.toInt32 = y.toInt8.toInt32 := by
  have e : x.toInt8 = y.toInt8 := by
    apply Int8.toBitVec_inj.mp
    rw [Int32.toBitVec_toInt8, Int32.toBitVec_toInt8]
    apply BitVec.eq_of_getLsbD_eq
    intro i hi
    rw [BitVec.getLsbD_signExtend, BitVec.getLsbD_signExtend, if_pos (by omega), if_pos (by omega)]
    have z := h i hi
    unfold qb at z
    rw [z]
  rw [e]
theorem and_255 (x : Int32) : 0 ≤ x &&& 255 ∧ x &&& 255 ≤ 255 := by
  have e : x &&& 255 = nI (x.toBitVec.toNat % 256) := by
    apply Int32.toBitVec_inj.mp
    rw [Int32.toBitVec_and]
    apply BitVec.eq_of_toNat_eq
    show (x.toBitVec &&& 255#32).toNat = (BitVec.ofNat 32 (x.toBitVec.toNat % 256)).toNat
    rw [BitVec.toNat_and, BitVec.toNat_ofNat, BitVec.toNat_ofNat, Nat.mod_eq_of_lt (show 255 < 2 ^ 32 by decide), show (255 : Nat) = 2 ^ 8 - 1 from rfl, Nat.and_two_pow_sub_one_eq_mod, Nat.mod_eq_of_lt (show x.toBitVec.toNat % 256 < 2 ^ 32 by omega)]
  rw [e]
  exact ⟨nI_pos' (by omega), nI_le (b := 255) (by omega) (by omega)⟩
theorem wb_ok {x : Int32} {n : Nat} (hn : n = 8 ∨ n = 16 ∨ n = 24) : kb x (nI n) = (wb x (nI n)).toInt8.toInt32 ∧ 0 ≤ wb x (nI n) ∧ wb x (nI n) ≤ 255 := by
  refine ⟨?_, and_255 _⟩
  unfold kb wb
  refine i8_cg (fun i hi => ?_)
  rw [qb_ushr n (by omega), qb_and, qb_sshr n (by omega) x (by omega), qb_255 i (by omega), decide_eq_true hi, Bool.and_true, if_pos (by omega)]
theorem wb_0 {x : Int32} : x.toInt8.toInt32 = (wb x 0).toInt8.toInt32 ∧ 0 ≤ wb x 0 ∧ wb x 0 ≤ 255 := by
  refine ⟨?_, and_255 _⟩
  unfold wb
  refine i8_cg (fun i hi => ?_)
  have e := qb_sshr 0 (by omega) x (i := i) (by omega)
  rw [if_pos (by omega), Nat.zero_add] at e
  rw [qb_and, qb_255 i (by omega), decide_eq_true hi, Bool.and_true]
  exact e.symm
section REN
variable {b b' : zBk} {N : Nat}
theorem bR_mono (h : bR b b' N) {M : Nat} (hM : M ≤ N) : bR b b' M := fun j hj => h j (by omega)
theorem bR_up (h : bR b b' N) {x y : Int32} (hx : y = x.toInt8.toInt32 ∧ 0 ≤ x ∧ x ≤ 255) : bR (upd b N x) (upd b' N y) (N + 1) := fun j hj => by
  by_cases e : j = N
  · rw [e, upd_same, upd_same]; exact hx
  · rw [upd_ne _ _ e, upd_ne _ _ e]; exact h j (by omega)
theorem bR_wd (h : bR b b' N) {x : Int32} : bR (a_wd b N x) (k_wd b' N x) (N + 4) :=
  bR_up (bR_up (bR_up (bR_up h (wb_ok (n := 24) (by omega))) (wb_ok (n := 16) (by omega))) (wb_ok (n := 8) (by omega))) wb_0
theorem bR_ap (h : bR b b' N) {x1 x2 x3 x4 x5 : Int32} : bR (a_ap b N x1 x2 x3 x4 x5) (k_ap b' N x1 x2 x3 x4 x5) (N + 20) :=
  bR_wd (bR_wd (bR_wd (bR_wd (bR_wd h))))
end REN
section REP
variable {I J : zM} {n c t a m N M s : Nat} {z v : Int32}
/-- a call that touches the input, the spare state and the script's rows -/
theorem Rel_buf4 (h : Rel I) {N' : Nat} (hN : RelB J N') (hE : RelE J) (h1 : nmB J 1) (hr : ∀ r, 87 ≤ r → r < 312 → r ≠ 285 → r ≠ 286 → r ≠ 287 → J r = I r) (h13 : ∀ k, k < 1440 → J 313 k = I 313 k) (h14 : J 314 = I 314) (h16 : J 316 = I 316) (h12 : ∀ k, (k = 2 ∨ k = 8) → J 312 k = I 312 k) : Rel J := by
  obtain ⟨-, hS, ⟨n, c, t, hO⟩, ⟨a, m, hH⟩, -, -, M, hW⟩ := h
  exact ⟨h1, hS.fr (fun r a1 a2 => hr r (by omega) (by omega) (by omega) (by omega) (by omega)) h14 (fun k a1 a2 => h13 k (by omega)), ⟨n, c, t, hO.fr (fun r a1 a2 => hr r (by omega) (by omega) (by omega) (by omega) (by omega)) (fun k hk => h13 k (by omega))⟩, ⟨a, m, hH.fr (fun r a1 a2 => hr r (by omega) (by omega) (by omega) (by omega) (by omega)) (h12 2 (by omega)) (fun k a1 a2 => h13 k (by omega))⟩, ⟨N', hN⟩, hE, M, hW.fr (h12 8 (by omega)) (hr 87 (by decide) (by decide) (by decide) (by decide) (by decide)) (hr 88 (by decide) (by decide) (by decide) (by decide) (by decide)) h16⟩
/-- append -/
theorem Rel_append (h : Rel I) (hB : RelB I N) (hN : N + 20 ≤ 600) {x1 x2 x3 x4 x5 : Int32} (hz : J = up (pM I (upd (I 285) 1 (nI (N + 20))) (k_ap (I 286) N x1 x2 x3 x4 x5)) 319 0 z) :
    Rel (aM J (upd (upd (J 312) 9 0) 4 (nI (N + 20))) (a_ap (J 315) N x1 x2 x3 x4 x5)) := by
  have hJ : ∀ r, r ≠ 319 → r ≠ 285 → r ≠ 286 → J r = I r := fun r a1 a2 a3 => by rw [hz, up_far a1, pM_ot a2 a3]
  have hJ5 : J 285 = upd (I 285) 1 (nI (N + 20)) := by rw [hz, up_far (by decide), pM_285]
  have hJ6 : J 286 = k_ap (I 286) N x1 x2 x3 x4 x5 := by rw [hz, up_far (by decide), pM_286]
  clear hz
  rw [hJ 312 (by decide) (by decide) (by decide), hJ 315 (by decide) (by decide) (by decide)]
  have hR : ∀ r, r ≠ 312 → r ≠ 315 → aM J (upd (upd (I 312) 9 0) 4 (nI (N + 20))) (a_ap (I 315) N x1 x2 x3 x4 x5) r = J r := fun r a1 a2 => by
    unfold aM
    rw [ups_far a1, ups_far a2]
  have hE := h.2.2.2.2.2.1
  refine Rel_buf4 h (N' := N + 20) ⟨?_, ?_, hN, ?_⟩ ⟨?_, ?_⟩ (nm1 h (fun r hr => ?_)) (fun r a1 a2 a3 a4 a5 => ?_) (fun k hk => ?_) ?_ ?_ (fun k hk => ?_)
  · rw [aM_312, upd_same]
  · rw [hR 285 (by decide) (by decide), hJ5, upd_same]
  · rw [aM_315, hR 286 (by decide) (by decide), hJ6]
    exact bR_ap hB.2.2.2
  · rw [aM_312, upd_ne _ _ (by decide), upd_ne _ _ (by decide), hR 285 (by decide) (by decide), hJ5, upd_ne _ _ (by decide)]
    exact hE.1
  · rw [aM_312, upd_ne _ _ (by decide), upd_ne _ _ (by decide), hR 285 (by decide) (by decide), hJ5, upd_ne _ _ (by decide)]
    exact hE.2
  · rw [hR r (by omega) (by omega), hJ r (by omega) (by omega) (by omega)]
  · rw [hR r (by omega) (by omega), hJ r (by omega) (by omega) (by omega)]
  · rw [hR 313 (by decide) (by decide), hJ 313 (by decide) (by decide) (by decide)]
  · rw [hR 314 (by decide) (by decide), hJ 314 (by decide) (by decide) (by decide)]
  · rw [hR 316 (by decide) (by decide), hJ 316 (by decide) (by decide) (by decide)]
  · rw [aM_312, upd_ne _ _ (by omega), upd_ne _ _ (by omega)]
/-- truncate -/
theorem Rel_trunc (h : Rel I) (hB : RelB I N) {x : Int32} (hx : s_in x 0 (I 312 4) = true) (hz : J = up (up I 285 1 x) 319 0 z) :
    Rel (ups J 312 (upd (upd (J 312) 9 0) 4 x)) := by
  obtain ⟨b1, b2, b3, b4⟩ := hB
  obtain ⟨p1, p2⟩ := in_le hx
  rw [b1] at p2
  obtain ⟨N', hN', eN'⟩ := i_of (M := nI N) (n := N) (nI_toInt (by omega)) p1 p2
  have hJ : ∀ r, r ≠ 319 → r ≠ 285 → J r = I r := fun r a1 a2 => by rw [hz, up_far a1, up_far a2]
  have hJ5 : J 285 = upd (I 285) 1 x := by rw [hz, up_far (by decide), up_def, ups_same]
  clear hz
  rw [hJ 312 (by decide) (by decide)]
  have hR : ∀ r, r ≠ 312 → ups J 312 (upd (upd (I 312) 9 0) 4 x) r = J r := fun r a1 => ups_far a1
  have hE := h.2.2.2.2.2.1
  refine Rel_buf4 h (N' := N') ⟨?_, ?_, by omega, ?_⟩ ⟨?_, ?_⟩ (nm1 h (fun r hr => ?_)) (fun r a1 a2 a3 a4 a5 => ?_) (fun k hk => ?_) ?_ ?_ (fun k hk => ?_)
  · rw [ups_same, upd_same, eN']
  · rw [hR 285 (by decide), hJ5, upd_same, eN']
  · rw [hR 315 (by decide), hR 286 (by decide), hJ 315 (by decide) (by decide), hJ 286 (by decide) (by decide)]
    exact bR_mono b4 hN'
  · rw [ups_same, upd_ne _ _ (by decide), upd_ne _ _ (by decide), hR 285 (by decide), hJ5, upd_ne _ _ (by decide)]
    exact hE.1
  · rw [ups_same, upd_ne _ _ (by decide), upd_ne _ _ (by decide), hR 285 (by decide), hJ5, upd_ne _ _ (by decide)]
    exact hE.2
  · rw [hR r (by omega), hJ r (by omega) (by omega)]
  · rw [hR r (by omega), hJ r (by omega) (by omega)]
  · rw [hR 313 (by decide), hJ 313 (by decide) (by decide)]
  · rw [hR 314 (by decide), hJ 314 (by decide) (by decide)]
  · rw [hR 316 (by decide), hJ 316 (by decide) (by decide)]
  · rw [ups_same, upd_ne _ _ (by omega), upd_ne _ _ (by omega)]
/-- the error that a text leaves is the same on both sides -/
theorem err_r {F : zBk} {code : Nat} {t : zTk} : (rF (bF F) code t) 5 = nI code ∧ (rF (bF F) code t) 6 = if code = 0 then -1 else nI t.2.1 := by
  unfold rF
  by_cases e : code = 0
  · rw [if_pos e, if_pos e, e]
    exact ⟨rfl, rfl⟩
  · rw [if_neg e, if_neg e]
    exact ⟨rfl, rfl⟩
theorem err_k {F : zBk} {code : Nat} {t : zTk} : (kF (upd (upd F 6 0) 7 (-1)) code t) 6 = nI code ∧ (kF (upd (upd F 6 0) 7 (-1)) code t) 7 = if code = 0 then -1 else nI t.2.1 := by
  unfold kF
  by_cases e : code = 0
  · rw [if_pos e, if_pos e, e]
    exact ⟨rfl, rfl⟩
  · rw [if_neg e, if_neg e]
    exact ⟨rfl, rfl⟩
theorem rF_lo {F : zBk} {code k : Nat} {t : zTk} (h : k = 2 ∨ k = 8) : (rF (bF F) code t) k = F k := by
  unfold rF bF wr_put rt_put
  rcases h with rfl | rfl
  · split <;> rfl
  · split <;> rfl
/-- the memory behind a setup that the class has read -/
theorem kLM_ot {q : Nat} (h1 : q < 1 ∨ 25 ≤ q) (h2 : q ≠ 285) (h3 : q ≠ 287) : kLM I N v q = I q := by
  unfold kLM kSM
  rw [up_far h2, xR_ot (by omega) h2 h3]
  unfold kbI
  rw [ups_far h2]
theorem kLM_sp {q : Nat} (h1 : 1 ≤ q) (h2 : q < 25) : kLM I N v q = sput (kbI I) 1 (kSU I 1 N v).2.2.1 (if (kx_two (I 286) N (tq_tk (I 286) N 0 v) (vB I 1) (I 287)).1 = 0 then -1 else I 1 7) q := by
  unfold kLM kSM
  rw [up_far (by omega), xR_st (Or.inl (by omega)) h1 (by omega)]
theorem kLM_285 {k : Nat} : kLM I N v 285 k = if k = 1 then 0 else kF (upd (upd (I 285) 6 0) 7 (-1)) (kSU I 1 N v).1 (kSU I 1 N v).2.1 k := by
  unfold kLM kSM
  by_cases e : k = 1
  · rw [if_pos e, e, up_at]
  · rw [if_neg e, up_at2 e, xR_285]
    unfold kbI
    rw [ups_same]
theorem kLM_nm (hB : RelB I N) (h1 : nmB I 1) : nmB (kLM I N v) 1 := by
  have hb : ∀ j, j < N → bt (I 286 j) := fun j hj => bR_bt hB.2.2.2 hj
  have z := (setup_ok (A := I 287) hB.2.2.1 hb (tk_ok (v := v) (Nat.zero_le N)) (nmK_B.mp h1)).1
  refine nmB_fr (I := sput (kbI I) 1 (kSU I 1 N v).2.2.1 (if (kx_two (I 286) N (tq_tk (I 286) N 0 v) (vB I 1) (I 287)).1 = 0 then -1 else I 1 7)) (fun r a1 a2 => kLM_sp a1 (by omega)) (nmB_sp z)
theorem load_both (hB : RelB I N) (h1 : nmB I 1) (hv : v = I 312 13) {B : zBk} : (kSU I 1 N v).1 = (rp_setup (I 315) N (t_beg I N) B).1 ∧ (kSU I 1 N v).2.1 = (rp_setup (I 315) N (t_beg I N) B).2.1 ∧ ((rp_setup (I 315) N (t_beg I N) B).1 = 0 → ∃ n c, oR (rp_setup (I 315) N (t_beg I N) B).2.2 (kSU I 1 N v).2.2.1 (-1) n c 0) := by
  have hok : tOK (I 315) N (t_beg I N) := tk_ok (Nat.zero_le N)
  have e : tq_tk (I 286) N 0 v = t_beg I N := by
    rw [hv]
    exact bR_tk hB.2.2.2 (Nat.zero_le N) _
  unfold kSU
  rw [e]
  exact setup_both hB.2.2.2 hB.2.2.1 hok (nmK_B.mp h1)
/-- a text with an error -/
theorem Rel_bad (h : Rel I) (hB : RelB I N) (hv : v = I 312 13) {r : zRs} (hr : r = rp_setup (I 315) N (t_beg I N) (s_aside (I 313))) (hJ : J = kLM I N v) :
    Rel (rM J (upd (lF (J 312) r) 9 1) (s_aside (J 313))) := by
  obtain ⟨e1, e2, -⟩ := load_both (v := v) hB h.1 hv (B := s_aside (I 313))
  rw [← hr] at e1 e2
  subst hJ
  have k12 : kLM I N v 312 = I 312 := kLM_ot (by omega) (by decide) (by decide)
  have k13 : kLM I N v 313 = I 313 := kLM_ot (by omega) (by decide) (by decide)
  rw [k12, k13]
  have hR : ∀ q, q ≠ 312 → q ≠ 313 → rM (kLM I N v) (upd (lF (I 312) r) 9 1) (s_aside (I 313)) q = kLM I N v q := fun q a1 a2 => rM_ot a1 a2
  have e285 : ∀ k, rM (kLM I N v) (upd (lF (I 312) r) 9 1) (s_aside (I 313)) 285 k = if k = 1 then 0 else kF (upd (upd (I 285) 6 0) 7 (-1)) r.1 r.2.1 k := fun k => by rw [hR 285 (by decide) (by decide), kLM_285, e1, e2]
  refine Rel_buf4 h (N' := 0) ⟨?_, ?_, by omega, fun j hj => absurd hj (Nat.not_lt_zero j)⟩ ⟨?_, ?_⟩ ?_ (fun q a1 a2 a3 a4 a5 => ?_) (fun k hk => ?_) ?_ ?_ (fun k hk => ?_)
  · rw [rM_312, upd_ne _ _ (by decide)]
    unfold lF
    rw [upd_same]; rfl
  · rw [e285, if_pos rfl]; rfl
  · rw [e285, if_neg (by decide), err_k.1, rM_312, upd_ne _ _ (by decide)]
    unfold lF
    rw [upd_ne _ _ (by decide), err_r.1]
  · rw [e285, if_neg (by decide), err_k.2, rM_312, upd_ne _ _ (by decide)]
    unfold lF
    rw [upd_ne _ _ (by decide), err_r.2]
  · exact nmB_fr (fun q a1 a2 => hR q (by omega) (by omega)) (kLM_nm hB h.1)
  · rw [hR q (by omega) (by omega), kLM_ot (by omega) a3 a5]
  · rw [rM_313, aside_lo hk]
  · rw [hR 314 (by decide) (by decide), kLM_ot (by omega) (by decide) (by decide)]
  · rw [hR 316 (by decide) (by decide), kLM_ot (by omega) (by decide) (by decide)]
  · rw [rM_312, upd_ne _ _ (by omega)]
    unfold lF
    rw [upd_ne _ _ (by omega), rF_lo hk]
/-- a text that is right -/
theorem Rel_good (h : Rel I) (hB : RelB I N) (hv : v = I 312 13) {r : zRs} (hr : r = rp_setup (I 315) N (t_beg I N) (s_aside (I 313))) (h0 : r.1 = 0) (hO : oR r.2.2 (kSU I 1 N v).2.2.1 (-1) n c 0) (hJ : J = up (kLD (kLM I N v) n c) 319 0 z) :
    Rel (up (up (rM J (upd (upd (lF (J 312) r) 9 0) 2 0) r.2.2) 314 0 (vp_nar .boolean 0)) 314 1 (vp_nar .boolean 0)) := by
  obtain ⟨e1, e2, -⟩ := load_both (v := v) hB h.1 hv (B := s_aside (I 313))
  rw [← hr] at e1 e2
  have hnm1 := kLM_nm (v := v) hB h.1
  obtain ⟨h1, hS, ⟨n0, c0, t0, hO0⟩, ⟨a, m, hH⟩, -, hE, M, hW⟩ := h
  obtain ⟨⟨g1, g2⟩, ⟨g3, g4⟩, g5, g6, g7⟩ := hH
  have hL : ∀ q, q ≠ 319 → q ≠ 236 → q ≠ 89 → (q < 288 ∨ 312 ≤ q) → J q = kLM I N v q := fun q a1 a2 a3 a4 => by
    rw [hJ, up_far a1]
    unfold kLD
    rw [up_far a2, up_far a2, up_far a3, cpr a4]
  have hL8 : ∀ q, 288 ≤ q → q < 312 → J q = cpS (kLM I N v) 288 1 n c q := fun q a1 a2 => by
    rw [hJ, up_far (by omega)]
    unfold kLD
    rw [up_far (by omega), up_far (by omega), up_far (by omega)]
  have hL9 : J 89 1 = 0 ∧ J 89 2 = nI a := by
    rw [hJ, up_far (by decide)]
    unfold kLD
    rw [up_far (by decide), up_far (by decide)]
    exact ⟨up_at, by rw [up_at2 (by decide), cpr (by omega), kLM_ot (by omega) (by decide) (by decide)]; exact g1⟩
  have hL6 : ∀ k, k < 2 → J 236 k = vp_nar .boolean 0 := fun k hk => by
    rw [hJ, up_far (by decide)]
    unfold kLD
    by_cases e : k = 1
    · rw [e, up_at]
    · rw [up_at2 e, show k = 0 by omega, up_at]
  clear hJ
  have k12 : J 312 = I 312 := (hL 312 (by decide) (by decide) (by decide) (by omega)).trans (kLM_ot (by omega) (by decide) (by decide))
  rw [k12]
  have hR : ∀ q, q ≠ 312 → q ≠ 313 → q ≠ 314 → up (up (rM J (upd (upd (lF (I 312) r) 9 0) 2 0) r.2.2) 314 0 (vp_nar .boolean 0)) 314 1 (vp_nar .boolean 0) q = J q := fun q a1 a2 a3 => by rw [up_far a3, up_far a3, rM_ot a1 a2]
  have hR12 : ∀ k, up (up (rM J (upd (upd (lF (I 312) r) 9 0) 2 0) r.2.2) 314 0 (vp_nar .boolean 0)) 314 1 (vp_nar .boolean 0) 312 k = upd (upd (lF (I 312) r) 9 0) 2 0 k := fun k => by rw [up_far (by decide), up_far (by decide), rM_312]
  have hR13 : up (up (rM J (upd (upd (lF (I 312) r) 9 0) 2 0) r.2.2) 314 0 (vp_nar .boolean 0)) 314 1 (vp_nar .boolean 0) 313 = r.2.2 := by rw [up_far (by decide), up_far (by decide), rM_313]
  have hR14 : ∀ k, k < 2 → up (up (rM J (upd (upd (lF (I 312) r) 9 0) 2 0) r.2.2) 314 0 (vp_nar .boolean 0)) 314 1 (vp_nar .boolean 0) 314 k = vp_nar .boolean 0 := fun k hk => by
    by_cases e : k = 1
    · rw [e, up_at]
    · rw [up_at2 e, show k = 0 by omega, up_at]
  generalize up (up (rM J (upd (upd (lF (I 312) r) 9 0) 2 0) r.2.2) 314 0 (vp_nar .boolean 0)) 314 1 (vp_nar .boolean 0) = R at hR hR12 hR13 hR14
  have hRI : ∀ q, 25 ≤ q → q ≠ 285 → q ≠ 287 → q ≠ 312 → q ≠ 313 → q ≠ 314 → q ≠ 319 → q ≠ 236 → q ≠ 89 → (q < 288 ∨ 312 ≤ q) → R q = I q := fun q a0 a1 a2 a3 a4 a5 a6 a7 a8 a9 => by
    rw [hR q a3 a4 a5, hL q a6 a7 a8 a9, kLM_ot (by omega) a1 a2]
  have e285 : ∀ k, R 285 k = if k = 1 then 0 else kF (upd (upd (I 285) 6 0) 7 (-1)) r.1 r.2.1 k := fun k => by
    rw [hR 285 (by decide) (by decide) (by decide), hL 285 (by decide) (by decide) (by decide) (by omega), kLM_285, e1, e2]
  have hnar : vp_nar .boolean 0 = 0 := by decide
  refine ⟨?_, fun j hj => ⟨?_, ?_, fun q => ?_⟩, ⟨n, c, 0, ?_⟩, ⟨a, 0, ⟨?_, g2⟩, ⟨?_, by omega⟩, ?_, fun j hj => ?_, fun i hi => absurd hi (Nat.not_lt_zero i)⟩, ⟨0, ?_, ?_, by omega, fun j hj => absurd hj (Nat.not_lt_zero j)⟩, ⟨?_, ?_⟩, M, hW.fr ?_ ?_ ?_ ?_⟩
  · exact nmB_fr (fun q a1 a2 => (hR q (by omega) (by omega) (by omega)).trans (hL q (by omega) (by omega) (by omega) (by omega))) hnm1
  · exact nmB_fr (fun q a1 a2 => hRI q (by omega) (by omega) (by omega) (by omega) (by omega) (by omega) (by omega) (by omega) (by omega) (by omega)) (hS j hj).1
  · rw [hR14 j hj, hR 236 (by decide) (by decide) (by decide), hL6 j hj]
  · rw [hR 236 (by decide) (by decide) (by decide), hL6 j hj] at q
    exact absurd hnar q
  · have two : (kx_two (I 286) N (tq_tk (I 286) N 0 v) (vB I 1) (I 287)).1 = 0 := by
      have z : (kSU I 1 N v).1 = 0 := e1.trans h0
      unfold kSU kx_setup at z
      by_cases e : (kx_two (I 286) N (tq_tk (I 286) N 0 v) (vB I 1) (I 287)).1 = 0
      · exact e
      · rw [if_neg e] at z
        exact absurd z e
    have o1 : oR r.2.2 (vB (kLM I N v) 1) (kLM I N v 1 7) n c 0 := by
      rw [kLM_sp (q := 1) (by omega) (by omega), sp7, if_pos two]
      refine hO.cgC2 (fun k hk => ?_)
      rw [vB_k (J := kLM I N v) (I := sput (kbI I) 1 (kSU I 1 N v).2.2.1 (if (kx_two (I 286) N (tq_tk (I 286) N 0 v) (vB I 1) (I 287)).1 = 0 then -1 else I 1 7)) (fun q a1 a2 => kLM_sp a1 (by omega)) hk]
      exact vB_sp hk
    have n288 : nmB (kLM I N v) 288 := nmB_fr (fun q a1 a2 => kLM_ot (by omega) (by omega) (by omega)) hO0.nm
    have o := cps_oR (s := 288) o1 n288 hnm1
    have e : ∀ q, 288 ≤ q → q < 288 + 24 → R q = cpS (kLM I N v) 288 1 n c q := fun q a1 a2 => (hR q (by omega) (by omega) (by omega)).trans (hL8 q a1 (by omega))
    unfold RelO
    rw [hR13, e 288 (by omega) (by omega)]
    exact o.cgC2 (fun k hk => vB_k e hk)
  · rw [hR 89 (by decide) (by decide) (by decide), hL9.2]
  · rw [hR 89 (by decide) (by decide) (by decide), hL9.1]; rfl
  · rw [hR12, upd_same]; rfl
  · exact nmB_fr (fun q a1 a2 => hRI q (by omega) (by omega) (by omega) (by omega) (by omega) (by omega) (by omega) (by omega) (by omega) (by omega)) (g6 j hj)
  · rw [hR12, upd_ne _ _ (by decide), upd_ne _ _ (by decide)]
    unfold lF
    rw [upd_same]; rfl
  · rw [e285, if_pos rfl]; rfl
  · rw [e285, if_neg (by decide), err_k.1, hR12, upd_ne _ _ (by decide), upd_ne _ _ (by decide)]
    unfold lF
    rw [upd_ne _ _ (by decide), err_r.1]
  · rw [e285, if_neg (by decide), err_k.2, hR12, upd_ne _ _ (by decide), upd_ne _ _ (by decide)]
    unfold lF
    rw [upd_ne _ _ (by decide), err_r.2]
  · rw [hR12, upd_ne _ _ (by decide), upd_ne _ _ (by decide)]
    unfold lF
    rw [upd_ne _ _ (by decide), rF_lo (by omega)]
  · exact hRI 87 (by omega) (by decide) (by decide) (by decide) (by decide) (by decide) (by decide) (by decide) (by decide) (by omega)
  · exact hRI 88 (by omega) (by decide) (by decide) (by decide) (by decide) (by decide) (by decide) (by decide) (by decide) (by omega)
  · exact hRI 316 (by omega) (by decide) (by decide) (by decide) (by decide) (by decide) (by decide) (by decide) (by decide) (by omega)
end REP
