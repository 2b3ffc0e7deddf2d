/-! THE OFFICE: a script is read and run -/
section CRS
variable {G : zG} {w : Nat × Nat} {gl : Launch} {I : zM} {N n c t a m : Nat} {cu : Int32}
/-- a script that was read, from I on -/
def kSC (I : zM) (N c : Nat) (v : Int32) : zCs × Nat := kc_scr (I 286) N (vB I 288) c 31 0 (tq_tk (I 286) N 0 v) I (I 287)
def kSCM (I : zM) (R : zCs × Nat) : zM := xR (dput (kbI I) R.1.2.2.1 (nI R.2)) 288 (I 288 7) (R.1.1, R.1.2.1, vB I 288, R.1.2.2.2)
theorem dput_self (I : zM) : dput (kbI I) I (I 25 1) = kbI I := by
  funext r
  by_cases h : 27 ≤ r ∧ r < 87
  · rw [dput_in h.1 h.2]; unfold kbI; rw [ups_ne _ _ (by omega)]
  · by_cases h2 : r = 25
    · subst h2
      rw [dput_25]; unfold kbI; rw [ups_ne _ _ (by omega)]
      exact upd_id rfl
    · rw [dput_ot (by omega) h2]
theorem x_scr (hsc : isT w 7 25) (hm : isT w 4 285) (hs : isT w 9 288) (hp : pOK I 288 N) (h7 : vB I 288 7 = nI c) (hL : nmL (vB I 288) c) (v : Int32) {R : zCs × Nat} (hR : R = kSC I N c v) : CT G w gl (yX7_read, cX7_read, 5, some .boolean) 6 (0, 0) [.ref 25, .ref 285, .ref 290] I (qE (b2 (decide (R.1.1 = 0))) (kSCM I R)) nX := by
  refine ct_of (by decide) [(0, .ref 25), (1, .ref 285), (2, .ref 290)] rfl rfl (fun K hG hw hgl hwo hK => ?_)
  subst hG; subst hw; subst hgl
  have D0 : ((0, 0) : Nat × Nat).1 ≤ ((0, 0) : Nat × Nat).1 ∧ ((0, 0) : Nat × Nat).2 ≤ ((0, 0) : Nat × Nat).2 := ⟨Nat.le_refl _, Nat.le_refl _⟩
  have hcl : isT (kw K) 1 290 := hs.clk hwo
  have hb := k_begin (G := kG K) (gl := kl K) (I := I) (N := N) hm v hp.2.1 hp.2.2
  rw [kb_xR hp.1] at hb
  have hp' : pOK (kbI I) 288 N := ⟨hp.1, by unfold kbI; rw [ups_same, upd_ne _ _ (by decide), upd_ne _ _ (by decide)]; exact hp.2.1, hp.2.2⟩
  have e6 : ∀ (D : zM) (x : Int32), dput (kbI I) D x 286 = I 286 := fun D x => by rw [dput_ot (by omega) (by omega), kbI_286]
  have hok : tOK (I 286) N (tq_tk (I 286) N 0 v) := tk_ok (Nat.zero_le _)
  refine bX7_read_0 hK hwo hsc hm hcl D0 hb ?_
  have key : ∀ k n (t : zTk) (D : zM) (A : Nat → Int32), k + n = 31 → n ≤ 30 → tOK (I 286) N t → R = kc_scr (I 286) N (vB I 288) c k n t D A → ZZ K (0, 0) 11 [(0, .ref 25), (1, .ref 285), (2, .ref 290), (3, .int (nI n))] [] (xR (dput (kbI I) D (nI n)) 288 (I 288 7) (0, t, vB I 288, A)) := by
    intro k
    induction k with
    | zero => intro n t D A h1 h2; omega
    | succ k ih =>
      intro n t D A h1 h2 hok hR
      have nlt : ¬ (30 : Int32) < nI n := fun z => by have := (nI_ltI (a := 30) (b := n) (by omega) (by omega)).mp z; omega
      have k0 : xR (dput (kbI I) D (nI n)) 288 (I 288 7) (0, t, vB I 288, A) 285 2 = 0 ↔ t.1 = 0 := by
        rw [xR_2 hp.1]; have := hok.1; exact nI_eq (a := t.1) (b := 0) (by omega) (by omega)
      unfold kc_scr at hR
      by_cases ht0 : t.1 = 0
      · rw [if_pos ht0] at hR
        rw [hR] at hK
        have e4 := k0.mpr ht0
        exact bX7_read_11 (mc7 := (0, 0)) (x7 := nX) (f7 := 0) (g7 := I) (g10 := I) (f11 := 0) (g11 := I) (f16 := 0) (g16 := I) (f20 := 0) (g20 := I) hK hwo hsc hm hcl D0 (fun z => absurd z nlt) D0 (fun _ _ => qE_i rfl rfl) D0 (fun _ z => absurd e4 z) (fun _ z => absurd e4 z) D0 (fun _ z => absurd e4 z) D0 (fun _ z => absurd e4 z) (fun _ z => absurd e4 z) D0 (fun _ z => absurd e4 z) D0 (fun _ z => absurd e4 z) D0 (fun _ z => absurd e4 z) (fun _ z => absurd e4 z) D0 (fun _ z => absurd e4 z) D0 (fun _ z => absurd e4 z) (fun _ z => absurd e4 z)
      · rw [if_neg ht0] at hR
        have e4 : ¬ xR (dput (kbI I) D (nI n)) 288 (I 288 7) (0, t, vB I 288, A) 285 2 = 0 := fun z => ht0 (k0.mp z)
        have m7 := x_kind (G := kG K) (w := kw K) (gl := kl K) (I := dput (kbI I) D (nI n)) (s := 288) (N := N) (cu := I 288 7) (X := vB I 288) (A := A) hm (dp_ok hp') (by rw [e6]; exact hok)
        rw [e6] at m7
        by_cases hkd : sp_cmd (I 286) t 6 0 = -1
        · rw [if_pos hkd] at hR
          rw [hR] at hK
          have mf := x_fail (G := kG K) (w := kw K) (gl := kl K) (I := dput (kbI I) D (nI n)) (s := 288) (cu := I 288 7) (t := t) (X := vB I 288) (A := A) hm (c := 1) (by decide)
          exact bX7_read_11 (mc7 := (0, 0)) (x7 := nX) (g10 := I) (f11 := 0) (g11 := I) (f16 := 0) (g16 := I) hK hwo hsc hm hcl D0 (fun z => absurd z nlt) D0 (fun _ z => absurd z e4) D0 (fun _ _ _ _ z => z.elim) (fun _ _ => m7) D0 (fun _ _ z => absurd hkd z) D0 (fun _ _ z => absurd hkd z) (fun _ _ z => absurd hkd z) D0 (fun _ _ z => absurd hkd z) D0 (fun _ _ z => absurd hkd z) D0 (fun _ _ z => absurd hkd z) (fun _ _ z => absurd hkd z) D0 (fun _ _ _ => mf) D0 (fun _ _ _ => qE_i rfl rfl) (fun _ _ _ => Or.inl rfl)
        · rw [if_neg hkd] at hR
          by_cases hn30 : n = 30
          · rw [if_pos hn30] at hR
            rw [hR] at hK
            have e9 : nI n = 30 := by rw [hn30]; rfl
            have mf := x_fail (G := kG K) (w := kw K) (gl := kl K) (I := dput (kbI I) D (nI n)) (s := 288) (cu := I 288 7) (t := t) (X := vB I 288) (A := A) hm (c := 4) (by decide)
            exact bX7_read_11 (mc7 := (0, 0)) (x7 := nX) (g10 := I) (f11 := 0) (g11 := I) (f20 := 0) (g20 := I) hK hwo hsc hm hcl D0 (fun z => absurd z nlt) D0 (fun _ z => absurd z e4) D0 (fun _ _ _ _ z => z.elim) (fun _ _ => m7) D0 (fun _ _ _ z => absurd e9 z) D0 (fun _ _ _ z => absurd e9 z) (fun _ _ _ z => absurd e9 z) D0 (fun _ _ _ z => absurd e9 z) D0 (fun _ _ _ _ => mf) D0 (fun _ _ _ _ => qE_i rfl rfl) (fun _ _ _ _ => Or.inl rfl) D0 (fun _ _ z => absurd z hkd) D0 (fun _ _ z => absurd z hkd) (fun _ _ z => absurd z hkd)
          · rw [if_neg hn30] at hR
            have e9 : ¬ nI n = 30 := fun z => hn30 ((nI_eq (a := n) (b := 30) (by omega) (by omega)).mp z)
            obtain ⟨kd, -, hk6, ekd⟩ := (cmd_in (b := I 286) (t := t) 6 0).resolve_left hkd
            have eclamp : (sp_cmd (I 286) t 6 0).toNatClampNeg = kd := by rw [ekd]; exact nI_clamp (by omega)
            rw [eclamp] at hR
            have m10 := x_adv (G := kG K) (w := kw K) (gl := kl K) (I := dput (kbI I) D (nI n)) (s := 288) (N := N) (cu := I 288 7) (t := t) (X := vB I 288) (A := A) hm (dp_ok hp') (by rw [e6]; exact hok)
            rw [e6] at m10
            generalize hr : kc_cmd (I 286) N (vB I 288) c kd n (tq_nx (I 286) N t) D A = r at hR
            have okr : tOK (I 286) N r.2.1 := by rw [← hr]; exact cmd_ok (kT_nx hok)
            have m11 := x_cmd (G := kG K) (w := kw K) (gl := kl K) (I := kbI I) (D := D) (N := N) (n := n) (cu := I 288 7) (t := tq_nx (I 286) N t) (X := vB I 288) (A := A) hsc hm hs hp' (by rw [kbI_286]; exact kT_nx hok) (c := c) (k := kd) (by omega) (by omega) h7 hL (r := r) (by rw [kbI_286]; exact hr.symm)
            refine bX7_read_11 (mc7 := (0, 0)) (x7 := nX) (f16 := 0) (g16 := I) (f20 := 0) (g20 := I) hK hwo hsc hm hcl D0 (fun z => absurd z nlt) D0 (fun _ z => absurd z e4) D0 (fun _ _ _ _ z => z.elim) (fun _ _ => m7) D0 (fun _ _ _ _ => m10) D0 (fun _ _ _ _ => by rw [ekd]; exact m11) (fun _ _ _ _ z => ?_) D0 (fun _ _ _ _ z => ?_) D0 (fun _ _ _ z => absurd z e9) D0 (fun _ _ _ z => absurd z e9) (fun _ _ _ z => absurd z e9) D0 (fun _ _ z => absurd z hkd) D0 (fun _ _ z => absurd z hkd) (fun _ _ z => absurd z hkd)
            · have h0 : r.1 = 0 := of_decide_eq_true (b2_n0.mp z)
              rw [if_pos h0] at hR
              rw [nI_1]
              unfold xC
              rw [if_pos h0, h0]
              exact ih (n + 1) _ _ _ (by omega) (by omega) okr hR
            · have h0 : ¬ r.1 = 0 := of_decide_eq_false (b2_0.mp z)
              rw [if_neg h0] at hR
              rw [hR]
              refine qE_i (b2d h0).symm ?_
              unfold xC kSCM
              rw [if_neg h0]
  have e := key 31 0 (tq_tk (I 286) N 0 v) I (I 287) (by omega) (by omega) hok hR
  have h0 : xR (kbI I) 288 (I 288 7) (0, tq_tk (I 286) N 0 v, vB I 288, I 287) = xR (dput (kbI I) I (I 25 1)) 288 (I 288 7) (0, tq_tk (I 286) N 0 v, vB I 288, I 287) := by rw [dput_self]
  rw [h0, xD_25]
  exact e
theorem kp_lo {r : Nat} (h : r < 89) : kp I n c a r = I r := by
  funext x
  have h6 : (a + 1) % 6 < 6 := Nat.mod_lt _ (by omega)
  unfold kp kkeep
  split
  · rw [cps_far (by omega)]; simp [up, ups, show r ≠ 89 by omega]
  · rw [up_def, ups_ne _ _ (by omega), cps_far (by omega)]; simp [up, ups, show r ≠ 89 by omega]
def kSR (I : zM) (N c : Nat) (v : Int32) : zM := up (kSCM I (kSC I N c v)) 285 1 0
theorem kSCM_hi {R : zCs × Nat} {q : Nat} (h : 288 ≤ q) : kSCM I R q = I q := by
  unfold kSCM
  by_cases h2 : q < 312
  · rw [xR_st (Or.inr (by omega)) h h2]
    funext x
    have e : ∀ (J : zM) q x, 288 ≤ q → q < 312 → (∀ r, 288 ≤ r → J r = I r) → sput J 288 (vB I 288) (I 288 7) q x = I q x := fun J q x a b hJ => by
      have := sput_self I 288
      have h3 : sput J 288 (vB I 288) (I 288 7) q x = sput I 288 (vB I 288) (I 288 7) q x := by unfold sput; rw [hJ q a]
      rw [h3, this]
    exact e _ q x h h2 (fun r hr => by rw [dput_ot (by omega) (by omega)]; unfold kbI; rw [ups_ne _ _ (by omega)])
  · rw [xR_ot (by omega) (by omega) (by omega), dput_ot (by omega) (by omega)]; unfold kbI; rw [ups_ne _ _ (by omega)]
theorem kSCM_mid {R : zCs × Nat} {q : Nat} (h : (87 ≤ q ∧ q < 285) ∨ q < 25) : kSCM I R q = I q := by
  unfold kSCM
  rw [xR_ot (by omega) (by omega) (by omega), dput_ot (by omega) (by omega)]; unfold kbI; rw [ups_ne _ _ (by omega)]
theorem kSR_hi {v : Int32} {q : Nat} (h : (87 ≤ q ∧ q < 285) ∨ q < 25 ∨ 288 ≤ q) : kSR I N c v q = I q := by
  unfold kSR
  rw [up_def, ups_ne _ _ (by omega)]
  by_cases h2 : 288 ≤ q
  · exact kSCM_hi h2
  · exact kSCM_mid (by omega)
theorem kSR_row {v : Int32} {q : Nat} (h : 27 ≤ q) (h2 : q < 87) : kSR I N c v q = (kSC I N c v).1.2.2.1 q := by
  unfold kSR kSCM
  rw [up_def, ups_ne _ _ (by omega), xD_r h h2]
theorem kSR_25 {v : Int32} : kSR I N c v 25 1 = nI (kSC I N c v).2 := by
  unfold kSR kSCM
  rw [up_def, ups_ne _ _ (by omega), xD_c]
theorem kSR_vB {v : Int32} : vB (kSR I N c v) 288 = vB I 288 := vB_hi (fun r hr => kSR_hi (by omega))
theorem kSR_kq {v : Int32} (q : kq I n c t a m) {c' : Nat} : kq (kSR I N c' v) n c t a m := by
  unfold kq
  rw [kSR_vB, kSR_hi (I := I) (q := 288) (by omega), kSR_hi (I := I) (q := 89) (by omega)]
  refine ⟨q.1, q.2.1, q.2.2.1, fun a ha k hk => ?_, q.2.2.2.2⟩
  rw [kSR_hi (by omega)]; exact q.2.2.2.1 a ha k hk
theorem c_runScript (hx : isT w 10 0) (h1 : I 285 1 = nI N) (hN : N ≤ 600) (q : kq I n c t a m) (hL : nmL (vB I 288) c) (v : Int32) {R : zCs × Nat} (hR : R = kSC I N c v) (hrw : R.1.1 = 0 → R.2 ≤ 30 ∧ ∀ j, j < R.2 → rw_ok (cvt R.1.2.2.1) c j) : CT G w gl (yX10_runScript, cX10_runScript, 3, some .int) 7 (1, 6) [.ref 0] I (qP (R.1.1 = 0) (nI (s_run (cvt R.1.2.2.1) R.2 0 (vB I 288)).1) (sput (kp (kSR I N c v) n c a) 288 (s_run (cvt R.1.2.2.1) R.2 0 (vB I 288)).2 (s_cur (s_run (cvt R.1.2.2.1) R.2 0 (vB I 288)).2))) (xP (R.1.1 = 0) sA (kSR I N c v)) := by
  refine ct_of (by decide) [(0, .ref 0)] rfl rfl (fun K hG hw hgl hwo hK => ?_)
  subst hG; subst hw; subst hgl
  have hsc : isT (kw K) 7 25 := hx.f (k := 3) (d := 7) hwo rfl rfl rfl (by decide)
  have hp : pOK I 288 N := ⟨Or.inr (by omega), h1, hN⟩
  have m1 := x_scr (G := kG K) (gl := kl K) hsc (hx.inp hwo) (hx.st hwo) hp q.1.2.2.1 hL v hR
  by_cases h0 : R.1.1 = 0
  · obtain ⟨h30, hrows⟩ := hrw h0
    have q' := kSR_kq (N := N) (v := v) q (c' := c)
    have m3 := h_keep (G := kG K) (gl := kl K) (hx.hi hwo) (hx.st hwo) q'
    have hrowM : ∀ x, 27 ≤ x → x < 87 → kp (kSR I N c v) n c a x = R.1.2.2.1 x := fun x a b => by rw [kp_lo (by omega), kSR_row a b, hR]
    have h25 : kp (kSR I N c v) n c a 25 1 = nI R.2 := by rw [kp_lo (by omega), kSR_25, hR]
    have hself := kp_self (I := kSR I N c v) (n := n) (c := c) (a := a)
    rw [kSR_vB, kSR_hi (I := I) (q := 288) (by omega), q.2.2.1] at hself
    generalize hM : kp (kSR I N c v) n c a = M at hK m3 hrowM h25 hself
    have ecv : ∀ i, i < 180 → cvt M i = cvt R.1.2.2.1 i := fun i hi => cvt_cg (fun x a b => hrowM x a b) hi
    have hcan : ∀ j B, j < 30 → s_can B (cvt M) j = s_can B (cvt R.1.2.2.1) j := fun j B hj => by
      unfold s_can
      rw [ecv _ (by omega), ecv _ (by omega), ecv _ (by omega), ecv _ (by omega), ecv _ (by omega), ecv _ (by omega)]
    have hdo : ∀ j B, j < 30 → s_doit B (cvt M) j = s_doit B (cvt R.1.2.2.1) j := fun j B hj => by
      unfold s_doit
      rw [ecv _ (by omega), ecv _ (by omega), ecv _ (by omega), ecv _ (by omega), ecv _ (by omega), ecv _ (by omega)]
    have key : ∀ k j B n' t', j + k = R.2 → s_wf B n' c t' → t' ≤ 2000 → s_pos B → s_run (cvt R.1.2.2.1) k j B = s_run (cvt R.1.2.2.1) R.2 0 (vB I 288) → ZZ K (0, 0) 55 [(0, .ref 0), (1, .int (b2 (decide (R.1.1 = 0)))), (2, .int (nI j))] [] (sput M 288 B (s_cur B)) := by
      intro k
      have e25 : ∀ B, sput M 288 B (s_cur B) 25 1 = nI R.2 := fun B => by rw [so (by omega)]; exact h25
      induction k with
      | zero =>
        intro j B n' t' hj hf ht hpo he
        have le : sput M 288 B (s_cur B) 25 1 ≤ nI j := by rw [e25, show j = R.2 by omega]; exact Int32.le_refl _
        refine bX10_runScript_55 (f5 := 0) (g5 := I) hK hwo hx ⟨by decide, by decide⟩ (fun _ => ?_) (fun z => absurd le z) ⟨by decide, by decide⟩ (fun z => absurd le z) ⟨by decide, by decide⟩ (fun z => absurd le z) (fun z => absurd le z)
        rw [← he]
        exact qP_i h0 rfl rfl
      | succ k ih =>
        intro j B n' t' hj hf ht hpo he
        have nle : ¬ sput M 288 B (s_cur B) 25 1 ≤ nI j := by rw [e25]; exact nI_ge (by omega) (by omega)
        obtain ⟨l1, -⟩ := zLR26 j (by omega)
        have hr : rw_ok (cvt M) c j := rw_cg (fun i hi => ecv _ (by omega)) (hrows j (by omega))
        have mx := c_execute (G := kG K) (gl := kl K) (M := M) (B := B) (j := j) hx hf hpo ht (by omega) hr
        rw [hcan j B (by omega), hdo j B (by omega)] at mx
        conv at he => lhs; unfold s_run
        by_cases hc : s_can B (cvt R.1.2.2.1) j = true
        · rw [if_pos hc] at he mx
          rw [hc] at mx
          refine bX10_runScript_55 hK hwo hx ⟨by decide, by decide⟩ (fun z => absurd z nle) (fun _ => vp_in_nI (by omega) (by omega)) ⟨by decide, by decide⟩ (fun _ => by rw [nI_clamp (by omega), l1]; exact mx) ⟨by decide, by decide⟩ (fun _ z => absurd z (by decide)) (fun _ _ => ?_)
          rw [nI_1]
          obtain ⟨n2, t2, hf2, ht2⟩ := wf_doit hf ht (hrows j (by omega)) hc
          exact ih (j + 1) _ n2 t2 (by omega) hf2 ht2 (pos_doit hpo) he
        · rw [if_neg hc] at he mx
          rw [show s_can B (cvt R.1.2.2.1) j = false by simpa using hc] at mx
          refine bX10_runScript_55 hK hwo hx ⟨by decide, by decide⟩ (fun z => absurd z nle) (fun _ => vp_in_nI (by omega) (by omega)) ⟨by decide, by decide⟩ (fun _ => by rw [nI_clamp (by omega), l1]; exact mx) ⟨by decide, by decide⟩ (fun _ _ => ?_) (fun _ z => absurd rfl z)
          rw [← he]
          exact qP_i h0 rfl rfl
    have ez : up (kSCM I R) 285 1 0 = kSR I N c v := by unfold kSR; rw [hR]
    refine bX10_runScript_0 (mc1 := (0, 0)) (x1 := nX) (g3 := M) hK hwo hx ⟨by decide, by decide⟩ (fun _ _ z => z.elim) m1 ⟨by decide, by decide⟩ (fun _ => by rw [ez]; exact m3) (fun _ => ?_) ⟨by decide, by decide⟩ (fun z => absurd h0 (of_decide_eq_false (b2_0.mp z)))
    have e := key R.2 0 (vB I 288) n t (by omega) q.1 q.2.2.2.2.2.2 q.2.1 rfl
    rw [hself] at e
    exact e
  · refine bX10_runScript_0 (mc1 := (0, 0)) (x1 := nX) (g3 := I) hK hwo hx ⟨by decide, by decide⟩ (fun _ _ z => z.elim) m1 ⟨by decide, by decide⟩ (fun z => absurd (of_decide_eq_true (b2_n0.mp z)) h0) (fun z => absurd (of_decide_eq_true (b2_n0.mp z)) h0) ⟨by decide, by decide⟩ (fun _ => ⟨h0, rfl, ?_⟩)
    unfold kSR
    rw [hR]
end CRS
