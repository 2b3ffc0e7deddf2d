/-! THE LAW'S CASES: texts, undo, saved states, output (written by wip/gen) -/
section CSD
variable {K : zK} {b L : Nat} {xs : Nat → Int32} {Z : lZ} {u : Nat × Nat} {I : zM} {i : Int32}

theorem qP_x {p : Prop} {x y : Int32} {I J : zM} (h : qP p y J (some (.int x)) I) : p ∧ x = y ∧ I = J := by
  obtain ⟨hp, x', hx', ex, eJ⟩ := h
  injection hx' with hx'
  injection hx' with hx'
  exact ⟨hp, hx'.trans ex, eJ⟩
theorem slot_in {x : Int32} : s_in x 0 1 = s_has x 2 := by
  have z := in_has (x := x) (n := 2) (by omega)
  rw [show (nI 2 - 1 : Int32) = 1 from by decide, show nI 2 = 2 from rfl] at z
  exact z
/-- append -/
theorem st_0 (hK : zKl K b L xs Z) (hw : kw K = (0, 320)) (v1 : vp_in (i + 1) L) (v2 : vp_in (i + 2) L) (v3 : vp_in (i + 3) L) (v4 : vp_in (i + 4) L) (v5 : vp_in (i + 5) L) (hu : u.1 + 2 ≤ 601024 ∧ u.2 + 12 ≤ 7293034) (h : Rel I) (kN : ∀ (mc : Nat × Nat) (J : zM), mc.1 ≤ 2 → mc.2 ≤ 12 → Rel J → ZZ K (u.1 + mc.1, u.2 + mc.2) 2798 (lLc i) [] J) : ZZ K u 312 (lLc i) [] I := by
  obtain ⟨hx, hm, ho, hs⟩ := rl hw
  obtain ⟨n, c, t, hO⟩ := Rel_O h
  have hn := hO.1.2.1
  have eq := hO.2.2.2.2.2.1
  obtain ⟨N, hB⟩ := Rel_B h
  have hc := c_append (G := kG K) (w := kw K) (gl := kl K) (I := I) (x1 := (xs (i + 1).toNatClampNeg)) (x2 := (xs (i + 2).toNatClampNeg)) (x3 := (xs (i + 3).toNatClampNeg)) (x4 := (xs (i + 4).toNatClampNeg)) (x5 := (xs (i + 5).toNatClampNeg)) hx hB.2.1 hB.2.2.1
  refine lc_0 hK hx hm ho v1 rfl v2 rfl v3 rfl v4 rfl v5 rfl (wL_append hx ho hc (fun _ _ z => qP_ex z) (fun _ _ z => z.2.1)) (g_gen (T := fun _ => True) (Q := fun J => ZZ K (u.1 + 1, u.2 + 6) 2798 (lLc i) [] J) (fun x J0 hp => ?_) (fun E J hz => ?_) (fun J hJ => kN (1, 6) J (by decide) (by decide) hJ)) ⟨by show u.1 + 1 ≤ _; omega, by show u.2 + 6 ≤ _; omega⟩
  · obtain ⟨hq, rfl, rfl⟩ := qP_x hp
    have hJ2 : ∀ r, r ≠ 319 → r ≠ 285 → r ≠ 286 → up (pM I (upd (I 285) 1 (nI (N + 20))) (k_ap (I 286) N (xs (i + 1).toNatClampNeg) (xs (i + 2).toNatClampNeg) (xs (i + 3).toNatClampNeg) (xs (i + 4).toNatClampNeg) (xs (i + 5).toNatClampNeg))) 319 0 (nI (N + 20)) r = I r := fun r a1 a2 a3 => by rw [up_far a1, pM_ot a2 a3]
    have e312 := hJ2 312 (by decide) (by decide) (by decide)
    have hR := Rel_append h hB hq (x1 := (xs (i + 1).toNatClampNeg)) (x2 := (xs (i + 2).toNatClampNeg)) (x3 := (xs (i + 3).toNatClampNeg)) (x4 := (xs (i + 4).toNatClampNeg)) (x5 := (xs (i + 5).toNatClampNeg)) (z := nI (N + 20)) rfl
    have r := r_append (G := kG K) (w := kw K) (gl := kl K) (I := up (pM I (upd (I 285) 1 (nI (N + 20))) (k_ap (I 286) N (xs (i + 1).toNatClampNeg) (xs (i + 2).toNatClampNeg) (xs (i + 3).toNatClampNeg) (xs (i + 4).toNatClampNeg) (xs (i + 5).toNatClampNeg))) 319 0 (nI (N + 20))) (N := N) (x1 := (xs (i + 1).toNatClampNeg)) (x2 := (xs (i + 2).toNatClampNeg)) (x3 := (xs (i + 3).toNatClampNeg)) (x4 := (xs (i + 4).toNatClampNeg)) (x5 := (xs (i + 5).toNatClampNeg)) hm (by rw [e312]; exact hB.1) hB.2.2.1
    rw [if_pos hq, if_pos hq] at r
    refine ⟨_, r, ?_, ?_, trivial, hR⟩
    · rw [aM_312, upd_ne _ _ (by decide), upd_same]
    · unfold aM
      rw [ups_far (by decide), ups_far (by decide), up_at]
  · obtain ⟨hnp, rfl, rfl⟩ := hz
    have r := r_append (G := kG K) (w := kw K) (gl := kl K) (I := J) (N := N) (x1 := (xs (i + 1).toNatClampNeg)) (x2 := (xs (i + 2).toNatClampNeg)) (x3 := (xs (i + 3).toNatClampNeg)) (x4 := (xs (i + 4).toNatClampNeg)) (x5 := (xs (i + 5).toNatClampNeg)) hm hB.1 hB.2.2.1
    rw [if_neg hnp, if_neg hnp] at r
    exact ⟨0, mT J 1, r, mT_9, by decide, trivial, Rel_T h⟩
/-- truncate -/
theorem st_1 (hK : zKl K b L xs Z) (hw : kw K = (0, 320)) (v1 : vp_in (i + 1) L) (v2 : vp_in (i + 2) L) (v3 : vp_in (i + 3) L) (v4 : vp_in (i + 4) L) (v5 : vp_in (i + 5) L) (hu : u.1 + 2 ≤ 601024 ∧ u.2 + 12 ≤ 7293034) (h : Rel I) (kN : ∀ (mc : Nat × Nat) (J : zM), mc.1 ≤ 2 → mc.2 ≤ 12 → Rel J → ZZ K (u.1 + mc.1, u.2 + mc.2) 2798 (lLc i) [] J) : ZZ K u 416 (lLc i) [] I := by
  obtain ⟨hx, hm, ho, hs⟩ := rl hw
  obtain ⟨n, c, t, hO⟩ := Rel_O h
  have hn := hO.1.2.1
  have eq := hO.2.2.2.2.2.1
  obtain ⟨N, hB⟩ := Rel_B h
  have hc := c_truncate (G := kG K) (w := kw K) (gl := kl K) (I := I) (x := (xs (i + 1).toNatClampNeg)) hx
  rw [hB.2.1, ← hB.1] at hc
  refine lc_1 hK hx hm ho v1 rfl (wL_truncate hx ho hc (fun _ _ z => qP_ex z) (fun _ _ z => z.2.1)) (g_gen (T := fun _ => True) (Q := fun J => ZZ K (u.1 + 1, u.2 + 6) 2798 (lLc i) [] J) (fun x J0 hp => ?_) (fun E J hz => ?_) (fun J hJ => kN (1, 6) J (by decide) (by decide) hJ)) ⟨by show u.1 + 1 ≤ _; omega, by show u.2 + 6 ≤ _; omega⟩
  · obtain ⟨hq, ex, rfl⟩ := qP_x hp
    rw [ex]
    have e312 : up (up I 285 1 (xs (i + 1).toNatClampNeg)) 319 0 (xs (i + 1).toNatClampNeg) 312 = I 312 := by rw [up_far (by decide), up_far (by decide)]
    have hR := Rel_trunc h hB hq (z := (xs (i + 1).toNatClampNeg)) rfl
    have r := r_truncate (G := kG K) (w := kw K) (gl := kl K) (I := up (up I 285 1 (xs (i + 1).toNatClampNeg)) 319 0 (xs (i + 1).toNatClampNeg)) (x := (xs (i + 1).toNatClampNeg)) hm
    rw [e312] at r hR
    rw [if_pos hq, if_pos hq] at r
    refine ⟨_, r, ?_, ?_, trivial, hR⟩
    · rw [ups_same, upd_ne _ _ (by decide), upd_same]
    · rw [ups_far (by decide), up_at]
  · obtain ⟨hnp, rfl, rfl⟩ := hz
    have r := r_truncate (G := kG K) (w := kw K) (gl := kl K) (I := J) (x := (xs (i + 1).toNatClampNeg)) hm
    rw [if_neg hnp, if_neg hnp] at r
    exact ⟨0, mT J 1, r, mT_9, by decide, trivial, Rel_T h⟩
/-- load -/
theorem st_2 (hK : zKl K b L xs Z) (hw : kw K = (0, 320)) (v1 : vp_in (i + 1) L) (v2 : vp_in (i + 2) L) (v3 : vp_in (i + 3) L) (v4 : vp_in (i + 4) L) (v5 : vp_in (i + 5) L) (hu : u.1 + 2 ≤ 601024 ∧ u.2 + 12 ≤ 7293034) (h : Rel I) (kN : ∀ (mc : Nat × Nat) (J : zM), mc.1 ≤ 2 → mc.2 ≤ 12 → Rel J → ZZ K (u.1 + mc.1, u.2 + mc.2) 2798 (lLc i) [] J) : ZZ K u 472 (lLc i) [] I := by
  obtain ⟨hx, hm, ho, hs⟩ := rl hw
  obtain ⟨n, c, t, hO⟩ := Rel_O h
  have hn := hO.1.2.1
  have eq := hO.2.2.2.2.2.1
  obtain ⟨N, hB⟩ := Rel_B h
  have hbt : ∀ j, j < N → bt (I 286 j) := fun j hj => bR_bt hB.2.2.2 hj
  obtain ⟨e1, e2, e3⟩ := load_both (v := I 312 13) hB h.1 rfl (B := s_aside (I 313))
  generalize hr : rp_setup (I 315) N (t_beg I N) (s_aside (I 313)) = r at e1 e2 e3
  have key : ∃ n' c', (r.1 = 0 → oR r.2.2 (kSU I 1 N (I 312 13)).2.2.1 (-1) n' c' 0) := by
    by_cases z : r.1 = 0
    · obtain ⟨n', c', q⟩ := e3 z
      exact ⟨n', c', fun _ => q⟩
    · exact ⟨0, 0, fun q => absurd q z⟩
  obtain ⟨n', c', key⟩ := key
  have hc := c_load (G := kG K) (w := kw K) (gl := kl K) (I := I) (N := N) hx hB.2.1 hB.2.2.1 hbt h.1 (I 312 13) (R := kSU I 1 N (I 312 13)) rfl (n := n') (c := c') (fun z => by
    have q := key (e1.symm.trans z)
    have q2 := q.1.2.1
    have q3 := q.1.2.2.2.2.1
    have w := q.wfC
    exact ⟨by rw [w.1, nI_clamp (by omega)], by rw [w.2.2.1, nI_clamp (by omega)]⟩)
  rw [e1] at hc
  have rl : ∀ J : zM, J 312 = I 312 → J 313 = I 313 → J 315 = I 315 → CT (kG K) (kw K) (kl K) (yX11_load, cX11_load, 2, some .int) 6 (0, 0) [.ref 312] J (qE (if r.1 = 0 then r.2.2 8 else 0) (if r.1 = 0 then up (up (rM J (upd (upd (lF (J 312) r) 9 0) 2 0) r.2.2) 314 0 (vp_nar .boolean 0)) 314 1 (vp_nar .boolean 0) else rM J (upd (lF (J 312) r) 9 1) (s_aside (J 313)))) nX := fun J a1 a2 a3 =>
    r_load (G := kG K) (w := kw K) (gl := kl K) (I := J) (N := N) hm (by rw [a1]; exact hB.1) hB.2.2.1 (r := r) (by rw [a3, a2, ← hr]; unfold t_beg; rw [a3, a1])
  have km : ∀ q, 312 ≤ q → kLM I N (I 312 13) q = I q := fun q hq => kLM_ot (by omega) (by omega) (by omega)
  refine lc_2 hK hx hm ho  (wL_load hx ho hc (fun _ _ z => qP_ex z) (fun _ _ z => z.2.1)) (g_gen (T := fun _ => True) (Q := fun J => ZZ K (u.1 + 1, u.2 + 6) 2798 (lLc i) [] J) (fun x J0 hp => ?_) (fun E J hz => ?_) (fun J hJ => kN (1, 6) J (by decide) (by decide) hJ)) ⟨by show u.1 + 1 ≤ _; omega, by show u.2 + 6 ≤ _; omega⟩
  · obtain ⟨hp, ex, eJ⟩ := qP_x hp
    have kO := key hp
    have hj : ∀ q, 312 ≤ q → q ≠ 319 → up J0 319 0 x q = I q := fun q hq h9 => by
      rw [up_far h9, eJ]
      unfold kLD
      rw [up_far (by omega), up_far (by omega), up_far (by omega), cpr (by omega), km q hq]
    have hR := Rel_good (J := up J0 319 0 x) (z := x) h hB rfl hr.symm hp kO (by rw [eJ])
    have r9 := rl (up J0 319 0 x) (hj 312 (by omega) (by decide)) (hj 313 (by omega) (by decide)) (hj 315 (by omega) (by decide))
    rw [if_pos hp, if_pos hp] at r9
    have e8 : r.2.2 8 = x := by
      rw [ex, kO.wfC.1, kO.1.1]
    rw [e8] at r9
    refine ⟨_, r9, ?_, ?_, trivial, hR⟩
    · rw [up_far (by decide), up_far (by decide), rM_312, upd_ne _ _ (by decide), upd_same]
    · rw [up_far (by decide), up_far (by decide), rM_ot (by decide) (by decide), up_at]
  · obtain ⟨hnp, rfl, rfl⟩ := hz
    have hR := Rel_bad (J := kLM I N (I 312 13)) h hB rfl hr.symm rfl
    have r9 := rl (kLM I N (I 312 13)) (km 312 (by omega)) (km 313 (by omega)) (km 315 (by omega))
    rw [if_neg hnp, if_neg hnp] at r9
    refine ⟨0, _, r9, ?_, by decide, trivial, hR⟩
    rw [rM_312, upd_same]; rfl
/-- runScript -/
theorem st_58 (hK : zKl K b L xs Z) (hw : kw K = (0, 320)) (v1 : vp_in (i + 1) L) (v2 : vp_in (i + 2) L) (v3 : vp_in (i + 3) L) (v4 : vp_in (i + 4) L) (v5 : vp_in (i + 5) L) (hu : u.1 + 2 ≤ 601024 ∧ u.2 + 12 ≤ 7293034) (h : Rel I) (kN : ∀ (mc : Nat × Nat) (J : zM), mc.1 ≤ 2 → mc.2 ≤ 12 → Rel J → ZZ K (u.1 + mc.1, u.2 + mc.2) 2798 (lLc i) [] J) : ZZ K u 2529 (lLc i) [] I := by
  obtain ⟨hx, hm, ho, hs⟩ := rl hw
  obtain ⟨n, c, t, hO⟩ := Rel_O h
  have hn := hO.1.2.1
  have eq := hO.2.2.2.2.2.1
  obtain ⟨N, hB⟩ := Rel_B h
  obtain ⟨a, m, hH⟩ := Rel_H h
  have h2 : I 312 2 = nI m := hH.2.2.1
  have hm6 : m ≤ 6 := hH.2.1.2
  have hO2 : oR (s_rem (I 313) m) (vB I 288) (I 288 7) n c t := hO.cgB (fun k hk => rem_lo hk)
  generalize hR : sp_scr (I 315) N (I 313) c 31 0 (t_beg I N) (I 317) = R
  obtain ⟨p1, p2, p3, p4⟩ := script_both (v := I 312 13) hB hO rfl hR.symm
  have hc := c_runScript (G := kG K) (w := kw K) (gl := kl K) (I := I) (N := N) hx hB.2.1 hB.2.2.1 (kq_of hO hH) hO.nmLC (I 312 13) (R := kSC I N c (I 312 13)) rfl (fun z => by
    obtain ⟨g1, g2⟩ := p4 (p1.symm.trans z)
    rw [p3]
    exact ⟨g1, fun j hj => rw_both (g2 j hj).1 (g2 j hj).2⟩)
  rw [p1] at hc
  have rs : ∀ J : zM, J 312 = I 312 → J 313 = I 313 → J 315 = I 315 → J 317 = I 317 → CT (kG K) (kw K) (kl K) (yX11_runScript, cX11_runScript, 3, some .int) 10 (0, 0) [.ref 312] J (qE (if R.1.1 = 0 then nI (s_run R.1.2.2 R.2 0 (s_rem (J 313) m)).1 else 0) (if R.1.1 = 0 then rM (ups J 317 R.1.2.2) (upd (upd (upd (rF (bF (J 312)) R.1.1 R.1.2.1) 4 0) 9 0) 2 (nI (min (m + 1) 6))) (s_run R.1.2.2 R.2 0 (s_rem (J 313) m)).2 else rM (ups J 317 R.1.2.2) (upd (upd (rF (bF (J 312)) R.1.1 R.1.2.1) 4 0) 9 1) (J 313))) nX := fun J a1 a2 a3 a4 =>
    r_runScript (G := kG K) (w := kw K) (gl := kl K) (I := J) (N := N) (n := n) (c := c) (t := t) (m := m) hm (by rw [a1]; exact hB.1) hB.2.2.1 (by rw [a2]; exact hO.1) (by rw [a2]; exact hO2.1) hO.2.1 (by rw [a2]; exact hO.2.2.2.2.1.L) (by rw [a1]; exact h2) hm6 (R := R) (by rw [a3, a2, a4, ← hR]; unfold t_beg; rw [a3, a1])
  refine lc_58 hK hx hm ho  (wL_runScript hx ho hc (fun _ _ z => qP_ex z) (fun _ _ z => z.2.1)) (g_gen (T := fun _ => True) (Q := fun J => ZZ K (u.1 + 1, u.2 + 6) 2798 (lLc i) [] J) (fun x J0 hp => ?_) (fun E J hz => ?_) (fun J hJ => kN (1, 6) J (by decide) (by decide) hJ)) ⟨by show u.1 + 1 ≤ _; omega, by show u.2 + 6 ≤ _; omega⟩
  · obtain ⟨hp, ex, eJ⟩ := qP_x hp
    have hj : ∀ q, 312 ≤ q → q ≠ 319 → up J0 319 0 x q = I q := fun q hq h9 => by
      rw [up_far h9, eJ, so_r (by omega), kp_hi (by omega)]
      exact kSR_hi (by omega)
    obtain ⟨g1, g2⟩ := Rel_run (J := up J0 319 0 x) (z := x) h hB hO hH rfl hR.symm hp (by rw [eJ])
    have r9 := rs (up J0 319 0 x) (hj 312 (by omega) (by decide)) (hj 313 (by omega) (by decide)) (hj 315 (by omega) (by decide)) (hj 317 (by omega) (by decide))
    rw [hj 312 (by omega) (by decide), hj 313 (by omega) (by decide), if_pos hp, if_pos hp, ← g1, ← ex] at r9
    refine ⟨_, r9, ?_, ?_, trivial, g2⟩
    · rw [rM_312, upd_ne _ _ (by decide), upd_same]
    · rw [rM_ot (by decide) (by decide), ups_far (by decide), up_at]
  · obtain ⟨hnp, rfl, rfl⟩ := hz
    have km : ∀ q, 312 ≤ q → kSR I N c (I 312 13) q = I q := fun q hq => kSR_hi (by omega)
    have r9 := rs (kSR I N c (I 312 13)) (km 312 (by omega)) (km 313 (by omega)) (km 315 (by omega)) (km 317 (by omega))
    rw [if_neg hnp, if_neg hnp, km 312 (by omega), km 313 (by omega)] at r9
    refine ⟨0, _, r9, ?_, by decide, trivial, ?_⟩
    · rw [rM_312, upd_same]; rfl
    · exact Rel_scr h hB hO rfl hR.symm (fun q hq => by rw [rM_ot (by omega) (by omega), ups_far (by omega)]) rM_313 (by rw [rM_ot (by decide) (by decide), ups_far (by decide), km 314 (by omega)]) (by rw [rM_ot (by decide) (by decide), ups_far (by decide), km 315 (by omega)]) (by rw [rM_ot (by decide) (by decide), ups_far (by decide), km 316 (by omega)]) (fun k hk => by rw [rM_312, upd_ne _ _ hk])
/-- undo -/
theorem st_59 (hK : zKl K b L xs Z) (hw : kw K = (0, 320)) (v1 : vp_in (i + 1) L) (v2 : vp_in (i + 2) L) (v3 : vp_in (i + 3) L) (v4 : vp_in (i + 4) L) (v5 : vp_in (i + 5) L) (hu : u.1 + 2 ≤ 601024 ∧ u.2 + 12 ≤ 7293034) (h : Rel I) (kN : ∀ (mc : Nat × Nat) (J : zM), mc.1 ≤ 2 → mc.2 ≤ 12 → Rel J → ZZ K (u.1 + mc.1, u.2 + mc.2) 2798 (lLc i) [] J) : ZZ K u 2573 (lLc i) [] I := by
  obtain ⟨hx, hm, ho, hs⟩ := rl hw
  obtain ⟨n, c, t, hO⟩ := Rel_O h
  have hn := hO.1.2.1
  have eq := hO.2.2.2.2.2.1
  obtain ⟨a, m, hH⟩ := Rel_H h
  have h2 : I 312 2 = nI m := hH.2.2.1
  have hm6 : m ≤ 6 := hH.2.1.2
  have ha6 : a < 6 := hH.1.2
  have er : rg a 0 = 91 + 24 * a := by unfold rg; omega
  have key : ∃ n' c' t', n' ≤ 12 ∧ c' ≤ 6 ∧ (m ≠ 0 → oR (bk (I 313) m) (vB I (91 + 24 * a)) (I (91 + 24 * a) 7) n' c' t') := by
    by_cases z : m = 0
    · exact ⟨0, 0, 0, by omega, by omega, fun q => absurd z q⟩
    · obtain ⟨n', c', t', q⟩ := hH.2.2.2.2 0 (by omega)
      rw [er, Nat.sub_zero] at q
      exact ⟨n', c', t', q.1.2.1, q.1.2.2.2.2.1, fun _ => q⟩
  obtain ⟨n', c', t', hn', hc', key⟩ := key
  have hc := c_undo (G := kG K) (w := kw K) (gl := kl K) (I := I) hx hH.1.1 ha6 hH.2.1.1 hm6 (n := n') (c := c') (fun z => (key z).wfC.1) hn' (fun z => (key z).wfC.2.2.1) hc' (fun z => hH.2.2.2.1 a ha6)
  refine lc_59 hK hx hm ho  (wL_undo hx ho hc (fun _ _ z => qP_ex z) (fun _ _ z => z.2.1)) (g_gen (T := fun _ => True) (Q := fun J => ZZ K (u.1 + 1, u.2 + 6) 2798 (lLc i) [] J) (fun x J0 hp => ?_) (fun E J hz => ?_) (fun J hJ => kN (1, 6) J (by decide) (by decide) hJ)) ⟨by show u.1 + 1 ≤ _; omega, by show u.2 + 6 ≤ _; omega⟩
  · obtain ⟨hp, ex, eJ⟩ := qP_x hp
    have hR := Rel_undo (J := up J0 319 0 x) (z := x) h hO hH hp (key hp) (by rw [eJ])
    have e312 : up J0 319 0 x 312 = I 312 := by
      rw [up_far (by decide), eJ]
      unfold kback
      rw [up_far (by decide), up_far (by decide), cpr (by omega)]
    have r := r_undo (G := kG K) (w := kw K) (gl := kl K) (I := up J0 319 0 x) (m := m) hm (by rw [e312]; exact h2) hm6
    rw [if_neg hp, if_neg hp, ← ex] at r
    rw [e312] at r hR
    rw [← ex] at hR
    refine ⟨_, r, ?_, ?_, trivial, hR⟩
    · rw [rM_312, upd_ne _ _ (by decide), upd_same]
    · rw [rM_ot (by decide) (by decide), up_at]
  · obtain ⟨hnp, rfl, rfl⟩ := hz
    have h0 : m = 0 := Decidable.not_not.mp hnp
    have r := r_undo (G := kG K) (w := kw K) (gl := kl K) (I := J) (m := m) hm h2 hm6
    rw [if_pos h0, if_pos h0] at r
    exact ⟨0, mT J 1, r, mT_9, by decide, trivial, Rel_T h⟩
/-- save -/
theorem st_60 (hK : zKl K b L xs Z) (hw : kw K = (0, 320)) (v1 : vp_in (i + 1) L) (v2 : vp_in (i + 2) L) (v3 : vp_in (i + 3) L) (v4 : vp_in (i + 4) L) (v5 : vp_in (i + 5) L) (hu : u.1 + 2 ≤ 601024 ∧ u.2 + 12 ≤ 7293034) (h : Rel I) (kN : ∀ (mc : Nat × Nat) (J : zM), mc.1 ≤ 2 → mc.2 ≤ 12 → Rel J → ZZ K (u.1 + mc.1, u.2 + mc.2) 2798 (lLc i) [] J) : ZZ K u 2617 (lLc i) [] I := by
  obtain ⟨hx, hm, ho, hs⟩ := rl hw
  obtain ⟨n, c, t, hO⟩ := Rel_O h
  have hn := hO.1.2.1
  have eq := hO.2.2.2.2.2.1
  have hc := c_save (G := kG K) (w := kw K) (gl := kl K) (I := I) (x := (xs (i + 1).toNatClampNeg)) hx hO.wfC.1 hn hO.wfC.2.2.1 hO.1.2.2.2.2.1 hO.nm
  refine lc_60 hK hx hm ho v1 rfl (wL_save hx ho hc (fun _ _ z => qP_ex z) (fun _ _ z => z.2.1)) (g_gen (T := fun _ => True) (Q := fun J => ZZ K (u.1 + 1, u.2 + 6) 2798 (lLc i) [] J) (fun x J0 hp => ?_) (fun E J hz => ?_) (fun J hJ => kN (1, 6) J (by decide) (by decide) hJ)) ⟨by show u.1 + 1 ≤ _; omega, by show u.2 + 6 ≤ _; omega⟩
  · obtain ⟨hp, ex, eJ⟩ := qP_x hp
    obtain ⟨l, hl, el⟩ := has_nat (n := 2) (m := 2) rfl (by omega) hp
    have hcl : (xs (i + 1).toNatClampNeg).toNatClampNeg = l := by rw [el, nI_clamp (by omega)]
    rw [hcl] at eJ
    have hR := Rel_save (J := up J0 319 0 x) (z := x) h hO hl (by rw [eJ])
    have far : ∀ q, (q = 312 ∨ q = 313) → up J0 319 0 x q = I q := fun q hq => by
      rw [up_far (by omega), eJ]
      unfold ksave
      rw [up_far (by omega), cpr (by omega)]
    have r := r_save (G := kG K) (w := kw K) (gl := kl K) (I := up J0 319 0 x) (x := (xs (i + 1).toNatClampNeg)) hm rfl
    have hs9 : s_in (xs (i + 1).toNatClampNeg) 0 1 = true := by rw [slot_in]; exact hp
    rw [if_pos hs9, if_pos rfl, if_pos rfl] at r
    rw [← hcl] at hR
    have e9 : x = up J0 319 0 x 313 9 := by
      rw [far 313 (Or.inr rfl)]
      exact ex.trans (eq.1 9 (by omega))
    rw [← e9] at r
    refine ⟨_, r, ?_, ?_, trivial, hR⟩
    · rw [up_far (by decide), rM_312, upd_same]
    · rw [up_far (by decide), rM_ot (by decide) (by decide), up_at]
  · obtain ⟨hnp, rfl, rfl⟩ := hz
    have hs9 : ¬ s_in (xs (i + 1).toNatClampNeg) 0 1 = true := by rw [slot_in]; exact hnp
    have r := r_save (G := kG K) (w := kw K) (gl := kl K) (I := J) (x := (xs (i + 1).toNatClampNeg)) hm rfl
    rw [if_neg hs9, if_neg (by decide), if_neg (by decide)] at r
    exact ⟨0, mT J 1, r, mT_9, by decide, trivial, Rel_T h⟩
/-- restore -/
theorem st_61 (hK : zKl K b L xs Z) (hw : kw K = (0, 320)) (v1 : vp_in (i + 1) L) (v2 : vp_in (i + 2) L) (v3 : vp_in (i + 3) L) (v4 : vp_in (i + 4) L) (v5 : vp_in (i + 5) L) (hu : u.1 + 2 ≤ 601024 ∧ u.2 + 12 ≤ 7293034) (h : Rel I) (kN : ∀ (mc : Nat × Nat) (J : zM), mc.1 ≤ 2 → mc.2 ≤ 12 → Rel J → ZZ K (u.1 + mc.1, u.2 + mc.2) 2798 (lLc i) [] J) : ZZ K u 2673 (lLc i) [] I := by
  obtain ⟨hx, hm, ho, hs⟩ := rl hw
  obtain ⟨n, c, t, hO⟩ := Rel_O h
  have hn := hO.1.2.1
  have eq := hO.2.2.2.2.2.1
  have hS := h.2.1
  have key : ∃ n' c' t', n' ≤ 12 ∧ c' ≤ 6 ∧ ((s_has (xs (i + 1).toNatClampNeg) 2 = true ∧ ¬ I 236 (xs (i + 1).toNatClampNeg).toNatClampNeg = 0) → (xs (i + 1).toNatClampNeg).toNatClampNeg < 2 ∧ oR (bk (I 313) (7 + (xs (i + 1).toNatClampNeg).toNatClampNeg)) (vB I (237 + 24 * (xs (i + 1).toNatClampNeg).toNatClampNeg)) (I (237 + 24 * (xs (i + 1).toNatClampNeg).toNatClampNeg) 7) n' c' t') := by
    by_cases z : s_has (xs (i + 1).toNatClampNeg) 2 = true ∧ ¬ I 236 (xs (i + 1).toNatClampNeg).toNatClampNeg = 0
    · obtain ⟨l, hl, el⟩ := has_nat (n := 2) (m := 2) rfl (by omega) z.1
      have z2 := z.2
      rw [el, nI_clamp (by omega)] at z2
      obtain ⟨n', c', t', q⟩ := (hS l hl).2.2 z2
      rw [el, nI_clamp (by omega)]
      exact ⟨n', c', t', q.1.2.1, q.1.2.2.2.2.1, fun _ => ⟨hl, q⟩⟩
    · exact ⟨0, 0, 0, by omega, by omega, fun q => absurd q z⟩
  obtain ⟨n', c', t', hn', hc', key⟩ := key
  have hc := c_restore (G := kG K) (w := kw K) (gl := kl K) (I := I) (x := (xs (i + 1).toNatClampNeg)) hx (p := s_has (xs (i + 1).toNatClampNeg) 2 = true ∧ ¬ I 236 (xs (i + 1).toNatClampNeg).toNatClampNeg = 0) Iff.rfl (n := n') (c := c') (fun z => (key z).2.wfC.1) hn' (fun z => (key z).2.wfC.2.2.1) hc' (fun z => (hS _ (key z).1).1)
  refine lc_61 hK hx hm ho v1 rfl (wL_restore hx ho hc (fun _ _ z => qP_ex z) (fun _ _ z => by
    rw [z.2.1]
    split
    · exact Or.inr rfl
    · exact Or.inl rfl)) (g_gen (T := fun _ => True) (Q := fun J => ZZ K (u.1 + 2, u.2 + 12) 2798 (lLc i) [] J) (fun x J0 hp => ?_) (fun E J hz => ?_) (fun J hJ => kN (2, 12) J (by decide) (by decide) hJ)) hu
  · obtain ⟨hp, ex, eJ⟩ := qP_x hp
    obtain ⟨hl, kO⟩ := key hp
    have hR := Rel_restore (J := up J0 319 0 x) (z := x) h hO hl kO (by rw [eJ])
    have far : ∀ q, (q = 312 ∨ q = 313 ∨ q = 314) → up J0 319 0 x q = I q := fun q hq => by
      rw [up_far (by omega), eJ]
      unfold krest
      rw [up_far (by omega), cpr (by omega)]
    have r := r_restore (G := kG K) (w := kw K) (gl := kl K) (I := up J0 319 0 x) (x := (xs (i + 1).toNatClampNeg)) hm rfl
    have hs9 : s_in (xs (i + 1).toNatClampNeg) 0 1 = true := by rw [slot_in]; exact hp.1
    have h314 : ¬ up J0 319 0 x 314 (xs (i + 1).toNatClampNeg).toNatClampNeg = 0 := by
      rw [far 314 (by omega), (hS _ hl).2.1]
      exact hp.2
    rw [if_pos hs9, if_neg h314, if_pos rfl, if_pos rfl] at r
    have e9 : x = up J0 319 0 x 313 ((7 + (xs (i + 1).toNatClampNeg).toNatClampNeg) * 160 + 9) := by
      rw [far 313 (by omega)]
      exact ex.trans (kO.2.2.2.2.2.1.1 9 (by omega))
    rw [← e9] at r
    refine ⟨_, r, ?_, ?_, trivial, hR⟩
    · rw [rM_312, upd_ne _ _ (by decide), upd_same]
    · rw [rM_ot (by decide) (by decide), up_at]
  · obtain ⟨hnp, rfl, rfl⟩ := hz
    have r := r_restore (G := kG K) (w := kw K) (gl := kl K) (I := J) (x := (xs (i + 1).toNatClampNeg)) hm rfl
    by_cases hs9 : s_has (xs (i + 1).toNatClampNeg) 2 = true
    · have h2 : s_in (xs (i + 1).toNatClampNeg) 0 1 = true := by rw [slot_in]; exact hs9
      obtain ⟨l, hl, el⟩ := has_nat (n := 2) (m := 2) rfl (by omega) hs9
      have h314 : J 314 (xs (i + 1).toNatClampNeg).toNatClampNeg = 0 := by
        rw [(hS _ (by rw [el, nI_clamp (by omega)]; exact hl)).2.1]
        exact Decidable.not_not.mp (fun z => hnp ⟨hs9, z⟩)
      rw [if_pos h2, if_pos h314, if_neg (by decide), if_neg (by decide)] at r
      rw [if_pos hs9]
      refine ⟨0, mT J 2, r, ?_, ?_, trivial, Rel_T h⟩
      · rw [if_neg s2, if_pos rfl]; exact mT_9
      · rw [if_neg s2, if_pos rfl]; decide
    · have h2 : ¬ s_in (xs (i + 1).toNatClampNeg) 0 1 = true := by rw [slot_in]; exact hs9
      rw [if_neg h2, if_neg (by decide), if_neg (by decide)] at r
      rw [if_neg hs9]
      refine ⟨0, mT J 1, r, ?_, ?_, trivial, Rel_T h⟩
      · rw [if_pos rfl]; exact mT_9
      · rw [if_pos rfl]; decide
/-- writeLetters -/
theorem st_62 (hK : zKl K b L xs Z) (hw : kw K = (0, 320)) (v1 : vp_in (i + 1) L) (v2 : vp_in (i + 2) L) (v3 : vp_in (i + 3) L) (v4 : vp_in (i + 4) L) (v5 : vp_in (i + 5) L) (hu : u.1 + 2 ≤ 601024 ∧ u.2 + 12 ≤ 7293034) (h : Rel I) (kN : ∀ (mc : Nat × Nat) (J : zM), mc.1 ≤ 2 → mc.2 ≤ 12 → Rel J → ZZ K (u.1 + mc.1, u.2 + mc.2) 2798 (lLc i) [] J) : ZZ K u 2729 (lLc i) [] I := by
  obtain ⟨hx, hm, ho, hs⟩ := rl hw
  obtain ⟨n, c, t, hO⟩ := Rel_O h
  have hn := hO.1.2.1
  have eq := hO.2.2.2.2.2.1
  have hE := hO.2.2.2.2.2.2.1
  have hL := hO.2.2.2.2.1.L
  have eo := out_both hO.1 eq hE n (Nat.le_refl n)
  have hlen : (o_all (I 313) n).length ≤ 131 := by
    have z := all_len hO.1 hL n (Nat.le_refl n)
    by_cases e : n = 0
    · rw [e]; exact Nat.zero_le _
    · rw [if_neg e] at z; omega
  have hc := c_writeLetters (G := kG K) (w := kw K) (gl := kl K) (I := I) hx hO.wfC hO.nmLC hO.curC hO.nm
  rw [eo] at hc
  refine lc_62 hK hx hm ho  hc (fun v J z => ?_) ⟨by show u.1 + 0 ≤ _; omega, by show u.2 + 0 ≤ _; omega⟩
  obtain ⟨x, hv, ex, eJ⟩ := z
  subst ex
  have e13 : J 313 = I 313 := by rw [eJ]; exact kO_ot (by decide) (by decide)
  have r := r_writeLetters (G := kG K) (w := kw K) (gl := kl K) (I := J) hm (by rw [e13]; exact hO.1) (by rw [e13]; exact hL)
  rw [e13] at r
  exact ⟨_, _, hv, r, kN (0, 0) _ (Nat.zero_le _) (Nat.zero_le _) (Rel_wri (F := I 87) h hlen eJ)⟩
/-- outputByte -/
theorem st_63 (hK : zKl K b L xs Z) (hw : kw K = (0, 320)) (v1 : vp_in (i + 1) L) (v2 : vp_in (i + 2) L) (v3 : vp_in (i + 3) L) (v4 : vp_in (i + 4) L) (v5 : vp_in (i + 5) L) (hu : u.1 + 2 ≤ 601024 ∧ u.2 + 12 ≤ 7293034) (h : Rel I) (kN : ∀ (mc : Nat × Nat) (J : zM), mc.1 ≤ 2 → mc.2 ≤ 12 → Rel J → ZZ K (u.1 + mc.1, u.2 + mc.2) 2798 (lLc i) [] J) : ZZ K u 2742 (lLc i) [] I := by
  obtain ⟨hx, hm, ho, hs⟩ := rl hw
  obtain ⟨n, c, t, hO⟩ := Rel_O h
  have hn := hO.1.2.1
  have eq := hO.2.2.2.2.2.1
  obtain ⟨M, w1, w2, w3, w4⟩ := h.2.2.2.2.2.2
  have hc := c_outputByte (G := kG K) (w := kw K) (gl := kl K) (I := I) (x := (xs (i + 1).toNatClampNeg)) hx w2 w3
  refine lc_63 hK hx hm ho v1 rfl (wL_outputByte hx ho hc (fun _ _ z => qP_ex z) (fun _ _ z => z.2.1)) (g_read (q := s_has (xs (i + 1).toNatClampNeg) (I 312 8) = true) (y' := I 316 (xs (i + 1).toNatClampNeg).toNatClampNeg) (T := fun _ => True) (Q := fun J => ZZ K (u.1 + 1, u.2 + 6) 2798 (lLc i) [] J) h rfl (fun J hJ => ?_) (by rw [w2, w1]) (fun q => ?_) (fun _ => trivial) trivial (fun J hJ => kN (1, 6) J (by decide) (by decide) hJ)) ⟨by show u.1 + 1 ≤ _; omega, by show u.2 + 6 ≤ _; omega⟩
  · have r := r_outputByte (G := kG K) (w := kw K) (gl := kl K) (I := J) (x := (xs (i + 1).toNatClampNeg)) (M := M) hm (by rw [hJ 312 (by decide)]; exact w1) (by omega)
    rw [hJ 312 (by decide), hJ 316 (by decide)] at r
    exact r
  · obtain ⟨l, hl, el⟩ := has_nat w1 (by omega) q
    rw [el, nI_clamp (by omega)]
    exact (w4 l hl).symm
end CSD
