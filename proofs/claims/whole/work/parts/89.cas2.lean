/-! THE LAW'S CASES: numbers with a point, forecasts (written by wip/gen) -/
section CSB
variable {K : zK} {b L : Nat} {xs : Nat → Int32} {Z : lZ} {u : Nat × Nat} {I : zM} {i : Int32}

/-- utilization -/
theorem st_41 (hK : zKl K b L xs Z) (hw : kw K = (0, 320)) (v1 : vp_in (i + 1) L) (v2 : vp_in (i + 2) L) (v3 : vp_in (i + 3) L) (v4 : vp_in (i + 4) L) (v5 : vp_in (i + 5) L) (hu : u.1 + 2 ≤ 601024 ∧ u.2 + 12 ≤ 7293034) (h : Rel I) (kN : ∀ (mc : Nat × Nat) (J : zM), mc.1 ≤ 2 → mc.2 ≤ 12 → Rel J → ZZ K (u.1 + mc.1, u.2 + mc.2) 2798 (lLc i) [] J) : ZZ K u 1693 (lLc i) [] I := by
  obtain ⟨hx, hm, ho, hs⟩ := rl hw
  obtain ⟨n, c, t, hO⟩ := Rel_O h
  have hn := hO.1.2.1
  have eq := hO.2.2.2.2.2.1
  have ht := hO.2.1
  have e9 : I 288 4 = nI t := (eq.1 9 (by omega)).trans (wf_9 hO.1)
  have e18 : I 288 15 = I 313 18 := eq.1 18 (by omega)
  refine lc_41 hK hx hm ho (c_utilization (G := kG K) (w := kw K) (gl := kl K) hx e9 ht) (fun v J z => ?_) ⟨by show u.1 + 0 ≤ _; omega, by show u.2 + 0 ≤ _; omega⟩
  obtain ⟨hv, rfl⟩ := z
  exact ⟨_, mT J 0, hv, by rw [e18]; exact r_utilization (G := kG K) (w := kw K) (gl := kl K) hm (wf_9 hO.1) ht, util_num ht, kN (0, 0) _ (Nat.zero_le _) (Nat.zero_le _) (Rel_T h)⟩
/-- meanTurnaround -/
theorem st_42 (hK : zKl K b L xs Z) (hw : kw K = (0, 320)) (v1 : vp_in (i + 1) L) (v2 : vp_in (i + 2) L) (v3 : vp_in (i + 3) L) (v4 : vp_in (i + 4) L) (v5 : vp_in (i + 5) L) (hu : u.1 + 2 ≤ 601024 ∧ u.2 + 12 ≤ 7293034) (h : Rel I) (kN : ∀ (mc : Nat × Nat) (J : zM), mc.1 ≤ 2 → mc.2 ≤ 12 → Rel J → ZZ K (u.1 + mc.1, u.2 + mc.2) 2798 (lLc i) [] J) : ZZ K u 1736 (lLc i) [] I := by
  obtain ⟨hx, hm, ho, hs⟩ := rl hw
  obtain ⟨n, c, t, hO⟩ := Rel_O h
  have hn := hO.1.2.1
  have eq := hO.2.2.2.2.2.1
  have e1 : s_tsum (vB I 288) n = s_tsum (I 313) n := tsum_eq eq
  have e2 : s_cnt (s_done (vB I 288)) n = s_cnt (s_done (I 313)) n := cnt_eq (q := s_done) (r := s_done) (fun l hl => eq_done eq hl)
  have l2 := s_cnt_le (s_done (vB I 288)) n
  refine lc_42 hK hx hm ho (c_meanTurnaround (G := kG K) (w := kw K) (gl := kl K) hx hO.wfC.1 hn (fun l hl => (wf_rem hO.wfC l hl).1)) (fun v J z => ?_) ⟨by show u.1 + 0 ≤ _; omega, by show u.2 + 0 ≤ _; omega⟩
  obtain ⟨hv, rfl⟩ := z
  exact ⟨_, mT J 0, hv, by rw [e1, e2]; exact r_meanTurnaround (G := kG K) (w := kw K) (gl := kl K) hm hO.1.1 hn, turn_num (by omega), kN (0, 0) _ (Nat.zero_le _) (Nat.zero_le _) (Rel_T h)⟩
/-- minutesToFinish -/
theorem st_44 (hK : zKl K b L xs Z) (hw : kw K = (0, 320)) (v1 : vp_in (i + 1) L) (v2 : vp_in (i + 2) L) (v3 : vp_in (i + 3) L) (v4 : vp_in (i + 4) L) (v5 : vp_in (i + 5) L) (hu : u.1 + 2 ≤ 601024 ∧ u.2 + 12 ≤ 7293034) (h : Rel I) (kN : ∀ (mc : Nat × Nat) (J : zM), mc.1 ≤ 2 → mc.2 ≤ 12 → Rel J → ZZ K (u.1 + mc.1, u.2 + mc.2) 2798 (lLc i) [] J) : ZZ K u 1790 (lLc i) [] I := by
  obtain ⟨hx, hm, ho, hs⟩ := rl hw
  obtain ⟨n, c, t, hO⟩ := Rel_O h
  have hn := hO.1.2.1
  have eq := hO.2.2.2.2.2.1
  have ht := hO.2.1
  have hk := kc_of hO
  have wA : s_wf (s_aside (I 313)) n c t := eq_wf (eq_aside hn) hO.1
  have nA : s_num (s_aside (I 313)) n t := num_eq hO.2.2.2.1 (eq_aside hn)
  have eA : s_eq n (s_aside (I 313)) (vB I 288) := s_eq.tr (eq_aside hn).sy eq
  have eD : s_eq n (s_aside (I 313)) (spD I n c) := s_eq.tr eA spD_eq
  exact lc_44 hK hx hm ho  (c_minutesToFinish (G := kG K) (w := kw K) (gl := kl K) hx hk h.1) (g_fc (Q := fun J => ZZ K (u.1 + 0, u.2 + 0) 2798 (lLc i) [] J) h (fun J hJ => by
    have r := r_minutesToFinish (G := kG K) (w := kw K) (gl := kl K) (I := J) hm (by rw [hJ.2]; exact hO.1) (by rw [hJ.2]; exact wA) ht
    rw [hJ.1, hJ.2] at r ⊢
    exact r) (fin_both eD wA ht) (fun J hJ => kN (0, 0) J (Nat.zero_le _) (Nat.zero_le _) hJ)) ⟨by show u.1 + 0 ≤ _; omega, by show u.2 + 0 ≤ _; omega⟩
/-- bestPolicy -/
theorem st_49 (hK : zKl K b L xs Z) (hw : kw K = (0, 320)) (v1 : vp_in (i + 1) L) (v2 : vp_in (i + 2) L) (v3 : vp_in (i + 3) L) (v4 : vp_in (i + 4) L) (v5 : vp_in (i + 5) L) (hu : u.1 + 2 ≤ 601024 ∧ u.2 + 12 ≤ 7293034) (h : Rel I) (kN : ∀ (mc : Nat × Nat) (J : zM), mc.1 ≤ 2 → mc.2 ≤ 12 → Rel J → ZZ K (u.1 + mc.1, u.2 + mc.2) 2798 (lLc i) [] J) : ZZ K u 2027 (lLc i) [] I := by
  obtain ⟨hx, hm, ho, hs⟩ := rl hw
  obtain ⟨n, c, t, hO⟩ := Rel_O h
  have hn := hO.1.2.1
  have eq := hO.2.2.2.2.2.1
  have ht := hO.2.1
  have hk := kc_of hO
  have wA : s_wf (s_aside (I 313)) n c t := eq_wf (eq_aside hn) hO.1
  have nA : s_num (s_aside (I 313)) n t := num_eq hO.2.2.2.1 (eq_aside hn)
  have eA : s_eq n (s_aside (I 313)) (vB I 288) := s_eq.tr (eq_aside hn).sy eq
  have eD : s_eq n (s_aside (I 313)) (spD I n c) := s_eq.tr eA spD_eq
  exact lc_49 hK hx hm ho  (c_bestPolicy (G := kG K) (w := kw K) (gl := kl K) hx hk h.1) (g_fc (Q := fun J => ZZ K (u.1 + 0, u.2 + 0) 2798 (lLc i) [] J) h (fun J hJ => by
    have r := r_bestPolicy (G := kG K) (w := kw K) (gl := kl K) (I := J) hm (by rw [hJ.2]; exact wA) ht
    rw [hJ.1, hJ.2] at r ⊢
    exact r) (by rw [best_both wA nA ht eA]) (fun J hJ => kN (0, 0) J (Nat.zero_le _) (Nat.zero_le _) hJ)) ⟨by show u.1 + 0 ≤ _; omega, by show u.2 + 0 ≤ _; omega⟩
/-- minutesToFinishLetter -/
theorem st_45 (hK : zKl K b L xs Z) (hw : kw K = (0, 320)) (v1 : vp_in (i + 1) L) (v2 : vp_in (i + 2) L) (v3 : vp_in (i + 3) L) (v4 : vp_in (i + 4) L) (v5 : vp_in (i + 5) L) (hu : u.1 + 2 ≤ 601024 ∧ u.2 + 12 ≤ 7293034) (h : Rel I) (kN : ∀ (mc : Nat × Nat) (J : zM), mc.1 ≤ 2 → mc.2 ≤ 12 → Rel J → ZZ K (u.1 + mc.1, u.2 + mc.2) 2798 (lLc i) [] J) : ZZ K u 1803 (lLc i) [] I := by
  obtain ⟨hx, hm, ho, hs⟩ := rl hw
  obtain ⟨n, c, t, hO⟩ := Rel_O h
  have hn := hO.1.2.1
  have eq := hO.2.2.2.2.2.1
  have ht := hO.2.1
  have hk := kc_of hO
  have wA : s_wf (s_aside (I 313)) n c t := eq_wf (eq_aside hn) hO.1
  have nA : s_num (s_aside (I 313)) n t := num_eq hO.2.2.2.1 (eq_aside hn)
  have eA : s_eq n (s_aside (I 313)) (vB I 288) := s_eq.tr (eq_aside hn).sy eq
  have eD : s_eq n (s_aside (I 313)) (spD I n c) := s_eq.tr eA spD_eq
  exact lc_45 hK hx hm ho v1 rfl (wL_minutesToFinishLetter hx ho (c_minutesToFinishLetter (G := kG K) (w := kw K) (gl := kl K) (x := (xs (i + 1).toNatClampNeg)) hx hk h.1) (fun _ _ z => qS_ex z) (fun _ _ z => z.2.1)) (g_fcW (Q := fun J => ZZ K (u.1 + 1, u.2 + 6) 2798 (lLc i) [] J) h rfl (fun J hJ => by
    have r := r_minutesToFinishLetter (G := kG K) (w := kw K) (gl := kl K) (I := J) (x := (xs (i + 1).toNatClampNeg)) hm (by rw [hJ.2]; exact hO.1) (by rw [hJ.2]; exact wA) ht
    rw [hJ.1, hJ.2] at r ⊢
    exact r) (by rw [eq.1 8 (by omega)]) (fun q => by
    obtain ⟨l, hl, ex⟩ := has_nat hO.1.1 (by omega) q
    rw [ex, nI_clamp (by omega)]
    exact finl_both eD wA ht hl) (fun J hJ => kN (1, 6) J (by decide) (by decide) hJ)) ⟨by show u.1 + 1 ≤ _; omega, by show u.2 + 6 ≤ _; omega⟩
/-- letterWrittenIn -/
theorem st_46 (hK : zKl K b L xs Z) (hw : kw K = (0, 320)) (v1 : vp_in (i + 1) L) (v2 : vp_in (i + 2) L) (v3 : vp_in (i + 3) L) (v4 : vp_in (i + 4) L) (v5 : vp_in (i + 5) L) (hu : u.1 + 2 ≤ 601024 ∧ u.2 + 12 ≤ 7293034) (h : Rel I) (kN : ∀ (mc : Nat × Nat) (J : zM), mc.1 ≤ 2 → mc.2 ≤ 12 → Rel J → ZZ K (u.1 + mc.1, u.2 + mc.2) 2798 (lLc i) [] J) : ZZ K u 1859 (lLc i) [] I := by
  obtain ⟨hx, hm, ho, hs⟩ := rl hw
  obtain ⟨n, c, t, hO⟩ := Rel_O h
  have hn := hO.1.2.1
  have eq := hO.2.2.2.2.2.1
  have ht := hO.2.1
  have hk := kc_of hO
  have wA : s_wf (s_aside (I 313)) n c t := eq_wf (eq_aside hn) hO.1
  have nA : s_num (s_aside (I 313)) n t := num_eq hO.2.2.2.1 (eq_aside hn)
  have eA : s_eq n (s_aside (I 313)) (vB I 288) := s_eq.tr (eq_aside hn).sy eq
  have eD : s_eq n (s_aside (I 313)) (spD I n c) := s_eq.tr eA spD_eq
  exact lc_46 hK hx hm ho v1 rfl (wL_letterWrittenIn hx ho (c_letterWrittenIn (G := kG K) (w := kw K) (gl := kl K) (x := (xs (i + 1).toNatClampNeg)) hx hk h.1) (fun _ _ z => qS_ex z) (fun _ _ z => z.2.1)) (g_fcW (Q := fun J => ZZ K (u.1 + 1, u.2 + 6) 2798 (lLc i) [] J) h rfl (fun J hJ => by
    have r := r_letterWrittenIn (G := kG K) (w := kw K) (gl := kl K) (I := J) (x := (xs (i + 1).toNatClampNeg)) hm (by rw [hJ.2]; exact hO.1) (by rw [hJ.2]; exact wA) ht
    rw [hJ.1, hJ.2] at r ⊢
    exact r) Iff.rfl (fun q => by
    obtain ⟨p1, p2⟩ := in_le q
    obtain ⟨j, hj, ej⟩ := i_of (M := 300) (n := 300) (by decide) p1 p2
    rw [ej, nI_clamp (by omega)]
    exact lwi_both eD wA nA (by omega)) (fun J hJ => kN (1, 6) J (by decide) (by decide) hJ)) ⟨by show u.1 + 1 ≤ _; omega, by show u.2 + 6 ≤ _; omega⟩
/-- lateWith -/
theorem st_47 (hK : zKl K b L xs Z) (hw : kw K = (0, 320)) (v1 : vp_in (i + 1) L) (v2 : vp_in (i + 2) L) (v3 : vp_in (i + 3) L) (v4 : vp_in (i + 4) L) (v5 : vp_in (i + 5) L) (hu : u.1 + 2 ≤ 601024 ∧ u.2 + 12 ≤ 7293034) (h : Rel I) (kN : ∀ (mc : Nat × Nat) (J : zM), mc.1 ≤ 2 → mc.2 ≤ 12 → Rel J → ZZ K (u.1 + mc.1, u.2 + mc.2) 2798 (lLc i) [] J) : ZZ K u 1915 (lLc i) [] I := by
  obtain ⟨hx, hm, ho, hs⟩ := rl hw
  obtain ⟨n, c, t, hO⟩ := Rel_O h
  have hn := hO.1.2.1
  have eq := hO.2.2.2.2.2.1
  have ht := hO.2.1
  have hk := kc_of hO
  have wA : s_wf (s_aside (I 313)) n c t := eq_wf (eq_aside hn) hO.1
  have nA : s_num (s_aside (I 313)) n t := num_eq hO.2.2.2.1 (eq_aside hn)
  have eA : s_eq n (s_aside (I 313)) (vB I 288) := s_eq.tr (eq_aside hn).sy eq
  have eD : s_eq n (s_aside (I 313)) (spD I n c) := s_eq.tr eA spD_eq
  exact lc_47 hK hx hm ho v1 rfl (wL_lateWith hx ho (c_lateWith (G := kG K) (w := kw K) (gl := kl K) (x := (xs (i + 1).toNatClampNeg)) hx hk h.1) (fun _ _ z => qS_ex z) (fun _ _ z => z.2.1)) (g_fcW (Q := fun J => ZZ K (u.1 + 1, u.2 + 6) 2798 (lLc i) [] J) h rfl (fun J hJ => by
    have r := r_lateWith (G := kG K) (w := kw K) (gl := kl K) (I := J) (x := (xs (i + 1).toNatClampNeg)) hm (by rw [hJ.2]; exact wA) ht
    rw [hJ.1, hJ.2] at r ⊢
    exact r) Iff.rfl (fun q => by
    obtain ⟨p, hp, -, ep⟩ := pol_in q
    rw [ep, kLate_eq (spX_eq hk hp), kLate_eq (fX_eq eA wA ht hp), far_late wA nA ht hp]) (fun J hJ => kN (1, 6) J (by decide) (by decide) hJ)) ⟨by show u.1 + 1 ≤ _; omega, by show u.2 + 6 ≤ _; omega⟩
/-- waitingWith -/
theorem st_48 (hK : zKl K b L xs Z) (hw : kw K = (0, 320)) (v1 : vp_in (i + 1) L) (v2 : vp_in (i + 2) L) (v3 : vp_in (i + 3) L) (v4 : vp_in (i + 4) L) (v5 : vp_in (i + 5) L) (hu : u.1 + 2 ≤ 601024 ∧ u.2 + 12 ≤ 7293034) (h : Rel I) (kN : ∀ (mc : Nat × Nat) (J : zM), mc.1 ≤ 2 → mc.2 ≤ 12 → Rel J → ZZ K (u.1 + mc.1, u.2 + mc.2) 2798 (lLc i) [] J) : ZZ K u 1971 (lLc i) [] I := by
  obtain ⟨hx, hm, ho, hs⟩ := rl hw
  obtain ⟨n, c, t, hO⟩ := Rel_O h
  have hn := hO.1.2.1
  have eq := hO.2.2.2.2.2.1
  have ht := hO.2.1
  have hk := kc_of hO
  have wA : s_wf (s_aside (I 313)) n c t := eq_wf (eq_aside hn) hO.1
  have nA : s_num (s_aside (I 313)) n t := num_eq hO.2.2.2.1 (eq_aside hn)
  have eA : s_eq n (s_aside (I 313)) (vB I 288) := s_eq.tr (eq_aside hn).sy eq
  have eD : s_eq n (s_aside (I 313)) (spD I n c) := s_eq.tr eA spD_eq
  exact lc_48 hK hx hm ho v1 rfl (wL_waitingWith hx ho (c_waitingWith (G := kG K) (w := kw K) (gl := kl K) (x := (xs (i + 1).toNatClampNeg)) hx hk h.1) (fun _ _ z => qS_ex z) (fun _ _ z => z.2.1)) (g_fcW (Q := fun J => ZZ K (u.1 + 1, u.2 + 6) 2798 (lLc i) [] J) h rfl (fun J hJ => by
    have r := r_waitingWith (G := kG K) (w := kw K) (gl := kl K) (I := J) (x := (xs (i + 1).toNatClampNeg)) hm (by rw [hJ.2]; exact wA) ht
    rw [hJ.1, hJ.2] at r ⊢
    exact r) Iff.rfl (fun q => by
    obtain ⟨p, hp, -, ep⟩ := pol_in q
    rw [ep, kWait_eq (spX_eq hk hp), kWait_eq (fX_eq eA wA ht hp), far_wait wA nA ht hp]) (fun J hJ => kN (1, 6) J (by decide) (by decide) hJ)) ⟨by show u.1 + 1 ≤ _; omega, by show u.2 + 6 ≤ _; omega⟩
/-- fewestLate -/
theorem st_50 (hK : zKl K b L xs Z) (hw : kw K = (0, 320)) (v1 : vp_in (i + 1) L) (v2 : vp_in (i + 2) L) (v3 : vp_in (i + 3) L) (v4 : vp_in (i + 4) L) (v5 : vp_in (i + 5) L) (hu : u.1 + 2 ≤ 601024 ∧ u.2 + 12 ≤ 7293034) (h : Rel I) (kN : ∀ (mc : Nat × Nat) (J : zM), mc.1 ≤ 2 → mc.2 ≤ 12 → Rel J → ZZ K (u.1 + mc.1, u.2 + mc.2) 2798 (lLc i) [] J) : ZZ K u 2040 (lLc i) [] I := by
  obtain ⟨hx, hm, ho, hs⟩ := rl hw
  obtain ⟨n, c, t, hO⟩ := Rel_O h
  have hn := hO.1.2.1
  have eq := hO.2.2.2.2.2.1
  have hc := c_fewestLate (G := kG K) (gl := kl K) (I := I) (B := vB I 288) (n := n) (c := c) (t := t) (fun l hl f hf => by
    show I (300 + l) f = _
    exact (voL hf).symm) hO.wfC ((eq.1 8 (by omega)).trans hO.1.1) ((eq.1 9 (by omega)).trans (wf_9 hO.1)) (I 318)
  rw [← hw] at hc
  refine lc_50 hK hx hm ho hc (fun v J z => ?_) ⟨by show u.1 + 1 ≤ _; omega, hu.2⟩
  obtain ⟨x, hv, ex, rfl⟩ := z
  rw [few_eq eq hn] at ex
  subst ex
  exact ⟨_, _, hv, r_fewestLate (G := kG K) (w := kw K) (gl := kl K) hm hn hO.1.1, kN (1, 12) _ (by decide) (by decide) (Rel_order h)⟩
end CSB
