/-! THE LAW'S CASES: reading calls (written by wip/gen) -/
theorem rl {K : zK} (hw : kw K = (0, 320)) : isT (kw K) 10 0 ∧ isT (kw K) 11 312 ∧ isT (kw K) 23 319 ∧ isT (kw K) 9 288 := by
  rw [hw]
  exact ⟨⟨⟨by decide, by decide⟩, by decide +kernel⟩, ⟨⟨by decide, by decide⟩, by decide +kernel⟩, ⟨⟨by decide, by decide⟩, by decide +kernel⟩, ⟨⟨by decide, by decide⟩, by decide +kernel⟩⟩
theorem qP_ex {p : Prop} {y : Int32} {I J : zM} {v : Option Value} (h : qP p y I v J) : ∃ x : Int32, v = some (.int x) := by
  obtain ⟨-, x, hx, -⟩ := h
  exact ⟨x, hx⟩
theorem qS_ex {p : Prop} {y : Int32} {I J : zM} {v : Option Value} (h : p ∧ qS y I v J) : ∃ x : Int32, v = some (.int x) := ⟨_, h.2.1⟩
section CSA
variable {K : zK} {b L : Nat} {xs : Nat → Int32} {Z : lZ} {u : Nat × Nat} {I : zM} {i : Int32}

/-- errorCode -/
theorem st_3 (hK : zKl K b L xs Z) (hw : kw K = (0, 320)) (v1 : vp_in (i + 1) L) (v2 : vp_in (i + 2) L) (v3 : vp_in (i + 3) L) (v4 : vp_in (i + 4) L) (v5 : vp_in (i + 5) L) (hu : u.1 + 2 ≤ 601024 ∧ u.2 + 12 ≤ 7293034) (h : Rel I) (kN : ∀ (mc : Nat × Nat) (J : zM), mc.1 ≤ 2 → mc.2 ≤ 12 → Rel J → ZZ K (u.1 + mc.1, u.2 + mc.2) 2798 (lLc i) [] J) : ZZ K u 516 (lLc i) [] I := by
  obtain ⟨hx, hm, ho, hs⟩ := rl hw
  obtain ⟨n, c, t, hO⟩ := Rel_O h
  have hn := hO.1.2.1
  have eq := hO.2.2.2.2.2.1
  exact lc_3 hK hx hm ho  (c_errorCode (G := kG K) (w := kw K) (gl := kl K) hx) (g_plain (Q := fun J => ZZ K (u.1 + 0, u.2 + 0) 2798 (lLc i) [] J) h (r_errorCode (G := kG K) (w := kw K) (gl := kl K) hm) (h.2.2.2.2.2.1.1.symm) (fun J hJ => kN (0, 0) J (Nat.zero_le _) (Nat.zero_le _) hJ)) ⟨by show u.1 + 0 ≤ _; omega, by show u.2 + 0 ≤ _; omega⟩
/-- errorPosition -/
theorem st_4 (hK : zKl K b L xs Z) (hw : kw K = (0, 320)) (v1 : vp_in (i + 1) L) (v2 : vp_in (i + 2) L) (v3 : vp_in (i + 3) L) (v4 : vp_in (i + 4) L) (v5 : vp_in (i + 5) L) (hu : u.1 + 2 ≤ 601024 ∧ u.2 + 12 ≤ 7293034) (h : Rel I) (kN : ∀ (mc : Nat × Nat) (J : zM), mc.1 ≤ 2 → mc.2 ≤ 12 → Rel J → ZZ K (u.1 + mc.1, u.2 + mc.2) 2798 (lLc i) [] J) : ZZ K u 529 (lLc i) [] I := by
  obtain ⟨hx, hm, ho, hs⟩ := rl hw
  obtain ⟨n, c, t, hO⟩ := Rel_O h
  have hn := hO.1.2.1
  have eq := hO.2.2.2.2.2.1
  exact lc_4 hK hx hm ho  (c_errorPosition (G := kG K) (w := kw K) (gl := kl K) hx) (g_plain (Q := fun J => ZZ K (u.1 + 0, u.2 + 0) 2798 (lLc i) [] J) h (r_errorPosition (G := kG K) (w := kw K) (gl := kl K) hm) (h.2.2.2.2.2.1.2.symm) (fun J hJ => kN (0, 0) J (Nat.zero_le _) (Nat.zero_le _) hJ)) ⟨by show u.1 + 0 ≤ _; omega, by show u.2 + 0 ≤ _; omega⟩
/-- clerkCount -/
theorem st_5 (hK : zKl K b L xs Z) (hw : kw K = (0, 320)) (v1 : vp_in (i + 1) L) (v2 : vp_in (i + 2) L) (v3 : vp_in (i + 3) L) (v4 : vp_in (i + 4) L) (v5 : vp_in (i + 5) L) (hu : u.1 + 2 ≤ 601024 ∧ u.2 + 12 ≤ 7293034) (h : Rel I) (kN : ∀ (mc : Nat × Nat) (J : zM), mc.1 ≤ 2 → mc.2 ≤ 12 → Rel J → ZZ K (u.1 + mc.1, u.2 + mc.2) 2798 (lLc i) [] J) : ZZ K u 542 (lLc i) [] I := by
  obtain ⟨hx, hm, ho, hs⟩ := rl hw
  obtain ⟨n, c, t, hO⟩ := Rel_O h
  have hn := hO.1.2.1
  have eq := hO.2.2.2.2.2.1
  exact lc_5 hK hx hm ho  (c_clerkCount (G := kG K) (w := kw K) (gl := kl K) hx) (g_plain (Q := fun J => ZZ K (u.1 + 0, u.2 + 0) 2798 (lLc i) [] J) h (r_clerkCount (G := kG K) (w := kw K) (gl := kl K) hm) (eq.1 7 (by omega)) (fun J hJ => kN (0, 0) J (Nat.zero_le _) (Nat.zero_le _) hJ)) ⟨by show u.1 + 0 ≤ _; omega, by show u.2 + 0 ≤ _; omega⟩
/-- letterCount -/
theorem st_6 (hK : zKl K b L xs Z) (hw : kw K = (0, 320)) (v1 : vp_in (i + 1) L) (v2 : vp_in (i + 2) L) (v3 : vp_in (i + 3) L) (v4 : vp_in (i + 4) L) (v5 : vp_in (i + 5) L) (hu : u.1 + 2 ≤ 601024 ∧ u.2 + 12 ≤ 7293034) (h : Rel I) (kN : ∀ (mc : Nat × Nat) (J : zM), mc.1 ≤ 2 → mc.2 ≤ 12 → Rel J → ZZ K (u.1 + mc.1, u.2 + mc.2) 2798 (lLc i) [] J) : ZZ K u 555 (lLc i) [] I := by
  obtain ⟨hx, hm, ho, hs⟩ := rl hw
  obtain ⟨n, c, t, hO⟩ := Rel_O h
  have hn := hO.1.2.1
  have eq := hO.2.2.2.2.2.1
  exact lc_6 hK hx hm ho  (c_letterCount (G := kG K) (w := kw K) (gl := kl K) hx) (g_plain (Q := fun J => ZZ K (u.1 + 0, u.2 + 0) 2798 (lLc i) [] J) h (r_letterCount (G := kG K) (w := kw K) (gl := kl K) hm) (eq.1 8 (by omega)) (fun J hJ => kN (0, 0) J (Nat.zero_le _) (Nat.zero_le _) hJ)) ⟨by show u.1 + 0 ≤ _; omega, by show u.2 + 0 ≤ _; omega⟩
/-- minute -/
theorem st_7 (hK : zKl K b L xs Z) (hw : kw K = (0, 320)) (v1 : vp_in (i + 1) L) (v2 : vp_in (i + 2) L) (v3 : vp_in (i + 3) L) (v4 : vp_in (i + 4) L) (v5 : vp_in (i + 5) L) (hu : u.1 + 2 ≤ 601024 ∧ u.2 + 12 ≤ 7293034) (h : Rel I) (kN : ∀ (mc : Nat × Nat) (J : zM), mc.1 ≤ 2 → mc.2 ≤ 12 → Rel J → ZZ K (u.1 + mc.1, u.2 + mc.2) 2798 (lLc i) [] J) : ZZ K u 568 (lLc i) [] I := by
  obtain ⟨hx, hm, ho, hs⟩ := rl hw
  obtain ⟨n, c, t, hO⟩ := Rel_O h
  have hn := hO.1.2.1
  have eq := hO.2.2.2.2.2.1
  exact lc_7 hK hx hm ho  (c_minute (G := kG K) (w := kw K) (gl := kl K) hx) (g_plain (Q := fun J => ZZ K (u.1 + 0, u.2 + 0) 2798 (lLc i) [] J) h (r_minute (G := kG K) (w := kw K) (gl := kl K) hm) (eq.1 9 (by omega)) (fun J hJ => kN (0, 0) J (Nat.zero_le _) (Nat.zero_le _) hJ)) ⟨by show u.1 + 0 ≤ _; omega, by show u.2 + 0 ≤ _; omega⟩
/-- policy -/
theorem st_8 (hK : zKl K b L xs Z) (hw : kw K = (0, 320)) (v1 : vp_in (i + 1) L) (v2 : vp_in (i + 2) L) (v3 : vp_in (i + 3) L) (v4 : vp_in (i + 4) L) (v5 : vp_in (i + 5) L) (hu : u.1 + 2 ≤ 601024 ∧ u.2 + 12 ≤ 7293034) (h : Rel I) (kN : ∀ (mc : Nat × Nat) (J : zM), mc.1 ≤ 2 → mc.2 ≤ 12 → Rel J → ZZ K (u.1 + mc.1, u.2 + mc.2) 2798 (lLc i) [] J) : ZZ K u 581 (lLc i) [] I := by
  obtain ⟨hx, hm, ho, hs⟩ := rl hw
  obtain ⟨n, c, t, hO⟩ := Rel_O h
  have hn := hO.1.2.1
  have eq := hO.2.2.2.2.2.1
  exact lc_8 hK hx hm ho  (c_policy (G := kG K) (w := kw K) (gl := kl K) hx) (g_plain (Q := fun J => ZZ K (u.1 + 0, u.2 + 0) 2798 (lLc i) [] J) h (r_policy (G := kG K) (w := kw K) (gl := kl K) hm) (eq.1 0 (by omega)) (fun J hJ => kN (0, 0) J (Nat.zero_le _) (Nat.zero_le _) hJ)) ⟨by show u.1 + 0 ≤ _; omega, by show u.2 + 0 ≤ _; omega⟩
/-- holder -/
theorem st_9 (hK : zKl K b L xs Z) (hw : kw K = (0, 320)) (v1 : vp_in (i + 1) L) (v2 : vp_in (i + 2) L) (v3 : vp_in (i + 3) L) (v4 : vp_in (i + 4) L) (v5 : vp_in (i + 5) L) (hu : u.1 + 2 ≤ 601024 ∧ u.2 + 12 ≤ 7293034) (h : Rel I) (kN : ∀ (mc : Nat × Nat) (J : zM), mc.1 ≤ 2 → mc.2 ≤ 12 → Rel J → ZZ K (u.1 + mc.1, u.2 + mc.2) 2798 (lLc i) [] J) : ZZ K u 594 (lLc i) [] I := by
  obtain ⟨hx, hm, ho, hs⟩ := rl hw
  obtain ⟨n, c, t, hO⟩ := Rel_O h
  have hn := hO.1.2.1
  have eq := hO.2.2.2.2.2.1
  exact lc_9 hK hx hm ho  (c_holder (G := kG K) (w := kw K) (gl := kl K) hx) (g_plain (Q := fun J => ZZ K (u.1 + 0, u.2 + 0) 2798 (lLc i) [] J) h (r_holder (G := kG K) (w := kw K) (gl := kl K) hm) (eq.1 10 (by omega)) (fun J hJ => kN (0, 0) J (Nat.zero_le _) (Nat.zero_le _) hJ)) ⟨by show u.1 + 0 ≤ _; omega, by show u.2 + 0 ≤ _; omega⟩
/-- lastLetter -/
theorem st_11 (hK : zKl K b L xs Z) (hw : kw K = (0, 320)) (v1 : vp_in (i + 1) L) (v2 : vp_in (i + 2) L) (v3 : vp_in (i + 3) L) (v4 : vp_in (i + 4) L) (v5 : vp_in (i + 5) L) (hu : u.1 + 2 ≤ 601024 ∧ u.2 + 12 ≤ 7293034) (h : Rel I) (kN : ∀ (mc : Nat × Nat) (J : zM), mc.1 ≤ 2 → mc.2 ≤ 12 → Rel J → ZZ K (u.1 + mc.1, u.2 + mc.2) 2798 (lLc i) [] J) : ZZ K u 620 (lLc i) [] I := by
  obtain ⟨hx, hm, ho, hs⟩ := rl hw
  obtain ⟨n, c, t, hO⟩ := Rel_O h
  have hn := hO.1.2.1
  have eq := hO.2.2.2.2.2.1
  exact lc_11 hK hx hm ho  (c_lastLetter (G := kG K) (w := kw K) (gl := kl K) hx) (g_plain (Q := fun J => ZZ K (u.1 + 0, u.2 + 0) 2798 (lLc i) [] J) h (r_lastLetter (G := kG K) (w := kw K) (gl := kl K) hm) (eq.1 11 (by omega)) (fun J hJ => kN (0, 0) J (Nat.zero_le _) (Nat.zero_le _) hJ)) ⟨by show u.1 + 0 ≤ _; omega, by show u.2 + 0 ≤ _; omega⟩
/-- runLength -/
theorem st_12 (hK : zKl K b L xs Z) (hw : kw K = (0, 320)) (v1 : vp_in (i + 1) L) (v2 : vp_in (i + 2) L) (v3 : vp_in (i + 3) L) (v4 : vp_in (i + 4) L) (v5 : vp_in (i + 5) L) (hu : u.1 + 2 ≤ 601024 ∧ u.2 + 12 ≤ 7293034) (h : Rel I) (kN : ∀ (mc : Nat × Nat) (J : zM), mc.1 ≤ 2 → mc.2 ≤ 12 → Rel J → ZZ K (u.1 + mc.1, u.2 + mc.2) 2798 (lLc i) [] J) : ZZ K u 633 (lLc i) [] I := by
  obtain ⟨hx, hm, ho, hs⟩ := rl hw
  obtain ⟨n, c, t, hO⟩ := Rel_O h
  have hn := hO.1.2.1
  have eq := hO.2.2.2.2.2.1
  exact lc_12 hK hx hm ho  (c_runLength (G := kG K) (w := kw K) (gl := kl K) hx) (g_plain (Q := fun J => ZZ K (u.1 + 0, u.2 + 0) 2798 (lLc i) [] J) h (r_runLength (G := kG K) (w := kw K) (gl := kl K) hm) (eq.1 12 (by omega)) (fun J hJ => kN (0, 0) J (Nat.zero_le _) (Nat.zero_le _) hJ)) ⟨by show u.1 + 0 ≤ _; omega, by show u.2 + 0 ≤ _; omega⟩
/-- ink -/
theorem st_13 (hK : zKl K b L xs Z) (hw : kw K = (0, 320)) (v1 : vp_in (i + 1) L) (v2 : vp_in (i + 2) L) (v3 : vp_in (i + 3) L) (v4 : vp_in (i + 4) L) (v5 : vp_in (i + 5) L) (hu : u.1 + 2 ≤ 601024 ∧ u.2 + 12 ≤ 7293034) (h : Rel I) (kN : ∀ (mc : Nat × Nat) (J : zM), mc.1 ≤ 2 → mc.2 ≤ 12 → Rel J → ZZ K (u.1 + mc.1, u.2 + mc.2) 2798 (lLc i) [] J) : ZZ K u 646 (lLc i) [] I := by
  obtain ⟨hx, hm, ho, hs⟩ := rl hw
  obtain ⟨n, c, t, hO⟩ := Rel_O h
  have hn := hO.1.2.1
  have eq := hO.2.2.2.2.2.1
  exact lc_13 hK hx hm ho  (c_ink (G := kG K) (w := kw K) (gl := kl K) hx) (g_plain (Q := fun J => ZZ K (u.1 + 0, u.2 + 0) 2798 (lLc i) [] J) h (r_ink (G := kG K) (w := kw K) (gl := kl K) hm) (eq.1 13 (by omega)) (fun J hJ => kN (0, 0) J (Nat.zero_le _) (Nat.zero_le _) hJ)) ⟨by show u.1 + 0 ≤ _; omega, by show u.2 + 0 ≤ _; omega⟩
/-- refillLeft -/
theorem st_14 (hK : zKl K b L xs Z) (hw : kw K = (0, 320)) (v1 : vp_in (i + 1) L) (v2 : vp_in (i + 2) L) (v3 : vp_in (i + 3) L) (v4 : vp_in (i + 4) L) (v5 : vp_in (i + 5) L) (hu : u.1 + 2 ≤ 601024 ∧ u.2 + 12 ≤ 7293034) (h : Rel I) (kN : ∀ (mc : Nat × Nat) (J : zM), mc.1 ≤ 2 → mc.2 ≤ 12 → Rel J → ZZ K (u.1 + mc.1, u.2 + mc.2) 2798 (lLc i) [] J) : ZZ K u 659 (lLc i) [] I := by
  obtain ⟨hx, hm, ho, hs⟩ := rl hw
  obtain ⟨n, c, t, hO⟩ := Rel_O h
  have hn := hO.1.2.1
  have eq := hO.2.2.2.2.2.1
  exact lc_14 hK hx hm ho  (c_refillLeft (G := kG K) (w := kw K) (gl := kl K) hx) (g_plain (Q := fun J => ZZ K (u.1 + 0, u.2 + 0) 2798 (lLc i) [] J) h (r_refillLeft (G := kG K) (w := kw K) (gl := kl K) hm) (eq.1 14 (by omega)) (fun J hJ => kN (0, 0) J (Nat.zero_le _) (Nat.zero_le _) hJ)) ⟨by show u.1 + 0 ≤ _; omega, by show u.2 + 0 ≤ _; omega⟩
/-- handOverLeft -/
theorem st_15 (hK : zKl K b L xs Z) (hw : kw K = (0, 320)) (v1 : vp_in (i + 1) L) (v2 : vp_in (i + 2) L) (v3 : vp_in (i + 3) L) (v4 : vp_in (i + 4) L) (v5 : vp_in (i + 5) L) (hu : u.1 + 2 ≤ 601024 ∧ u.2 + 12 ≤ 7293034) (h : Rel I) (kN : ∀ (mc : Nat × Nat) (J : zM), mc.1 ≤ 2 → mc.2 ≤ 12 → Rel J → ZZ K (u.1 + mc.1, u.2 + mc.2) 2798 (lLc i) [] J) : ZZ K u 672 (lLc i) [] I := by
  obtain ⟨hx, hm, ho, hs⟩ := rl hw
  obtain ⟨n, c, t, hO⟩ := Rel_O h
  have hn := hO.1.2.1
  have eq := hO.2.2.2.2.2.1
  exact lc_15 hK hx hm ho  (c_handOverLeft (G := kG K) (w := kw K) (gl := kl K) hx) (g_plain (Q := fun J => ZZ K (u.1 + 0, u.2 + 0) 2798 (lLc i) [] J) h (r_handOverLeft (G := kG K) (w := kw K) (gl := kl K) hm) (eq.1 15 (by omega)) (fun J hJ => kN (0, 0) J (Nat.zero_le _) (Nat.zero_le _) hJ)) ⟨by show u.1 + 0 ≤ _; omega, by show u.2 + 0 ≤ _; omega⟩
/-- blots -/
theorem st_37 (hK : zKl K b L xs Z) (hw : kw K = (0, 320)) (v1 : vp_in (i + 1) L) (v2 : vp_in (i + 2) L) (v3 : vp_in (i + 3) L) (v4 : vp_in (i + 4) L) (v5 : vp_in (i + 5) L) (hu : u.1 + 2 ≤ 601024 ∧ u.2 + 12 ≤ 7293034) (h : Rel I) (kN : ∀ (mc : Nat × Nat) (J : zM), mc.1 ≤ 2 → mc.2 ≤ 12 → Rel J → ZZ K (u.1 + mc.1, u.2 + mc.2) 2798 (lLc i) [] J) : ZZ K u 1641 (lLc i) [] I := by
  obtain ⟨hx, hm, ho, hs⟩ := rl hw
  obtain ⟨n, c, t, hO⟩ := Rel_O h
  have hn := hO.1.2.1
  have eq := hO.2.2.2.2.2.1
  exact lc_37 hK hx hm ho  (c_blots (G := kG K) (w := kw K) (gl := kl K) hx) (g_plain (Q := fun J => ZZ K (u.1 + 0, u.2 + 0) 2798 (lLc i) [] J) h (r_blots (G := kG K) (w := kw K) (gl := kl K) hm) (eq.1 16 (by omega)) (fun J hJ => kN (0, 0) J (Nat.zero_le _) (Nat.zero_le _) hJ)) ⟨by show u.1 + 0 ≤ _; omega, by show u.2 + 0 ≤ _; omega⟩
/-- handOvers -/
theorem st_38 (hK : zKl K b L xs Z) (hw : kw K = (0, 320)) (v1 : vp_in (i + 1) L) (v2 : vp_in (i + 2) L) (v3 : vp_in (i + 3) L) (v4 : vp_in (i + 4) L) (v5 : vp_in (i + 5) L) (hu : u.1 + 2 ≤ 601024 ∧ u.2 + 12 ≤ 7293034) (h : Rel I) (kN : ∀ (mc : Nat × Nat) (J : zM), mc.1 ≤ 2 → mc.2 ≤ 12 → Rel J → ZZ K (u.1 + mc.1, u.2 + mc.2) 2798 (lLc i) [] J) : ZZ K u 1654 (lLc i) [] I := by
  obtain ⟨hx, hm, ho, hs⟩ := rl hw
  obtain ⟨n, c, t, hO⟩ := Rel_O h
  have hn := hO.1.2.1
  have eq := hO.2.2.2.2.2.1
  exact lc_38 hK hx hm ho  (c_handOvers (G := kG K) (w := kw K) (gl := kl K) hx) (g_plain (Q := fun J => ZZ K (u.1 + 0, u.2 + 0) 2798 (lLc i) [] J) h (r_handOvers (G := kG K) (w := kw K) (gl := kl K) hm) (eq.1 17 (by omega)) (fun J hJ => kN (0, 0) J (Nat.zero_le _) (Nat.zero_le _) hJ)) ⟨by show u.1 + 0 ≤ _; omega, by show u.2 + 0 ≤ _; omega⟩
/-- writtenMinutes -/
theorem st_39 (hK : zKl K b L xs Z) (hw : kw K = (0, 320)) (v1 : vp_in (i + 1) L) (v2 : vp_in (i + 2) L) (v3 : vp_in (i + 3) L) (v4 : vp_in (i + 4) L) (v5 : vp_in (i + 5) L) (hu : u.1 + 2 ≤ 601024 ∧ u.2 + 12 ≤ 7293034) (h : Rel I) (kN : ∀ (mc : Nat × Nat) (J : zM), mc.1 ≤ 2 → mc.2 ≤ 12 → Rel J → ZZ K (u.1 + mc.1, u.2 + mc.2) 2798 (lLc i) [] J) : ZZ K u 1667 (lLc i) [] I := by
  obtain ⟨hx, hm, ho, hs⟩ := rl hw
  obtain ⟨n, c, t, hO⟩ := Rel_O h
  have hn := hO.1.2.1
  have eq := hO.2.2.2.2.2.1
  exact lc_39 hK hx hm ho  (c_writtenMinutes (G := kG K) (w := kw K) (gl := kl K) hx) (g_plain (Q := fun J => ZZ K (u.1 + 0, u.2 + 0) 2798 (lLc i) [] J) h (r_writtenMinutes (G := kG K) (w := kw K) (gl := kl K) hm) (eq.1 18 (by omega)) (fun J hJ => kN (0, 0) J (Nat.zero_le _) (Nat.zero_le _) hJ)) ⟨by show u.1 + 0 ≤ _; omega, by show u.2 + 0 ≤ _; omega⟩
/-- idleMinutes -/
theorem st_40 (hK : zKl K b L xs Z) (hw : kw K = (0, 320)) (v1 : vp_in (i + 1) L) (v2 : vp_in (i + 2) L) (v3 : vp_in (i + 3) L) (v4 : vp_in (i + 4) L) (v5 : vp_in (i + 5) L) (hu : u.1 + 2 ≤ 601024 ∧ u.2 + 12 ≤ 7293034) (h : Rel I) (kN : ∀ (mc : Nat × Nat) (J : zM), mc.1 ≤ 2 → mc.2 ≤ 12 → Rel J → ZZ K (u.1 + mc.1, u.2 + mc.2) 2798 (lLc i) [] J) : ZZ K u 1680 (lLc i) [] I := by
  obtain ⟨hx, hm, ho, hs⟩ := rl hw
  obtain ⟨n, c, t, hO⟩ := Rel_O h
  have hn := hO.1.2.1
  have eq := hO.2.2.2.2.2.1
  exact lc_40 hK hx hm ho  (c_idleMinutes (G := kG K) (w := kw K) (gl := kl K) hx) (g_plain (Q := fun J => ZZ K (u.1 + 0, u.2 + 0) 2798 (lLc i) [] J) h (r_idleMinutes (G := kG K) (w := kw K) (gl := kl K) hm) (eq.1 19 (by omega)) (fun J hJ => kN (0, 0) J (Nat.zero_le _) (Nat.zero_le _) hJ)) ⟨by show u.1 + 0 ≤ _; omega, by show u.2 + 0 ≤ _; omega⟩
/-- currentLetter -/
theorem st_10 (hK : zKl K b L xs Z) (hw : kw K = (0, 320)) (v1 : vp_in (i + 1) L) (v2 : vp_in (i + 2) L) (v3 : vp_in (i + 3) L) (v4 : vp_in (i + 4) L) (v5 : vp_in (i + 5) L) (hu : u.1 + 2 ≤ 601024 ∧ u.2 + 12 ≤ 7293034) (h : Rel I) (kN : ∀ (mc : Nat × Nat) (J : zM), mc.1 ≤ 2 → mc.2 ≤ 12 → Rel J → ZZ K (u.1 + mc.1, u.2 + mc.2) 2798 (lLc i) [] J) : ZZ K u 607 (lLc i) [] I := by
  obtain ⟨hx, hm, ho, hs⟩ := rl hw
  obtain ⟨n, c, t, hO⟩ := Rel_O h
  have hn := hO.1.2.1
  have eq := hO.2.2.2.2.2.1
  exact lc_10 hK hx hm ho  (c_currentLetter (G := kG K) (w := kw K) (gl := kl K) hx) (g_plain (Q := fun J => ZZ K (u.1 + 0, u.2 + 0) 2798 (lLc i) [] J) h (r_currentLetter (G := kG K) (w := kw K) (gl := kl K) hm hO.1) (hO.2.2.2.2.2.2.2.1) (fun J hJ => kN (0, 0) J (Nat.zero_le _) (Nat.zero_le _) hJ)) ⟨by show u.1 + 0 ≤ _; omega, by show u.2 + 0 ≤ _; omega⟩
/-- inconsistencies -/
theorem st_43 (hK : zKl K b L xs Z) (hw : kw K = (0, 320)) (v1 : vp_in (i + 1) L) (v2 : vp_in (i + 2) L) (v3 : vp_in (i + 3) L) (v4 : vp_in (i + 4) L) (v5 : vp_in (i + 5) L) (hu : u.1 + 2 ≤ 601024 ∧ u.2 + 12 ≤ 7293034) (h : Rel I) (kN : ∀ (mc : Nat × Nat) (J : zM), mc.1 ≤ 2 → mc.2 ≤ 12 → Rel J → ZZ K (u.1 + mc.1, u.2 + mc.2) 2798 (lLc i) [] J) : ZZ K u 1777 (lLc i) [] I := by
  obtain ⟨hx, hm, ho, hs⟩ := rl hw
  obtain ⟨n, c, t, hO⟩ := Rel_O h
  have hn := hO.1.2.1
  have eq := hO.2.2.2.2.2.1
  exact lc_43 hK hx hm ho  (c_inconsistencies (G := kG K) (w := kw K) (gl := kl K) hx) (g_plain (Q := fun J => ZZ K (u.1 + 0, u.2 + 0) 2798 (lLc i) [] J) h (r_inconsistencies (G := kG K) (w := kw K) (gl := kl K) hm) (by
    have e1 : I 288 4 = I 313 9 := eq.1 9 (by omega)
    have e2 : I 288 15 = I 313 18 := eq.1 18 (by omega)
    have e3 : I 288 16 = I 313 19 := eq.1 19 (by omega)
    have e4 : I 288 17 = I 313 20 := eq.1 20 (by omega)
    have e5 : I 288 18 = I 313 21 := eq.1 21 (by omega)
    rw [e1, e2, e3, e4, e5]) (fun J hJ => kN (0, 0) J (Nat.zero_le _) (Nat.zero_le _) hJ)) ⟨by show u.1 + 0 ≤ _; omega, by show u.2 + 0 ≤ _; omega⟩
/-- readyCount -/
theorem st_28 (hK : zKl K b L xs Z) (hw : kw K = (0, 320)) (v1 : vp_in (i + 1) L) (v2 : vp_in (i + 2) L) (v3 : vp_in (i + 3) L) (v4 : vp_in (i + 4) L) (v5 : vp_in (i + 5) L) (hu : u.1 + 2 ≤ 601024 ∧ u.2 + 12 ≤ 7293034) (h : Rel I) (kN : ∀ (mc : Nat × Nat) (J : zM), mc.1 ≤ 2 → mc.2 ≤ 12 → Rel J → ZZ K (u.1 + mc.1, u.2 + mc.2) 2798 (lLc i) [] J) : ZZ K u 1364 (lLc i) [] I := by
  obtain ⟨hx, hm, ho, hs⟩ := rl hw
  obtain ⟨n, c, t, hO⟩ := Rel_O h
  have hn := hO.1.2.1
  have eq := hO.2.2.2.2.2.1
  have hc := c_readyCount (G := kG K) (w := kw K) (gl := kl K) (I := I) (B := vB I 288) (cu := I 288 7) hx hs hO.wfC.1 hn (fun l hl => (wf_rem hO.wfC l hl).1)
  rw [sput_self] at hc
  exact lc_28 hK hx hm ho  hc (g_plain (Q := fun J => ZZ K (u.1 + 0, u.2 + 0) 2798 (lLc i) [] J) h (r_readyCount (G := kG K) (w := kw K) (gl := kl K) hm hn hO.1.1) (by rw [cnt_eq (q := s_open) (r := s_open) (fun l hl => eq_open eq hl)]) (fun J hJ => kN (0, 0) J (Nat.zero_le _) (Nat.zero_le _) hJ)) ⟨by show u.1 + 0 ≤ _; omega, by show u.2 + 0 ≤ _; omega⟩
/-- finishedCount -/
theorem st_34 (hK : zKl K b L xs Z) (hw : kw K = (0, 320)) (v1 : vp_in (i + 1) L) (v2 : vp_in (i + 2) L) (v3 : vp_in (i + 3) L) (v4 : vp_in (i + 4) L) (v5 : vp_in (i + 5) L) (hu : u.1 + 2 ≤ 601024 ∧ u.2 + 12 ≤ 7293034) (h : Rel I) (kN : ∀ (mc : Nat × Nat) (J : zM), mc.1 ≤ 2 → mc.2 ≤ 12 → Rel J → ZZ K (u.1 + mc.1, u.2 + mc.2) 2798 (lLc i) [] J) : ZZ K u 1571 (lLc i) [] I := by
  obtain ⟨hx, hm, ho, hs⟩ := rl hw
  obtain ⟨n, c, t, hO⟩ := Rel_O h
  have hn := hO.1.2.1
  have eq := hO.2.2.2.2.2.1
  have hc := c_finishedCount (G := kG K) (w := kw K) (gl := kl K) (I := I) (B := vB I 288) (cu := I 288 7) hx hs hO.wfC.1 hn (fun l hl => (wf_rem hO.wfC l hl).1)
  rw [sput_self] at hc
  exact lc_34 hK hx hm ho  hc (g_plain (Q := fun J => ZZ K (u.1 + 0, u.2 + 0) 2798 (lLc i) [] J) h (r_finishedCount (G := kG K) (w := kw K) (gl := kl K) hm hn hO.1.1) (fin_eq hO.1 eq) (fun J hJ => kN (0, 0) J (Nat.zero_le _) (Nat.zero_le _) hJ)) ⟨by show u.1 + 0 ≤ _; omega, by show u.2 + 0 ≤ _; omega⟩
/-- lateCount -/
theorem st_35 (hK : zKl K b L xs Z) (hw : kw K = (0, 320)) (v1 : vp_in (i + 1) L) (v2 : vp_in (i + 2) L) (v3 : vp_in (i + 3) L) (v4 : vp_in (i + 4) L) (v5 : vp_in (i + 5) L) (hu : u.1 + 2 ≤ 601024 ∧ u.2 + 12 ≤ 7293034) (h : Rel I) (kN : ∀ (mc : Nat × Nat) (J : zM), mc.1 ≤ 2 → mc.2 ≤ 12 → Rel J → ZZ K (u.1 + mc.1, u.2 + mc.2) 2798 (lLc i) [] J) : ZZ K u 1584 (lLc i) [] I := by
  obtain ⟨hx, hm, ho, hs⟩ := rl hw
  obtain ⟨n, c, t, hO⟩ := Rel_O h
  have hn := hO.1.2.1
  have eq := hO.2.2.2.2.2.1
  have hc := c_lateCount (G := kG K) (w := kw K) (gl := kl K) (I := I) (B := vB I 288) (cu := I 288 7) hx hs hO.wfC.1 hn
  rw [sput_self] at hc
  exact lc_35 hK hx hm ho  hc (g_plain (Q := fun J => ZZ K (u.1 + 0, u.2 + 0) 2798 (lLc i) [] J) h (r_lateCount (G := kG K) (w := kw K) (gl := kl K) hm hn hO.1.1) (by rw [cnt_eq (q := s_late) (r := s_late) (fun l hl => eq_late eq hl)]) (fun J hJ => kN (0, 0) J (Nat.zero_le _) (Nat.zero_le _) hJ)) ⟨by show u.1 + 0 ≤ _; omega, by show u.2 + 0 ≤ _; omega⟩
/-- selectedLetter -/
theorem st_29 (hK : zKl K b L xs Z) (hw : kw K = (0, 320)) (v1 : vp_in (i + 1) L) (v2 : vp_in (i + 2) L) (v3 : vp_in (i + 3) L) (v4 : vp_in (i + 4) L) (v5 : vp_in (i + 5) L) (hu : u.1 + 2 ≤ 601024 ∧ u.2 + 12 ≤ 7293034) (h : Rel I) (kN : ∀ (mc : Nat × Nat) (J : zM), mc.1 ≤ 2 → mc.2 ≤ 12 → Rel J → ZZ K (u.1 + mc.1, u.2 + mc.2) 2798 (lLc i) [] J) : ZZ K u 1377 (lLc i) [] I := by
  obtain ⟨hx, hm, ho, hs⟩ := rl hw
  obtain ⟨n, c, t, hO⟩ := Rel_O h
  have hn := hO.1.2.1
  have eq := hO.2.2.2.2.2.1
  have hc := c_selectedLetter (G := kG K) (w := kw K) (gl := kl K) (I := I) (B := vB I 288) hx hs hO.wfC
  rw [← hO.curC, sput_self] at hc
  exact lc_29 hK hx hm ho  hc (g_plain (Q := fun J => ZZ K (u.1 + 0, u.2 + 0) 2798 (lLc i) [] J) h (r_selectedLetter (G := kG K) (w := kw K) (gl := kl K) hm hO.1) (by rw [eq_select eq hO.1, show s_pol (vB I 288) = s_pol (I 313) by unfold s_pol; rw [eq.1 0 (by omega)]]) (fun J hJ => kN (0, 0) J (Nat.zero_le _) (Nat.zero_le _) hJ)) ⟨by show u.1 + 0 ≤ _; omega, by show u.2 + 0 ≤ _; omega⟩
/-- busiestClerk -/
theorem st_33 (hK : zKl K b L xs Z) (hw : kw K = (0, 320)) (v1 : vp_in (i + 1) L) (v2 : vp_in (i + 2) L) (v3 : vp_in (i + 3) L) (v4 : vp_in (i + 4) L) (v5 : vp_in (i + 5) L) (hu : u.1 + 2 ≤ 601024 ∧ u.2 + 12 ≤ 7293034) (h : Rel I) (kN : ∀ (mc : Nat × Nat) (J : zM), mc.1 ≤ 2 → mc.2 ≤ 12 → Rel J → ZZ K (u.1 + mc.1, u.2 + mc.2) 2798 (lLc i) [] J) : ZZ K u 1558 (lLc i) [] I := by
  obtain ⟨hx, hm, ho, hs⟩ := rl hw
  obtain ⟨n, c, t, hO⟩ := Rel_O h
  have hn := hO.1.2.1
  have eq := hO.2.2.2.2.2.1
  exact lc_33 hK hx hm ho  (c_busiestClerk (G := kG K) (w := kw K) (gl := kl K) hx hO.wfC.2.2.1 hO.wfC.1 hn hO.1.2.2.2.2.1 hO.1.2.2.2.1) (g_plain (Q := fun J => ZZ K (u.1 + 0, u.2 + 0) 2798 (lLc i) [] J) h (r_busiestClerk (G := kG K) (w := kw K) (gl := kl K) hm hn hO.1.1 hO.1.2.2.1 hO.1.2.2.2.2.1 hO.1.2.2.2.1) (by rw [busy_eq eq]) (fun J hJ => kN (0, 0) J (Nat.zero_le _) (Nat.zero_le _) hJ)) ⟨by show u.1 + 0 ≤ _; omega, by show u.2 + 0 ≤ _; omega⟩
/-- clerkOf -/
theorem st_18 (hK : zKl K b L xs Z) (hw : kw K = (0, 320)) (v1 : vp_in (i + 1) L) (v2 : vp_in (i + 2) L) (v3 : vp_in (i + 3) L) (v4 : vp_in (i + 4) L) (v5 : vp_in (i + 5) L) (hu : u.1 + 2 ≤ 601024 ∧ u.2 + 12 ≤ 7293034) (h : Rel I) (kN : ∀ (mc : Nat × Nat) (J : zM), mc.1 ≤ 2 → mc.2 ≤ 12 → Rel J → ZZ K (u.1 + mc.1, u.2 + mc.2) 2798 (lLc i) [] J) : ZZ K u 797 (lLc i) [] I := by
  obtain ⟨hx, hm, ho, hs⟩ := rl hw
  obtain ⟨n, c, t, hO⟩ := Rel_O h
  have hn := hO.1.2.1
  have eq := hO.2.2.2.2.2.1
  have hc := c_clerkOf (G := kG K) (w := kw K) (gl := kl K) (I := I) (B := vB I 288) (cu := I 288 7) (x := (xs (i + 1).toNatClampNeg)) hx hs hO.wfC.1 hn
  rw [sput_self] at hc
  exact lc_18 hK hx hm ho v1 rfl (wL_clerkOf hx ho hc (fun _ _ z => qP_ex z) (fun _ _ z => z.2.1)) (g_read (T := (fun _ => True)) (Q := fun J => ZZ K (u.1 + 1, u.2 + 6) 2798 (lLc i) [] J) h rfl (fun J hJ => by
    have r := r_clerkOf (G := kG K) (w := kw K) (gl := kl K) (I := J) (x := (xs (i + 1).toNatClampNeg)) hm hn (by rw [hJ 313 (by decide)]; exact hO.1.1)
    rw [hJ 313 (by decide)] at r
    exact r) (by rw [eq.1 8 (by omega)]) (fun q => by
    obtain ⟨l, hl, ex⟩ := has_nat hO.1.1 (by omega) q
    rw [ex, nI_clamp (by omega), eq.2 l hl 0 (by omega)]) (fun _ => trivial) trivial (fun J hJ => kN (1, 6) J (by decide) (by decide) hJ)) ⟨by show u.1 + 1 ≤ _; omega, by show u.2 + 6 ≤ _; omega⟩
/-- length -/
theorem st_19 (hK : zKl K b L xs Z) (hw : kw K = (0, 320)) (v1 : vp_in (i + 1) L) (v2 : vp_in (i + 2) L) (v3 : vp_in (i + 3) L) (v4 : vp_in (i + 4) L) (v5 : vp_in (i + 5) L) (hu : u.1 + 2 ≤ 601024 ∧ u.2 + 12 ≤ 7293034) (h : Rel I) (kN : ∀ (mc : Nat × Nat) (J : zM), mc.1 ≤ 2 → mc.2 ≤ 12 → Rel J → ZZ K (u.1 + mc.1, u.2 + mc.2) 2798 (lLc i) [] J) : ZZ K u 853 (lLc i) [] I := by
  obtain ⟨hx, hm, ho, hs⟩ := rl hw
  obtain ⟨n, c, t, hO⟩ := Rel_O h
  have hn := hO.1.2.1
  have eq := hO.2.2.2.2.2.1
  have hc := c_length (G := kG K) (w := kw K) (gl := kl K) (I := I) (B := vB I 288) (cu := I 288 7) (x := (xs (i + 1).toNatClampNeg)) hx hs hO.wfC.1 hn
  rw [sput_self] at hc
  exact lc_19 hK hx hm ho v1 rfl (wL_length hx ho hc (fun _ _ z => qP_ex z) (fun _ _ z => z.2.1)) (g_read (T := (fun _ => True)) (Q := fun J => ZZ K (u.1 + 1, u.2 + 6) 2798 (lLc i) [] J) h rfl (fun J hJ => by
    have r := r_length (G := kG K) (w := kw K) (gl := kl K) (I := J) (x := (xs (i + 1).toNatClampNeg)) hm hn (by rw [hJ 313 (by decide)]; exact hO.1.1)
    rw [hJ 313 (by decide)] at r
    exact r) (by rw [eq.1 8 (by omega)]) (fun q => by
    obtain ⟨l, hl, ex⟩ := has_nat hO.1.1 (by omega) q
    rw [ex, nI_clamp (by omega), eq.2 l hl 1 (by omega)]) (fun _ => trivial) trivial (fun J hJ => kN (1, 6) J (by decide) (by decide) hJ)) ⟨by show u.1 + 1 ≤ _; omega, by show u.2 + 6 ≤ _; omega⟩
/-- arrival -/
theorem st_20 (hK : zKl K b L xs Z) (hw : kw K = (0, 320)) (v1 : vp_in (i + 1) L) (v2 : vp_in (i + 2) L) (v3 : vp_in (i + 3) L) (v4 : vp_in (i + 4) L) (v5 : vp_in (i + 5) L) (hu : u.1 + 2 ≤ 601024 ∧ u.2 + 12 ≤ 7293034) (h : Rel I) (kN : ∀ (mc : Nat × Nat) (J : zM), mc.1 ≤ 2 → mc.2 ≤ 12 → Rel J → ZZ K (u.1 + mc.1, u.2 + mc.2) 2798 (lLc i) [] J) : ZZ K u 909 (lLc i) [] I := by
  obtain ⟨hx, hm, ho, hs⟩ := rl hw
  obtain ⟨n, c, t, hO⟩ := Rel_O h
  have hn := hO.1.2.1
  have eq := hO.2.2.2.2.2.1
  have hc := c_arrival (G := kG K) (w := kw K) (gl := kl K) (I := I) (B := vB I 288) (cu := I 288 7) (x := (xs (i + 1).toNatClampNeg)) hx hs hO.wfC.1 hn
  rw [sput_self] at hc
  exact lc_20 hK hx hm ho v1 rfl (wL_arrival hx ho hc (fun _ _ z => qP_ex z) (fun _ _ z => z.2.1)) (g_read (T := (fun _ => True)) (Q := fun J => ZZ K (u.1 + 1, u.2 + 6) 2798 (lLc i) [] J) h rfl (fun J hJ => by
    have r := r_arrival (G := kG K) (w := kw K) (gl := kl K) (I := J) (x := (xs (i + 1).toNatClampNeg)) hm hn (by rw [hJ 313 (by decide)]; exact hO.1.1)
    rw [hJ 313 (by decide)] at r
    exact r) (by rw [eq.1 8 (by omega)]) (fun q => by
    obtain ⟨l, hl, ex⟩ := has_nat hO.1.1 (by omega) q
    rw [ex, nI_clamp (by omega), eq.2 l hl 2 (by omega)]) (fun _ => trivial) trivial (fun J hJ => kN (1, 6) J (by decide) (by decide) hJ)) ⟨by show u.1 + 1 ≤ _; omega, by show u.2 + 6 ≤ _; omega⟩
/-- deadline -/
theorem st_21 (hK : zKl K b L xs Z) (hw : kw K = (0, 320)) (v1 : vp_in (i + 1) L) (v2 : vp_in (i + 2) L) (v3 : vp_in (i + 3) L) (v4 : vp_in (i + 4) L) (v5 : vp_in (i + 5) L) (hu : u.1 + 2 ≤ 601024 ∧ u.2 + 12 ≤ 7293034) (h : Rel I) (kN : ∀ (mc : Nat × Nat) (J : zM), mc.1 ≤ 2 → mc.2 ≤ 12 → Rel J → ZZ K (u.1 + mc.1, u.2 + mc.2) 2798 (lLc i) [] J) : ZZ K u 965 (lLc i) [] I := by
  obtain ⟨hx, hm, ho, hs⟩ := rl hw
  obtain ⟨n, c, t, hO⟩ := Rel_O h
  have hn := hO.1.2.1
  have eq := hO.2.2.2.2.2.1
  have hc := c_deadline (G := kG K) (w := kw K) (gl := kl K) (I := I) (B := vB I 288) (cu := I 288 7) (x := (xs (i + 1).toNatClampNeg)) hx hs hO.wfC.1 hn
  rw [sput_self] at hc
  exact lc_21 hK hx hm ho v1 rfl (wL_deadline hx ho hc (fun _ _ z => qP_ex z) (fun _ _ z => z.2.1)) (g_read (T := (fun _ => True)) (Q := fun J => ZZ K (u.1 + 1, u.2 + 6) 2798 (lLc i) [] J) h rfl (fun J hJ => by
    have r := r_deadline (G := kG K) (w := kw K) (gl := kl K) (I := J) (x := (xs (i + 1).toNatClampNeg)) hm hn (by rw [hJ 313 (by decide)]; exact hO.1.1)
    rw [hJ 313 (by decide)] at r
    exact r) (by rw [eq.1 8 (by omega)]) (fun q => by
    obtain ⟨l, hl, ex⟩ := has_nat hO.1.1 (by omega) q
    rw [ex, nI_clamp (by omega), eq.2 l hl 3 (by omega)]) (fun _ => trivial) trivial (fun J hJ => kN (1, 6) J (by decide) (by decide) hJ)) ⟨by show u.1 + 1 ≤ _; omega, by show u.2 + 6 ≤ _; omega⟩
/-- priority -/
theorem st_22 (hK : zKl K b L xs Z) (hw : kw K = (0, 320)) (v1 : vp_in (i + 1) L) (v2 : vp_in (i + 2) L) (v3 : vp_in (i + 3) L) (v4 : vp_in (i + 4) L) (v5 : vp_in (i + 5) L) (hu : u.1 + 2 ≤ 601024 ∧ u.2 + 12 ≤ 7293034) (h : Rel I) (kN : ∀ (mc : Nat × Nat) (J : zM), mc.1 ≤ 2 → mc.2 ≤ 12 → Rel J → ZZ K (u.1 + mc.1, u.2 + mc.2) 2798 (lLc i) [] J) : ZZ K u 1021 (lLc i) [] I := by
  obtain ⟨hx, hm, ho, hs⟩ := rl hw
  obtain ⟨n, c, t, hO⟩ := Rel_O h
  have hn := hO.1.2.1
  have eq := hO.2.2.2.2.2.1
  have hc := c_priority (G := kG K) (w := kw K) (gl := kl K) (I := I) (B := vB I 288) (cu := I 288 7) (x := (xs (i + 1).toNatClampNeg)) hx hs hO.wfC.1 hn
  rw [sput_self] at hc
  exact lc_22 hK hx hm ho v1 rfl (wL_priority hx ho hc (fun _ _ z => qP_ex z) (fun _ _ z => z.2.1)) (g_read (T := (fun _ => True)) (Q := fun J => ZZ K (u.1 + 1, u.2 + 6) 2798 (lLc i) [] J) h rfl (fun J hJ => by
    have r := r_priority (G := kG K) (w := kw K) (gl := kl K) (I := J) (x := (xs (i + 1).toNatClampNeg)) hm hn (by rw [hJ 313 (by decide)]; exact hO.1.1)
    rw [hJ 313 (by decide)] at r
    exact r) (by rw [eq.1 8 (by omega)]) (fun q => by
    obtain ⟨l, hl, ex⟩ := has_nat hO.1.1 (by omega) q
    rw [ex, nI_clamp (by omega), eq.2 l hl 4 (by omega)]) (fun _ => trivial) trivial (fun J hJ => kN (1, 6) J (by decide) (by decide) hJ)) ⟨by show u.1 + 1 ≤ _; omega, by show u.2 + 6 ≤ _; omega⟩
/-- remaining -/
theorem st_23 (hK : zKl K b L xs Z) (hw : kw K = (0, 320)) (v1 : vp_in (i + 1) L) (v2 : vp_in (i + 2) L) (v3 : vp_in (i + 3) L) (v4 : vp_in (i + 4) L) (v5 : vp_in (i + 5) L) (hu : u.1 + 2 ≤ 601024 ∧ u.2 + 12 ≤ 7293034) (h : Rel I) (kN : ∀ (mc : Nat × Nat) (J : zM), mc.1 ≤ 2 → mc.2 ≤ 12 → Rel J → ZZ K (u.1 + mc.1, u.2 + mc.2) 2798 (lLc i) [] J) : ZZ K u 1077 (lLc i) [] I := by
  obtain ⟨hx, hm, ho, hs⟩ := rl hw
  obtain ⟨n, c, t, hO⟩ := Rel_O h
  have hn := hO.1.2.1
  have eq := hO.2.2.2.2.2.1
  have hc := c_remaining (G := kG K) (w := kw K) (gl := kl K) (I := I) (B := vB I 288) (cu := I 288 7) (x := (xs (i + 1).toNatClampNeg)) hx hs hO.wfC.1 hn
  rw [sput_self] at hc
  exact lc_23 hK hx hm ho v1 rfl (wL_remaining hx ho hc (fun _ _ z => qP_ex z) (fun _ _ z => z.2.1)) (g_read (T := (fun _ => True)) (Q := fun J => ZZ K (u.1 + 1, u.2 + 6) 2798 (lLc i) [] J) h rfl (fun J hJ => by
    have r := r_remaining (G := kG K) (w := kw K) (gl := kl K) (I := J) (x := (xs (i + 1).toNatClampNeg)) hm hn (by rw [hJ 313 (by decide)]; exact hO.1.1)
    rw [hJ 313 (by decide)] at r
    exact r) (by rw [eq.1 8 (by omega)]) (fun q => by
    obtain ⟨l, hl, ex⟩ := has_nat hO.1.1 (by omega) q
    rw [ex, nI_clamp (by omega), eq.2 l hl 5 (by omega)]) (fun _ => trivial) trivial (fun J hJ => kN (1, 6) J (by decide) (by decide) hJ)) ⟨by show u.1 + 1 ≤ _; omega, by show u.2 + 6 ≤ _; omega⟩
/-- finishMinute -/
theorem st_24 (hK : zKl K b L xs Z) (hw : kw K = (0, 320)) (v1 : vp_in (i + 1) L) (v2 : vp_in (i + 2) L) (v3 : vp_in (i + 3) L) (v4 : vp_in (i + 4) L) (v5 : vp_in (i + 5) L) (hu : u.1 + 2 ≤ 601024 ∧ u.2 + 12 ≤ 7293034) (h : Rel I) (kN : ∀ (mc : Nat × Nat) (J : zM), mc.1 ≤ 2 → mc.2 ≤ 12 → Rel J → ZZ K (u.1 + mc.1, u.2 + mc.2) 2798 (lLc i) [] J) : ZZ K u 1133 (lLc i) [] I := by
  obtain ⟨hx, hm, ho, hs⟩ := rl hw
  obtain ⟨n, c, t, hO⟩ := Rel_O h
  have hn := hO.1.2.1
  have eq := hO.2.2.2.2.2.1
  have hc := c_finishMinute (G := kG K) (w := kw K) (gl := kl K) (I := I) (B := vB I 288) (cu := I 288 7) (x := (xs (i + 1).toNatClampNeg)) hx hs hO.wfC.1 hn
  rw [sput_self] at hc
  exact lc_24 hK hx hm ho v1 rfl (wL_finishMinute hx ho hc (fun _ _ z => qP_ex z) (fun _ _ z => z.2.1)) (g_read (T := (fun _ => True)) (Q := fun J => ZZ K (u.1 + 1, u.2 + 6) 2798 (lLc i) [] J) h rfl (fun J hJ => by
    have r := r_finishMinute (G := kG K) (w := kw K) (gl := kl K) (I := J) (x := (xs (i + 1).toNatClampNeg)) hm hn (by rw [hJ 313 (by decide)]; exact hO.1.1)
    rw [hJ 313 (by decide)] at r
    exact r) (by rw [eq.1 8 (by omega)]) (fun q => by
    obtain ⟨l, hl, ex⟩ := has_nat hO.1.1 (by omega) q
    rw [ex, nI_clamp (by omega), eq.2 l hl 6 (by omega)]) (fun _ => trivial) trivial (fun J hJ => kN (1, 6) J (by decide) (by decide) hJ)) ⟨by show u.1 + 1 ≤ _; omega, by show u.2 + 6 ≤ _; omega⟩
/-- waitingTime -/
theorem st_25 (hK : zKl K b L xs Z) (hw : kw K = (0, 320)) (v1 : vp_in (i + 1) L) (v2 : vp_in (i + 2) L) (v3 : vp_in (i + 3) L) (v4 : vp_in (i + 4) L) (v5 : vp_in (i + 5) L) (hu : u.1 + 2 ≤ 601024 ∧ u.2 + 12 ≤ 7293034) (h : Rel I) (kN : ∀ (mc : Nat × Nat) (J : zM), mc.1 ≤ 2 → mc.2 ≤ 12 → Rel J → ZZ K (u.1 + mc.1, u.2 + mc.2) 2798 (lLc i) [] J) : ZZ K u 1189 (lLc i) [] I := by
  obtain ⟨hx, hm, ho, hs⟩ := rl hw
  obtain ⟨n, c, t, hO⟩ := Rel_O h
  have hn := hO.1.2.1
  have eq := hO.2.2.2.2.2.1
  have hc := c_waitingTime (G := kG K) (w := kw K) (gl := kl K) (I := I) (B := vB I 288) (cu := I 288 7) (x := (xs (i + 1).toNatClampNeg)) hx hs hO.wfC.1 hn
  rw [sput_self] at hc
  exact lc_25 hK hx hm ho v1 rfl (wL_waitingTime hx ho hc (fun _ _ z => qP_ex z) (fun _ _ z => z.2.1)) (g_read (T := (fun _ => True)) (Q := fun J => ZZ K (u.1 + 1, u.2 + 6) 2798 (lLc i) [] J) h rfl (fun J hJ => by
    have r := r_waitingTime (G := kG K) (w := kw K) (gl := kl K) (I := J) (x := (xs (i + 1).toNatClampNeg)) hm hn (by rw [hJ 313 (by decide)]; exact hO.1.1)
    rw [hJ 313 (by decide)] at r
    exact r) (by rw [eq.1 8 (by omega)]) (fun q => by
    obtain ⟨l, hl, ex⟩ := has_nat hO.1.1 (by omega) q
    rw [ex, nI_clamp (by omega), eq_waited eq hl]) (fun _ => trivial) trivial (fun J hJ => kN (1, 6) J (by decide) (by decide) hJ)) ⟨by show u.1 + 1 ≤ _; omega, by show u.2 + 6 ≤ _; omega⟩
/-- effectivePriority -/
theorem st_26 (hK : zKl K b L xs Z) (hw : kw K = (0, 320)) (v1 : vp_in (i + 1) L) (v2 : vp_in (i + 2) L) (v3 : vp_in (i + 3) L) (v4 : vp_in (i + 4) L) (v5 : vp_in (i + 5) L) (hu : u.1 + 2 ≤ 601024 ∧ u.2 + 12 ≤ 7293034) (h : Rel I) (kN : ∀ (mc : Nat × Nat) (J : zM), mc.1 ≤ 2 → mc.2 ≤ 12 → Rel J → ZZ K (u.1 + mc.1, u.2 + mc.2) 2798 (lLc i) [] J) : ZZ K u 1245 (lLc i) [] I := by
  obtain ⟨hx, hm, ho, hs⟩ := rl hw
  obtain ⟨n, c, t, hO⟩ := Rel_O h
  have hn := hO.1.2.1
  have eq := hO.2.2.2.2.2.1
  have hc := c_effectivePriority (G := kG K) (w := kw K) (gl := kl K) (I := I) (B := vB I 288) (cu := I 288 7) (x := (xs (i + 1).toNatClampNeg)) hx hs hO.wfC.1 hn (wf_51 hO.wfC)
  rw [sput_self] at hc
  exact lc_26 hK hx hm ho v1 rfl (wL_effectivePriority hx ho hc (fun _ _ z => qP_ex z) (fun _ _ z => z.2.1)) (g_read (T := (fun _ => True)) (Q := fun J => ZZ K (u.1 + 1, u.2 + 6) 2798 (lLc i) [] J) h rfl (fun J hJ => by
    have r := r_effectivePriority (G := kG K) (w := kw K) (gl := kl K) (I := J) (x := (xs (i + 1).toNatClampNeg)) hm hn (by rw [hJ 313 (by decide)]; exact hO.1.1) (by rw [hJ 313 (by decide)]; exact wf_5 hO.1)
    rw [hJ 313 (by decide)] at r
    exact r) (by rw [eq.1 8 (by omega)]) (fun q => by
    obtain ⟨l, hl, ex⟩ := has_nat hO.1.1 (by omega) q
    rw [ex, nI_clamp (by omega), eq_urg eq hl]) (fun _ => trivial) trivial (fun J hJ => kN (1, 6) J (by decide) (by decide) hJ)) ⟨by show u.1 + 1 ≤ _; omega, by show u.2 + 6 ≤ _; omega⟩
/-- isReady -/
theorem st_27 (hK : zKl K b L xs Z) (hw : kw K = (0, 320)) (v1 : vp_in (i + 1) L) (v2 : vp_in (i + 2) L) (v3 : vp_in (i + 3) L) (v4 : vp_in (i + 4) L) (v5 : vp_in (i + 5) L) (hu : u.1 + 2 ≤ 601024 ∧ u.2 + 12 ≤ 7293034) (h : Rel I) (kN : ∀ (mc : Nat × Nat) (J : zM), mc.1 ≤ 2 → mc.2 ≤ 12 → Rel J → ZZ K (u.1 + mc.1, u.2 + mc.2) 2798 (lLc i) [] J) : ZZ K u 1301 (lLc i) [] I := by
  obtain ⟨hx, hm, ho, hs⟩ := rl hw
  obtain ⟨n, c, t, hO⟩ := Rel_O h
  have hn := hO.1.2.1
  have eq := hO.2.2.2.2.2.1
  have hc := c_isReady (G := kG K) (w := kw K) (gl := kl K) (I := I) (B := vB I 288) (cu := I 288 7) (x := (xs (i + 1).toNatClampNeg)) hx hs hO.wfC.1 hn (fun l hl => (wf_rem hO.wfC l hl).1)
  rw [sput_self] at hc
  exact lc_27 hK hx hm ho v1 rfl (wL_isReady hx ho hc (fun _ _ z => by obtain ⟨-, x, hx, e, -⟩ := z; exact ⟨x, hx, by rw [e]; exact b2_01 _⟩) (fun _ _ z => z.2.1)) (g_read (T := (fun f => f = 0 ∨ f = 1)) (Q := fun J => ZZ K (u.1 + 1, u.2 + 6) 2798 (lLc i) [] J) h rfl (fun J hJ => by
    have r := r_isReady (G := kG K) (w := kw K) (gl := kl K) (I := J) (x := (xs (i + 1).toNatClampNeg)) hm hn (by rw [hJ 313 (by decide)]; exact hO.1.1)
    rw [hJ 313 (by decide)] at r
    exact r) (by rw [eq.1 8 (by omega)]) (fun q => by
    obtain ⟨l, hl, ex⟩ := has_nat hO.1.1 (by omega) q
    rw [ex, nI_clamp (by omega), eq_open eq hl]) (fun _ => b2_01 _) (Or.inl rfl) (fun J hJ => kN (1, 6) J (by decide) (by decide) hJ)) ⟨by show u.1 + 1 ≤ _; omega, by show u.2 + 6 ≤ _; omega⟩
/-- selectedBy -/
theorem st_30 (hK : zKl K b L xs Z) (hw : kw K = (0, 320)) (v1 : vp_in (i + 1) L) (v2 : vp_in (i + 2) L) (v3 : vp_in (i + 3) L) (v4 : vp_in (i + 4) L) (v5 : vp_in (i + 5) L) (hu : u.1 + 2 ≤ 601024 ∧ u.2 + 12 ≤ 7293034) (h : Rel I) (kN : ∀ (mc : Nat × Nat) (J : zM), mc.1 ≤ 2 → mc.2 ≤ 12 → Rel J → ZZ K (u.1 + mc.1, u.2 + mc.2) 2798 (lLc i) [] J) : ZZ K u 1390 (lLc i) [] I := by
  obtain ⟨hx, hm, ho, hs⟩ := rl hw
  obtain ⟨n, c, t, hO⟩ := Rel_O h
  have hn := hO.1.2.1
  have eq := hO.2.2.2.2.2.1
  have hc := c_selectedBy (G := kG K) (w := kw K) (gl := kl K) (I := I) (B := vB I 288) (x := (xs (i + 1).toNatClampNeg)) hx hs hO.wfC
  rw [← hO.curC, sput_self] at hc
  exact lc_30 hK hx hm ho v1 rfl (wL_selectedBy hx ho hc (fun _ _ z => qP_ex z) (fun _ _ z => z.2.1)) (g_read (T := (fun _ => True)) (Q := fun J => ZZ K (u.1 + 1, u.2 + 6) 2798 (lLc i) [] J) h rfl (fun J hJ => by
    have r := r_selectedBy (G := kG K) (w := kw K) (gl := kl K) (I := J) (x := (xs (i + 1).toNatClampNeg)) hm (by rw [hJ 313 (by decide)]; exact hO.1)
    rw [hJ 313 (by decide)] at r
    exact r) Iff.rfl (fun q => eq_select eq hO.1 _) (fun _ => trivial) trivial (fun J hJ => kN (1, 6) J (by decide) (by decide) hJ)) ⟨by show u.1 + 1 ≤ _; omega, by show u.2 + 6 ≤ _; omega⟩
/-- openLettersOf -/
theorem st_31 (hK : zKl K b L xs Z) (hw : kw K = (0, 320)) (v1 : vp_in (i + 1) L) (v2 : vp_in (i + 2) L) (v3 : vp_in (i + 3) L) (v4 : vp_in (i + 4) L) (v5 : vp_in (i + 5) L) (hu : u.1 + 2 ≤ 601024 ∧ u.2 + 12 ≤ 7293034) (h : Rel I) (kN : ∀ (mc : Nat × Nat) (J : zM), mc.1 ≤ 2 → mc.2 ≤ 12 → Rel J → ZZ K (u.1 + mc.1, u.2 + mc.2) 2798 (lLc i) [] J) : ZZ K u 1446 (lLc i) [] I := by
  obtain ⟨hx, hm, ho, hs⟩ := rl hw
  obtain ⟨n, c, t, hO⟩ := Rel_O h
  have hn := hO.1.2.1
  have eq := hO.2.2.2.2.2.1
  have hc := c_openLettersOf (G := kG K) (w := kw K) (gl := kl K) (I := I) (B := vB I 288) (cu := I 288 7) (x := (xs (i + 1).toNatClampNeg)) hx hs hO.wfC.2.2.1 hO.wfC.1 hn (fun l hl => (wf_rem hO.wfC l hl).1)
  rw [sput_self] at hc
  exact lc_31 hK hx hm ho v1 rfl (wL_openLettersOf hx ho hc (fun _ _ z => qP_ex z) (fun _ _ z => z.2.1)) (g_read (T := (fun _ => True)) (Q := fun J => ZZ K (u.1 + 1, u.2 + 6) 2798 (lLc i) [] J) h rfl (fun J hJ => by
    have r := r_openLettersOf (G := kG K) (w := kw K) (gl := kl K) (I := J) (x := (xs (i + 1).toNatClampNeg)) hm hn (by rw [hJ 313 (by decide)]; exact hO.1.1) (by rw [hJ 313 (by decide)]; exact hO.1.2.2.1) hO.1.2.2.2.2.1
    rw [hJ 313 (by decide)] at r
    exact r) (by rw [eq.1 7 (by omega)]) (fun q => by rw [cnt_congr n (fun l hl => by rw [eq.2 l hl 0 (by omega), eq_done eq hl])]) (fun _ => trivial) trivial (fun J hJ => kN (1, 6) J (by decide) (by decide) hJ)) ⟨by show u.1 + 1 ≤ _; omega, by show u.2 + 6 ≤ _; omega⟩
/-- workOf -/
theorem st_32 (hK : zKl K b L xs Z) (hw : kw K = (0, 320)) (v1 : vp_in (i + 1) L) (v2 : vp_in (i + 2) L) (v3 : vp_in (i + 3) L) (v4 : vp_in (i + 4) L) (v5 : vp_in (i + 5) L) (hu : u.1 + 2 ≤ 601024 ∧ u.2 + 12 ≤ 7293034) (h : Rel I) (kN : ∀ (mc : Nat × Nat) (J : zM), mc.1 ≤ 2 → mc.2 ≤ 12 → Rel J → ZZ K (u.1 + mc.1, u.2 + mc.2) 2798 (lLc i) [] J) : ZZ K u 1502 (lLc i) [] I := by
  obtain ⟨hx, hm, ho, hs⟩ := rl hw
  obtain ⟨n, c, t, hO⟩ := Rel_O h
  have hn := hO.1.2.1
  have eq := hO.2.2.2.2.2.1
  have hc := c_workOf (G := kG K) (w := kw K) (gl := kl K) (I := I) (B := vB I 288) (cu := I 288 7) (x := (xs (i + 1).toNatClampNeg)) hx hs hO.wfC.2.2.1 hO.wfC.1 hn
  rw [sput_self] at hc
  exact lc_32 hK hx hm ho v1 rfl (wL_workOf hx ho hc (fun _ _ z => qP_ex z) (fun _ _ z => z.2.1)) (g_read (T := (fun _ => True)) (Q := fun J => ZZ K (u.1 + 1, u.2 + 6) 2798 (lLc i) [] J) h rfl (fun J hJ => by
    have r := r_workOf (G := kG K) (w := kw K) (gl := kl K) (I := J) (x := (xs (i + 1).toNatClampNeg)) hm hn (by rw [hJ 313 (by decide)]; exact hO.1.1) (by rw [hJ 313 (by decide)]; exact hO.1.2.2.1) hO.1.2.2.2.2.1
    rw [hJ 313 (by decide)] at r
    exact r) (by rw [eq.1 7 (by omega)]) (fun q => work_eq eq _) (fun _ => trivial) trivial (fun J hJ => kN (1, 6) J (by decide) (by decide) hJ)) ⟨by show u.1 + 1 ≤ _; omega, by show u.2 + 6 ≤ _; omega⟩
/-- nameByte -/
theorem st_16 (hK : zKl K b L xs Z) (hw : kw K = (0, 320)) (v1 : vp_in (i + 1) L) (v2 : vp_in (i + 2) L) (v3 : vp_in (i + 3) L) (v4 : vp_in (i + 4) L) (v5 : vp_in (i + 5) L) (hu : u.1 + 2 ≤ 601024 ∧ u.2 + 12 ≤ 7293034) (h : Rel I) (kN : ∀ (mc : Nat × Nat) (J : zM), mc.1 ≤ 2 → mc.2 ≤ 12 → Rel J → ZZ K (u.1 + mc.1, u.2 + mc.2) 2798 (lLc i) [] J) : ZZ K u 685 (lLc i) [] I := by
  obtain ⟨hx, hm, ho, hs⟩ := rl hw
  obtain ⟨n, c, t, hO⟩ := Rel_O h
  have hn := hO.1.2.1
  have eq := hO.2.2.2.2.2.1
  have hL := hO.2.2.2.2.1.L
  have hE := hO.2.2.2.2.2.2.1
  have hc6 := hO.1.2.2.2.2.1
  have hp : (s_has (xs (i + 1).toNatClampNeg) (I 313 7) = true ∧ s_has (xs (i + 2).toNatClampNeg) (I 313 (22 + (xs (i + 1).toNatClampNeg).toNatClampNeg * 7)) = true) ↔ s_has (xs (i + 1).toNatClampNeg) (vB I 288 7) = true ∧ s_has (xs (i + 2).toNatClampNeg) (vB I 288 (22 + (xs (i + 1).toNatClampNeg).toNatClampNeg * 7)) = true := by
    rw [eq.1 7 (by omega)]
    refine and_congr_right (fun q => ?_)
    obtain ⟨a, ha, ea⟩ := has_nat hO.1.2.2.1 (by omega) q
    rw [ea, nI_clamp (by omega), (hE a ha).1]
  have hc := c_nameByte (G := kG K) (w := kw K) (gl := kl K) (I := I) hx hO.wfC.2.2.1 hO.nmLC hp
  exact lc_16 hK hx hm ho v1 rfl v2 rfl (wL_nameByte hx ho hc (fun _ _ z => qP_ex z) (fun _ _ z => z.2.1)) (g_read (T := (fun _ => True)) (Q := fun J => ZZ K (u.1 + 2, u.2 + 12) 2798 (lLc i) [] J) h rfl (fun J hJ => by
    have r := r_nameByte (G := kG K) (w := kw K) (gl := kl K) (I := J) (x := (xs (i + 1).toNatClampNeg)) (y := (xs (i + 2).toNatClampNeg)) hm (by rw [hJ 313 (by decide)]; exact hO.1.2.2.1) (by rw [hJ 313 (by decide)]; exact hL)
    rw [hJ 313 (by decide)] at r
    exact r) Iff.rfl (fun q => by
    obtain ⟨a, ha, ea⟩ := has_nat hO.1.2.2.1 (by omega) q.1
    have q2 := q.2
    rw [ea, nI_clamp (by omega)] at q2 ⊢
    obtain ⟨l9, h9, e9⟩ := hL.2 a ha
    obtain ⟨k, hk, ek⟩ := has_nat e9 (by omega) q2
    rw [ek, nI_clamp (by omega)]
    exact (hE a ha).2 k (by rw [e9, nI_clamp (by omega)]; exact hk)) (fun _ => trivial) trivial (fun J hJ => kN (2, 12) J (by decide) (by decide) hJ)) hu
/-- findClerk -/
theorem st_17 (hK : zKl K b L xs Z) (hw : kw K = (0, 320)) (v1 : vp_in (i + 1) L) (v2 : vp_in (i + 2) L) (v3 : vp_in (i + 3) L) (v4 : vp_in (i + 4) L) (v5 : vp_in (i + 5) L) (hu : u.1 + 2 ≤ 601024 ∧ u.2 + 12 ≤ 7293034) (h : Rel I) (kN : ∀ (mc : Nat × Nat) (J : zM), mc.1 ≤ 2 → mc.2 ≤ 12 → Rel J → ZZ K (u.1 + mc.1, u.2 + mc.2) 2798 (lLc i) [] J) : ZZ K u 753 (lLc i) [] I := by
  obtain ⟨hx, hm, ho, hs⟩ := rl hw
  obtain ⟨n, c, t, hO⟩ := Rel_O h
  have hn := hO.1.2.1
  have eq := hO.2.2.2.2.2.1
  have hL := hO.2.2.2.2.1.L
  obtain ⟨N, hB⟩ := Rel_B h
  have ef := find_both hB.2.2.2 hO.2.2.2.2.1 hO.2.2.2.2.2.2.1 (fr := 0) (m := N) hB.2.2.1 (by omega)
  have hc := c_findClerk (G := kG K) (w := kw K) (gl := kl K) (I := I) hx hB.2.1 hB.2.2.1 hO.wfC.2.2.1 hO.nmLC ef.symm
  exact lc_17 hK hx hm ho  (wL_findClerk hx ho hc (fun _ _ z => qP_ex z) (fun _ _ z => z.2.1)) (g_read (T := (fun _ => True)) (Q := fun J => ZZ K (u.1 + 1, u.2 + 6) 2798 (lLc i) [] J) h rfl (fun J hJ => by
    have r := r_findClerk (G := kG K) (w := kw K) (gl := kl K) (I := J) (N := N) (c := c) hm (by rw [hJ 313 (by decide)]; exact hO.1.2.2.1) (by rw [hJ 313 (by decide)]; exact hL) (by rw [hJ 312 (by decide)]; exact hB.1) hB.2.2.1
    rw [hJ 313 (by decide), hJ 315 (by decide)] at r
    rw [ite_not, ite_not]
    exact r) Iff.rfl (fun q => rfl) (fun _ => trivial) trivial (fun J hJ => kN (1, 6) J (by decide) (by decide) hJ)) ⟨by show u.1 + 1 ≤ _; omega, by show u.2 + 6 ≤ _; omega⟩
/-- greatestLateness -/
theorem st_36 (hK : zKl K b L xs Z) (hw : kw K = (0, 320)) (v1 : vp_in (i + 1) L) (v2 : vp_in (i + 2) L) (v3 : vp_in (i + 3) L) (v4 : vp_in (i + 4) L) (v5 : vp_in (i + 5) L) (hu : u.1 + 2 ≤ 601024 ∧ u.2 + 12 ≤ 7293034) (h : Rel I) (kN : ∀ (mc : Nat × Nat) (J : zM), mc.1 ≤ 2 → mc.2 ≤ 12 → Rel J → ZZ K (u.1 + mc.1, u.2 + mc.2) 2798 (lLc i) [] J) : ZZ K u 1597 (lLc i) [] I := by
  obtain ⟨hx, hm, ho, hs⟩ := rl hw
  obtain ⟨n, c, t, hO⟩ := Rel_O h
  have hn := hO.1.2.1
  have eq := hO.2.2.2.2.2.1
  have eg := gl_eq eq hn n (Nat.le_refl n)
  have hc := c_greatestLateness (G := kG K) (w := kw K) (gl := kl K) (I := I) hx hn hO.wfC.1 (fun l hl => (wf_rem hO.wfC l hl).1) (fun l hl hd => lt_999 (num_eq hO.2.2.2.1 eq) hO.2.1 hl hd)
  rw [eg] at hc
  exact lc_36 hK hx hm ho  (wL_greatestLateness hx ho hc (fun _ _ z => qP_ex z) (fun _ _ z => z.2.1)) (g_read (T := (fun _ => True)) (Q := fun J => ZZ K (u.1 + 1, u.2 + 6) 2798 (lLc i) [] J) h rfl (fun J hJ => by
    have r := r_greatestLateness (G := kG K) (w := kw K) (gl := kl K) (I := J) hm hn (by rw [hJ 313 (by decide)]; exact hO.1.1)
    rw [hJ 313 (by decide)] at r
    rw [ite_not, ite_not]
    exact r) Iff.rfl (fun q => by
    obtain ⟨l, hl, el, -⟩ := (s_gl_in (I 313) n).resolve_left q
    rw [el, nI_clamp (by omega), lt_eq eq hl]) (fun _ => trivial) trivial (fun J hJ => kN (1, 6) J (by decide) (by decide) hJ)) ⟨by show u.1 + 1 ≤ _; omega, by show u.2 + 6 ≤ _; omega⟩
end CSA
