/-! THE LAW'S OFFICE: what it asks of the class, and of itself -/
/-- the class's block and the law's have the same settings, letters and clerks -/
def sim (I : zM) (L : zBk) (n : Nat) : Prop := (∀ k, k < 9 → vB I 288 k = L k) ∧ ∀ l, l < n → ∀ f, f < 5 → s_of (vB I 288) l f = s_of L l f
section LAWA
variable {G : zG} {w : Nat × Nat} {gl : Launch} {I : zM} {L : zBk} {n c t k : Nat}
theorem vop_of {l f : Nat} (hl : l < 12) (hf : f < 8) : s_of (vB (oput I L) 288) l f = s_of (vB I 288) l f := by
  unfold s_of; exact vB_op (by omega)
theorem vop_lo {j : Nat} (h : j < 64) : vB (oput I L) 288 j = vB I 288 j := vB_op (by omega)
theorem has_k (h8 : vB I 288 8 = nI n) (hn : n ≤ 12) (hk : k < n) : s_has (nI k) (vB (oput I L) 288 8) = true := by
  rw [vop_lo (by omega), h8]
  unfold s_has
  rw [Bool.and_eq_true]
  exact ⟨decide_eq_true (nI_pos' (by omega)), decide_eq_true (nI_lt hk (by omega))⟩
theorem u_clerkOf (hx : isT w 10 0) (hs : isT w 9 288) (h8 : vB I 288 8 = nI n) (hn : n ≤ 12) (hk : k < n) : CT G w gl (yX10_clerkOf, cX10_clerkOf, 2, some .int) 7 (0, 0) [.ref 0, .int (nI k)] (oput I L) (qE (s_of (vB I 288) k 0) (oput I L)) nX := by
  have h := d_clerkOf (G := G) (w := w) (gl := gl) (I := oput I L) (B := vB (oput I L) 288) (cu := oput I L 288 7) (x := nI k) (n := n) hx hs (by rw [vop_lo (by omega)]; exact h8) hn (has_k h8 hn hk)
  rw [sput_self, nI_clamp (by omega), vop_of (by omega) (by omega)] at h
  exact h.weak (fun _ _ q => q.2) (fun _ _ q => q)
theorem u_length (hx : isT w 10 0) (hs : isT w 9 288) (h8 : vB I 288 8 = nI n) (hn : n ≤ 12) (hk : k < n) : CT G w gl (yX10_length, cX10_length, 2, some .int) 7 (0, 0) [.ref 0, .int (nI k)] (oput I L) (qE (s_of (vB I 288) k 1) (oput I L)) nX := by
  have h := d_length (G := G) (w := w) (gl := gl) (I := oput I L) (B := vB (oput I L) 288) (cu := oput I L 288 7) (x := nI k) (n := n) hx hs (by rw [vop_lo (by omega)]; exact h8) hn (has_k h8 hn hk)
  rw [sput_self, nI_clamp (by omega), vop_of (by omega) (by omega)] at h
  exact h.weak (fun _ _ q => q.2) (fun _ _ q => q)
theorem u_arrival (hx : isT w 10 0) (hs : isT w 9 288) (h8 : vB I 288 8 = nI n) (hn : n ≤ 12) (hk : k < n) : CT G w gl (yX10_arrival, cX10_arrival, 2, some .int) 7 (0, 0) [.ref 0, .int (nI k)] (oput I L) (qE (s_of (vB I 288) k 2) (oput I L)) nX := by
  have h := d_arrival (G := G) (w := w) (gl := gl) (I := oput I L) (B := vB (oput I L) 288) (cu := oput I L 288 7) (x := nI k) (n := n) hx hs (by rw [vop_lo (by omega)]; exact h8) hn (has_k h8 hn hk)
  rw [sput_self, nI_clamp (by omega), vop_of (by omega) (by omega)] at h
  exact h.weak (fun _ _ q => q.2) (fun _ _ q => q)
theorem u_deadline (hx : isT w 10 0) (hs : isT w 9 288) (h8 : vB I 288 8 = nI n) (hn : n ≤ 12) (hk : k < n) : CT G w gl (yX10_deadline, cX10_deadline, 2, some .int) 7 (0, 0) [.ref 0, .int (nI k)] (oput I L) (qE (s_of (vB I 288) k 3) (oput I L)) nX := by
  have h := d_deadline (G := G) (w := w) (gl := gl) (I := oput I L) (B := vB (oput I L) 288) (cu := oput I L 288 7) (x := nI k) (n := n) hx hs (by rw [vop_lo (by omega)]; exact h8) hn (has_k h8 hn hk)
  rw [sput_self, nI_clamp (by omega), vop_of (by omega) (by omega)] at h
  exact h.weak (fun _ _ q => q.2) (fun _ _ q => q)
theorem u_priority (hx : isT w 10 0) (hs : isT w 9 288) (h8 : vB I 288 8 = nI n) (hn : n ≤ 12) (hk : k < n) : CT G w gl (yX10_priority, cX10_priority, 2, some .int) 7 (0, 0) [.ref 0, .int (nI k)] (oput I L) (qE (s_of (vB I 288) k 4) (oput I L)) nX := by
  have h := d_priority (G := G) (w := w) (gl := gl) (I := oput I L) (B := vB (oput I L) 288) (cu := oput I L 288 7) (x := nI k) (n := n) hx hs (by rw [vop_lo (by omega)]; exact h8) hn (has_k h8 hn hk)
  rw [sput_self, nI_clamp (by omega), vop_of (by omega) (by omega)] at h
  exact h.weak (fun _ _ q => q.2) (fun _ _ q => q)
theorem u_remaining (hx : isT w 10 0) (hs : isT w 9 288) (h8 : vB I 288 8 = nI n) (hn : n ≤ 12) (hk : k < n) : CT G w gl (yX10_remaining, cX10_remaining, 2, some .int) 7 (0, 0) [.ref 0, .int (nI k)] (oput I L) (qE (s_of (vB I 288) k 5) (oput I L)) nX := by
  have h := d_remaining (G := G) (w := w) (gl := gl) (I := oput I L) (B := vB (oput I L) 288) (cu := oput I L 288 7) (x := nI k) (n := n) hx hs (by rw [vop_lo (by omega)]; exact h8) hn (has_k h8 hn hk)
  rw [sput_self, nI_clamp (by omega), vop_of (by omega) (by omega)] at h
  exact h.weak (fun _ _ q => q.2) (fun _ _ q => q)
theorem u_finishMinute (hx : isT w 10 0) (hs : isT w 9 288) (h8 : vB I 288 8 = nI n) (hn : n ≤ 12) (hk : k < n) : CT G w gl (yX10_finishMinute, cX10_finishMinute, 2, some .int) 7 (0, 0) [.ref 0, .int (nI k)] (oput I L) (qE (s_of (vB I 288) k 6) (oput I L)) nX := by
  have h := d_finishMinute (G := G) (w := w) (gl := gl) (I := oput I L) (B := vB (oput I L) 288) (cu := oput I L 288 7) (x := nI k) (n := n) hx hs (by rw [vop_lo (by omega)]; exact h8) hn (has_k h8 hn hk)
  rw [sput_self, nI_clamp (by omega), vop_of (by omega) (by omega)] at h
  exact h.weak (fun _ _ q => q.2) (fun _ _ q => q)
theorem u_waitingTime (hx : isT w 10 0) (hs : isT w 9 288) (h8 : vB I 288 8 = nI n) (hn : n ≤ 12)  (hk : k < n) : CT G w gl (yX10_waitingTime, cX10_waitingTime, 2, some .int) 7 (0, 0) [.ref 0, .int (nI k)] (oput I L) (qE (s_waited (vB I 288) k) (oput I L)) nX := by
  have h := d_waitingTime (G := G) (w := w) (gl := gl) (I := oput I L) (B := vB (oput I L) 288) (cu := oput I L 288 7) (x := nI k) (n := n) hx hs (by rw [vop_lo (by omega)]; exact h8) hn (has_k h8 hn hk)
  have e : s_eq n (vB I 288) (vB (oput I L) 288) := ⟨fun j hj => vop_lo (by omega), fun l hl f hf => vop_of (by omega) hf⟩
  rw [sput_self, nI_clamp (by omega), eq_waited e hk] at h
  exact h.weak (fun _ _ q => q.2) (fun _ _ q => q)
theorem u_effectivePriority (hx : isT w 10 0) (hs : isT w 9 288) (h8 : vB I 288 8 = nI n) (hn : n ≤ 12) (h5 : 1 ≤ vB I 288 5) (hk : k < n) : CT G w gl (yX10_effectivePriority, cX10_effectivePriority, 2, some .int) 7 (0, 0) [.ref 0, .int (nI k)] (oput I L) (qE (s_urg (vB I 288) k) (oput I L)) nX := by
  have h := d_effectivePriority (G := G) (w := w) (gl := gl) (I := oput I L) (B := vB (oput I L) 288) (cu := oput I L 288 7) (x := nI k) (n := n) hx hs (by rw [vop_lo (by omega)]; exact h8) hn (by rw [vop_lo (by omega)]; exact h5) (has_k h8 hn hk)
  have e : s_eq n (vB I 288) (vB (oput I L) 288) := ⟨fun j hj => vop_lo (by omega), fun l hl f hf => vop_of (by omega) hf⟩
  rw [sput_self, nI_clamp (by omega), eq_urg e hk] at h
  exact h.weak (fun _ _ q => q.2) (fun _ _ q => q)
theorem u_isReady (hx : isT w 10 0) (hs : isT w 9 288) (h8 : vB I 288 8 = nI n) (hn : n ≤ 12) (h0 : ∀ l, l < n → 0 ≤ s_of (vB I 288) l 5) (hk : k < n) : CT G w gl (yX10_isReady, cX10_isReady, 2, some .boolean) 7 (0, 0) [.ref 0, .int (nI k)] (oput I L) (qE (b2 (s_open (vB I 288) k)) (oput I L)) nX := by
  have h := d_isReady (G := G) (w := w) (gl := gl) (I := oput I L) (B := vB (oput I L) 288) (cu := oput I L 288 7) (x := nI k) (n := n) hx hs (by rw [vop_lo (by omega)]; exact h8) hn (fun l hl => by rw [vop_of (by omega) (by omega)]; exact h0 l hl) (has_k h8 hn hk)
  have e : s_eq n (vB I 288) (vB (oput I L) 288) := ⟨fun j hj => vop_lo (by omega), fun l hl f hf => vop_of (by omega) hf⟩
  rw [sput_self, nI_clamp (by omega), eq_open e hk] at h
  exact h.weak (fun _ _ q => q.2) (fun _ _ q => q)
theorem sim.h8 (h : sim I L n) (h8 : L 8 = nI n) : vB I 288 8 = nI n := (h.1 8 (by omega)).trans h8
theorem m1_lt : (-1 : Int32) < 0 := by decide
theorem wf_0 (hf : s_wf L n c t) (hk : k < n) : 0 ≤ s_of L k 5 := (wf_rem hf k hk).1
theorem e_current (ho : isT w 11 312) (hf : s_wf L n c t) : CT G w gl (yX11_current, cX11_current, 1, some .int) 0 (0, 0) [.ref 312] (oput I L) (qE (s_cur L) (oput I L)) nX := by
  refine ct_of (by decide) [(0, .ref 312)] rfl rfl (fun K hG hw hgl hwo hK => ?_)
  subst hG; subst hw; subst hgl
  have hn := hf.2.1
  rcases hf.2.2.2.2.2.1 with h | ⟨l, hl, h, -⟩
  · have e : s_cur L = -1 := by unfold s_cur; rw [if_pos h]
    refine bX11_current_0 hK hwo ho ?_ ?_ ?_ ?_ <;> rw [op8, h]
    · intro _; exact qE_i e.symm rfl
    · intro c; exact absurd m1_lt c
    · intro c; exact absurd m1_lt c
    · intro c; exact absurd m1_lt c
  · have h0 := wf_0 hf hl
    have e : s_cur L = if s_done L l = true then -1 else nI l := by
      unfold s_cur
      rw [if_neg (by rw [h]; exact nI_ne_m1 (by omega)), h, nI_clamp (by omega)]
    refine bX11_current_0 hK hwo ho ?_ ?_ ?_ ?_ <;> rw [op8, h]
    · intro c; exact absurd c (nI_pos (by omega))
    · intro c; exact vp_in_nI (by omega) (by omega)
    · rw [nI_clamp (by omega), opR (by omega)]
      intro c d
      have z : s_done L l = true := decide_eq_true (Int32.le_antisymm d h0)
      exact qE_i (by rw [e, if_pos z]) rfl
    · rw [nI_clamp (by omega), opR (by omega)]
      intro c d
      have z : ¬ s_done L l = true := fun z => d (by rw [of_decide_eq_true z]; exact Int32.le_refl 0)
      exact qE_i (by rw [e, if_neg z]) rfl
theorem e_isReady (hx : isT w 10 0) (hs : isT w 9 288) (ho : isT w 11 312) (hf : s_wf L n c t) (hm : sim I L n) (hk : k < n) : CT G w gl (yX11_isReady, cX11_isReady, 2, some .boolean) 8 (0, 0) [.ref 312, .int (nI k)] (oput I L) (qE (b2 (s_open L k)) (oput I L)) nX := by
  refine ct_of (by decide) [(0, .ref 312), (1, .int (nI k))] rfl rfl (fun K hG hw hgl hwo hK => ?_)
  subst hG; subst hw; subst hgl
  have hn := hf.2.1
  have h0 := wf_0 hf hk
  refine bX11_isReady_0 (f1 := s_of L k 2) (g1 := oput I L) hK hwo ho ?_ ?_ ?_ ?_ ?_
  · rw [← hm.2 k hk 2 (by omega)]; exact u_arrival hx hs (hm.h8 hf.1) hn hk
  · rw [op6]
    intro c
    have z : s_arr L k = false := decide_eq_false (Int32.not_le.mpr c)
    exact qE_i (by unfold s_open; rw [z]; rfl) rfl
  · intro _; exact vp_in_nI (by omega) (by omega)
  · rw [op6, nI_clamp (by omega), opR (by omega)]
    intro c d
    have z : s_done L k = true := decide_eq_true (Int32.le_antisymm d h0)
    exact qE_i (by unfold s_open; rw [z, Bool.not_true, Bool.and_false]; rfl) rfl
  · rw [op6, nI_clamp (by omega), opR (by omega)]
    intro c d
    have z : s_arr L k = true := decide_eq_true (Int32.not_lt.mp c)
    have z2 : s_done L k = false := decide_eq_false (fun e => d (by rw [e]; exact Int32.le_refl 0))
    exact qE_i (by unfold s_open; rw [z, z2]; rfl) rfl
theorem e_waited (hx : isT w 10 0) (hs : isT w 9 288) (ho : isT w 11 312) (hf : s_wf L n c t) (hm : sim I L n) (hk : k < n) : CT G w gl (yX11_waited, cX11_waited, 2, some .int) 8 (0, 0) [.ref 312, .int (nI k)] (oput I L) (qE (s_waited L k) (oput I L)) nX := by
  refine ct_of (by decide) [(0, .ref 312), (1, .int (nI k))] rfl rfl (fun K hG hw hgl hwo hK => ?_)
  subst hG; subst hw; subst hgl
  have hn := hf.2.1
  have ha : CT (kG K) (kw K) (kl K) (yX10_arrival, cX10_arrival, 2, some .int) 7 (0, 0) [.ref 0, .int (nI k)] (oput I L) (qE (s_of L k 2) (oput I L)) nX := by
    rw [← hm.2 k hk 2 (by omega)]; exact u_arrival hx hs (hm.h8 hf.1) hn hk
  have i12 : vp_in (nI k) 12 := vp_in_nI (by omega) (by omega)
  have fin : ∀ v : Int32, s_of L k 2 ≤ L 9 → (if s_done L k = true then s_of L k 6 else L 9) = v → ZZ K (0, 0) 39 [(0, .ref 312), (1, .int (nI k))] [.int v] (oput I L) := fun v h1 h2 => by
    refine bX11_waited_39 hK hwo ho ha i12 ?_
    rw [nI_clamp (by omega), opW (by omega)]
    refine qE_i ?_ rfl
    unfold s_waited
    rw [if_pos (show s_arr L k = true from decide_eq_true h1), h2]
  refine bX11_waited_0 hK hwo ho ha ?_ ?_ ?_ ?_ ?_
  · intro _; exact i12
  · rw [op6, nI_clamp (by omega), opR (by omega)]
    intro c d
    exact fin _ c (if_neg (fun z => d (of_decide_eq_true z)))
  · intro _ _; exact i12
  · rw [op6, nI_clamp (by omega), opR (by omega), opN (by omega)]
    intro c d
    exact fin _ c (if_pos (decide_eq_true d))
  · rw [op6]
    intro c
    refine qE_i ?_ rfl
    unfold s_waited
    rw [if_neg (show ¬ s_arr L k = true from fun z => c (of_decide_eq_true z))]
end LAWA
