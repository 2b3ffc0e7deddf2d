/-! THE OFFICE'S CHANGES, where nothing is refused: no room is wanted (rows of part 47, anew) -/
section CHG0
variable {G : zG} {w : Nat × Nat} {gl : Launch} {I : zM} {n c t a m : Nat}
theorem d_addLetter (hx : isT w 10 0) (q : kq I n c t a m) {x1 x2 x3 x4 x5 : Int32} {f : Nat} (hf : f = ff_add (vB I 288) x1 x2 x3 x4 x5) (h : f = 1003) : CT G w gl (yX10_addLetter, cX10_addLetter, 6, some .int) 7 (0, 0) [.ref 0, .int x1, .int x2, .int x3, .int x4, .int x5] I (qP (f = 1003) (nI n) (sput (kp I n c a) 288 (s_add (vB I 288) n x1 x2 (vB I 288 9 + x3) x4 x5) (I 288 7))) nX := by
  refine ct_of (by decide) [(0, .ref 0), (1, .int x1), (2, .int x2), (3, .int x3), (4, .int x4), (5, .int x5)] rfl rfl (fun K hG hw hgl hwo hK => ?_)
  subst hG; subst hw; subst hgl
  have fa := c_addFault (G := kG K) (w := kw K) (gl := kl K) (I := I) hx (q.1.2.2.1) (x1 := x1) (x2 := x2) (x3 := x3) (x4 := x4) (x5 := x5)
  rw [← hf] at fa
  have hlt : n < 12 := by
    rw [h] at hf
    unfold ff_add s_canAdd at hf
    rw [q.1.1] at hf
    by_cases z : nI n < 12
    · exact (nI_ltI (by have := q.1.2.1; omega) (by omega)).mp z
    · exfalso
      rw [decide_eq_false z] at hf
      revert hf
      split <;> (try split) <;> simp
  have hp := k_putLetter (G := kG K) (w := kw K) (gl := kl K) (I := kp I n c a) (s := 288) (B := vB I 288) (cu := I 288 7) (n := n) (x1 := x1) (x2 := x2) (x3 := vB I 288 9 + x3) (x4 := x4) (x5 := x5) (hx.st hwo) q.1.1 hlt
  rw [kp_self] at hp
  refine bX10_addLetter_0 hK hwo hx (f1 := f) (g1 := I) (g2 := I) (mc2 := (0, 0)) (x2 := nX) (p2 := True) (g3 := kp I n c a) (f4 := nI n) (g4 := sput (kp I n c a) 288 (s_add (vB I 288) n x1 x2 (vB I 288 9 + x3) x4 x5) (I 288 7)) g0 fa g0 (fun _ _ z => z.elim) (by rw [h]; exact d_refuse) g0 (fun _ => h_keep (hx.hi hwo) (hx.st hwo) q) g0 (fun _ => ?_) g0 (fun _ => qP_i h rfl rfl)
  rw [kp_hi (by omega)]; exact hp
theorem d_pass (hx : isT w 10 0) (q : kq I n c t a m) {x : Int32} {f : Nat} (hf : f = ff_pass (vB I 288) x) (h : f = 1003) : CT G w gl (yX10_pass, cX10_pass, 2, some .int) 7 (0, 0) [.ref 0, .int x] I (qP (f = 1003) (nI (s_cnt (s_done (s_mins (vB I 288) n x.toNatClampNeg)) n) - nI (s_cnt (s_done (vB I 288)) n)) (sput (kp I n c a) 288 (s_mins (vB I 288) n x.toNatClampNeg) (s_cur (s_mins (vB I 288) n x.toNatClampNeg)))) nX := by
  refine ct_of (by decide) [(0, .ref 0), (1, .int x)] rfl rfl (fun K hG hw hgl hwo hK => ?_)
  subst hG; subst hw; subst hgl
  have fa := c_passFault (G := kG K) (w := kw K) (gl := kl K) (I := I) hx (x := x)
  rw [← hf] at fa
  have hin : s_in x 1 300 = true := by
    rw [h] at hf
    unfold ff_pass at hf
    by_cases z : s_in x 1 300 = true
    · exact z
    · rw [if_neg z] at hf; omega
  have h9 := hin
  unfold s_in at h9
  rw [Bool.and_eq_true] at h9
  obtain ⟨k, hk, ek⟩ := i_of (M := 300) (n := 300) (by decide) (Int32.le_trans (by decide) (of_decide_eq_true h9.1)) (of_decide_eq_true h9.2)
  have hcl : x.toNatClampNeg = k := by rw [ek]; exact nI_clamp (by omega)
  have hp := k_runMinutes (G := kG K) (w := kw K) (gl := kl K) (I := kp I n c a) (s := 288) (B := vB I 288) (k := k) (hx.st hwo) q.1 q.2.1 (by have := q.2.2.2.2.2.2; omega)
  rw [← q.2.2.1, kp_self, ← ek] at hp
  rw [hcl] at hK
  exact bX10_pass_0 hK hwo hx (f1 := f) (g1 := I) (g2 := I) (mc2 := (0, 0)) (x2 := nX) (p2 := True) (g3 := kp I n c a) g0 fa g0 (fun _ _ z => z.elim) (by rw [h]; exact d_refuse) g0 (fun _ => h_keep (hx.hi hwo) (hx.st hwo) q) g0 (fun _ => hp) g0 (fun _ => qP_i h rfl rfl)
theorem d_setPolicy (hx : isT w 10 0) (q : kq I n c t a m) {x : Int32} {f : Nat} (hf : f = ff_pol x) (h : f = 1003) : CT G w gl (yX10_setPolicy, cX10_setPolicy, 3, some .int) 7 (0, 0) [.ref 0, .int x] I (qP (f = 1003) (vB I 288 0) (sput (kp I n c a) 288 (upd (vB I 288) 0 x) (I 288 7))) nX := by
  refine ct_of (by decide) [(0, .ref 0), (1, .int x)] rfl rfl (fun K hG hw hgl hwo hK => ?_)
  subst hG; subst hw; subst hgl
  have fa := c_policyFault (G := kG K) (w := kw K) (gl := kl K) (I := I) (x := x)
  rw [show (if s_in x 0 4 = true then 1003 else 1001) = f from hf.symm] at fa
  refine bX10_setPolicy_0 hK hwo hx (f1 := f) (g1 := I) (g2 := I) (mc2 := (0, 0)) (x2 := nX) (p2 := True) (g3 := kp I n c a) g0 fa g0 (fun _ _ z => z.elim) (by rw [h]; exact d_refuse) g0 (fun _ => h_keep (hx.hi hwo) (hx.st hwo) q) g0 (fun _ => qP_i h (by rw [kp_hi (by omega)]; rfl) ?_)
  conv => lhs; rw [← kp_self]
  exact su5
theorem d_setDeadline (hx : isT w 10 0) (q : kq I n c t a m) {x y : Int32} {f : Nat} (hf : f = ff_num (vB I 288) x y 1 999) (h : f = 1003) : CT G w gl (yX10_setDeadline, cX10_setDeadline, 4, some .int) 7 (0, 0) [.ref 0, .int x, .int y] I (qP (f = 1003) (s_of (vB I 288) x.toNatClampNeg 3) (sput (kp I n c a) 288 (s_set (vB I 288) x.toNatClampNeg 3 y) (I 288 7))) nX := by
  refine ct_of (by decide) [(0, .ref 0), (1, .int x), (2, .int y)] rfl rfl (fun K hG hw hgl hwo hK => ?_)
  subst hG; subst hw; subst hgl
  have fa := c_deadlineFault (G := kG K) (w := kw K) (gl := kl K) (I := I) hx (x := x) (y := y)
  rw [← hf] at fa
  have hh : s_has x (vB I 288 8) = true := by
    rw [h] at hf
    unfold ff_num at hf
    by_cases z : s_has x (vB I 288 8) = true
    · exact z
    · rw [if_neg z] at hf; omega
  obtain ⟨h1, l, hl, -, hc, hr⟩ := has_lr (I := I) (hx.st hwo) hwo q.1.2.1 q.1.1 hh
  have hn := q.1.2.1
  refine bX10_setDeadline_0 hK hwo hx (f1 := f) (g1 := I) (g2 := I) (mc2 := (0, 0)) (x2 := nX) (p2 := True) (g3 := kp I n c a) g0 fa g0 (fun _ _ z => z.elim) (by rw [h]; exact d_refuse) g0 (fun _ => h_keep (hx.hi hwo) (hx.st hwo) q) (fun _ => h1) (fun _ => h1) g0 (fun _ => qP_i h (by rw [hc, hr]; exact kp_of (by omega)) ?_)
  rw [hc, hr]
  conv => lhs; rw [← kp_self]
  exact suL (s := 288) (by omega) (by omega)
theorem d_setPriority (hx : isT w 10 0) (q : kq I n c t a m) {x y : Int32} {f : Nat} (hf : f = ff_num (vB I 288) x y 0 9) (h : f = 1003) : CT G w gl (yX10_setPriority, cX10_setPriority, 4, some .int) 7 (0, 0) [.ref 0, .int x, .int y] I (qP (f = 1003) (s_of (vB I 288) x.toNatClampNeg 4) (sput (kp I n c a) 288 (s_set (vB I 288) x.toNatClampNeg 4 y) (I 288 7))) nX := by
  refine ct_of (by decide) [(0, .ref 0), (1, .int x), (2, .int y)] rfl rfl (fun K hG hw hgl hwo hK => ?_)
  subst hG; subst hw; subst hgl
  have fa := c_priorityFault (G := kG K) (w := kw K) (gl := kl K) (I := I) hx (x := x) (y := y)
  rw [← hf] at fa
  have hh : s_has x (vB I 288 8) = true := by
    rw [h] at hf
    unfold ff_num at hf
    by_cases z : s_has x (vB I 288 8) = true
    · exact z
    · rw [if_neg z] at hf; omega
  obtain ⟨h1, l, hl, -, hc, hr⟩ := has_lr (I := I) (hx.st hwo) hwo q.1.2.1 q.1.1 hh
  have hn := q.1.2.1
  refine bX10_setPriority_0 hK hwo hx (f1 := f) (g1 := I) (g2 := I) (mc2 := (0, 0)) (x2 := nX) (p2 := True) (g3 := kp I n c a) g0 fa g0 (fun _ _ z => z.elim) (by rw [h]; exact d_refuse) g0 (fun _ => h_keep (hx.hi hwo) (hx.st hwo) q) (fun _ => h1) (fun _ => h1) g0 (fun _ => qP_i h (by rw [hc, hr]; exact kp_of (by omega)) ?_)
  rw [hc, hr]
  conv => lhs; rw [← kp_self]
  exact suL (s := 288) (by omega) (by omega)
theorem d_discard (hx : isT w 10 0) (q : kq I n c t a m) {x : Int32} {f : Nat} (hf : f = ff_dis (vB I 288) x) (h : f = 1003) : CT G w gl (yX10_discard, cX10_discard, 2, some .int) 7 (0, 0) [.ref 0, .int x] I (qP (f = 1003) (s_of (vB I 288) x.toNatClampNeg 5) (sput (kp I n c a) 288 (s_drop (vB I 288) x.toNatClampNeg) (if I 288 7 = x then -1 else I 288 7))) nX := by
  refine ct_of (by decide) [(0, .ref 0), (1, .int x)] rfl rfl (fun K hG hw hgl hwo hK => ?_)
  subst hG; subst hw; subst hgl
  have fa := c_discardFault (G := kG K) (w := kw K) (gl := kl K) (I := I) hx q.1 (x := x)
  rw [← hf] at fa
  have hh : s_has x (vB I 288 8) = true := by
    rw [h] at hf
    unfold ff_dis at hf
    by_cases z : s_has x (vB I 288 8) = true
    · exact z
    · rw [if_neg z] at hf; omega
  obtain ⟨h1, l, hl, el, hc, hr⟩ := has_lr (I := I) (hx.st hwo) hwo q.1.2.1 q.1.1 hh
  have hn := q.1.2.1
  have hp := k_dropLetter (G := kG K) (w := kw K) (gl := kl K) (I := kp I n c a) (s := 288) (B := vB I 288) (cu := I 288 7) (l := l) (hx.st hwo) (by omega)
  rw [kp_self, ← el] at hp
  rw [hc] at hK
  exact bX10_discard_0 hK hwo hx (f1 := f) (g1 := I) (g2 := I) (mc2 := (0, 0)) (x2 := nX) (p2 := True) (g3 := kp I n c a) g0 fa g0 (fun _ _ z => z.elim) (by rw [h]; exact d_refuse) g0 (fun _ => h_keep (hx.hi hwo) (hx.st hwo) q) g0 (fun _ => hp) g0 (fun _ => qP_i h rfl rfl)
end CHG0
