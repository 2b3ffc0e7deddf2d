/-! THE OFFICE'S CHANGES -/
/-- a refused call: its class, and nothing has changed -/
def cX (f : Nat) (I : zM) : String → zM → Prop := fun E J => f ≠ 1003 ∧ E = fE f ∧ J = I
def ff_add (B : zBk) (x1 x2 x3 x4 x5 : Int32) : Nat := if s_has x1 (B 7) = true then (if s_data x2 x3 x4 x5 = true then (if s_canAdd B x3 = true then 1003 else 1002) else 1001) else 1000
def ff_pass (B : zBk) (x : Int32) : Nat := if s_in x 1 300 = true then (if B 9 + x ≤ 2000 then 1003 else 1002) else 1001
def ff_pol (x : Int32) : Nat := if s_in x 0 4 = true then 1003 else 1001
def ff_num (B : zBk) (x y lo hi : Int32) : Nat := if s_has x (B 8) = true then (if s_in y lo hi = true then 1003 else 1001) else 1000
def ff_ext (B : zBk) (x y : Int32) : Nat := if s_has x (B 8) = true then (if s_in y 1 29 = true then (if s_done B x.toNatClampNeg = true ∨ ¬ s_of B x.toNatClampNeg 1 + y ≤ 30 then 1002 else 1003) else 1001) else 1000
def ff_dis (B : zBk) (x : Int32) : Nat := if s_has x (B 8) = true then (if s_open B x.toNatClampNeg = true then 1003 else 1002) else 1000
theorem ff_add_in {B : zBk} {x1 x2 x3 x4 x5 : Int32} (h : ff_add B x1 x2 x3 x4 x5 ≠ 1003) : ff_add B x1 x2 x3 x4 x5 = 1000 ∨ ff_add B x1 x2 x3 x4 x5 = 1001 ∨ ff_add B x1 x2 x3 x4 x5 = 1002 := by
  revert h; unfold ff_add; (repeat' split) <;> (intro h; omega)
theorem ff_pass_in {B : zBk} {x : Int32} (h : ff_pass B x ≠ 1003) : ff_pass B x = 1000 ∨ ff_pass B x = 1001 ∨ ff_pass B x = 1002 := by
  revert h; unfold ff_pass; (repeat' split) <;> (intro h; omega)
theorem ff_pol_in {x : Int32} (h : ff_pol x ≠ 1003) : ff_pol x = 1000 ∨ ff_pol x = 1001 ∨ ff_pol x = 1002 := by
  revert h; unfold ff_pol; (repeat' split) <;> (intro h; omega)
theorem ff_num_in {B : zBk} {x y lo hi : Int32} (h : ff_num B x y lo hi ≠ 1003) : ff_num B x y lo hi = 1000 ∨ ff_num B x y lo hi = 1001 ∨ ff_num B x y lo hi = 1002 := by
  revert h; unfold ff_num; (repeat' split) <;> (intro h; omega)
theorem ff_ext_in {B : zBk} {x y : Int32} (h : ff_ext B x y ≠ 1003) : ff_ext B x y = 1000 ∨ ff_ext B x y = 1001 ∨ ff_ext B x y = 1002 := by
  revert h; unfold ff_ext; (repeat' split) <;> (intro h; omega)
theorem ff_dis_in {B : zBk} {x : Int32} (h : ff_dis B x ≠ 1003) : ff_dis B x = 1000 ∨ ff_dis B x = 1001 ∨ ff_dis B x = 1002 := by
  revert h; unfold ff_dis; (repeat' split) <;> (intro h; omega)
/-- the office in use, in the class: n letters, c clerks, minute t; the history's newest state a, m states -/
def kq (I : zM) (n c t a m : Nat) : Prop := s_wf (vB I 288) n c t ∧ s_pos (vB I 288) ∧ I 288 7 = s_cur (vB I 288) ∧ nmB I 288 ∧ (I 89 2 = nI a ∧ a < 6) ∧ (I 89 1 = nI m ∧ m ≤ 6) ∧ t ≤ 2000
def kp (I : zM) (n c a : Nat) : zM := kkeep I 288 n c ((a + 1) % 6)
theorem kp_hi {I : zM} {n c a r : Nat} (h : 235 ≤ r) : kp I n c a r = I r := by
  funext x
  have h6 : (a + 1) % 6 < 6 := Nat.mod_lt _ (by omega)
  unfold kp kkeep
  split
  · rw [cps_far (by omega)]; simp [up, ups, show r ≠ 89 by omega]
  · rw [up_def, ups_ne _ _ (by omega), cps_far (by omega)]; simp [up, ups, show r ≠ 89 by omega]
theorem vB_hi {I J : zM} (h : ∀ r, 288 ≤ r → J r = I r) : vB J 288 = vB I 288 := by
  funext k
  unfold vB
  rw [h 288 (by omega), h (288 + 1) (by omega), h (288 + 2) (by omega), h (288 + 10) (by omega), h (288 + 4 + (k - 22) / 7) (by omega), h (288 + 12 + (k - 64) / 8) (by omega)]
theorem kp_self {I : zM} {n c a : Nat} : sput (kp I n c a) 288 (vB I 288) (I 288 7) = kp I n c a := by
  have h := sput_self (kp I n c a) 288
  rw [vB_hi (J := kp I n c a) (I := I) (fun r hr => kp_hi (by omega)), kp_hi (by omega)] at h
  exact h
section CCH
variable {G : zG} {w : Nat × Nat} {gl : Launch} {I : zM}
theorem isT.st (hw : wOK w) (h : isT w 10 0) : isT w 9 288 := h.f (k := 0) (d := 9) hw rfl rfl rfl (by decide)
theorem isT.hi (hw : wOK w) (h : isT w 10 0) : isT w 3 89 := h.f (k := 5) (d := 3) hw rfl rfl rfl (by decide)
theorem rf_ok : CT G w gl (yX10_refuse, cX10_refuse, 1, none) 6 (1, 6) [.ref 1003] I (qV (fun J => J = I ∧ True)) nX :=
  (c_refuse (f := 1003) (by omega)).weak (fun v J q => ⟨q.1, q.2.1, trivial⟩) (fun E J q => absurd rfl q.1)
theorem rf_no {f : Nat} (hf : f = 1000 ∨ f = 1001 ∨ f = 1002) : CT G w gl (yX10_refuse, cX10_refuse, 1, none) 6 (1, 6) [.ref f] I (qV (fun J => J = I ∧ False)) (cX f I) :=
  (c_refuse (by omega)).weak (fun v J q => absurd q.2.2 (by omega)) (fun E J q => q)
theorem h_clerk (hs : isT w 9 288) {x : Int32} {c : Nat} (h7 : vB I 288 7 = nI c) : CT G w gl (yX9_hasClerk, cX9_hasClerk, 2, some .boolean) 0 (0, 0) [.ref 288, .int x] I (qE (b2 (s_has x (vB I 288 7))) I) nX := by
  have h := k_hasClerk (G := G) (w := w) (gl := gl) (I := I) (B := vB I 288) (cu := I 288 7) (x := x) hs h7
  rw [sput_self] at h; exact h
theorem h_letter (hs : isT w 9 288) {x : Int32} : CT G w gl (yX9_hasLetter, cX9_hasLetter, 2, some .boolean) 0 (0, 0) [.ref 288, .int x] I (qE (b2 (s_has x (vB I 288 8))) I) nX := by
  have h := k_hasLetter (G := G) (w := w) (gl := gl) (I := I) (B := vB I 288) (cu := I 288 7) (x := x) hs
  rw [sput_self] at h; exact h
theorem h_ready (hs : isT w 9 288) {l : Nat} (hl : l < 12) (h0 : 0 ≤ s_of (vB I 288) l 5) : CT G w gl (yX5_isReadyAt, cX5_isReadyAt, 2, some .boolean) 0 (0, 0) [.ref (300 + l), .int (vB I 288 9)] I (qE (b2 (s_open (vB I 288) l)) I) nX := by
  have h := k_isReadyAt (G := G) (w := w) (gl := gl) (I := I) (s := 288) (B := vB I 288) (cu := I 288 7) hs hl h0
  rw [sput_self] at h; exact h
theorem h_keep (hh : isT w 3 89) (hs : isT w 9 288) {n c t a m : Nat} (q : kq I n c t a m) : CT G w gl (yX3_keep, cX3_keep, 2, none) 4 (0, 0) [.ref 89, .ref 288] I (qV (fun J => J = kp I n c a)) nX :=
  k_keep hh hs q.1.1 q.1.2.1 q.1.2.2.1 q.1.2.2.2.2.1 q.2.2.2.1 q.2.2.2.2.1.1 q.2.2.2.2.1.2 q.2.2.2.2.2.1.1 q.2.2.2.2.2.1.2
theorem c_addFault (hx : isT w 10 0) {c : Nat} (h7 : vB I 288 7 = nI c) {x1 x2 x3 x4 x5 : Int32} : CT G w gl (yX10_addFault, cX10_addFault, 6, some (.object "PenOffice$Fault")) 1 (0, 0) [.ref 0, .int x1, .int x2, .int x3, .int x4, .int x5] I (qEr (ff_add (vB I 288) x1 x2 x3 x4 x5) I) nX := by
  refine ct_of (by decide) [(0, .ref 0), (1, .int x1), (2, .int x2), (3, .int x3), (4, .int x4), (5, .int x5)] rfl rfl (fun K hG hw hgl hwo hK => ?_)
  subst hG; subst hw; subst hgl
  have e8 : vB I 288 8 = I 288 3 := rfl
  have e9 : vB I 288 9 = I 288 4 := rfl
  refine bX10_addFault_0 hK hwo hx (h_clerk (hx.st hwo) h7) (fun _ => c_outside) ?_ (fun _ _ => c_outside) ?_ (fun _ _ _ => c_outside) ?_ (fun _ _ _ _ => c_outside) ?_ ?_ ?_ ?_ ?_
  · intro c d; simp only [b2_0, Bool.not_eq_false, Bool.not_eq_true', Bool.not_eq_false'] at c d; exact ⟨_, rfl, by simp [ff_add, s_data, c, d], rfl⟩
  · intro c d e; simp only [b2_0, Bool.not_eq_false, Bool.not_eq_true', Bool.not_eq_false'] at c d e; exact ⟨_, rfl, by simp [ff_add, s_data, c, d, e], rfl⟩
  · intro c d e f; simp only [b2_0, Bool.not_eq_false, Bool.not_eq_true', Bool.not_eq_false'] at c d e f; exact ⟨_, rfl, by simp [ff_add, s_data, c, d, e, f], rfl⟩
  · intro c d e f g h; simp only [b2_0, Bool.not_eq_false, Bool.not_eq_true', Bool.not_eq_false'] at c d e f g; exact ⟨_, rfl, by have h2 := Int32.not_lt.mpr h; simp [ff_add, s_data, s_canAdd, c, d, e, f, g, e8, h2], rfl⟩
  · intro c d e f g h i; simp only [b2_0, Bool.not_eq_false, Bool.not_eq_true', Bool.not_eq_false'] at c d e f g; exact ⟨_, rfl, by have h2 := Int32.not_le.mp h; simp [ff_add, s_data, s_canAdd, c, d, e, f, g, e8, e9, h2, i], rfl⟩
  · intro c d e f g h i; simp only [b2_0, Bool.not_eq_false, Bool.not_eq_true', Bool.not_eq_false'] at c d e f g; exact ⟨_, rfl, by have h2 := Int32.not_le.mp h; simp [ff_add, s_data, s_canAdd, c, d, e, f, g, e8, e9, h2, i], rfl⟩
  · intro c d e f g; simp only [b2_0, Bool.not_eq_false, Bool.not_eq_true', Bool.not_eq_false'] at c d e f g; exact ⟨_, rfl, by simp [ff_add, s_data, c, d, e, f, g], rfl⟩
  · intro c; simp only [b2_0, Bool.not_eq_false] at c; exact ⟨_, rfl, by simp [ff_add, c], rfl⟩
theorem c_passFault (hx : isT w 10 0) {x : Int32} : CT G w gl (yX10_passFault, cX10_passFault, 2, some (.object "PenOffice$Fault")) 1 (0, 0) [.ref 0, .int x] I (qEr (ff_pass (vB I 288) x) I) nX := by
  refine ct_of (by decide) [(0, .ref 0), (1, .int x)] rfl rfl (fun K hG hw hgl hwo hK => ?_)
  subst hG; subst hw; subst hgl
  have e9 : vB I 288 9 = I 288 4 := rfl
  refine bX10_passFault_0 hK hwo hx c_outside ?_ ?_ ?_
  · intro c d; simp only [b2_0, Bool.not_eq_false, Bool.not_eq_true', Bool.not_eq_false'] at c; exact ⟨_, rfl, by simp [ff_pass, e9, c, d], rfl⟩
  · intro c d; simp only [b2_0, Bool.not_eq_false, Bool.not_eq_true', Bool.not_eq_false'] at c; exact ⟨_, rfl, by simp [ff_pass, e9, c, d], rfl⟩
  · intro c; simp only [b2_0, Bool.not_eq_false, Bool.not_eq_true', Bool.not_eq_false'] at c; exact ⟨_, rfl, by simp [ff_pass, c], rfl⟩
theorem c_deadlineFault (hx : isT w 10 0) {x y : Int32} : CT G w gl (yX10_deadlineFault, cX10_deadlineFault, 3, some (.object "PenOffice$Fault")) 1 (0, 0) [.ref 0, .int x, .int y] I (qEr (ff_num (vB I 288) x y 1 999) I) nX := by
  refine ct_of (by decide) [(0, .ref 0), (1, .int x), (2, .int y)] rfl rfl (fun K hG hw hgl hwo hK => ?_)
  subst hG; subst hw; subst hgl
  refine bX10_deadlineFault_0 hK hwo hx (h_letter (hx.st hwo)) (fun _ => c_outside) ?_ ?_ ?_
  · intro c d; simp only [b2_0, Bool.not_eq_false, Bool.not_eq_true', Bool.not_eq_false'] at c d; exact ⟨_, rfl, by simp [ff_num, c, d], rfl⟩
  · intro c d; simp only [b2_0, Bool.not_eq_false, Bool.not_eq_true', Bool.not_eq_false'] at c d; exact ⟨_, rfl, by simp [ff_num, c, d], rfl⟩
  · intro c; simp only [b2_0, Bool.not_eq_false, Bool.not_eq_true', Bool.not_eq_false'] at c; exact ⟨_, rfl, by simp [ff_num, c], rfl⟩
theorem c_priorityFault (hx : isT w 10 0) {x y : Int32} : CT G w gl (yX10_priorityFault, cX10_priorityFault, 3, some (.object "PenOffice$Fault")) 1 (0, 0) [.ref 0, .int x, .int y] I (qEr (ff_num (vB I 288) x y 0 9) I) nX := by
  refine ct_of (by decide) [(0, .ref 0), (1, .int x), (2, .int y)] rfl rfl (fun K hG hw hgl hwo hK => ?_)
  subst hG; subst hw; subst hgl
  refine bX10_priorityFault_0 hK hwo hx (h_letter (hx.st hwo)) (fun _ => c_outside) ?_ ?_ ?_
  · intro c d; simp only [b2_0, Bool.not_eq_false, Bool.not_eq_true', Bool.not_eq_false'] at c d; exact ⟨_, rfl, by simp [ff_num, c, d], rfl⟩
  · intro c d; simp only [b2_0, Bool.not_eq_false, Bool.not_eq_true', Bool.not_eq_false'] at c d; exact ⟨_, rfl, by simp [ff_num, c, d], rfl⟩
  · intro c; simp only [b2_0, Bool.not_eq_false, Bool.not_eq_true', Bool.not_eq_false'] at c; exact ⟨_, rfl, by simp [ff_num, c], rfl⟩
/-- a letter's number that is there -/
theorem has_lr (hs : isT w 9 288) (hw : wOK w) {n : Nat} (hn : n ≤ 12) (h8 : vB I 288 8 = nI n) {x : Int32} (h : s_has x (vB I 288 8) = true) : vp_in x 12 ∧ ∃ l, l < n ∧ x = nI l ∧ x.toNatClampNeg = l ∧ LR 299 l = 300 + l := by
  obtain ⟨l, hl, rfl⟩ := has_nat h8 (by omega) h
  have hc : (nI l).toNatClampNeg = l := nI_clamp (by omega)
  have e := k_lr hw hs (l := l) (by omega)
  rw [(hs.lr hw).2.2.1, hc] at e
  exact ⟨vp_in_nI (by omega) (by omega), l, hl, rfl, hc, e⟩
theorem c_discardFault (hx : isT w 10 0) {n c t : Nat} (hf : s_wf (vB I 288) n c t) {x : Int32} : CT G w gl (yX10_discardFault, cX10_discardFault, 2, some (.object "PenOffice$Fault")) 1 (0, 0) [.ref 0, .int x] I (qEr (ff_dis (vB I 288) x) I) nX := by
  refine ct_of (by decide) [(0, .ref 0), (1, .int x)] rfl rfl (fun K hG hw hgl hwo hK => ?_)
  subst hG; subst hw; subst hgl
  have key := fun h => has_lr (I := I) (hx.st hwo) hwo hf.2.1 hf.1 (x := x) h
  by_cases h : s_has x (vB I 288 8) = true
  · obtain ⟨h1, l, hl, -, hc, hr⟩ := key h
    have hn := hf.2.1
    refine bX10_discardFault_0 hK hwo hx (h_letter (hx.st hwo)) (fun _ => h1) (fun _ => by rw [hc, hr]; exact h_ready (hx.st hwo) (by omega) ((wf_rem hf) l hl).1) ?_ ?_ ?_
    · intro c d; simp only [b2_0, Bool.not_eq_false] at d; exact ⟨_, rfl, by simp [ff_dis, hc, h, d], rfl⟩
    · intro c d; simp only [b2_0, Bool.not_eq_false] at d; exact ⟨_, rfl, by simp [ff_dis, hc, h, d], rfl⟩
    · intro c; rw [h] at c; exact absurd c (by decide)
  · have h' : s_has x (vB I 288 8) = false := by simpa using h
    refine bX10_discardFault_0 hK hwo hx (f4 := 0) (g4 := I) (h_letter (hx.st hwo)) (fun c => absurd (b2_n0.mp c) h) (fun c => absurd (b2_n0.mp c) h) (fun c => absurd (b2_n0.mp c) h) (fun c => absurd (b2_n0.mp c) h) ?_
    intro c; exact ⟨_, rfl, by simp [ff_dis, h'], rfl⟩
end CCH
