/-! WHAT THE OFFICE IS ASKED, where it doesn't throw: no room is wanted (rows of part 29, anew) -/
section GET0
variable {G : zG} {w : Nat × Nat} {gl : Launch} {I : zM} {B : zBk} {cu : Int32}
abbrev g0 : ((0, 0) : Nat × Nat).1 ≤ ((0, 0) : Nat × Nat).1 ∧ ((0, 0) : Nat × Nat).2 ≤ ((0, 0) : Nat × Nat).2 := ⟨Nat.le_refl 0, Nat.le_refl 0⟩
theorem d_requireLetter (hx : isT w 10 0) (hs : isT w 9 288) {x : Int32} (hh : s_has x (B 8) = true) : CT G w gl (yX10_requireLetter, cX10_requireLetter, 2, none) 6 (0, 0) [.ref 0, .int x] (sput I 288 B cu) (qV (fun J => J = sput I 288 B cu ∧ s_has x (B 8) = true)) nX := by
  refine ct_of (by decide) [(0, .ref 0), (1, .int x)] rfl rfl (fun K hG hw hgl hwo hK => ?_)
  subst hG; subst hw; subst hgl
  refine nX10_requireLetter_0 hK hwo hx g0 (k_hasLetter hs) g0 ?_ ?_ ?_
  · intro c; exact ⟨rfl, rfl, hh⟩
  · intro c; exact absurd (hh.symm.trans (b2_0.mp c)) (by decide)
  · intro c; exact absurd (hh.symm.trans (b2_0.mp c)) (by decide)

theorem d_clerkOf (hx : isT w 10 0) (hs : isT w 9 288) {x : Int32} {n : Nat} (h8 : B 8 = nI n) (hn : n ≤ 12) (hh : s_has x (B 8) = true) : CT G w gl (yX10_clerkOf, cX10_clerkOf, 2, some .int) 7 (0, 0) [.ref 0, .int x] (sput I 288 B cu) (qP (s_has x (B 8) = true) (s_of B x.toNatClampNeg 0) (sput I 288 B cu)) nX := by
  refine ct_of (by decide) [(0, .ref 0), (1, .int x)] rfl rfl (fun K hG hw hgl hwo hK => ?_)
  subst hG; subst hw; subst hgl
  have e2 : LR 288 2 = 299 := (hs.lr hwo).2.2.1
  have key : s_has x (B 8) = true → vp_in x 12 ∧ x.toNatClampNeg < n ∧ LR 299 x.toNatClampNeg = 288 + 12 + x.toNatClampNeg := fun h => by
    obtain ⟨l, hl, rfl⟩ := has_nat h8 (by omega) h
    have e := k_lr hwo hs (l := l) (by omega)
    rw [e2] at e
    exact ⟨vp_in_nI (by omega) (by omega), by rw [nI_clamp (by omega)]; exact hl, by rw [e, nI_clamp (by omega)]⟩
  refine bX10_clerkOf_0 hK hwo hx ⟨by decide, by decide⟩ (fun _ _ h => h) (d_requireLetter hx hs hh) (fun h => (key h).1) ⟨by decide, by decide⟩ (fun h => ?_)
  obtain ⟨-, hl, e⟩ := key h
  rw [e, spL (by omega) (by omega)]
  exact qP_i h rfl rfl
theorem d_length (hx : isT w 10 0) (hs : isT w 9 288) {x : Int32} {n : Nat} (h8 : B 8 = nI n) (hn : n ≤ 12) (hh : s_has x (B 8) = true) : CT G w gl (yX10_length, cX10_length, 2, some .int) 7 (0, 0) [.ref 0, .int x] (sput I 288 B cu) (qP (s_has x (B 8) = true) (s_of B x.toNatClampNeg 1) (sput I 288 B cu)) nX := by
  refine ct_of (by decide) [(0, .ref 0), (1, .int x)] rfl rfl (fun K hG hw hgl hwo hK => ?_)
  subst hG; subst hw; subst hgl
  have e2 : LR 288 2 = 299 := (hs.lr hwo).2.2.1
  have key : s_has x (B 8) = true → vp_in x 12 ∧ x.toNatClampNeg < n ∧ LR 299 x.toNatClampNeg = 288 + 12 + x.toNatClampNeg := fun h => by
    obtain ⟨l, hl, rfl⟩ := has_nat h8 (by omega) h
    have e := k_lr hwo hs (l := l) (by omega)
    rw [e2] at e
    exact ⟨vp_in_nI (by omega) (by omega), by rw [nI_clamp (by omega)]; exact hl, by rw [e, nI_clamp (by omega)]⟩
  refine bX10_length_0 hK hwo hx ⟨by decide, by decide⟩ (fun _ _ h => h) (d_requireLetter hx hs hh) (fun h => (key h).1) ⟨by decide, by decide⟩ (fun h => ?_)
  obtain ⟨-, hl, e⟩ := key h
  rw [e, spL (by omega) (by omega)]
  exact qP_i h rfl rfl
theorem d_arrival (hx : isT w 10 0) (hs : isT w 9 288) {x : Int32} {n : Nat} (h8 : B 8 = nI n) (hn : n ≤ 12) (hh : s_has x (B 8) = true) : CT G w gl (yX10_arrival, cX10_arrival, 2, some .int) 7 (0, 0) [.ref 0, .int x] (sput I 288 B cu) (qP (s_has x (B 8) = true) (s_of B x.toNatClampNeg 2) (sput I 288 B cu)) nX := by
  refine ct_of (by decide) [(0, .ref 0), (1, .int x)] rfl rfl (fun K hG hw hgl hwo hK => ?_)
  subst hG; subst hw; subst hgl
  have e2 : LR 288 2 = 299 := (hs.lr hwo).2.2.1
  have key : s_has x (B 8) = true → vp_in x 12 ∧ x.toNatClampNeg < n ∧ LR 299 x.toNatClampNeg = 288 + 12 + x.toNatClampNeg := fun h => by
    obtain ⟨l, hl, rfl⟩ := has_nat h8 (by omega) h
    have e := k_lr hwo hs (l := l) (by omega)
    rw [e2] at e
    exact ⟨vp_in_nI (by omega) (by omega), by rw [nI_clamp (by omega)]; exact hl, by rw [e, nI_clamp (by omega)]⟩
  refine bX10_arrival_0 hK hwo hx ⟨by decide, by decide⟩ (fun _ _ h => h) (d_requireLetter hx hs hh) (fun h => (key h).1) ⟨by decide, by decide⟩ (fun h => ?_)
  obtain ⟨-, hl, e⟩ := key h
  rw [e, spL (by omega) (by omega)]
  exact qP_i h rfl rfl
theorem d_deadline (hx : isT w 10 0) (hs : isT w 9 288) {x : Int32} {n : Nat} (h8 : B 8 = nI n) (hn : n ≤ 12) (hh : s_has x (B 8) = true) : CT G w gl (yX10_deadline, cX10_deadline, 2, some .int) 7 (0, 0) [.ref 0, .int x] (sput I 288 B cu) (qP (s_has x (B 8) = true) (s_of B x.toNatClampNeg 3) (sput I 288 B cu)) nX := by
  refine ct_of (by decide) [(0, .ref 0), (1, .int x)] rfl rfl (fun K hG hw hgl hwo hK => ?_)
  subst hG; subst hw; subst hgl
  have e2 : LR 288 2 = 299 := (hs.lr hwo).2.2.1
  have key : s_has x (B 8) = true → vp_in x 12 ∧ x.toNatClampNeg < n ∧ LR 299 x.toNatClampNeg = 288 + 12 + x.toNatClampNeg := fun h => by
    obtain ⟨l, hl, rfl⟩ := has_nat h8 (by omega) h
    have e := k_lr hwo hs (l := l) (by omega)
    rw [e2] at e
    exact ⟨vp_in_nI (by omega) (by omega), by rw [nI_clamp (by omega)]; exact hl, by rw [e, nI_clamp (by omega)]⟩
  refine bX10_deadline_0 hK hwo hx ⟨by decide, by decide⟩ (fun _ _ h => h) (d_requireLetter hx hs hh) (fun h => (key h).1) ⟨by decide, by decide⟩ (fun h => ?_)
  obtain ⟨-, hl, e⟩ := key h
  rw [e, spL (by omega) (by omega)]
  exact qP_i h rfl rfl
theorem d_priority (hx : isT w 10 0) (hs : isT w 9 288) {x : Int32} {n : Nat} (h8 : B 8 = nI n) (hn : n ≤ 12) (hh : s_has x (B 8) = true) : CT G w gl (yX10_priority, cX10_priority, 2, some .int) 7 (0, 0) [.ref 0, .int x] (sput I 288 B cu) (qP (s_has x (B 8) = true) (s_of B x.toNatClampNeg 4) (sput I 288 B cu)) nX := by
  refine ct_of (by decide) [(0, .ref 0), (1, .int x)] rfl rfl (fun K hG hw hgl hwo hK => ?_)
  subst hG; subst hw; subst hgl
  have e2 : LR 288 2 = 299 := (hs.lr hwo).2.2.1
  have key : s_has x (B 8) = true → vp_in x 12 ∧ x.toNatClampNeg < n ∧ LR 299 x.toNatClampNeg = 288 + 12 + x.toNatClampNeg := fun h => by
    obtain ⟨l, hl, rfl⟩ := has_nat h8 (by omega) h
    have e := k_lr hwo hs (l := l) (by omega)
    rw [e2] at e
    exact ⟨vp_in_nI (by omega) (by omega), by rw [nI_clamp (by omega)]; exact hl, by rw [e, nI_clamp (by omega)]⟩
  refine bX10_priority_0 hK hwo hx ⟨by decide, by decide⟩ (fun _ _ h => h) (d_requireLetter hx hs hh) (fun h => (key h).1) ⟨by decide, by decide⟩ (fun h => ?_)
  obtain ⟨-, hl, e⟩ := key h
  rw [e, spL (by omega) (by omega)]
  exact qP_i h rfl rfl
theorem d_remaining (hx : isT w 10 0) (hs : isT w 9 288) {x : Int32} {n : Nat} (h8 : B 8 = nI n) (hn : n ≤ 12) (hh : s_has x (B 8) = true) : CT G w gl (yX10_remaining, cX10_remaining, 2, some .int) 7 (0, 0) [.ref 0, .int x] (sput I 288 B cu) (qP (s_has x (B 8) = true) (s_of B x.toNatClampNeg 5) (sput I 288 B cu)) nX := by
  refine ct_of (by decide) [(0, .ref 0), (1, .int x)] rfl rfl (fun K hG hw hgl hwo hK => ?_)
  subst hG; subst hw; subst hgl
  have e2 : LR 288 2 = 299 := (hs.lr hwo).2.2.1
  have key : s_has x (B 8) = true → vp_in x 12 ∧ x.toNatClampNeg < n ∧ LR 299 x.toNatClampNeg = 288 + 12 + x.toNatClampNeg := fun h => by
    obtain ⟨l, hl, rfl⟩ := has_nat h8 (by omega) h
    have e := k_lr hwo hs (l := l) (by omega)
    rw [e2] at e
    exact ⟨vp_in_nI (by omega) (by omega), by rw [nI_clamp (by omega)]; exact hl, by rw [e, nI_clamp (by omega)]⟩
  refine bX10_remaining_0 hK hwo hx ⟨by decide, by decide⟩ (fun _ _ h => h) (d_requireLetter hx hs hh) (fun h => (key h).1) ⟨by decide, by decide⟩ (fun h => ?_)
  obtain ⟨-, hl, e⟩ := key h
  rw [e, spL (by omega) (by omega)]
  exact qP_i h rfl rfl
theorem d_finishMinute (hx : isT w 10 0) (hs : isT w 9 288) {x : Int32} {n : Nat} (h8 : B 8 = nI n) (hn : n ≤ 12) (hh : s_has x (B 8) = true) : CT G w gl (yX10_finishMinute, cX10_finishMinute, 2, some .int) 7 (0, 0) [.ref 0, .int x] (sput I 288 B cu) (qP (s_has x (B 8) = true) (s_of B x.toNatClampNeg 6) (sput I 288 B cu)) nX := by
  refine ct_of (by decide) [(0, .ref 0), (1, .int x)] rfl rfl (fun K hG hw hgl hwo hK => ?_)
  subst hG; subst hw; subst hgl
  have e2 : LR 288 2 = 299 := (hs.lr hwo).2.2.1
  have key : s_has x (B 8) = true → vp_in x 12 ∧ x.toNatClampNeg < n ∧ LR 299 x.toNatClampNeg = 288 + 12 + x.toNatClampNeg := fun h => by
    obtain ⟨l, hl, rfl⟩ := has_nat h8 (by omega) h
    have e := k_lr hwo hs (l := l) (by omega)
    rw [e2] at e
    exact ⟨vp_in_nI (by omega) (by omega), by rw [nI_clamp (by omega)]; exact hl, by rw [e, nI_clamp (by omega)]⟩
  refine bX10_finishMinute_0 hK hwo hx ⟨by decide, by decide⟩ (fun _ _ h => h) (d_requireLetter hx hs hh) (fun h => (key h).1) ⟨by decide, by decide⟩ (fun h => ?_)
  obtain ⟨-, hl, e⟩ := key h
  rw [e, spL (by omega) (by omega)]
  exact qP_i h rfl rfl
theorem d_waitingTime (hx : isT w 10 0) (hs : isT w 9 288) {x : Int32} {n : Nat} (h8 : B 8 = nI n) (hn : n ≤ 12) (hh : s_has x (B 8) = true) : CT G w gl (yX10_waitingTime, cX10_waitingTime, 2, some .int) 7 (0, 0) [.ref 0, .int x] (sput I 288 B cu) (qP (s_has x (B 8) = true) (s_waited B x.toNatClampNeg) (sput I 288 B cu)) nX := by
  refine ct_of (by decide) [(0, .ref 0), (1, .int x)] rfl rfl (fun K hG hw hgl hwo hK => ?_)
  subst hG; subst hw; subst hgl
  have e2 : LR 288 2 = 299 := (hs.lr hwo).2.2.1
  have key : s_has x (B 8) = true → vp_in x 12 ∧ x.toNatClampNeg < n ∧ LR 299 x.toNatClampNeg = 288 + 12 + x.toNatClampNeg := fun h => by
    obtain ⟨l, hl, rfl⟩ := has_nat h8 (by omega) h
    have e := k_lr hwo hs (l := l) (by omega)
    rw [e2] at e
    exact ⟨vp_in_nI (by omega) (by omega), by rw [nI_clamp (by omega)]; exact hl, by rw [e, nI_clamp (by omega)]⟩
  refine bX10_waitingTime_0 (f3 := s_waited B x.toNatClampNeg) (g3 := sput I 288 B cu) hK hwo hx ⟨by decide, by decide⟩ (fun _ _ h => h) (d_requireLetter hx hs hh) (fun h => (key h).1) ⟨by decide, by decide⟩ (fun h => ?_) ⟨by decide, by decide⟩ (fun h => qP_i h rfl rfl)
  obtain ⟨-, hl, e⟩ := key h
  rw [e, sp4]
  exact k_waitedAt hs (by omega)
theorem d_effectivePriority (hx : isT w 10 0) (hs : isT w 9 288) {x : Int32} {n : Nat} (h8 : B 8 = nI n) (hn : n ≤ 12) (h5 : 1 ≤ B 5) (hh : s_has x (B 8) = true) : CT G w gl (yX10_effectivePriority, cX10_effectivePriority, 2, some .int) 7 (0, 0) [.ref 0, .int x] (sput I 288 B cu) (qP (s_has x (B 8) = true) (s_urg B x.toNatClampNeg) (sput I 288 B cu)) nX := by
  refine ct_of (by decide) [(0, .ref 0), (1, .int x)] rfl rfl (fun K hG hw hgl hwo hK => ?_)
  subst hG; subst hw; subst hgl
  have e2 : LR 288 2 = 299 := (hs.lr hwo).2.2.1
  have key : s_has x (B 8) = true → vp_in x 12 ∧ x.toNatClampNeg < n ∧ LR 299 x.toNatClampNeg = 288 + 12 + x.toNatClampNeg := fun h => by
    obtain ⟨l, hl, rfl⟩ := has_nat h8 (by omega) h
    have e := k_lr hwo hs (l := l) (by omega)
    rw [e2] at e
    exact ⟨vp_in_nI (by omega) (by omega), by rw [nI_clamp (by omega)]; exact hl, by rw [e, nI_clamp (by omega)]⟩
  have e1 : LR 288 0 = 289 := (hs.lr hwo).1
  refine bX10_effectivePriority_0 (f4 := s_waited B x.toNatClampNeg) (g4 := sput I 288 B cu) hK hwo hx ⟨by decide, by decide⟩ (fun _ _ h => h) (d_requireLetter hx hs hh) (fun h => (key h).1) (fun h => (key h).1) ⟨by decide, by decide⟩ (fun h => ?_) ⟨by decide, by decide⟩ (fun h => ?_) ⟨by decide, by decide⟩ (fun h => qP_i h rfl rfl)
  · obtain ⟨-, hl, e⟩ := key h
    rw [e, sp4]
    exact k_waitedAt hs (by omega)
  · obtain ⟨-, hl, e⟩ := key h
    rw [e, spL (by omega) (by omega)]
    exact k_effective hs h5
theorem d_isReady (hx : isT w 10 0) (hs : isT w 9 288) {x : Int32} {n : Nat} (h8 : B 8 = nI n) (hn : n ≤ 12) (h0 : ∀ l, l < n → 0 ≤ s_of B l 5) (hh : s_has x (B 8) = true) : CT G w gl (yX10_isReady, cX10_isReady, 2, some .boolean) 7 (0, 0) [.ref 0, .int x] (sput I 288 B cu) (qP (s_has x (B 8) = true) (b2 (s_open B x.toNatClampNeg)) (sput I 288 B cu)) nX := by
  refine ct_of (by decide) [(0, .ref 0), (1, .int x)] rfl rfl (fun K hG hw hgl hwo hK => ?_)
  subst hG; subst hw; subst hgl
  have e2 : LR 288 2 = 299 := (hs.lr hwo).2.2.1
  have key : s_has x (B 8) = true → vp_in x 12 ∧ x.toNatClampNeg < n ∧ LR 299 x.toNatClampNeg = 288 + 12 + x.toNatClampNeg := fun h => by
    obtain ⟨l, hl, rfl⟩ := has_nat h8 (by omega) h
    have e := k_lr hwo hs (l := l) (by omega)
    rw [e2] at e
    exact ⟨vp_in_nI (by omega) (by omega), by rw [nI_clamp (by omega)]; exact hl, by rw [e, nI_clamp (by omega)]⟩
  refine bX10_isReady_0 hK hwo hx ⟨by decide, by decide⟩ (fun _ _ h => h) (d_requireLetter hx hs hh) (fun h => (key h).1) ⟨by decide, by decide⟩ (fun h => ?_) ⟨by decide, by decide⟩ (fun h => qP_i h rfl rfl) (fun _ => b2_01 _)
  obtain ⟨-, hl, e⟩ := key h
  rw [e, sp4]
  exact k_isReadyAt hs (by omega) (h0 _ hl)
theorem d_refuse : CT G w gl (yX10_refuse, cX10_refuse, 1, none) 6 (0, 0) [.ref 1003] I (qV (fun J => J = I ∧ True)) nX := by
  refine ct_of (by decide) [(0, .ref 1003)] rfl rfl (fun K hG hw hgl hwo hK => ?_)
  subst hG; subst hw; subst hgl
  exact nX10_refuse_0 hK hwo (Or.inr (fun s h => fun e => h.2.1.2.2.2.2.2.2.1 e.symm)) (fun _ => Or.inr (fun s h => fun e => h.2.1.2.2.2.2.2.2.2.2.1 e.symm)) (fun _ _ => Or.inr (fun s h => fun e => h.2.1.2.2.2.2.2.2.2.2.2 e.symm)) g0 (fun _ _ _ => ⟨rfl, rfl, trivial⟩) (fun _ _ c => absurd c (by decide)) (fun _ _ c => absurd c (by decide)) (fun _ c => absurd c (by decide)) (fun _ c => absurd c (by decide)) (fun c => absurd c (by decide)) (fun c => absurd c (by decide))
theorem d_selectedBy (hx : isT w 10 0) (hs : isT w 9 288) {n c t p : Nat} (hf : s_wf B n c t) (hp : p < 5) : CT G w gl (yX10_selectedBy, cX10_selectedBy, 2, some .int) 7 (0, 0) [.ref 0, .int (nI p)] (sput I 288 B (s_cur B)) (qE (s_select B n p) (sput I 288 B (s_cur B))) nX := by
  refine ct_of (by decide) [(0, .ref 0), (1, .int (nI p))] rfl rfl (fun K hG hw hgl hwo hK => ?_)
  subst hG; subst hw; subst hgl
  have h : s_in (nI p) 0 4 = true := by
    unfold s_in
    rw [Bool.and_eq_true]
    exact ⟨decide_eq_true (nI_pos' (by omega)), decide_eq_true (nI_le (a := p) (b := 4) (by omega) (by omega))⟩
  refine bX10_selectedBy_0 hK hwo hx (f1 := 1003) (g1 := sput I 288 B (s_cur B)) (p2 := True) (g2 := sput I 288 B (s_cur B)) (x2 := nX) (mc2 := (0, 0)) g0 (by have h2 := c_policyFault (G := kG K) (w := kw K) (gl := kl K) (I := sput I 288 B (s_cur B)) (x := nI p); rw [if_pos h] at h2; exact h2) g0 (fun _ _ q => q.elim) d_refuse g0 (fun _ => k_selectBy hs hf hp) g0 (fun _ => qE_i rfl rfl)
end GET0
