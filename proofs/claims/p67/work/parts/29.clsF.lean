/-! THE OFFICE: what its calls ask -/
abbrev sI : String := "java/lang/IndexOutOfBoundsException"
abbrev sA : String := "java/lang/IllegalArgumentException"
abbrev sS : String := "java/lang/IllegalStateException"
def s_in (x lo hi : Int32) : Bool := decide (lo ≤ x) && decide (x ≤ hi)
def s_has (x m : Int32) : Bool := decide (0 ≤ x) && decide (x < m)
/-- ends: the answer where p holds; else the class E is thrown -/
def qP (p : Prop) (x : Int32) (J : zM) : Option Value → zM → Prop := fun v K => p ∧ qE x J v K
def xP (p : Prop) (E : String) (J : zM) : String → zM → Prop := fun e K => ¬ p ∧ e = E ∧ K = J
theorem qP_i {p : Prop} {x y : Int32} {I J : zM} (hp : p) (h : x = y) (h2 : J = I) : qP p y I (some (.int x)) J := ⟨hp, qE_i h h2⟩
theorem has_nat {x m : Int32} {n : Nat} (hm : m = nI n) (hn : n < 2 ^ 31) (h : s_has x m = true) : ∃ l, l < n ∧ x = nI l := by
  unfold s_has at h
  rw [Bool.and_eq_true] at h
  have h0 : 0 ≤ x := of_decide_eq_true h.1
  have h1 : x < nI n := by rw [← hm]; exact of_decide_eq_true h.2
  obtain ⟨j, -, rfl⟩ := i_of (nI_toInt hn) h0 (Int32.le_of_lt h1)
  by_cases hj : j < 2 ^ 31
  · exact ⟨j, (nI_ltI hj hn).mp h1, rfl⟩
  · obtain ⟨i, hi, e⟩ := i_of (nI_toInt hn) h0 (Int32.le_of_lt h1)
    rw [e] at h1 ⊢
    exact ⟨i, (nI_ltI (by omega) hn).mp h1, rfl⟩
def fE (f : Nat) : String := if f = 1000 then sI else if f = 1001 then sA else sS
section CLF
variable {G : zG} {w : Nat × Nat} {gl : Launch} {I : zM} {B : zBk} {cu : Int32}
theorem c_outside {x lo hi : Int32} : CT G w gl (yX10_outside, cX10_outside, 3, some .boolean) 0 (0, 0) [.int x, .int lo, .int hi] I (qE (b2 (!s_in x lo hi)) I) nX := by
  refine ct_of (by decide) [(0, .int x), (1, .int lo), (2, .int hi)] rfl rfl (fun K hG hw hgl hwo hK => ?_)
  subst hG; subst hw; subst hgl
  refine bX10_outside_0 hK hwo ?_ ?_ ?_
  · intro c; exact qE_i (by have h := Int32.not_le.mpr c; simp [s_in, h, b2]) rfl
  · intro c d; exact qE_i (by have h := Int32.not_lt.mp c; simp [s_in, h, d, b2]) rfl
  · intro c d; exact qE_i (by have h := Int32.not_lt.mp c; simp [s_in, d, b2]) rfl
theorem c_refuse {f : Nat} (hf : f = 1000 ∨ f = 1001 ∨ f = 1002 ∨ f = 1003) : CT G w gl (yX10_refuse, cX10_refuse, 1, none) 6 (1, 6) [.ref f] I (qV (fun J => J = I ∧ f = 1003)) (fun E J => f ≠ 1003 ∧ E = fE f ∧ J = I) := by
  refine ct_of (by decide) [(0, .ref f)] rfl rfl (fun K hG hw hgl hwo hK => ?_)
  subst hG; subst hw; subst hgl
  have h1 : (0, 0).1 + 1 ≤ ((1, 6) : Nat × Nat).1 ∧ (0, 0).2 + 6 ≤ ((1, 6) : Nat × Nat).2 := ⟨by decide, by decide⟩
  have h0 : (0, 0).1 ≤ ((1, 6) : Nat × Nat).1 ∧ (0, 0).2 ≤ ((1, 6) : Nat × Nat).2 := ⟨by decide, by decide⟩
  rcases hf with rfl | rfl | rfl | rfl
  · exact bX10_refuse_0 hK hwo (Or.inl rfl) (fun c => absurd rfl c) (fun c => absurd rfl c) h0 (fun c => absurd rfl c) h1 (fun c => absurd rfl c) h1 (fun c => absurd rfl c) h1 (fun _ => ⟨by decide, rfl, rfl⟩)
  · exact bX10_refuse_0 hK hwo (Or.inr (fun s h => fun e => h.2.1.2.2.2.2.1 e.symm)) (fun _ => Or.inl rfl) (fun _ c => absurd rfl c) h0 (fun _ c => absurd rfl c) h1 (fun _ c => absurd rfl c) h1 (fun _ _ => ⟨by decide, rfl, rfl⟩) h1 (fun c => absurd c (by decide))
  · exact bX10_refuse_0 hK hwo (Or.inr (fun s h => fun e => h.2.1.2.2.2.2.2.1 e.symm)) (fun _ => Or.inr (fun s h => fun e => h.2.1.2.2.2.2.2.2.2.1 e.symm)) (fun _ _ => Or.inl rfl) h0 (fun _ _ c => absurd rfl c) h1 (fun _ _ _ => ⟨by decide, rfl, rfl⟩) h1 (fun _ c => absurd c (by decide)) h1 (fun c => absurd c (by decide))
  · exact bX10_refuse_0 hK hwo (Or.inr (fun s h => fun e => h.2.1.2.2.2.2.2.2.1 e.symm)) (fun _ => Or.inr (fun s h => fun e => h.2.1.2.2.2.2.2.2.2.2.1 e.symm)) (fun _ _ => Or.inr (fun s h => fun e => h.2.1.2.2.2.2.2.2.2.2.2 e.symm)) h0 (fun _ _ _ => ⟨rfl, rfl, rfl⟩) h1 (fun _ _ c => absurd c (by decide)) h1 (fun _ c => absurd c (by decide)) h1 (fun c => absurd c (by decide))
theorem b2t {b : Bool} : (b2 b = 0) = (b = false) := propext b2_0
theorem c_requireLetter (hx : isT w 10 0) (hs : isT w 9 288) {x : Int32} : CT G w gl (yX10_requireLetter, cX10_requireLetter, 2, none) 6 (1, 6) [.ref 0, .int x] (sput I 288 B cu) (qV (fun J => J = sput I 288 B cu ∧ s_has x (B 8) = true)) (xP (s_has x (B 8) = true) sI (sput I 288 B cu)) := by
  refine ct_of (by decide) [(0, .ref 0), (1, .int x)] rfl rfl (fun K hG hw hgl hwo hK => ?_)
  subst hG; subst hw; subst hgl
  refine bX10_requireLetter_0 hK hwo hx ⟨by decide, by decide⟩ (k_hasLetter hs) ⟨by decide, by decide⟩ ?_ ⟨by decide, by decide⟩ ?_
  · intro c; exact ⟨rfl, rfl, b2_n0.mp c⟩
  · intro c; exact ⟨fun h => absurd (h.symm.trans (b2_0.mp c)) (by decide), rfl, rfl⟩
theorem c_clerkCount (hx : isT w 10 0) : CT G w gl (yX10_clerkCount, cX10_clerkCount, 1, some .int) 0 (0, 0) [.ref 0] I (qE (I 290 0) I) nX := by
  refine ct_of (by decide) [(0, .ref 0)] rfl rfl (fun K hG hw hgl hwo hK => ?_)
  subst hG; subst hw; subst hgl
  exact bX10_clerkCount_0 hK hwo hx (qE_i rfl rfl)
theorem c_letterCount (hx : isT w 10 0) : CT G w gl (yX10_letterCount, cX10_letterCount, 1, some .int) 0 (0, 0) [.ref 0] I (qE (I 288 3) I) nX := by
  refine ct_of (by decide) [(0, .ref 0)] rfl rfl (fun K hG hw hgl hwo hK => ?_)
  subst hG; subst hw; subst hgl
  exact bX10_letterCount_0 hK hwo hx (qE_i rfl rfl)
theorem c_minute (hx : isT w 10 0) : CT G w gl (yX10_minute, cX10_minute, 1, some .int) 0 (0, 0) [.ref 0] I (qE (I 288 4) I) nX := by
  refine ct_of (by decide) [(0, .ref 0)] rfl rfl (fun K hG hw hgl hwo hK => ?_)
  subst hG; subst hw; subst hgl
  exact bX10_minute_0 hK hwo hx (qE_i rfl rfl)
theorem c_policy (hx : isT w 10 0) : CT G w gl (yX10_policy, cX10_policy, 1, some .int) 0 (0, 0) [.ref 0] I (qE (I 288 5) I) nX := by
  refine ct_of (by decide) [(0, .ref 0)] rfl rfl (fun K hG hw hgl hwo hK => ?_)
  subst hG; subst hw; subst hgl
  exact bX10_policy_0 hK hwo hx (qE_i rfl rfl)
theorem c_holder (hx : isT w 10 0) : CT G w gl (yX10_holder, cX10_holder, 1, some .int) 0 (0, 0) [.ref 0] I (qE (I 288 6) I) nX := by
  refine ct_of (by decide) [(0, .ref 0)] rfl rfl (fun K hG hw hgl hwo hK => ?_)
  subst hG; subst hw; subst hgl
  exact bX10_holder_0 hK hwo hx (qE_i rfl rfl)
theorem c_currentLetter (hx : isT w 10 0) : CT G w gl (yX10_currentLetter, cX10_currentLetter, 1, some .int) 0 (0, 0) [.ref 0] I (qE (I 288 7) I) nX := by
  refine ct_of (by decide) [(0, .ref 0)] rfl rfl (fun K hG hw hgl hwo hK => ?_)
  subst hG; subst hw; subst hgl
  exact bX10_currentLetter_0 hK hwo hx (qE_i rfl rfl)
theorem c_lastLetter (hx : isT w 10 0) : CT G w gl (yX10_lastLetter, cX10_lastLetter, 1, some .int) 0 (0, 0) [.ref 0] I (qE (I 288 8) I) nX := by
  refine ct_of (by decide) [(0, .ref 0)] rfl rfl (fun K hG hw hgl hwo hK => ?_)
  subst hG; subst hw; subst hgl
  exact bX10_lastLetter_0 hK hwo hx (qE_i rfl rfl)
theorem c_runLength (hx : isT w 10 0) : CT G w gl (yX10_runLength, cX10_runLength, 1, some .int) 0 (0, 0) [.ref 0] I (qE (I 288 9) I) nX := by
  refine ct_of (by decide) [(0, .ref 0)] rfl rfl (fun K hG hw hgl hwo hK => ?_)
  subst hG; subst hw; subst hgl
  exact bX10_runLength_0 hK hwo hx (qE_i rfl rfl)
theorem c_ink (hx : isT w 10 0) : CT G w gl (yX10_ink, cX10_ink, 1, some .int) 0 (0, 0) [.ref 0] I (qE (I 288 10) I) nX := by
  refine ct_of (by decide) [(0, .ref 0)] rfl rfl (fun K hG hw hgl hwo hK => ?_)
  subst hG; subst hw; subst hgl
  exact bX10_ink_0 hK hwo hx (qE_i rfl rfl)
theorem c_refillLeft (hx : isT w 10 0) : CT G w gl (yX10_refillLeft, cX10_refillLeft, 1, some .int) 0 (0, 0) [.ref 0] I (qE (I 288 11) I) nX := by
  refine ct_of (by decide) [(0, .ref 0)] rfl rfl (fun K hG hw hgl hwo hK => ?_)
  subst hG; subst hw; subst hgl
  exact bX10_refillLeft_0 hK hwo hx (qE_i rfl rfl)
theorem c_handOverLeft (hx : isT w 10 0) : CT G w gl (yX10_handOverLeft, cX10_handOverLeft, 1, some .int) 0 (0, 0) [.ref 0] I (qE (I 288 12) I) nX := by
  refine ct_of (by decide) [(0, .ref 0)] rfl rfl (fun K hG hw hgl hwo hK => ?_)
  subst hG; subst hw; subst hgl
  exact bX10_handOverLeft_0 hK hwo hx (qE_i rfl rfl)
theorem c_blots (hx : isT w 10 0) : CT G w gl (yX10_blots, cX10_blots, 1, some .int) 0 (0, 0) [.ref 0] I (qE (I 288 13) I) nX := by
  refine ct_of (by decide) [(0, .ref 0)] rfl rfl (fun K hG hw hgl hwo hK => ?_)
  subst hG; subst hw; subst hgl
  exact bX10_blots_0 hK hwo hx (qE_i rfl rfl)
theorem c_handOvers (hx : isT w 10 0) : CT G w gl (yX10_handOvers, cX10_handOvers, 1, some .int) 0 (0, 0) [.ref 0] I (qE (I 288 14) I) nX := by
  refine ct_of (by decide) [(0, .ref 0)] rfl rfl (fun K hG hw hgl hwo hK => ?_)
  subst hG; subst hw; subst hgl
  exact bX10_handOvers_0 hK hwo hx (qE_i rfl rfl)
theorem c_writtenMinutes (hx : isT w 10 0) : CT G w gl (yX10_writtenMinutes, cX10_writtenMinutes, 1, some .int) 0 (0, 0) [.ref 0] I (qE (I 288 15) I) nX := by
  refine ct_of (by decide) [(0, .ref 0)] rfl rfl (fun K hG hw hgl hwo hK => ?_)
  subst hG; subst hw; subst hgl
  exact bX10_writtenMinutes_0 hK hwo hx (qE_i rfl rfl)
theorem c_idleMinutes (hx : isT w 10 0) : CT G w gl (yX10_idleMinutes, cX10_idleMinutes, 1, some .int) 0 (0, 0) [.ref 0] I (qE (I 288 16) I) nX := by
  refine ct_of (by decide) [(0, .ref 0)] rfl rfl (fun K hG hw hgl hwo hK => ?_)
  subst hG; subst hw; subst hgl
  exact bX10_idleMinutes_0 hK hwo hx (qE_i rfl rfl)
theorem c_inconsistencies (hx : isT w 10 0) : CT G w gl (yX10_inconsistencies, cX10_inconsistencies, 1, some .int) 0 (0, 0) [.ref 0] I (qE (I 288 4 - I 288 15 - I 288 16 - I 288 17 - I 288 18) I) nX := by
  refine ct_of (by decide) [(0, .ref 0)] rfl rfl (fun K hG hw hgl hwo hK => ?_)
  subst hG; subst hw; subst hgl
  exact bX10_inconsistencies_0 hK hwo hx (qE_i rfl rfl)
theorem c_clerkOf (hx : isT w 10 0) (hs : isT w 9 288) {x : Int32} {n : Nat} (h8 : B 8 = nI n) (hn : n ≤ 12) : CT G w gl (yX10_clerkOf, cX10_clerkOf, 2, some .int) 7 (1, 6) [.ref 0, .int x] (sput I 288 B cu) (qP (s_has x (B 8) = true) (s_of B x.toNatClampNeg 0) (sput I 288 B cu)) (xP (s_has x (B 8) = true) sI (sput I 288 B cu)) := by
  refine ct_of (by decide) [(0, .ref 0), (1, .int x)] rfl rfl (fun K hG hw hgl hwo hK => ?_)
  subst hG; subst hw; subst hgl
  have e2 : LR 288 2 = 299 := (hs.lr hwo).2.2.1
  have key : s_has x (B 8) = true → vp_in x 12 ∧ x.toNatClampNeg < n ∧ LR 299 x.toNatClampNeg = 288 + 12 + x.toNatClampNeg := fun h => by
    obtain ⟨l, hl, rfl⟩ := has_nat h8 (by omega) h
    have e := k_lr hwo hs (l := l) (by omega)
    rw [e2] at e
    exact ⟨vp_in_nI (by omega) (by omega), by rw [nI_clamp (by omega)]; exact hl, by rw [e, nI_clamp (by omega)]⟩
  refine bX10_clerkOf_0 hK hwo hx ⟨by decide, by decide⟩ (fun _ _ h => h) (c_requireLetter hx hs) (fun h => (key h).1) ⟨by decide, by decide⟩ (fun h => ?_)
  obtain ⟨-, hl, e⟩ := key h
  rw [e, spL (by omega) (by omega)]
  exact qP_i h rfl rfl
theorem c_length (hx : isT w 10 0) (hs : isT w 9 288) {x : Int32} {n : Nat} (h8 : B 8 = nI n) (hn : n ≤ 12) : CT G w gl (yX10_length, cX10_length, 2, some .int) 7 (1, 6) [.ref 0, .int x] (sput I 288 B cu) (qP (s_has x (B 8) = true) (s_of B x.toNatClampNeg 1) (sput I 288 B cu)) (xP (s_has x (B 8) = true) sI (sput I 288 B cu)) := by
  refine ct_of (by decide) [(0, .ref 0), (1, .int x)] rfl rfl (fun K hG hw hgl hwo hK => ?_)
  subst hG; subst hw; subst hgl
  have e2 : LR 288 2 = 299 := (hs.lr hwo).2.2.1
  have key : s_has x (B 8) = true → vp_in x 12 ∧ x.toNatClampNeg < n ∧ LR 299 x.toNatClampNeg = 288 + 12 + x.toNatClampNeg := fun h => by
    obtain ⟨l, hl, rfl⟩ := has_nat h8 (by omega) h
    have e := k_lr hwo hs (l := l) (by omega)
    rw [e2] at e
    exact ⟨vp_in_nI (by omega) (by omega), by rw [nI_clamp (by omega)]; exact hl, by rw [e, nI_clamp (by omega)]⟩
  refine bX10_length_0 hK hwo hx ⟨by decide, by decide⟩ (fun _ _ h => h) (c_requireLetter hx hs) (fun h => (key h).1) ⟨by decide, by decide⟩ (fun h => ?_)
  obtain ⟨-, hl, e⟩ := key h
  rw [e, spL (by omega) (by omega)]
  exact qP_i h rfl rfl
theorem c_arrival (hx : isT w 10 0) (hs : isT w 9 288) {x : Int32} {n : Nat} (h8 : B 8 = nI n) (hn : n ≤ 12) : CT G w gl (yX10_arrival, cX10_arrival, 2, some .int) 7 (1, 6) [.ref 0, .int x] (sput I 288 B cu) (qP (s_has x (B 8) = true) (s_of B x.toNatClampNeg 2) (sput I 288 B cu)) (xP (s_has x (B 8) = true) sI (sput I 288 B cu)) := by
  refine ct_of (by decide) [(0, .ref 0), (1, .int x)] rfl rfl (fun K hG hw hgl hwo hK => ?_)
  subst hG; subst hw; subst hgl
  have e2 : LR 288 2 = 299 := (hs.lr hwo).2.2.1
  have key : s_has x (B 8) = true → vp_in x 12 ∧ x.toNatClampNeg < n ∧ LR 299 x.toNatClampNeg = 288 + 12 + x.toNatClampNeg := fun h => by
    obtain ⟨l, hl, rfl⟩ := has_nat h8 (by omega) h
    have e := k_lr hwo hs (l := l) (by omega)
    rw [e2] at e
    exact ⟨vp_in_nI (by omega) (by omega), by rw [nI_clamp (by omega)]; exact hl, by rw [e, nI_clamp (by omega)]⟩
  refine bX10_arrival_0 hK hwo hx ⟨by decide, by decide⟩ (fun _ _ h => h) (c_requireLetter hx hs) (fun h => (key h).1) ⟨by decide, by decide⟩ (fun h => ?_)
  obtain ⟨-, hl, e⟩ := key h
  rw [e, spL (by omega) (by omega)]
  exact qP_i h rfl rfl
theorem c_deadline (hx : isT w 10 0) (hs : isT w 9 288) {x : Int32} {n : Nat} (h8 : B 8 = nI n) (hn : n ≤ 12) : CT G w gl (yX10_deadline, cX10_deadline, 2, some .int) 7 (1, 6) [.ref 0, .int x] (sput I 288 B cu) (qP (s_has x (B 8) = true) (s_of B x.toNatClampNeg 3) (sput I 288 B cu)) (xP (s_has x (B 8) = true) sI (sput I 288 B cu)) := by
  refine ct_of (by decide) [(0, .ref 0), (1, .int x)] rfl rfl (fun K hG hw hgl hwo hK => ?_)
  subst hG; subst hw; subst hgl
  have e2 : LR 288 2 = 299 := (hs.lr hwo).2.2.1
  have key : s_has x (B 8) = true → vp_in x 12 ∧ x.toNatClampNeg < n ∧ LR 299 x.toNatClampNeg = 288 + 12 + x.toNatClampNeg := fun h => by
    obtain ⟨l, hl, rfl⟩ := has_nat h8 (by omega) h
    have e := k_lr hwo hs (l := l) (by omega)
    rw [e2] at e
    exact ⟨vp_in_nI (by omega) (by omega), by rw [nI_clamp (by omega)]; exact hl, by rw [e, nI_clamp (by omega)]⟩
  refine bX10_deadline_0 hK hwo hx ⟨by decide, by decide⟩ (fun _ _ h => h) (c_requireLetter hx hs) (fun h => (key h).1) ⟨by decide, by decide⟩ (fun h => ?_)
  obtain ⟨-, hl, e⟩ := key h
  rw [e, spL (by omega) (by omega)]
  exact qP_i h rfl rfl
theorem c_priority (hx : isT w 10 0) (hs : isT w 9 288) {x : Int32} {n : Nat} (h8 : B 8 = nI n) (hn : n ≤ 12) : CT G w gl (yX10_priority, cX10_priority, 2, some .int) 7 (1, 6) [.ref 0, .int x] (sput I 288 B cu) (qP (s_has x (B 8) = true) (s_of B x.toNatClampNeg 4) (sput I 288 B cu)) (xP (s_has x (B 8) = true) sI (sput I 288 B cu)) := by
  refine ct_of (by decide) [(0, .ref 0), (1, .int x)] rfl rfl (fun K hG hw hgl hwo hK => ?_)
  subst hG; subst hw; subst hgl
  have e2 : LR 288 2 = 299 := (hs.lr hwo).2.2.1
  have key : s_has x (B 8) = true → vp_in x 12 ∧ x.toNatClampNeg < n ∧ LR 299 x.toNatClampNeg = 288 + 12 + x.toNatClampNeg := fun h => by
    obtain ⟨l, hl, rfl⟩ := has_nat h8 (by omega) h
    have e := k_lr hwo hs (l := l) (by omega)
    rw [e2] at e
    exact ⟨vp_in_nI (by omega) (by omega), by rw [nI_clamp (by omega)]; exact hl, by rw [e, nI_clamp (by omega)]⟩
  refine bX10_priority_0 hK hwo hx ⟨by decide, by decide⟩ (fun _ _ h => h) (c_requireLetter hx hs) (fun h => (key h).1) ⟨by decide, by decide⟩ (fun h => ?_)
  obtain ⟨-, hl, e⟩ := key h
  rw [e, spL (by omega) (by omega)]
  exact qP_i h rfl rfl
theorem c_remaining (hx : isT w 10 0) (hs : isT w 9 288) {x : Int32} {n : Nat} (h8 : B 8 = nI n) (hn : n ≤ 12) : CT G w gl (yX10_remaining, cX10_remaining, 2, some .int) 7 (1, 6) [.ref 0, .int x] (sput I 288 B cu) (qP (s_has x (B 8) = true) (s_of B x.toNatClampNeg 5) (sput I 288 B cu)) (xP (s_has x (B 8) = true) sI (sput I 288 B cu)) := by
  refine ct_of (by decide) [(0, .ref 0), (1, .int x)] rfl rfl (fun K hG hw hgl hwo hK => ?_)
  subst hG; subst hw; subst hgl
  have e2 : LR 288 2 = 299 := (hs.lr hwo).2.2.1
  have key : s_has x (B 8) = true → vp_in x 12 ∧ x.toNatClampNeg < n ∧ LR 299 x.toNatClampNeg = 288 + 12 + x.toNatClampNeg := fun h => by
    obtain ⟨l, hl, rfl⟩ := has_nat h8 (by omega) h
    have e := k_lr hwo hs (l := l) (by omega)
    rw [e2] at e
    exact ⟨vp_in_nI (by omega) (by omega), by rw [nI_clamp (by omega)]; exact hl, by rw [e, nI_clamp (by omega)]⟩
  refine bX10_remaining_0 hK hwo hx ⟨by decide, by decide⟩ (fun _ _ h => h) (c_requireLetter hx hs) (fun h => (key h).1) ⟨by decide, by decide⟩ (fun h => ?_)
  obtain ⟨-, hl, e⟩ := key h
  rw [e, spL (by omega) (by omega)]
  exact qP_i h rfl rfl
theorem c_finishMinute (hx : isT w 10 0) (hs : isT w 9 288) {x : Int32} {n : Nat} (h8 : B 8 = nI n) (hn : n ≤ 12) : CT G w gl (yX10_finishMinute, cX10_finishMinute, 2, some .int) 7 (1, 6) [.ref 0, .int x] (sput I 288 B cu) (qP (s_has x (B 8) = true) (s_of B x.toNatClampNeg 6) (sput I 288 B cu)) (xP (s_has x (B 8) = true) sI (sput I 288 B cu)) := by
  refine ct_of (by decide) [(0, .ref 0), (1, .int x)] rfl rfl (fun K hG hw hgl hwo hK => ?_)
  subst hG; subst hw; subst hgl
  have e2 : LR 288 2 = 299 := (hs.lr hwo).2.2.1
  have key : s_has x (B 8) = true → vp_in x 12 ∧ x.toNatClampNeg < n ∧ LR 299 x.toNatClampNeg = 288 + 12 + x.toNatClampNeg := fun h => by
    obtain ⟨l, hl, rfl⟩ := has_nat h8 (by omega) h
    have e := k_lr hwo hs (l := l) (by omega)
    rw [e2] at e
    exact ⟨vp_in_nI (by omega) (by omega), by rw [nI_clamp (by omega)]; exact hl, by rw [e, nI_clamp (by omega)]⟩
  refine bX10_finishMinute_0 hK hwo hx ⟨by decide, by decide⟩ (fun _ _ h => h) (c_requireLetter hx hs) (fun h => (key h).1) ⟨by decide, by decide⟩ (fun h => ?_)
  obtain ⟨-, hl, e⟩ := key h
  rw [e, spL (by omega) (by omega)]
  exact qP_i h rfl rfl
theorem c_waitingTime (hx : isT w 10 0) (hs : isT w 9 288) {x : Int32} {n : Nat} (h8 : B 8 = nI n) (hn : n ≤ 12) : CT G w gl (yX10_waitingTime, cX10_waitingTime, 2, some .int) 7 (1, 6) [.ref 0, .int x] (sput I 288 B cu) (qP (s_has x (B 8) = true) (s_waited B x.toNatClampNeg) (sput I 288 B cu)) (xP (s_has x (B 8) = true) sI (sput I 288 B cu)) := by
  refine ct_of (by decide) [(0, .ref 0), (1, .int x)] rfl rfl (fun K hG hw hgl hwo hK => ?_)
  subst hG; subst hw; subst hgl
  have e2 : LR 288 2 = 299 := (hs.lr hwo).2.2.1
  have key : s_has x (B 8) = true → vp_in x 12 ∧ x.toNatClampNeg < n ∧ LR 299 x.toNatClampNeg = 288 + 12 + x.toNatClampNeg := fun h => by
    obtain ⟨l, hl, rfl⟩ := has_nat h8 (by omega) h
    have e := k_lr hwo hs (l := l) (by omega)
    rw [e2] at e
    exact ⟨vp_in_nI (by omega) (by omega), by rw [nI_clamp (by omega)]; exact hl, by rw [e, nI_clamp (by omega)]⟩
  refine bX10_waitingTime_0 (f3 := s_waited B x.toNatClampNeg) (g3 := sput I 288 B cu) hK hwo hx ⟨by decide, by decide⟩ (fun _ _ h => h) (c_requireLetter hx hs) (fun h => (key h).1) ⟨by decide, by decide⟩ (fun h => ?_) ⟨by decide, by decide⟩ (fun h => qP_i h rfl rfl)
  obtain ⟨-, hl, e⟩ := key h
  rw [e, sp4]
  exact k_waitedAt hs (by omega)
theorem c_effectivePriority (hx : isT w 10 0) (hs : isT w 9 288) {x : Int32} {n : Nat} (h8 : B 8 = nI n) (hn : n ≤ 12) (h5 : 1 ≤ B 5) : CT G w gl (yX10_effectivePriority, cX10_effectivePriority, 2, some .int) 7 (1, 6) [.ref 0, .int x] (sput I 288 B cu) (qP (s_has x (B 8) = true) (s_urg B x.toNatClampNeg) (sput I 288 B cu)) (xP (s_has x (B 8) = true) sI (sput I 288 B cu)) := by
  refine ct_of (by decide) [(0, .ref 0), (1, .int x)] rfl rfl (fun K hG hw hgl hwo hK => ?_)
  subst hG; subst hw; subst hgl
  have e2 : LR 288 2 = 299 := (hs.lr hwo).2.2.1
  have key : s_has x (B 8) = true → vp_in x 12 ∧ x.toNatClampNeg < n ∧ LR 299 x.toNatClampNeg = 288 + 12 + x.toNatClampNeg := fun h => by
    obtain ⟨l, hl, rfl⟩ := has_nat h8 (by omega) h
    have e := k_lr hwo hs (l := l) (by omega)
    rw [e2] at e
    exact ⟨vp_in_nI (by omega) (by omega), by rw [nI_clamp (by omega)]; exact hl, by rw [e, nI_clamp (by omega)]⟩
  have e1 : LR 288 0 = 289 := (hs.lr hwo).1
  refine bX10_effectivePriority_0 (f4 := s_waited B x.toNatClampNeg) (g4 := sput I 288 B cu) hK hwo hx ⟨by decide, by decide⟩ (fun _ _ h => h) (c_requireLetter hx hs) (fun h => (key h).1) (fun h => (key h).1) ⟨by decide, by decide⟩ (fun h => ?_) ⟨by decide, by decide⟩ (fun h => ?_) ⟨by decide, by decide⟩ (fun h => qP_i h rfl rfl)
  · obtain ⟨-, hl, e⟩ := key h
    rw [e, sp4]
    exact k_waitedAt hs (by omega)
  · obtain ⟨-, hl, e⟩ := key h
    rw [e, spL (by omega) (by omega)]
    exact k_effective hs h5
theorem c_isReady (hx : isT w 10 0) (hs : isT w 9 288) {x : Int32} {n : Nat} (h8 : B 8 = nI n) (hn : n ≤ 12) (h0 : ∀ l, l < n → 0 ≤ s_of B l 5) : CT G w gl (yX10_isReady, cX10_isReady, 2, some .boolean) 7 (1, 6) [.ref 0, .int x] (sput I 288 B cu) (qP (s_has x (B 8) = true) (b2 (s_open B x.toNatClampNeg)) (sput I 288 B cu)) (xP (s_has x (B 8) = true) sI (sput I 288 B cu)) := by
  refine ct_of (by decide) [(0, .ref 0), (1, .int x)] rfl rfl (fun K hG hw hgl hwo hK => ?_)
  subst hG; subst hw; subst hgl
  have e2 : LR 288 2 = 299 := (hs.lr hwo).2.2.1
  have key : s_has x (B 8) = true → vp_in x 12 ∧ x.toNatClampNeg < n ∧ LR 299 x.toNatClampNeg = 288 + 12 + x.toNatClampNeg := fun h => by
    obtain ⟨l, hl, rfl⟩ := has_nat h8 (by omega) h
    have e := k_lr hwo hs (l := l) (by omega)
    rw [e2] at e
    exact ⟨vp_in_nI (by omega) (by omega), by rw [nI_clamp (by omega)]; exact hl, by rw [e, nI_clamp (by omega)]⟩
  refine bX10_isReady_0 hK hwo hx ⟨by decide, by decide⟩ (fun _ _ h => h) (c_requireLetter hx hs) (fun h => (key h).1) ⟨by decide, by decide⟩ (fun h => ?_) ⟨by decide, by decide⟩ (fun h => qP_i h rfl rfl) (fun _ => b2_01 _)
  obtain ⟨-, hl, e⟩ := key h
  rw [e, sp4]
  exact k_isReadyAt hs (by omega) (h0 _ hl)
theorem c_readyCount (hx : isT w 10 0) (hs : isT w 9 288) {n : Nat} (h8 : B 8 = nI n) (hn : n ≤ 12) (h0 : ∀ l, l < n → 0 ≤ s_of B l 5) : CT G w gl (yX10_readyCount, cX10_readyCount, 1, some .int) 2 (0, 0) [.ref 0] (sput I 288 B cu) (qE (nI (s_cnt (s_open B) n)) (sput I 288 B cu)) nX := by
  refine ct_of (by decide) [(0, .ref 0)] rfl rfl (fun K hG hw hgl hwo hK => ?_)
  subst hG; subst hw; subst hgl
  exact bX10_readyCount_0 hK hwo hx (k_countReady hs h8 hn h0) (qE_i rfl rfl)
theorem c_finishedCount (hx : isT w 10 0) (hs : isT w 9 288) {n : Nat} (h8 : B 8 = nI n) (hn : n ≤ 12) (h0 : ∀ l, l < n → 0 ≤ s_of B l 5) : CT G w gl (yX10_finishedCount, cX10_finishedCount, 1, some .int) 1 (0, 0) [.ref 0] (sput I 288 B cu) (qE (B 8 - nI (s_cnt (fun l => !s_done B l) n)) (sput I 288 B cu)) nX := by
  refine ct_of (by decide) [(0, .ref 0)] rfl rfl (fun K hG hw hgl hwo hK => ?_)
  subst hG; subst hw; subst hgl
  exact bX10_finishedCount_0 hK hwo hx (k_countOpen hs h8 hn h0) (qE_i (by rw [sp3]) rfl)
theorem c_selectedLetter (hx : isT w 10 0) (hs : isT w 9 288) {n c t : Nat} (hf : s_wf B n c t) : CT G w gl (yX10_selectedLetter, cX10_selectedLetter, 1, some .int) 3 (0, 0) [.ref 0] (sput I 288 B (s_cur B)) (qE (s_select B n (s_pol B)) (sput I 288 B (s_cur B))) nX := by
  refine ct_of (by decide) [(0, .ref 0)] rfl rfl (fun K hG hw hgl hwo hK => ?_)
  subst hG; subst hw; subst hgl
  obtain ⟨p, hp, ep⟩ := hf.2.2.2.2.2.2.2.2.1
  have epol : s_pol B = p := by unfold s_pol; rw [ep]; exact nI_clamp (by omega)
  exact bX10_selectedLetter_0 hK hwo hx (by rw [sp5, ep, epol]; exact k_selectBy hs hf hp) (qE_i rfl rfl)
theorem c_policyFault {x : Int32} : CT G w gl (yX10_policyFault, cX10_policyFault, 1, some (.object "PenOffice$Fault")) 1 (0, 0) [.int x] I (qEr (if s_in x 0 4 = true then 1003 else 1001) I) nX := by
  refine ct_of (by decide) [(0, .int x)] rfl rfl (fun K hG hw hgl hwo hK => ?_)
  subst hG; subst hw; subst hgl
  refine bX10_policyFault_0 hK hwo c_outside ?_ ?_ <;> intro c
  · exact ⟨_, rfl, by rw [if_pos (by simpa using b2_0.mp c)], rfl⟩
  · exact ⟨_, rfl, by rw [if_neg (by have := b2_n0.mp c; simpa using this)], rfl⟩
theorem c_selectedBy (hx : isT w 10 0) (hs : isT w 9 288) {n c t : Nat} (hf : s_wf B n c t) {x : Int32} : CT G w gl (yX10_selectedBy, cX10_selectedBy, 2, some .int) 7 (1, 6) [.ref 0, .int x] (sput I 288 B (s_cur B)) (qP (s_in x 0 4 = true) (s_select B n x.toNatClampNeg) (sput I 288 B (s_cur B))) (xP (s_in x 0 4 = true) sA (sput I 288 B (s_cur B))) := by
  refine ct_of (by decide) [(0, .ref 0), (1, .int x)] rfl rfl (fun K hG hw hgl hwo hK => ?_)
  subst hG; subst hw; subst hgl
  by_cases h : s_in x 0 4 = true
  · have h9 := h
    unfold s_in at h9
    rw [Bool.and_eq_true] at h9
    obtain ⟨p, hp, ep⟩ := i_of (M := 4) (n := 4) (by decide) (of_decide_eq_true h9.1) (of_decide_eq_true h9.2)
    refine bX10_selectedBy_0 hK hwo hx (f1 := 1003) (g1 := sput I 288 B (s_cur B)) (p2 := True) (g2 := sput I 288 B (s_cur B)) (x2 := nX) (mc2 := (1, 6)) ⟨by decide, by decide⟩ (by have h2 := c_policyFault (G := kG K) (w := kw K) (gl := kl K) (I := sput I 288 B (s_cur B)) (x := x); rw [if_pos h] at h2; exact h2) ⟨by decide, by decide⟩ (fun _ _ q => q.elim) ((c_refuse (f := 1003) (by omega)).weak (fun v J q => ⟨q.1, q.2.1, trivial⟩) (fun E J q => absurd rfl q.1)) ⟨by decide, by decide⟩ (fun _ => by rw [ep]; exact k_selectBy hs hf (by omega)) ⟨by decide, by decide⟩ (fun _ => qP_i h (by rw [ep, nI_clamp (by omega)]) rfl)
  · refine bX10_selectedBy_0 hK hwo hx (f1 := 1001) (g1 := sput I 288 B (s_cur B)) (p2 := False) (g2 := sput I 288 B (s_cur B)) (x2 := xP (s_in x 0 4 = true) sA (sput I 288 B (s_cur B))) (mc2 := (1, 6)) (f3 := 0) (g3 := I) ⟨by decide, by decide⟩ (by have h2 := c_policyFault (G := kG K) (w := kw K) (gl := kl K) (I := sput I 288 B (s_cur B)) (x := x); rw [if_neg h] at h2; exact h2) ⟨by decide, by decide⟩ (fun _ _ q => q) ((c_refuse (f := 1001) (by omega)).weak (fun v J q => absurd q.2.2 (by decide)) (fun E J q => ⟨h, q.2.1, q.2.2⟩)) ⟨by decide, by decide⟩ (fun q => q.elim) ⟨by decide, by decide⟩ (fun q => q.elim)
end CLF
