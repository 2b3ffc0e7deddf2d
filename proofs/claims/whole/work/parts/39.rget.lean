/-! THE REFERENCE'S CALLS: reads -/
/-- the memory with the thrown code k -/
def mT (I : zM) (k : Nat) : zM := ups I 312 (upd (I 312) 9 (nI k))
def fk (v1 v2 v3 : Int32) : Nat := if v1 = 0 then (if v2 = 0 then (if v3 = 0 then 0 else 3) else 2) else 1
theorem mT_ne {I : zM} {k q : Nat} (h : q ≠ 312) : mT I k q = I q := ups_ne _ _ h
theorem mT_313 {I : zM} {k : Nat} : mT I k 313 = I 313 := ups_ne _ _ (by decide)
theorem mT_315 {I : zM} {k : Nat} : mT I k 315 = I 315 := ups_ne _ _ (by decide)
theorem mT_9 {I : zM} {k : Nat} : mT I k 312 9 = nI k := by unfold mT; rw [ups_same, upd_same]
theorem mT_312 {I : zM} {k j : Nat} (h : j ≠ 9) : mT I k 312 j = I 312 j := by unfold mT; rw [ups_same, upd_ne _ _ h]
theorem i_m1 {x : Int32} {n : Nat} (hn : n < 2 ^ 31) : x ≤ nI n - 1 ↔ x < nI n := by
  cases n with
  | zero =>
    have e : nI 0 - 1 = -1 := by decide
    rw [e, Int32.le_iff_toInt_le, Int32.lt_iff_toInt_lt]
    have h1 : (-1 : Int32).toInt = -1 := by decide
    have h2 : (nI 0).toInt = 0 := by decide
    rw [h1, h2]; omega
  | succ m =>
    rw [nI_pred, Int32.le_iff_toInt_le, Int32.lt_iff_toInt_lt, nI_toInt (by omega), nI_toInt hn]
    omega
theorem in_has {x : Int32} {n : Nat} (hn : n < 2 ^ 31) : s_in x 0 (nI n - 1) = s_has x (nI n) := by
  unfold s_in s_has
  rw [decide_eq_decide.mpr (i_m1 hn)]
/-- the best so far by lateness, as the reference keeps it -/
def s_lt (B : zBk) (l : Nat) : Int32 := s_of B l 6 - s_of B l 3
def s_gl (B : zBk) : Nat → Int32
  | 0 => -1
  | n + 1 => if s_done B n = true ∧ (s_gl B n = -1 ∨ s_lt B (s_gl B n).toNatClampNeg < s_lt B n) then nI n else s_gl B n
theorem s_gl_in (B : zBk) : ∀ n, s_gl B n = -1 ∨ ∃ l, l < n ∧ s_gl B n = nI l ∧ s_done B l = true
  | 0 => Or.inl rfl
  | n + 1 => by
    unfold s_gl
    by_cases h : s_done B n = true ∧ (s_gl B n = -1 ∨ s_lt B (s_gl B n).toNatClampNeg < s_lt B n)
    · rw [if_pos h]; exact Or.inr ⟨n, Nat.lt_succ_self n, rfl, h.1⟩
    · rw [if_neg h]
      rcases s_gl_in B n with h1 | ⟨l, h1, h2⟩
      · exact Or.inl h1
      · exact Or.inr ⟨l, Nat.lt_succ_of_lt h1, h2⟩
def s_work (B : zBk) (x : Int32) (n : Nat) : Int32 := s_sum (fun l => if s_of B l 0 = x then s_of B l 5 else 0) n
/-- the busiest of the clerks below c -/
def s_busy (B : zBk) (n : Nat) : Nat → Nat
  | 0 => 0
  | c + 1 => if s_work B (nI (s_busy B n c)) n < s_work B (nI c) n then c else s_busy B n c
theorem busy_lt (B : zBk) (n : Nat) : ∀ c, s_busy B n c ≤ c
  | 0 => Nat.le_refl _
  | c + 1 => by
    unfold s_busy
    have := busy_lt B n c
    split <;> omega
section RGA
variable {G : zG} {w : Nat × Nat} {gl : Launch} {I : zM}
theorem m_fails (hm : isT w 11 312) {v1 v2 v3 : Int32} : CT G w gl (yX11_fails, cX11_fails, 4, some .boolean) 0 (0, 0) [.ref 312, .int v1, .int v2, .int v3] I (qE (b2 (!decide (fk v1 v2 v3 = 0))) (mT I (fk v1 v2 v3))) nX := by
  refine ct_of (by decide) [(0, .ref 312), (1, .int v1), (2, .int v2), (3, .int v3)] rfl rfl (fun K hG hw hgl hwo hK => ?_)
  subst hG; subst hw; subst hgl
  have go : ∀ k : Nat, k < 4 → fk v1 v2 v3 = k → ZZ K (0, 0) 26 [(0, .ref 312), (1, .int v1), (2, .int v2), (3, .int v3)] [.int (nI k), .ref 312] I := fun k hk e => by
    have e9 : (up I 312 9 (nI k)) 312 9 = nI k := by rw [up_def, ups_same, upd_same]
    refine bX11_fails_26 hK hwo hm hm ?_ ?_ <;> rw [e9] <;> intro c <;> rw [e]
    · have h0 : k = 0 := by have := (nI_leI (a := k) (b := 0) (by omega) (by omega)).mp c; omega
      rw [h0]; exact qE_i rfl rfl
    · have h0 : k ≠ 0 := fun z => c (by rw [z]; exact Int32.le_refl _)
      rw [decide_eq_false h0]; exact qE_i rfl rfl
  refine bX11_fails_0 hK hwo hm (fun a b c => go 0 (by omega) (by unfold fk; rw [if_pos a, if_pos b, if_pos c])) (fun a b c => go 3 (by omega) (by unfold fk; rw [if_pos a, if_pos b, if_neg c])) (fun a b => go 2 (by omega) (by unfold fk; rw [if_pos a, if_neg b])) (fun a => go 1 (by omega) (by unfold fk; rw [if_neg a]))
theorem m_f0 (hm : isT w 11 312) : CT G w gl (yX11_fails, cX11_fails, 4, some .boolean) 0 (0, 0) [.ref 312, .int 0, .int 0, .int 0] I (qE 0 (mT I 0)) nX := m_fails hm
theorem m_f1 (hm : isT w 11 312) : CT G w gl (yX11_fails, cX11_fails, 4, some .boolean) 0 (0, 0) [.ref 312, .int 1, .int 0, .int 0] I (qE 1 (mT I 1)) nX := m_fails hm
theorem m_plain (hm : isT w 11 312) {x : Int32} : CT G w gl (yX11_plain, cX11_plain, 2, some .int) 0 (0, 0) [.ref 312, .int x] I (qE x (mT I 0)) nX := by
  refine ct_of (by decide) [(0, .ref 312), (1, .int x)] rfl rfl (fun K hG hw hgl hwo hK => ?_)
  subst hG; subst hw; subst hgl
  exact bX11_plain_0 hK hwo hm (qE_i rfl rfl)
theorem m_isClerk (hm : isT w 11 312) {x : Int32} {c : Nat} (h7 : I 313 7 = nI c) (hc : c ≤ 6) : CT G w gl (yX11_isClerk, cX11_isClerk, 2, some .boolean) 1 (0, 0) [.ref 312, .int x] I (qE (b2 (s_has x (I 313 7))) I) nX := by
  refine ct_of (by decide) [(0, .ref 312), (1, .int x)] rfl rfl (fun K hG hw hgl hwo hK => ?_)
  subst hG; subst hw; subst hgl
  exact bX11_isClerk_0 hK hwo hm m_in (qE_i (by rw [h7, in_has (by omega)]) rfl) (b2_01 _)
theorem m_isLetter (hm : isT w 11 312) {x : Int32} {n : Nat} (h8 : I 313 8 = nI n) (hn : n ≤ 12) : CT G w gl (yX11_isLetter, cX11_isLetter, 2, some .boolean) 1 (0, 0) [.ref 312, .int x] I (qE (b2 (s_has x (I 313 8))) I) nX := by
  refine ct_of (by decide) [(0, .ref 312), (1, .int x)] rfl rfl (fun K hG hw hgl hwo hK => ?_)
  subst hG; subst hw; subst hgl
  exact bX11_isLetter_0 hK hwo hm m_in (qE_i (by rw [h8, in_has (by omega)]) rfl) (b2_01 _)
theorem r_clerkCount (hm : isT w 11 312) : CT G w gl (yX11_clerkCount, cX11_clerkCount, 1, some .int) 1 (0, 0) [.ref 312] I (qE (I 313 7) (mT I 0)) nX := by
  refine ct_of (by decide) [(0, .ref 312)] rfl rfl (fun K hG hw hgl hwo hK => ?_)
  subst hG; subst hw; subst hgl
  exact bX11_clerkCount_0 hK hwo hm (m_plain hm) (qE_i rfl rfl)
theorem r_letterCount (hm : isT w 11 312) : CT G w gl (yX11_letterCount, cX11_letterCount, 1, some .int) 1 (0, 0) [.ref 312] I (qE (I 313 8) (mT I 0)) nX := by
  refine ct_of (by decide) [(0, .ref 312)] rfl rfl (fun K hG hw hgl hwo hK => ?_)
  subst hG; subst hw; subst hgl
  exact bX11_letterCount_0 hK hwo hm (m_plain hm) (qE_i rfl rfl)
theorem r_minute (hm : isT w 11 312) : CT G w gl (yX11_minute, cX11_minute, 1, some .int) 1 (0, 0) [.ref 312] I (qE (I 313 9) (mT I 0)) nX := by
  refine ct_of (by decide) [(0, .ref 312)] rfl rfl (fun K hG hw hgl hwo hK => ?_)
  subst hG; subst hw; subst hgl
  exact bX11_minute_0 hK hwo hm (m_plain hm) (qE_i rfl rfl)
theorem r_policy (hm : isT w 11 312) : CT G w gl (yX11_policy, cX11_policy, 1, some .int) 1 (0, 0) [.ref 312] I (qE (I 313 0) (mT I 0)) nX := by
  refine ct_of (by decide) [(0, .ref 312)] rfl rfl (fun K hG hw hgl hwo hK => ?_)
  subst hG; subst hw; subst hgl
  exact bX11_policy_0 hK hwo hm (m_plain hm) (qE_i rfl rfl)
theorem r_holder (hm : isT w 11 312) : CT G w gl (yX11_holder, cX11_holder, 1, some .int) 1 (0, 0) [.ref 312] I (qE (I 313 10) (mT I 0)) nX := by
  refine ct_of (by decide) [(0, .ref 312)] rfl rfl (fun K hG hw hgl hwo hK => ?_)
  subst hG; subst hw; subst hgl
  exact bX11_holder_0 hK hwo hm (m_plain hm) (qE_i rfl rfl)
theorem r_lastLetter (hm : isT w 11 312) : CT G w gl (yX11_lastLetter, cX11_lastLetter, 1, some .int) 1 (0, 0) [.ref 312] I (qE (I 313 11) (mT I 0)) nX := by
  refine ct_of (by decide) [(0, .ref 312)] rfl rfl (fun K hG hw hgl hwo hK => ?_)
  subst hG; subst hw; subst hgl
  exact bX11_lastLetter_0 hK hwo hm (m_plain hm) (qE_i rfl rfl)
theorem r_runLength (hm : isT w 11 312) : CT G w gl (yX11_runLength, cX11_runLength, 1, some .int) 1 (0, 0) [.ref 312] I (qE (I 313 12) (mT I 0)) nX := by
  refine ct_of (by decide) [(0, .ref 312)] rfl rfl (fun K hG hw hgl hwo hK => ?_)
  subst hG; subst hw; subst hgl
  exact bX11_runLength_0 hK hwo hm (m_plain hm) (qE_i rfl rfl)
theorem r_ink (hm : isT w 11 312) : CT G w gl (yX11_ink, cX11_ink, 1, some .int) 1 (0, 0) [.ref 312] I (qE (I 313 13) (mT I 0)) nX := by
  refine ct_of (by decide) [(0, .ref 312)] rfl rfl (fun K hG hw hgl hwo hK => ?_)
  subst hG; subst hw; subst hgl
  exact bX11_ink_0 hK hwo hm (m_plain hm) (qE_i rfl rfl)
theorem r_refillLeft (hm : isT w 11 312) : CT G w gl (yX11_refillLeft, cX11_refillLeft, 1, some .int) 1 (0, 0) [.ref 312] I (qE (I 313 14) (mT I 0)) nX := by
  refine ct_of (by decide) [(0, .ref 312)] rfl rfl (fun K hG hw hgl hwo hK => ?_)
  subst hG; subst hw; subst hgl
  exact bX11_refillLeft_0 hK hwo hm (m_plain hm) (qE_i rfl rfl)
theorem r_handOverLeft (hm : isT w 11 312) : CT G w gl (yX11_handOverLeft, cX11_handOverLeft, 1, some .int) 1 (0, 0) [.ref 312] I (qE (I 313 15) (mT I 0)) nX := by
  refine ct_of (by decide) [(0, .ref 312)] rfl rfl (fun K hG hw hgl hwo hK => ?_)
  subst hG; subst hw; subst hgl
  exact bX11_handOverLeft_0 hK hwo hm (m_plain hm) (qE_i rfl rfl)
theorem r_blots (hm : isT w 11 312) : CT G w gl (yX11_blots, cX11_blots, 1, some .int) 1 (0, 0) [.ref 312] I (qE (I 313 16) (mT I 0)) nX := by
  refine ct_of (by decide) [(0, .ref 312)] rfl rfl (fun K hG hw hgl hwo hK => ?_)
  subst hG; subst hw; subst hgl
  exact bX11_blots_0 hK hwo hm (m_plain hm) (qE_i rfl rfl)
theorem r_handOvers (hm : isT w 11 312) : CT G w gl (yX11_handOvers, cX11_handOvers, 1, some .int) 1 (0, 0) [.ref 312] I (qE (I 313 17) (mT I 0)) nX := by
  refine ct_of (by decide) [(0, .ref 312)] rfl rfl (fun K hG hw hgl hwo hK => ?_)
  subst hG; subst hw; subst hgl
  exact bX11_handOvers_0 hK hwo hm (m_plain hm) (qE_i rfl rfl)
theorem r_writtenMinutes (hm : isT w 11 312) : CT G w gl (yX11_writtenMinutes, cX11_writtenMinutes, 1, some .int) 1 (0, 0) [.ref 312] I (qE (I 313 18) (mT I 0)) nX := by
  refine ct_of (by decide) [(0, .ref 312)] rfl rfl (fun K hG hw hgl hwo hK => ?_)
  subst hG; subst hw; subst hgl
  exact bX11_writtenMinutes_0 hK hwo hm (m_plain hm) (qE_i rfl rfl)
theorem r_idleMinutes (hm : isT w 11 312) : CT G w gl (yX11_idleMinutes, cX11_idleMinutes, 1, some .int) 1 (0, 0) [.ref 312] I (qE (I 313 19) (mT I 0)) nX := by
  refine ct_of (by decide) [(0, .ref 312)] rfl rfl (fun K hG hw hgl hwo hK => ?_)
  subst hG; subst hw; subst hgl
  exact bX11_idleMinutes_0 hK hwo hm (m_plain hm) (qE_i rfl rfl)
theorem r_errorCode (hm : isT w 11 312) : CT G w gl (yX11_errorCode, cX11_errorCode, 1, some .int) 0 (0, 0) [.ref 312] I (qE (I 312 5) (mT I 0)) nX := by
  refine ct_of (by decide) [(0, .ref 312)] rfl rfl (fun K hG hw hgl hwo hK => ?_)
  subst hG; subst hw; subst hgl
  exact bX11_errorCode_0 hK hwo hm (qE_i (by rw [up_def, ups_same, upd_ne _ _ (by decide)]) rfl)
theorem r_errorPosition (hm : isT w 11 312) : CT G w gl (yX11_errorPosition, cX11_errorPosition, 1, some .int) 0 (0, 0) [.ref 312] I (qE (I 312 6) (mT I 0)) nX := by
  refine ct_of (by decide) [(0, .ref 312)] rfl rfl (fun K hG hw hgl hwo hK => ?_)
  subst hG; subst hw; subst hgl
  exact bX11_errorPosition_0 hK hwo hm (qE_i (by rw [up_def, ups_same, upd_ne _ _ (by decide)]) rfl)
theorem r_currentLetter (hm : isT w 11 312) {n c t : Nat} (hf : s_wf (I 313) n c t) : CT G w gl (yX11_currentLetter, cX11_currentLetter, 1, some .int) 3 (0, 0) [.ref 312] I (qE (s_cur (I 313)) (mT I 0)) nX := by
  refine ct_of (by decide) [(0, .ref 312)] rfl rfl (fun K hG hw hgl hwo hK => ?_)
  subst hG; subst hw; subst hgl
  exact bX11_currentLetter_0 hK hwo hm (m_current hm hf) (m_plain hm) (qE_i rfl rfl)
theorem r_selectedLetter (hm : isT w 11 312) {n c t : Nat} (hf : s_wf (I 313) n c t) : CT G w gl (yX11_selectedLetter, cX11_selectedLetter, 1, some .int) 7 (0, 0) [.ref 312] I (qE (s_select (I 313) n (s_pol (I 313))) (mT I 0)) nX := by
  refine ct_of (by decide) [(0, .ref 312)] rfl rfl (fun K hG hw hgl hwo hK => ?_)
  subst hG; subst hw; subst hgl
  obtain ⟨p, hp, ep⟩ := hf.2.2.2.2.2.2.2.2.1
  have epol : s_pol (I 313) = p := by unfold s_pol; rw [ep]; exact nI_clamp (by omega)
  exact bX11_selectedLetter_0 hK hwo hm (by rw [ep, epol]; exact m_select hm hf hp) (m_plain hm) (qE_i rfl rfl)
theorem r_finishedCount (hm : isT w 11 312) {n : Nat} (hn : n ≤ 12) (h8 : I 313 8 = nI n) : CT G w gl (yX11_finishedCount, cX11_finishedCount, 1, some .int) 3 (0, 0) [.ref 312] I (qE (nI (s_cnt (s_done (I 313)) n)) (mT I 0)) nX := by
  refine ct_of (by decide) [(0, .ref 312)] rfl rfl (fun K hG hw hgl hwo hK => ?_)
  subst hG; subst hw; subst hgl
  exact bX11_finishedCount_0 hK hwo hm (m_doneCount hm hn h8) (m_plain hm) (qE_i rfl rfl)
theorem r_lateCount (hm : isT w 11 312) {n : Nat} (hn : n ≤ 12) (h8 : I 313 8 = nI n) : CT G w gl (yX11_lateCount, cX11_lateCount, 1, some .int) 4 (0, 0) [.ref 312] I (qE (nI (s_cnt (s_late (I 313)) n)) (mT I 0)) nX := by
  refine ct_of (by decide) [(0, .ref 312)] rfl rfl (fun K hG hw hgl hwo hK => ?_)
  subst hG; subst hw; subst hgl
  exact bX11_lateCount_0 hK hwo hm (m_lates hm hn h8) (m_plain hm) (qE_i rfl rfl)
theorem r_inconsistencies (hm : isT w 11 312) : CT G w gl (yX11_inconsistencies, cX11_inconsistencies, 1, some .int) 0 (0, 0) [.ref 312] I (qE (I 313 9 - I 313 18 - I 313 19 - I 313 20 - I 313 21) (mT I 0)) nX := by
  refine ct_of (by decide) [(0, .ref 312)] rfl rfl (fun K hG hw hgl hwo hK => ?_)
  subst hG; subst hw; subst hgl
  have e : (up I 312 9 0) 313 = I 313 := ups_ne _ _ (by decide)
  exact bX11_inconsistencies_0 hK hwo hm (qE_i (by rw [e]) rfl)
theorem m_field (hm : isT w 11 312) {x : Int32} {f n : Nat} (hn : n ≤ 12) (h8 : I 313 8 = nI n) (hf : f < 8) : CT G w gl (yX11_field, cX11_field, 3, some .int) 2 (0, 0) [.ref 312, .int x, .int (nI f)] I (qE (if s_has x (I 313 8) = true then s_of (I 313) x.toNatClampNeg f else 0) (mT I (if s_has x (I 313 8) = true then 0 else 1))) nX := by
  refine ct_of (by decide) [(0, .ref 312), (1, .int x), (2, .int (nI f))] rfl rfl (fun K hG hw hgl hwo hK => ?_)
  subst hG; subst hw; subst hgl
  refine bX11_field_0 hK hwo hm (m_isLetter hm h8 hn) (fun c => ?_) (fun c => ?_)
  · have h := b2_n0.mp c
    rw [h] at hK
    obtain ⟨l, hl, el⟩ := has_nat h8 (by omega) h
    have ecl : x.toNatClampNeg = l := by rw [el]; exact nI_clamp (by omega)
    rw [ecl] at hK
    refine bX11_field_14 hK hwo hm hm (m_f0 hm) (fun _ => ?_) (fun _ => qE_i rfl rfl) (fun d => absurd rfl d)
    have h1 := m_of (G := kG K) (w := kw K) (gl := kl K) (I := mT I 0) (l := l) (f := f) hm (by omega) hf
    rw [mT_313] at h1
    rw [el]; exact h1
  · have h := b2_0.mp c
    rw [h] at hK
    exact bX11_field_14 (f3 := 0) (g3 := I) hK hwo hm hm (m_f1 hm) (fun d => absurd d (by decide)) (fun d => absurd d (by decide)) (fun _ => qE_i rfl rfl)
theorem r_clerkOf (hm : isT w 11 312) {x : Int32} {n : Nat} (hn : n ≤ 12) (h8 : I 313 8 = nI n) : CT G w gl (yX11_clerkOf, cX11_clerkOf, 2, some .int) 3 (0, 0) [.ref 312, .int x] I (qE (if s_has x (I 313 8) = true then s_of (I 313) x.toNatClampNeg 0 else 0) (mT I (if s_has x (I 313 8) = true then 0 else 1))) nX := by
  refine ct_of (by decide) [(0, .ref 312), (1, .int x)] rfl rfl (fun K hG hw hgl hwo hK => ?_)
  subst hG; subst hw; subst hgl
  exact bX11_clerkOf_0 hK hwo hm (m_field (f := 0) hm hn h8 (by omega)) (qE_i rfl rfl)
theorem r_length (hm : isT w 11 312) {x : Int32} {n : Nat} (hn : n ≤ 12) (h8 : I 313 8 = nI n) : CT G w gl (yX11_length, cX11_length, 2, some .int) 3 (0, 0) [.ref 312, .int x] I (qE (if s_has x (I 313 8) = true then s_of (I 313) x.toNatClampNeg 1 else 0) (mT I (if s_has x (I 313 8) = true then 0 else 1))) nX := by
  refine ct_of (by decide) [(0, .ref 312), (1, .int x)] rfl rfl (fun K hG hw hgl hwo hK => ?_)
  subst hG; subst hw; subst hgl
  exact bX11_length_0 hK hwo hm (m_field (f := 1) hm hn h8 (by omega)) (qE_i rfl rfl)
theorem r_arrival (hm : isT w 11 312) {x : Int32} {n : Nat} (hn : n ≤ 12) (h8 : I 313 8 = nI n) : CT G w gl (yX11_arrival, cX11_arrival, 2, some .int) 3 (0, 0) [.ref 312, .int x] I (qE (if s_has x (I 313 8) = true then s_of (I 313) x.toNatClampNeg 2 else 0) (mT I (if s_has x (I 313 8) = true then 0 else 1))) nX := by
  refine ct_of (by decide) [(0, .ref 312), (1, .int x)] rfl rfl (fun K hG hw hgl hwo hK => ?_)
  subst hG; subst hw; subst hgl
  exact bX11_arrival_0 hK hwo hm (m_field (f := 2) hm hn h8 (by omega)) (qE_i rfl rfl)
theorem r_deadline (hm : isT w 11 312) {x : Int32} {n : Nat} (hn : n ≤ 12) (h8 : I 313 8 = nI n) : CT G w gl (yX11_deadline, cX11_deadline, 2, some .int) 3 (0, 0) [.ref 312, .int x] I (qE (if s_has x (I 313 8) = true then s_of (I 313) x.toNatClampNeg 3 else 0) (mT I (if s_has x (I 313 8) = true then 0 else 1))) nX := by
  refine ct_of (by decide) [(0, .ref 312), (1, .int x)] rfl rfl (fun K hG hw hgl hwo hK => ?_)
  subst hG; subst hw; subst hgl
  exact bX11_deadline_0 hK hwo hm (m_field (f := 3) hm hn h8 (by omega)) (qE_i rfl rfl)
theorem r_priority (hm : isT w 11 312) {x : Int32} {n : Nat} (hn : n ≤ 12) (h8 : I 313 8 = nI n) : CT G w gl (yX11_priority, cX11_priority, 2, some .int) 3 (0, 0) [.ref 312, .int x] I (qE (if s_has x (I 313 8) = true then s_of (I 313) x.toNatClampNeg 4 else 0) (mT I (if s_has x (I 313 8) = true then 0 else 1))) nX := by
  refine ct_of (by decide) [(0, .ref 312), (1, .int x)] rfl rfl (fun K hG hw hgl hwo hK => ?_)
  subst hG; subst hw; subst hgl
  exact bX11_priority_0 hK hwo hm (m_field (f := 4) hm hn h8 (by omega)) (qE_i rfl rfl)
theorem r_remaining (hm : isT w 11 312) {x : Int32} {n : Nat} (hn : n ≤ 12) (h8 : I 313 8 = nI n) : CT G w gl (yX11_remaining, cX11_remaining, 2, some .int) 3 (0, 0) [.ref 312, .int x] I (qE (if s_has x (I 313 8) = true then s_of (I 313) x.toNatClampNeg 5 else 0) (mT I (if s_has x (I 313 8) = true then 0 else 1))) nX := by
  refine ct_of (by decide) [(0, .ref 312), (1, .int x)] rfl rfl (fun K hG hw hgl hwo hK => ?_)
  subst hG; subst hw; subst hgl
  exact bX11_remaining_0 hK hwo hm (m_field (f := 5) hm hn h8 (by omega)) (qE_i rfl rfl)
theorem r_finishMinute (hm : isT w 11 312) {x : Int32} {n : Nat} (hn : n ≤ 12) (h8 : I 313 8 = nI n) : CT G w gl (yX11_finishMinute, cX11_finishMinute, 2, some .int) 3 (0, 0) [.ref 312, .int x] I (qE (if s_has x (I 313 8) = true then s_of (I 313) x.toNatClampNeg 6 else 0) (mT I (if s_has x (I 313 8) = true then 0 else 1))) nX := by
  refine ct_of (by decide) [(0, .ref 312), (1, .int x)] rfl rfl (fun K hG hw hgl hwo hK => ?_)
  subst hG; subst hw; subst hgl
  exact bX11_finishMinute_0 hK hwo hm (m_field (f := 6) hm hn h8 (by omega)) (qE_i rfl rfl)
theorem r_waitingTime (hm : isT w 11 312) {x : Int32} {n : Nat} (hn : n ≤ 12) (h8 : I 313 8 = nI n) : CT G w gl (yX11_waitingTime, cX11_waitingTime, 2, some .int) 3 (0, 0) [.ref 312, .int x] I (qE (if s_has x (I 313 8) = true then s_waited (I 313) x.toNatClampNeg else 0) (mT I (if s_has x (I 313 8) = true then 0 else 1))) nX := by
  refine ct_of (by decide) [(0, .ref 312), (1, .int x)] rfl rfl (fun K hG hw hgl hwo hK => ?_)
  subst hG; subst hw; subst hgl
  refine bX11_waitingTime_0 hK hwo hm (m_isLetter hm h8 hn) (fun c => ?_) (fun c => ?_)
  · have h := b2_n0.mp c
    rw [h] at hK
    obtain ⟨l, hl, el⟩ := has_nat h8 (by omega) h
    have ecl : x.toNatClampNeg = l := by rw [el]; exact nI_clamp (by omega)
    rw [ecl] at hK
    refine bX11_waitingTime_14 hK hwo hm hm (m_f0 hm) (fun _ => ?_) (fun _ => qE_i rfl rfl) (fun d => absurd rfl d)
    have h1 := m_waited (G := kG K) (w := kw K) (gl := kl K) (I := mT I 0) (l := l) hm (by omega)
    rw [mT_313] at h1
    rw [el]; exact h1
  · have h := b2_0.mp c
    rw [h] at hK
    exact bX11_waitingTime_14 (f3 := 0) (g3 := I) hK hwo hm hm (m_f1 hm) (fun d => absurd d (by decide)) (fun d => absurd d (by decide)) (fun _ => qE_i rfl rfl)
theorem r_effectivePriority (hm : isT w 11 312) {x : Int32} {n : Nat} (hn : n ≤ 12) (h8 : I 313 8 = nI n) (h5 : ¬ I 313 5 = 0) : CT G w gl (yX11_effectivePriority, cX11_effectivePriority, 2, some .int) 4 (0, 0) [.ref 312, .int x] I (qE (if s_has x (I 313 8) = true then s_urg (I 313) x.toNatClampNeg else 0) (mT I (if s_has x (I 313 8) = true then 0 else 1))) nX := by
  refine ct_of (by decide) [(0, .ref 312), (1, .int x)] rfl rfl (fun K hG hw hgl hwo hK => ?_)
  subst hG; subst hw; subst hgl
  refine bX11_effectivePriority_0 hK hwo hm (m_isLetter hm h8 hn) (fun c => ?_) (fun c => ?_)
  · have h := b2_n0.mp c
    rw [h] at hK
    obtain ⟨l, hl, el⟩ := has_nat h8 (by omega) h
    have ecl : x.toNatClampNeg = l := by rw [el]; exact nI_clamp (by omega)
    rw [ecl] at hK
    refine bX11_effectivePriority_14 hK hwo hm hm (m_f0 hm) (fun _ => ?_) (fun _ => qE_i rfl rfl) (fun d => absurd rfl d)
    have h1 := m_urgency (G := kG K) (w := kw K) (gl := kl K) (I := mT I 0) (l := l) hm (by omega) (by rw [mT_313]; exact h5)
    rw [mT_313] at h1
    rw [el]; exact h1
  · have h := b2_0.mp c
    rw [h] at hK
    exact bX11_effectivePriority_14 (f3 := 0) (g3 := I) hK hwo hm hm (m_f1 hm) (fun d => absurd d (by decide)) (fun d => absurd d (by decide)) (fun _ => qE_i rfl rfl)
theorem r_isReady (hm : isT w 11 312) {x : Int32} {n : Nat} (hn : n ≤ 12) (h8 : I 313 8 = nI n) : CT G w gl (yX11_isReady, cX11_isReady, 2, some .boolean) 3 (0, 0) [.ref 312, .int x] I (qE (if s_has x (I 313 8) = true then b2 (s_open (I 313) x.toNatClampNeg) else 0) (mT I (if s_has x (I 313 8) = true then 0 else 1))) nX := by
  refine ct_of (by decide) [(0, .ref 312), (1, .int x)] rfl rfl (fun K hG hw hgl hwo hK => ?_)
  subst hG; subst hw; subst hgl
  refine bX11_isReady_0 hK hwo hm (m_isLetter hm h8 hn) (fun c => ?_) (fun c => ?_)
  · have h := b2_n0.mp c
    rw [h] at hK
    obtain ⟨l, hl, el⟩ := has_nat h8 (by omega) h
    have ecl : x.toNatClampNeg = l := by rw [el]; exact nI_clamp (by omega)
    rw [ecl] at hK
    refine bX11_isReady_14 hK hwo hm hm (m_f0 hm) (fun _ => ?_) (fun _ => qE_i rfl rfl) (fun _ => b2_01 _) (fun d => absurd rfl d)
    have h1 := m_isOpen (G := kG K) (w := kw K) (gl := kl K) (I := mT I 0) (l := l) hm (by omega)
    rw [mT_313] at h1
    rw [el]; exact h1
  · have h := b2_0.mp c
    rw [h] at hK
    exact bX11_isReady_14 (f3 := 0) (g3 := I) hK hwo hm hm (m_f1 hm) (fun d => absurd d (by decide)) (fun d => absurd d (by decide)) (fun d => absurd d (by decide)) (fun _ => qE_i rfl rfl)
theorem r_selectedBy (hm : isT w 11 312) {x : Int32} {n c t : Nat} (hf : s_wf (I 313) n c t) : CT G w gl (yX11_selectedBy, cX11_selectedBy, 2, some .int) 7 (0, 0) [.ref 312, .int x] I (qE (if s_in x 0 4 = true then s_select (I 313) n x.toNatClampNeg else 0) (mT I (if s_in x 0 4 = true then 0 else 1))) nX := by
  refine ct_of (by decide) [(0, .ref 312), (1, .int x)] rfl rfl (fun K hG hw hgl hwo hK => ?_)
  subst hG; subst hw; subst hgl
  refine bX11_selectedBy_0 hK hwo hm m_in (fun c => ?_) (fun c => ?_)
  · have h := b2_n0.mp c
    rw [h] at hK
    have h9 := h
    unfold s_in at h9
    rw [Bool.and_eq_true] at h9
    obtain ⟨p, hp, el⟩ := i_of (M := 4) (n := 4) (by decide) (of_decide_eq_true h9.1) (of_decide_eq_true h9.2)
    have ecl : x.toNatClampNeg = p := by rw [el]; exact nI_clamp (by omega)
    rw [ecl] at hK
    refine bX11_selectedBy_15 hK hwo hm hm (m_f0 hm) (fun _ => ?_) (fun _ => qE_i rfl rfl) (fun d => absurd rfl d)
    have h1 := m_select (G := kG K) (w := kw K) (gl := kl K) (I := mT I 0) (p := p) (n := n) (c := _) (t := _) hm (by rw [mT_313]; exact hf) (by omega)
    rw [mT_313] at h1
    rw [el]; exact h1
  · have h := b2_0.mp c
    rw [h] at hK
    exact bX11_selectedBy_15 (f3 := 0) (g3 := I) hK hwo hm hm (m_f1 hm) (fun d => absurd d (by decide)) (fun d => absurd d (by decide)) (fun _ => qE_i rfl rfl)
theorem r_readyCount (hm : isT w 11 312) {n : Nat} (hn : n ≤ 12) (h8 : I 313 8 = nI n) : CT G w gl (yX11_readyCount, cX11_readyCount, 3, some .int) 3 (0, 0) [.ref 312] I (qE (nI (s_cnt (s_open (I 313)) n)) (mT I 0)) nX := by
  refine ct_of (by decide) [(0, .ref 312)] rfl rfl (fun K hG hw hgl hwo hK => ?_)
  subst hG; subst hw; subst hgl
  have key : ∀ k i, i + k = n → ZZ K (0, 0) 9 [(0, .ref 312), (1, .int (nI (s_cnt (s_open (I 313)) i))), (2, .int (nI i))] [] (mT I 0) := by
    intro k
    induction k with
    | zero =>
      intro i hi
      have h : mT I 0 313 8 ≤ nI i := by rw [mT_313, h8]; exact nI_le (by omega) (by omega)
      exact bX11_readyCount_9 (f3 := 0) (g3 := I) hK hwo hm (fun _ => qE_i (by rw [show i = n by omega]) rfl) (fun d => absurd h d) (fun d => absurd h d) (fun d => absurd h d)
    | succ k ih =>
      intro i hi
      have h : ¬ mT I 0 313 8 ≤ nI i := by rw [mT_313, h8]; exact nI_ge (by omega) (by omega)
      have hx := ih (i + 1) (by omega)
      rw [← nI_1] at hx
      have h1 := m_isOpen (G := kG K) (w := kw K) (gl := kl K) (I := mT I 0) (l := i) hm (by omega)
      rw [mT_313] at h1
      refine bX11_readyCount_9 hK hwo hm (fun d => absurd d h) (fun _ => h1) (fun _ d => ?_) (fun _ d => ?_)
      · rw [cnt_no (b2_0.mp d)] at hx
        rw [Int32.add_zero]; exact hx
      · rw [cnt_yes (b2_n0.mp d), ← nI_1] at hx
        exact hx
  exact bX11_readyCount_0 hK hwo hm (key n 0 (by omega))
theorem r_openLettersOf (hm : isT w 11 312) {x : Int32} {n c : Nat} (hn : n ≤ 12) (h8 : I 313 8 = nI n) (h7 : I 313 7 = nI c) (hc : c ≤ 6) : CT G w gl (yX11_openLettersOf, cX11_openLettersOf, 4, some .int) 2 (0, 0) [.ref 312, .int x] I (qE (if s_has x (I 313 7) = true then nI (s_cnt (fun l => decide (s_of (I 313) l 0 = x) && !s_done (I 313) l) n) else 0) (mT I (if s_has x (I 313 7) = true then 0 else 1))) nX := by
  refine ct_of (by decide) [(0, .ref 312), (1, .int x)] rfl rfl (fun K hG hw hgl hwo hK => ?_)
  subst hG; subst hw; subst hgl
  refine bX11_openLettersOf_0 hK hwo hm (m_isClerk hm h7 hc) (fun c => ?_) (fun c => ?_)
  · have h := b2_n0.mp c
    rw [h] at hK
    have key : ∀ k i, i + k = n → ZZ K (0, 0) 28 [(0, .ref 312), (1, .int x), (2, .int (nI (s_cnt (fun l => decide (s_of (I 313) l 0 = x) && !s_done (I 313) l) i))), (3, .int (nI i))] [] (mT I 0) := by
      intro k
      induction k with
      | zero =>
        intro i hi
        have h : mT I 0 313 8 ≤ nI i := by rw [mT_313, h8]; exact nI_le (by omega) (by omega)
        exact bX11_openLettersOf_28 (f3 := 0) (g3 := I) (f6 := 0) (g6 := I) hK hwo hm (fun _ => qE_i (by rw [show i = n by omega]; rfl) rfl) (fun d => absurd h d) (fun d => absurd h d) (fun d => absurd h d) (fun d => absurd h d) (fun d => absurd h d)
      | succ k ih =>
        intro i hi
        have h : ¬ mT I 0 313 8 ≤ nI i := by rw [mT_313, h8]; exact nI_ge (by omega) (by omega)
        have hx := ih (i + 1) (by omega)
        rw [← nI_1] at hx
        have h1 := m_of (G := kG K) (w := kw K) (gl := kl K) (I := mT I 0) (l := i) (f := 0) hm (by omega) (by omega)
        have h2 := m_isDone (G := kG K) (w := kw K) (gl := kl K) (I := mT I 0) (l := i) hm (by omega)
        rw [mT_313] at h1 h2
        refine bX11_openLettersOf_28 hK hwo hm (fun d => absurd d h) (fun _ => h1) (fun _ d => ?_) (fun _ _ => h2) (fun _ d e => ?_) (fun _ d e => ?_)
        · rw [cnt_no (by simp [d])] at hx
          rw [Int32.add_zero]; exact hx
        · rw [cnt_no (by simp [b2_n0.mp e])] at hx
          rw [Int32.add_zero]; exact hx
        · rw [cnt_yes (by simp [d, b2_0.mp e]), ← nI_1] at hx
          exact hx
    exact bX11_openLettersOf_14 hK hwo hm hm (m_f0 hm) (fun _ => key n 0 (by omega)) (fun d => absurd rfl d)
  · have h := b2_0.mp c
    rw [h] at hK
    exact bX11_openLettersOf_14 hK hwo hm hm (m_f1 hm) (fun d => absurd d (by decide)) (fun _ => qE_i rfl rfl)
theorem m_work (hm : isT w 11 312) {x : Int32} {n : Nat} (hn : n ≤ 12) (h8 : I 313 8 = nI n) : CT G w gl (yX11_work, cX11_work, 4, some .int) 1 (0, 0) [.ref 312, .int x] I (qE (s_work (I 313) x n) I) nX := by
  refine ct_of (by decide) [(0, .ref 312), (1, .int x)] rfl rfl (fun K hG hw hgl hwo hK => ?_)
  subst hG; subst hw; subst hgl
  have key : ∀ k i, i + k = n → ZZ K (0, 0) 4 [(0, .ref 312), (1, .int x), (2, .int (s_work (I 313) x i)), (3, .int (nI i))] [] I := by
    intro k
    induction k with
    | zero =>
      intro i hi
      have h : I 313 8 ≤ nI i := by rw [h8]; exact nI_le (by omega) (by omega)
      exact bX11_work_4 (f3 := 0) (g3 := I) (f6 := 0) (g6 := I) hK hwo hm (fun _ => qE_i (by rw [show i = n by omega]) rfl) (fun d => absurd h d) (fun d => absurd h d) (fun d => absurd h d) (fun d => absurd h d)
    | succ k ih =>
      intro i hi
      have h : ¬ I 313 8 ≤ nI i := by rw [h8]; exact nI_ge (by omega) (by omega)
      have hx := ih (i + 1) (by omega)
      rw [← nI_1] at hx
      unfold s_work at hx
      rw [sum_s] at hx
      refine bX11_work_4 hK hwo hm (fun d => absurd d h) (fun _ => m_of (l := i) (f := 0) hm (by omega) (by omega)) (fun _ d => ?_) (fun _ _ => m_of (l := i) (f := 5) hm (by omega) (by omega)) (fun _ d => ?_)
      · rw [if_neg d] at hx; exact hx
      · rw [if_pos d] at hx; exact hx
  exact bX11_work_0 hK hwo hm (key n 0 (by omega))
theorem r_workOf (hm : isT w 11 312) {x : Int32} {n c : Nat} (hn : n ≤ 12) (h8 : I 313 8 = nI n) (h7 : I 313 7 = nI c) (hc : c ≤ 6) : CT G w gl (yX11_workOf, cX11_workOf, 2, some .int) 2 (0, 0) [.ref 312, .int x] I (qE (if s_has x (I 313 7) = true then s_work (I 313) x n else 0) (mT I (if s_has x (I 313 7) = true then 0 else 1))) nX := by
  refine ct_of (by decide) [(0, .ref 312), (1, .int x)] rfl rfl (fun K hG hw hgl hwo hK => ?_)
  subst hG; subst hw; subst hgl
  refine bX11_workOf_0 hK hwo hm (m_isClerk hm h7 hc) (fun c => ?_) (fun c => ?_)
  · have h := b2_n0.mp c
    rw [h] at hK
    have el : x = x := rfl
    refine bX11_workOf_14 hK hwo hm hm (m_f0 hm) (fun _ => ?_) (fun _ => qE_i rfl rfl) (fun d => absurd rfl d)
    have h1 := m_work (G := kG K) (w := kw K) (gl := kl K) (I := mT I 0) (x := x) hm hn (by rw [mT_313]; exact h8)
    rw [mT_313] at h1
    exact h1
  · have h := b2_0.mp c
    rw [h] at hK
    exact bX11_workOf_14 (f3 := 0) (g3 := I) hK hwo hm hm (m_f1 hm) (fun d => absurd d (by decide)) (fun d => absurd d (by decide)) (fun _ => qE_i rfl rfl)
theorem r_busiestClerk (hm : isT w 11 312) {n c : Nat} (hn : n ≤ 12) (h8 : I 313 8 = nI n) (h7 : I 313 7 = nI c) (hc : c ≤ 6) (hc2 : 2 ≤ c) : CT G w gl (yX11_busiestClerk, cX11_busiestClerk, 3, some .int) 2 (0, 0) [.ref 312] I (qE (nI (s_busy (I 313) n c)) (mT I 0)) nX := by
  refine ct_of (by decide) [(0, .ref 312)] rfl rfl (fun K hG hw hgl hwo hK => ?_)
  subst hG; subst hw; subst hgl
  have key : ∀ k i, i + k = c → 1 ≤ i → ZZ K (0, 0) 9 [(0, .ref 312), (1, .int (nI (s_busy (I 313) n i))), (2, .int (nI i))] [] (mT I 0) := by
    intro k
    induction k with
    | zero =>
      intro i hi h1
      have h : mT I 0 313 7 ≤ nI i := by rw [mT_313, h7]; exact nI_le (by omega) (by omega)
      exact bX11_busiestClerk_9 (f3 := 0) (g3 := I) (f4 := 0) (g4 := I) hK hwo hm (fun _ => qE_i (by rw [show i = c by omega]) rfl) (fun d => absurd h d) (fun d => absurd h d) (fun d => absurd h d) (fun d => absurd h d)
    | succ k ih =>
      intro i hi h1
      have h : ¬ mT I 0 313 7 ≤ nI i := by rw [mT_313, h7]; exact nI_ge (by omega) (by omega)
      have hx := ih (i + 1) (by omega) (by omega)
      have w1 : ∀ y, CT (kG K) (kw K) (kl K) (yX11_work, cX11_work, 4, some .int) 1 (0, 0) [.ref 312, .int y] (mT I 0) (qE (s_work (I 313) y n) (mT I 0)) nX := fun y => by
        have h1 := m_work (G := kG K) (w := kw K) (gl := kl K) (I := mT I 0) (x := y) hm hn (by rw [mT_313]; exact h8)
        rw [mT_313] at h1
        exact h1
      refine bX11_busiestClerk_9 hK hwo hm (fun d => absurd d h) (fun _ => w1 _) (fun _ => w1 _) (fun _ d => ?_) (fun _ d => ?_) <;> rw [nI_1]
      · unfold s_busy at hx
        rw [if_neg (Int32.not_lt.mpr d)] at hx; exact hx
      · unfold s_busy at hx
        rw [if_pos (Int32.not_le.mp d)] at hx; exact hx
  have h0 := key (c - 1) 1 (by omega) (by omega)
  have e1 : s_busy (I 313) n 1 = 0 := by unfold s_busy; split <;> rfl
  rw [e1] at h0
  exact bX11_busiestClerk_0 hK hwo hm h0
theorem r_greatestLateness (hm : isT w 11 312) {n : Nat} (hn : n ≤ 12) (h8 : I 313 8 = nI n) : CT G w gl (yX11_greatestLateness, cX11_greatestLateness, 3, some .int) 2 (0, 0) [.ref 312] I (qE (if s_gl (I 313) n = -1 then 0 else s_lt (I 313) (s_gl (I 313) n).toNatClampNeg) (mT I (if s_gl (I 313) n = -1 then 1 else 0))) nX := by
  refine ct_of (by decide) [(0, .ref 312)] rfl rfl (fun K hG hw hgl hwo hK => ?_)
  subst hG; subst hw; subst hgl
  have key : ∀ k i, i + k = n → ZZ K (0, 0) 4 [(0, .ref 312), (1, .int (s_gl (I 313) i)), (2, .int (nI i))] [] I := by
    intro k
    induction k with
    | zero =>
      intro i hi
      have ei : i = n := by omega
      subst ei
      have h : I 313 8 ≤ nI i := by rw [h8]; exact nI_le (by omega) (by omega)
      refine bX11_greatestLateness_4 (f5 := 0) (g5 := I) (f10 := 0) (g10 := I) (f11 := 0) (g11 := I) (f12 := 0) (g12 := I) (f13 := 0) (g13 := I) hK hwo hm (fun _ c => ?_) (fun _ c => ?_) (fun d => absurd h d) (fun d => absurd h d) (fun d => absurd h d) (fun d => absurd h d) (fun d => absurd h d) (fun d => absurd h d) (fun d => absurd h d) (fun d => absurd h d) (fun d => absurd h d)
      · rw [if_neg c, if_neg c] at hK
        obtain ⟨l, hl, el, -⟩ := (s_gl_in (I 313) i).resolve_left c
        have m0 : ∀ f, f < 8 → CT (kG K) (kw K) (kl K) (yX11_of, cX11_of, 3, some .int) 0 (0, 0) [.ref 312, .int (nI l), .int (nI f)] (mT I 0) (qE (s_of (I 313) l f) (mT I 0)) nX := fun f hf => by
          have h1 := m_of (G := kG K) (w := kw K) (gl := kl K) (I := mT I 0) (l := l) (f := f) hm (by omega) hf
          rw [mT_313] at h1
          exact h1
        rw [el] at hK ⊢
        rw [nI_clamp (by omega)] at hK
        exact bX11_greatestLateness_78 hK hwo hm hm (m_f0 hm) (fun _ => m0 6 (by omega)) (fun _ => m0 3 (by omega)) (fun _ => qE_i rfl rfl) (fun d => absurd rfl d)
      · rw [if_pos c, if_pos c] at hK
        exact bX11_greatestLateness_78 (f3 := 0) (g3 := I) (f4 := 0) (g4 := I) hK hwo hm hm (m_f1 hm) (fun d => absurd d (by decide)) (fun d => absurd d (by decide)) (fun d => absurd d (by decide)) (fun _ => qE_i rfl rfl)
    | succ k ih =>
      intro i hi
      have h : ¬ I 313 8 ≤ nI i := by rw [h8]; exact nI_ge (by omega) (by omega)
      have hx := ih (i + 1) (by omega)
      unfold s_gl at hx
      rw [← nI_1] at hx
      have yes : s_done (I 313) i = true → (s_gl (I 313) i = -1 ∨ s_lt (I 313) (s_gl (I 313) i).toNatClampNeg < s_lt (I 313) i) → ZZ K (0, 0) 4 [(0, .ref 312), (1, .int (nI i)), (2, .int (nI i + 1))] [] I := fun a b => by
        rw [if_pos ⟨a, b⟩] at hx; exact hx
      by_cases c0 : s_gl (I 313) i = -1
      · refine bX11_greatestLateness_4 (f10 := 0) (g10 := I) (f11 := 0) (g11 := I) (f12 := 0) (g12 := I) (f13 := 0) (g13 := I) hK hwo hm (fun d => absurd d h) (fun d => absurd d h) (fun _ => m_isDone (l := i) hm (by omega)) (fun _ d => ?_) (fun _ d e => yes (b2_n0.mp d) (Or.inl e)) (fun _ _ d => absurd c0 d) (fun _ _ d => absurd c0 d) (fun _ _ d => absurd c0 d) (fun _ _ d => absurd c0 d) (fun _ _ d => absurd c0 d) (fun _ _ d => absurd c0 d)
        rw [if_neg (fun q => absurd (q.1.symm.trans (b2_0.mp d)) (by decide))] at hx; exact hx
      · obtain ⟨l, hl, el, -⟩ := (s_gl_in (I 313) i).resolve_left c0
        refine bX11_greatestLateness_4 hK hwo hm (fun d => absurd d h) (fun d => absurd d h) (fun _ => m_isDone (l := i) hm (by omega)) (fun _ d => ?_) (fun _ d e => yes (b2_n0.mp d) (Or.inl e)) (fun _ _ _ => m_of (l := i) (f := 6) hm (by omega) (by omega)) (fun _ _ _ => m_of (l := i) (f := 3) hm (by omega) (by omega)) (fun _ _ _ => by rw [el]; exact m_of (l := l) (f := 6) hm (by omega) (by omega)) (fun _ _ _ => by rw [el]; exact m_of (l := l) (f := 3) hm (by omega) (by omega)) (fun _ d _ e => ?_) (fun _ d _ e => yes (b2_n0.mp d) (Or.inr (by rw [el, nI_clamp (by omega)]; exact Int32.not_le.mp e)))
        · rw [if_neg (fun q => absurd (q.1.symm.trans (b2_0.mp d)) (by decide))] at hx; exact hx
        · rw [if_neg (fun q => by
            rcases q.2 with z | z
            · exact c0 z
            · rw [el, nI_clamp (by omega)] at z; exact absurd e (Int32.not_le.mpr z))] at hx
          exact hx
  exact bX11_greatestLateness_0 hK hwo hm (key n 0 (by omega))
theorem r_findClerk (hm : isT w 11 312) {c N : Nat} (h7 : I 313 7 = nI c) (hL : nmL (I 313) c) (h4 : I 312 4 = nI N) (hN : N ≤ 600) : CT G w gl (yX11_findClerk, cX11_findClerk, 2, some .int) 1 (0, 0) [.ref 312] I (qE (if tq_find (I 313) (I 315) 0 N 0 c = -1 then 0 else tq_find (I 313) (I 315) 0 N 0 c) (mT I (if tq_find (I 313) (I 315) 0 N 0 c = -1 then 1 else 0))) nX := by
  refine ct_of (by decide) [(0, .ref 312)] rfl rfl (fun K hG hw hgl hwo hK => ?_)
  subst hG; subst hw; subst hgl
  refine bX11_findClerk_0 hK hwo hm (by rw [h4]; exact m_named (fr := 0) hm h7 hL (by omega)) (fun d => ?_) (fun d => ?_)
  · rw [if_neg d, if_neg d] at hK
    exact bX11_findClerk_21 hK hwo hm hm (m_f0 hm) (fun _ => qE_i rfl rfl) (fun d => absurd rfl d)
  · rw [if_pos d, if_pos d] at hK
    exact bX11_findClerk_21 hK hwo hm hm (m_f1 hm) (fun d => absurd d (by decide)) (fun _ => qE_i rfl rfl)
theorem r_nameByte (hm : isT w 11 312) {x y : Int32} {c : Nat} (h7 : I 313 7 = nI c) (hL : nmL (I 313) c) : CT G w gl (yX11_nameByte, cX11_nameByte, 4, some .int) 2 (0, 0) [.ref 312, .int x, .int y] I (qE (if s_has x (I 313 7) = true ∧ s_has y (I 313 (22 + x.toNatClampNeg * 7)) = true then I 313 (22 + x.toNatClampNeg * 7 + 1 + y.toNatClampNeg) else 0) (mT I (if s_has x (I 313 7) = true ∧ s_has y (I 313 (22 + x.toNatClampNeg * 7)) = true then 0 else 1))) nX := by
  refine ct_of (by decide) [(0, .ref 312), (1, .int x), (2, .int y)] rfl rfl (fun K hG hw hgl hwo hK => ?_)
  subst hG; subst hw; subst hgl
  have hc6 := hL.1
  have no : ∀ v3, ¬ (s_has x (I 313 7) = true ∧ s_has y (I 313 (22 + x.toNatClampNeg * 7)) = true) → ZZ K (0, 0) 45 [(0, .ref 312), (1, .int x), (2, .int y), (3, .int v3)] [.ref 312] I := fun v3 h => by
    rw [if_neg h, if_neg h] at hK
    exact bX11_nameByte_45 hK hwo hm hm (bX11_nameByte_50 hK hwo hm hm (m_f1 hm) (fun d => absurd d (by decide)) (fun d => absurd d (by decide)) (fun _ => qE_i rfl rfl))
  refine bX11_nameByte_0 hK hwo hm (m_isClerk hm h7 hc6) (fun d => ?_) (fun d => ?_)
  · exact bX11_nameByte_15 (f5 := 0) (g5 := I) hK hwo hm (m_isClerk hm h7 hc6) (fun _ => no _ (fun q => absurd (q.1.symm.trans (b2_0.mp d)) (by decide))) (fun q => absurd d q) (fun q => absurd d q) (fun q => absurd d q) (fun q => absurd d q)
  · have hh := b2_n0.mp d
    obtain ⟨a, ha, ea⟩ := has_nat h7 (by omega) hh
    obtain ⟨L, hL6, hv⟩ := hL.2 a ha
    have ecl : x.toNatClampNeg = a := by rw [ea]; exact nI_clamp (by omega)
    have eat : (22 : Int32) + x * 7 = nI (22 + a * 7) := by rw [ea, show (7 : Int32) = nI 7 from rfl, show (22 : Int32) = nI 22 from rfl, pk_mul, nI_add]
    rw [ecl] at hK no
    have mi := m_in (G := kG K) (w := kw K) (gl := kl K) (I := I) (x := y) (lo := 0) (hi := I 313 (22 + a * 7) - 1)
    rw [hv, in_has (by omega), ← hv] at mi
    refine bX11_nameByte_15 hK hwo hm (m_isClerk hm h7 hc6) (fun q => absurd q d) (fun _ => by rw [eat]; exact vp_in_nI (by omega) (by omega)) (fun _ => by rw [eat, nI_clamp (by omega), hv, ← hv]; exact mi) (fun _ q => ?_) (fun _ q => ?_) <;> rw [eat]
    · have hy := b2_n0.mp q
      obtain ⟨k, hk, ek⟩ := has_nat hv (by omega) hy
      rw [if_pos ⟨hh, hy⟩, if_pos ⟨hh, hy⟩] at hK
      have ex : nI (22 + a * 7) + 1 + y = nI (22 + a * 7 + 1 + k) := by rw [ek, nI_1, nI_add]
      have ek2 : y.toNatClampNeg = k := by rw [ek]; exact nI_clamp (by omega)
      refine bX11_nameByte_50 hK hwo hm hm (m_f0 hm) (fun _ => by rw [ex]; exact vp_in_nI (by omega) (by omega)) (fun _ => ?_) (fun d => absurd rfl d)
      rw [ex, nI_clamp (by omega), mT_313, ek2]
      exact qE_i rfl rfl
    · exact no _ (fun z => absurd (z.2.symm.trans (b2_0.mp q)) (by decide))
end RGA
