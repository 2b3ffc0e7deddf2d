/-! THE REFERENCE'S CALLS: reads -/
/-- the memory with the thrown code k -/
def mT (I : zM) (k : Nat) : zM := ups I 312 (upd (I 312) 9 (nI k))
def fk (v1 v2 v3 : Int32) : Nat := if v1 = 0 then (if v2 = 0 then (if v3 = 0 then 0 else 3) else 2) else 1
theorem mT_ne {I : zM} {k q : Nat} (h : q ≠ 312) : mT I k q = I q := ups_ne _ _ h
theorem mT_313 {I : zM} {k : Nat} : mT I k 313 = I 313 := ups_ne _ _ (by decide)
theorem mT_315 {I : zM} {k : Nat} : mT I k 315 = I 315 := ups_ne _ _ (by decide)
theorem mT_9 {I : zM} {k : Nat} : mT I k 312 9 = nI k := by unfold mT; rw [ups_same, upd_same]
theorem mT_312 {I : zM} {k j : Nat} (h : j ≠ 9) : mT I k 312 j = I 312 j := by unfold mT; rw [ups_same, upd_ne _ _ h]
theorem i_m1 {x : Int32} {n : Nat} (hn : n < 2 ^ 31) : x ≤ nI n - 1 ↔ x < nI n := by
  cases n with
  | zero =>
    have e : nI 0 - 1 = -1 := by decide
    rw [e, Int32.le_iff_toInt_le, Int32.lt_iff_toInt_lt]
    have h1 : (-1 : Int32).toInt = -1 := by decide
    have h2 : (nI 0).toInt = 0 := by decide
    rw [h1, h2]; omega
  | succ m =>
    rw [nI_pred, Int32.le_iff_toInt_le, Int32.lt_iff_toInt_lt, nI_toInt (by omega), nI_toInt hn]
    omega
theorem in_has {x : Int32} {n : Nat} (hn : n < 2 ^ 31) : s_in x 0 (nI n - 1) = s_has x (nI n) := by
  unfold s_in s_has
  rw [decide_eq_decide.mpr (i_m1 hn)]
/-- the best so far by lateness, as the reference keeps it -/
def s_lt (B : zBk) (l : Nat) : Int32 := s_of B l 6 - s_of B l 3
def s_gl (B : zBk) : Nat → Int32
  | 0 => -1
  | n + 1 => if s_done B n = true ∧ (s_gl B n = -1 ∨ s_lt B (s_gl B n).toNatClampNeg < s_lt B n) then nI n else s_gl B n
theorem s_gl_in (B : zBk) : ∀ n, s_gl B n = -1 ∨ ∃ l, l < n ∧ s_gl B n = nI l ∧ s_done B l = true
  | 0 => Or.inl rfl
  | n + 1 => by
    unfold s_gl
    by_cases h : s_done B n = true ∧ (s_gl B n = -1 ∨ s_lt B (s_gl B n).toNatClampNeg < s_lt B n)
    · rw [if_pos h]; exact Or.inr ⟨n, Nat.lt_succ_self n, rfl, h.1⟩
    · rw [if_neg h]
      rcases s_gl_in B n with h1 | ⟨l, h1, h2⟩
      · exact Or.inl h1
      · exact Or.inr ⟨l, Nat.lt_succ_of_lt h1, h2⟩
def s_work (B : zBk) (x : Int32) (n : Nat) : Int32 := s_sum (fun l => if s_of B l 0 = x then s_of B l 5 else 0) n
/-- the busiest of the clerks below c -/
def s_busy (B : zBk) (n : Nat) : Nat → Nat
  | 0 => 0
  | c + 1 => if s_work B (nI (s_busy B n c)) n < s_work B (nI c) n then c else s_busy B n c
theorem busy_lt (B : zBk) (n : Nat) : ∀ c, s_busy B n c ≤ c
  | 0 => Nat.le_refl _
  | c + 1 => by
    unfold s_busy
    have := busy_lt B n c
    split <;> omega
section RGA
variable {G : zG} {w : Nat × Nat} {gl : Launch} {I : zM}
end RGA
