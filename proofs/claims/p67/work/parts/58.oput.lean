/-! THE LAW'S OFFICE AS A BLOCK: role 312 its fields, 313 the rests, 314 the finish minutes, 315 the minutes written -/
def oput (I : zM) (C : zBk) : zM := fun r x =>
  if r = 312 then (if x = 5 then C 8 else if 6 ≤ x ∧ x ≤ 16 then C (x + 3) else I r x)
  else if r = 313 then (if x < 12 then s_of C x 5 else I r x)
  else if r = 314 then (if x < 12 then s_of C x 6 else I r x)
  else if r = 315 then (if x < 12 then s_of C x 7 else I r x)
  else I r x
section OPUT
variable {I : zM} {C : zBk}
theorem op5 : oput I C 312 5 = C 8 := by simp [oput]
theorem opF {x : Nat} (h1 : 6 ≤ x) (h2 : x ≤ 16) : oput I C 312 x = C (x + 3) := by
  unfold oput
  rw [if_pos rfl, if_neg (by omega), if_pos ⟨h1, h2⟩]
theorem op6 : oput I C 312 6 = C 9 := opF (by omega) (by omega)
theorem op7 : oput I C 312 7 = C 10 := opF (by omega) (by omega)
theorem op8 : oput I C 312 8 = C 11 := opF (by omega) (by omega)
theorem op9 : oput I C 312 9 = C 12 := opF (by omega) (by omega)
theorem op10 : oput I C 312 10 = C 13 := opF (by omega) (by omega)
theorem op11 : oput I C 312 11 = C 14 := opF (by omega) (by omega)
theorem op12 : oput I C 312 12 = C 15 := opF (by omega) (by omega)
theorem op13 : oput I C 312 13 = C 16 := opF (by omega) (by omega)
theorem op14 : oput I C 312 14 = C 17 := opF (by omega) (by omega)
theorem op15 : oput I C 312 15 = C 18 := opF (by omega) (by omega)
theorem op16 : oput I C 312 16 = C 19 := opF (by omega) (by omega)
theorem opR {k : Nat} (h : k < 12) : oput I C 313 k = s_of C k 5 := by
  unfold oput
  rw [if_neg (by omega), if_pos rfl, if_pos h]
theorem opN {k : Nat} (h : k < 12) : oput I C 314 k = s_of C k 6 := by
  unfold oput
  rw [if_neg (by omega), if_neg (by omega), if_pos rfl, if_pos h]
theorem opW {k : Nat} (h : k < 12) : oput I C 315 k = s_of C k 7 := by
  unfold oput
  rw [if_neg (by omega), if_neg (by omega), if_neg (by omega), if_pos rfl, if_pos h]
theorem opO {r : Nat} (h : r < 312 ∨ 316 ≤ r) : oput I C r = I r := by
  funext x
  unfold oput
  rw [if_neg (by omega), if_neg (by omega), if_neg (by omega), if_neg (by omega)]
theorem ou_gen {r x k : Nat} {v : Int32} (h1 : ∀ D : zBk, oput I D r x = D k) (h2 : ∀ (q y : Nat), (q ≠ r ∨ y ≠ x) → oput I (upd C k v) q y = oput I C q y) : up (oput I C) r x v = oput I (upd C k v) := by
  funext q y
  unfold up ups
  by_cases hq : q = r
  · rw [if_pos hq]
    by_cases hy : y = x
    · rw [hq, hy, upd_same, h1, upd_same]
    · rw [upd_ne _ _ hy, h2 q y (Or.inr hy), hq]
  · rw [if_neg hq, h2 q y (Or.inl hq)]
theorem ou5 {v : Int32} : up (oput I C) 312 5 v = oput I (upd C 8 v) := ou_gen (fun _ => op5) (fun q y h => by
  unfold oput s_of upd
  (repeat' split) <;> first | rfl | (exfalso; omega))
theorem ouF {x : Nat} {v : Int32} (h1 : 6 ≤ x) (h2 : x ≤ 16) : up (oput I C) 312 x v = oput I (upd C (x + 3) v) := ou_gen (fun _ => opF h1 h2) (fun q y h => by
  unfold oput s_of upd
  (repeat' split) <;> first | rfl | (exfalso; omega))
theorem ouR {k : Nat} {v : Int32} (hk : k < 12) : up (oput I C) 313 k v = oput I (s_set C k 5 v) := ou_gen (fun _ => opR hk) (fun q y h => by
  unfold oput s_of upd
  (repeat' split) <;> first | rfl | (exfalso; omega))
theorem ouN {k : Nat} {v : Int32} (hk : k < 12) : up (oput I C) 314 k v = oput I (s_set C k 6 v) := ou_gen (fun _ => opN hk) (fun q y h => by
  unfold oput s_of upd
  (repeat' split) <;> first | rfl | (exfalso; omega))
theorem ouW {k : Nat} {v : Int32} (hk : k < 12) : up (oput I C) 315 k v = oput I (s_set C k 7 v) := ou_gen (fun _ => opW hk) (fun q y h => by
  unfold oput s_of upd
  (repeat' split) <;> first | rfl | (exfalso; omega))
theorem ou6 {v : Int32} : up (oput I C) 312 6 v = oput I (upd C 9 v) := ouF (by omega) (by omega)
theorem ou7 {v : Int32} : up (oput I C) 312 7 v = oput I (upd C 10 v) := ouF (by omega) (by omega)
theorem ou8 {v : Int32} : up (oput I C) 312 8 v = oput I (upd C 11 v) := ouF (by omega) (by omega)
theorem ou9 {v : Int32} : up (oput I C) 312 9 v = oput I (upd C 12 v) := ouF (by omega) (by omega)
theorem ou10 {v : Int32} : up (oput I C) 312 10 v = oput I (upd C 13 v) := ouF (by omega) (by omega)
theorem ou11 {v : Int32} : up (oput I C) 312 11 v = oput I (upd C 14 v) := ouF (by omega) (by omega)
theorem ou12 {v : Int32} : up (oput I C) 312 12 v = oput I (upd C 15 v) := ouF (by omega) (by omega)
theorem ou13 {v : Int32} : up (oput I C) 312 13 v = oput I (upd C 16 v) := ouF (by omega) (by omega)
theorem ou14 {v : Int32} : up (oput I C) 312 14 v = oput I (upd C 17 v) := ouF (by omega) (by omega)
theorem ou15 {v : Int32} : up (oput I C) 312 15 v = oput I (upd C 18 v) := ouF (by omega) (by omega)
theorem ou16 {v : Int32} : up (oput I C) 312 16 v = oput I (upd C 19 v) := ouF (by omega) (by omega)
/-- the memory sees these places of the block alone -/
theorem oput_cg {D : zBk} (h : ∀ k, 8 ≤ k → k < 20 → D k = C k) (h2 : ∀ l, l < 12 → ∀ f, 5 ≤ f → f < 8 → s_of D l f = s_of C l f) : oput I D = oput I C := by
  funext q y
  unfold oput
  by_cases h0 : q = 312
  · rw [if_pos h0, if_pos h0]
    by_cases h3 : y = 5
    · rw [if_pos h3, if_pos h3]; exact h 8 (by omega) (by omega)
    rw [if_neg h3, if_neg h3]
    by_cases h4 : 6 ≤ y ∧ y ≤ 16
    · rw [if_pos h4, if_pos h4]; exact h _ (by omega) (by omega)
    · rw [if_neg h4, if_neg h4]
  rw [if_neg h0, if_neg h0]
  by_cases h1 : q = 313
  · rw [if_pos h1, if_pos h1]
    by_cases hy : y < 12
    · rw [if_pos hy, if_pos hy]; exact h2 y hy 5 (by omega) (by omega)
    · rw [if_neg hy, if_neg hy]
  rw [if_neg h1, if_neg h1]
  by_cases h3 : q = 314
  · rw [if_pos h3, if_pos h3]
    by_cases hy : y < 12
    · rw [if_pos hy, if_pos hy]; exact h2 y hy 6 (by omega) (by omega)
    · rw [if_neg hy, if_neg hy]
  rw [if_neg h3, if_neg h3]
  by_cases h4 : q = 315
  · rw [if_pos h4, if_pos h4]
    by_cases hy : y < 12
    · rw [if_pos hy, if_pos hy]; exact h2 y hy 7 (by omega) (by omega)
    · rw [if_neg hy, if_neg hy]
  · rw [if_neg h4, if_neg h4]
/-- the refill's and the hand-over's minutes are not seen -/
theorem oput_far {k : Nat} {v : Int32} (h : k < 8 ∨ (20 ≤ k ∧ k < 64)) : oput I (upd C k v) = oput I C := oput_cg (fun j h1 h2 => upd_ne _ _ (by omega)) (fun l hl f h1 h2 => of_upd (by omega))
theorem oput_oput {D : zBk} : oput (oput I C) D = oput I D := by
  funext q y
  unfold oput
  (repeat' split) <;> rfl
/-- the class's block does not see it -/
theorem vB_op {k : Nat} (h : k < 160) : vB (oput I C) 288 k = vB I 288 k := by
  unfold vB
  rw [opO (r := 288) (by omega), opO (r := 288 + 1) (by omega), opO (r := 288 + 2) (by omega), opO (r := 288 + 10) (by omega)]
  (repeat' split) <;> first | rfl | (rw [opO (by omega)])
end OPUT
/-- a memory whose law's part is the block C -/
def oV (M : zM) (C : zBk) : Prop := M 312 5 = C 8 ∧ (∀ x, 6 ≤ x → x ≤ 16 → M 312 x = C (x + 3)) ∧ ∀ k, k < 12 → M 313 k = s_of C k 5 ∧ M 314 k = s_of C k 6 ∧ M 315 k = s_of C k 7
theorem oV_self {M : zM} {C : zBk} (h : oV M C) : oput M C = M := by
  funext q y
  unfold oput
  by_cases h0 : q = 312
  · rw [if_pos h0, h0]
    by_cases h3 : y = 5
    · rw [if_pos h3, h3]; exact h.1.symm
    rw [if_neg h3]
    by_cases h4 : 6 ≤ y ∧ y ≤ 16
    · rw [if_pos h4]; exact (h.2.1 y h4.1 h4.2).symm
    · rw [if_neg h4]
  rw [if_neg h0]
  by_cases h1 : q = 313
  · rw [if_pos h1, h1]
    by_cases hy : y < 12
    · rw [if_pos hy]; exact (h.2.2 y hy).1.symm
    · rw [if_neg hy]
  rw [if_neg h1]
  by_cases h3 : q = 314
  · rw [if_pos h3, h3]
    by_cases hy : y < 12
    · rw [if_pos hy]; exact (h.2.2 y hy).2.1.symm
    · rw [if_neg hy]
  rw [if_neg h3]
  by_cases h4 : q = 315
  · rw [if_pos h4, h4]
    by_cases hy : y < 12
    · rw [if_pos hy]; exact (h.2.2 y hy).2.2.symm
    · rw [if_neg hy]
  · rw [if_neg h4]
theorem oV_put (I : zM) (C : zBk) : oV (oput I C) C := ⟨op5, fun x h1 h2 => opF h1 h2, fun k hk => ⟨opR hk, opN hk, opW hk⟩⟩
theorem oV.fr {M N : zM} {C : zBk} (h : oV M C) (e : ∀ r, 312 ≤ r → N r = M r) : oV N C := by
  unfold oV
  rw [e 312 (by omega), e 313 (by omega), e 314 (by omega), e 315 (by omega)]
  exact h
