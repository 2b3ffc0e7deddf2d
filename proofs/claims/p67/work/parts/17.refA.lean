/-! THE REFERENCE, method by method: reads of letters -/
section RFA
variable {G : zG} {w : Nat × Nat} {gl : Launch} {I : zM}
theorem ix_of {l f : Nat} : (64 : Int32) + nI l * 8 + nI f = nI (64 + l * 8 + f) := by
  rw [show (8 : Int32) = nI 8 from rfl, show (64 : Int32) = nI 64 from rfl, pk_mul, nI_add, nI_add]
end RFA
