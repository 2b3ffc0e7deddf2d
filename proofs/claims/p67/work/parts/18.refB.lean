/-! THE REFERENCE: selection and the minute -/
section RFB
variable {G : zG} {w : Nat × Nat} {gl : Launch} {I : zM}
theorem s_cur_in {B : zBk} {n c t : Nat} (hf : s_wf B n c t) : s_cur B = -1 ∨ ∃ l, l < n ∧ s_cur B = nI l := by
  obtain ⟨-, -, -, -, -, f6, -⟩ := hf
  unfold s_cur
  rcases f6 with h | ⟨l, hl, h, -⟩
  · rw [if_pos h]; exact Or.inl rfl
  · by_cases h1 : B 11 = -1
    · rw [if_pos h1]; exact Or.inl rfl
    · rw [if_neg h1]
      by_cases h2 : s_done B (B 11).toNatClampNeg = true
      · rw [if_pos h2]; exact Or.inl rfl
      · rw [if_neg h2]; exact Or.inr ⟨l, hl, h⟩
theorem s_cur_open {B : zBk} {n c t : Nat} (hf : s_wf B n c t) (h : ¬ s_cur B = -1) : ∃ l, l < n ∧ s_cur B = nI l ∧ s_open B l = true := by
  obtain ⟨-, hn, -, -, -, f6, -⟩ := hf
  unfold s_cur at h ⊢
  rcases f6 with h0 | ⟨l, hl, h0, ha⟩
  · rw [if_pos h0] at h; exact absurd rfl h
  · have hne : ¬ B 11 = -1 := by rw [h0]; exact nI_ne_m1 (by omega)
    rw [if_neg hne] at h ⊢
    have hcl : (B 11).toNatClampNeg = l := by rw [h0]; exact nI_clamp (by omega)
    rw [hcl] at h ⊢
    by_cases h2 : s_done B l = true
    · rw [if_pos h2] at h; exact absurd rfl h
    · rw [if_neg h2]; exact ⟨l, hl, h0, by unfold s_open; rw [ha]; simpa using h2⟩
theorem wf_5 {B : zBk} {n c t : Nat} (hf : s_wf B n c t) : ¬ B 5 = 0 := fun h => by
  obtain ⟨-, -, -, -, -, -, ⟨h1, -⟩, -⟩ := hf
  rw [h] at h1
  exact absurd h1 (by decide)
end RFB
