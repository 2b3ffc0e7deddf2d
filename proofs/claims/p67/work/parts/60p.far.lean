/-! names that agree as far as they go (out of whole's part 79) -/
section FAR
variable {B C : zBk} {n c t l p : Nat}
/-! names that agree as far as they go -/
def nmE (c : Nat) (B C : zBk) : Prop := ∀ a, a < c → C (22 + a * 7) = B (22 + a * 7) ∧ ∀ k, k < (B (22 + a * 7)).toNatClampNeg → C (22 + a * 7 + 1 + k) = B (22 + a * 7 + 1 + k)
theorem nmE.rf : nmE c B B := fun _ _ => ⟨rfl, fun _ _ => rfl⟩
theorem nmE.tr {D : zBk} (h : nmE c B C) (h2 : nmE c C D) : nmE c B D := fun a ha => ⟨((h2 a ha).1).trans (h a ha).1, fun k hk => ((h2 a ha).2 k (by rw [(h a ha).1]; exact hk)).trans ((h a ha).2 k hk)⟩
theorem nmE.cg {B' C' : zBk} (h : nmE c B C) (hL : nmL B c) (e1 : ∀ k, 22 ≤ k → k < 22 + c * 7 → B' k = B k) (e2 : ∀ k, 22 ≤ k → k < 22 + c * 7 → C' k = C k) : nmE c B' C' := fun a ha => by
  obtain ⟨L, hL6, eL⟩ := hL.2 a ha
  obtain ⟨h1, h2⟩ := h a ha
  rw [eL, nI_clamp (by omega)] at h2
  rw [e1 _ (by omega) (by omega), e2 _ (by omega) (by omega), eL, nI_clamp (by omega)]
  refine ⟨by rw [← eL]; exact h1, fun k hk => ?_⟩
  rw [e1 _ (by omega) (by omega), e2 _ (by omega) (by omega)]
  exact h2 k hk
theorem nmE.L (h : nmE c B C) (hL : nmL B c) : nmL C c := ⟨hL.1, fun a ha => by
  obtain ⟨L, h6, e⟩ := hL.2 a ha
  exact ⟨L, h6, (h a ha).1.trans e⟩⟩
theorem find_nm {b : zBk} {fr m : Nat} (hL : nmL B c) (hE : nmE c B C) (hm : m ≤ 600) : ∀ k a, a + k ≤ c → tq_find C b fr m a k = tq_find B b fr m a k
  | 0, _, _ => rfl
  | k + 1, a, ha => by
    have es : tq_same C b fr m a = tq_same B b fr m a := by
      obtain ⟨L, h6, e⟩ := hL.2 a (by omega)
      obtain ⟨h1, h2⟩ := hE a (by omega)
      unfold tq_same
      rw [h1]
      by_cases e1 : B (22 + a * 7) = nI m
      · rw [e1, nI_clamp (by omega)] at h2
        rw [cm_cg (f := fun k => B (22 + a * 7 + 1 + k)) (f' := fun k => C (22 + a * 7 + 1 + k)) (g := fun k => b (fr + k)) (g' := fun k => b (fr + k)) m (fun k hk => by
          show C (22 + a * 7 + 1 + k) = _ ↔ B (22 + a * 7 + 1 + k) = _
          rw [h2 k hk])]
      · rw [decide_eq_false e1]; rfl
    unfold tq_find
    rw [es, find_nm hL hE hm k (a + 1) (by omega)]
theorem find_both {b b' : zBk} {N fr m : Nat} (h : bR b b' N) (hZ : nmZ B c) (hE : nmE c B C) (hm : m ≤ 600) (hfr : fr + m ≤ N) : tq_find C b' fr m 0 c = tq_find B b fr m 0 c := by
  rw [find_nm hZ.L hE hm c 0 (by omega)]
  exact bR_find h hZ hm hfr (fun _ _ _ => rfl)
/-! the letters' text, of both -/
theorem nm_both {a : Nat} (h2 : ∀ k, k < (B (22 + a * 7)).toNatClampNeg → C (22 + a * 7 + 1 + k) = B (22 + a * 7 + 1 + k)) : ∀ k, k ≤ (B (22 + a * 7)).toNatClampNeg → o_nm C a k = o_nm B a k
  | 0, _ => rfl
  | k + 1, hk => by
    unfold o_nm
    rw [nm_both h2 k (by omega), h2 k (by omega)]
end FAR
