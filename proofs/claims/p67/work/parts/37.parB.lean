/-! THE REFERENCE'S PARSER: clerks, letters, the setup -/
section RPB
variable {G : zG} {w : Nat × Nat} {gl : Launch} {I : zM} {N : Nat}
theorem nm_far {B b : zBk} {c fr j : Nat} : ∀ k, (j < 22 + c * 7 + 1 ∨ 22 + c * 7 + 1 + k ≤ j) → s_nm B b c fr k j = B j
  | 0, _ => rfl
  | k + 1, h => by
    unfold s_nm
    rw [upd_ne _ _ (by omega), nm_far k (by omega)]
theorem nm_at {B b : zBk} {c fr i : Nat} : ∀ k, i < k → s_nm B b c fr k (22 + c * 7 + 1 + i) = b (fr + i)
  | 0, h => absurd h (Nat.not_lt_zero i)
  | k + 1, h => by
    unfold s_nm
    by_cases e : i = k
    · rw [e, upd_same]
    · rw [upd_ne _ _ (by omega), nm_at k (by omega)]
theorem short0 {t : zTk} (h : tq_short t = 0) : t.1 = 1 ∧ tq_ln t ≤ 6 := by
  unfold tq_short at h
  by_cases c : t.1 = 1
  · rw [if_pos c] at h
    by_cases d : t.2.2.1 - t.2.1 ≤ 6
    · exact ⟨c, d⟩
    · rw [if_neg d] at h; exact absurd h (by decide)
  · rw [if_neg c] at h; exact absurd h (by decide)
/-- the clerks of a block that is being read -/
def clOK (B : zBk) (c : Nat) : Prop := B 7 = nI c ∧ nmL B c
theorem semi0 {b : zBk} {t : zTk} {B : zBk} (h : (rp_semi b N t B).1 = 0) : rp_semi b N t B = (0, tq_nx b N t, B) := by
  unfold rp_semi at h ⊢
  by_cases c : t.1 = 3
  · rw [if_pos c]
  · rw [if_neg c] at h; exact absurd (show (1 : Nat) = 0 from h) (by decide)
theorem semi1 {b : zBk} {t : zTk} {B : zBk} (h : (rp_semi b N t B).1 ≠ 0) : rp_semi b N t B = (1, t, B) := by
  unfold rp_semi at h ⊢
  by_cases c : t.1 = 3
  · rw [if_pos c] at h; exact absurd rfl h
  · rw [if_neg c]
theorem clerk_ok {b : zBk} {t : zTk} {B : zBk} {c : Nat} (hok : tOK b N t) (hc : clOK B c) (h0 : (rp_clerk b N t B c).1 = 0) : c < 6 ∧ tOK b N (rp_clerk b N t B c).2.1 ∧ clOK (rp_clerk b N t B c).2.2 (c + 1) ∧ (∀ j, j < 22 → j ≠ 7 → (rp_clerk b N t B c).2.2 j = B j) ∧ (∀ j, 64 ≤ j → (rp_clerk b N t B c).2.2 j = B j) := by
  unfold rp_clerk at h0 ⊢
  by_cases c6 : c = 6
  · rw [if_pos c6] at h0; exact absurd (show (4 : Nat) = 0 from h0) (by decide)
  rw [if_neg c6] at h0 ⊢
  by_cases hs : tq_short (tq_nx b N t) = 0
  · rw [if_pos hs] at h0 ⊢
    by_cases hf : tq_find B b (tq_nx b N t).2.1 (tq_ln (tq_nx b N t)) 0 c = -1
    · rw [if_pos hf] at h0 ⊢
      have hl := (short0 hs).2
      have hlt : c < 6 := by have := hc.2.1; omega
      by_cases hm : (rp_semi b N (tq_nx b N (tq_nx b N t)) (s_nm (upd B (22 + c * 7) (nI (tq_ln (tq_nx b N t)))) b c (tq_nx b N t).2.1 (tq_ln (tq_nx b N t)))).1 = 0
      · rw [rb0 hm, semi0 hm]
        dsimp only
        have far : ∀ j, (j < 22 + c * 7 ∨ 22 + c * 7 + 7 ≤ j) → s_nm (upd B (22 + c * 7) (nI (tq_ln (tq_nx b N t)))) b c (tq_nx b N t).2.1 (tq_ln (tq_nx b N t)) j = B j := fun j hj => by
          rw [nm_far _ (by omega), upd_ne _ _ (by omega)]
        refine ⟨hlt, kT_nx (kT_nx (kT_nx hok)), ⟨?_, by omega, fun a ha => ?_⟩, fun j h1 h2 => ?_, fun j h1 => ?_⟩
        · show upd _ 7 _ 7 = _
          rw [upd_same, far 7 (by omega), hc.1, nI_1]
        · show ∃ L, L ≤ 6 ∧ upd _ 7 _ (22 + a * 7) = nI L
          rw [upd_ne _ _ (by omega)]
          by_cases e : a = c
          · subst e
            exact ⟨tq_ln (tq_nx b N t), hl, by rw [nm_far _ (by omega), upd_same]⟩
          · obtain ⟨L, h1, h2⟩ := hc.2.2 a (by omega)
            exact ⟨L, h1, by rw [far _ (by omega), h2]⟩
        · show upd _ 7 _ j = _
          rw [upd_ne _ _ h2, far j (by omega)]
        · show upd _ 7 _ j = _
          rw [upd_ne _ _ (by omega), far j (by omega)]
      · rw [rb1 hm] at h0; exact absurd h0 hm
    · rw [if_neg hf] at h0; exact absurd (show (3 : Nat) = 0 from h0) (by decide)
  · rw [if_neg hs] at h0; exact absurd h0 hs
end RPB
