/-! THE REFERENCE'S PARSER: letters and the whole setup -/
section RPC
variable {G : zG} {w : Nat × Nat} {gl : Launch} {I : zM} {N : Nat}
theorem rng_ne {b : zBk} {t : zTk} {B : zBk} {to j : Nat} {lo hi : Int32} (h : j ≠ to) : (rp_rng b N t B to lo hi).2.2 j = B j := by
  unfold rp_rng
  split
  · split
    · exact upd_ne _ _ h
    · rfl
  · rfl
theorem semi_B {b : zBk} {t : zTk} {B : zBk} : (rp_semi b N t B).2.2 = B := by
  unfold rp_semi
  split <;> rfl
theorem add_8 {B : zBk} {n : Nat} {x1 x2 x3 x4 x5 : Int32} : s_add B n x1 x2 x3 x4 x5 8 = B 8 + 1 := upd_same _ _ _
theorem add_lo {B : zBk} {n j : Nat} {x1 x2 x3 x4 x5 : Int32} (h : j < 64) (h8 : j ≠ 8) : s_add B n x1 x2 x3 x4 x5 j = B j := by
  unfold s_add
  rw [upd_ne _ _ h8, set_lo h, set_lo h, set_lo h, set_lo h, set_lo h, set_lo h, set_lo h, set_lo h]
theorem rng0 {b : zBk} {t : zTk} {B : zBk} {to : Nat} {lo hi : Int32} (h : (rp_rng b N t B to lo hi).1 = 0) : t.1 = 2 ∧ s_in t.2.2.2 lo hi = true ∧ rp_rng b N t B to lo hi = (0, tq_nx b N t, upd B to t.2.2.2) := by
  unfold rp_rng at h ⊢
  by_cases c : t.1 = 2
  · rw [if_pos c] at h ⊢
    by_cases d : s_in t.2.2.2 lo hi = true
    · rw [if_pos d] at h ⊢; exact ⟨c, d, rfl⟩
    · rw [if_neg d] at h; exact absurd (show (2 : Nat) = 0 from h) (by decide)
  · rw [if_neg c] at h; exact absurd (show (1 : Nat) = 0 from h) (by decide)
theorem rb_inv {r : zRs} {f : zTk → zBk → zRs} (h : (rbind r f).1 = 0) : r.1 = 0 ∧ rbind r f = f r.2.1 r.2.2 := by
  by_cases c : r.1 = 0
  · exact ⟨c, rb0 c⟩
  · rw [rb1 c] at h; exact absurd h c
/-- what a letter that was read is -/
theorem letter_ok {b : zBk} {c n : Nat} {t : zTk} {B : zBk} (hok : tOK b N t) (h0 : (rp_letter b N c t B n).1 = 0) : n ≠ 12 ∧ tq_short (tq_nx b N t) = 0 ∧ (∃ a, a < c ∧ tq_find B b (tq_nx b N t).2.1 (tq_ln (tq_nx b N t)) 0 c = nI a) ∧ tOK b N (rp_letter b N c t B n).2.1 ∧ ∃ x1 x2 x3 x4 : Int32, s_in x1 1 30 = true ∧ s_in x2 0 999 = true ∧ s_in x3 1 999 = true ∧ s_in x4 0 9 = true ∧ ∃ C : zBk, (rp_letter b N c t B n).2.2 = s_add C n (tq_find B b (tq_nx b N t).2.1 (tq_ln (tq_nx b N t)) 0 c) x1 x2 x3 x4 ∧ ∀ j, (j < 64 + n * 8 ∨ 64 + n * 8 + 8 ≤ j) → C j = B j := by
  unfold rp_letter at h0 ⊢
  by_cases c6 : n = 12
  · rw [if_pos c6] at h0; exact absurd (show (4 : Nat) = 0 from h0) (by decide)
  rw [if_neg c6] at h0 ⊢
  by_cases hs : tq_short (tq_nx b N t) = 0
  · rw [if_pos hs] at h0 ⊢
    by_cases hf : tq_find B b (tq_nx b N t).2.1 (tq_ln (tq_nx b N t)) 0 c = -1
    · rw [if_pos hf] at h0; exact absurd (show (3 : Nat) = 0 from h0) (by decide)
    · rw [if_neg hf] at h0 ⊢
      obtain ⟨g1, e1⟩ := rb_inv h0
      rw [e1] at h0 ⊢
      obtain ⟨-, v1, r1⟩ := rng0 g1
      obtain ⟨g2, e2⟩ := rb_inv h0
      rw [e2] at h0 ⊢
      obtain ⟨-, v2, r2⟩ := rng0 g2
      obtain ⟨g3, e3⟩ := rb_inv h0
      rw [e3] at h0 ⊢
      obtain ⟨-, v3, r3⟩ := rng0 g3
      obtain ⟨g4, e4⟩ := rb_inv h0
      rw [e4] at h0 ⊢
      obtain ⟨-, v4, r4⟩ := rng0 g4
      obtain ⟨g5, e5⟩ := rb_inv h0
      rw [e5]
      have r5 := semi0 g5
      refine ⟨c6, hs, ?_, ?_, _, _, _, _, ?_, ?_, ?_, ?_, _, rfl, fun j hj => ?_⟩
      · rcases find_in B b (tq_nx b N t).2.1 (tq_ln (tq_nx b N t)) c 0 with q | ⟨a, -, h2, h3⟩
        · exact absurd q hf
        · exact ⟨a, by omega, h3⟩
      · dsimp only
        rw [r5]
        exact kT_nx (rng_ok (rng_ok (rng_ok (rng_ok (kT_nx (kT_nx hok))))))
      · rw [semi_B, rng_ne (by omega), rng_ne (by omega), rng_ne (by omega), r1]
        dsimp only; rw [upd_same]; exact v1
      · rw [semi_B, rng_ne (by omega), rng_ne (by omega), r2]
        dsimp only; rw [upd_same]; exact v2
      · rw [semi_B, rng_ne (by omega), r3]
        dsimp only; rw [upd_same]; exact v3
      · rw [semi_B, r4]
        dsimp only; rw [upd_same]; exact v4
      · rw [semi_B, rng_ne (by omega), rng_ne (by omega), rng_ne (by omega), rng_ne (by omega)]
  · rw [if_neg hs] at h0; exact absurd h0 hs
end RPC
