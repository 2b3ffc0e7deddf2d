/-! TOKENS -/
def tq_bl (x : Int32) : Bool := decide (x = 32) || decide (x = 10)
def tq_sm (x : Int32) : Bool := decide (97 ≤ x) && decide (x ≤ 122)
def tq_dg (x : Int32) : Bool := decide (48 ≤ x) && decide (x ≤ 57)
/-- the first place from p on, over k steps, where q ends -/
def tq_wh (q : Int32 → Bool) (b : zBk) : Nat → Nat → Nat
  | 0, p => p
  | k + 1, p => if q (b p) = true then tq_wh q b k (p + 1) else p
def tq_val (b : zBk) (p : Nat) : Nat → Int32
  | 0 => 0
  | k + 1 => tq_val b p k * 10 + b (p + k) - 48
theorem tq_wh_in (q : Int32 → Bool) (b : zBk) : ∀ k p, p ≤ tq_wh q b k p ∧ tq_wh q b k p ≤ p + k
  | 0, p => ⟨Nat.le_refl _, Nat.le_refl _⟩
  | k + 1, p => by
    unfold tq_wh
    split
    · have := tq_wh_in q b k (p + 1); omega
    · omega
theorem tq_wh_cg {q r : Int32 → Bool} {b b' : zBk} : ∀ k p, (∀ j, p ≤ j → j < p + k → r (b' j) = q (b j)) → tq_wh r b' k p = tq_wh q b k p
  | 0, _, _ => rfl
  | k + 1, p, h => by
    unfold tq_wh
    rw [h p (Nat.le_refl _) (by omega), tq_wh_cg k (p + 1) (fun j h1 h2 => h j (by omega) (by omega))]
theorem tq_wh_all (q : Int32 → Bool) (b : zBk) : ∀ k p j, p ≤ j → j < tq_wh q b k p → q (b j) = true
  | 0, p, j, h1, h2 => by
    unfold tq_wh at h2; omega
  | k + 1, p, j, h1, h2 => by
    unfold tq_wh at h2
    by_cases h : q (b p) = true
    · rw [if_pos h] at h2
      by_cases e : j = p
      · rw [e]; exact h
      · exact tq_wh_all q b k (p + 1) j (by omega) h2
    · rw [if_neg h] at h2; omega
theorem tq_wh_1 {q : Int32 → Bool} {b : zBk} {k p : Nat} (hk : 0 < k) (h : q (b p) = true) : p < tq_wh q b k p := by
  obtain ⟨m, rfl⟩ : ∃ m, k = m + 1 := ⟨k - 1, by omega⟩
  unfold tq_wh
  rw [if_pos h]
  have := (tq_wh_in q b m (p + 1)).1
  omega
/-- a token: its kind, its first place, the place behind it -/
def tq_fr (b : zBk) (N p : Nat) : Nat := tq_wh tq_bl b (N - p) p
def tq_at (b : zBk) (N fr : Nat) : Nat × Nat × Nat :=
  if fr = N then (0, fr, fr)
  else if tq_sm (b fr) = true then (if tq_wh tq_sm b (N - fr) fr - fr ≤ 8 then 1 else 4, fr, tq_wh tq_sm b (N - fr) fr)
  else if tq_dg (b fr) = true then (if tq_wh tq_dg b (N - fr) fr - fr ≤ 3 then 2 else 4, fr, tq_wh tq_dg b (N - fr) fr)
  else (if b fr = 59 then 3 else 4, fr, fr + 1)
def tq_tok (b : zBk) (N p : Nat) : Nat × Nat × Nat := tq_at b N (tq_fr b N p)
/-- whether the token is a run of digits -/
def tq_isn (b : zBk) (N p : Nat) : Bool := !decide (tq_fr b N p = N) && !tq_sm (b (tq_fr b N p)) && tq_dg (b (tq_fr b N p))
def tq_vv (F b : zBk) (N p : Nat) : Int32 := if tq_isn b N p = true then tq_val b (tq_fr b N p) (min ((tq_tok b N p).2.2 - tq_fr b N p) 3) else F 13
def tq_put (F b : zBk) (N p : Nat) : zBk := fun j => if j = 10 then nI (tq_tok b N p).2.2 else if j = 11 then nI (tq_tok b N p).1 else if j = 12 then nI (tq_tok b N p).2.1 else if j = 13 then tq_vv F b N p else F j
theorem tq_tok_in {b : zBk} {N p : Nat} (h : p ≤ N) : (tq_tok b N p).1 ≤ 4 ∧ p ≤ (tq_tok b N p).2.1 ∧ (tq_tok b N p).2.1 ≤ (tq_tok b N p).2.2 ∧ (tq_tok b N p).2.2 ≤ N ∧ (tq_tok b N p).2.1 = tq_fr b N p := by
  have h1 := tq_wh_in tq_bl b (N - p) p
  unfold tq_tok tq_at tq_fr
  generalize tq_wh tq_bl b (N - p) p = fr at h1 ⊢
  by_cases c1 : fr = N
  · rw [if_pos c1]; exact ⟨Nat.zero_le _, by show p ≤ fr; omega, Nat.le_refl _, by show fr ≤ N; omega, rfl⟩
  · rw [if_neg c1]
    by_cases c2 : tq_sm (b fr) = true
    · rw [if_pos c2]
      have h2 := tq_wh_in tq_sm b (N - fr) fr
      simp only
      refine ⟨?_, by omega, by omega, by omega, trivial⟩
      split <;> omega
    · rw [if_neg c2]
      by_cases c3 : tq_dg (b fr) = true
      · rw [if_pos c3]
        have h2 := tq_wh_in tq_dg b (N - fr) fr
        simp only
        refine ⟨?_, by omega, by omega, by omega, trivial⟩
        split <;> omega
      · rw [if_neg c3]
        simp only
        refine ⟨?_, by omega, by omega, by omega, trivial⟩
        split <;> omega
theorem tq_fr_in {b : zBk} {N p : Nat} (h : p ≤ N) : p ≤ tq_fr b N p ∧ tq_fr b N p ≤ N := by
  have h1 := tq_wh_in tq_bl b (N - p) p
  unfold tq_fr; omega
/-- what the kind tells -/
theorem tq_kind1 {b : zBk} {N p : Nat} (hp : p ≤ N) (h : (tq_tok b N p).1 = 1) : tq_fr b N p < N ∧ (∀ j, tq_fr b N p ≤ j → j < (tq_tok b N p).2.2 → tq_sm (b j) = true) ∧ tq_fr b N p < (tq_tok b N p).2.2 ∧ (tq_tok b N p).2.2 - tq_fr b N p ≤ 8 := by
  have h0 := (tq_fr_in (b := b) hp).2
  unfold tq_tok tq_at at h ⊢
  generalize tq_fr b N p = fr at h h0 ⊢
  by_cases c1 : fr = N
  · rw [if_pos c1] at h; simp at h
  · rw [if_neg c1] at h ⊢
    by_cases c2 : tq_sm (b fr) = true
    · rw [if_pos c2] at h ⊢
      have e : tq_wh tq_sm b (N - fr) fr - fr ≤ 8 := by
        by_cases c4 : tq_wh tq_sm b (N - fr) fr - fr ≤ 8
        · exact c4
        · simp [c4] at h
      exact ⟨by omega, fun j => tq_wh_all tq_sm b (N - fr) fr j, tq_wh_1 (by omega) c2, e⟩
    · rw [if_neg c2] at h
      by_cases c3 : tq_dg (b fr) = true
      · rw [if_pos c3] at h
        by_cases c4 : tq_wh tq_dg b (N - fr) fr - fr ≤ 3 <;> simp [c4] at h
      · rw [if_neg c3] at h
        by_cases c4 : b fr = 59 <;> simp [c4] at h
theorem tq_kind2 {b : zBk} {N p : Nat} (hp : p ≤ N) (h : (tq_tok b N p).1 = 2) : tq_isn b N p = true ∧ tq_fr b N p < N ∧ (∀ j, tq_fr b N p ≤ j → j < (tq_tok b N p).2.2 → tq_dg (b j) = true) ∧ tq_fr b N p < (tq_tok b N p).2.2 ∧ (tq_tok b N p).2.2 - tq_fr b N p ≤ 3 := by
  have h0 := (tq_fr_in (b := b) hp).2
  unfold tq_isn
  unfold tq_tok tq_at at h ⊢
  generalize tq_fr b N p = fr at h h0 ⊢
  by_cases c1 : fr = N
  · rw [if_pos c1] at h; simp at h
  · rw [if_neg c1] at h ⊢
    by_cases c2 : tq_sm (b fr) = true
    · rw [if_pos c2] at h
      by_cases c4 : tq_wh tq_sm b (N - fr) fr - fr ≤ 8 <;> simp [c4] at h
    · rw [if_neg c2] at h ⊢
      by_cases c3 : tq_dg (b fr) = true
      · rw [if_pos c3] at h ⊢
        have e : tq_wh tq_dg b (N - fr) fr - fr ≤ 3 := by
          by_cases c4 : tq_wh tq_dg b (N - fr) fr - fr ≤ 3
          · exact c4
          · simp [c4] at h
        exact ⟨by simp [c1, c2, c3], by omega, fun j => tq_wh_all tq_dg b (N - fr) fr j, tq_wh_1 (by omega) c3, e⟩
      · rw [if_neg c3] at h
        by_cases c4 : b fr = 59 <;> simp [c4] at h
theorem tq_kind0 {b : zBk} {N p : Nat} (h : (tq_tok b N p).1 = 0) : tq_fr b N p = N := by
  unfold tq_tok tq_at at h
  generalize tq_fr b N p = fr at h ⊢
  by_cases c1 : fr = N
  · exact c1
  · rw [if_neg c1] at h
    by_cases c2 : tq_sm (b fr) = true
    · rw [if_pos c2] at h
      by_cases c4 : tq_wh tq_sm b (N - fr) fr - fr ≤ 8 <;> simp [c4] at h
    · rw [if_neg c2] at h
      by_cases c3 : tq_dg (b fr) = true
      · rw [if_pos c3] at h
        by_cases c4 : tq_wh tq_dg b (N - fr) fr - fr ≤ 3 <;> simp [c4] at h
      · rw [if_neg c3] at h
        by_cases c4 : b fr = 59 <;> simp [c4] at h
section RTK
variable {G : zG} {w : Nat × Nat} {gl : Launch} {I : zM}
theorem nI_sub {a b : Nat} (h : b ≤ a) : nI a - nI b = nI (a - b) := by
  have e : nI (a - b) + nI b = nI a := by rw [nI_add, Nat.sub_add_cancel h]
  rw [← e]; exact i_add_sub
theorem u315 {F : Nat → Int32} : ups I 312 F 315 = I 315 := ups_ne _ _ (by decide)
end RTK
