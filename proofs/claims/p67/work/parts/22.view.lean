/-! A STATE OBJECT AS A BLOCK: role s holds the block B, and c as its current letter -/
def sput (I : zM) (s : Nat) (B : zBk) (c : Int32) : zM := fun r x =>
  if r = s then (if x = 3 then B 8 else if x = 4 then B 9 else if x = 5 then B 0 else if x = 6 then B 10 else if x = 7 then c else if 8 ≤ x ∧ x ≤ 18 then B (x + 3) else I r x)
  else if r = s + 1 then (if x < 6 then B (x + 1) else I r x)
  else if r = s + 2 then (if x = 0 then B 7 else I r x)
  else if s + 4 ≤ r ∧ r < s + 10 then (if x < 6 then B (22 + (r - (s + 4)) * 7 + 1 + x) else I r x)
  else if r = s + 10 then (if x < 6 then B (22 + x * 7) else I r x)
  else if s + 12 ≤ r ∧ r < s + 24 then (if x < 8 then B (64 + (r - (s + 12)) * 8 + x) else I r x)
  else I r x
def vB (I : zM) (s : Nat) : zBk := fun k =>
  if k = 0 then I s 5 else if k ≤ 6 then I (s + 1) (k - 1) else if k = 7 then I (s + 2) 0 else if k = 8 then I s 3 else if k = 9 then I s 4 else if k = 10 then I s 6 else if k ≤ 21 then I s (k - 3)
  else if k < 64 then (if (k - 22) % 7 = 0 then I (s + 10) ((k - 22) / 7) else I (s + 4 + (k - 22) / 7) ((k - 22) % 7 - 1)) else I (s + 12 + (k - 64) / 8) ((k - 64) % 8)
theorem zLr9 : ∀ s, s < zNN → LT s = 9 → LR s 0 = s + 1 ∧ LR s 1 = s + 2 ∧ LR s 2 = s + 11 ∧ LR (s + 2) 1 = s + 3 ∧ LR (s + 2) 2 = s + 10 ∧ (∀ l, l < 12 → LR (s + 11) l = s + 12 + l) ∧ ∀ c, c < 6 → LR (s + 3) c = s + 4 + c := by decide +kernel
theorem isT.lr {w : Nat × Nat} {s : Nat} (hw : wOK w) (t : isT w 9 s) : LR s 0 = s + 1 ∧ LR s 1 = s + 2 ∧ LR s 2 = s + 11 ∧ LR (s + 2) 1 = s + 3 ∧ LR (s + 2) 2 = s + 10 ∧ (∀ l, l < 12 → LR (s + 11) l = s + 12 + l) ∧ ∀ c, c < 6 → LR (s + 3) c = s + 4 + c := zLr9 s (Nat.lt_of_lt_of_le t.1.2 hw.1) t.2
section VW
variable {I : zM} {s : Nat} {B : zBk} {c : Int32}
theorem sp3 : sput I s B c s 3 = B 8 := by simp [sput]
theorem sp4 : sput I s B c s 4 = B 9 := by simp [sput]
theorem sp5 : sput I s B c s 5 = B 0 := by simp [sput]
theorem sp6 : sput I s B c s 6 = B 10 := by simp [sput]
theorem sp7 : sput I s B c s 7 = c := by simp [sput]
theorem sp8 : sput I s B c s 8 = B 11 := by simp [sput]
theorem sp9 : sput I s B c s 9 = B 12 := by simp [sput]
theorem sp10 : sput I s B c s 10 = B 13 := by simp [sput]
theorem sp11 : sput I s B c s 11 = B 14 := by simp [sput]
theorem sp12 : sput I s B c s 12 = B 15 := by simp [sput]
theorem sp13 : sput I s B c s 13 = B 16 := by simp [sput]
theorem sp14 : sput I s B c s 14 = B 17 := by simp [sput]
theorem sp15 : sput I s B c s 15 = B 18 := by simp [sput]
theorem sp16 : sput I s B c s 16 = B 19 := by simp [sput]
theorem sp17 : sput I s B c s 17 = B 20 := by simp [sput]
theorem sp18 : sput I s B c s 18 = B 21 := by simp [sput]
theorem spS {k : Nat} (h : k < 6) : sput I s B c (s + 1) k = B (k + 1) := by simp [sput, h]
theorem spS0 : sput I s B c (s + 1) 0 = B 1 := spS (by omega)
theorem spS1 : sput I s B c (s + 1) 1 = B 2 := spS (by omega)
theorem spS2 : sput I s B c (s + 1) 2 = B 3 := spS (by omega)
theorem spS3 : sput I s B c (s + 1) 3 = B 4 := spS (by omega)
theorem spS4 : sput I s B c (s + 1) 4 = B 5 := spS (by omega)
theorem spS5 : sput I s B c (s + 1) 5 = B 6 := spS (by omega)
theorem spC : sput I s B c (s + 2) 0 = B 7 := by simp [sput]
theorem spL {l f : Nat} (hl : l < 12) (hf : f < 8) : sput I s B c (s + 12 + l) f = s_of B l f := by
  unfold sput s_of
  rw [if_neg (by omega), if_neg (by omega), if_neg (by omega), if_neg (by omega), if_neg (by omega), if_pos (by omega), if_pos hf]
  congr 1; omega
theorem spN {a k : Nat} (ha : a < 6) (hk : k < 6) : sput I s B c (s + 4 + a) k = B (22 + a * 7 + 1 + k) := by
  unfold sput
  rw [if_neg (by omega), if_neg (by omega), if_neg (by omega), if_pos (by omega), if_pos hk]
  congr 1; omega
theorem spW {a : Nat} (ha : a < 6) : sput I s B c (s + 10) a = B (22 + a * 7) := by
  unfold sput
  rw [if_neg (by omega), if_neg (by omega), if_neg (by omega), if_neg (by omega), if_pos rfl, if_pos ha]
theorem su_gen {r x k : Nat} {v : Int32} (h1 : ∀ C : zBk, sput I s C c r x = C k) (h2 : ∀ (q y : Nat), (q ≠ r ∨ y ≠ x) → sput I s (upd B k v) c q y = sput I s B c q y) : up (sput I s B c) r x v = sput I s (upd B k v) c := by
  funext q y
  unfold up ups
  by_cases hq : q = r
  · rw [if_pos hq]
    by_cases hy : y = x
    · rw [hq, hy, upd_same, h1, upd_same]
    · rw [upd_ne _ _ hy, h2 q y (Or.inr hy), hq]
  · rw [if_neg hq, h2 q y (Or.inl hq)]
theorem su7 {v : Int32} : up (sput I s B c) s 7 v = sput I s B v := by
  funext q y
  unfold up ups
  by_cases hq : q = s
  · rw [if_pos hq]
    by_cases hy : y = 7
    · rw [hq, hy, upd_same, sp7]
    · rw [upd_ne _ _ hy]; subst hq; simp [sput, hy]
  · rw [if_neg hq]; simp [sput, hq]
end VW
/-- the place of k -/
def spl (s k : Nat) : Nat × Nat :=
  if k = 0 then (s, 5) else if k ≤ 6 then (s + 1, k - 1) else if k = 7 then (s + 2, 0) else if k = 8 then (s, 3) else if k = 9 then (s, 4) else if k = 10 then (s, 6) else if k ≤ 21 then (s, k - 3)
  else if k < 64 then (if (k - 22) % 7 = 0 then (s + 10, (k - 22) / 7) else (s + 4 + (k - 22) / 7, (k - 22) % 7 - 1)) else (s + 12 + (k - 64) / 8, (k - 64) % 8)
theorem sput_far {I : zM} {s : Nat} {B : zBk} {c v : Int32} {k q y : Nat} (h : (q, y) ≠ spl s k) : sput I s (upd B k v) c q y = sput I s B c q y := by
  have key : ∀ j, (q, y) = spl s j → upd B k v j = B j := fun j hj => upd_ne _ _ (fun e => h (by rw [← e]; exact hj))
  unfold sput
  by_cases h0 : q = s
  · rw [if_pos h0, if_pos h0]
    by_cases h3 : y = 3
    · rw [if_pos h3, if_pos h3]; exact key 8 (by subst h0; subst h3; rfl)
    rw [if_neg h3, if_neg h3]
    by_cases h4 : y = 4
    · rw [if_pos h4, if_pos h4]; exact key 9 (by subst h0; subst h4; rfl)
    rw [if_neg h4, if_neg h4]
    by_cases h5 : y = 5
    · rw [if_pos h5, if_pos h5]; exact key 0 (by subst h0; subst h5; rfl)
    rw [if_neg h5, if_neg h5]
    by_cases h6 : y = 6
    · rw [if_pos h6, if_pos h6]; exact key 10 (by subst h0; subst h6; rfl)
    rw [if_neg h6, if_neg h6]
    by_cases h7 : y = 7
    · rw [if_pos h7, if_pos h7]
    rw [if_neg h7, if_neg h7]
    by_cases h8 : 8 ≤ y ∧ y ≤ 18
    · rw [if_pos h8, if_pos h8]
      refine key (y + 3) ?_
      unfold spl
      rw [if_neg (by omega), if_neg (by omega), if_neg (by omega), if_neg (by omega), if_neg (by omega), if_neg (by omega), if_pos (by omega), h0]
      rfl
    · rw [if_neg h8, if_neg h8]
  rw [if_neg h0, if_neg h0]
  by_cases h1 : q = s + 1
  · rw [if_pos h1, if_pos h1]
    by_cases hy : y < 6
    · rw [if_pos hy, if_pos hy]
      refine key (y + 1) ?_
      unfold spl
      rw [if_neg (by omega), if_pos (by omega), h1]
      rfl
    · rw [if_neg hy, if_neg hy]
  rw [if_neg h1, if_neg h1]
  by_cases h2 : q = s + 2
  · rw [if_pos h2, if_pos h2]
    by_cases hy : y = 0
    · rw [if_pos hy, if_pos hy]; exact key 7 (by subst h2; subst hy; rfl)
    · rw [if_neg hy, if_neg hy]
  rw [if_neg h2, if_neg h2]
  by_cases h3 : s + 4 ≤ q ∧ q < s + 10
  · rw [if_pos h3, if_pos h3]
    by_cases hy : y < 6
    · rw [if_pos hy, if_pos hy]
      refine key _ ?_
      unfold spl
      have e1 : (22 + (q - (s + 4)) * 7 + 1 + y - 22) % 7 = y + 1 := by omega
      have e2 : (22 + (q - (s + 4)) * 7 + 1 + y - 22) / 7 = q - (s + 4) := by omega
      rw [if_neg (by omega), if_neg (by omega), if_neg (by omega), if_neg (by omega), if_neg (by omega), if_neg (by omega), if_neg (by omega), if_pos (by omega), if_neg (by omega), e1, e2]
      exact Prod.ext (by show q = _; omega) (by show y = _; omega)
    · rw [if_neg hy, if_neg hy]
  rw [if_neg h3, if_neg h3]
  by_cases h4 : q = s + 10
  · rw [if_pos h4, if_pos h4]
    by_cases hy : y < 6
    · rw [if_pos hy, if_pos hy]
      refine key _ ?_
      unfold spl
      rw [if_neg (by omega), if_neg (by omega), if_neg (by omega), if_neg (by omega), if_neg (by omega), if_neg (by omega), if_neg (by omega), if_pos (by omega), if_pos (by omega)]
      exact Prod.ext (by show q = _; omega) (by show y = _; omega)
    · rw [if_neg hy, if_neg hy]
  rw [if_neg h4, if_neg h4]
  by_cases h5 : s + 12 ≤ q ∧ q < s + 24
  · rw [if_pos h5, if_pos h5]
    by_cases hy : y < 8
    · rw [if_pos hy, if_pos hy]
      refine key _ ?_
      unfold spl
      rw [if_neg (by omega), if_neg (by omega), if_neg (by omega), if_neg (by omega), if_neg (by omega), if_neg (by omega), if_neg (by omega), if_neg (by omega)]
      exact Prod.ext (by show q = _; omega) (by show y = _; omega)
    · rw [if_neg hy, if_neg hy]
  rw [if_neg h5, if_neg h5]
theorem su_at {I : zM} {s : Nat} {B : zBk} {c v : Int32} {r x k : Nat} (hp : spl s k = (r, x)) (h1 : ∀ C : zBk, sput I s C c r x = C k) : up (sput I s B c) r x v = sput I s (upd B k v) c :=
  su_gen h1 (fun q y h => sput_far (fun e => by rw [hp] at e; cases e; rcases h with h | h <;> exact h rfl))
section VX
variable {I : zM} {s : Nat} {B : zBk} {c : Int32}
theorem su3 {v : Int32} : up (sput I s B c) s 3 v = sput I s (upd B 8 v) c := su_at rfl (fun _ => sp3)
theorem su4 {v : Int32} : up (sput I s B c) s 4 v = sput I s (upd B 9 v) c := su_at rfl (fun _ => sp4)
theorem su5 {v : Int32} : up (sput I s B c) s 5 v = sput I s (upd B 0 v) c := su_at rfl (fun _ => sp5)
theorem su6 {v : Int32} : up (sput I s B c) s 6 v = sput I s (upd B 10 v) c := su_at rfl (fun _ => sp6)
theorem su8 {v : Int32} : up (sput I s B c) s 8 v = sput I s (upd B 11 v) c := su_at rfl (fun _ => sp8)
theorem su9 {v : Int32} : up (sput I s B c) s 9 v = sput I s (upd B 12 v) c := su_at rfl (fun _ => sp9)
theorem su10 {v : Int32} : up (sput I s B c) s 10 v = sput I s (upd B 13 v) c := su_at rfl (fun _ => sp10)
theorem su11 {v : Int32} : up (sput I s B c) s 11 v = sput I s (upd B 14 v) c := su_at rfl (fun _ => sp11)
theorem su12 {v : Int32} : up (sput I s B c) s 12 v = sput I s (upd B 15 v) c := su_at rfl (fun _ => sp12)
theorem su13 {v : Int32} : up (sput I s B c) s 13 v = sput I s (upd B 16 v) c := su_at rfl (fun _ => sp13)
theorem su14 {v : Int32} : up (sput I s B c) s 14 v = sput I s (upd B 17 v) c := su_at rfl (fun _ => sp14)
theorem su15 {v : Int32} : up (sput I s B c) s 15 v = sput I s (upd B 18 v) c := su_at rfl (fun _ => sp15)
theorem su16 {v : Int32} : up (sput I s B c) s 16 v = sput I s (upd B 19 v) c := su_at rfl (fun _ => sp16)
theorem su17 {v : Int32} : up (sput I s B c) s 17 v = sput I s (upd B 20 v) c := su_at rfl (fun _ => sp17)
theorem su18 {v : Int32} : up (sput I s B c) s 18 v = sput I s (upd B 21 v) c := su_at rfl (fun _ => sp18)
theorem suS {k : Nat} {v : Int32} (h : k < 6) : up (sput I s B c) (s + 1) k v = sput I s (upd B (k + 1) v) c := su_at (by unfold spl; rw [if_neg (by omega), if_pos (by omega)]; rfl) (fun _ => spS h)
theorem suC {v : Int32} : up (sput I s B c) (s + 2) 0 v = sput I s (upd B 7 v) c := su_at rfl (fun _ => spC)
theorem suL {l f : Nat} {v : Int32} (hl : l < 12) (hf : f < 8) : up (sput I s B c) (s + 12 + l) f v = sput I s (s_set B l f v) c := su_at (by
  unfold spl
  rw [if_neg (by omega), if_neg (by omega), if_neg (by omega), if_neg (by omega), if_neg (by omega), if_neg (by omega), if_neg (by omega), if_neg (by omega)]
  exact Prod.ext (by show _ = s + 12 + l; omega) (by show _ = f; omega)) (fun _ => spL hl hf)
theorem suN {a k : Nat} {v : Int32} (ha : a < 6) (hk : k < 6) : up (sput I s B c) (s + 4 + a) k v = sput I s (upd B (22 + a * 7 + 1 + k) v) c := su_at (by
  unfold spl
  rw [if_neg (by omega), if_neg (by omega), if_neg (by omega), if_neg (by omega), if_neg (by omega), if_neg (by omega), if_neg (by omega), if_pos (by omega), if_neg (by omega)]
  exact Prod.ext (by show _ = s + 4 + a; omega) (by show _ = k; omega)) (fun _ => spN ha hk)
theorem suW {a : Nat} {v : Int32} (ha : a < 6) : up (sput I s B c) (s + 10) a v = sput I s (upd B (22 + a * 7) v) c := su_at (by
  unfold spl
  rw [if_neg (by omega), if_neg (by omega), if_neg (by omega), if_neg (by omega), if_neg (by omega), if_neg (by omega), if_neg (by omega), if_pos (by omega), if_pos (by omega)]
  exact Prod.ext (by show _ = s + 10; omega) (by show _ = a; omega)) (fun _ => spW ha)
theorem sput_self (I : zM) (s : Nat) : sput I s (vB I s) (I s 7) = I := by
  funext q y
  unfold sput
  by_cases h0 : q = s
  · subst h0
    rw [if_pos rfl]
    by_cases h3 : y = 3
    · rw [if_pos h3, h3]; rfl
    rw [if_neg h3]
    by_cases h4 : y = 4
    · rw [if_pos h4, h4]; rfl
    rw [if_neg h4]
    by_cases h5 : y = 5
    · rw [if_pos h5, h5]; rfl
    rw [if_neg h5]
    by_cases h6 : y = 6
    · rw [if_pos h6, h6]; rfl
    rw [if_neg h6]
    by_cases h7 : y = 7
    · rw [if_pos h7, h7]
    rw [if_neg h7]
    by_cases h8 : 8 ≤ y ∧ y ≤ 18
    · rw [if_pos h8]
      unfold vB
      rw [if_neg (by omega), if_neg (by omega), if_neg (by omega), if_neg (by omega), if_neg (by omega), if_neg (by omega), if_pos (by omega)]
      rfl
    · rw [if_neg h8]
  rw [if_neg h0]
  by_cases h1 : q = s + 1
  · subst h1
    rw [if_pos rfl]
    by_cases hy : y < 6
    · rw [if_pos hy]; unfold vB; rw [if_neg (by omega), if_pos (by omega)]; rfl
    · rw [if_neg hy]
  rw [if_neg h1]
  by_cases h2 : q = s + 2
  · subst h2
    rw [if_pos rfl]
    by_cases hy : y = 0
    · rw [if_pos hy, hy]; rfl
    · rw [if_neg hy]
  rw [if_neg h2]
  by_cases h3 : s + 4 ≤ q ∧ q < s + 10
  · rw [if_pos h3]
    by_cases hy : y < 6
    · rw [if_pos hy]
      unfold vB
      have e1 : (22 + (q - (s + 4)) * 7 + 1 + y - 22) % 7 = y + 1 := by omega
      have e2 : (22 + (q - (s + 4)) * 7 + 1 + y - 22) / 7 = q - (s + 4) := by omega
      rw [if_neg (by omega), if_neg (by omega), if_neg (by omega), if_neg (by omega), if_neg (by omega), if_neg (by omega), if_neg (by omega), if_pos (by omega), if_neg (by omega), e1, e2]
      rw [show s + 4 + (q - (s + 4)) = q by omega]; rfl
    · rw [if_neg hy]
  rw [if_neg h3]
  by_cases h4 : q = s + 10
  · subst h4
    rw [if_pos rfl]
    by_cases hy : y < 6
    · rw [if_pos hy]
      unfold vB
      rw [if_neg (by omega), if_neg (by omega), if_neg (by omega), if_neg (by omega), if_neg (by omega), if_neg (by omega), if_neg (by omega), if_pos (by omega), if_pos (by omega)]
      rw [show (22 + y * 7 - 22) / 7 = y by omega]
    · rw [if_neg hy]
  rw [if_neg h4]
  by_cases h5 : s + 12 ≤ q ∧ q < s + 24
  · rw [if_pos h5]
    by_cases hy : y < 8
    · rw [if_pos hy]
      unfold vB
      rw [if_neg (by omega), if_neg (by omega), if_neg (by omega), if_neg (by omega), if_neg (by omega), if_neg (by omega), if_neg (by omega), if_neg (by omega)]
      rw [show s + 12 + (64 + (q - (s + 12)) * 8 + y - 64) / 8 = q by omega, show (64 + (q - (s + 12)) * 8 + y - 64) % 8 = y by omega]
    · rw [if_neg hy]
  rw [if_neg h5]
end VX
