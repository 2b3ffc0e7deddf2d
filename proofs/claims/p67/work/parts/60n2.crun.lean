/-! THE OFFICE: scripts are run -/
/-- the class's rows as the reference lays them -/
def cvt (D : zM) : Nat → Int32 := fun i =>
  if i % 6 = 0 then D (27 + 2 * (i / 6)) 0
  else if D (27 + 2 * (i / 6)) 0 = 0 then (if i % 6 = 1 then D (27 + 2 * (i / 6)) 1 else D (28 + 2 * (i / 6)) (i % 6 - 2))
  else D (28 + 2 * (i / 6)) (i % 6 - 1)
theorem cvt0 {D : zM} {j : Nat} : cvt D (j * 6) = D (27 + 2 * j) 0 := by
  unfold cvt
  rw [if_pos (by omega), show j * 6 / 6 = j by omega]
theorem cvtL1 {D : zM} {j : Nat} (h : D (27 + 2 * j) 0 = 0) : cvt D (j * 6 + 1) = D (27 + 2 * j) 1 := by
  unfold cvt
  rw [if_neg (by omega), show (j * 6 + 1) / 6 = j by omega, if_pos h, if_pos (by omega)]
theorem cvtL {D : zM} {j i : Nat} (h : D (27 + 2 * j) 0 = 0) (hi : i < 4) : cvt D (j * 6 + 2 + i) = D (28 + 2 * j) i := by
  unfold cvt
  rw [if_neg (by omega), show (j * 6 + 2 + i) / 6 = j by omega, if_pos h, if_neg (by omega), show (j * 6 + 2 + i) % 6 - 2 = i by omega]
theorem cvtO {D : zM} {j i : Nat} (h : ¬ D (27 + 2 * j) 0 = 0) (hi : i < 4) : cvt D (j * 6 + 1 + i) = D (28 + 2 * j) i := by
  unfold cvt
  rw [if_neg (by omega), show (j * 6 + 1 + i) / 6 = j by omega, if_neg h, show (j * 6 + 1 + i) % 6 - 1 = i by omega]
theorem cvt_cg {D E : zM} (h : ∀ q, 27 ≤ q → q < 87 → E q = D q) {i : Nat} (hi : i < 180) : cvt E i = cvt D i := by
  unfold cvt
  rw [h (27 + 2 * (i / 6)) (by omega) (by omega), h (28 + 2 * (i / 6)) (by omega) (by omega)]
section VSP
variable {I : zM} {s : Nat} {B : zBk} {c : Int32}
theorem vB_sp {k : Nat} (hk : k < 160) : vB (sput I s B c) s k = B k := by
  unfold vB
  by_cases h0 : k = 0
  · rw [if_pos h0, sp5, h0]
  rw [if_neg h0]
  by_cases h1 : k ≤ 6
  · rw [if_pos h1, spS (by omega)]; exact congrArg B (by omega)
  rw [if_neg h1]
  by_cases h2 : k = 7
  · rw [if_pos h2, spC, h2]
  rw [if_neg h2]
  by_cases h3 : k = 8
  · rw [if_pos h3, sp3, h3]
  rw [if_neg h3]
  by_cases h4 : k = 9
  · rw [if_pos h4, sp4, h4]
  rw [if_neg h4]
  by_cases h5 : k = 10
  · rw [if_pos h5, sp6, h5]
  rw [if_neg h5]
  by_cases h6 : k ≤ 21
  · rw [if_pos h6]
    unfold sput
    rw [if_pos rfl, if_neg (by omega), if_neg (by omega), if_neg (by omega), if_neg (by omega), if_neg (by omega), if_pos (by omega)]
    exact congrArg B (by omega)
  rw [if_neg h6]
  by_cases h7 : k < 64
  · rw [if_pos h7]
    by_cases h8 : (k - 22) % 7 = 0
    · rw [if_pos h8, spW (by omega)]; exact congrArg B (by omega)
    · rw [if_neg h8, spN (by omega) (by omega)]; exact congrArg B (by omega)
  · rw [if_neg h7, spL (by omega) (by omega)]
    unfold s_of; exact congrArg B (by omega)
theorem vB_eq {n : Nat} (hn : n ≤ 12) : s_eq n B (vB (sput I s B c) s) := ⟨fun k hk => vB_sp (by omega), fun l hl f hf => vB_sp (by omega)⟩
end VSP
section CUR
variable {B : zBk} {n c t : Nat}
theorem cur_add {x1 x2 x3 x4 x5 : Int32} (hf : s_wf B n c t) : s_cur (s_add B n x1 x2 x3 x4 x5) = s_cur B := by
  have e11 : s_add B n x1 x2 x3 x4 x5 11 = B 11 := add_lo (by omega) (by omega)
  unfold s_cur
  rw [e11]
  rcases hf.2.2.2.2.2.1 with h | ⟨l, hl, h, -⟩
  · rw [if_pos h, if_pos h]
  · have hn := hf.2.1
    rw [h, nI_clamp (by omega)]
    unfold s_done
    rw [add_of (by omega) (by omega)]
theorem cur_set {l f : Nat} {x : Int32} (hf : f < 5) : s_cur (s_set B l f x) = s_cur B := by
  unfold s_cur
  rw [set_lo (by omega), done_set (by omega) (Or.inr (by omega))]
theorem cur_drop {l : Nat} (hf : s_wf B n c t) (hl : l < n) : s_cur (s_drop B l) = if s_cur B = nI l then -1 else s_cur B := by
  have hn := hf.2.1
  have e11 : s_drop B l 11 = B 11 := by unfold s_drop; rw [set_lo (by omega), set_lo (by omega)]
  have ed : ∀ j, s_done (s_drop B l) j = if j = l then true else s_done B j := fun j => by
    unfold s_drop
    rw [done_set (by omega) (Or.inr (by omega))]
    unfold s_done
    rw [of_set (by omega) (by omega)]
    by_cases e : j = l
    · rw [if_pos ⟨e, rfl⟩, if_pos e]; rfl
    · rw [if_neg (fun z => e z.1), if_neg e]
  unfold s_cur
  rw [e11, ed]
  rcases hf.2.2.2.2.2.1 with h | ⟨l', hl', h, -⟩
  · rw [if_pos h, if_pos h]; split <;> rfl
  · have hne : ¬ B 11 = -1 := by rw [h]; exact nI_ne_m1 (by omega)
    rw [if_neg hne, if_neg hne, h, nI_clamp (by omega)]
    by_cases e : l' = l
    · rw [if_pos e, if_pos rfl]
      by_cases d : s_done B l' = true
      · rw [if_pos d]; split <;> rfl
      · rw [if_neg d, if_pos (by rw [e])]
    · rw [if_neg e]
      by_cases d : s_done B l' = true
      · rw [if_pos d]; split <;> rfl
      · rw [if_neg d, if_neg (fun z => e ((nI_eq (a := l') (b := l) (by omega) (by omega)).mp z))]
theorem pos_set {l f : Nat} {x : Int32} (hp : s_pos B) : s_pos (s_set B l f x) := by
  unfold s_pos
  rw [set_lo (by omega), set_lo (by omega), set_lo (by omega), set_lo (by omega)]; exact hp
theorem pos_add {x1 x2 x3 x4 x5 : Int32} (hp : s_pos B) : s_pos (s_add B n x1 x2 x3 x4 x5) := by
  unfold s_pos
  rw [add_lo (by omega) (by omega), add_lo (by omega) (by omega), add_lo (by omega) (by omega), add_lo (by omega) (by omega)]; exact hp
theorem pos_doit {C : Nat → Int32} {j : Nat} (hp : s_pos B) : s_pos (s_doit B C j) := by
  unfold s_doit
  split
  · exact pos_add hp
  · split
    · exact pos_mins hp _ _
    · split
      · exact pos_upd hp (fun z => by omega)
      · split
        · exact pos_set hp
        · split
          · exact pos_set hp
          · unfold s_drop; exact pos_set (pos_set hp)
end CUR
theorem fz {G : zG} {f : Nat} (hf : f = 1000 ∨ f = 1001 ∨ f = 1002 ∨ f = 1003) : f = 1003 ∨ ∀ s : State, zOld G s → gad G f ≠ gad G 1003 := by
  rcases hf with rfl | rfl | rfl | rfl
  · exact Or.inr (fun s h => h.2.1.2.2.2.2.2.2.1)
  · exact Or.inr (fun s h => h.2.1.2.2.2.2.2.2.2.2.1)
  · exact Or.inr (fun s h => h.2.1.2.2.2.2.2.2.2.2.2)
  · exact Or.inl rfl
theorem in4 {f : Nat} (h : f ≠ 1003 → f = 1000 ∨ f = 1001 ∨ f = 1002) : f = 1000 ∨ f = 1001 ∨ f = 1002 ∨ f = 1003 := by
  by_cases e : f = 1003
  · omega
  · have := h e; omega
section EXE
variable {G : zG} {w : Nat × Nat} {gl : Launch} {I M : zM} {B : zBk} {n c t j : Nat}
end EXE
