/-! THE WORLD AS A PURE MEMORY: roles with fixed references (part 03), numbers in I : role -> slot -> Int32 -/
abbrev zM : Type := Nat → Nat → Int32
/-- what is fixed for one run: the classes, the arrays' classes by type code, the addresses of the roles, the first address of ours -/
abbrev zG : Type := va_G × (Nat → ClassId) × (Nat → Nat) × Nat × (Nat × Nat) × (Nat × (Nat → Int32)) × (Nat × List Int32)
abbrev gD (G : zG) : va_G := G.1
abbrev gA (G : zG) : Nat → ClassId := G.2.1
abbrev gad (G : zG) : Nat → Nat := G.2.2.1
abbrev gb (G : zG) : Nat := G.2.2.2.1
/-- addresses that are not free, though they lie above -/
abbrev gx (G : zG) : Nat × Nat := G.2.2.2.2.1
/-- the law's script: its length, its numbers -/
abbrev gs (G : zG) : Nat × (Nat → Int32) := G.2.2.2.2.2.1
/-- the law's text: its length (0: there is none), its bytes -/
abbrev gt (G : zG) : Nat × List Int32 := G.2.2.2.2.2.2
/-- the addresses that may be written -/
def gF (G : zG) (q : Nat) : Prop := gb G ≤ q ∧ ¬ ((gx G).1 ≤ q ∧ q < (gx G).2)
def zv (G : zG) (v : Value) : Value := match v with
  | .ref r => .ref (gad G r)
  | v => v
def zl (G : zG) (q : Nat × Value) : Nat × Value := (q.1, zv G q.2)
def zf (G : zG) (r : Nat) (f : Nat → Int32) (k : Nat) : Value := if sT (LT r) k = 0 then .int (f k) else .ref (gad G (LR r k))
def zc (G : zG) (r : Nat) (f : Nat → Int32) : va_E :=
  if LT r < 20 then .inr (LT r - 1, (List.range (nF (LT r))).map (zf G r f))
  else if LT r < 23 then .inl (gA G (LT r), LL r, .inl f)
  else if LT r = 23 then .inl (gA G 23, LL r, .inr (.inl (fun k => (f k).toInt64)))
  else .inl (gA G (LT r), LL r, .inr (.inr (.inr (.inr (fun k => some (gad G (LR r k)))))))
/-- the cells of the roles w.1, .., w.2 - 1 -/
def zw (G : zG) (w : Nat × Nat) (I : zM) : va_W := (List.range (w.2 - w.1)).map (fun i => (gad G (w.1 + i), zc G (w.1 + i) (I (w.1 + i))))
def ups (I : zM) (r : Nat) (f : Nat → Int32) : zM := fun q => if q = r then f else I q
def up (I : zM) (r k : Nat) (x : Int32) : zM := ups I r (upd (I r) k x)
theorem zw_at {G : zG} {w : Nat × Nat} {I : zM} {r : Nat} (h1 : w.1 ≤ r) (h2 : r < w.2) : (zw G w I)[r - w.1]? = some (gad G r, zc G r (I r)) := by
  unfold zw
  rw [List.getElem?_map, List.getElem?_range (by omega)]
  simp only [Option.map_some]
  rw [show w.1 + (r - w.1) = r by omega]
theorem zw_set {G : zG} {w : Nat × Nat} {I : zM} {r : Nat} {f : Nat → Int32} (h1 : w.1 ≤ r) (h2 : r < w.2) : (zw G w I).set (r - w.1) (gad G r, zc G r f) = zw G w (ups I r f) := by
  apply List.ext_getElem?
  intro i
  by_cases hi : i < w.2 - w.1
  · by_cases he : i = r - w.1
    · subst he
      rw [List.getElem?_set_self (by unfold zw; simp; omega), zw_at h1 h2]
      simp [ups]
    · rw [List.getElem?_set_ne (Ne.symm he)]
      unfold zw
      rw [List.getElem?_map, List.getElem?_map, List.getElem?_range hi]
      simp only [Option.map_some]
      unfold ups
      rw [if_neg (by omega)]
  · rw [List.getElem?_set_ne (by omega)]
    unfold zw
    simp [List.getElem?_eq_none, hi]
/-- the arrays' classes -/
def zt (G : zG) : List (ClassId × FieldType) := [(gA G 20, .int), (gA G 21, .byte), (gA G 22, .boolean), (gA G 21, .byte), (gA G 30, .array .byte), (gA G 31, .object "PenOffice$Letter"), (gA G 32, .object "PenOffice$State"), (gA G 33, .object "PenOffice$Command")]
/-- the addresses are apart, and ours -/
def zGok (G : zG) : Prop := (∀ r q, r < zNN → q < zNN → gad G r = gad G q → r = q) ∧ ∀ r, r < zNN → gF G (gad G r)
/-- a role of the world, of a type -/
def isT (w : Nat × Nat) (c r : Nat) : Prop := (w.1 ≤ r ∧ r < w.2) ∧ LT r = c
def wOK (w : Nat × Nat) : Prop := w.2 ≤ zNN ∧ ∀ r, w.1 ≤ r → r < w.2 → ∀ k, k < nS r → sT (LT r) k ≠ 0 → sT (LT r) k ≠ 40 → w.1 ≤ LR r k ∧ LR r k < w.2
theorem isT.f {w : Nat × Nat} {c r k d : Nat} (h : isT w c r) (hw : wOK w) (hk : Nat.blt k (nF c) = true) (hc : Nat.blt c 20 = true) (hs : sT c k = d) (h0 : d ≠ 0) (h40 : d ≠ 40 := by decide) : isT w d (LR r k) := by
  obtain ⟨⟨h1, h2⟩, h3⟩ := h
  have hk := Nat.blt_eq.mp hk
  have hc := Nat.blt_eq.mp hc
  have hn : nS r = nF c := by unfold nS; rw [h3, if_pos hc]
  have hs2 : sT (LT r) k = d := by rw [h3]; exact hs
  have hne : sT (LT r) k ≠ 0 := by rw [hs2]; exact h0
  have hn4 : sT (LT r) k ≠ 40 := by rw [hs2]; exact h40
  exact ⟨hw.2 r h1 h2 k (by rw [hn]; exact hk) hne hn4, (zLT_slot r (Nat.lt_of_lt_of_le h2 hw.1) k (by rw [hn]; exact hk) hne hn4).1.trans hs2⟩
theorem isT.a {w : Nat × Nat} {c r d : Nat} {i : Int32} (h : isT w c r) (hw : wOK w) (hi : vp_in i (LL r)) (hc : Nat.ble 30 c = true) (hs : ∀ k, sT c k = d) (h0 : d ≠ 0) (h40 : d ≠ 40 := by decide) : isT w d (LR r i.toNatClampNeg) := by
  obtain ⟨⟨h1, h2⟩, h3⟩ := h
  have hc := Nat.le_of_ble_eq_true hc
  have hn : nS r = LL r := by unfold nS; rw [h3, if_neg (by omega)]
  have hk : i.toNatClampNeg < nS r := by rw [hn]; exact Nat.not_le.mp fun q => hi (Or.inr q)
  have hs2 : sT (LT r) i.toNatClampNeg = d := by rw [h3]; exact hs _
  have hne : sT (LT r) i.toNatClampNeg ≠ 0 := by rw [hs2]; exact h0
  have hn4 : sT (LT r) i.toNatClampNeg ≠ 40 := by rw [hs2]; exact h40
  exact ⟨hw.2 r h1 h2 _ hk hne hn4, (zLT_slot r (Nat.lt_of_lt_of_le h2 hw.1) _ hk hne hn4).1.trans hs2⟩
theorem zw_D {G : zG} {w : Nat × Nat} {I : zM} (hG : zGok G) (hw : w.2 ≤ zNN) : va_D (gF G) (zw G w I) := by
  have key : ∀ (k : Nat) (q : Nat × va_E), (zw G w I)[k]? = some q → k < w.2 - w.1 ∧ q.1 = gad G (w.1 + k) := by
    intro k q hk
    have hl : k < (zw G w I).length := (List.getElem?_eq_some_iff.mp hk).1
    have hl2 : k < w.2 - w.1 := by unfold zw at hl; simpa using hl
    have h := zw_at (G := G) (I := I) (w := w) (r := w.1 + k) (by omega) (by omega)
    rw [show w.1 + k - w.1 = k by omega, hk] at h
    cases h
    exact ⟨hl2, rfl⟩
  refine ⟨fun i j p q hi hj he => ?_, fun k q hk => ?_⟩
  · obtain ⟨a1, a2⟩ := key i p hi
    obtain ⟨b1, b2⟩ := key j q hj
    have := hG.1 (w.1 + i) (w.1 + j) (by omega) (by omega) (by rw [← a2, ← b2, he])
    omega
  · obtain ⟨a1, a2⟩ := key k q hk
    rw [a2]
    exact hG.2 _ (by omega)
