/-! THE REFERENCE'S CALLS: changes -/
def rM (I : zM) (F B : zBk) : zM := ups (ups I 312 F) 313 B
theorem rM_312 {I : zM} {F B : zBk} : rM I F B 312 = F := by unfold rM; rw [ups_ne _ _ (by decide), ups_same]
theorem rM_313 {I : zM} {F B : zBk} : rM I F B 313 = B := ups_same _ _ _
theorem rM_ot {I : zM} {F B : zBk} {q : Nat} (h : q ≠ 312) (h2 : q ≠ 313) : rM I F B q = I q := by unfold rM; rw [ups_ne _ _ h2, ups_ne _ _ h]
theorem rM_id {I : zM} : rM I (I 312) (I 313) = I := by unfold rM; rw [ups_id, ups_id]
theorem rM_3 {I : zM} {F B C : zBk} : ups (rM I F B) 313 C = rM I F C := by unfold rM; rw [ups_ups]
theorem rM_2 {I : zM} {F B C : zBk} : ups (rM I F B) 312 C = rM I C B := by unfold rM; rw [ups_sw (show 313 ≠ 312 by decide), ups_ups]
theorem rM_rM {I : zM} {F B F' B' : zBk} : rM (rM I F B) F' B' = rM I F' B' := by
  show ups (ups (rM I F B) 312 F') 313 B' = _
  rw [rM_2, rM_3]
theorem rM_T {I : zM} {F B : zBk} {k : Nat} : mT (rM I F B) k = rM I (upd F 9 (nI k)) B := by unfold mT; rw [rM_312, rM_2]
theorem mT_rM {I : zM} {k : Nat} : mT I k = rM I (upd (I 312) 9 (nI k)) (I 313) := by
  rw [← rM_T, rM_id]
theorem mR_rM {I : zM} {r : zRs} : mR I r = rM I (rF (I 312) r.1 r.2.1) r.2.2 := rfl
/-- block a copied onto block b, its first k places -/
def s_cpb (B : zBk) (a b k : Nat) : zBk := fun j => if b * 160 ≤ j ∧ j < b * 160 + k then B (a * 160 + (j - b * 160)) else B j
def s_shift (B : zBk) : Nat → zBk
  | 0 => B
  | k + 1 => s_cpb (s_shift B k) (k + 2) (k + 1) 160
def s_rem (B : zBk) (m : Nat) : zBk := if m = 6 then s_cpb (s_shift B 5) 0 6 160 else s_cpb B 0 (m + 1) 160
theorem cpb_lo {B : zBk} {a b k j : Nat} (h : j < b * 160 ∨ b * 160 + k ≤ j) : s_cpb B a b k j = B j := if_neg (by omega)
theorem cpb_at {B : zBk} {a b k j : Nat} (h : j < k) : s_cpb B a b k (b * 160 + j) = B (a * 160 + j) := by
  unfold s_cpb
  rw [if_pos (by omega)]
  congr 1; omega
theorem shift_lo {B : zBk} {j : Nat} (h : j < 160) : ∀ k, s_shift B k j = B j
  | 0 => rfl
  | k + 1 => by
    unfold s_shift
    rw [cpb_lo (by omega), shift_lo h k]
theorem rem_lo {B : zBk} {m j : Nat} (h : j < 160) : s_rem B m j = B j := by
  unfold s_rem
  split
  · rw [cpb_lo (by omega), shift_lo h]
  · rw [cpb_lo (by omega)]
theorem rem_hi {B : zBk} {m j : Nat} (h : 1120 ≤ j) (hm : m ≤ 6) : s_rem B m j = B j := by
  have sh : ∀ k, k ≤ 5 → s_shift B k j = B j := by
    intro k
    induction k with
    | zero => intro _; rfl
    | succ k ih => intro hk; unfold s_shift; rw [cpb_lo (by omega), ih (by omega)]
  unfold s_rem
  split
  · rw [cpb_lo (by omega), sh 5 (by omega)]
  · rw [cpb_lo (by omega)]
section RCH
variable {G : zG} {w : Nat × Nat} {gl : Launch} {I : zM}
/-- behind a change: the block B -/
def rCh (I : zM) (m : Nat) (B : zBk) : zM := rM I (upd (upd (I 312) 9 0) 2 (nI (min (m + 1) 6))) B
theorem rCh_313 {m : Nat} {B : zBk} : rCh I m B 313 = B := rM_313
theorem rCh_3 {m : Nat} {B C : zBk} : ups (rCh I m B) 313 C = rCh I m C := rM_3
def s_data (x1 x2 x3 x4 : Int32) : Bool := s_in x1 1 30 && (s_in x2 0 999 && (s_in x3 1 999 && s_in x4 0 9))
def s_canAdd (B : zBk) (d : Int32) : Bool := decide (B 8 < 12) && decide (B 9 + d ≤ 2000)
theorem fk_0 {v1 v2 v3 : Int32} : (b2 (!decide (fk v1 v2 v3 = 0)) = 0) = (fk v1 v2 v3 = 0) := by
  apply propext
  by_cases h : fk v1 v2 v3 = 0
  · rw [decide_eq_true h]; exact ⟨fun _ => h, fun _ => rfl⟩
  · rw [decide_eq_false h]; exact ⟨fun z => absurd z (by decide), fun z => absurd z h⟩
def s_ext (B : zBk) (l : Nat) (y : Int32) : zBk := s_set (s_set B l 1 (s_of B l 1 + y)) l 5 (s_of B l 5 + y)
end RCH
