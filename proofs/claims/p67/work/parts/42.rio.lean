/-! THE REFERENCE'S CALLS: the buffer, loading, output -/
def wb (x : Int32) (s : Int32) : Int32 := (x >>> (s &&& 31)) &&& 255
def a_wd (b : zBk) (N : Nat) (x : Int32) : zBk := upd (upd (upd (upd b N (wb x 24)) (N + 1) (wb x 16)) (N + 2) (wb x 8)) (N + 3) (wb x 0)
def aM (I : zM) (F b : zBk) : zM := ups (ups I 315 b) 312 F
theorem aM_312 {I : zM} {F b : zBk} : aM I F b 312 = F := ups_same _ _ _
theorem aM_315 {I : zM} {F b : zBk} : aM I F b 315 = b := by unfold aM; rw [ups_ne _ _ (by decide), ups_same]
theorem aM_5 {I : zM} {F b b' : zBk} : ups (aM I F b) 315 b' = aM I F b' := by unfold aM; rw [ups_sw (show 312 ≠ 315 by decide), ups_ups]
theorem aM_2 {I : zM} {F F' b : zBk} : ups (aM I F b) 312 F' = aM I F' b := by unfold aM; rw [ups_ups]
theorem mT_aM {I : zM} {k : Nat} : mT I k = aM I (upd (I 312) 9 (nI k)) (I 315) := by
  unfold mT aM; rw [ups_id]
def a_ap (b : zBk) (N : Nat) (x1 x2 x3 x4 x5 : Int32) : zBk := a_wd (a_wd (a_wd (a_wd (a_wd b N x1) (N + 4) x2) (N + 8) x3) (N + 12) x4) (N + 16) x5
/-- the output's bytes -/
def o_arr (W : zBk) (o : List Int32) : zBk := fun k => if k < o.length then o.getD k 0 else W k
theorem o_put {W : zBk} {o : List Int32} {x : Int32} : upd (o_arr W o) o.length x = o_arr W (o ++ [x]) := by
  funext k
  unfold o_arr
  rw [List.length_append, List.length_singleton]
  by_cases h : k = o.length
  · rw [h, upd_same, if_pos (by omega), List.getD_eq_getElem?_getD, List.getElem?_append_right (Nat.le_refl _), Nat.sub_self]; rfl
  · rw [upd_ne _ _ h]
    by_cases h2 : k < o.length
    · rw [if_pos h2, if_pos (by omega), List.getD_eq_getElem?_getD, List.getD_eq_getElem?_getD, List.getElem?_append_left h2]
    · rw [if_neg h2, if_neg (by omega)]
theorem o_nil {W : zBk} : o_arr W [] = W := by funext k; exact if_neg (Nat.not_lt_zero k)
def o_nm (B : zBk) (a : Nat) : Nat → List Int32
  | 0 => []
  | k + 1 => o_nm B a k ++ [B (22 + a * 7 + 1 + k)]
theorem o_nm_len (B : zBk) (a : Nat) : ∀ k, (o_nm B a k).length = k
  | 0 => rfl
  | k + 1 => by unfold o_nm; rw [List.length_append, o_nm_len B a k]; rfl
/-- the length of a clerk's name -/
def o_nl (B : zBk) (a : Nat) : Nat := (B (22 + a * 7)).toNatClampNeg
def o_dg (x : Int32) : List Int32 := (if x < 10 then [] else [48 + x / 10]) ++ [48 + (x - x / 10 * 10)]
def o_mk (B : zBk) (l : Nat) : List Int32 := if nI l = s_cur B then [42] else if s_late B l = true then [33] else []
def o_sp (l : Nat) : List Int32 := if l = 0 then [] else [32]
def o_let (B : zBk) (l : Nat) : List Int32 := o_sp l ++ (o_nm B (s_of B l 0).toNatClampNeg (o_nl B (s_of B l 0).toNatClampNeg) ++ ([58] ++ (o_dg (s_of B l 5) ++ o_mk B l)))
def o_all (B : zBk) : Nat → List Int32
  | 0 => []
  | l + 1 => o_all B l ++ o_let B l
theorem o_dg_len (x : Int32) : (o_dg x).length ≤ 2 := by unfold o_dg; split <;> simp
theorem o_mk_len (B : zBk) (l : Nat) : (o_mk B l).length ≤ 1 := by
  unfold o_mk
  split
  · simp
  · split <;> simp
section RIO
variable {G : zG} {w : Nat × Nat} {gl : Launch} {I : zM} {F B b : zBk} {n c t N : Nat}
/-- the memory with the output o -/
def oM (I : zM) (F : zBk) (o : List Int32) : zM := ups (ups I 316 (o_arr (I 316) o)) 312 (upd F 8 (nI o.length))
theorem oM_312 {o : List Int32} : oM I F o 312 = upd F 8 (nI o.length) := ups_same _ _ _
theorem oM_313 {o : List Int32} : oM I F o 313 = I 313 := by unfold oM; rw [ups_ne _ _ (by decide), ups_ne _ _ (by decide)]
end RIO
