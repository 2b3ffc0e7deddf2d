/-! THE OFFICE AS NUMBERS: a block of 160 places as the reference keeps it; what is asked of it -/
abbrev zBk : Type := Nat → Int32
def b2 (b : Bool) : Int32 := if b then 1 else 0
theorem b2_01 (b : Bool) : b2 b = 0 ∨ b2 b = 1 := by cases b <;> simp [b2]
theorem b2_0 {b : Bool} : b2 b = 0 ↔ b = false := by cases b <;> simp [b2]
theorem b2_n0 {b : Bool} : ¬ b2 b = 0 ↔ b = true := by cases b <;> simp [b2]
def s_of (B : zBk) (l f : Nat) : Int32 := B (64 + l * 8 + f)
def s_done (B : zBk) (l : Nat) : Bool := decide (s_of B l 5 = 0)
def s_arr (B : zBk) (l : Nat) : Bool := decide (s_of B l 2 ≤ B 9)
def s_open (B : zBk) (l : Nat) : Bool := s_arr B l && !s_done B l
def s_cur (B : zBk) : Int32 := if B 11 = -1 then -1 else if s_done B (B 11).toNatClampNeg = true then -1 else B 11
def s_waited (B : zBk) (l : Nat) : Int32 := if s_arr B l = true then (if s_done B l = true then s_of B l 6 else B 9) - s_of B l 2 - s_of B l 7 else 0
def s_urg (B : zBk) (l : Nat) : Int32 := s_of B l 4 + s_waited B l / B 5
def s_late (B : zBk) (l : Nat) : Bool := s_done B l && decide (s_of B l 3 < s_of B l 6)
def s_bad (B : zBk) (l : Nat) (p : Nat) : Int32 := if p = 0 then s_of B l 2 else if p = 1 then s_of B l 5 else if p = 2 then s_of B l 3 else -s_urg B l
/-- the best of the letters below n, -1 where none is open -/
def s_best (B : zBk) (p : Nat) : Nat → Int32
  | 0 => -1
  | n + 1 => if s_open B n = true ∧ (s_best B p n = -1 ∨ s_bad B n p < s_bad B (s_best B p n).toNatClampNeg p) then nI n else s_best B p n
def s_cnt (q : Nat → Bool) : Nat → Nat
  | 0 => 0
  | n + 1 => s_cnt q n + if q n = true then 1 else 0
def s_sum (q : Nat → Int32) : Nat → Int32
  | 0 => 0
  | n + 1 => s_sum q n + q n
/-- the first open letter behind a, in turn, over k steps -/
def s_turn (B : zBk) (a n : Nat) : Nat → Nat → Int32
  | _, 0 => -1
  | s, k + 1 => if s_open B ((a + s) % n) = true then nI ((a + s) % n) else s_turn B a n (s + 1) k
/-- a block that an office can hold: n letters, c clerks -/
def s_let (B : zBk) (c l : Nat) : Prop := (∃ k, k < c ∧ s_of B l 0 = nI k) ∧ (1 ≤ s_of B l 1 ∧ s_of B l 1 ≤ 30) ∧ (0 ≤ s_of B l 5 ∧ s_of B l 5 ≤ s_of B l 1)
def s_wf (B : zBk) (n c : Nat) : Prop := B 8 = nI n ∧ n ≤ 12 ∧ B 7 = nI c ∧ 2 ≤ c ∧ c ≤ 6 ∧ (B 11 = -1 ∨ ∃ l, l < n ∧ B 11 = nI l) ∧ (1 ≤ B 5 ∧ B 5 ≤ 20) ∧ (0 ≤ B 6 ∧ B 6 ≤ 5) ∧ (∃ p, p < 5 ∧ B 0 = nI p) ∧ ∀ l, l < n → s_let B c l
theorem s_best_in (B : zBk) (p : Nat) : ∀ n, s_best B p n = -1 ∨ ∃ l, l < n ∧ s_best B p n = nI l ∧ s_open B l = true
  | 0 => Or.inl rfl
  | n + 1 => by
    unfold s_best
    by_cases h : s_open B n = true ∧ (s_best B p n = -1 ∨ s_bad B n p < s_bad B (s_best B p n).toNatClampNeg p)
    · rw [if_pos h]; exact Or.inr ⟨n, Nat.lt_succ_self n, rfl, h.1⟩
    · rw [if_neg h]
      rcases s_best_in B p n with h1 | ⟨l, h1, h2⟩
      · exact Or.inl h1
      · exact Or.inr ⟨l, Nat.lt_succ_of_lt h1, h2⟩
theorem s_cnt_le (q : Nat → Bool) : ∀ n, s_cnt q n ≤ n
  | 0 => Nat.le_refl 0
  | n + 1 => by
    have := s_cnt_le q n
    unfold s_cnt
    split <;> omega
theorem nI_ne_m1 {n : Nat} (h : n < 2 ^ 31) : ¬ nI n = -1 := fun e => by
  have h1 := nI_toInt h
  rw [e] at h1
  have h2 : (-1 : Int32).toInt = -1 := by decide
  omega
theorem qE_i {x y : Int32} {I J : zM} (h : x = y) (h2 : J = I) : qE y I (some (.int x)) J := ⟨x, rfl, h, h2⟩
theorem qV_i {I J : zM} (h2 : J = I) : qV (fun J => J = I) none J := ⟨rfl, h2⟩
theorem up_def (I : zM) (r k : Nat) (x : Int32) : up I r k x = ups I r (upd (I r) k x) := rfl
theorem ups_same (I : zM) (r : Nat) (f : Nat → Int32) : ups I r f r = f := by simp [ups]
theorem ups_ne (I : zM) {r q : Nat} (f : Nat → Int32) (h : q ≠ r) : ups I r f q = I q := by simp [ups, h]
theorem ups_ups (I : zM) (r : Nat) (f g : Nat → Int32) : ups (ups I r f) r g = ups I r g := by
  funext q; unfold ups; split <;> rfl
theorem ups_id (I : zM) (r : Nat) : ups I r (I r) = I := by
  funext q; unfold ups; split
  · next h => rw [h]
  · rfl
theorem upd_same (f : Nat → Int32) (k : Nat) (x : Int32) : upd f k x k = x := by simp [upd]
theorem upd_ne (f : Nat → Int32) {k j : Nat} (x : Int32) (h : j ≠ k) : upd f k x j = f j := by simp [upd, h]
/-- the steps of a minute -/
def s_set (B : zBk) (l f : Nat) (x : Int32) : zBk := upd B (64 + l * 8 + f) x
def s_refill (B : zBk) : zBk :=
  let B1 := upd (upd B 20 (B 20 + 1)) 14 (B 14 - 1)
  if B1 14 = 0 then upd B1 13 (B1 2) else B1
def s_smear (B : zBk) (l : Nat) : zBk :=
  let more := s_of B l 5 + B 6
  let B1 := s_set B l 5 (if s_of B l 1 < more then s_of B l 1 else more)
  upd B1 16 (B1 16 + 1)
/-- one letter's minute, behind the blot -/
def s_mark (B : zBk) (l : Nat) (run : Int32) : zBk :=
  let B1 := upd (upd B 12 run) 11 (nI l)
  let B2 := s_set B1 l 5 (s_of B1 l 5 - 1)
  let B3 := s_set B2 l 7 (s_of B2 l 7 + 1)
  let B4 := upd B3 18 (B3 18 + 1)
  if s_done B4 l = true then s_set B4 l 6 (B4 9 + 1) else B4
def s_ink (B : zBk) : zBk :=
  let B1 := upd B 13 (B 13 - 1)
  if B1 13 ≤ 0 then
    let B2 := upd B1 14 (B1 3)
    if B2 14 = 0 then upd B2 13 (B2 2) else B2
  else B1
def s_goes (B : zBk) (before l : Int32) : Bool := decide (before = l) && (decide (B 0 ≠ 4) || decide (B 12 < B 4))
def s_write (B : zBk) (l : Nat) : zBk :=
  let before := s_cur B
  let B1 := if before ≠ -1 ∧ before ≠ nI l then s_smear B before.toNatClampNeg else B
  s_ink (s_mark B1 l (if s_goes B1 before (nI l) = true then B1 12 + 1 else 1))
def s_workOn (B : zBk) (l : Nat) : zBk :=
  let B1 := if s_of B l 0 = B 10 then B else upd (upd (upd B 10 (s_of B l 0)) 17 (B 17 + 1)) 15 (B 1)
  if 0 < B1 15 then upd (upd B1 15 (B1 15 - 1)) 21 (B1 21 + 1) else s_write B1 l
def s_select (B : zBk) (n : Nat) (p : Nat) : Int32 :=
  let now := s_cur B
  if p = 0 ∨ p = 3 then (if now ≠ -1 then now else s_best B p n)
  else if p = 4 then (if now ≠ -1 ∧ B 12 < B 4 then now else s_turn B (B 11).toInt.toNat n 1 n)
  else (if now ≠ -1 ∧ s_bad B now.toNatClampNeg p ≤ s_bad B (s_best B p n).toNatClampNeg p then now else s_best B p n)
