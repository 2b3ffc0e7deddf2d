/-! THE OFFICE AS NUMBERS: a block of 160 places as the reference keeps it; what is asked of it -/
abbrev zBk : Type := Nat → Int32
def b2 (b : Bool) : Int32 := if b then 1 else 0
theorem b2_01 (b : Bool) : b2 b = 0 ∨ b2 b = 1 := by cases b <;> simp [b2]
theorem b2_0 {b : Bool} : b2 b = 0 ↔ b = false := by cases b <;> simp [b2]
theorem b2_n0 {b : Bool} : ¬ b2 b = 0 ↔ b = true := by cases b <;> simp [b2]
def s_of (B : zBk) (l f : Nat) : Int32 := B (64 + l * 8 + f)
def s_done (B : zBk) (l : Nat) : Bool := decide (s_of B l 5 = 0)
def s_arr (B : zBk) (l : Nat) : Bool := decide (s_of B l 2 ≤ B 9)
def s_open (B : zBk) (l : Nat) : Bool := s_arr B l && !s_done B l
def s_cur (B : zBk) : Int32 := if B 11 = -1 then -1 else if s_done B (B 11).toNatClampNeg = true then -1 else B 11
def s_waited (B : zBk) (l : Nat) : Int32 := if s_arr B l = true then (if s_done B l = true then s_of B l 6 else B 9) - s_of B l 2 - s_of B l 7 else 0
def s_urg (B : zBk) (l : Nat) : Int32 := s_of B l 4 + s_waited B l / B 5
def s_late (B : zBk) (l : Nat) : Bool := s_done B l && decide (s_of B l 3 < s_of B l 6)
def s_bad (B : zBk) (l : Nat) (p : Nat) : Int32 := if p = 0 then s_of B l 2 else if p = 1 then s_of B l 5 else if p = 2 then s_of B l 3 else -s_urg B l
/-- the best of the letters below n, -1 where none is open -/
def s_best (B : zBk) (p : Nat) : Nat → Int32
  | 0 => -1
  | n + 1 => if s_open B n = true ∧ (s_best B p n = -1 ∨ s_bad B n p < s_bad B (s_best B p n).toNatClampNeg p) then nI n else s_best B p n
def s_cnt (q : Nat → Bool) : Nat → Nat
  | 0 => 0
  | n + 1 => s_cnt q n + if q n = true then 1 else 0
def s_sum (q : Nat → Int32) : Nat → Int32
  | 0 => 0
  | n + 1 => s_sum q n + q n
/-- the first open letter behind a, in turn, over k steps -/
def s_turn (B : zBk) (a n : Nat) : Nat → Nat → Int32
  | _, 0 => -1
  | s, k + 1 => if s_open B ((a + s) % n) = true then nI ((a + s) % n) else s_turn B a n (s + 1) k
/-- a block that an office can hold: n letters, c clerks -/
def s_let (B : zBk) (c l : Nat) : Prop := (∃ k, k < c ∧ s_of B l 0 = nI k) ∧ (1 ≤ s_of B l 1 ∧ s_of B l 1 ≤ 30) ∧ (0 ≤ s_of B l 5 ∧ s_of B l 5 ≤ s_of B l 1)
def s_wf (B : zBk) (n c t : Nat) : Prop := B 8 = nI n ∧ n ≤ 12 ∧ B 7 = nI c ∧ 2 ≤ c ∧ c ≤ 6 ∧ (B 11 = -1 ∨ ∃ l, l < n ∧ B 11 = nI l ∧ s_arr B l = true) ∧ (1 ≤ B 5 ∧ B 5 ≤ 20) ∧ (0 ≤ B 6 ∧ B 6 ≤ 5) ∧ (∃ p, p < 5 ∧ B 0 = nI p) ∧ (∀ l, l < n → s_let B c l) ∧ B 9 = nI t ∧ t ≤ 10000
theorem s_best_in (B : zBk) (p : Nat) : ∀ n, s_best B p n = -1 ∨ ∃ l, l < n ∧ s_best B p n = nI l ∧ s_open B l = true
  | 0 => Or.inl rfl
  | n + 1 => by
    unfold s_best
    by_cases h : s_open B n = true ∧ (s_best B p n = -1 ∨ s_bad B n p < s_bad B (s_best B p n).toNatClampNeg p)
    · rw [if_pos h]; exact Or.inr ⟨n, Nat.lt_succ_self n, rfl, h.1⟩
    · rw [if_neg h]
      rcases s_best_in B p n with h1 | ⟨l, h1, h2⟩
      · exact Or.inl h1
      · exact Or.inr ⟨l, Nat.lt_succ_of_lt h1, h2⟩
theorem s_best_ne (B : zBk) (p : Nat) {l : Nat} : ∀ n, n ≤ 12 → l < n → s_open B l = true → s_best B p n ≠ -1
  | 0, _, h, _ => absurd h (Nat.not_lt_zero l)
  | n + 1, hn, h, ho => by
    unfold s_best
    by_cases h1 : s_open B n = true ∧ (s_best B p n = -1 ∨ s_bad B n p < s_bad B (s_best B p n).toNatClampNeg p)
    · rw [if_pos h1]
      intro e
      have h3 := nI_toInt (n := n) (by omega)
      rw [e] at h3
      have h4 : (-1 : Int32).toInt = -1 := by decide
      omega
    · rw [if_neg h1]
      rcases Nat.lt_or_eq_of_le (Nat.le_of_lt_succ h) with h2 | rfl
      · exact s_best_ne B p n (by omega) h2 ho
      · exact fun e => h1 ⟨ho, Or.inl e⟩
theorem s_cnt_le (q : Nat → Bool) : ∀ n, s_cnt q n ≤ n
  | 0 => Nat.le_refl 0
  | n + 1 => by
    have := s_cnt_le q n
    unfold s_cnt
    split <;> omega
theorem nI_ne_m1 {n : Nat} (h : n < 2 ^ 31) : ¬ nI n = -1 := fun e => by
  have h1 := nI_toInt h
  rw [e] at h1
  have h2 : (-1 : Int32).toInt = -1 := by decide
  omega
theorem qE_i {x y : Int32} {I J : zM} (h : x = y) (h2 : J = I) : qE y I (some (.int x)) J := ⟨x, rfl, h, h2⟩
theorem qV_i {I J : zM} (h2 : J = I) : qV (fun J => J = I) none J := ⟨rfl, h2⟩
theorem up_def (I : zM) (r k : Nat) (x : Int32) : up I r k x = ups I r (upd (I r) k x) := rfl
theorem ups_same (I : zM) (r : Nat) (f : Nat → Int32) : ups I r f r = f := by simp [ups]
theorem ups_ne (I : zM) {r q : Nat} (f : Nat → Int32) (h : q ≠ r) : ups I r f q = I q := by simp [ups, h]
theorem ups_ups (I : zM) (r : Nat) (f g : Nat → Int32) : ups (ups I r f) r g = ups I r g := by
  funext q; unfold ups; split <;> rfl
theorem ups_id (I : zM) (r : Nat) : ups I r (I r) = I := by
  funext q; unfold ups; split
  · next h => rw [h]
  · rfl
theorem upd_same (f : Nat → Int32) (k : Nat) (x : Int32) : upd f k x k = x := by simp [upd]
theorem upd_ne (f : Nat → Int32) {k j : Nat} (x : Int32) (h : j ≠ k) : upd f k x j = f j := by simp [upd, h]
/-- the steps of a minute, in the order in which the numbers are written -/
def s_set (B : zBk) (l f : Nat) (x : Int32) : zBk := upd B (64 + l * 8 + f) x
def s_refill (B : zBk) : zBk :=
  let B1 := upd B 20 (B 20 + 1)
  let B2 := upd B1 14 (B1 14 - 1)
  if B2 14 = 0 then upd B2 13 (B2 2) else B2
def s_smear (B : zBk) (l : Nat) : zBk :=
  let B1 := s_set B l 5 (if s_of B l 5 + B 6 ≤ s_of B l 1 then s_of B l 5 + B 6 else s_of B l 1)
  upd B1 16 (B1 16 + 1)
/-- one letter's minute, behind the blot -/
def s_mark (B : zBk) (l : Nat) (run : Int32) : zBk :=
  let B1 := upd (upd B 12 run) 11 (nI l)
  let B2 := s_set B1 l 5 (s_of B1 l 5 - 1)
  let B3 := s_set B2 l 7 (s_of B2 l 7 + 1)
  let B4 := upd B3 18 (B3 18 + 1)
  if s_done B4 l = true then s_set B4 l 6 (B4 9 + 1) else B4
def s_ink (B : zBk) : zBk :=
  let B1 := upd B 13 (B 13 - 1)
  if B1 13 ≤ 0 then
    let B2 := upd B1 14 (B1 3)
    if B2 14 = 0 then upd B2 13 (B2 2) else B2
  else B1
def s_goes (B : zBk) (before l : Int32) : Bool := decide (before = l) && (!decide (B 0 = 4) || decide (B 12 < B 4))
def s_blot (B : zBk) (l : Nat) : zBk := if s_cur B = -1 ∨ s_cur B = nI l then B else s_smear B (s_cur B).toNatClampNeg
def s_write (B : zBk) (l : Nat) : zBk :=
  let B1 := s_blot B l
  s_ink (s_mark B1 l (if s_goes B1 (s_cur B) (nI l) = true then B1 12 + 1 else 1))
def s_give (B : zBk) (l : Nat) : zBk :=
  if s_of B l 0 = B 10 then B else
    let B1 := upd B 10 (s_of B l 0)
    let B2 := upd B1 17 (B1 17 + 1)
    upd B2 15 (B2 1)
def s_hand (B : zBk) : zBk :=
  let B1 := upd B 15 (B 15 - 1)
  upd B1 21 (B1 21 + 1)
def s_workOn (B : zBk) (l : Nat) : zBk := if s_give B l 15 ≤ 0 then s_write (s_give B l) l else s_hand (s_give B l)
def s_last1 (B : zBk) : Nat := (B 11 + 1).toNatClampNeg
def s_select (B : zBk) (n : Nat) (p : Nat) : Int32 :=
  if p = 0 ∨ p = 3 then (if s_cur B = -1 then s_best B p n else s_cur B)
  else if p = 4 then (if s_cur B = -1 ∨ B 4 ≤ B 12 then s_turn B (s_last1 B) n 0 n else s_cur B)
  else (if s_cur B = -1 ∨ s_bad B (s_best B p n).toNatClampNeg p < s_bad B (s_cur B).toNatClampNeg p then s_best B p n else s_cur B)
def s_pol (B : zBk) : Nat := (B 0).toNatClampNeg
def s_min0 (B : zBk) (n : Nat) : zBk :=
  if B 14 ≤ 0 then
    if B 15 ≤ 0 then
      if s_select B n (s_pol B) = -1 then upd B 19 (B 19 + 1) else s_workOn B (s_select B n (s_pol B)).toNatClampNeg
    else s_hand B
  else s_refill B
def s_min (B : zBk) (n : Nat) : zBk := upd (s_min0 B n) 9 (s_min0 B n 9 + 1)
def s_mins (B : zBk) (n : Nat) : Nat → zBk
  | 0 => B
  | k + 1 => s_min (s_mins B n k) n
/-- places that no minute writes: settings, counts, names, and of a letter clerk, length, arrival, deadline, priority -/
def s_fix (k : Nat) : Prop := k < 9 ∨ (22 ≤ k ∧ k < 64) ∨ (64 ≤ k ∧ (k - 64) % 8 < 5)
def s_same (B C : zBk) : Prop := ∀ k, s_fix k → C k = B k
theorem s_same.rf {B : zBk} : s_same B B := fun _ _ => rfl
theorem s_same.tr {B C D : zBk} (h : s_same B C) (h2 : s_same C D) : s_same B D := fun k hk => (h2 k hk).trans (h k hk)
theorem s_same.up {B C : zBk} (h : s_same B C) {k : Nat} (x : Int32) (hk : ¬ s_fix k) : s_same B (upd C k x) := fun j hj => by
  have e1 : j ≠ k := fun e => hk (by rw [← e]; exact hj)
  rw [upd_ne _ _ e1]; exact h j hj
theorem s_same.of {B C : zBk} (h : s_same B C) {l f : Nat} (hf : f < 5) : s_of C l f = s_of B l f := h _ (Or.inr (Or.inr ⟨by omega, by omega⟩))
theorem fix_let {l f : Nat} (hf : 5 ≤ f) (h2 : f < 8) : ¬ s_fix (64 + l * 8 + f) := fun h => by unfold s_fix at h; omega
theorem fix_lit {k : Nat} (h : 9 ≤ k) (h2 : k < 22) : ¬ s_fix k := fun q => by unfold s_fix at q; omega
