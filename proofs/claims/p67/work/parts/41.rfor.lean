/-! THE REFERENCE'S CALLS: forecasts -/
def s_aside (B : zBk) : zBk := s_cpb B 0 9 160
theorem aside_lo {B : zBk} {j : Nat} (h : j < 1440) : s_aside B j = B j := cpb_lo (by omega)
theorem aside_9 {B : zBk} {j : Nat} (h : j < 160) : s_aside B (1440 + j) = B j := by
  have := cpb_at (B := B) (a := 0) (b := 9) (k := 160) h
  rw [Nat.zero_mul, Nat.zero_add] at this
  exact this
theorem aside_aside {B : zBk} : s_aside (s_aside B) = s_aside B := by
  funext j
  by_cases h : j < 1440
  · rw [aside_lo h]
  · by_cases h2 : j < 1600
    · obtain ⟨k, rfl⟩ : ∃ k, j = 1440 + k := ⟨j - 1440, by omega⟩
      rw [aside_9 (by omega), aside_9 (by omega), aside_lo (by omega)]
    · show s_cpb (s_aside B) 0 9 160 j = _
      rw [cpb_lo (by omega)]
/-- block 9 brought back onto block 0 -/
theorem aside_back {B C : zBk} (h : ∀ j, 160 ≤ j → C j = s_aside B j) : s_cpb C 9 0 160 = s_aside B := by
  funext j
  by_cases h1 : j < 160
  · have e := cpb_at (B := C) (a := 9) (b := 0) (k := 160) h1
    rw [Nat.zero_mul, Nat.zero_add] at e
    rw [e, h _ (by omega), aside_9 h1, aside_lo (by omega)]
  · rw [cpb_lo (by omega), h j (by omega)]
theorem eq_aside {B : zBk} {n : Nat} (hn : n ≤ 12) : s_eq n B (s_aside B) := ⟨fun k hk => aside_lo (by omega), fun l hl f hf => aside_lo (by omega)⟩
/-- the first i from i on, over k, with q -/
def s_first (q : Nat → Bool) : Nat → Nat → Nat
  | 0, i => i
  | k + 1, i => if q i = true then i else s_first q k (i + 1)
theorem first_in {q : Nat → Bool} : ∀ k i, i ≤ s_first q k i ∧ s_first q k i ≤ i + k
  | 0, i => ⟨Nat.le_refl _, Nat.le_refl _⟩
  | k + 1, i => by
    unfold s_first
    split
    · omega
    · have := first_in (q := q) k (i + 1); omega
def s_all (B : zBk) (n : Nat) : Bool := decide (s_cnt (s_done B) n = n)
def s_mtf (B : zBk) (n : Nat) : Nat := s_first (fun i => s_all (s_mins B n i) n) 1500 0
def s_mtl (B : zBk) (n l : Nat) : Nat := s_first (fun i => s_done (s_mins B n i) l) 1500 0
def s_far (B : zBk) (n p : Nat) : zBk := s_mins (upd B 0 (nI p)) n 1500
def s_lateBy (B : zBk) (n p : Nat) : Int32 := nI (s_cnt (s_late (s_far B n p)) n) + nI n - nI (s_cnt (s_done (s_far B n p)) n)
def s_waitBy (B : zBk) (n p : Nat) : Int32 := s_sum (s_waited (s_far B n p)) n
/-- the best policy of 0 .. k -/
def s_bp (L W : Nat → Int32) : Nat → Nat
  | 0 => 0
  | k + 1 => if L (k + 1) - L (s_bp L W k) < 0 ∨ (L (k + 1) - L (s_bp L W k) = 0 ∧ W (k + 1) < W (s_bp L W k)) then k + 1 else s_bp L W k
theorem bp_le {L W : Nat → Int32} : ∀ k, s_bp L W k ≤ k
  | 0 => Nat.le_refl _
  | k + 1 => by
    unfold s_bp
    have := bp_le (L := L) (W := W) k
    split <;> omega
theorem wf_pol {B : zBk} {n c t p : Nat} (hf : s_wf B n c t) (hp : p < 5) : s_wf (upd B 0 (nI p)) n c t := by
  obtain ⟨f1, f2, f3, f4, f5, f6, f7, f8, f9, f10, f11, f12⟩ := hf
  refine ⟨by rw [upd_ne _ _ (by omega)]; exact f1, f2, by rw [upd_ne _ _ (by omega)]; exact f3, f4, f5, ?_, by rw [upd_ne _ _ (by omega)]; exact f7, by rw [upd_ne _ _ (by omega)]; exact f8, ⟨p, hp, upd_same _ _ _⟩, fun l hl => ?_, by rw [upd_ne _ _ (by omega)]; exact f11, f12⟩
  · rw [upd_ne _ _ (by omega)]
    rcases f6 with e | ⟨l, hl, e, ha⟩
    · exact Or.inl e
    · exact Or.inr ⟨l, hl, e, by rw [arr_eq (of_upd (by omega)) (upd_ne _ _ (by omega))]; exact ha⟩
  · unfold s_let
    rw [of_upd (by omega), of_upd (by omega), of_upd (by omega)]
    exact f10 l hl
section RFO
variable {G : zG} {w : Nat × Nat} {gl : Launch} {I : zM} {F B : zBk} {n c t : Nat}
theorem far_hi {C : zBk} (hf : s_wf (s_aside B) n c t) (ht : t ≤ 2000) {k : Nat} (hk : k ≤ 2000) (hC : C = s_mins (s_aside B) n k) : ∀ j, 160 ≤ j → C j = s_aside B j := fun j hj => by
  rw [hC]; exact mins_far hf (Or.inr (by have := hf.2.1; omega)) k (by omega)
theorem all_iff (hf : s_wf B n c t) : (nI n ≤ nI (s_cnt (s_done B) n)) = (s_all B n = true) := by
  have h1 := s_cnt_le (s_done B) n
  have h2 := hf.2.1
  apply propext
  rw [nI_leI (by omega) (by omega)]
  unfold s_all
  rw [decide_eq_true_eq]
  omega
/-- the letter of the minute behind k minutes, as the reference tells it -/
def s_lwi (B : zBk) (n k : Nat) : Int32 := if (s_min (s_mins B n k) n) 18 ≤ (s_mins B n k) 18 then -1 else (s_min (s_mins B n k) n) 11
theorem far_hi2 (hf : s_wf (s_aside B) n c t) (ht : t ≤ 2000) {p : Nat} (hp : p < 5) : ∀ j, 160 ≤ j → s_far (s_aside B) n p j = s_aside B j := fun j hj => by
  unfold s_far
  rw [mins_far (wf_pol hf hp) (Or.inr (by have := hf.2.1; omega)) 1500 (by omega), upd_ne _ _ (by omega)]
end RFO
