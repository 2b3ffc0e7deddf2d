/-! THE CLASS: counts and sums -/
theorem sum_s {q : Nat → Int32} {i : Nat} : s_sum q (i + 1) = s_sum q i + q i := rfl
def s_worst (B : zBk) : Nat → Int32
  | 0 => -999
  | n + 1 => if s_done B n = true ∧ s_worst B n < s_of B n 6 - s_of B n 3 then s_of B n 6 - s_of B n 3 else s_worst B n
theorem i_pos0 {x : Int32} (h : 0 ≤ x) : x ≤ 0 ↔ x = 0 := ⟨fun q => Int32.le_antisymm q h, fun q => by rw [q]; exact Int32.le_refl 0⟩
section CLE
variable {G : zG} {w : Nat × Nat} {gl : Launch} {I : zM} {s : Nat} {B : zBk} {cu : Int32}
theorem k_countReady (ht : isT w 9 s) {n : Nat} (h8 : B 8 = nI n) (hn : n ≤ 12) (h0 : ∀ l, l < n → 0 ≤ s_of B l 5) : CT G w gl (yX9_countReady, cX9_countReady, 3, some .int) 1 (0, 0) [.ref s] (sput I s B cu) (qE (nI (s_cnt (s_open B) n)) (sput I s B cu)) nX := by
  refine ct_of (by decide) [(0, .ref s)] rfl rfl (fun K hG hw hgl hwo hK => ?_)
  subst hG; subst hw; subst hgl
  refine bX9_countReady_0 hK hwo ht ?_
  have key : ∀ k i, i + k = n → ZZ K (0, 0) 4 [(0, .ref s), (1, .int (nI (s_cnt (s_open B) i))), (2, .int (nI i))] [] (sput I s B cu) := by
    intro k
    induction k with
    | zero =>
      intro i hi
      have h : sput I s B cu s 3 ≤ nI i := by rw [sp3, h8]; exact nI_le (by omega) (by omega)
      exact bX9_countReady_4 (f4 := 0) (g4 := I) hK hwo ht (fun _ => qE_i (by rw [show i = n by omega]) rfl) (fun d => absurd h d) (fun d => absurd h d) (fun d => absurd h d) (fun d => absurd h d)
    | succ k ih =>
      intro i hi
      have h : ¬ sput I s B cu s 3 ≤ nI i := by rw [sp3, h8]; exact nI_ge (by omega) (by omega)
      have hv : vp_in (nI i) 12 := vp_in_nI (by omega) (by omega)
      have hx := ih (i + 1) (by omega)
      rw [← nI_1] at hx
      refine bX9_countReady_4 hK hwo ht (fun d => absurd d h) (fun _ => hv) (fun _ => by rw [k_lr hwo ht (by omega), sp4]; exact k_isReadyAt ht (by omega) (h0 _ (by omega))) ?_ ?_
      · intro _ d
        rw [cnt_no (b2_0.mp d)] at hx; exact hx
      · intro _ d
        rw [cnt_yes (b2_n0.mp d), ← nI_1] at hx; exact hx
  exact key n 0 (by omega)
theorem k_countOpen (ht : isT w 9 s) {n : Nat} (h8 : B 8 = nI n) (hn : n ≤ 12) (h0 : ∀ l, l < n → 0 ≤ s_of B l 5) : CT G w gl (yX9_countOpen, cX9_countOpen, 3, some .int) 0 (0, 0) [.ref s] (sput I s B cu) (qE (nI (s_cnt (fun l => !s_done B l) n)) (sput I s B cu)) nX := by
  refine ct_of (by decide) [(0, .ref s)] rfl rfl (fun K hG hw hgl hwo hK => ?_)
  subst hG; subst hw; subst hgl
  refine bX9_countOpen_0 hK hwo ht ?_
  have key : ∀ k i, i + k = n → ZZ K (0, 0) 4 [(0, .ref s), (1, .int (nI (s_cnt (fun l => !s_done B l) i))), (2, .int (nI i))] [] (sput I s B cu) := by
    intro k
    induction k with
    | zero =>
      intro i hi
      have h : sput I s B cu s 3 ≤ nI i := by rw [sp3, h8]; exact nI_le (by omega) (by omega)
      exact bX9_countOpen_4  hK hwo ht (fun _ => qE_i (by rw [show i = n by omega]) rfl) (fun d => absurd h d) (fun d => absurd h d) (fun d => absurd h d)
    | succ k ih =>
      intro i hi
      have h : ¬ sput I s B cu s 3 ≤ nI i := by rw [sp3, h8]; exact nI_ge (by omega) (by omega)
      have hv : vp_in (nI i) 12 := vp_in_nI (by omega) (by omega)
      have hx := ih (i + 1) (by omega)
      rw [← nI_1] at hx
      refine bX9_countOpen_4 hK hwo ht (fun d => absurd d h) (fun _ => hv) ?_ ?_ <;> rw [k_lr hwo ht (by omega), spL (by omega) (by omega)]
      · intro _ d
        rw [cnt_no (by have e := (i_pos0 (h0 i (by omega))).mp d; simp [s_done, e])] at hx; exact hx
      · intro _ d
        rw [cnt_yes (by have e : ¬ s_of B i 5 = 0 := fun q => d ((i_pos0 (h0 i (by omega))).mpr q); simp [s_done, e]), ← nI_1] at hx; exact hx
  exact key n 0 (by omega)
theorem k_hasClerk (ht : isT w 9 s) {c : Nat} {x : Int32} (h7 : B 7 = nI c) : CT G w gl (yX9_hasClerk, cX9_hasClerk, 2, some .boolean) 0 (0, 0) [.ref s, .int x] (sput I s B cu) (qE (b2 (decide (0 ≤ x) && decide (x < B 7))) (sput I s B cu)) nX := by
  refine ct_of (by decide) [(0, .ref s), (1, .int x)] rfl rfl (fun K hG hw hgl hwo hK => ?_)
  subst hG; subst hw; subst hgl
  refine bX9_hasClerk_0 hK hwo ht ?_ ?_ ?_ <;> (try rw [(ht.lr hwo).2.1, spC])
  · intro d; exact qE_i (by have e := Int32.not_le.mpr d; simp [e, b2]) rfl
  · intro _ d; exact qE_i (by have e := Int32.not_lt.mpr d; simp [e, b2]) rfl
  · intro c d; exact qE_i (by have e := Int32.not_le.mp d; have e2 := Int32.not_lt.mp c; simp [e, e2, b2]) rfl
theorem k_hasLetter (ht : isT w 9 s) {x : Int32} : CT G w gl (yX9_hasLetter, cX9_hasLetter, 2, some .boolean) 0 (0, 0) [.ref s, .int x] (sput I s B cu) (qE (b2 (decide (0 ≤ x) && decide (x < B 8))) (sput I s B cu)) nX := by
  refine ct_of (by decide) [(0, .ref s), (1, .int x)] rfl rfl (fun K hG hw hgl hwo hK => ?_)
  subst hG; subst hw; subst hgl
  refine bX9_hasLetter_0 hK hwo ht ?_ ?_ ?_ <;> (try rw [sp3])
  · intro d; exact qE_i (by have e := Int32.not_le.mpr d; simp [e, b2]) rfl
  · intro _ d; exact qE_i (by have e := Int32.not_lt.mpr d; simp [e, b2]) rfl
  · intro c d; exact qE_i (by have e := Int32.not_le.mp d; have e2 := Int32.not_lt.mp c; simp [e, e2, b2]) rfl
/-- a letter put behind the others, and one thrown away -/
def s_add (B : zBk) (l : Nat) (x1 x2 x3 x4 x5 : Int32) : zBk := upd (s_set (s_set (s_set (s_set (s_set (s_set (s_set (s_set B l 0 x1) l 1 x2) l 2 x3) l 3 x4) l 4 x5) l 5 x2) l 6 (-1)) l 7 0) 8 (B 8 + 1)
def s_drop (B : zBk) (l : Nat) : zBk := s_set (s_set B l 5 0) l 6 (B 9)
theorem i_add_sub {x y : Int32} : x + y - y = x := by
  rw [Int32.sub_eq_add_neg, Int32.add_assoc, ← Int32.sub_eq_add_neg, Int32.sub_self, Int32.add_zero]
theorem k_putLetter (ht : isT w 9 s) {n : Nat} {x1 x2 x3 x4 x5 : Int32} (h8 : B 8 = nI n) (hn : n < 12) : CT G w gl (yX9_putLetter, cX9_putLetter, 7, some .int) 0 (0, 0) [.ref s, .int x1, .int x2, .int x3, .int x4, .int x5] (sput I s B cu) (qE (nI n) (sput I s (s_add B n x1 x2 x3 x4 x5) cu)) nX := by
  refine ct_of (by decide) [(0, .ref s), (1, .int x1), (2, .int x2), (3, .int x3), (4, .int x4), (5, .int x5)] rfl rfl (fun K hG hw hgl hwo hK => ?_)
  subst hG; subst hw; subst hgl
  have hlt : sput I s B cu s 3 < 12 := by rw [sp3, h8]; show nI n < nI 12; exact nI_lt hn (by omega)
  refine bX9_putLetter_0 hK hwo ht (fun _ => by rw [sp3, h8]; exact vp_in_nI hn (by omega)) ?_ (fun d => absurd hlt d)
  intro _
  have e8 : ∀ (C : zBk) (f : Nat) (x : Int32), s_set C n f x 8 = C 8 := fun C f x => set_lo (by omega)
  simp only [sp3, h8, k_lr hwo ht hn, suL hn (show 0 < 8 by omega), suL hn (show 1 < 8 by omega), suL hn (show 2 < 8 by omega), suL hn (show 3 < 8 by omega), suL hn (show 4 < 8 by omega), suL hn (show 5 < 8 by omega), suL hn (show 6 < 8 by omega), suL hn (show 7 < 8 by omega), su3, upd_same, e8, i_add_sub]
  refine qE_i rfl ?_
  unfold s_add
  rw [h8]
theorem k_dropLetter (ht : isT w 9 s) {l : Nat} (hl : l < 12) : CT G w gl (yX9_dropLetter, cX9_dropLetter, 4, some .int) 0 (0, 0) [.ref s, .int (nI l)] (sput I s B cu) (qE (s_of B l 5) (sput I s (s_drop B l) (if cu = nI l then -1 else cu))) nX := by
  refine ct_of (by decide) [(0, .ref s), (1, .int (nI l))] rfl rfl (fun K hG hw hgl hwo hK => ?_)
  subst hG; subst hw; subst hgl
  have e9 : ∀ (C : zBk) (f : Nat) (x : Int32), s_set C l f x 9 = C 9 := fun C f x => set_lo (by omega)
  refine bX9_dropLetter_0 hK hwo ht (vp_in_nI hl (by omega)) ?_ ?_ <;> simp only [k_lr hwo ht hl, spL hl (show 5 < 8 by omega), suL hl (show 5 < 8 by omega), suL hl (show 6 < 8 by omega), sp4, sp7, su7, e9]
  · intro d; rw [if_neg d]; exact qE_i rfl rfl
  · intro d; rw [if_pos d]; exact qE_i rfl rfl
end CLE
