/-! AN OFFICE STAYS AN OFFICE -/
theorem wf_of {B C : zBk} {n c t u : Nat} (hf : s_wf B n c t) (hs : s_same B C) (hl : C 11 = -1 ∨ ∃ l, l < n ∧ C 11 = nI l ∧ s_arr C l = true) (hr : ∀ l, l < n → 0 ≤ s_of C l 5 ∧ s_of C l 5 ≤ s_of C l 1) (h9 : C 9 = nI u) (hu : u ≤ 10000) : s_wf C n c u := by
  obtain ⟨f1, f2, f3, f4, f5, -, f7, f8, f9, f10, -, -⟩ := hf
  have lo : ∀ k, k < 9 → C k = B k := fun k hk => hs k (Or.inl hk)
  refine ⟨by rw [lo 8 (by omega)]; exact f1, f2, by rw [lo 7 (by omega)]; exact f3, f4, f5, hl, by rw [lo 5 (by omega)]; exact f7, by rw [lo 6 (by omega)]; exact f8, by rw [lo 0 (by omega)]; exact f9, fun l h => ?_, h9, hu⟩
  obtain ⟨g1, g2, -⟩ := f10 l h
  exact ⟨by rw [hs.of (by omega)]; exact g1, by rw [hs.of (by omega)]; exact g2, hr l h⟩
theorem of_upd {B : zBk} {k l f : Nat} {x : Int32} (h : k < 64) : s_of (upd B k x) l f = s_of B l f := by
  unfold s_of; exact upd_ne _ _ (by omega)
theorem of_set {B : zBk} {l a f g : Nat} {x : Int32} (hf : f < 8) (hg : g < 8) : s_of (s_set B a g x) l f = if l = a ∧ f = g then x else s_of B l f := by
  unfold s_of s_set upd
  by_cases h : l = a ∧ f = g
  · rw [if_pos h, if_pos (by obtain ⟨rfl, rfl⟩ := h; rfl)]
  · rw [if_neg h, if_neg (fun e => h ⟨by omega, by omega⟩)]
theorem set_lo {B : zBk} {a g k : Nat} {x : Int32} (h : k < 64) : s_set B a g x k = B k := upd_ne _ _ (by omega)
theorem arr_eq {B C : zBk} {l : Nat} (h1 : s_of C l 2 = s_of B l 2) (h2 : C 9 = B 9) : s_arr C l = s_arr B l := by unfold s_arr; rw [h1, h2]
theorem wf_rem {B : zBk} {n c t : Nat} (hf : s_wf B n c t) : ∀ l, l < n → 0 ≤ s_of B l 5 ∧ s_of B l 5 ≤ s_of B l 1 := fun l h => (hf.2.2.2.2.2.2.2.2.2.1 l h).2.2
theorem wf_upd {B : zBk} {n c t k : Nat} {x : Int32} (hf : s_wf B n c t) (h1 : 9 < k) (h2 : k < 22) (h3 : k ≠ 11) : s_wf (upd B k x) n c t := by
  have h9 : upd B k x 9 = B 9 := upd_ne _ _ (by omega)
  refine wf_of hf (s_same.rf.up x (fix_lit (by omega) h2)) ?_ (fun l h => by rw [of_upd (by omega), of_upd (by omega)]; exact wf_rem hf l h) (by rw [h9]; exact hf.2.2.2.2.2.2.2.2.2.2.1) hf.2.2.2.2.2.2.2.2.2.2.2
  rw [show upd B k x 11 = B 11 from upd_ne _ _ (by omega)]
  rcases hf.2.2.2.2.2.1 with h | ⟨l, h, h4, h5⟩
  · exact Or.inl h
  · exact Or.inr ⟨l, h, h4, by rw [arr_eq (of_upd (by omega)) h9]; exact h5⟩
theorem wf_set {B : zBk} {n c t a g : Nat} {x : Int32} (hf : s_wf B n c t) (hg : 5 ≤ g) (hg2 : g < 8) (hx : g = 5 → 0 ≤ x ∧ x ≤ s_of B a 1) : s_wf (s_set B a g x) n c t := by
  have h9 : s_set B a g x 9 = B 9 := set_lo (by omega)
  refine wf_of hf (s_same.rf.up x (fix_let hg hg2)) ?_ (fun l h => ?_) (by rw [h9]; exact hf.2.2.2.2.2.2.2.2.2.2.1) hf.2.2.2.2.2.2.2.2.2.2.2
  · rw [show s_set B a g x 11 = B 11 from set_lo (by omega)]
    rcases hf.2.2.2.2.2.1 with h | ⟨l, h, h4, h5⟩
    · exact Or.inl h
    · exact Or.inr ⟨l, h, h4, by rw [arr_eq (by rw [of_set (by omega) hg2, if_neg (by omega)]) h9]; exact h5⟩
  · rw [of_set (by omega) hg2, of_set (by omega) hg2, if_neg (show ¬ (l = a ∧ 1 = g) by omega)]
    by_cases e : l = a ∧ 5 = g
    · rw [if_pos e, e.1]; exact hx e.2.symm
    · rw [if_neg e]; exact wf_rem hf l h
theorem wf_last {B : zBk} {n c t l : Nat} (hf : s_wf B n c t) (hl : l < n) (ha : s_arr B l = true) : s_wf (upd B 11 (nI l)) n c t := by
  have h9 : upd B 11 (nI l) 9 = B 9 := upd_ne _ _ (by omega)
  exact wf_of hf (s_same.rf.up _ (fix_lit (by omega) (by omega))) (Or.inr ⟨l, hl, upd_same _ _ _, by rw [arr_eq (of_upd (by omega)) h9]; exact ha⟩) (fun l h => by rw [of_upd (by omega), of_upd (by omega)]; exact wf_rem hf l h) (by rw [h9]; exact hf.2.2.2.2.2.2.2.2.2.2.1) hf.2.2.2.2.2.2.2.2.2.2.2
theorem wf_time {B : zBk} {n c t : Nat} (hf : s_wf B n c t) (ht : t < 10000) : s_wf (upd B 9 (B 9 + 1)) n c (t + 1) := by
  have h0 := hf.2.2.2.2.2.2.2.2.2.2.1
  have h9 : upd B 9 (B 9 + 1) 9 = nI (t + 1) := by rw [upd_same, h0]; exact nI_1 t
  refine wf_of hf (s_same.rf.up _ (fix_lit (by omega) (by omega))) ?_ (fun l h => by rw [of_upd (by omega), of_upd (by omega)]; exact wf_rem hf l h) h9 (by omega)
  rw [show upd B 9 (B 9 + 1) 11 = B 11 from upd_ne _ _ (by omega)]
  rcases hf.2.2.2.2.2.1 with h | ⟨l, h, h4, h5⟩
  · exact Or.inl h
  · refine Or.inr ⟨l, h, h4, ?_⟩
    unfold s_arr at h5 ⊢
    rw [of_upd (by omega), h9]
    rw [h0] at h5
    have h6 : nI t ≤ nI (t + 1) := nI_le (by omega) (by omega)
    exact decide_eq_true (Int32.le_trans (of_decide_eq_true h5) h6)
theorem wf_give {B : zBk} {n c t : Nat} (hf : s_wf B n c t) (l : Nat) : s_wf (s_give B l) n c t := by
  unfold s_give
  split
  · exact hf
  · exact wf_upd (wf_upd (wf_upd hf (by omega) (by omega) (by omega)) (by omega) (by omega) (by omega)) (by omega) (by omega) (by omega)
theorem wf_hand {B : zBk} {n c t : Nat} (hf : s_wf B n c t) : s_wf (s_hand B) n c t :=
  wf_upd (wf_upd hf (by omega) (by omega) (by omega)) (by omega) (by omega) (by omega)
theorem wf_refill {B : zBk} {n c t : Nat} (hf : s_wf B n c t) : s_wf (s_refill B) n c t := by
  unfold s_refill; dsimp only
  have h := wf_upd (k := 14) (x := upd B 20 (B 20 + 1) 14 - 1) (wf_upd (k := 20) (x := B 20 + 1) hf (by omega) (by omega) (by omega)) (by omega) (by omega) (by omega)
  split
  · exact wf_upd h (by omega) (by omega) (by omega)
  · exact h
theorem wf_ink {B : zBk} {n c t : Nat} (hf : s_wf B n c t) : s_wf (s_ink B) n c t := by
  unfold s_ink; dsimp only
  have h := wf_upd (k := 13) (x := B 13 - 1) hf (by omega) (by omega) (by omega)
  split
  · have h2 := wf_upd (k := 14) (x := upd B 13 (B 13 - 1) 3) h (by omega) (by omega) (by omega)
    split
    · exact wf_upd h2 (by omega) (by omega) (by omega)
    · exact h2
  · exact h
theorem i_of {x M : Int32} {n : Nat} (hM : M.toInt = n) (h : 0 ≤ x) (h2 : x ≤ M) : ∃ j : Nat, j ≤ n ∧ x = nI j := nI_of2 hM (Int32.not_lt.mpr h) h2
theorem wf_smear {B : zBk} {n c t a : Nat} (hf : s_wf B n c t) (ha : a < n) : s_wf (s_smear B a) n c t := by
  unfold s_smear; dsimp only
  refine wf_upd (wf_set hf (by omega) (by omega) (fun _ => ?_)) (by omega) (by omega) (by omega)
  obtain ⟨-, g2, g3⟩ := hf.2.2.2.2.2.2.2.2.2.1 a ha
  obtain ⟨j, hj, ej⟩ := i_of (M := 30) (n := 30) (by decide) (Int32.le_trans (by decide) g2.1) g2.2
  obtain ⟨r, hr, er⟩ := i_of (M := nI j) (n := j) (nI_toInt (by omega)) g3.1 (by rw [← ej]; exact g3.2)
  obtain ⟨b, hb, eb⟩ := i_of (M := 5) (n := 5) (by decide) hf.2.2.2.2.2.2.2.1.1 hf.2.2.2.2.2.2.2.1.2
  rw [er, eb, ej, nI_add]
  split
  · next h => exact ⟨nI_pos' (by omega), h⟩
  · exact ⟨nI_pos' (by omega), nI_le (Nat.le_refl _) (by omega)⟩
theorem wf_mark {B : zBk} {n c t l : Nat} {r : Int32} (hf : s_wf B n c t) (hl : l < n) (ho : s_open B l = true) : s_wf (s_mark B l r) n c t := by
  unfold s_open at ho
  rw [Bool.and_eq_true] at ho
  have hd : ¬ s_of B l 5 = 0 := by have h := ho.2; simpa [s_done] using h
  obtain ⟨-, g2, g3⟩ := hf.2.2.2.2.2.2.2.2.2.1 l hl
  obtain ⟨j, hj, ej⟩ := i_of (M := 30) (n := 30) (by decide) (Int32.le_trans (by decide) g2.1) g2.2
  obtain ⟨k, hk, ek⟩ := i_of (M := nI j) (n := j) (nI_toInt (by omega)) g3.1 (by rw [← ej]; exact g3.2)
  have hk0 : 0 < k := by
    rcases Nat.eq_zero_or_pos k with h | h
    · rw [h] at ek; exact absurd ek hd
    · exact h
  have w1 := wf_upd (k := 12) (x := r) hf (by omega) (by omega) (by omega)
  have w2 : s_wf (upd (upd B 12 r) 11 (nI l)) n c t := wf_last w1 hl (by rw [arr_eq (of_upd (by omega)) (upd_ne _ _ (by omega))]; exact ho.1)
  have e5 : s_of (upd (upd B 12 r) 11 (nI l)) l 5 = nI k := by rw [of_upd (by omega), of_upd (by omega), ek]
  have e1 : s_of (upd (upd B 12 r) 11 (nI l)) l 1 = nI j := by rw [of_upd (by omega), of_upd (by omega), ej]
  have w3 := wf_set (a := l) (g := 5) (x := s_of (upd (upd B 12 r) 11 (nI l)) l 5 - 1) w2 (by omega) (by omega) (fun _ => by
    rw [e5, e1]
    obtain ⟨m, rfl⟩ : ∃ m, k = m + 1 := ⟨k - 1, by omega⟩
    rw [nI_pred]
    exact ⟨nI_pos' (by omega), nI_le (by omega) (by omega)⟩)
  unfold s_mark; dsimp only
  have w4 := wf_set (a := l) (g := 7) (x := s_of (s_set (upd (upd B 12 r) 11 (nI l)) l 5 (s_of (upd (upd B 12 r) 11 (nI l)) l 5 - 1)) l 7 + 1) w3 (by omega) (by omega) (fun h => absurd h (by omega))
  have w5 := fun x => wf_upd (k := 18) (x := x) w4 (by omega) (by omega) (by omega)
  split
  · exact wf_set (w5 _) (by omega) (by omega) (fun h => absurd h (by omega))
  · exact w5 _
theorem open_smear {B : zBk} {n c t a l : Nat} (hf : s_wf B n c t) (h : l ≠ a) : s_open (s_smear B a) l = s_open B l := by
  unfold s_smear s_open s_arr s_done; dsimp only
  rw [of_upd (by omega), of_upd (by omega), of_set (by omega) (by omega), of_set (by omega) (by omega), if_neg (show ¬ (l = a ∧ 2 = 5) by omega), if_neg (show ¬ (l = a ∧ 5 = 5) by omega), upd_ne _ _ (by omega), set_lo (by omega)]
theorem blot_wf {B : zBk} {n c t l : Nat} (hf : s_wf B n c t) (hl : l < n) : s_wf (s_blot B l) n c t ∧ s_open (s_blot B l) l = s_open B l := by
  unfold s_blot
  by_cases h : s_cur B = -1 ∨ s_cur B = nI l
  · rw [if_pos h]; exact ⟨hf, rfl⟩
  · rw [if_neg h]
    obtain ⟨a, ha, ea, -⟩ := s_cur_open hf (fun e => h (Or.inl e))
    have hn := hf.2.1
    have hcl : (s_cur B).toNatClampNeg = a := by rw [ea]; exact nI_clamp (by omega)
    rw [hcl]
    exact ⟨wf_smear hf ha, open_smear hf (fun e => h (Or.inr (by rw [e, ea])))⟩
theorem wf_write {B : zBk} {n c t l : Nat} (hf : s_wf B n c t) (hl : l < n) (ho : s_open B l = true) : s_wf (s_write B l) n c t := by
  unfold s_write; dsimp only
  obtain ⟨h1, h2⟩ := blot_wf hf hl
  exact wf_ink (wf_mark h1 hl (by rw [h2]; exact ho))
theorem give_open {B : zBk} {l : Nat} (a : Nat) : s_open (s_give B l) a = s_open B a := by
  unfold s_give
  split
  · rfl
  · unfold s_open s_arr s_done; dsimp only
    rw [of_upd (by omega), of_upd (by omega), of_upd (by omega), of_upd (by omega), of_upd (by omega), of_upd (by omega), upd_ne _ _ (by omega), upd_ne _ _ (by omega), upd_ne _ _ (by omega)]
theorem wf_workOn {B : zBk} {n c t l : Nat} (hf : s_wf B n c t) (hl : l < n) (ho : s_open B l = true) : s_wf (s_workOn B l) n c t := by
  unfold s_workOn
  split
  · exact wf_write (wf_give hf l) hl (by rw [give_open]; exact ho)
  · exact wf_hand (wf_give hf l)
theorem turn_in (B : zBk) (a n : Nat) : ∀ k s, k ≤ n → s_turn B a n s k = -1 ∨ ∃ l, l < n ∧ s_turn B a n s k = nI l ∧ s_open B l = true
  | 0, s, _ => Or.inl rfl
  | k + 1, s, hk => by
    unfold s_turn
    by_cases h : s_open B ((a + s) % n) = true
    · rw [if_pos h]
      exact Or.inr ⟨_, Nat.mod_lt _ (by omega), rfl, h⟩
    · rw [if_neg h]; exact turn_in B a n k (s + 1) (by omega)
theorem sel_in {B : zBk} {n c t p : Nat} (hf : s_wf B n c t) : s_select B n p = -1 ∨ ∃ l, l < n ∧ s_select B n p = nI l ∧ s_open B l = true := by
  have cu : ∀ h : ¬ s_cur B = -1, ∃ l, l < n ∧ s_cur B = nI l ∧ s_open B l = true := fun h => s_cur_open hf h
  have bs := s_best_in B p n
  unfold s_select
  split
  · split
    · exact bs
    · next h => exact Or.inr (cu h)
  · split
    · split
      · exact turn_in B _ n n 0 (Nat.le_refl n)
      · next h => exact Or.inr (cu (fun e => h (Or.inl e)))
    · split
      · exact bs
      · next h => exact Or.inr (cu (fun e => h (Or.inl e)))
theorem wf_min0 {B : zBk} {n c t : Nat} (hf : s_wf B n c t) : s_wf (s_min0 B n) n c t := by
  unfold s_min0
  split
  · split
    · split
      · exact wf_upd hf (by omega) (by omega) (by omega)
      · next h =>
        rcases sel_in (p := s_pol B) hf with h1 | ⟨l, h1, h2, h3⟩
        · exact absurd h1 h
        · have hn := hf.2.1
          rw [h2, nI_clamp (by omega)]
          exact wf_workOn hf h1 h3
    · exact wf_hand hf
  · exact wf_refill hf
theorem wf_min {B : zBk} {n c t : Nat} (hf : s_wf B n c t) (ht : t < 10000) : s_wf (s_min B n) n c (t + 1) := wf_time (wf_min0 hf) ht
theorem wf_mins {B : zBk} {n c t : Nat} (hf : s_wf B n c t) : ∀ k, t + k ≤ 10000 → s_wf (s_mins B n k) n c (t + k)
  | 0, _ => hf
  | k + 1, h => by
    have h1 := wf_mins hf k (by omega)
    have h2 := wf_min h1 (by omega)
    exact h2
theorem cnt_no {q : Nat → Bool} {n : Nat} (h : q n = false) : s_cnt q (n + 1) = s_cnt q n := by
  show s_cnt q n + (if q n = true then 1 else 0) = _
  rw [h]; rfl
theorem cnt_yes {q : Nat → Bool} {n : Nat} (h : q n = true) : s_cnt q (n + 1) = s_cnt q n + 1 := by
  show s_cnt q n + (if q n = true then 1 else 0) = _
  rw [h]; rfl
