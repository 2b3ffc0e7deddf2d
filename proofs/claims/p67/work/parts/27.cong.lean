/-! LIKENESS: two blocks that agree on the settings, the counters and the first n letters act alike -/
def s_eq (n : Nat) (B C : zBk) : Prop := (∀ k, k < 22 → C k = B k) ∧ ∀ l, l < n → ∀ f, f < 8 → s_of C l f = s_of B l f
theorem s_eq.rf {n : Nat} {B : zBk} : s_eq n B B := ⟨fun _ _ => rfl, fun _ _ _ _ => rfl⟩
theorem s_eq.sy {n : Nat} {B C : zBk} (h : s_eq n B C) : s_eq n C B := ⟨fun k hk => (h.1 k hk).symm, fun l hl f hf => (h.2 l hl f hf).symm⟩
theorem s_eq.tr {n : Nat} {B C D : zBk} (h : s_eq n B C) (h2 : s_eq n C D) : s_eq n B D := ⟨fun k hk => (h2.1 k hk).trans (h.1 k hk), fun l hl f hf => (h2.2 l hl f hf).trans (h.2 l hl f hf)⟩
theorem s_eq.up {n : Nat} {B C : zBk} (h : s_eq n B C) {k : Nat} {x y : Int32} (hk : k < 64) (hx : y = x) : s_eq n (upd B k x) (upd C k y) := by
  subst hx
  refine ⟨fun j hj => ?_, fun l hl f hf => ?_⟩
  · by_cases e : j = k
    · rw [e, upd_same, upd_same]
    · rw [upd_ne _ _ e, upd_ne _ _ e]; exact h.1 j hj
  · rw [of_upd hk, of_upd hk]; exact h.2 l hl f hf
theorem s_eq.st {n : Nat} {B C : zBk} (h : s_eq n B C) {a g : Nat} {x y : Int32} (hg : g < 8) (hx : y = x) : s_eq n (s_set B a g x) (s_set C a g y) := by
  subst hx
  refine ⟨fun j hj => ?_, fun l hl f hf => ?_⟩
  · rw [set_lo (by omega), set_lo (by omega)]; exact h.1 j hj
  · rw [of_set hf hg, of_set hf hg]
    split
    · rfl
    · exact h.2 l hl f hf
section LK
variable {B C : zBk} {n l : Nat}
theorem eq_done (h : s_eq n B C) (hl : l < n) : s_done C l = s_done B l := by unfold s_done; rw [h.2 l hl 5 (by omega)]
theorem eq_arr (h : s_eq n B C) (hl : l < n) : s_arr C l = s_arr B l := by unfold s_arr; rw [h.2 l hl 2 (by omega), h.1 9 (by omega)]
theorem eq_open (h : s_eq n B C) (hl : l < n) : s_open C l = s_open B l := by unfold s_open; rw [eq_arr h hl, eq_done h hl]
theorem eq_waited (h : s_eq n B C) (hl : l < n) : s_waited C l = s_waited B l := by unfold s_waited; rw [eq_arr h hl, eq_done h hl, h.2 l hl 6 (by omega), h.2 l hl 2 (by omega), h.2 l hl 7 (by omega), h.1 9 (by omega)]
theorem eq_urg (h : s_eq n B C) (hl : l < n) : s_urg C l = s_urg B l := by unfold s_urg; rw [eq_waited h hl, h.2 l hl 4 (by omega), h.1 5 (by omega)]
theorem eq_late (h : s_eq n B C) (hl : l < n) : s_late C l = s_late B l := by unfold s_late; rw [eq_done h hl, h.2 l hl 3 (by omega), h.2 l hl 6 (by omega)]
theorem eq_bad (h : s_eq n B C) (hl : l < n) (p : Nat) : s_bad C l p = s_bad B l p := by unfold s_bad; rw [eq_urg h hl, h.2 l hl 2 (by omega), h.2 l hl 5 (by omega), h.2 l hl 3 (by omega)]
theorem eq_wf {c t : Nat} (h : s_eq n B C) (hf : s_wf B n c t) : s_wf C n c t := by
  obtain ⟨f1, f2, f3, f4, f5, f6, f7, f8, f9, f10, f11, f12⟩ := hf
  refine ⟨by rw [h.1 8 (by omega)]; exact f1, f2, by rw [h.1 7 (by omega)]; exact f3, f4, f5, ?_, by rw [h.1 5 (by omega)]; exact f7, by rw [h.1 6 (by omega)]; exact f8, by rw [h.1 0 (by omega)]; exact f9, fun l hl => ?_, by rw [h.1 9 (by omega)]; exact f11, f12⟩
  · rw [h.1 11 (by omega)]
    rcases f6 with e | ⟨l, hl, e, ha⟩
    · exact Or.inl e
    · exact Or.inr ⟨l, hl, e, by rw [eq_arr h hl]; exact ha⟩
  · unfold s_let
    rw [h.2 l hl 0 (by omega), h.2 l hl 1 (by omega), h.2 l hl 5 (by omega)]
    exact f10 l hl
theorem eq_pos (h : s_eq n B C) (hp : s_pos B) : s_pos C := by
  unfold s_pos
  rw [h.1 1 (by omega), h.1 3 (by omega), h.1 14 (by omega), h.1 15 (by omega)]; exact hp
theorem eq_cur {c t : Nat} (h : s_eq n B C) (hf : s_wf B n c t) : s_cur C = s_cur B := by
  unfold s_cur
  rw [h.1 11 (by omega)]
  have hn := hf.2.1
  rcases hf.2.2.2.2.2.1 with e | ⟨l, hl, e, -⟩
  · rw [if_pos e, if_pos e]
  · rw [e, nI_clamp (by omega), eq_done h hl]
theorem eq_best (h : s_eq n B C) (hn : n ≤ 12) (p : Nat) : ∀ m, m ≤ n → s_best C p m = s_best B p m
  | 0, _ => rfl
  | m + 1, hm => by
    have ih := eq_best h hn p m (by omega)
    unfold s_best
    rw [ih, eq_open h (by omega), eq_bad h (by omega)]
    by_cases h0 : s_best B p m = -1
    · simp only [h0, true_or]
    · obtain ⟨l, h1, h2, -⟩ := (s_best_in B p m).resolve_left h0
      rw [h2, nI_clamp (by omega), eq_bad h (by omega)]
theorem eq_turn (h : s_eq n B C) (a : Nat) : ∀ k s, k ≤ n → s_turn C a n s k = s_turn B a n s k
  | 0, _, _ => rfl
  | k + 1, s, hk => by
    have hlt : (a + s) % n < n := Nat.mod_lt _ (by omega)
    unfold s_turn
    rw [eq_open h hlt, eq_turn h a k (s + 1) (by omega)]
theorem eq_select {c t : Nat} (h : s_eq n B C) (hf : s_wf B n c t) (p : Nat) : s_select C n p = s_select B n p := by
  have hn := hf.2.1
  have e1 := eq_cur h hf
  have e2 := eq_best h hn p n (by omega)
  unfold s_select
  rw [e1, e2, eq_turn h _ n 0 (by omega), h.1 4 (by omega), h.1 12 (by omega), show s_last1 C = s_last1 B by unfold s_last1; rw [h.1 11 (by omega)]]
  by_cases h0 : s_cur B = -1
  · simp only [h0, true_or]
  · obtain ⟨l, hl, h2, ho⟩ := s_cur_open hf h0
    obtain ⟨b, hb, h3, -⟩ := (s_best_in B p n).resolve_left (s_best_ne B p n hn hl ho)
    rw [h2, h3, nI_clamp (by omega), nI_clamp (by omega), eq_bad h hl, eq_bad h hb]
theorem eq_smear (h : s_eq n B C) (hl : l < n) : s_eq n (s_smear B l) (s_smear C l) := by
  unfold s_smear; dsimp only
  have e : s_eq n (s_set B l 5 (if s_of B l 5 + B 6 ≤ s_of B l 1 then s_of B l 5 + B 6 else s_of B l 1)) (s_set C l 5 (if s_of C l 5 + C 6 ≤ s_of C l 1 then s_of C l 5 + C 6 else s_of C l 1)) := h.st (by omega) (by rw [h.2 l hl 5 (by omega), h.2 l hl 1 (by omega), h.1 6 (by omega)])
  exact e.up (by omega) (by rw [e.1 16 (by omega)])
theorem eq_mark (h : s_eq n B C) (hl : l < n) {r q : Int32} (hr : q = r) : s_eq n (s_mark B l r) (s_mark C l q) := by
  unfold s_mark; dsimp only
  have a := (h.up (k := 12) (by omega) hr).up (k := 11) (x := nI l) (y := nI l) (by omega) rfl
  have b := a.st (a := l) (g := 5) (x := s_of (upd (upd B 12 r) 11 (nI l)) l 5 - 1) (y := s_of (upd (upd C 12 q) 11 (nI l)) l 5 - 1) (by omega) (by rw [a.2 l hl 5 (by omega)])
  have c := b.st (a := l) (g := 7) (x := s_of (s_set (upd (upd B 12 r) 11 (nI l)) l 5 (s_of (upd (upd B 12 r) 11 (nI l)) l 5 - 1)) l 7 + 1) (y := s_of (s_set (upd (upd C 12 q) 11 (nI l)) l 5 (s_of (upd (upd C 12 q) 11 (nI l)) l 5 - 1)) l 7 + 1) (by omega) (by rw [b.2 l hl 7 (by omega)])
  have d := c.up (k := 18) (x := s_set (s_set (upd (upd B 12 r) 11 (nI l)) l 5 (s_of (upd (upd B 12 r) 11 (nI l)) l 5 - 1)) l 7 (s_of (s_set (upd (upd B 12 r) 11 (nI l)) l 5 (s_of (upd (upd B 12 r) 11 (nI l)) l 5 - 1)) l 7 + 1) 18 + 1) (y := s_set (s_set (upd (upd C 12 q) 11 (nI l)) l 5 (s_of (upd (upd C 12 q) 11 (nI l)) l 5 - 1)) l 7 (s_of (s_set (upd (upd C 12 q) 11 (nI l)) l 5 (s_of (upd (upd C 12 q) 11 (nI l)) l 5 - 1)) l 7 + 1) 18 + 1) (by omega) (by rw [c.1 18 (by omega)])
  rw [eq_done d hl]
  split
  · exact d.st (by omega) (by rw [d.1 9 (by omega)])
  · exact d
theorem eq_ink (h : s_eq n B C) : s_eq n (s_ink B) (s_ink C) := by
  unfold s_ink; dsimp only
  have a := h.up (k := 13) (x := B 13 - 1) (y := C 13 - 1) (by omega) (by rw [h.1 13 (by omega)])
  have b := a.up (k := 14) (x := upd B 13 (B 13 - 1) 3) (y := upd C 13 (C 13 - 1) 3) (by omega) (a.1 3 (by omega))
  rw [a.1 13 (by omega), b.1 14 (by omega)]
  split
  · split
    · exact b.up (by omega) (b.1 2 (by omega))
    · exact b
  · exact a
theorem eq_blot {c t : Nat} (h : s_eq n B C) (hf : s_wf B n c t) : s_eq n (s_blot B l) (s_blot C l) := by
  unfold s_blot
  rw [eq_cur h hf]
  by_cases h1 : s_cur B = -1 ∨ s_cur B = nI l
  · rw [if_pos h1, if_pos h1]; exact h
  · rw [if_neg h1, if_neg h1]
    have hn := hf.2.1
    obtain ⟨a, ha, h2, -⟩ := s_cur_open hf (fun e => h1 (Or.inl e))
    rw [h2, nI_clamp (by omega)]
    exact eq_smear h ha
theorem eq_write {c t : Nat} (h : s_eq n B C) (hf : s_wf B n c t) (hl : l < n) : s_eq n (s_write B l) (s_write C l) := by
  unfold s_write; dsimp only
  have a := eq_blot (l := l) h hf
  refine eq_ink (eq_mark a hl ?_)
  rw [eq_cur h hf, a.1 12 (by omega)]
  unfold s_goes
  rw [a.1 0 (by omega), a.1 12 (by omega), a.1 4 (by omega)]
theorem eq_give (h : s_eq n B C) (hl : l < n) : s_eq n (s_give B l) (s_give C l) := by
  unfold s_give; dsimp only
  rw [h.2 l hl 0 (by omega), h.1 10 (by omega)]
  split
  · exact h
  · have a := h.up (k := 10) (x := s_of B l 0) (y := s_of B l 0) (by omega) rfl
    have b := a.up (k := 17) (x := upd B 10 (s_of B l 0) 17 + 1) (y := upd C 10 (s_of B l 0) 17 + 1) (by omega) (by rw [a.1 17 (by omega)])
    exact b.up (by omega) (b.1 1 (by omega))
theorem eq_hand (h : s_eq n B C) : s_eq n (s_hand B) (s_hand C) := by
  unfold s_hand; dsimp only
  have a := h.up (k := 15) (x := B 15 - 1) (y := C 15 - 1) (by omega) (by rw [h.1 15 (by omega)])
  exact a.up (by omega) (by rw [a.1 21 (by omega)])
theorem eq_refill (h : s_eq n B C) : s_eq n (s_refill B) (s_refill C) := by
  unfold s_refill; dsimp only
  have a := h.up (k := 20) (x := B 20 + 1) (y := C 20 + 1) (by omega) (by rw [h.1 20 (by omega)])
  have b := a.up (k := 14) (x := upd B 20 (B 20 + 1) 14 - 1) (y := upd C 20 (C 20 + 1) 14 - 1) (by omega) (by rw [a.1 14 (by omega)])
  rw [b.1 14 (by omega)]
  split
  · exact b.up (by omega) (b.1 2 (by omega))
  · exact b
theorem eq_workOn {c t : Nat} (h : s_eq n B C) (hf : s_wf B n c t) (hl : l < n) : s_eq n (s_workOn B l) (s_workOn C l) := by
  have g := eq_give h hl
  unfold s_workOn
  rw [g.1 15 (by omega)]
  split
  · exact eq_write g (wf_give hf l) hl
  · exact eq_hand g
theorem eq_min {c t : Nat} (h : s_eq n B C) (hf : s_wf B n c t) : s_eq n (s_min B n) (s_min C n) := by
  have hn := hf.2.1
  have key : s_eq n (s_min0 B n) (s_min0 C n) := by
    unfold s_min0
    rw [show s_pol C = s_pol B by unfold s_pol; rw [h.1 0 (by omega)], eq_select h hf, h.1 14 (by omega), h.1 15 (by omega), h.1 19 (by omega)]
    split
    · split
      · split
        · exact h.up (by omega) rfl
        · next h1 =>
          obtain ⟨l, hl, h2, -⟩ := (sel_in hf).resolve_left h1
          rw [h2, nI_clamp (by omega)]
          exact eq_workOn h hf hl
      · exact eq_hand h
    · exact eq_refill h
  unfold s_min
  exact key.up (by omega) (by rw [key.1 9 (by omega)])
theorem eq_mins {c t : Nat} (h : s_eq n B C) (hf : s_wf B n c t) : ∀ k, t + k ≤ 10000 → s_eq n (s_mins B n k) (s_mins C n k)
  | 0, _ => h
  | k + 1, hk => eq_min (eq_mins h hf k (by omega)) (wf_mins hf k (by omega))
theorem cnt_eq {q r : zBk → Nat → Bool} (hq : ∀ l, l < n → q C l = r B l) : s_cnt (q C) n = s_cnt (r B) n := cnt_congr n hq
end LK
/-! NAMES, AND WHAT LIES BEHIND THE BLOCK -/
theorem min_far {B : zBk} {n c t : Nat} (hf : s_wf B n c t) {k : Nat} (hk : (22 ≤ k ∧ k < 64) ∨ 64 + n * 8 ≤ k) : s_min B n k = B k := by
  have hn := hf.2.1
  have e : ∀ (C : zBk) (j : Nat) (x : Int32), j < 22 → upd C j x k = C k := fun C j x hj => upd_ne _ _ (by omega)
  have e2 : ∀ (C : zBk) (l f : Nat) (x : Int32), l < n → f < 8 → s_set C l f x k = C k := fun C l f x hl h8 => upd_ne _ _ (by omega)
  have ink : ∀ C : zBk, s_ink C k = C k := fun C => by
    unfold s_ink; dsimp only
    split
    · split
      · rw [e _ _ _ (by omega), e _ _ _ (by omega), e _ _ _ (by omega)]
      · rw [e _ _ _ (by omega), e _ _ _ (by omega)]
    · rw [e _ _ _ (by omega)]
  have mark : ∀ (C : zBk) (l : Nat) (r : Int32), l < n → s_mark C l r k = C k := fun C l r hl => by
    unfold s_mark
    split
    · rw [e2 _ _ _ _ hl (by omega), e _ _ _ (by omega), e2 _ _ _ _ hl (by omega), e2 _ _ _ _ hl (by omega), e _ _ _ (by omega), e _ _ _ (by omega)]
    · rw [e _ _ _ (by omega), e2 _ _ _ _ hl (by omega), e2 _ _ _ _ hl (by omega), e _ _ _ (by omega), e _ _ _ (by omega)]
  have hand : ∀ C : zBk, s_hand C k = C k := fun C => by
    unfold s_hand
    rw [e _ _ _ (by omega), e _ _ _ (by omega)]
  have give : ∀ l, s_give B l k = B k := fun l => by
    unfold s_give; dsimp only
    split
    · rfl
    · rw [e _ _ _ (by omega), e _ _ _ (by omega), e _ _ _ (by omega)]
  have write : ∀ (C : zBk) (l : Nat), s_wf C n c t → l < n → s_write C l k = C k := fun C l hC hl => by
    unfold s_write
    rw [ink, mark _ _ _ hl]
    unfold s_blot
    by_cases h : s_cur C = -1 ∨ s_cur C = nI l
    · rw [if_pos h]
    · rw [if_neg h]
      obtain ⟨a, ha, h2, -⟩ := s_cur_open hC (fun e => h (Or.inl e))
      rw [h2, nI_clamp (by omega)]
      unfold s_smear
      rw [e _ _ _ (by omega), e2 _ _ _ _ ha (by omega)]
  unfold s_min
  rw [e _ _ _ (by omega)]
  unfold s_min0
  split
  · split
    · split
      · exact e _ _ _ (by omega)
      · next h1 =>
        obtain ⟨l, hl, h2, -⟩ := (sel_in hf).resolve_left h1
        rw [h2, nI_clamp (by omega)]
        unfold s_workOn
        split
        · rw [write _ l (wf_give hf l) hl, give]
        · rw [hand, give]
    · exact hand B
  · unfold s_refill
    split
    · rw [e _ _ _ (by omega), e _ _ _ (by omega), e _ _ _ (by omega)]
    · rw [e _ _ _ (by omega), e _ _ _ (by omega)]
theorem mins_far {B : zBk} {n c t : Nat} (hf : s_wf B n c t) {k : Nat} (hk : (22 ≤ k ∧ k < 64) ∨ 64 + n * 8 ≤ k) : ∀ j, t + j ≤ 10000 → s_mins B n j k = B k
  | 0, _ => rfl
  | j + 1, hj => (min_far (wf_mins hf j (by omega)) hk).trans (mins_far hf hk j (by omega))
