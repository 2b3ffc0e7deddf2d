/-! THE OFFICE OF BOTH SIDES: a block of the reference, and of the class with its current letter -/
def oR (B C : zBk) (cu : Int32) (n c t : Nat) : Prop := s_wf B n c t ∧ t ≤ 2000 ∧ s_pos B ∧ s_num B n t ∧ nmZ B c ∧ s_eq n B C ∧ nmE c B C ∧ cu = s_cur B ∧ nmK C
section ORR
variable {B C X : zBk} {cu : Int32} {n c t l j : Nat}
theorem oR.wfC (h : oR B C cu n c t) : s_wf C n c t := eq_wf h.2.2.2.2.2.1 h.1
theorem oR.posC (h : oR B C cu n c t) : s_pos C := eq_pos h.2.2.2.2.2.1 h.2.2.1
theorem oR.curC (h : oR B C cu n c t) : cu = s_cur C := h.2.2.2.2.2.2.2.1.trans (eq_cur h.2.2.2.2.2.1 h.1).symm
theorem oR.nmLC (h : oR B C cu n c t) : nmL C c := nmE.L h.2.2.2.2.2.2.1 h.2.2.2.2.1.L
/-- another block of the reference, the same as far as an office goes -/
theorem oR.cgB {B' : zBk} (h : oR B C cu n c t) (e : ∀ k, k < 160 → B' k = B k) : oR B' C cu n c t := by
  obtain ⟨h1, h2, h3, h4, h5, h6, h7, h8, h9⟩ := h
  have hn := h1.2.1
  have hc := h1.2.2.2.2.1
  have q : s_eq n B B' := ⟨fun k hk => e k (by omega), fun l hl f hf => e _ (by omega)⟩
  exact ⟨eq_wf q h1, h2, eq_pos q h3, num_eq h4 q, h5.cg (fun k a b => e k (by omega)), s_eq.tr q.sy h6, h7.cg h5.L (fun k a b => e k (by omega)) (fun k a b => rfl), h8.trans (eq_cur q h1).symm, h9⟩
/-- another block of the class: what a copy copies is the same -/
theorem oR.cgC {C' : zBk} (h : oR B C cu n c t) (e : ∀ k, q_cp n c k = true → C' k = C k) (hK : nmK C') : oR B C' cu n c t := by
  obtain ⟨h1, h2, h3, h4, h5, h6, h7, h8, h9⟩ := h
  have hn := h1.2.1
  have q : s_eq n C C' := ⟨fun k hk => e k (by unfold q_cp; exact decide_eq_true (Or.inl hk)), fun l hl f hf => e _ (by unfold q_cp; exact decide_eq_true (Or.inr (Or.inr (by omega))))⟩
  exact ⟨h1, h2, h3, h4, h5, s_eq.tr h6 q, h7.cg h5.L (fun k a b => rfl) (fun k a b => e k (by unfold q_cp; exact decide_eq_true (Or.inr (Or.inl ⟨a, b⟩)))), h8, hK⟩
theorem oR.cgC2 {C' : zBk} (h : oR B C cu n c t) (e : ∀ k, k < 160 → C' k = C k) : oR B C' cu n c t := by
  have hn := h.1.2.1
  have hc := h.1.2.2.2.2.1
  refine h.cgC (fun k hk => e k ?_) (fun a ha k hk => by rw [e _ (by omega)]; exact h.2.2.2.2.2.2.2.2 a ha k hk)
  unfold q_cp at hk
  have z := of_decide_eq_true hk
  omega
theorem oR_mins (h : oR B C cu n c t) {k : Nat} (hk : t + k ≤ 2000) : oR (s_mins B n k) (s_mins C n k) (s_cur (s_mins C n k)) n c (t + k) := by
  have hC := h.wfC
  obtain ⟨h1, h2, h3, h4, h5, h6, h7, h8, h9⟩ := h
  have q := eq_mins h6 h1 k (by omega)
  have hc := h1.2.2.2.2.1
  have fB := fun (j : Nat) (a : 22 ≤ j) (b : j < 22 + c * 7) => mins_far (B := B) h1 (k := j) (Or.inl ⟨a, by omega⟩) k (by omega)
  have fC := fun (j : Nat) (a : 22 ≤ j) (b : j < 22 + c * 7) => mins_far (B := C) hC (k := j) (Or.inl ⟨a, by omega⟩) k (by omega)
  have w := wf_mins h1 k (by omega)
  exact ⟨w, hk, pos_mins h3 n k, num_mins h1 h4 k (by omega), h5.cg fB, q, h7.cg h5.L fB fC, eq_cur q w, nmK_mins hC h9 (by omega)⟩
theorem oR_add (h : oR B C cu n c t) (hn : n < 12) {a : Nat} (ha : a < c) {x1 x2 x3 x4 x5 : Int32} (e1 : x1 = nI a) (hd : s_in x2 1 30 = true) (h4' : s_in x4 1 999 = true) : oR (s_add B n x1 x2 x3 x4 x5) (s_add C n x1 x2 x3 x4 x5) cu (n + 1) c t := by
  obtain ⟨h1, h2, h3, h4, h5, h6, h7, h8, h9⟩ := h
  have hc := h1.2.2.2.2.1
  unfold s_in at hd h4'
  rw [Bool.and_eq_true] at hd h4'
  have d1 := of_decide_eq_true hd.1
  have d2 := of_decide_eq_true hd.2
  have w := wf_add (x3 := x3) (x4 := x4) (x5 := x5) h1 hn ha e1 d1 d2
  refine ⟨w, h2, pos_add h3, num_add h4 (i_of (M := 999) (n := 999) (by decide) (Int32.le_trans (by decide) (of_decide_eq_true h4'.1)) (of_decide_eq_true h4'.2)) d1, h5.cg (fun k a b => add_lo (by omega) (by omega)), ⟨fun k hk => ?_, fun l hl f hf => ?_⟩, h7.cg h5.L (fun k a b => add_lo (by omega) (by omega)) (fun k a b => add_lo (by omega) (by omega)), h8.trans (cur_add h1).symm, nmK_add h9⟩
  · by_cases e : k = 8
    · rw [e, add_8, add_8, h6.1 8 (by omega)]
    · rw [add_lo (by omega) e, add_lo (by omega) e, h6.1 k hk]
  · by_cases e : l = n
    · rw [e, add_at hf, add_at hf]
    · rw [add_of hf e, add_of hf e, h6.2 l (by omega) f hf]
theorem oR_pol (h : oR B C cu n c t) {x : Int32} (hx : s_in x 0 4 = true) : oR (upd B 0 x) (upd C 0 x) cu n c t := by
  obtain ⟨h1, h2, h3, h4, h5, h6, h7, h8, h9⟩ := h
  obtain ⟨p, hp, ep, -⟩ := pol_in hx
  exact ⟨by rw [ep]; exact wf_pol h1 hp, h2, pos_upd h3 (fun q => by omega), num_upd h4 (by omega) (by omega) (by omega), h5.cg (fun k a b => upd_ne _ _ (by omega)), h6.up (by omega) rfl, h7.cg h5.L (fun k a b => upd_ne _ _ (by omega)) (fun k a b => upd_ne _ _ (by omega)), h8.trans (cur_upd (by omega) (by omega)).symm, nmK_upd h9 (by omega)⟩
theorem nmK_set {l f : Nat} {x : Int32} (h : nmK C) : nmK (s_set C l f x) := fun a ha k hk => by
  rw [set_lo (by omega)]
  exact h a ha k hk
theorem oR_set34 (h : oR B C cu n c t) {g : Nat} {x : Int32} (hg : g = 3 ∧ s_in x 1 999 = true ∨ g = 4) : oR (s_set B l g x) (s_set C l g x) cu n c t := by
  obtain ⟨h1, h2, h3, h4, h5, h6, h7, h8, h9⟩ := h
  have hc := h1.2.2.2.2.1
  refine ⟨wf_set34 h1 (by omega), h2, pos_set h3, ?_, h5.cg (fun k a b => set_lo (by omega)), h6.st (by omega) rfl, h7.cg h5.L (fun k a b => set_lo (by omega)) (fun k a b => set_lo (by omega)), h8.trans (cur_set (by omega)).symm, nmK_set h9⟩
  rcases hg with ⟨rfl, hx⟩ | rfl
  · unfold s_in at hx
    rw [Bool.and_eq_true] at hx
    exact num_set3 h4 (i_of (M := 999) (n := 999) (by decide) (Int32.le_trans (by decide) (of_decide_eq_true hx.1)) (of_decide_eq_true hx.2))
  · exact num_set4 h4
theorem oR_drop (h : oR B C cu n c t) (hl : l < n) (ho : s_open B l = true) : oR (s_drop B l) (s_drop C l) (if cu = nI l then -1 else cu) n c t := by
  obtain ⟨h1, h2, h3, h4, h5, h6, h7, h8, h9⟩ := h
  have hc := h1.2.2.2.2.1
  have lo : ∀ (D : zBk) (k : Nat), k < 64 → s_drop D l k = D k := fun D k hk => by unfold s_drop; rw [set_lo hk, set_lo hk]
  refine ⟨wf_drop h1 hl, h2, pos_set (pos_set h3), num_drop h1 h4 ho, h5.cg (fun k a b => lo B k (by omega)), ?_, h7.cg h5.L (fun k a b => lo B k (by omega)) (fun k a b => lo C k (by omega)), ?_, nmK_set (nmK_set h9)⟩
  · exact (h6.st (by omega) rfl).st (by omega) (h6.1 9 (by omega))
  · rw [cur_drop h1 hl, h8]
theorem oR_ext (h : oR B C cu n c t) (hl : l < n) (hd : s_done B l = false) {y : Int32} (hy : s_in y 1 29 = true) (h30 : s_of B l 1 + y ≤ 30) : oR (s_ext B l y) (s_ext C l y) cu n c t := by
  obtain ⟨h1, h2, h3, h4, h5, h6, h7, h8, h9⟩ := h
  have hc := h1.2.2.2.2.1
  refine ⟨wf_ext h1 hl hd hy h30, h2, pos_ext h3, num_ext h1 h4 hl hd hy, h5.cg (fun k a b => ext_lo (by omega)), ?_, h7.cg h5.L (fun k a b => ext_lo (by omega)) (fun k a b => ext_lo (by omega)), h8.trans (cur_ext h1 hl hd hy).symm, nmK_set (nmK_set h9)⟩
  exact (h6.st (by omega) (by rw [h6.2 l hl 1 (by omega)])).st (by omega) (by rw [h6.2 l hl 5 (by omega)])
theorem nat_in {x : Int32} {v : Nat} {hi : Int32} (hx : x = nI v) (hv : v ≤ 999) (h : decide (x ≤ hi) = true) : s_in x 0 hi = true := by
  unfold s_in
  rw [Bool.and_eq_true]
  exact ⟨decide_eq_true (by rw [hx]; exact nI_pos' (by omega)), h⟩
end ORR
