/-! THE OFFICE OF BOTH SIDES: what is kept of its numbers -/
/-- of a letter: its deadline, its finish, and that it has arrived when it is done -/
def n_let (B : zBk) (l t : Nat) : Prop := (∃ d, d ≤ 999 ∧ s_of B l 3 = nI d) ∧ (s_done B l = true → s_arr B l = true ∧ ∃ f, f ≤ t ∧ s_of B l 6 = nI f)
def s_num (B : zBk) (n t : Nat) : Prop := (∃ w, w ≤ t ∧ B 18 = nI w) ∧ ∀ l, l < n → n_let B l t
section NUM
variable {B C : zBk} {n c t l j f k : Nat} {r : Int32}
theorem f_ink : s_of (s_ink B) l f = s_of B l f := by
  unfold s_ink; try dsimp only
  split
  · split
    · rw [of_upd (by omega), of_upd (by omega), of_upd (by omega)]
    · rw [of_upd (by omega), of_upd (by omega)]
  · rw [of_upd (by omega)]
theorem g_ink (h : k ≠ 13) (h2 : k ≠ 14) : s_ink B k = B k := by
  unfold s_ink; try dsimp only
  split
  · split
    · rw [upd_ne _ _ h, upd_ne _ _ h2, upd_ne _ _ h]
    · rw [upd_ne _ _ h2, upd_ne _ _ h]
  · rw [upd_ne _ _ h]
theorem f_blot (hf : f < 8) (h : f ≠ 5) : s_of (s_blot B l) j f = s_of B j f := by
  unfold s_blot
  split
  · rfl
  · unfold s_smear
    rw [of_upd (by omega), of_set hf (by omega), if_neg (by omega)]
theorem g_blot (hk : k < 64) (h : k ≠ 16) : s_blot B l k = B k := by
  unfold s_blot
  split
  · rfl
  · unfold s_smear
    rw [upd_ne _ _ h, set_lo hk]
theorem f_mark (hf : f < 8) (h : j ≠ l ∨ f < 5) : s_of (s_mark B l r) j f = s_of B j f := by
  unfold s_mark; try dsimp only
  split
  · rw [of_set hf (by omega), if_neg (by omega), of_upd (by omega), of_set hf (by omega), if_neg (by omega), of_set hf (by omega), if_neg (by omega), of_upd (by omega), of_upd (by omega)]
  · rw [of_upd (by omega), of_set hf (by omega), if_neg (by omega), of_set hf (by omega), if_neg (by omega), of_upd (by omega), of_upd (by omega)]
theorem g_mark (hk : k < 64) (h1 : k ≠ 11) (h2 : k ≠ 12) (h3 : k ≠ 18) : s_mark B l r k = B k := by
  unfold s_mark; try dsimp only
  split
  · rw [set_lo hk, upd_ne _ _ h3, set_lo hk, set_lo hk, upd_ne _ _ h1, upd_ne _ _ h2]
  · rw [upd_ne _ _ h3, set_lo hk, set_lo hk, upd_ne _ _ h1, upd_ne _ _ h2]
theorem g_mark18 : s_mark B l r 18 = B 18 + 1 := by
  have e : ∀ x y z : Int32, s_set (s_set (upd (upd B 12 r) 11 (nI l)) l 5 x) l 7 y 18 = B 18 := fun x y z => by
    rw [set_lo (by omega), set_lo (by omega), upd_ne _ _ (by omega), upd_ne _ _ (by omega)]
  unfold s_mark; try dsimp only
  split
  · rw [set_lo (by omega), upd_same, e _ _ 0]
  · rw [upd_same, e _ _ 0]
theorem g_mark11 : s_mark B l r 11 = nI l := by
  unfold s_mark; try dsimp only
  split
  · rw [set_lo (by omega), upd_ne _ _ (by omega), set_lo (by omega), set_lo (by omega), upd_same]
  · rw [upd_ne _ _ (by omega), set_lo (by omega), set_lo (by omega), upd_same]
theorem f_mark6 (h : s_done (s_mark B l r) l = true) : s_of (s_mark B l r) l 6 = B 9 + 1 := by
  have e : ∀ x y z : Int32, upd (s_set (s_set (upd (upd B 12 r) 11 (nI l)) l 5 x) l 7 y) 18 z 9 = B 9 := fun x y z => by
    rw [upd_ne _ _ (by omega), set_lo (by omega), set_lo (by omega), upd_ne _ _ (by omega), upd_ne _ _ (by omega)]
  unfold s_mark at h ⊢; try dsimp only at h ⊢
  split at h
  · next q =>
    rw [if_pos q, of_set (by omega) (by omega), if_pos ⟨rfl, rfl⟩, e]
  · next q => exact absurd h q
theorem f_give : s_of (s_give B l) j f = s_of B j f := by
  unfold s_give; try dsimp only
  split
  · rfl
  · rw [of_upd (by omega), of_upd (by omega), of_upd (by omega)]
theorem g_give (h1 : k ≠ 10) (h2 : k ≠ 17) (h3 : k ≠ 15) : s_give B l k = B k := by
  unfold s_give; try dsimp only
  split
  · rfl
  · rw [upd_ne _ _ h3, upd_ne _ _ h2, upd_ne _ _ h1]
theorem f_hand : s_of (s_hand B) j f = s_of B j f := by
  unfold s_hand
  rw [of_upd (by omega), of_upd (by omega)]
theorem g_hand (h1 : k ≠ 15) (h2 : k ≠ 21) : s_hand B k = B k := by
  unfold s_hand
  rw [upd_ne _ _ h2, upd_ne _ _ h1]
theorem f_refill : s_of (s_refill B) j f = s_of B j f := by
  unfold s_refill; try dsimp only
  split
  · rw [of_upd (by omega), of_upd (by omega), of_upd (by omega)]
  · rw [of_upd (by omega), of_upd (by omega)]
theorem g_refill (h1 : k ≠ 20) (h2 : k ≠ 14) (h3 : k ≠ 13) : s_refill B k = B k := by
  unfold s_refill; try dsimp only
  split
  · rw [upd_ne _ _ h3, upd_ne _ _ h2, upd_ne _ _ h1]
  · rw [upd_ne _ _ h2, upd_ne _ _ h1]
theorem done_f (h : s_of C l 5 = s_of B l 5) : s_done C l = s_done B l := by unfold s_done; rw [h]
/-- what a minute does to the letters, ahead of the clock's step -/
def m_ok (B C : zBk) (n : Nat) : Prop := (C 18 = B 18 ∨ C 18 = B 18 + 1) ∧ C 9 = B 9 ∧ ∀ l, l < n → s_of C l 2 = s_of B l 2 ∧ s_of C l 3 = s_of B l 3 ∧ (s_done C l = true → (s_done B l = true ∧ s_of C l 6 = s_of B l 6) ∨ (s_arr B l = true ∧ s_of C l 6 = B 9 + 1))
theorem mok_same (h18 : C 18 = B 18) (h9 : C 9 = B 9) (h : ∀ l f, s_of C l f = s_of B l f) : m_ok B C n :=
  ⟨Or.inl h18, h9, fun l _ => ⟨h l 2, h l 3, fun q => Or.inl ⟨by rw [done_f (h l 5)] at q; exact q, h l 6⟩⟩⟩
theorem write_ok (hf : s_wf B n c t) (hl : l < n) (ho : s_open B l = true) : m_ok B (s_write B l) n := by
  have e : ∀ (j f : Nat), f < 8 → (j ≠ l ∨ f < 5) → f ≠ 5 → s_of (s_write B l) j f = s_of B j f := fun j f h8 h h5 => by
    unfold s_write; try dsimp only
    rw [f_ink, f_mark h8 h, f_blot h8 h5]
  refine ⟨Or.inr ?_, ?_, fun j hj => ⟨e j 2 (by omega) (by omega) (by omega), e j 3 (by omega) (by omega) (by omega), fun q => ?_⟩⟩
  · unfold s_write; try dsimp only
    rw [g_ink (by omega) (by omega), g_mark18, g_blot (by omega) (by omega)]
  · unfold s_write; try dsimp only
    rw [g_ink (by omega) (by omega), g_mark (by omega) (by omega) (by omega) (by omega), g_blot (by omega) (by omega)]
  · by_cases h : j = l
    · subst h
      refine Or.inr ⟨by unfold s_open at ho; rw [Bool.and_eq_true] at ho; exact ho.1, ?_⟩
      unfold s_write at q ⊢; try dsimp only at q ⊢
      rw [done_ink] at q
      rw [f_ink, f_mark6 q, g_blot (by omega) (by omega)]
    · rw [done_write hf h] at q
      exact Or.inl ⟨q, e j 6 (by omega) (Or.inl h) (by omega)⟩
theorem mok_tr (hs : ∀ l f, s_of C l f = s_of B l f) (h18 : C 18 = B 18) (h9 : C 9 = B 9) {D : zBk} (h : m_ok C D n) : m_ok B D n := by
  obtain ⟨a, b, d⟩ := h
  refine ⟨by rw [← h18]; exact a, b.trans h9, fun l hl => ?_⟩
  obtain ⟨d1, d2, d3⟩ := d l hl
  refine ⟨d1.trans (hs l 2), d2.trans (hs l 3), fun q => ?_⟩
  rcases d3 q with ⟨x, y⟩ | ⟨x, y⟩
  · exact Or.inl ⟨by rw [done_f (hs l 5)] at x; exact x, y.trans (hs l 6)⟩
  · exact Or.inr ⟨by rw [arr_eq (hs l 2) h9] at x; exact x, by rw [y, h9]⟩
theorem min0_ok (hf : s_wf B n c t) : m_ok B (s_min0 B n) n := by
  have hn := hf.2.1
  unfold s_min0
  split
  · split
    · split
      · exact mok_same (upd_ne _ _ (by omega)) (upd_ne _ _ (by omega)) (fun l f => of_upd (by omega))
      · next h1 =>
        obtain ⟨l, hl, h2, ho⟩ := (sel_in hf).resolve_left h1
        rw [h2, nI_clamp (by omega)]
        unfold s_workOn
        split
        · exact mok_tr (C := s_give B l) (fun _ _ => f_give) (g_give (by omega) (by omega) (by omega)) (g_give (by omega) (by omega) (by omega)) (write_ok (wf_give hf l) hl (by rw [give_open]; exact ho))
        · exact mok_same (by rw [g_hand (by omega) (by omega), g_give (by omega) (by omega) (by omega)]) (by rw [g_hand (by omega) (by omega), g_give (by omega) (by omega) (by omega)]) (fun _ _ => by rw [f_hand, f_give])
    · exact mok_same (g_hand (by omega) (by omega)) (g_hand (by omega) (by omega)) (fun _ _ => f_hand)
  · exact mok_same (g_refill (by omega) (by omega) (by omega)) (g_refill (by omega) (by omega) (by omega)) (fun _ _ => f_refill)
theorem wf_9 (hf : s_wf B n c t) : B 9 = nI t := hf.2.2.2.2.2.2.2.2.2.2.1
theorem num_min (hf : s_wf B n c t) (hn : s_num B n t) (ht : t < 10000) : s_num (s_min B n) n (t + 1) := by
  obtain ⟨m1, m2, m3⟩ := min0_ok hf
  obtain ⟨⟨w, hw, ew⟩, hl⟩ := hn
  have h9 := wf_9 hf
  unfold s_min
  generalize s_min0 B n = C at m1 m2 m3
  refine ⟨?_, fun l h => ?_⟩
  · rw [upd_ne _ _ (by omega)]
    rcases m1 with e | e
    · exact ⟨w, by omega, e.trans ew⟩
    · exact ⟨w + 1, by omega, by rw [e, ew, nI_1]⟩
  · obtain ⟨⟨d, hd, ed⟩, hdn⟩ := hl l h
    obtain ⟨a2, a3, a6⟩ := m3 l h
    refine ⟨⟨d, hd, by rw [of_upd (by omega), a3, ed]⟩, fun q => ?_⟩
    rw [done_upd (by omega)] at q
    have late : s_arr B l = true → s_arr (upd C 9 (C 9 + 1)) l = true := fun z => by
      unfold s_arr at z ⊢
      rw [of_upd (by omega), upd_same, a2, m2, h9, nI_1]
      rw [h9] at z
      exact decide_eq_true (Int32.le_trans (of_decide_eq_true z) (nI_le (by omega) (by omega)))
    rw [of_upd (by omega)]
    rcases a6 q with ⟨x, y⟩ | ⟨x, y⟩
    · obtain ⟨z, f, hf6, ef⟩ := hdn x
      exact ⟨late z, f, by omega, y.trans ef⟩
    · exact ⟨late x, t + 1, by omega, by rw [y, h9, nI_1]⟩
theorem num_mins (hf : s_wf B n c t) (hn : s_num B n t) : ∀ k, t + k ≤ 10000 → s_num (s_mins B n k) n (t + k)
  | 0, _ => hn
  | k + 1, hk => num_min (t := t + k) (wf_mins hf k (by omega)) (num_mins hf hn k (by omega)) (by omega)
theorem num_of (hn : s_num B n t) (h18 : C 18 = B 18) (h9 : C 9 = B 9) (h : ∀ l, l < n → ∀ f, (f = 2 ∨ f = 3 ∨ f = 5 ∨ f = 6) → s_of C l f = s_of B l f) : s_num C n t := by
  obtain ⟨⟨w, hw, ew⟩, hl⟩ := hn
  refine ⟨⟨w, hw, h18.trans ew⟩, fun l hl9 => ?_⟩
  obtain ⟨⟨d, hd, ed⟩, hdn⟩ := hl l hl9
  refine ⟨⟨d, hd, (h l hl9 3 (by omega)).trans ed⟩, fun q => ?_⟩
  rw [done_f (h l hl9 5 (by omega))] at q
  obtain ⟨z, f, hf6, ef⟩ := hdn q
  exact ⟨by rw [arr_eq (h l hl9 2 (by omega)) h9]; exact z, f, hf6, (h l hl9 6 (by omega)).trans ef⟩
theorem num_eq (hn : s_num B n t) (h : s_eq n B C) : s_num C n t := num_of hn (h.1 18 (by omega)) (h.1 9 (by omega)) (fun l hl f hf => h.2 l hl f (by omega))
theorem num_upd (hn : s_num B n t) {x : Int32} (hk : k < 64) (h18 : k ≠ 18) (h9 : k ≠ 9) : s_num (upd B k x) n t := num_of hn (upd_ne _ _ (by omega)) (upd_ne _ _ (by omega)) (fun l hl f hf => of_upd hk)
theorem num_set4 (hn : s_num B n t) {x : Int32} : s_num (s_set B l 4 x) n t := num_of hn (set_lo (by omega)) (set_lo (by omega)) (fun a ha f hf => by rw [of_set (by omega) (by omega), if_neg (by omega)])
theorem num_set3 (hn : s_num B n t) {x : Int32} (hx : ∃ d, d ≤ 999 ∧ x = nI d) : s_num (s_set B l 3 x) n t := by
  obtain ⟨⟨w, hw, ew⟩, hl⟩ := hn
  refine ⟨⟨w, hw, (set_lo (by omega)).trans ew⟩, fun a ha => ?_⟩
  obtain ⟨⟨d, hd, ed⟩, hdn⟩ := hl a ha
  have e : ∀ f, f < 8 → f ≠ 3 → s_of (s_set B l 3 x) a f = s_of B a f := fun f h8 h3 => by rw [of_set h8 (by omega), if_neg (by omega)]
  refine ⟨?_, fun q => ?_⟩
  · rw [of_set (by omega) (by omega)]
    split
    · exact hx
    · exact ⟨d, hd, ed⟩
  · rw [done_f (e 5 (by omega) (by omega))] at q
    obtain ⟨z, f, hf6, ef⟩ := hdn q
    exact ⟨by rw [arr_eq (e 2 (by omega) (by omega)) (set_lo (by omega))]; exact z, f, hf6, (e 6 (by omega) (by omega)).trans ef⟩
theorem num_add (hn : s_num B n t) {x1 x2 x3 x4 x5 : Int32} (hx : ∃ d, d ≤ 999 ∧ x4 = nI d) (h2 : 1 ≤ x2) : s_num (s_add B n x1 x2 x3 x4 x5) (n + 1) t := by
  obtain ⟨⟨w, hw, ew⟩, hl⟩ := hn
  refine ⟨⟨w, hw, (add_lo (by omega) (by omega)).trans ew⟩, fun a ha => ?_⟩
  by_cases e : a = n
  · subst e
    refine ⟨?_, fun q => ?_⟩
    · rw [add_at (by omega)]
      simpa using hx
    · unfold s_done at q
      rw [add_at (by omega)] at q
      simp at q
      rw [q] at h2
      exact absurd h2 (by decide)
  · obtain ⟨⟨d, hd, ed⟩, hdn⟩ := hl a (by omega)
    refine ⟨⟨d, hd, (add_of (by omega) e).trans ed⟩, fun q => ?_⟩
    rw [done_f (add_of (by omega) e)] at q
    obtain ⟨z, f, hf6, ef⟩ := hdn q
    exact ⟨by rw [arr_eq (add_of (by omega) e) (add_lo (by omega) (by omega))]; exact z, f, hf6, (add_of (by omega) e).trans ef⟩
theorem num_drop (hf : s_wf B n c t) (hn : s_num B n t) (ho : s_open B l = true) : s_num (s_drop B l) n t := by
  obtain ⟨⟨w, hw, ew⟩, hl⟩ := hn
  have hg : ∀ k, k < 64 → s_drop B l k = B k := fun k hk => by unfold s_drop; rw [set_lo hk, set_lo hk]
  have e : ∀ a f, f < 8 → (a ≠ l ∨ f < 5) → s_of (s_drop B l) a f = s_of B a f := fun a f h8 h => by
    unfold s_drop
    rw [of_set h8 (by omega), if_neg (by omega), of_set h8 (by omega), if_neg (by omega)]
  refine ⟨⟨w, hw, (hg 18 (by omega)).trans ew⟩, fun a ha => ?_⟩
  obtain ⟨⟨d, hd, ed⟩, hdn⟩ := hl a ha
  refine ⟨⟨d, hd, (e a 3 (by omega) (by omega)).trans ed⟩, fun q => ?_⟩
  rw [arr_eq (e a 2 (by omega) (by omega)) (hg 9 (by omega))]
  by_cases h : a = l
  · subst h
    refine ⟨by unfold s_open at ho; rw [Bool.and_eq_true] at ho; exact ho.1, t, Nat.le_refl _, ?_⟩
    unfold s_drop
    rw [of_set (by omega) (by omega), if_pos ⟨rfl, rfl⟩, wf_9 hf]
  · rw [done_f (e a 5 (by omega) (Or.inl h))] at q
    obtain ⟨z, f, hf6, ef⟩ := hdn q
    exact ⟨z, f, hf6, (e a 6 (by omega) (Or.inl h)).trans ef⟩
/-- a letter made longer -/
theorem ext_nums (hf : s_wf B n c t) (hl : l < n) (hd : s_done B l = false) {y : Int32} (hy : s_in y 1 29 = true) : ∃ a r v, s_of B l 1 = nI a ∧ s_of B l 5 = nI r ∧ y = nI v ∧ 1 ≤ r ∧ r ≤ a ∧ a ≤ 30 ∧ 1 ≤ v ∧ v ≤ 29 := by
  obtain ⟨-, g2, g3⟩ := hf.2.2.2.2.2.2.2.2.2.1 l hl
  obtain ⟨a, ha, ea⟩ := i_of (M := 30) (n := 30) (by decide) (Int32.le_trans (by decide) g2.1) g2.2
  obtain ⟨r, hr, er⟩ := i_of (M := nI a) (n := a) (nI_toInt (by omega)) g3.1 (by rw [← ea]; exact g3.2)
  unfold s_in at hy
  rw [Bool.and_eq_true] at hy
  have y1 := of_decide_eq_true hy.1
  obtain ⟨v, hv, ev⟩ := i_of (M := 29) (n := 29) (by decide) (Int32.le_trans (by decide) y1) (of_decide_eq_true hy.2)
  refine ⟨a, r, v, ea, er, ev, ?_, hr, ha, ?_, hv⟩
  · rcases Nat.eq_zero_or_pos r with h | h
    · rw [h] at er
      unfold s_done at hd
      rw [er] at hd
      exact absurd hd (by decide)
    · exact h
  · rcases Nat.eq_zero_or_pos v with h | h
    · rw [h] at ev
      rw [ev] at y1
      exact absurd y1 (by decide)
    · exact h
theorem ext_of {y : Int32} {a f : Nat} (hf : f < 8) (h : a ≠ l ∨ (f ≠ 1 ∧ f ≠ 5)) : s_of (s_ext B l y) a f = s_of B a f := by
  unfold s_ext
  rw [of_set hf (by omega), if_neg (by omega), of_set hf (by omega), if_neg (by omega)]
theorem ext_lo {y : Int32} (hk : k < 64) : s_ext B l y k = B k := by
  unfold s_ext
  rw [set_lo hk, set_lo hk]
theorem ext_1 {y : Int32} : s_of (s_ext B l y) l 1 = s_of B l 1 + y := by
  unfold s_ext
  rw [of_set (by omega) (by omega), if_neg (by omega), of_set (by omega) (by omega), if_pos ⟨rfl, rfl⟩]
theorem ext_5 {y : Int32} : s_of (s_ext B l y) l 5 = s_of B l 5 + y := by
  unfold s_ext
  rw [of_set (by omega) (by omega), if_pos ⟨rfl, rfl⟩]
theorem ext_done (hf : s_wf B n c t) (hl : l < n) (hd : s_done B l = false) {y : Int32} (hy : s_in y 1 29 = true) (a : Nat) : s_done (s_ext B l y) a = s_done B a := by
  by_cases e : a = l
  · subst e
    obtain ⟨x, r, v, h1, h2, h3, h4, h5, h6, h7, h8⟩ := ext_nums hf hl hd hy
    rw [hd]
    unfold s_done
    rw [ext_5, h2, h3, nI_add]
    exact decide_eq_false (nI_ne0 (by omega) (by omega))
  · exact done_f (ext_of (by omega) (Or.inl e))
theorem wf_ext (hf : s_wf B n c t) (hl : l < n) (hd : s_done B l = false) {y : Int32} (hy : s_in y 1 29 = true) (h30 : s_of B l 1 + y ≤ 30) : s_wf (s_ext B l y) n c t := by
  obtain ⟨x, r, v, h1, h2, h3, h4, h5, h6, h7, h8⟩ := ext_nums hf hl hd hy
  obtain ⟨f1, f2, f3, f4, f5, f6, f7, f8, f9, f10, f11, f12⟩ := hf
  refine ⟨by rw [ext_lo (by omega)]; exact f1, f2, by rw [ext_lo (by omega)]; exact f3, f4, f5, ?_, by rw [ext_lo (by omega)]; exact f7, by rw [ext_lo (by omega)]; exact f8, by rw [ext_lo (by omega)]; exact f9, fun a ha => ?_, by rw [ext_lo (by omega)]; exact f11, f12⟩
  · rw [ext_lo (by omega)]
    rcases f6 with e | ⟨a, ha, e, har⟩
    · exact Or.inl e
    · exact Or.inr ⟨a, ha, e, by rw [arr_eq (ext_of (by omega) (by omega)) (ext_lo (by omega))]; exact har⟩
  · have g := f10 a ha
    unfold s_let at g ⊢
    rw [ext_of (f := 0) (by omega) (by omega)]
    by_cases e : a = l
    · subst e
      rw [ext_1, ext_5]
      rw [h1, h3, nI_add] at h30
      rw [h1, h2, h3, nI_add, nI_add]
      exact ⟨g.1, ⟨nI_le (a := 1) (by omega) (by omega), h30⟩, nI_pos' (by omega), nI_le (by omega) (by omega)⟩
    · rw [ext_of (f := 1) (by omega) (Or.inl e), ext_of (f := 5) (by omega) (Or.inl e)]
      exact g
theorem num_ext (hf : s_wf B n c t) (hn : s_num B n t) (hl : l < n) (hd : s_done B l = false) {y : Int32} (hy : s_in y 1 29 = true) : s_num (s_ext B l y) n t := by
  obtain ⟨⟨w, hw, ew⟩, hl9⟩ := hn
  refine ⟨⟨w, hw, (ext_lo (by omega)).trans ew⟩, fun a ha => ?_⟩
  obtain ⟨⟨d, hd9, ed⟩, hdn⟩ := hl9 a ha
  refine ⟨⟨d, hd9, (ext_of (by omega) (by omega)).trans ed⟩, fun q => ?_⟩
  rw [ext_done hf hl hd hy] at q
  obtain ⟨z, f, hf6, ef⟩ := hdn q
  exact ⟨by rw [arr_eq (ext_of (by omega) (by omega)) (ext_lo (by omega))]; exact z, f, hf6, (ext_of (by omega) (by omega)).trans ef⟩
theorem cur_ext (hf : s_wf B n c t) (hl : l < n) (hd : s_done B l = false) {y : Int32} (hy : s_in y 1 29 = true) : s_cur (s_ext B l y) = s_cur B := by
  unfold s_cur
  rw [ext_lo (by omega), ext_done hf hl hd hy]
theorem pos_ext (hp : s_pos B) {y : Int32} : s_pos (s_ext B l y) := pos_set (pos_set hp)
end NUM
