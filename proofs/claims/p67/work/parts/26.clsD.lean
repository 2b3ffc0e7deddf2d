/-! THE CLASS: minutes -/
def s_wr (B : zBk) (n : Nat) : Int32 := if B 14 ≤ 0 ∧ B 15 ≤ 0 ∧ s_select B n (s_pol B) ≠ -1 ∧ s_give B (s_select B n (s_pol B)).toNatClampNeg 15 ≤ 0 then s_select B n (s_pol B) else -1
theorem wr_in {B : zBk} {n c t : Nat} (hf : s_wf B n c t) : s_wr B n = -1 ∨ ∃ l, l < n ∧ s_wr B n = nI l ∧ s_open B l = true := by
  unfold s_wr
  split
  · exact sel_in hf
  · exact Or.inl rfl
theorem pos_upd {B : zBk} {k : Nat} {x : Int32} (h : s_pos B) (hx : k = 1 ∨ k = 3 ∨ k = 14 ∨ k = 15 → 0 ≤ x) : s_pos (upd B k x) := by
  have key : ∀ j, (j = 1 ∨ j = 3 ∨ j = 14 ∨ j = 15) → 0 ≤ B j → 0 ≤ upd B k x j := fun j hj hb => by
    by_cases e : j = k
    · rw [e, upd_same]; exact hx (by rw [← e]; exact hj)
    · rw [upd_ne _ _ e]; exact hb
  exact ⟨key 1 (by omega) h.1, key 3 (by omega) h.2.1, key 14 (by omega) h.2.2.1, key 15 (by omega) h.2.2.2⟩
theorem i_dec {x : Int32} (h : ¬ x ≤ 0) : 0 ≤ x - 1 := by
  have h1 : (0 : Int32).toInt < x.toInt := by rw [← Int32.lt_iff_toInt_lt]; exact Int32.not_le.mp h
  have h2 : (0 : Int32).toInt = 0 := by decide
  rw [h2] at h1
  have h3 : (1 : Int32).toInt = 1 := by decide
  rw [Int32.le_iff_toInt_le, h2, Int32.toInt_sub, h3]
  have h4 : x.toInt < 2 ^ 31 := x.toInt_lt
  rw [Int.bmod_eq_of_le (by omega) (by omega)]
  omega
theorem pos_hand {B : zBk} (h : s_pos B) (h1 : ¬ B 15 ≤ 0) : s_pos (s_hand B) := by
  unfold s_hand; dsimp only
  exact pos_upd (pos_upd h (fun _ => i_dec h1)) (fun q => by omega)
theorem pos_refill {B : zBk} (h : s_pos B) (h1 : ¬ B 14 ≤ 0) : s_pos (s_refill B) := by
  unfold s_refill; dsimp only
  have a := pos_upd (k := 14) (x := upd B 20 (B 20 + 1) 14 - 1) (pos_upd (k := 20) (x := B 20 + 1) h (fun q => by omega)) (fun _ => i_dec h1)
  split
  · exact pos_upd a (fun q => by omega)
  · exact a
theorem pos_ink {B : zBk} (h : s_pos B) : s_pos (s_ink B) := by
  unfold s_ink; dsimp only
  have a := pos_upd (k := 13) (x := B 13 - 1) h (fun q => by omega)
  split
  · have b := pos_upd (k := 14) (x := upd B 13 (B 13 - 1) 3) a (fun _ => a.2.1)
    split
    · exact pos_upd b (fun q => by omega)
    · exact b
  · exact a
theorem pos_smear {B : zBk} (h : s_pos B) (a : Nat) : s_pos (s_smear B a) := by
  unfold s_smear s_set; dsimp only
  exact pos_upd (pos_upd h (fun q => by omega)) (fun q => by omega)
theorem pos_mark {B : zBk} (h : s_pos B) (l : Nat) (r : Int32) : s_pos (s_mark B l r) := by
  unfold s_mark s_set; dsimp only
  have a := fun x y z => pos_upd (k := 18) (x := z) (pos_upd (k := 64 + l * 8 + 7) (x := y) (pos_upd (k := 64 + l * 8 + 5) (x := x) (pos_upd (k := 11) (x := nI l) (pos_upd (k := 12) (x := r) h (fun q => by omega)) (fun q => by omega)) (fun q => by omega)) (fun q => by omega)) (fun q => by omega)
  split
  · exact pos_upd (a _ _ _) (fun q => by omega)
  · exact a _ _ _
theorem pos_blot {B : zBk} (h : s_pos B) (l : Nat) : s_pos (s_blot B l) := by
  unfold s_blot
  split
  · exact h
  · exact pos_smear h _
theorem pos_write {B : zBk} (h : s_pos B) (l : Nat) : s_pos (s_write B l) := pos_ink (pos_mark (pos_blot h l) l _)
theorem pos_give {B : zBk} (h : s_pos B) (l : Nat) : s_pos (s_give B l) := by
  unfold s_give; dsimp only
  split
  · exact h
  · exact pos_upd (pos_upd (pos_upd h (fun q => by omega)) (fun q => by omega)) (fun _ => h.1)
theorem pos_workOn {B : zBk} (h : s_pos B) (l : Nat) : s_pos (s_workOn B l) := by
  unfold s_workOn
  split
  · exact pos_write (pos_give h l) l
  · next h1 => exact pos_hand (pos_give h l) h1
theorem pos_min {B : zBk} (h : s_pos B) (n : Nat) : s_pos (s_min B n) := by
  unfold s_min s_min0
  refine pos_upd ?_ (fun q => by omega)
  split
  · split
    · split
      · exact pos_upd h (fun q => by omega)
      · exact pos_workOn h _
    · next h1 => exact pos_hand h h1
  · next h1 => exact pos_refill h h1
theorem pos_mins {B : zBk} (h : s_pos B) (n : Nat) : ∀ k, s_pos (s_mins B n k)
  | 0 => h
  | k + 1 => pos_min (pos_mins h n k) n
theorem done_upd {B : zBk} {k j : Nat} {x : Int32} (h : k < 64) : s_done (upd B k x) j = s_done B j := by unfold s_done; rw [of_upd h]
theorem done_set {B : zBk} {l f j : Nat} {x : Int32} (hf : f < 8) (h : j ≠ l ∨ f ≠ 5) : s_done (s_set B l f x) j = s_done B j := by
  unfold s_done; rw [of_set (by omega) hf, if_neg (by omega)]
theorem done_ink {B : zBk} {j : Nat} : s_done (s_ink B) j = s_done B j := by
  unfold s_ink; dsimp only
  split
  · split
    · rw [done_upd (by omega), done_upd (by omega), done_upd (by omega)]
    · rw [done_upd (by omega), done_upd (by omega)]
  · rw [done_upd (by omega)]
theorem done_mark {B : zBk} {l j : Nat} {r : Int32} (h : j ≠ l) : s_done (s_mark B l r) j = s_done B j := by
  unfold s_mark; dsimp only
  split
  · rw [done_set (by omega) (Or.inl h), done_upd (by omega), done_set (by omega) (Or.inl h), done_set (by omega) (Or.inl h), done_upd (by omega), done_upd (by omega)]
  · rw [done_upd (by omega), done_set (by omega) (Or.inl h), done_set (by omega) (Or.inl h), done_upd (by omega), done_upd (by omega)]
theorem done_smear {B : zBk} {n c t a j : Nat} (hf : s_wf B n c t) (ha : a < n) (ho : s_open B a = true) : s_done (s_smear B a) j = s_done B j := by
  unfold s_smear; dsimp only
  rw [done_upd (by omega)]
  by_cases e : j = a
  · subst e
    have hd : ¬ s_of B j 5 = 0 := by unfold s_open at ho; rw [Bool.and_eq_true] at ho; have h := ho.2; simpa [s_done] using h
    obtain ⟨-, g2, g3⟩ := hf.2.2.2.2.2.2.2.2.2.1 j ha
    obtain ⟨m, hm, em⟩ := i_of (M := 30) (n := 30) (by decide) (Int32.le_trans (by decide) g2.1) g2.2
    obtain ⟨r, hr, er⟩ := i_of (M := nI m) (n := m) (nI_toInt (by omega)) g3.1 (by rw [← em]; exact g3.2)
    obtain ⟨b, hb, eb⟩ := i_of (M := 5) (n := 5) (by decide) hf.2.2.2.2.2.2.2.1.1 hf.2.2.2.2.2.2.2.1.2
    have hr0 : 0 < r := by
      rcases Nat.eq_zero_or_pos r with h | h
      · rw [h] at er; exact absurd er hd
      · exact h
    unfold s_done
    rw [of_set (by omega) (by omega), if_pos ⟨rfl, rfl⟩, decide_eq_false hd]
    refine decide_eq_false ?_
    rw [er, eb, em, nI_add]
    split
    · exact nI_ne0 (by omega) (by omega)
    · exact nI_ne0 (by omega) (by omega)
  · exact done_set (by omega) (Or.inl e)
theorem done_blot {B : zBk} {n c t l j : Nat} (hf : s_wf B n c t) : s_done (s_blot B l) j = s_done B j := by
  unfold s_blot
  by_cases h : s_cur B = -1 ∨ s_cur B = nI l
  · rw [if_pos h]
  · rw [if_neg h]
    obtain ⟨a, ha, ea, ho⟩ := s_cur_open hf (fun e => h (Or.inl e))
    have hn := hf.2.1
    have hcl : (s_cur B).toNatClampNeg = a := by rw [ea]; exact nI_clamp (by omega)
    rw [hcl]
    exact done_smear hf ha ho
theorem done_write {B : zBk} {n c t l j : Nat} (hf : s_wf B n c t) (h : j ≠ l) : s_done (s_write B l) j = s_done B j := by
  unfold s_write; dsimp only
  rw [done_ink, done_mark h, done_blot hf]
theorem done_give {B : zBk} {l j : Nat} : s_done (s_give B l) j = s_done B j := by
  unfold s_give; dsimp only
  split
  · rfl
  · rw [done_upd (by omega), done_upd (by omega), done_upd (by omega)]
theorem done_hand {B : zBk} {j : Nat} : s_done (s_hand B) j = s_done B j := by
  unfold s_hand; dsimp only
  rw [done_upd (by omega), done_upd (by omega)]
theorem done_refill {B : zBk} {j : Nat} : s_done (s_refill B) j = s_done B j := by
  unfold s_refill; dsimp only
  split
  · rw [done_upd (by omega), done_upd (by omega), done_upd (by omega)]
  · rw [done_upd (by omega), done_upd (by omega)]
theorem done_min {B : zBk} {n c t j : Nat} (hf : s_wf B n c t) (hj : j < n) (h : s_wr B n ≠ nI j) : s_done (s_min B n) j = s_done B j := by
  have hn := hf.2.1
  unfold s_min s_min0
  rw [done_upd (by omega)]
  by_cases c1 : B 14 ≤ 0
  · rw [if_pos c1]
    by_cases c2 : B 15 ≤ 0
    · rw [if_pos c2]
      by_cases c3 : s_select B n (s_pol B) = -1
      · rw [if_pos c3, done_upd (by omega)]
      · rw [if_neg c3]
        unfold s_workOn
        by_cases c4 : s_give B (s_select B n (s_pol B)).toNatClampNeg 15 ≤ 0
        · rw [if_pos c4]
          unfold s_wr at h
          rw [if_pos ⟨c1, c2, c3, c4⟩] at h
          obtain ⟨l, hl, el, -⟩ := (sel_in hf).resolve_left c3
          have hcl : (s_select B n (s_pol B)).toNatClampNeg = l := by rw [el]; exact nI_clamp (by omega)
          rw [hcl, done_write (wf_give hf l) (fun e => h (by rw [el, e])), done_give]
        · rw [if_neg c4, done_hand, done_give]
    · rw [if_neg c2, done_hand]
  · rw [if_neg c1, done_refill]
theorem cnt_congr {q r : Nat → Bool} : ∀ n, (∀ j, j < n → q j = r j) → s_cnt q n = s_cnt r n
  | 0, _ => rfl
  | n + 1, h => by
    unfold s_cnt
    rw [cnt_congr n (fun j hj => h j (by omega)), h n (by omega)]
theorem cnt_one {q r : Nat → Bool} {l : Nat} : ∀ n, l < n → (∀ j, j < n → j ≠ l → q j = r j) → r l = false → s_cnt q n = s_cnt r n + (if q l = true then 1 else 0)
  | 0, h, _, _ => absurd h (Nat.not_lt_zero l)
  | n + 1, h, h2, h3 => by
    unfold s_cnt
    rcases Nat.lt_or_eq_of_le (Nat.le_of_lt_succ h) with h4 | rfl
    · rw [cnt_one n h4 (fun j hj => h2 j (by omega)) h3, h2 n (by omega) (by omega)]
      omega
    · rw [cnt_congr l (fun j hj => h2 j (by omega) (by omega)), h3]
      simp
section CLD
variable {G : zG} {w : Nat × Nat} {gl : Launch} {I : zM} {s : Nat} {B : zBk} {cu : Int32}
theorem k_runMinute (ht : isT w 9 s) {n c t : Nat} (hf : s_wf B n c t) (hp : s_pos B) : CT G w gl (yX9_runMinute, cX9_runMinute, 3, some .int) 3 (0, 0) [.ref s] (sput I s B (s_cur B)) (qE (s_wr B n) (sput I s (s_min B n) (s_cur (s_min B n)))) nX := by
  refine ct_of (by decide) [(0, .ref s)] rfl rfl (fun K hG hw hgl hwo hK => ?_)
  subst hG; subst hw; subst hgl
  have hn := hf.2.1
  have go : ∀ (v : Int32) (C : zBk) (c : Int32), v = s_wr B n → C = s_min0 B n → c = s_cur (s_min0 B n) → ZZ K (0, 0) 96 [(0, .ref s), (1, .int v)] [] (sput I s C c) := fun v C c h1 h2 h3 => by
    subst h1; subst h2; subst h3
    refine bX9_runMinute_96 hK hwo ht (qE_i rfl ?_)
    rw [sp4, su4]
    unfold s_min
    rw [cur_upd (by omega) (by omega)]
  obtain ⟨p, hpp, ep⟩ := hf.2.2.2.2.2.2.2.2.1
  have epol : s_pol B = p := by unfold s_pol; rw [ep]; exact nI_clamp (by omega)
  by_cases c1 : B 14 ≤ 0
  · have e14 : B 14 = 0 := Int32.le_antisymm c1 hp.2.2.1
    by_cases c2 : B 15 ≤ 0
    · have e15 : B 15 = 0 := Int32.le_antisymm c2 hp.2.2.2
      have hsel : CT (kG K) (kw K) (kl K) (yX9_selectBy, cX9_selectBy, 6, some .int) 2 (0, 0) [.ref s, .int (B 0)] (sput I s B (s_cur B)) (qE (s_select B n (s_pol B)) (sput I s B (s_cur B))) nX := by
        rw [ep, epol]; exact k_selectBy ht hf hpp
      rcases sel_in (p := s_pol B) hf with h | ⟨l, hl, h, ho⟩
      · refine bX9_runMinute_0 (f6 := 0) (g6 := I) (g9 := I) (g13 := I) hK hwo ht (f3 := s_select B n (s_pol B)) (g3 := sput I s B (s_cur B)) ?_ ?_ ?_ ?_ ?_ ?_ ?_ ?_ ?_ ?_ <;> simp only [sp11, sp12, sp5]
        · exact fun _ _ => hsel
        · exact fun _ _ d => absurd h d
        · exact fun _ _ d => absurd h d
        · exact fun _ _ d => absurd h d
        · exact fun _ _ d => absurd h d
        · exact fun _ _ d => absurd h d
        · intro _ _ _
          rw [sp16, su16]
          exact go _ _ _ (by unfold s_wr; rw [if_neg (fun q => q.2.2.1 h)]) (by unfold s_min0; rw [if_pos c1, if_pos c2, if_pos h]) (by unfold s_min0; rw [if_pos c1, if_pos c2, if_pos h, cur_upd (by omega) (by omega)])
        · exact fun _ d => absurd c2 d
        · exact fun d => absurd c1 d
        · exact fun d => absurd c1 d
      · have hne : ¬ s_select B n (s_pol B) = -1 := by rw [h]; exact nI_ne_m1 (by omega)
        have hcl : (s_select B n (s_pol B)).toNatClampNeg = l := by rw [h]; exact nI_clamp (by omega)
        have e0 : s_min0 B n = s_workOn B l := by unfold s_min0; rw [if_pos c1, if_pos c2, if_neg hne, hcl]
        have ew : s_wr B n = if s_give B l 15 ≤ 0 then nI l else -1 := by
          unfold s_wr
          rw [hcl]
          by_cases c4 : s_give B l 15 ≤ 0
          · rw [if_pos ⟨c1, c2, hne, c4⟩, if_pos c4, h]
          · rw [if_neg (fun q => c4 q.2.2.2), if_neg c4]
        refine bX9_runMinute_0 (g13 := I) hK hwo ht (f3 := s_select B n (s_pol B)) (g3 := sput I s B (s_cur B)) (f6 := b2 (!decide (s_give B l 15 ≤ 0))) (g6 := sput I s (if s_give B l 15 ≤ 0 then s_give B l else s_hand (s_give B l)) (s_cur B)) (g9 := sput I s (s_write (s_give B l) l) (s_cur (s_write (s_give B l) l))) ?_ ?_ ?_ ?_ ?_ ?_ ?_ ?_ ?_ ?_ <;> simp only [sp11, sp12, sp5]
        · exact fun _ _ => hsel
        · exact fun _ _ _ => by rw [h]; exact vp_in_nI (by omega) (by omega)
        · exact fun _ _ _ => by rw [h, k_lr hwo ht (by omega), spL (by omega) (by omega)]; exact k_begins ht e15 hp.1
        · intro _ _ _ d
          have c4 : ¬ s_give B l 15 ≤ 0 := by have := b2_n0.mp d; simpa using this
          rw [if_neg c4]
          exact go _ _ _ (by rw [ew, if_neg c4]) (by rw [e0]; unfold s_workOn; rw [if_neg c4]) (by rw [e0]; unfold s_workOn; rw [if_neg c4, cur_hand, cur_give])
        · intro _ _ _ d
          have c4 : s_give B l 15 ≤ 0 := by have := b2_0.mp d; simpa using this
          rw [if_pos c4, h, show s_cur B = s_cur (s_give B l) from cur_give.symm]
          refine k_write ht (wf_give hf l) hl (by rw [give_open]; exact ho) ?_
          unfold s_give; dsimp only
          split
          · exact e14
          · rw [upd_ne _ _ (by omega), upd_ne _ _ (by omega), upd_ne _ _ (by omega)]; exact e14
        · intro _ _ _ d
          have c4 : s_give B l 15 ≤ 0 := by have := b2_0.mp d; simpa using this
          exact go _ _ _ (by rw [ew, if_pos c4, h]) (by rw [e0]; unfold s_workOn; rw [if_pos c4]) (by rw [e0]; unfold s_workOn; rw [if_pos c4])
        · exact fun _ _ d => absurd d hne
        · exact fun _ d => absurd c2 d
        · exact fun d => absurd c1 d
        · exact fun d => absurd c1 d
    · refine bX9_runMinute_0 (f3 := 0) (g3 := I) (f6 := 0) (g6 := I) (g9 := I) (g13 := I) hK hwo ht ?_ ?_ ?_ ?_ ?_ ?_ ?_ ?_ ?_ ?_ <;> simp only [sp11, sp12, sp5]
      · exact fun _ d => absurd d c2
      · exact fun _ d => absurd d c2
      · exact fun _ d => absurd d c2
      · exact fun _ d => absurd d c2
      · exact fun _ d => absurd d c2
      · exact fun _ d => absurd d c2
      · exact fun _ d => absurd d c2
      · intro _ _
        rw [sp18, su18, sp12, su12]
        have e : s_min0 B n = upd (upd B 21 (B 21 + 1)) 15 (upd B 21 (B 21 + 1) 15 - 1) := by
          unfold s_min0; rw [if_pos c1, if_neg c2]
          unfold s_hand; dsimp only
          rw [upd_comm _ _ _ (show 15 ≠ 21 by omega), upd_ne (k := 15) (j := 21) _ _ (by omega), upd_ne (k := 21) (j := 15) _ _ (by omega)]
        exact go _ _ _ (by unfold s_wr; rw [if_neg (fun q => c2 q.2.1)]) e.symm (by rw [e, cur_upd (by omega) (by omega), cur_upd (by omega) (by omega)])
      · exact fun d => absurd c1 d
      · exact fun d => absurd c1 d
  · refine bX9_runMinute_0 (f3 := 0) (g3 := I) (f6 := 0) (g6 := I) (g9 := I) hK hwo ht ?_ ?_ ?_ ?_ ?_ ?_ ?_ ?_ (fun _ => k_refill ht) ?_ <;> simp only [sp11, sp12, sp5]
    · exact fun d => absurd d c1
    · exact fun d => absurd d c1
    · exact fun d => absurd d c1
    · exact fun d => absurd d c1
    · exact fun d => absurd d c1
    · exact fun d => absurd d c1
    · exact fun d => absurd d c1
    · exact fun d => absurd d c1
    · intro _
      exact go _ _ _ (by unfold s_wr; rw [if_neg (fun q => c1 q.1)]) (by unfold s_min0; rw [if_neg c1]) (by unfold s_min0; rw [if_neg c1, cur_refill])
theorem k_isFinished (ht : isT w 9 s) {x : Int32} (hx : x = -1 ∨ ∃ l, l < 12 ∧ x = nI l) : CT G w gl (yX9_isFinished, cX9_isFinished, 2, some .boolean) 0 (0, 0) [.ref s, .int x] (sput I s B cu) (qE (if x = -1 then 0 else b2 (s_done B x.toNatClampNeg)) (sput I s B cu)) nX := by
  refine ct_of (by decide) [(0, .ref s), (1, .int x)] rfl rfl (fun K hG hw hgl hwo hK => ?_)
  subst hG; subst hw; subst hgl
  rcases hx with h | ⟨l, hl, h⟩
  · exact bX9_isFinished_0 hK hwo ht (fun _ => qE_i (by rw [if_pos h]) rfl) (fun d => absurd h d) (fun d => absurd h d) (fun d => absurd h d)
  · subst h
    have hne : ¬ nI l = -1 := nI_ne_m1 (by omega)
    refine bX9_isFinished_0 hK hwo ht (fun d => absurd d hne) (fun _ => vp_in_nI hl (by omega)) ?_ ?_ <;> simp only [k_lr hwo ht hl, spL hl (show 5 < 8 by omega)]
    · exact fun _ d => qE_i (by rw [if_neg hne, nI_clamp (by omega)]; simp [s_done, d, b2]) rfl
    · exact fun _ d => qE_i (by rw [if_neg hne, nI_clamp (by omega)]; simp [s_done, d, b2]) rfl
theorem k_runMinutes (ht : isT w 9 s) {n c t k : Nat} (hf : s_wf B n c t) (hp : s_pos B) (hk : t + k ≤ 10000) : CT G w gl (yX9_runMinutes, cX9_runMinutes, 4, some .int) 4 (0, 0) [.ref s, .int (nI k)] (sput I s B (s_cur B)) (qE (nI (s_cnt (s_done (s_mins B n k)) n) - nI (s_cnt (s_done B) n)) (sput I s (s_mins B n k) (s_cur (s_mins B n k)))) nX := by
  refine ct_of (by decide) [(0, .ref s), (1, .int (nI k))] rfl rfl (fun K hG hw hgl hwo hK => ?_)
  subst hG; subst hw; subst hgl
  have hn := hf.2.1
  refine bX9_runMinutes_0 hK hwo ht ?_
  have key : ∀ j i, i + j = k → ZZ K (0, 0) 4 [(0, .ref s), (1, .int (nI k)), (2, .int (nI (s_cnt (s_done (s_mins B n i)) n) - nI (s_cnt (s_done B) n))), (3, .int (nI i))] [] (sput I s (s_mins B n i) (s_cur (s_mins B n i))) := by
    intro j
    induction j with
    | zero =>
      intro i hi
      have h : nI k ≤ nI i := nI_le (by omega) (by omega)
      have e : i = k := by omega
      subst e
      exact bX9_runMinutes_4 (f3 := 0) (g3 := I) (f4 := 0) (g4 := I) hK hwo ht (fun _ => qE_i rfl rfl) (fun d => absurd h d) (fun d => absurd h d) (fun d => absurd h d) (fun d => absurd h d)
    | succ j ih =>
      intro i hi
      have h : ¬ nI k ≤ nI i := nI_ge (by omega) (by omega)
      have hx := ih (i + 1) (by omega)
      have hw1 := wf_mins hf i (by omega)
      have hp1 := pos_mins hp n i
      have wi := wr_in hw1
      have ci : s_cnt (s_done (s_mins B n (i + 1))) n = s_cnt (s_done (s_mins B n i)) n + (if (if s_wr (s_mins B n i) n = -1 then 0 else b2 (s_done (s_mins B n (i + 1)) (s_wr (s_mins B n i) n).toNatClampNeg)) = 0 then 0 else 1) := by
        rcases wi with e | ⟨l, hl, e, ho⟩
        · rw [e, if_pos rfl, if_pos rfl]
          exact cnt_congr n (fun m hm => done_min hw1 hm (by rw [e]; exact fun q => nI_ne_m1 (by omega) q.symm))
        · rw [e, if_neg (nI_ne_m1 (by omega)), nI_clamp (by omega)]
          rw [cnt_one (q := s_done (s_mins B n (i + 1))) (r := s_done (s_mins B n i)) n hl (fun m hm hne => done_min hw1 hm (by rw [e]; exact fun q => hne ((nI_eq (by omega) (by omega)).mp q).symm)) (by unfold s_open at ho; rw [Bool.and_eq_true] at ho; simpa using ho.2)]
          cases s_done (s_mins B n (i + 1)) l <;> rfl
      refine bX9_runMinutes_4 hK hwo ht (fun d => absurd d h) (fun _ => k_runMinute ht hw1 hp1) (fun _ => k_isFinished ht (by rcases wi with e | ⟨l, hl, e, -⟩; exact Or.inl e; exact Or.inr ⟨l, by omega, e⟩)) ?_ ?_
      · intro _ d
        rw [show s_min (s_mins B n i) n = s_mins B n (i + 1) from rfl] at d ⊢
        rw [ci, if_pos d, Nat.add_zero, ← nI_1] at hx
        exact hx
      · intro _ d
        rw [show s_min (s_mins B n i) n = s_mins B n (i + 1) from rfl] at d ⊢
        rw [ci, if_neg d, ← nI_1, ← nI_1] at hx
        rw [show nI (s_cnt (s_done (s_mins B n i)) n) - nI (s_cnt (s_done B) n) + 1 = nI (s_cnt (s_done (s_mins B n i)) n) + 1 - nI (s_cnt (s_done B) n) by rw [Int32.sub_eq_add_neg, Int32.sub_eq_add_neg, Int32.add_assoc, Int32.add_assoc, Int32.add_comm _ 1]]
        exact hx
  have h0 := key k 0 (by omega)
  rw [show s_mins B n 0 = B from rfl, Int32.sub_self] at h0
  exact h0
end CLD
