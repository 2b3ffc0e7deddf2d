/-! THE CLASS: the minute -/
def s_pos (B : zBk) : Prop := 0 ≤ B 1 ∧ 0 ≤ B 3 ∧ 0 ≤ B 14 ∧ 0 ≤ B 15
theorem upd_comm (B : zBk) {j k : Nat} (x y : Int32) (h : j ≠ k) : upd (upd B j x) k y = upd (upd B k y) j x := by
  funext i
  by_cases h1 : i = k
  · rw [h1, upd_same, upd_ne _ _ (fun e => h e.symm), upd_same]
  · rw [upd_ne _ _ h1]
    by_cases h2 : i = j
    · rw [h2, upd_same, upd_same]
    · rw [upd_ne _ _ h2, upd_ne _ _ h2, upd_ne _ _ h1]
theorem upd_upd (B : zBk) (k : Nat) (x y : Int32) : upd (upd B k x) k y = upd B k y := by
  funext i
  by_cases h1 : i = k
  · rw [h1, upd_same, upd_same]
  · rw [upd_ne _ _ h1, upd_ne _ _ h1, upd_ne _ _ h1]
theorem upd_id {B : zBk} {k : Nat} {x : Int32} (h : B k = x) : upd B k x = B := by
  funext i
  by_cases h1 : i = k
  · rw [h1, upd_same, h]
  · rw [upd_ne _ _ h1]
theorem set_upd (B : zBk) {l f k : Nat} (x y : Int32) (h : k < 64) : s_set (upd B k y) l f x = upd (s_set B l f x) k y := upd_comm _ _ _ (by omega)
theorem set_set (B : zBk) (l f : Nat) (x y : Int32) : s_set (s_set B l f x) l f y = s_set B l f y := upd_upd _ _ _ _
theorem cur_upd {B : zBk} {k : Nat} {x : Int32} (h : k < 64) (h2 : k ≠ 11) : s_cur (upd B k x) = s_cur B := by
  unfold s_cur s_done
  rw [upd_ne _ _ (fun e => h2 e.symm), of_upd h]
theorem cur_ink {B : zBk} : s_cur (s_ink B) = s_cur B := by
  unfold s_ink; dsimp only
  split
  · split
    · rw [cur_upd (by omega) (by omega), cur_upd (by omega) (by omega), cur_upd (by omega) (by omega)]
    · rw [cur_upd (by omega) (by omega), cur_upd (by omega) (by omega)]
  · rw [cur_upd (by omega) (by omega)]
theorem cur_refill {B : zBk} : s_cur (s_refill B) = s_cur B := by
  unfold s_refill; dsimp only
  split
  · rw [cur_upd (by omega) (by omega), cur_upd (by omega) (by omega), cur_upd (by omega) (by omega)]
  · rw [cur_upd (by omega) (by omega), cur_upd (by omega) (by omega)]
theorem cur_hand {B : zBk} : s_cur (s_hand B) = s_cur B := by
  unfold s_hand; dsimp only
  rw [cur_upd (by omega) (by omega), cur_upd (by omega) (by omega)]
theorem cur_give {B : zBk} {l : Nat} : s_cur (s_give B l) = s_cur B := by
  unfold s_give; dsimp only
  split
  · rfl
  · rw [cur_upd (by omega) (by omega), cur_upd (by omega) (by omega), cur_upd (by omega) (by omega)]
section CLC
variable {G : zG} {w : Nat × Nat} {gl : Launch} {I : zM} {s : Nat} {B : zBk} {cu : Int32}
theorem k_smear (ht : isT w 9 s) {l : Nat} (hl : l < 12) : CT G w gl (yX9_smear, cX9_smear, 2, none) 0 (0, 0) [.ref s, .ref (s + 12 + l)] (sput I s B cu) (qV (fun J => J = sput I s (s_smear B l) cu)) nX := by
  refine ct_of (by decide) [(0, .ref s), (1, .ref (s + 12 + l))] rfl rfl (fun K hG hw hgl hwo hK => ?_)
  subst hG; subst hw; subst hgl
  have a5 : (s_of (s_set (upd B 16 (B 16 + 1)) l 5 (s_of (upd B 16 (B 16 + 1)) l 5 + upd B 16 (B 16 + 1) 6)) l 5) = s_of B l 5 + B 6 := by
    rw [of_set (by omega) (by omega), if_pos ⟨rfl, rfl⟩, of_upd (by omega), upd_ne _ _ (by omega)]
  have a1 : (s_of (s_set (upd B 16 (B 16 + 1)) l 5 (s_of (upd B 16 (B 16 + 1)) l 5 + upd B 16 (B 16 + 1) 6)) l 1) = s_of B l 1 := by
    rw [of_set (by omega) (by omega), if_neg (by omega), of_upd (by omega)]
  have e16 : ∀ x, s_set B l 5 x 16 = B 16 := fun x => set_lo (by omega)
  refine bX9_smear_0 hK hwo ht (ht.let hwo hl) ?_ ?_ <;> simp only [sp13, su13, (ht.lr hwo).1, spS5, spL hl (show 5 < 8 by omega), spL hl (show 1 < 8 by omega), suL hl (show 5 < 8 by omega), a5, a1]
  · intro c
    refine qV_i (congrArg (fun b => sput I s b cu) ?_)
    unfold s_smear; dsimp only
    rw [if_pos c, e16, of_upd (by omega), upd_ne _ _ (by omega), set_upd _ _ _ (by omega)]
  · intro c
    refine qV_i (congrArg (fun b => sput I s b cu) ?_)
    unfold s_smear; dsimp only
    rw [if_neg c, e16, set_set, set_upd _ _ _ (by omega)]
theorem k_useInk (ht : isT w 9 s) (h14 : B 14 = 0) : CT G w gl (yX9_useInk, cX9_useInk, 1, none) 0 (0, 0) [.ref s] (sput I s B cu) (qV (fun J => J = sput I s (s_ink B) cu)) nX := by
  refine ct_of (by decide) [(0, .ref s)] rfl rfl (fun K hG hw hgl hwo hK => ?_)
  subst hG; subst hw; subst hgl
  refine bX9_useInk_0 hK hwo ht ?_ ?_ ?_ <;> simp only [sp10, su10, su11, (ht.lr hwo).1, spS2, spS1]
  · intro c d
    refine qV_i (congrArg (fun b => sput I s b cu) ?_)
    unfold s_ink; dsimp only
    rw [if_pos c, if_neg (by rw [upd_same]; exact d)]
  · intro c d
    refine qV_i (congrArg (fun b => sput I s b cu) ?_)
    unfold s_ink; dsimp only
    rw [if_pos c, if_pos (by rw [upd_same]; exact d), d, upd_id (show upd B 13 (B 13 - 1) 14 = 0 by rw [upd_ne _ _ (by omega)]; exact h14)]
  · intro c
    refine qV_i (congrArg (fun b => sput I s b cu) ?_)
    unfold s_ink; dsimp only
    rw [if_neg c]
theorem k_refill (ht : isT w 9 s) : CT G w gl (yX9_refill, cX9_refill, 1, none) 0 (0, 0) [.ref s] (sput I s B cu) (qV (fun J => J = sput I s (s_refill B) cu)) nX := by
  refine ct_of (by decide) [(0, .ref s)] rfl rfl (fun K hG hw hgl hwo hK => ?_)
  subst hG; subst hw; subst hgl
  refine bX9_refill_0 hK hwo ht ?_ ?_ <;> simp only [sp17, su17, sp11, su11, su10, (ht.lr hwo).1, spS1]
  · intro c
    refine qV_i (congrArg (fun b => sput I s b cu) ?_)
    unfold s_refill; dsimp only
    rw [if_neg c]
  · intro c
    refine qV_i (congrArg (fun b => sput I s b cu) ?_)
    unfold s_refill; dsimp only
    rw [if_pos c]
theorem k_begins (ht : isT w 9 s) {l : Nat} (h15 : B 15 = 0) (h1 : 0 ≤ B 1) : CT G w gl (yX9_beginsHandOverTo, cX9_beginsHandOverTo, 2, some .boolean) 0 (0, 0) [.ref s, .int (s_of B l 0)] (sput I s B cu) (qE (b2 (!decide (s_give B l 15 ≤ 0))) (sput I s (if s_give B l 15 ≤ 0 then s_give B l else s_hand (s_give B l)) cu)) nX := by
  refine ct_of (by decide) [(0, .ref s), (1, .int (s_of B l 0))] rfl rfl (fun K hG hw hgl hwo hK => ?_)
  subst hG; subst hw; subst hgl
  have e0 : s_of B l 0 = B 10 → s_give B l = B := fun h => by unfold s_give; rw [if_pos h]
  have e1 : ¬ s_of B l 0 = B 10 → s_give B l = upd (upd (upd B 10 (s_of B l 0)) 17 (upd B 10 (s_of B l 0) 17 + 1)) 15 (B 1) := fun h => by
    unfold s_give; dsimp only
    rw [if_neg h]
    rfl
  refine bX9_beginsHandOverTo_0 hK hwo ht ?_ ?_ ?_ <;> simp only [sp6, su6, sp14, su14, sp18, su18, su12, (ht.lr hwo).1, spS0]
  · intro c d
    have d1 : ¬ B 1 = 0 := d
    have h2 : s_give B l 15 = B 1 := by rw [e1 c, upd_same]
    have h3 : ¬ s_give B l 15 ≤ 0 := by rw [h2]; exact fun q => d1 (Int32.le_antisymm q h1)
    refine qE_i (by simp [h3, b2]) ?_
    rw [if_neg h3, e1 c]
    refine congrArg (fun b => sput I s b cu) ?_
    unfold s_hand; dsimp only
    rw [upd_same, upd_upd, upd_comm _ _ _ (show 15 ≠ 21 by omega), upd_ne (k := 15) (j := 21) _ _ (by omega)]
    rfl
  · intro c d
    have d1 : B 1 = 0 := d
    have h4 : s_give B l = upd (upd B 10 (s_of B l 0)) 17 (upd B 10 (s_of B l 0) 17 + 1) := by
      rw [e1 c]
      exact upd_id (by rw [upd_ne _ _ (by omega), upd_ne _ _ (by omega), h15, d1])
    have h3 : s_give B l 15 ≤ 0 := by rw [e1 c, upd_same, d1]; exact Int32.le_refl 0
    refine qE_i (by simp [h3, b2]) ?_
    rw [if_pos h3, h4]
  · intro c
    have h3 : s_give B l 15 ≤ 0 := by rw [e0 c, h15]; exact Int32.le_refl 0
    refine qE_i (by simp [h3, b2]) ?_
    rw [if_pos h3, e0 c]
theorem k_mark (ht : isT w 9 s) {l : Nat} (hl : l < 12) (h14 : B 14 = 0) {r v2 : Int32} {K : zK} {P : Option Value → zM → Prop} {X : String → zM → Prop} (hK : zIs K RX9 cX9_write 4 none 1 (0, 0) P X) (hwo : wOK (kw K)) (e : w = kw K) (hP : P none (sput I s (s_ink (s_mark B l r)) (s_cur (s_mark B l r)))) : ZZ K (0, 0) 80 [(0, .ref s), (1, .int (nI l)), (2, .int v2)] [.int r, .ref s] (sput I s B cu) := by
  subst e
  have h11 : ∀ C : zBk, C = s_mark B l r → C 11 = nI l := fun C h => by
    subst h
    unfold s_mark
    split
    · rw [set_lo (by omega), upd_ne _ _ (by omega), set_lo (by omega), set_lo (by omega), upd_same]
    · rw [upd_ne _ _ (by omega), set_lo (by omega), set_lo (by omega), upd_same]
  have m14 : (s_mark B l r) 14 = 0 := by
    unfold s_mark
    split
    · rw [set_lo (by omega), upd_ne _ _ (by omega), set_lo (by omega), set_lo (by omega), upd_ne _ _ (by omega), upd_ne _ _ (by omega), h14]
    · rw [upd_ne _ _ (by omega), set_lo (by omega), set_lo (by omega), upd_ne _ _ (by omega), upd_ne _ _ (by omega), h14]
  have hc : s_cur (s_mark B l r) = if s_done (s_mark B l r) l = true then -1 else nI l := by
    unfold s_cur
    rw [h11 _ rfl, if_neg (nI_ne_m1 (by omega)), nI_clamp (by omega)]
  have go : ∀ (C : zBk) (c : Int32), C = s_mark B l r → c = s_cur (s_mark B l r) → ZZ K (0, 0) 152 [(0, .ref s), (1, .int (nI l)), (2, .int v2), (3, .ref (s + 12 + l))] [] (sput I s C c) := fun C c h1 h2 => by
    subst h1; subst h2
    exact bX9_write_152 hK hwo ht (ht.let hwo hl) (k_useInk ht m14) hP
  refine bX9_write_80 hK hwo ht ht (vp_in_nI hl (by omega)) ?_ ?_ <;> simp only [k_lr hwo ht hl, sp9, su9, su8, su7, sp15, su15, sp4, spL hl (show 5 < 8 by omega), spL hl (show 7 < 8 by omega), suL hl (show 5 < 8 by omega), suL hl (show 6 < 8 by omega), suL hl (show 7 < 8 by omega)]
  · intro c
    have e : upd (s_set (s_set (upd (upd B 12 r) 11 (nI l)) l 5 (s_of (upd (upd B 12 r) 11 (nI l)) l 5 - 1)) l 7 (s_of (s_set (upd (upd B 12 r) 11 (nI l)) l 5 (s_of (upd (upd B 12 r) 11 (nI l)) l 5 - 1)) l 7 + 1)) 18 (s_set (s_set (upd (upd B 12 r) 11 (nI l)) l 5 (s_of (upd (upd B 12 r) 11 (nI l)) l 5 - 1)) l 7 (s_of (s_set (upd (upd B 12 r) 11 (nI l)) l 5 (s_of (upd (upd B 12 r) 11 (nI l)) l 5 - 1)) l 7 + 1) 18 + 1) = s_mark B l r := by
      unfold s_mark; dsimp only
      rw [if_neg (by unfold s_done; simpa using c)]
    refine go _ _ e ?_
    rw [hc, if_neg]
    rw [← e]; unfold s_done; simpa using c
  · intro c
    have e : s_set (upd (s_set (s_set (upd (upd B 12 r) 11 (nI l)) l 5 (s_of (upd (upd B 12 r) 11 (nI l)) l 5 - 1)) l 7 (s_of (s_set (upd (upd B 12 r) 11 (nI l)) l 5 (s_of (upd (upd B 12 r) 11 (nI l)) l 5 - 1)) l 7 + 1)) 18 (s_set (s_set (upd (upd B 12 r) 11 (nI l)) l 5 (s_of (upd (upd B 12 r) 11 (nI l)) l 5 - 1)) l 7 (s_of (s_set (upd (upd B 12 r) 11 (nI l)) l 5 (s_of (upd (upd B 12 r) 11 (nI l)) l 5 - 1)) l 7 + 1) 18 + 1)) l 6 (upd (s_set (s_set (upd (upd B 12 r) 11 (nI l)) l 5 (s_of (upd (upd B 12 r) 11 (nI l)) l 5 - 1)) l 7 (s_of (s_set (upd (upd B 12 r) 11 (nI l)) l 5 (s_of (upd (upd B 12 r) 11 (nI l)) l 5 - 1)) l 7 + 1)) 18 (s_set (s_set (upd (upd B 12 r) 11 (nI l)) l 5 (s_of (upd (upd B 12 r) 11 (nI l)) l 5 - 1)) l 7 (s_of (s_set (upd (upd B 12 r) 11 (nI l)) l 5 (s_of (upd (upd B 12 r) 11 (nI l)) l 5 - 1)) l 7 + 1) 18 + 1) 9 + 1) = s_mark B l r := by
      unfold s_mark; dsimp only
      rw [if_pos (by unfold s_done; simpa using c)]
    refine go _ _ e ?_
    rw [hc, if_pos]
    rw [← e]; unfold s_done
    rw [of_set (by omega) (by omega), if_neg (by omega)]; simpa using c
theorem cur_11 {B : zBk} {n c t l : Nat} (hf : s_wf B n c t) (hl : l < n) (ho : s_open B l = true) : s_cur B = nI l ↔ B 11 = nI l := by
  have hn := hf.2.1
  have hd : ¬ s_done B l = true := by unfold s_open at ho; rw [Bool.and_eq_true] at ho; simpa using ho.2
  unfold s_cur
  constructor
  · intro h
    by_cases h1 : B 11 = -1
    · rw [if_pos h1] at h; exact absurd h.symm (nI_ne_m1 (by omega))
    · rw [if_neg h1] at h
      by_cases h2 : s_done B (B 11).toNatClampNeg = true
      · rw [if_pos h2] at h; exact absurd h.symm (nI_ne_m1 (by omega))
      · rwa [if_neg h2] at h
  · intro h
    rw [h, if_neg (nI_ne_m1 (by omega)), nI_clamp (by omega), if_neg hd]
theorem blot_lo {l k : Nat} (h : k < 16) : s_blot B l k = B k := by
  unfold s_blot
  split
  · rfl
  · unfold s_smear
    rw [upd_ne _ _ (by omega), set_lo (by omega)]
theorem k_write (ht : isT w 9 s) {n c t l : Nat} (hf : s_wf B n c t) (hl : l < n) (ho : s_open B l = true) (h14 : B 14 = 0) : CT G w gl (yX9_write, cX9_write, 4, none) 1 (0, 0) [.ref s, .int (nI l)] (sput I s B (s_cur B)) (qV (fun J => J = sput I s (s_write B l) (s_cur (s_write B l)))) nX := by
  refine ct_of (by decide) [(0, .ref s), (1, .int (nI l))] rfl rfl (fun K hG hw hgl hwo hK => ?_)
  subst hG; subst hw; subst hgl
  have hn := hf.2.1
  have mark : ∀ (r v2 : Int32), r = (if s_goes (s_blot B l) (s_cur B) (nI l) = true then s_blot B l 12 + 1 else 1) → ZZ K (0, 0) 80 [(0, .ref s), (1, .int (nI l)), (2, .int v2)] [.int r, .ref s] (sput I s (s_blot B l) (s_cur B)) := fun r v2 h => by
    subst h
    exact k_mark ht (by omega) (by rw [blot_lo (by omega)]; exact h14) hK hwo rfl (qV_i (by rw [show s_cur (s_write B l) = s_cur (s_mark (s_blot B l) l (if s_goes (s_blot B l) (s_cur B) (nI l) = true then s_blot B l 12 + 1 else 1)) from cur_ink]; rfl))
  have e11 : s_blot B l 11 = B 11 := blot_lo (by omega)
  have iff := cur_11 hf hl ho
  have a56 : ∀ q : Int32, (q = 0 ↔ ¬ (s_blot B l 0 = 4 ∧ ¬ s_blot B l 12 < s_blot B l 4)) → ZZ K (0, 0) 56 [(0, .ref s), (1, .int (nI l))] [.int q] (sput I s (s_blot B l) (s_cur B)) := fun q hq => by
    refine bX9_write_56 hK hwo ht ?_ ?_ ?_ <;> (try simp only [sp8, sp9, e11])
    · intro d
      refine bX9_write_70 hK hwo ht ht (mark _ _ ?_)
      rw [if_neg]
      unfold s_goes
      rw [decide_eq_false (fun e => d (iff.mp e).symm)]; simp
    · intro d e
      refine mark _ _ ?_
      have h := hq.mp e
      rw [if_pos]
      unfold s_goes
      rw [decide_eq_true (iff.mpr d.symm)]
      by_cases h1 : s_blot B l 0 = 4
      · by_cases h2 : s_blot B l 12 < s_blot B l 4
        · simp [h2]
        · exact absurd ⟨h1, h2⟩ h
      · simp [h1]
    · intro d e
      refine bX9_write_70 hK hwo ht ht (mark _ _ ?_)
      have h : s_blot B l 0 = 4 ∧ ¬ s_blot B l 12 < s_blot B l 4 := Decidable.not_not.mp (fun h => e (hq.mpr h))
      rw [if_neg]
      unfold s_goes
      simp [h.1, h.2]
  have a29 : ZZ K (0, 0) 29 [(0, .ref s), (1, .int (nI l))] [] (sput I s (s_blot B l) (s_cur B)) := by
    refine bX9_write_29 hK hwo ht ?_ ?_ ?_ <;> simp only [sp5, sp9, (ht.lr hwo).1, spS3]
    · exact fun d => bX9_write_55 hK hwo ht (a56 0 ⟨fun _ h => d h.1, fun _ => rfl⟩)
    · exact fun d e => bX9_write_55 hK hwo ht (a56 0 ⟨fun _ h => h.2 e, fun _ => rfl⟩)
    · exact fun d e => a56 1 ⟨fun h => absurd h (by decide), fun h => absurd ⟨d, e⟩ h⟩
  have stay : (s_cur B = -1 ∨ s_cur B = nI l) → ZZ K (0, 0) 29 [(0, .ref s), (1, .int (nI l))] [] (sput I s B (s_cur B)) := fun h => by
    have e : s_blot B l = B := by unfold s_blot; rw [if_pos h]
    rw [e] at a29; exact a29
  by_cases h1 : s_cur B = -1
  · refine bX9_write_0 (g6 := I) hK hwo ht ?_ ?_ ?_ ?_ ?_ <;> simp only [sp7]
    · exact fun _ => stay (Or.inl h1)
    · exact fun d => absurd h1 d
    · exact fun d => absurd h1 d
    · exact fun d => absurd h1 d
    · exact fun d => absurd h1 d
  · obtain ⟨a, ha, ea, -⟩ := s_cur_open hf h1
    have hcl : (s_cur B).toNatClampNeg = a := by rw [ea]; exact nI_clamp (by omega)
    refine bX9_write_0 (g6 := sput I s (s_smear B a) (s_cur B)) hK hwo ht ?_ ?_ ?_ ?_ ?_ <;> simp only [sp7]
    · exact fun d => absurd d h1
    · exact fun _ d => stay (Or.inr d)
    · exact fun _ _ => by rw [ea]; exact vp_in_nI (by omega) (by omega)
    · exact fun _ _ => by
        rw [hcl, (ht.lr hwo).2.2.1, (ht.lr hwo).2.2.2.2.2.1 a (by omega)]
        exact k_smear ht (by omega)
    · intro _ d
      have e : s_blot B l = s_smear B a := by unfold s_blot; rw [if_neg (by rintro (h | h); exact h1 h; exact d h), hcl]
      rw [e] at a29; exact a29
end CLC
