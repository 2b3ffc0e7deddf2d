/-! WHAT EVERY OFFICE KEEPS: the ink, the sum of the minutes, the letters' numbers -/
def i_ink (L : zBk) : Prop := (∃ a, 1 ≤ a ∧ a ≤ 100 ∧ L 2 = nI a) ∧ (L 14 = 0 → ∃ a, 1 ≤ a ∧ a ≤ 100 ∧ L 13 = nI a)
def i_sum (L : zBk) : Prop := L 9 = L 18 + L 19 + L 20 + L 21
def i_let (L : zBk) (l t : Nat) : Prop := (∃ a, a ≤ 3000 ∧ s_of L l 2 = nI a) ∧ (∃ p, p ≤ 9 ∧ s_of L l 4 = nI p) ∧ ∃ v, v ≤ t ∧ s_of L l 7 = nI v
def i_lets (L : zBk) (n t : Nat) : Prop := (∀ l, l < n → i_let L l t) ∧ ∀ l, n ≤ l → l < 12 → s_of L l 7 = 0
def inv (L : zBk) (n t : Nat) : Prop := i_ink L ∧ i_sum L ∧ i_lets L n t
section INV
variable {B L : zBk} {n c t l j k f : Nat} {r : Int32}
theorem f_mk47 : s_of (mk4 B l r) j 7 = if j = l then s_of B l 7 + 1 else s_of B j 7 := by
  unfold mk4
  rw [of_upd (by omega), of_set (by omega) (by omega), of_set (by omega) (by omega), of_set (by omega) (by omega), if_neg (show ¬ (l = l ∧ 7 = 5) by omega), if_neg (show ¬ (j = l ∧ 7 = 5) by omega), of_upd (by omega), of_upd (by omega), of_upd (by omega), of_upd (by omega)]
  by_cases e : j = l
  · rw [if_pos ⟨e, rfl⟩, if_pos e]
  · rw [if_neg (fun q => e q.1), if_neg e]
theorem f_mark7 : s_of (s_mark B l r) j 7 = if j = l then s_of B l 7 + 1 else s_of B j 7 := by
  rw [mark_4]
  by_cases h : s_done (mk4 B l r) l = true
  · rw [if_pos h, of_set (by omega) (by omega), if_neg (show ¬ (j = l ∧ 7 = 6) by omega)]
    exact f_mk47
  · rw [if_neg h]
    exact f_mk47
theorem f_write (hf : f < 5) : s_of (s_write B l) j f = s_of B j f := by
  unfold s_write
  rw [f_ink, f_mark (by omega) (Or.inr hf), f_blot (by omega) (by omega)]
theorem f_write7 : s_of (s_write B l) j 7 = if j = l then s_of B l 7 + 1 else s_of B j 7 := by
  unfold s_write
  rw [f_ink, f_mark7, f_blot (by omega) (by omega), f_blot (by omega) (by omega)]
theorem f_workOn (hf : f < 5) : s_of (s_workOn B l) j f = s_of B j f := by
  unfold s_workOn
  split
  · rw [f_write hf, f_give]
  · rw [f_hand, f_give]
theorem f_min (hf : f < 5) : s_of (s_min B n) j f = s_of B j f := by
  unfold s_min s_min0
  rw [of_upd (by omega)]
  split
  · split
    · split
      · rw [of_upd (by omega)]
      · exact f_workOn hf
    · exact f_hand
  · exact f_refill
theorem f_min7 : s_of (s_min B n) j 7 = s_of B j 7 ∨ s_of (s_min B n) j 7 = s_of B j 7 + 1 := by
  unfold s_min s_min0
  rw [of_upd (by omega)]
  split
  · split
    · split
      · rw [of_upd (by omega)]; exact Or.inl rfl
      · unfold s_workOn
        split
        · rw [f_write7, f_give, f_give]
          split
          · next h => rw [h]; exact Or.inr rfl
          · exact Or.inl rfl
        · rw [f_hand, f_give]; exact Or.inl rfl
    · exact Or.inl f_hand
  · exact Or.inl f_refill
theorem lets_min (hf : s_wf L n c t) (h : i_lets L n t) : i_lets (s_min L n) n (t + 1) := by
  refine ⟨fun l hl => ?_, fun l h1 h2 => ?_⟩
  · obtain ⟨h1, h2, v, hv, h3⟩ := h.1 l hl
    refine ⟨by rw [f_min (by omega)]; exact h1, by rw [f_min (by omega)]; exact h2, ?_⟩
    rcases f_min7 (B := L) (n := n) (j := l) with e | e
    · exact ⟨v, by omega, by rw [e, h3]⟩
    · exact ⟨v + 1, by omega, by rw [e, h3, nI_1]⟩
  · have e : s_of (s_min L n) l 7 = s_of L l 7 := min_far hf (Or.inr (by omega))
    rw [e]; exact h.2 l h1 h2
theorem g_write (hk : k < 64) (h : k ≠ 11 ∧ k ≠ 12 ∧ k ≠ 13 ∧ k ≠ 14 ∧ k ≠ 16 ∧ k ≠ 18) : s_write B l k = B k := by
  unfold s_write
  rw [g_ink (by omega) (by omega), g_mark hk (by omega) (by omega) (by omega), g_blot hk (by omega)]
theorem g_write18 : s_write B l 18 = B 18 + 1 := by
  unfold s_write
  rw [g_ink (by omega) (by omega), g_mark18, g_blot (by omega) (by omega)]
theorem g_hand21 : s_hand B 21 = B 21 + 1 := by
  unfold s_hand
  rw [upd_same, upd_ne _ _ (by omega)]
theorem g_refill20 : s_refill B 20 = B 20 + 1 := by
  have e : s_refill B = if upd (upd B 20 (B 20 + 1)) 14 (upd B 20 (B 20 + 1) 14 - 1) 14 = 0 then upd (upd (upd B 20 (B 20 + 1)) 14 (upd B 20 (B 20 + 1) 14 - 1)) 13 (upd (upd B 20 (B 20 + 1)) 14 (upd B 20 (B 20 + 1) 14 - 1) 2) else upd (upd B 20 (B 20 + 1)) 14 (upd B 20 (B 20 + 1) 14 - 1) := rfl
  rw [e]
  split
  · rw [upd_ne _ _ (by omega), upd_ne _ _ (by omega), upd_same]
  · rw [upd_ne _ _ (by omega), upd_same]
theorem sum_min (h : i_sum L) : i_sum (s_min L n) := by
  unfold i_sum at h ⊢
  have e9 : ∀ D : zBk, upd D 9 (D 9 + 1) 9 = D 9 + 1 := fun D => upd_same _ _ _
  have ek : ∀ (D : zBk) (k : Nat), k ≠ 9 → upd D 9 (D 9 + 1) k = D k := fun D k hk => upd_ne _ _ hk
  have key : ∀ a b c d : Int32, L 9 + 1 = a + b + c + d → (s_min0 L n) 9 = L 9 → (s_min0 L n) 18 = a → (s_min0 L n) 19 = b → (s_min0 L n) 20 = c → (s_min0 L n) 21 = d → (s_min L n) 9 = (s_min L n) 18 + (s_min L n) 19 + (s_min L n) 20 + (s_min L n) 21 := fun a b c d h0 h1 h2 h3 h4 h5 => by
    unfold s_min
    rw [e9, ek _ 18 (by omega), ek _ 19 (by omega), ek _ 20 (by omega), ek _ 21 (by omega), h1, h2, h3, h4, h5]
    exact h0
  have a18 : ∀ a b c d : Int32, a + b + c + d + 1 = (a + 1) + b + c + d := fun a b c d => by ac_rfl
  have a19 : ∀ a b c d : Int32, a + b + c + d + 1 = a + (b + 1) + c + d := fun a b c d => by ac_rfl
  have a20 : ∀ a b c d : Int32, a + b + c + d + 1 = a + b + (c + 1) + d := fun a b c d => by ac_rfl
  have a21 : ∀ a b c d : Int32, a + b + c + d + 1 = a + b + c + (d + 1) := fun a b c d => by ac_rfl
  by_cases h14 : L 14 ≤ 0
  · by_cases h15 : L 15 ≤ 0
    · by_cases hs : s_select L n (s_pol L) = -1
      · have e : s_min0 L n = upd L 19 (L 19 + 1) := by unfold s_min0; rw [if_pos h14, if_pos h15, if_pos hs]
        exact key (L 18) (L 19 + 1) (L 20) (L 21) (by rw [h]; exact a19 _ _ _ _) (by rw [e, upd_ne _ _ (by omega)]) (by rw [e, upd_ne _ _ (by omega)]) (by rw [e, upd_same]) (by rw [e, upd_ne _ _ (by omega)]) (by rw [e, upd_ne _ _ (by omega)])
      · have e : s_min0 L n = s_workOn L (s_select L n (s_pol L)).toNatClampNeg := by unfold s_min0; rw [if_pos h14, if_pos h15, if_neg hs]
        generalize (s_select L n (s_pol L)).toNatClampNeg = l at e
        unfold s_workOn at e
        have gg : ∀ k, k ≠ 10 → k ≠ 17 → k ≠ 15 → s_give L l k = L k := fun k h1 h2 h3 => g_give h1 h2 h3
        by_cases hg : s_give L l 15 ≤ 0
        · rw [if_pos hg] at e
          exact key (L 18 + 1) (L 19) (L 20) (L 21) (by rw [h]; exact a18 _ _ _ _) (by rw [e, g_write (by omega) (by omega), gg 9 (by omega) (by omega) (by omega)]) (by rw [e, g_write18, gg 18 (by omega) (by omega) (by omega)]) (by rw [e, g_write (by omega) (by omega), gg 19 (by omega) (by omega) (by omega)]) (by rw [e, g_write (by omega) (by omega), gg 20 (by omega) (by omega) (by omega)]) (by rw [e, g_write (by omega) (by omega), gg 21 (by omega) (by omega) (by omega)])
        · rw [if_neg hg] at e
          exact key (L 18) (L 19) (L 20) (L 21 + 1) (by rw [h]; exact a21 _ _ _ _) (by rw [e, g_hand (by omega) (by omega), gg 9 (by omega) (by omega) (by omega)]) (by rw [e, g_hand (by omega) (by omega), gg 18 (by omega) (by omega) (by omega)]) (by rw [e, g_hand (by omega) (by omega), gg 19 (by omega) (by omega) (by omega)]) (by rw [e, g_hand (by omega) (by omega), gg 20 (by omega) (by omega) (by omega)]) (by rw [e, g_hand21, gg 21 (by omega) (by omega) (by omega)])
    · have e : s_min0 L n = s_hand L := by unfold s_min0; rw [if_pos h14, if_neg h15]
      exact key (L 18) (L 19) (L 20) (L 21 + 1) (by rw [h]; exact a21 _ _ _ _) (by rw [e, g_hand (by omega) (by omega)]) (by rw [e, g_hand (by omega) (by omega)]) (by rw [e, g_hand (by omega) (by omega)]) (by rw [e, g_hand (by omega) (by omega)]) (by rw [e, g_hand21])
  · have e : s_min0 L n = s_refill L := by unfold s_min0; rw [if_neg h14]
    exact key (L 18) (L 19) (L 20 + 1) (L 21) (by rw [h]; exact a20 _ _ _ _) (by rw [e, g_refill (by omega) (by omega) (by omega)]) (by rw [e, g_refill (by omega) (by omega) (by omega)]) (by rw [e, g_refill (by omega) (by omega) (by omega)]) (by rw [e, g_refill20]) (by rw [e, g_refill (by omega) (by omega) (by omega)])
theorem ink_cg {D : zBk} (h : i_ink L) (h2 : D 2 = L 2) (h13 : D 13 = L 13) (h14 : D 14 = L 14) : i_ink D := by
  unfold i_ink
  rw [h2, h13, h14]; exact h
theorem ink_min (hp : s_pos L) (h : i_ink L) : i_ink (s_min L n) := by
  have up9 : ∀ D : zBk, i_ink D → i_ink (upd D 9 (D 9 + 1)) := fun D hd => ink_cg hd (upd_ne _ _ (by omega)) (upd_ne _ _ (by omega)) (upd_ne _ _ (by omega))
  unfold s_min
  refine up9 _ ?_
  by_cases h14 : L 14 ≤ 0
  · have z14 : L 14 = 0 := Int32.le_antisymm h14 hp.2.2.1
    by_cases h15 : L 15 ≤ 0
    · by_cases hs : s_select L n (s_pol L) = -1
      · have e : s_min0 L n = upd L 19 (L 19 + 1) := by unfold s_min0; rw [if_pos h14, if_pos h15, if_pos hs]
        rw [e]
        exact ink_cg h (upd_ne _ _ (by omega)) (upd_ne _ _ (by omega)) (upd_ne _ _ (by omega))
      · have e : s_min0 L n = s_workOn L (s_select L n (s_pol L)).toNatClampNeg := by unfold s_min0; rw [if_pos h14, if_pos h15, if_neg hs]
        rw [e]
        generalize (s_select L n (s_pol L)).toNatClampNeg = l
        unfold s_workOn
        have hg : i_ink (s_give L l) := ink_cg h (g_give (by omega) (by omega) (by omega)) (g_give (by omega) (by omega) (by omega)) (g_give (by omega) (by omega) (by omega))
        have g14 : s_give L l 14 = 0 := (g_give (by omega) (by omega) (by omega)).trans z14
        split
        · have hw : ∀ (D : zBk) (r : Int32), i_ink D → D 14 = 0 → i_ink (s_ink (s_mark (s_blot D l) l r)) := fun D r hd d14 => by
            have m : ∀ k, k = 2 ∨ k = 13 ∨ k = 14 → s_mark (s_blot D l) l r k = D k := fun k hk => by
              rw [g_mark (by omega) (by omega) (by omega) (by omega), g_blot (by omega) (by omega)]
            have hE : i_ink (s_mark (s_blot D l) l r) := ink_cg hd (m 2 (by omega)) (m 13 (by omega)) (m 14 (by omega))
            have e14 := (m 14 (by omega)).trans d14
            generalize s_mark (s_blot D l) l r = E at hE e14
            obtain ⟨a, a1, a2, e13⟩ := hE.2 e14
            have x13 : upd E 13 (E 13 - 1) 13 = nI (a - 1) := by rw [upd_same, e13]; exact pk_sub (a := a) (b := 1) a1
            have x2 : upd E 13 (E 13 - 1) 2 = E 2 := upd_ne _ _ (by omega)
            have x14 : upd E 13 (E 13 - 1) 14 = E 14 := upd_ne _ _ (by omega)
            unfold s_ink; dsimp only
            generalize upd E 13 (E 13 - 1) = F at x13 x2 x14
            by_cases z : F 13 ≤ 0
            · rw [if_pos z]
              by_cases z2 : upd F 14 (F 3) 14 = 0
              · rw [if_pos z2]
                have e2 : upd F 14 (F 3) 2 = E 2 := (upd_ne _ _ (by omega)).trans x2
                refine ⟨?_, fun _ => ?_⟩
                · rw [upd_ne _ _ (by omega), e2]; exact hE.1
                · rw [upd_same, e2]; exact hE.1
              · rw [if_neg z2]
                exact ⟨by rw [upd_ne _ _ (by omega), x2]; exact hE.1, fun q => absurd q z2⟩
            · rw [if_neg z]
              refine ⟨by rw [x2]; exact hE.1, fun _ => ⟨a - 1, ?_, by omega, x13⟩⟩
              by_cases q : 1 ≤ a - 1
              · exact q
              · exfalso
                rw [x13, show a - 1 = 0 by omega] at z
                exact z (Int32.le_refl 0)
          exact hw _ _ hg g14
        · exact ink_cg hg (g_hand (by omega) (by omega)) (g_hand (by omega) (by omega)) (g_hand (by omega) (by omega))
    · have e : s_min0 L n = s_hand L := by unfold s_min0; rw [if_pos h14, if_neg h15]
      rw [e]
      exact ink_cg h (g_hand (by omega) (by omega)) (g_hand (by omega) (by omega)) (g_hand (by omega) (by omega))
  · have e : s_min0 L n = s_refill L := by unfold s_min0; rw [if_neg h14]
    rw [e]
    unfold s_refill; dsimp only
    rw [upd_same]
    by_cases z : upd L 20 (L 20 + 1) 14 - 1 = 0
    · rw [if_pos z]
      have e2 : upd (upd L 20 (L 20 + 1)) 14 (upd L 20 (L 20 + 1) 14 - 1) 2 = L 2 := by rw [upd_ne _ _ (by omega), upd_ne _ _ (by omega)]
      refine ⟨?_, fun _ => ?_⟩
      · rw [upd_ne _ _ (by omega), e2]; exact h.1
      · rw [upd_same, e2]; exact h.1
    · rw [if_neg z]
      refine ⟨?_, fun q => ?_⟩
      · rw [upd_ne _ _ (by omega), upd_ne _ _ (by omega)]; exact h.1
      · rw [upd_same] at q
        exact absurd q z
end INV
