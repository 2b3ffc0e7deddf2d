/-! THE CLASS AND THE LAW: what links them, and how changes and minutes keep it -/
/-- the class's memory M is an office of which the law's block is L -/
def PR (G : zG) (M : zM) (L : zBk) (n c t : Nat) : Prop := oR L (vB M 288) (M 288 7) n c t ∧ (∃ a, M 89 2 = nI a ∧ a < 6) ∧ (∃ m, M 89 1 = nI m ∧ m ≤ 6) ∧ setL G L ∧ inv L n t
/-- D is L behind a change that the law hasn't read yet -/
def rdOK (L D : zBk) (n : Nat) : Prop := D 11 = L 11 ∧ D 12 = L 12 ∧ (∀ l, l < 12 → s_of D l 7 = s_of L l 7) ∧ ∀ l, n ≤ l → l < 12 → s_of D l 5 = s_of L l 5 ∧ s_of D l 6 = s_of L l 6
section CHG
variable {G : zG} {w : Nat × Nat} {gl : Launch} {I M : zM} {B L D X : zBk} {cu : Int32} {n n' c t l a m : Nat}
theorem rdOK.rf : rdOK L L n := ⟨rfl, rfl, fun _ _ => rfl, fun _ _ _ => ⟨rfl, rfl⟩⟩
theorem upv {r k : Nat} {x : Int32} : up I r k x r k = x := by unfold up; rw [ups_same, upd_same]
theorem upv2 {r k j : Nat} {x : Int32} (h : j ≠ k) : up I r k x r j = I r j := by unfold up; rw [ups_same, upd_ne _ _ h]
theorem upf {r k q : Nat} {x : Int32} (h : q ≠ r) : up I r k x q = I q := by unfold up; rw [ups_ne _ _ h]
theorem kp_89 (h1 : I 89 1 = nI m) (hm : m ≤ 6) : kp I n c a 89 2 = nI ((a + 1) % 6) ∧ kp I n c a 89 1 = nI (min (m + 1) 6) := by
  have hlt : (a + 1) % 6 < 6 := Nat.mod_lt _ (by omega)
  unfold kp kkeep
  by_cases e : I 89 1 = 6
  · have em : m = 6 := (nI_eq (a := m) (b := 6) (by omega) (by omega)).mp (h1.symm.trans e)
    rw [if_pos e]
    exact ⟨by rw [cps_far (by omega), upv], by rw [cps_far (by omega), upv2 (by decide), e, em]; rfl⟩
  · have em : m ≠ 6 := fun q => e (by rw [h1, q]; rfl)
    rw [if_neg e]
    exact ⟨by rw [upv2 (by decide), cps_far (by omega), upv], by rw [upv, h1, nI_1, show min (m + 1) 6 = m + 1 by omega]⟩
theorem so_row {s q : Nat} {c : Int32} (h : q < s ∨ s + 24 ≤ q) : sput I s B c q = I q := funext fun _ => so h
theorem PR_chg (h1 : M 89 1 = nI m) (hm : m ≤ 6) (h : oR D X cu n' c t) (hS : setL G D) (hi : inv D n' t) : PR G (sput (kp M n c a) 288 X cu) D n' c t := by
  obtain ⟨k1, k2⟩ := kp_89 (n := n) (c := c) (a := a) h1 hm
  have hlt : (a + 1) % 6 < 6 := Nat.mod_lt _ (by omega)
  refine ⟨?_, ⟨(a + 1) % 6, by rw [so_row (by omega)]; exact k1, hlt⟩, ⟨min (m + 1) 6, by rw [so_row (by omega)]; exact k2, by omega⟩, hS, hi⟩
  rw [sp7]
  exact h.cgC2 (fun k hk => vB_sp hk)
theorem PR.kq (h : PR G M L n c t) (ha : M 89 2 = nI a) (ha6 : a < 6) (hm : M 89 1 = nI m) (hm6 : m ≤ 6) : kq M n c t a m :=
  ⟨h.1.wfC, h.1.posC, h.1.curC, nmK_B.mpr h.1.2.2.2.2.2.2.2.2, ⟨ha, ha6⟩, ⟨hm, hm6⟩, h.1.2.1⟩
theorem oV_chg (h : oV M L) : oV (sput (kp M n c a) 288 X cu) L := h.fr (fun r hr => by rw [so_row (by omega), kp_hi (by omega)])
/-! the changes keep the numbers -/
theorem lets_cg (h : i_lets L n t) (h2 : ∀ l, l < 12 → ∀ f, f = 2 ∨ f = 4 ∨ f = 7 → s_of D l f = s_of L l f) (hn : n ≤ 12) : i_lets D n t :=
  ⟨fun l hl => by
    obtain ⟨a1, a2, a3⟩ := h.1 l hl
    exact ⟨by rw [h2 l (by omega) 2 (by omega)]; exact a1, by rw [h2 l (by omega) 4 (by omega)]; exact a2, by rw [h2 l (by omega) 7 (by omega)]; exact a3⟩, fun l h3 h4 => by rw [h2 l h4 7 (by omega)]; exact h.2 l h3 h4⟩
theorem inv_lo (h : inv L n t) (h2 : ∀ k, k < 64 → k ≠ 0 → k ≠ 8 → D k = L k) (hl : i_lets D n' t) : inv D n' t := by
  refine ⟨ink_cg h.1 (h2 2 (by omega) (by omega) (by omega)) (h2 13 (by omega) (by omega) (by omega)) (h2 14 (by omega) (by omega) (by omega)), ?_, hl⟩
  unfold i_sum
  rw [h2 9 (by omega) (by omega) (by omega), h2 18 (by omega) (by omega) (by omega), h2 19 (by omega) (by omega) (by omega), h2 20 (by omega) (by omega) (by omega), h2 21 (by omega) (by omega) (by omega)]
  exact h.2.1
theorem inv_pol {x : Int32} (h : inv L n t) (hn : n ≤ 12) : inv (upd L 0 x) n t := inv_lo h (fun k _ h0 _ => upd_ne _ _ h0) (lets_cg h.2.2 (fun l _ f _ => of_upd (by omega)) hn)
theorem inv_set3 {x : Int32} (h : inv L n t) (hn : n ≤ 12) : inv (s_set L l 3 x) n t := inv_lo h (fun k hk _ _ => set_lo hk) (lets_cg h.2.2 (fun j _ f hf => by rw [of_set (by omega) (by omega), if_neg (by omega)]) hn)
theorem inv_drop (h : inv L n t) (hn : n ≤ 12) : inv (s_drop L l) n t := by
  unfold s_drop
  exact inv_lo h (fun k hk _ _ => by rw [set_lo hk, set_lo hk]) (lets_cg h.2.2 (fun j _ f hf => by rw [of_set (by omega) (by omega), if_neg (by omega), of_set (by omega) (by omega), if_neg (by omega)]) hn)
theorem inv_set4 {p : Nat} (h : inv L n t) (hp : p ≤ 9) : inv (s_set L l 4 (nI p)) n t := by
  refine inv_lo h (fun k hk _ _ => set_lo hk) ⟨fun j hj => ?_, fun j h3 h4 => by rw [of_set (by omega) (by omega), if_neg (by omega)]; exact h.2.2.2 j h3 h4⟩
  obtain ⟨a1, a2, a3⟩ := h.2.2.1 j hj
  refine ⟨by rw [of_set (by omega) (by omega), if_neg (by omega)]; exact a1, ?_, by rw [of_set (by omega) (by omega), if_neg (by omega)]; exact a3⟩
  rw [of_set (by omega) (by omega)]
  by_cases e : j = l ∧ 4 = 4
  · rw [if_pos e]; exact ⟨p, hp, rfl⟩
  · rw [if_neg e]; exact a2
theorem inv_add {x1 x2 x4 : Int32} {b p : Nat} (h : inv L n t) (hb : b ≤ 3000) (hp : p ≤ 9) : inv (s_add L n x1 x2 (nI b) x4 (nI p)) (n + 1) t := by
  refine inv_lo h (fun k hk _ h8 => add_lo hk h8) ⟨fun j hj => ?_, fun j h3 h4 => by rw [add_of (by omega) (by omega)]; exact h.2.2.2 j (by omega) h4⟩
  by_cases e : j = n
  · subst e
    refine ⟨⟨b, hb, ?_⟩, ⟨p, hp, ?_⟩, ⟨0, Nat.zero_le t, ?_⟩⟩ <;> rw [add_at (by omega)] <;> rfl
  · obtain ⟨a1, a2, a3⟩ := h.2.2.1 j (by omega)
    exact ⟨by rw [add_of (by omega) e]; exact a1, by rw [add_of (by omega) e]; exact a2, by rw [add_of (by omega) e]; exact a3⟩
theorem inv_min (hf : s_wf L n c t) (hp : s_pos L) (h : inv L n t) : inv (s_min L n) n (t + 1) := ⟨ink_min hp h.1, sum_min h.2.1, lets_min hf h.2.2⟩
theorem inv_mins (hf : s_wf L n c t) (hp : s_pos L) (h : inv L n t) : ∀ k, t + k ≤ 10000 → inv (s_mins L n k) n (t + k)
  | 0, _ => h
  | k + 1, hk => inv_min (wf_mins hf k (by omega)) (pos_mins hp n k) (inv_mins hf hp h k (by omega))
theorem setL_mins (hf : s_wf L n c t) (hS : setL G L) : ∀ k, t + k ≤ 10000 → setL G (s_mins L n k)
  | 0, _ => hS
  | k + 1, hk => fun i h1 h2 => by
    have e : s_min (s_mins L n k) n i = s_mins L n k i := by
      have hq := wf_mins hf k (by omega)
      unfold s_min
      rw [upd_ne _ _ (by omega)]
      unfold s_min0
      split
      · split
        · split
          · exact upd_ne _ _ (by omega)
          · unfold s_workOn
            split
            · rw [g_write (by omega) (by omega), g_give (by omega) (by omega) (by omega)]
            · rw [g_hand (by omega) (by omega), g_give (by omega) (by omega) (by omega)]
        · exact g_hand (by omega) (by omega)
      · exact g_refill (by omega) (by omega) (by omega)
    exact e.trans (setL_mins hf hS k (by omega) i h1 h2)
theorem sum_0 (h : i_sum L) : L 9 - L 18 - L 19 - L 20 - L 21 = 0 := by
  unfold i_sum at h
  rw [Int32.sub_sub, Int32.sub_sub, Int32.sub_sub, h, Int32.add_assoc, Int32.add_assoc]
  exact Int32.sub_self _
theorem i_subT {x y : Int32} (h1 : -1000000 ≤ x.toInt) (h2 : x.toInt ≤ 1000000) (h3 : -1000000 ≤ y.toInt) (h4 : y.toInt ≤ 1000000) : (x - y).toInt = x.toInt - y.toInt := by
  rw [Int32.toInt_sub]
  exact Int.bmod_eq_of_le (by omega) (by omega)
theorem i_addT {x y : Int32} (h1 : -1000000 ≤ x.toInt) (h2 : x.toInt ≤ 1000000) (h3 : -10000000 ≤ y.toInt) (h4 : y.toInt ≤ 10000000) : (x + y).toInt = x.toInt + y.toInt := by
  rw [Int32.toInt_add]
  exact Int.bmod_eq_of_le (by omega) (by omega)
theorem urg_ok (hf : s_wf L n c t) (hn : s_num L n t) (h : i_lets L n t) : urgOK L n := fun l hl => by
  have ht := hf.2.2.2.2.2.2.2.2.2.2.2
  obtain ⟨⟨a, ha, ea⟩, ⟨p, hp, ep⟩, v, hv, ev⟩ := h.1 l hl
  have w1 : -1000000 ≤ (s_waited L l).toInt ∧ (s_waited L l).toInt ≤ 1000000 := by
    unfold s_waited
    by_cases z : s_arr L l = true
    · rw [if_pos z, ea, ev]
      have e1 : ∃ f, f ≤ t ∧ (if s_done L l = true then s_of L l 6 else L 9) = nI f := by
        by_cases d : s_done L l = true
        · obtain ⟨-, f, hf2, ef⟩ := (hn.2 l hl).2 d
          exact ⟨f, hf2, by rw [if_pos d, ef]⟩
        · exact ⟨t, Nat.le_refl t, by rw [if_neg d]; exact wf_9 hf⟩
      obtain ⟨f, hf2, ef⟩ := e1
      rw [ef]
      have x1 : (nI f - nI a).toInt = (f : Int) - a := pk_sub_toInt (by omega) (by omega)
      have x2 := nI_toInt (n := v) (by omega)
      rw [i_subT (by omega) (by omega) (by omega) (by omega), x1, x2]
      omega
    · rw [if_neg z]
      exact ⟨by decide, by decide⟩
  have h5 := hf.2.2.2.2.2.2.1
  obtain ⟨g, hg, eg⟩ := i_of (M := 20) (n := 20) (by decide) (Int32.le_trans (by decide) h5.1) h5.2
  have w2 : -1000000 ≤ (s_waited L l / L 5).toInt ∧ (s_waited L l / L 5).toInt ≤ 1000000 := by
    rw [Int32.toInt_div, eg, nI_toInt (by omega)]
    have b1 : ((s_waited L l).toInt.tdiv (g : Int)).natAbs ≤ (s_waited L l).toInt.natAbs := Int.natAbs_tdiv_le_natAbs _ _
    generalize (s_waited L l).toInt.tdiv (g : Int) = q at b1
    generalize (s_waited L l).toInt = r at b1 w1
    rw [Int.bmod_eq_of_le (by omega) (by omega)]
    omega
  unfold s_urg
  rw [ep]
  have x3 := nI_toInt (n := p) (by omega)
  rw [i_addT (by omega) (by omega) (by omega) (by omega), x3]
  omega
end CHG
