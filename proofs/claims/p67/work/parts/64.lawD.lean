/-! THE LAW'S OFFICE: a minute -/
section LAWD
variable {G : zG} {w : Nat × Nat} {gl : Launch} {I : zM} {L : zBk} {n c t l : Nat}
theorem sim.cg {D : zBk} (h : sim I L n) (h1 : ∀ k, k < 9 → D k = L k) (h2 : ∀ l, l < n → ∀ f, f < 5 → s_of D l f = s_of L l f) : sim I D n :=
  ⟨fun k hk => (h.1 k hk).trans (h1 k hk).symm, fun l hl f hf => (h.2 l hl f hf).trans (h2 l hl f hf).symm⟩
theorem give_eq (hp : s_pos L) (h15 : L 15 ≤ 0) (h : s_of L l 0 = L 10 ∨ L 1 ≤ 0) : s_give L l = upd (upd L 17 (L 17 + if s_of L l 0 = L 10 then 0 else 1)) 10 (s_of L l 0) := by
  unfold s_give
  by_cases e : s_of L l 0 = L 10
  · rw [if_pos e, if_pos e, Int32.add_zero, upd_id (k := 17) rfl, upd_id e.symm]
  · have h1 : L 1 = 0 := Int32.le_antisymm (h.resolve_left e) hp.1
    have h2 : L 15 = 0 := Int32.le_antisymm h15 hp.2.2.2
    rw [if_neg e, if_neg e]
    dsimp only
    rw [upd_ne (k := 10) _ _ (show 17 ≠ 10 by omega), upd_id (B := upd (upd L 10 (s_of L l 0)) 17 (L 17 + 1)) (k := 15) (by rw [upd_ne _ _ (show 15 ≠ 17 by omega), upd_ne _ _ (show 15 ≠ 10 by omega), upd_ne _ _ (show 1 ≠ 17 by omega), upd_ne _ _ (show 1 ≠ 10 by omega), h1, h2])]
    exact upd_comm _ _ _ (by omega)
theorem e_pass (hx : isT w 10 0) (hs : isT w 9 288) (ho : isT w 11 312) (hL : (gs G).1 ≤ 260) (hf : s_wf L n c t) (hm : sim I L n) (hS : setL G L) (hu : urgOK L n) (hp : s_pos L) (hink : L 14 = 0 → ∃ a, 1 ≤ a ∧ a ≤ 100 ∧ L 13 = nI a) : CT G w gl (yX11_pass, cX11_pass, 2, none) 11 (0, 0) [.ref 312] (oput I L) (qV (fun J => J = oput I (s_min L n))) nX := by
  refine ct_of (by decide) [(0, .ref 312)] rfl rfl (fun K hG hw hgl hwo hK => ?_)
  subst hG; subst hw; subst hgl
  have hn := hf.2.1
  have fin : ∀ D : zBk, oput I D = oput I (s_min0 L n) → ZZ K (0, 0) 196 [(0, .ref 312)] [] (oput I D) := fun D e => by
    rw [e]
    refine bX11_pass_196 hK hwo ho ⟨rfl, ?_⟩
    rw [op6, ou6]
    rfl
  have cap : ∀ D : zBk, CT (kG K) (kw K) (kl K) (yL_capacity, cL_capacity, 1, some .int) 1 (0, 0) [.ref 1400] (oput I D) (qE (L 2) (oput I D)) nX := fun D => by
    rw [hS 2 (by omega) (by omega)]; exact e_capacity hL
  have hov : ∀ D : zBk, CT (kG K) (kw K) (kl K) (yL_handOver, cL_handOver, 1, some .int) 1 (0, 0) [.ref 1400] (oput I D) (qE (L 1) (oput I D)) nX := fun D => by
    rw [hS 1 (by omega) (by omega)]; exact e_handOver hL
  have clk : ∀ (D : zBk) (j : Nat), j < n → CT (kG K) (kw K) (kl K) (yX10_clerkOf, cX10_clerkOf, 2, some .int) 7 (0, 0) [.ref 0, .int (nI j)] (oput I D) (qE (s_of L j 0) (oput I D)) nX := fun D j hj => by
    rw [← hm.2 j hj 0 (by omega)]; exact u_clerkOf hx hs (hm.h8 hf.1) hn hj
  obtain ⟨p, hp5, ep⟩ := hf.2.2.2.2.2.2.2.2.1
  have ep2 : s_pol L = p := by unfold s_pol; rw [ep]; exact nI_clamp (by omega)
  have hpol : CT (kG K) (kw K) (kl K) (yX10_policy, cX10_policy, 1, some .int) 0 (0, 0) [.ref 0] (oput I L) (qE (nI p) (oput I L)) nX := by
    have z := c_policy (G := kG K) (w := kw K) (gl := kl K) (I := oput I L) hx
    rw [opO (by omega), show I 288 5 = nI p from (hm.1 0 (by omega)).trans ep] at z
    exact z
  have hsel := e_select (G := kG K) (w := kw K) (gl := kl K) hx hs ho hL hf hm hS hu hp5
  have m0 : L 14 ≤ 0 → L 15 ≤ 0 → s_min0 L n = if s_select L n p = -1 then upd L 19 (L 19 + 1) else s_workOn L (s_select L n p).toNatClampNeg := fun h1 h2 => by
    unfold s_min0
    rw [if_pos h1, if_pos h2, ep2]
  have sel : s_select L n p = -1 ∨ ∃ l, l < n ∧ s_select L n p = nI l ∧ s_open L l = true := sel_in hf
  -- the letter is written
  have k150 : ∀ l, l < n → s_open L l = true → s_select L n p = nI l → L 14 ≤ 0 → L 15 ≤ 0 → (s_of L l 0 = L 10 ∨ L 1 ≤ 0) → ZZ K (0, 0) 150 [(0, .ref 312), (1, .int (nI l))] [] (oput I L) := fun l hl hop es h14 h15 hg => by
    have eg := give_eq (l := l) hp h15 hg
    have lo : ∀ k, k ≠ 10 → k ≠ 17 → k ≠ 15 → s_give L l k = L k := fun k h1 h2 h3 => g_give h1 h2 h3
    have g15 : s_give L l 15 ≤ 0 := by rw [eg, upd_ne _ _ (by omega), upd_ne _ _ (by omega)]; exact h15
    have ew : s_min0 L n = s_write (s_give L l) l := by
      rw [m0 h14 h15, es, if_neg (nI_ne_m1 (by omega)), nI_clamp (by omega)]
      unfold s_workOn
      rw [if_pos g15]
    have hop2 : s_open (s_give L l) l = true := by
      have e1 : s_arr (s_give L l) l = s_arr L l := arr_eq f_give (lo 9 (by omega) (by omega) (by omega))
      have e2 : s_done (s_give L l) l = s_done L l := done_give
      unfold s_open at hop ⊢
      rw [e1, e2]; exact hop
    have hwr := e_write (G := kG K) (w := kw K) (gl := kl K) (I := I) (L := s_give L l) (l := l) hx hs ho hL (wf_give hf l) (hm.cg (fun k hk => lo k (by omega) (by omega) (by omega)) (fun j hj f hf => f_give)) (fun i h1 h2 => (lo i (by omega) (by omega) (by omega)).trans (hS i h1 h2)) hl hop2 (by
      rw [lo 13 (by omega) (by omega) (by omega)]
      exact hink (Int32.le_antisymm h14 hp.2.2.1))
    have k175 : ∀ d : Int32, d = (if s_of L l 0 = L 10 then 0 else 1) → ZZ K (0, 0) 175 [(0, .ref 312), (1, .int (nI l))] [.int d, .int (oput I L 312 14), .ref 312] (oput I L) := fun d hd => by
      refine bX11_pass_175 (f1 := s_of L l 0) (g1 := oput I (upd L 17 (L 17 + d))) (g2 := oput I (s_write (s_give L l) l)) hK hwo ho ho ?_ ?_ (fin _ (by rw [ew]))
      · rw [op14, ou14]; exact clk _ l hl
      · rw [ou7, hd, ← eg]; exact hwr
    refine bX11_pass_150 hK hwo ho (clk L l hl) (fun z => ?_) (fun z => ?_)
    · rw [op7] at z
      exact k175 1 (if_neg z).symm
    · rw [op7] at z
      exact k175 0 (if_pos z).symm
  have nn : ∀ l, l < n → (0 : Int32) ≤ nI l := fun l hl => nI_pos' (by omega)
  have i0 : ¬ (0 : Int32) ≤ -1 := by decide
  -- a refill
  have refill : ¬ L 14 ≤ 0 → oput I (s_min0 L n) = oput I (if L 14 - 1 = 0 then upd (upd L 14 (L 14 - 1)) 13 (L 2) else upd L 14 (L 14 - 1)) := fun h => by
    have e : s_min0 L n = s_refill L := by unfold s_min0; rw [if_neg h]
    rw [e]
    unfold s_refill; dsimp only
    rw [upd_same, upd_ne (k := 20) _ _ (show 14 ≠ 20 by omega), upd_comm L (L 20 + 1) (L 14 - 1) (show 20 ≠ 14 by omega)]
    by_cases z : L 14 - 1 = 0
    · rw [if_pos z, if_pos z, upd_ne _ _ (show 2 ≠ 20 by omega), upd_ne _ _ (show 2 ≠ 14 by omega), upd_comm _ _ _ (show 20 ≠ 13 by omega)]
      exact oput_far (Or.inr ⟨by omega, by omega⟩)
    · rw [if_neg z, if_neg z]
      exact oput_far (Or.inr ⟨by omega, by omega⟩)
  rcases sel with es | ⟨l, hl, es, hop⟩
  · refine bX11_pass_0 (f6 := 0) (g6 := I) (f9 := 0) (g9 := I) (f12 := 0) (g12 := I) (f13 := 0) (g13 := I) (f19 := L 2) (g19 := oput I (upd L 14 (L 14 - 1))) hK hwo ho (fun _ _ => hpol) (fun _ _ => hsel) ?_ ?_ ?_ ?_ ?_ ?_ ?_ ?_ ?_ ?_ ?_ ?_
    all_goals try (intro _ _ z; rw [es] at z; exact absurd z i0)
    · intro c1 c2 _
      rw [op11] at c1
      rw [op12] at c2
      rw [op16, ou16]
      exact fin _ (by rw [m0 c1 c2, if_pos es])
    · intro c1 c2
      rw [op11] at c1
      rw [op12] at c2 ⊢
      rw [ou12]
      refine fin _ ?_
      have e : s_min0 L n = s_hand L := by unfold s_min0; rw [if_pos c1, if_neg c2]
      rw [e]
      unfold s_hand; dsimp only
      exact (oput_far (Or.inr ⟨by omega, by omega⟩)).symm
    · intro c1 c2
      rw [op11] at c1
      rw [op11, ou11, op11, upd_same] at c2
      rw [op11, ou11]
      exact fin _ (by rw [refill c1, if_neg c2])
    · intro c1 c2
      rw [op11, ou11]; exact cap _
    · intro c1 c2
      rw [op11] at c1
      rw [op11, ou11, op11, upd_same] at c2
      rw [ou10]
      exact fin _ (by rw [refill c1, if_pos c2])
  · refine bX11_pass_0 (f6 := s_of L l 0) (g6 := oput I L) (f9 := L 1) (g9 := oput I L) (f12 := s_of L l 0) (g12 := oput I L) (f13 := L 1) (g13 := oput I (upd (upd L 10 (s_of L l 0)) 17 (L 17 + 1))) (f19 := L 2) (g19 := oput I (upd L 14 (L 14 - 1))) hK hwo ho (fun _ _ => hpol) (fun _ _ => hsel) ?_ ?_ ?_ ?_ ?_ ?_ ?_ ?_ ?_ ?_ ?_ ?_
    · intro _ _ _; rw [es]; exact clk L l hl
    · intro c1 c2 _ c4
      rw [op11] at c1; rw [op12] at c2; rw [op7] at c4
      have z := k150 l hl hop es c1 c2 (Or.inl c4)
      rw [← es] at z; exact z
    · intro _ _ _ _; exact hov L
    · intro c1 c2 _ c4 c5
      rw [op11] at c1; rw [op12] at c2
      have z := k150 l hl hop es c1 c2 (Or.inr c5)
      rw [← es] at z; exact z
    · intro _ _ _ _ _; rw [es]; exact clk L l hl
    · intro _ _ _ _ _
      rw [ou7, op14, ou14, upd_ne (k := 10) _ _ (show 17 ≠ 10 by omega)]; exact hov _
    · intro c1 c2 _ c4 c5
      rw [op11] at c1; rw [op12] at c2; rw [op7] at c4
      rw [ou12]
      refine fin _ ?_
      have eg : s_give L l = upd (upd (upd L 10 (s_of L l 0)) 17 (L 17 + 1)) 15 (L 1) := by
        unfold s_give
        rw [if_neg c4]
        dsimp only
        rw [upd_ne (k := 10) _ _ (show 17 ≠ 10 by omega), upd_ne _ _ (show 1 ≠ 17 by omega), upd_ne _ _ (show 1 ≠ 10 by omega)]
      rw [m0 c1 c2, es, if_neg (nI_ne_m1 (by omega)), nI_clamp (by omega)]
      unfold s_workOn
      rw [if_neg (by rw [eg, upd_same]; exact c5)]
      unfold s_hand; dsimp only
      rw [eg, upd_same, upd_upd]
      exact (oput_far (k := 21) (Or.inr ⟨by omega, by omega⟩)).symm
    · intro c1 c2 c3
      exact absurd (by rw [es]; exact nn l hl) c3
    · intro c1 c2
      rw [op11] at c1
      rw [op12] at c2 ⊢
      rw [ou12]
      refine fin _ ?_
      have e : s_min0 L n = s_hand L := by unfold s_min0; rw [if_pos c1, if_neg c2]
      rw [e]
      unfold s_hand; dsimp only
      exact (oput_far (Or.inr ⟨by omega, by omega⟩)).symm
    · intro c1 c2
      rw [op11] at c1
      rw [op11, ou11, op11, upd_same] at c2
      rw [op11, ou11]
      exact fin _ (by rw [refill c1, if_neg c2])
    · intro c1 c2
      rw [op11, ou11]; exact cap _
    · intro c1 c2
      rw [op11] at c1
      rw [op11, ou11, op11, upd_same] at c2
      rw [ou10]
      exact fin _ (by rw [refill c1, if_pos c2])
end LAWD
