/-! THE LAW'S OFFICE: a letter's minute -/
def mk4 (B : zBk) (l : Nat) (r : Int32) : zBk :=
  let B1 := upd (upd B 12 r) 11 (nI l)
  let B2 := s_set B1 l 5 (s_of B1 l 5 - 1)
  let B3 := s_set B2 l 7 (s_of B2 l 7 + 1)
  upd B3 18 (B3 18 + 1)
theorem mark_4 {B : zBk} {l : Nat} {r : Int32} : s_mark B l r = if s_done (mk4 B l r) l = true then s_set (mk4 B l r) l 6 (mk4 B l r 9 + 1) else mk4 B l r := rfl
theorem mk4_lo {B : zBk} {l k : Nat} {r : Int32} (hk : k < 64) (h1 : k ≠ 11) (h2 : k ≠ 12) (h3 : k ≠ 18) : mk4 B l r k = B k := by
  unfold mk4
  rw [upd_ne _ _ h3, set_lo hk, set_lo hk, upd_ne _ _ h1, upd_ne _ _ h2]
theorem min_le {x y : Int32} : (if y < x then y else x) = if y ≤ x then y else x := by
  by_cases h : y < x
  · rw [if_pos h, if_pos (Int32.le_of_lt h)]
  · rw [if_neg h]
    by_cases h2 : y ≤ x
    · rw [if_pos h2]; exact Int32.le_antisymm (Int32.not_lt.mp h) h2
    · rw [if_neg h2]
section LAWC
variable {G : zG} {w : Nat × Nat} {gl : Launch} {I : zM} {L : zBk} {n c t l : Nat}
theorem e_write (hx : isT w 10 0) (hs : isT w 9 288) (ho : isT w 11 312) (hL : (gs G).1 ≤ 260) (hf : s_wf L n c t) (hm : sim I L n) (hS : setL G L) (hl : l < n) (hop : s_open L l = true) (h13 : ∃ a, 1 ≤ a ∧ a ≤ 100 ∧ L 13 = nI a) : CT G w gl (yX11_write, cX11_write, 3, none) 8 (0, 0) [.ref 312, .int (nI l)] (oput I L) (qV (fun J => J = oput I (s_write L l))) nX := by
  refine ct_of (by decide) [(0, .ref 312), (1, .int (nI l))] rfl rfl (fun K hG hw hgl hwo hK => ?_)
  subst hG; subst hw; subst hgl
  have hn := hf.2.1
  have h12 : l < 12 := by omega
  have i12 : vp_in (nI l) 12 := vp_in_nI h12 (by omega)
  have cl : (nI l).toNatClampNeg = l := nI_clamp (by omega)
  obtain ⟨a, ha1, ha2, h13⟩ := h13
  generalize hL1 : s_blot L l = L1
  have lo1 : ∀ k, k < 64 → k ≠ 16 → L1 k = L k := fun k hk h => by rw [← hL1]; exact g_blot hk h
  generalize hr : (if s_goes L1 (s_cur L) (nI l) = true then L1 12 + 1 else 1) = r
  have ew : s_write L l = s_ink (s_mark L1 l r) := by
    unfold s_write; dsimp only
    rw [hL1, hr]
  -- behind the mark
  have loC : ∀ k, k < 9 ∨ k = 13 ∨ k = 14 → s_mark L1 l r k = L k := fun k hk => by
    rw [g_mark (by omega) (by omega) (by omega) (by omega)]
    exact lo1 k (by omega) (by omega)
  have fin : ∀ v2 : Int32, ZZ K (0, 0) 168 [(0, .ref 312), (1, .int (nI l)), (2, .int v2)] [] (oput I (upd (s_mark L1 l r) 13 (s_mark L1 l r 13 - 1))) := fun v2 => by
    generalize hC : s_mark L1 l r = C at ew loC ⊢
    have e13 : C 13 - 1 = nI (a - 1) := by rw [loC 13 (by omega), h13]; exact pk_sub (a := a) (b := 1) ha1
    have eD : upd C 13 (C 13 - 1) 13 = nI (a - 1) := by rw [upd_same]; exact e13
    have D3 : upd C 13 (C 13 - 1) 3 = L 3 := by rw [upd_ne _ _ (by omega)]; exact loC 3 (by omega)
    have D2 : upd C 13 (C 13 - 1) 2 = L 2 := by rw [upd_ne _ _ (by omega)]; exact loC 2 (by omega)
    have h0 : upd C 13 (C 13 - 1) 13 ≤ 0 ↔ upd C 13 (C 13 - 1) 13 = 0 := i_pos0 (by rw [eD]; exact nI_pos' (by omega))
    have ei : s_ink C = if upd C 13 (C 13 - 1) 13 ≤ 0 then (if upd (upd C 13 (C 13 - 1)) 14 (upd C 13 (C 13 - 1) 3) 14 = 0 then upd (upd (upd C 13 (C 13 - 1)) 14 (upd C 13 (C 13 - 1) 3)) 13 (upd (upd C 13 (C 13 - 1)) 14 (upd C 13 (C 13 - 1) 3) 2) else upd (upd C 13 (C 13 - 1)) 14 (upd C 13 (C 13 - 1) 3)) else upd C 13 (C 13 - 1) := rfl
    generalize upd C 13 (C 13 - 1) = D at eD D3 D2 h0 ei ⊢
    refine bX11_write_168 (f3 := L 3) (g3 := oput I D) (f6 := L 2) (g6 := oput I (upd D 14 (L 3))) hK hwo ho (fun z => ⟨rfl, ?_⟩) (fun _ => by rw [hS 3 (by omega) (by omega)]; exact e_refill hL) (fun z z2 => ⟨rfl, ?_⟩) (fun _ _ => by rw [ou11, hS 2 (by omega) (by omega)]; exact e_capacity hL) (fun z z2 => ⟨rfl, ?_⟩)
    · rw [op10] at z
      rw [ew, ei, if_neg (fun q => z (h0.mp q))]
    · rw [op10] at z
      rw [ou11, op11, upd_same] at z2
      rw [ou11, ew, ei, if_pos (h0.mpr z), D3, upd_same, if_neg z2]
    · rw [op10] at z
      rw [ou11, op11, upd_same] at z2
      rw [ou10, ew, ei, if_pos (h0.mpr z), D3, upd_same, if_pos z2, upd_ne _ _ (by omega), D2]
  -- the mark
  have k99 : ∀ v2 : Int32, ZZ K (0, 0) 99 [(0, .ref 312), (1, .int (nI l)), (2, .int v2)] [.int r, .ref 312] (oput I L1) := fun v2 => by
    have o1 : ∀ (D : zBk) (v : Int32), up (oput I D) 313 l v = oput I (s_set D l 5 v) := fun D v => ouR h12
    have o2 : ∀ (D : zBk) (v : Int32), up (oput I D) 314 l v = oput I (s_set D l 6 v) := fun D v => ouN h12
    have o3 : ∀ (D : zBk) (v : Int32), up (oput I D) 315 l v = oput I (s_set D l 7 v) := fun D v => ouW h12
    have r1 : ∀ D : zBk, oput I D 313 l = s_of D l 5 := fun D => opR h12
    have r3 : ∀ D : zBk, oput I D 315 l = s_of D l 7 := fun D => opW h12
    refine bX11_write_99 hK hwo ho ho i12 i12 i12 i12 i12 (fun c => ?_) (fun c => i12) (fun c => ?_)
    · simp only [cl, ou9, ou8, o1, r1, o3, r3, op15, ou15, op10, ou10] at c ⊢
      have c2 : ¬ s_of (upd (mk4 L1 l r) 13 (mk4 L1 l r 13 - 1)) l 5 = 0 := c
      rw [of_upd (by omega)] at c2
      have e : s_mark L1 l r = mk4 L1 l r := by rw [mark_4, if_neg (show ¬ s_done (mk4 L1 l r) l = true from fun q => c2 (of_decide_eq_true q))]
      have z := fin v2
      rw [e] at z
      exact z
    · simp only [cl, ou9, ou8, o1, r1, o3, r3, op15, ou15, op10, ou10, op6, o2] at c ⊢
      have c2 : s_of (upd (mk4 L1 l r) 13 (mk4 L1 l r 13 - 1)) l 5 = 0 := c
      rw [of_upd (by omega)] at c2
      have e : s_mark L1 l r = s_set (mk4 L1 l r) l 6 (mk4 L1 l r 9 + 1) := by rw [mark_4, if_pos (show s_done (mk4 L1 l r) l = true from decide_eq_true c2)]
      have z := fin v2
      rw [e, set_lo (by omega)] at z
      have e2 : s_set (upd (mk4 L1 l r) 13 (mk4 L1 l r 13 - 1)) l 6 (upd (mk4 L1 l r) 13 (mk4 L1 l r 13 - 1) 9 + 1) = upd (s_set (mk4 L1 l r) l 6 (mk4 L1 l r 9 + 1)) 13 (mk4 L1 l r 13 - 1) := by
        rw [upd_ne _ _ (show 9 ≠ 13 by omega)]
        exact set_upd _ _ _ (by omega)
      rw [← e2] at z
      exact z
  have k55 : ∀ v2 : Int32, ZZ K (0, 0) 55 [(0, .ref 312), (1, .int (nI l)), (2, .int v2)] [] (oput I L1) := fun v2 => by
    have ecur := cur_11 hf hl hop
    have k98 : r = 1 → ZZ K (0, 0) 98 [(0, .ref 312), (1, .int (nI l)), (2, .int v2)] [.ref 312] (oput I L1) := fun e => bX11_write_98 hK hwo ho ho (by have z := k99 v2; rw [e] at z; exact z)
    have hpol : CT (kG K) (kw K) (kl K) (yX10_policy, cX10_policy, 1, some .int) 0 (0, 0) [.ref 0] (oput I L1) (qE (L 0) (oput I L1)) nX := by
      have z := c_policy (G := kG K) (w := kw K) (gl := kl K) (I := oput I L1) hx
      rw [opO (by omega), show I 288 5 = L 0 from hm.1 0 (by omega)] at z
      exact z
    have hqu : CT (kG K) (kw K) (kl K) (yL_quantum, cL_quantum, 1, some .int) 1 (0, 0) [.ref 1400] (oput I L1) (qE (L 4) (oput I L1)) nX := by
      rw [hS 4 (by omega) (by omega)]; exact e_quantum hL
    have go : s_goes L1 (s_cur L) (nI l) = (decide (s_cur L = nI l) && (!decide (L 0 = 4) || decide (L1 12 < L 4))) := by
      unfold s_goes
      rw [lo1 0 (by omega) (by omega), lo1 4 (by omega) (by omega)]
    refine bX11_write_55 hK hwo ho (fun z => ?_) (fun _ => hpol) (fun z z2 => ?_) (fun _ _ => hqu) (fun z z2 z3 => ?_) (fun z z2 z3 => ?_)
    · rw [op8, lo1 11 (by omega) (by omega)] at z
      refine k98 ?_
      rw [← hr, go, decide_eq_false (fun q => z (ecur.mp q).symm), Bool.false_and, if_neg Bool.false_ne_true]
    · rw [op8, lo1 11 (by omega) (by omega)] at z
      have e : r = L1 12 + 1 := by rw [← hr, go, decide_eq_true (ecur.mpr z.symm), decide_eq_false z2]; rfl
      rw [op9, ← e]
      exact k99 v2
    · rw [op8, lo1 11 (by omega) (by omega)] at z
      rw [op9] at z3
      refine k98 ?_
      rw [← hr, go, decide_eq_true (ecur.mpr z.symm), decide_eq_true z2, decide_eq_false (Int32.not_lt.mpr z3)]
      rfl
    · rw [op8, lo1 11 (by omega) (by omega)] at z
      rw [op9] at z3
      have e : r = L1 12 + 1 := by rw [← hr, go, decide_eq_true (ecur.mpr z.symm), decide_eq_true z2, decide_eq_true (Int32.not_le.mp z3)]; rfl
      rw [op9, ← e]
      exact k99 v2
  -- the blot
  have eb : s_cur L = -1 ∨ s_cur L = nI l → L1 = L := fun h => by rw [← hL1]; unfold s_blot; rw [if_pos h]
  have same : (s_cur L = -1 ∨ s_cur L = nI l) → ∀ v2 : Int32, ZZ K (0, 0) 55 [(0, .ref 312), (1, .int (nI l)), (2, .int v2)] [] (oput I L) := fun h v2 => by
    have z := k55 v2
    rw [eb h] at z
    exact z
  have ecu := e_current (G := kG K) (w := kw K) (gl := kl K) (I := I) ho hf
  by_cases h1 : s_cur L = -1
  · exact nX11_write_0 (f6 := 0) (g6 := I) (f8 := 0) (g8 := I) hK hwo ho ecu (fun _ => same (Or.inl h1) _) (fun z => absurd ((cur_m1 hf).mpr h1) z) (fun z => absurd ((cur_m1 hf).mpr h1) z) (fun z => absurd ((cur_m1 hf).mpr h1) z) (fun z => absurd ((cur_m1 hf).mpr h1) z) (fun z => absurd ((cur_m1 hf).mpr h1) z) (fun z => absurd ((cur_m1 hf).mpr h1) z)
  · obtain ⟨b, hb, ecb, -⟩ := s_cur_open hf h1
    have hb12 : b < 12 := by omega
    have clb : (s_cur L).toNatClampNeg = b := by rw [ecb]; exact nI_clamp (by omega)
    have ib : vp_in (s_cur L) 12 := by rw [ecb]; exact vp_in_nI hb12 (by omega)
    refine nX11_write_0 (f6 := s_of L b 1) (g6 := oput I L) (f8 := L 6) (g8 := oput I L) hK hwo ho ecu (fun z => absurd ((cur_m1 hf).mp z) h1) (fun _ z => same (Or.inr z) _) (fun _ _ => ?_) (fun _ _ => ib) (fun _ _ => ?_) (fun _ _ => ib) (fun _ z => ?_)
    · rw [ecb, ← hm.2 b hb 1 (by omega)]; exact u_length hx hs (hm.h8 hf.1) hn hb
    · rw [hS 6 (by omega) (by omega)]; exact e_blot hL
    · rw [clb, opR hb12, min_le, ouR hb12, op13, ou13]
      have e : L1 = upd (s_set L b 5 (if s_of L b 5 + L 6 ≤ s_of L b 1 then s_of L b 5 + L 6 else s_of L b 1)) 16 (s_set L b 5 (if s_of L b 5 + L 6 ≤ s_of L b 1 then s_of L b 5 + L 6 else s_of L b 1) 16 + 1) := by
        rw [← hL1]; unfold s_blot
        rw [if_neg (by rintro (q | q); exact h1 q; exact z q), clb]
        rfl
      have z := k55 (s_cur L)
      rw [e] at z
      exact z
end LAWC
