/-! THE OFFICE: the buffer, names, undo, saved states -/
def kb (x s : Int32) : Int32 := (x.toUInt32 >>> (s.toUInt32 &&& Int32.toUInt32 31)).toInt32.toInt8.toInt32
def k_wd (b : zBk) (N : Nat) (x : Int32) : zBk := upd (upd (upd (upd b N (kb x 24)) (N + 1) (kb x 16)) (N + 2) (kb x 8)) (N + 3) x.toInt8.toInt32
def k_ap (b : zBk) (N : Nat) (x1 x2 x3 x4 x5 : Int32) : zBk := k_wd (k_wd (k_wd (k_wd (k_wd b N x1) (N + 4) x2) (N + 8) x3) (N + 12) x4) (N + 16) x5
/-- the memory with the input F and its bytes b -/
def pM (I : zM) (F b : zBk) : zM := ups (ups I 286 b) 285 F
theorem pM_285 {I : zM} {F b : zBk} : pM I F b 285 = F := ups_same _ _ _
theorem pM_286 {I : zM} {F b : zBk} : pM I F b 286 = b := by unfold pM; rw [ups_ne _ _ (by decide), ups_same]
theorem pM_ot {I : zM} {F b : zBk} {q : Nat} (h : q ≠ 285) (h2 : q ≠ 286) : pM I F b q = I q := by unfold pM; rw [ups_ne _ _ h, ups_ne _ _ h2]
theorem pM_id {I : zM} : pM I (I 285) (I 286) = I := by unfold pM; rw [ups_id, ups_id]
theorem i8_i8 (x : Int32) : x.toInt8.toInt32.toInt8.toInt32 = x.toInt8.toInt32 := by
  rw [Int8.toInt8_toInt32]
theorem pM_put {I : zM} {F b : zBk} {N : Nat} {v : Int32} (h1 : F 1 = nI N) (hN : N < 600) : up (up (pM I F b) 286 ((pM I F b) 285 1).toNatClampNeg v) 285 1 ((up (pM I F b) 286 ((pM I F b) 285 1).toNatClampNeg v) 285 1 + 1) = pM I (upd F 1 (nI (N + 1))) (upd b N v) := by
  have e : (up (pM I F b) 286 N v) = pM I F (upd b N v) := by
    rw [up_def, pM_286]; unfold pM
    rw [ups_sw (show 285 ≠ 286 by decide), ups_ups]
  rw [pM_285, h1, nI_clamp (by omega), e, up_def, pM_285, h1, nI_1]
  unfold pM
  rw [ups_ups]
section CIO
variable {G : zG} {w : Nat × Nat} {gl : Launch} {I : zM} {F b : zBk} {N n c t a m : Nat}
theorem k_putByte (hm : isT w 4 285) {x : Int32} (h1 : F 1 = nI N) (hN : N < 600) : CT G w gl (yX4_putByte, cX4_putByte, 2, none) 0 (0, 0) [.ref 285, .int x] (pM I F b) (qV (fun J => J = pM I (upd F 1 (nI (N + 1))) (upd b N x.toInt8.toInt32))) nX := by
  refine ct_of (by decide) [(0, .ref 285), (1, .int x)] rfl rfl (fun K hG hw hgl hwo hK => ?_)
  subst hG; subst hw; subst hgl
  have hlt : ¬ (600 : Int32) ≤ pM I F b 285 1 := by rw [pM_285, h1]; exact fun q => by have := (nI_leI (a := 600) (b := N) (by omega) (by omega)).mp q; omega
  refine bX4_putByte_0 hK hwo hm (fun q => absurd q hlt) (fun _ => by rw [pM_285, h1]; exact vp_in_nI hN (by omega)) (fun _ => qV_i ?_)
  rw [i8_i8]
  exact pM_put h1 hN
theorem k_putFour (hm : isT w 4 285) {x : Int32} (h1 : F 1 = nI N) (hN : N + 4 ≤ 600) : CT G w gl (yX4_putFour, cX4_putFour, 2, none) 1 (0, 0) [.ref 285, .int x] (pM I F b) (qV (fun J => J = pM I (upd F 1 (nI (N + 4))) (k_wd b N x))) nX := by
  refine ct_of (by decide) [(0, .ref 285), (1, .int x)] rfl rfl (fun K hG hw hgl hwo hK => ?_)
  subst hG; subst hw; subst hgl
  refine bX4_putFour_0 hK hwo hm (k_putByte hm h1 (by omega)) (k_putByte hm (upd_same _ _ _) (by omega)) (k_putByte hm (upd_same _ _ _) (by omega)) (k_putByte hm (upd_same _ _ _) (by omega)) (qV_i ?_)
  rw [upd_upd, upd_upd, upd_upd]
  rfl
theorem isT.inp (hw : wOK w) (h : isT w 10 0) : isT w 4 285 := h.f (k := 2) (d := 4) hw rfl rfl rfl (by decide)
theorem c_append (hx : isT w 10 0) {x1 x2 x3 x4 x5 : Int32} (h1 : I 285 1 = nI N) (hN : N ≤ 600) : CT G w gl (yX10_append, cX10_append, 6, some .int) 6 (1, 6) [.ref 0, .int x1, .int x2, .int x3, .int x4, .int x5] I (qP (N + 20 ≤ 600) (nI (N + 20)) (pM I (upd (I 285) 1 (nI (N + 20))) (k_ap (I 286) N x1 x2 x3 x4 x5))) (xP (N + 20 ≤ 600) sS I) := by
  refine ct_of (by decide) [(0, .ref 0), (1, .int x1), (2, .int x2), (3, .int x3), (4, .int x4), (5, .int x5)] rfl rfl (fun K hG hw hgl hwo hK => ?_)
  subst hG; subst hw; subst hgl
  have hi := hx.inp hwo
  have e20 : I 285 1 ≤ 580 ↔ N + 20 ≤ 600 := by
    rw [h1]; exact (nI_leI (a := N) (b := 580) (by omega) (by omega)).trans (by omega)
  by_cases h : N + 20 ≤ 600
  · have m1 := k_putFour (G := kG K) (w := kw K) (gl := kl K) (I := I) (F := I 285) (b := I 286) (N := N) (x := x1) hi h1 (by omega)
    rw [pM_id] at m1
    refine bX10_append_0 (g2 := pM I (upd (I 285) 1 (nI (N + 4))) (k_wd (I 286) N x1)) (g6 := pM I (upd (I 285) 1 (nI (N + 20))) (k_ap (I 286) N x1 x2 x3 x4 x5)) hK hwo hx g00 (fun _ => m1) g00 (fun _ => k_putFour hi (upd_same _ _ _) (by omega)) g00 (fun _ => k_putFour hi (upd_same _ _ _) (by omega)) g00 (fun _ => k_putFour hi (upd_same _ _ _) (by omega)) g00 (fun _ => ?_) g00 (fun _ => qP_i h (by rw [pM_285, upd_same]) rfl) g16 (fun z => absurd (e20.mpr h) z)
    have h5 := k_putFour (G := kG K) (w := kw K) (gl := kl K) (I := I) (F := upd (upd (upd (upd (I 285) 1 (nI (N + 4))) 1 (nI (N + 4 + 4))) 1 (nI (N + 4 + 4 + 4))) 1 (nI (N + 4 + 4 + 4 + 4))) (b := k_wd (k_wd (k_wd (k_wd (I 286) N x1) (N + 4) x2) (N + 4 + 4) x3) (N + 4 + 4 + 4) x4) (N := N + 4 + 4 + 4 + 4) (x := x5) hi (upd_same _ _ _) (by omega)
    rw [upd_upd _ _ (nI (N + 4 + 4 + 4 + 4)) _] at h5
    rw [show pM I (upd (I 285) 1 (nI (N + 20))) (k_ap (I 286) N x1 x2 x3 x4 x5) = pM I (upd (upd (upd (upd (I 285) 1 (nI (N + 4))) 1 (nI (N + 4 + 4))) 1 (nI (N + 4 + 4 + 4))) 1 (nI (N + 4 + 4 + 4 + 4 + 4))) (k_wd (k_wd (k_wd (k_wd (k_wd (I 286) N x1) (N + 4) x2) (N + 4 + 4) x3) (N + 4 + 4 + 4) x4) (N + 4 + 4 + 4 + 4) x5) by
      rw [upd_upd, upd_upd, upd_upd]; rfl]
    exact h5
  · exact bX10_append_0 (g2 := I) (g3 := I) (g4 := I) (g5 := I) (g6 := I) hK hwo hx g00 (fun q => absurd (e20.mp q) h) g00 (fun q => absurd (e20.mp q) h) g00 (fun q => absurd (e20.mp q) h) g00 (fun q => absurd (e20.mp q) h) g00 (fun q => absurd (e20.mp q) h) g00 (fun q => absurd (e20.mp q) h) g16 (fun _ => ⟨h, rfl, rfl⟩)
theorem c_truncate (hx : isT w 10 0) {x : Int32} : CT G w gl (yX10_truncate, cX10_truncate, 2, some .int) 6 (1, 6) [.ref 0, .int x] I (qP (s_in x 0 (I 285 1) = true) x (up I 285 1 x)) (xP (s_in x 0 (I 285 1) = true) sA I) := by
  refine ct_of (by decide) [(0, .ref 0), (1, .int x)] rfl rfl (fun K hG hw hgl hwo hK => ?_)
  subst hG; subst hw; subst hgl
  refine bX10_truncate_0 hK hwo hx g16 (fun d => ⟨by have h := Int32.not_le.mpr d; simp [s_in, h], rfl, rfl⟩) g00 (fun d e => qP_i (by have h := Int32.not_lt.mp d; simp [s_in, h, e]) rfl rfl) g16 (fun d e => ⟨by simp [s_in, e], rfl, rfl⟩)
theorem c_outputByte (hx : isT w 10 0) {x : Int32} {M : Nat} (h1 : I 87 1 = nI M) (hM : M ≤ 131) : CT G w gl (yX10_outputByte, cX10_outputByte, 2, some .int) 6 (1, 6) [.ref 0, .int x] I (qP (s_has x (I 87 1) = true) (I 88 x.toNatClampNeg) I) (xP (s_has x (I 87 1) = true) sI I) := by
  refine ct_of (by decide) [(0, .ref 0), (1, .int x)] rfl rfl (fun K hG hw hgl hwo hK => ?_)
  subst hG; subst hw; subst hgl
  have hh : ¬ x < 0 → x < I 87 1 → s_has x (I 87 1) = true := fun d e => by have h := Int32.not_lt.mp d; simp [s_has, h, e]
  refine bX10_outputByte_0 hK hwo hx g16 (fun d => ⟨by have h := Int32.not_le.mpr d; simp [s_has, h], rfl, rfl⟩) (fun d e => ?_) g00 (fun d e => qP_i (hh d e) rfl rfl) g16 (fun d e => ⟨by simp [s_has, e], rfl, rfl⟩)
  obtain ⟨l, hl, rfl⟩ := has_nat h1 (by omega) (hh d e)
  exact vp_in_nI (by omega) (by omega)
theorem c_nameByte (hx : isT w 10 0) (h7 : I 290 0 = nI c) (hL : nmL (vB I 288) c) {x y : Int32} {p : Prop} (hp : p ↔ s_has x (vB I 288 7) = true ∧ s_has y (vB I 288 (22 + x.toNatClampNeg * 7)) = true) : CT G w gl (yX10_nameByte, cX10_nameByte, 3, some .int) 7 (2, 12) [.ref 0, .int x, .int y] I (qP p (vB I 288 (22 + x.toNatClampNeg * 7 + 1 + y.toNatClampNeg)) I) (xP p sI I) := by
  refine ct_of (by decide) [(0, .ref 0), (1, .int x), (2, .int y)] rfl rfl (fun K hG hw hgl hwo hK => ?_)
  subst hG; subst hw; subst hgl
  have hs := hx.st hwo
  have rc := c_requireClerk (G := kG K) (w := kw K) (gl := kl K) (I := I) (B := vB I 288) (cu := I 288 7) (x := x) hx hs (show vB I 288 7 = nI c from h7)
  rw [sput_self] at rc
  have key : s_has x (vB I 288 7) = true → ∃ l, l < c ∧ x = nI l ∧ x.toNatClampNeg = l ∧ LR 291 l = 292 + l ∧ ∃ L, L ≤ 6 ∧ I 298 l = nI L ∧ vB I 288 (22 + l * 7) = nI L := fun h => by
    obtain ⟨l, hl, rfl⟩ := has_nat (show vB I 288 7 = nI c from h7) (by have := hL.1; omega) h
    have hc : (nI l).toNatClampNeg = l := nI_clamp (by have := hL.1; omega)
    obtain ⟨L, hL6, eL⟩ := hL.2 l hl
    exact ⟨l, hl, rfl, hc, (hs.lr hwo).2.2.2.2.2.2 l (by have := hL.1; omega), L, hL6, (voW (o := 288) (by have := hL.1; omega)).symm.trans eL, eL⟩
  have hh : ∀ l : Nat, l < c → ¬ y < 0 → y < I 298 l → s_has y (vB I 288 (22 + l * 7)) = true := fun l hl d e => by
    have h := Int32.not_lt.mp d
    rw [voW (o := 288) (by have := hL.1; omega)]; simp [s_has, h, e]
  refine bX10_nameByte_0 (x1 := xP (s_has x (vB I 288 7) = true) sI I) (p1 := s_has x (vB I 288 7) = true) hK hwo hx ⟨by decide, by decide⟩ (fun E J z => ⟨fun q => z.1 (hp.mp q).1, z.2⟩) rc ⟨by decide, by decide⟩ (fun h d => ⟨fun q => ?_, rfl, rfl⟩) (fun h d => ?_) (fun h d e => ?_) (fun h d e => ?_) ⟨by decide, by decide⟩ (fun h d e => ?_) ⟨by decide, by decide⟩ (fun h d e => ⟨fun q => ?_, rfl, rfl⟩)
  · have := (hp.mp q).2
    unfold s_has at this
    rw [Bool.and_eq_true] at this
    exact absurd (of_decide_eq_true this.1) (Int32.not_le.mpr d)
  · obtain ⟨l, hl, rfl, -⟩ := key h
    exact vp_in_nI (by have := hL.1; omega) (by omega)
  · obtain ⟨l, hl, rfl, -⟩ := key h
    exact vp_in_nI (by have := hL.1; omega) (by omega)
  · obtain ⟨l, hl, ex, hc, -, L, hL6, e1, e2⟩ := key h
    rw [hc, e1] at e
    obtain ⟨k, hk, rfl⟩ := has_nat (m := nI L) rfl (by omega) (show s_has y (nI L) = true by have h := Int32.not_lt.mp d; simp [s_has, h, e])
    exact vp_in_nI (by omega) (by omega)
  · obtain ⟨l, hl, ex, hc, hr, L, hL6, e1, e2⟩ := key h
    rw [hc] at e hp ⊢
    have hy := hh l hl d e
    rw [e1] at e
    obtain ⟨k, hk, ey⟩ := has_nat (m := nI L) rfl (by omega) (show s_has y (nI L) = true by have h := Int32.not_lt.mp d; simp [s_has, h, e])
    refine qP_i (hp.mpr ⟨h, hy⟩) ?_ rfl
    have hcy : y.toNatClampNeg = k := by rw [ey]; exact nI_clamp (by omega)
    rw [hr, hcy]
    exact (voN (o := 288) (by have := hL.1; omega) (by omega)).symm
  · obtain ⟨l, hl, ex, hc, -⟩ := key h
    have := (hp.mp q).2
    rw [hc, voW (o := 288) (by have := hL.1; omega)] at this
    unfold s_has at this
    rw [Bool.and_eq_true] at this
    rw [hc] at e
    exact absurd (of_decide_eq_true this.2) e
theorem c_busiestClerk (hx : isT w 10 0) (h7 : vB I 288 7 = nI c) (h8 : vB I 288 8 = nI n) (hn : n ≤ 12) (hc6 : c ≤ 6) (hc2 : 2 ≤ c) : CT G w gl (yX10_busiestClerk, cX10_busiestClerk, 3, some .int) 1 (0, 0) [.ref 0] I (qE (nI (s_busy (vB I 288) n c)) I) nX := by
  refine ct_of (by decide) [(0, .ref 0)] rfl rfl (fun K hG hw hgl hwo hK => ?_)
  subst hG; subst hw; subst hgl
  have rm : ∀ y : Int32, CT (kG K) (kw K) (kl K) (yX9_remainingOf, cX9_remainingOf, 4, some .int) 0 (0, 0) [.ref 288, .int y] I (qE (s_work (vB I 288) y n) I) nX := fun y => by
    have h := k_remainingOf (G := kG K) (w := kw K) (gl := kl K) (I := I) (s := 288) (B := vB I 288) (cu := I 288 7) (x := y) (hx.st hwo) h8 hn
    rw [sput_self] at h; exact h
  have h70 : I 290 0 = nI c := h7
  refine bX10_busiestClerk_0 hK hwo hx ?_
  have key : ∀ k i, i + k = c → 1 ≤ i → ZZ K (0, 0) 4 [(0, .ref 0), (1, .int (nI (s_busy (vB I 288) n i))), (2, .int (nI i))] [] I := by
    intro k
    induction k with
    | zero =>
      intro i hi h1
      refine bX10_busiestClerk_4 (f3 := 0) (g3 := I) (f4 := 0) (g4 := I) hK hwo hx (fun _ => qE_i (by rw [show i = c by omega]) rfl) ?_ ?_ ?_ ?_ <;> (intro q; exact absurd (by rw [h70]; exact nI_le (by omega) (by omega)) q)
    | succ k ih =>
      intro i hi h1
      have hlt : ¬ I 290 0 ≤ nI i := by rw [h70]; exact nI_ge (by omega) (by omega)
      have hnx := ih (i + 1) (by omega) (by omega)
      refine bX10_busiestClerk_4 hK hwo hx (fun q => absurd q hlt) (fun _ => rm _) (fun _ => rm _) (fun _ d => ?_) (fun _ d => ?_) <;> rw [nI_1]
      · unfold s_busy at hnx
        rw [if_neg (Int32.not_lt.mpr d)] at hnx; exact hnx
      · unfold s_busy at hnx
        rw [if_pos (Int32.not_le.mp d)] at hnx; exact hnx
  have h0 := key (c - 1) 1 (by omega) (by omega)
  have e1 : s_busy (vB I 288) n 1 = 0 := by unfold s_busy; split <;> rfl
  rw [e1] at h0
  exact h0
end CIO
section CIP
variable {G : zG} {w : Nat × Nat} {gl : Launch} {I : zM} {n c t a m : Nat}
/-- what an undo needs of the state that it brings back -/
theorem c_undo (hx : isT w 10 0) (ha : I 89 2 = nI a) (ha6 : a < 6) (hm : I 89 1 = nI m) (hm6 : m ≤ 6) (h3 : m ≠ 0 → I (91 + 24 * a) 3 = nI n) (hn : n ≤ 12) (hc : m ≠ 0 → I (91 + 24 * a + 2) 0 = nI c) (hc6 : c ≤ 6) (hb : m ≠ 0 → nmB I (91 + 24 * a)) : CT G w gl (yX10_undo, cX10_undo, 1, some .int) 6 (1, 6) [.ref 0] I (qP (m ≠ 0) (nI (m - 1)) (kback I 288 n c a)) (xP (m ≠ 0) sS I) := by
  refine ct_of (by decide) [(0, .ref 0)] rfl rfl (fun K hG hw hgl hwo hK => ?_)
  subst hG; subst hw; subst hgl
  have e0 : ¬ I 89 1 = 0 → m ≠ 0 := fun q z => q (by rw [hm, z]; rfl)
  refine bX10_undo_0 (g2 := kback I 288 n c a) hK hwo hx g00 (fun q => k_takeBack (hx.hi hwo) (hx.st hwo) ha ha6 (h3 (e0 q)) hn (hc (e0 q)) hc6 (hb (e0 q)) q) g00 (fun q => ?_) g16 (fun q => ⟨fun z => z ((nI_eq (a := m) (b := 0) (by omega) (by omega)).mp (hm.symm.trans q)), rfl, rfl⟩)
  have h0 := e0 q
  refine qP_i h0 ?_ rfl
  obtain ⟨k, rfl⟩ : ∃ k, m = k + 1 := ⟨m - 1, by omega⟩
  have e1 : kback I 288 n c a 89 1 = I 89 1 - 1 := by unfold kback; simp [up, ups, upd]
  rw [e1, hm, nI_pred]; rfl
theorem zLR235 : ∀ j, j < 2 → LR 235 j = 237 + 24 * j ∧ LT (237 + 24 * j) = 9 := by decide +kernel
theorem isT.sav (hw : wOK w) (h : isT w 10 0) {j : Nat} (hj : j < 2) : isT w 9 (237 + 24 * j) := by
  have h1 : isT w 32 235 := h.f (k := 6) (d := 32) hw rfl rfl rfl (by decide)
  have h2 := h1.a (i := nI j) (d := 9) hw (show vp_in (nI j) 2 from vp_in_nI hj (by omega)) rfl (fun _ => rfl) (by decide)
  rw [nI_clamp (by omega), (zLR235 j hj).1] at h2
  exact h2
def ksave (I : zM) (n c j : Nat) : zM := up (cpS I (237 + 24 * j) 288 n c) 236 j (vp_nar .boolean 1)
theorem c_save (hx : isT w 10 0) (h3 : I 288 3 = nI n) (hn : n ≤ 12) (hc : I 290 0 = nI c) (hc6 : c ≤ 6) (hb : nmB I 288) {x : Int32} : CT G w gl (yX10_save, cX10_save, 2, some .int) 7 (1, 6) [.ref 0, .int x] I (qP (s_has x 2 = true) (I 288 4) (ksave I n c x.toNatClampNeg)) (xP (s_has x 2 = true) sI I) := by
  refine ct_of (by decide) [(0, .ref 0), (1, .int x)] rfl rfl (fun K hG hw hgl hwo hK => ?_)
  subst hG; subst hw; subst hgl
  have key : s_has x 2 = true → ∃ j, j < 2 ∧ x = nI j ∧ x.toNatClampNeg = j := fun h => by
    obtain ⟨j, hj, rfl⟩ := has_nat (m := 2) (n := 2) rfl (by omega) h
    exact ⟨j, hj, rfl, nI_clamp (by omega)⟩
  refine bX10_save_0 (x1 := xP (s_has x 2 = true) sI I) (p1 := s_has x 2 = true) (g3 := cpS I (237 + 24 * x.toNatClampNeg) 288 n c) hK hwo hx g16 (fun _ _ z => z) c_requireSlot (fun h => ?_) g66 (fun h => ?_) (fun h => ?_) g66 (fun h => ?_)
  · obtain ⟨j, hj, rfl, -⟩ := key h; exact vp_in_nI hj (by omega)
  · obtain ⟨j, hj, -, hc2⟩ := key h
    rw [hc2, (zLR235 j hj).1]
    exact k_copyFrom (hx.sav hwo hj) (hx.st hwo) (by omega) h3 hn hc hc6 hb
  · obtain ⟨j, hj, rfl, -⟩ := key h; exact vp_in_nI hj (by omega)
  · obtain ⟨j, hj, -, hc2⟩ := key h
    rw [hc2]
    refine ⟨h, qE_i ?_ rfl⟩
    rw [up_def, ups_ne _ _ (by decide), cps_far (by omega)]
def krest (I : zM) (n c j : Nat) : zM := up (cpS I 288 (237 + 24 * j) n c) 89 1 0
theorem c_restore (hx : isT w 10 0) {x : Int32} {p : Prop} (hp : p ↔ s_has x 2 = true ∧ ¬ I 236 x.toNatClampNeg = 0) (h3 : p → I (237 + 24 * x.toNatClampNeg) 3 = nI n) (hn : n ≤ 12) (hc : p → I (237 + 24 * x.toNatClampNeg + 2) 0 = nI c) (hc6 : c ≤ 6) (hb : p → nmB I (237 + 24 * x.toNatClampNeg)) : CT G w gl (yX10_restore, cX10_restore, 2, some .int) 7 (2, 12) [.ref 0, .int x] I (qP p (I (237 + 24 * x.toNatClampNeg) 4) (krest I n c x.toNatClampNeg)) (fun E J => ¬ p ∧ E = (if s_has x 2 = true then sS else sI) ∧ J = I) := by
  refine ct_of (by decide) [(0, .ref 0), (1, .int x)] rfl rfl (fun K hG hw hgl hwo hK => ?_)
  subst hG; subst hw; subst hgl
  have key : s_has x 2 = true → ∃ j, j < 2 ∧ x = nI j ∧ x.toNatClampNeg = j := fun h => by
    obtain ⟨j, hj, rfl⟩ := has_nat (m := 2) (n := 2) rfl (by omega) h
    exact ⟨j, hj, rfl, nI_clamp (by omega)⟩
  refine bX10_restore_0 (x1 := xP (s_has x 2 = true) sI I) (p1 := s_has x 2 = true) (g5 := cpS I 288 (237 + 24 * x.toNatClampNeg) n c) hK hwo hx ⟨by decide, by decide⟩ (fun E J z => ⟨fun q => z.1 (hp.mp q).1, by rw [if_neg z.1]; exact z.2.1, z.2.2⟩) c_requireSlot (fun h => ?_) (fun h _ => ?_) ⟨by decide, by decide⟩ (fun h q => ?_) ⟨by decide, by decide⟩ (fun h q => ?_) ⟨by decide, by decide⟩ (fun h q => ⟨fun z => (hp.mp z).2 q, by rw [if_pos h], rfl⟩)
  · obtain ⟨j, hj, rfl, -⟩ := key h; exact vp_in_nI hj (by omega)
  · obtain ⟨j, hj, rfl, -⟩ := key h; exact vp_in_nI hj (by omega)
  · have hp1 := hp.mpr ⟨h, q⟩
    have a1 := h3 hp1
    have a2 := hc hp1
    have a3 := hb hp1
    obtain ⟨j, hj, -, hc2⟩ := key h
    rw [hc2] at a1 a2 a3 ⊢
    rw [(zLR235 j hj).1]
    exact k_copyFrom (hx.st hwo) (hx.sav hwo hj) (by omega) a1 hn a2 hc6 a3
  · have hp1 := hp.mpr ⟨h, q⟩
    refine qP_i hp1 ?_ rfl
    rw [up_def, ups_ne _ _ (by decide)]
    unfold cpS
    rw [sp4]
    rfl
/-- the output as a list of bytes, in the class -/
def kO (I : zM) (F : zBk) (o : List Int32) : zM := ups (ups I 88 (o_arr (I 88) o)) 87 (upd F 1 (nI o.length))
theorem kO_87 {F : zBk} {o : List Int32} : kO I F o 87 = upd F 1 (nI o.length) := ups_same _ _ _
theorem kO_88 {F : zBk} {o : List Int32} : kO I F o 88 = o_arr (I 88) o := by unfold kO; rw [ups_ne _ _ (by decide), ups_same]
theorem kO_ot {F : zBk} {o : List Int32} {r : Nat} (h : r ≠ 87) (h2 : r ≠ 88) : kO I F o r = I r := by unfold kO; rw [ups_ne _ _ h, ups_ne _ _ h2]
theorem k_oput (hm : isT w 6 87) {F : zBk} {o : List Int32} {x : Int32} (ho : o.length < 131) (hx : x.toInt8.toInt32 = x) : CT G w gl (yX6_put, cX6_put, 2, none) 0 (0, 0) [.ref 87, .int x] (kO I F o) (qV (fun J => J = kO I F (o ++ [x]))) nX := by
  refine ct_of (by decide) [(0, .ref 87), (1, .int x)] rfl rfl (fun K hG hw hgl hwo hK => ?_)
  subst hG; subst hw; subst hgl
  have h1 : kO I F o 87 1 = nI o.length := by rw [kO_87, upd_same]
  have hlt : ¬ (131 : Int32) ≤ kO I F o 87 1 := by rw [h1]; exact fun q => by have := (nI_leI (a := 131) (b := o.length) (by omega) (by omega)).mp q; omega
  refine bX6_put_0 hK hwo hm (fun q => absurd q hlt) (fun _ => by rw [h1]; exact vp_in_nI ho (by omega)) (fun _ => qV_i ?_)
  have e : up (kO I F o) 88 o.length x = ups (ups I 88 (o_arr (I 88) (o ++ [x]))) 87 (upd F 1 (nI o.length)) := by
    rw [up_def, kO_88, o_put]; unfold kO
    rw [ups_sw (show 87 ≠ 88 by decide), ups_ups]
  rw [i8_i8, hx, h1, nI_clamp (by omega), e, up_def, ups_same, upd_same, nI_1, ups_ups, upd_upd]
  unfold kO
  rw [List.length_append]
  rfl
end CIP
