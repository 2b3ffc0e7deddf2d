/-! THE OFFICE: the buffer, names, undo, saved states -/
def kb (x s : Int32) : Int32 := (x.toUInt32 >>> (s.toUInt32 &&& Int32.toUInt32 31)).toInt32.toInt8.toInt32
def k_wd (b : zBk) (N : Nat) (x : Int32) : zBk := upd (upd (upd (upd b N (kb x 24)) (N + 1) (kb x 16)) (N + 2) (kb x 8)) (N + 3) x.toInt8.toInt32
def k_ap (b : zBk) (N : Nat) (x1 x2 x3 x4 x5 : Int32) : zBk := k_wd (k_wd (k_wd (k_wd (k_wd b N x1) (N + 4) x2) (N + 8) x3) (N + 12) x4) (N + 16) x5
/-- the memory with the input F and its bytes b -/
def pM (I : zM) (F b : zBk) : zM := ups (ups I 286 b) 285 F
theorem pM_285 {I : zM} {F b : zBk} : pM I F b 285 = F := ups_same _ _ _
theorem pM_286 {I : zM} {F b : zBk} : pM I F b 286 = b := by unfold pM; rw [ups_ne _ _ (by decide), ups_same]
theorem pM_ot {I : zM} {F b : zBk} {q : Nat} (h : q ≠ 285) (h2 : q ≠ 286) : pM I F b q = I q := by unfold pM; rw [ups_ne _ _ h, ups_ne _ _ h2]
theorem pM_id {I : zM} : pM I (I 285) (I 286) = I := by unfold pM; rw [ups_id, ups_id]
theorem i8_i8 (x : Int32) : x.toInt8.toInt32.toInt8.toInt32 = x.toInt8.toInt32 := by
  rw [Int8.toInt8_toInt32]
theorem pM_put {I : zM} {F b : zBk} {N : Nat} {v : Int32} (h1 : F 1 = nI N) (hN : N < 600) : up (up (pM I F b) 286 ((pM I F b) 285 1).toNatClampNeg v) 285 1 ((up (pM I F b) 286 ((pM I F b) 285 1).toNatClampNeg v) 285 1 + 1) = pM I (upd F 1 (nI (N + 1))) (upd b N v) := by
  have e : (up (pM I F b) 286 N v) = pM I F (upd b N v) := by
    rw [up_def, pM_286]; unfold pM
    rw [ups_sw (show 285 ≠ 286 by decide), ups_ups]
  rw [pM_285, h1, nI_clamp (by omega), e, up_def, pM_285, h1, nI_1]
  unfold pM
  rw [ups_ups]
section CIO
variable {G : zG} {w : Nat × Nat} {gl : Launch} {I : zM} {F b : zBk} {N n c t a m : Nat}
theorem k_putByte (hm : isT w 4 285) {x : Int32} (h1 : F 1 = nI N) (hN : N < 600) : CT G w gl (yX4_putByte, cX4_putByte, 2, none) 0 (0, 0) [.ref 285, .int x] (pM I F b) (qV (fun J => J = pM I (upd F 1 (nI (N + 1))) (upd b N x.toInt8.toInt32))) nX := by
  refine ct_of (by decide) [(0, .ref 285), (1, .int x)] rfl rfl (fun K hG hw hgl hwo hK => ?_)
  subst hG; subst hw; subst hgl
  have hlt : ¬ (600 : Int32) ≤ pM I F b 285 1 := by rw [pM_285, h1]; exact fun q => by have := (nI_leI (a := 600) (b := N) (by omega) (by omega)).mp q; omega
  refine bX4_putByte_0 hK hwo hm (fun q => absurd q hlt) (fun _ => by rw [pM_285, h1]; exact vp_in_nI hN (by omega)) (fun _ => qV_i ?_)
  rw [i8_i8]
  exact pM_put h1 hN
theorem k_putFour (hm : isT w 4 285) {x : Int32} (h1 : F 1 = nI N) (hN : N + 4 ≤ 600) : CT G w gl (yX4_putFour, cX4_putFour, 2, none) 1 (0, 0) [.ref 285, .int x] (pM I F b) (qV (fun J => J = pM I (upd F 1 (nI (N + 4))) (k_wd b N x))) nX := by
  refine ct_of (by decide) [(0, .ref 285), (1, .int x)] rfl rfl (fun K hG hw hgl hwo hK => ?_)
  subst hG; subst hw; subst hgl
  refine bX4_putFour_0 hK hwo hm (k_putByte hm h1 (by omega)) (k_putByte hm (upd_same _ _ _) (by omega)) (k_putByte hm (upd_same _ _ _) (by omega)) (k_putByte hm (upd_same _ _ _) (by omega)) (qV_i ?_)
  rw [upd_upd, upd_upd, upd_upd]
  rfl
theorem isT.inp (hw : wOK w) (h : isT w 10 0) : isT w 4 285 := h.f (k := 2) (d := 4) hw rfl rfl rfl (by decide)
theorem c_append (hx : isT w 10 0) {x1 x2 x3 x4 x5 : Int32} (h1 : I 285 1 = nI N) (hN : N ≤ 600) : CT G w gl (yX10_append, cX10_append, 6, some .int) 6 (1, 6) [.ref 0, .int x1, .int x2, .int x3, .int x4, .int x5] I (qP (N + 20 ≤ 600) (nI (N + 20)) (pM I (upd (I 285) 1 (nI (N + 20))) (k_ap (I 286) N x1 x2 x3 x4 x5))) (xP (N + 20 ≤ 600) sS I) := by
  refine ct_of (by decide) [(0, .ref 0), (1, .int x1), (2, .int x2), (3, .int x3), (4, .int x4), (5, .int x5)] rfl rfl (fun K hG hw hgl hwo hK => ?_)
  subst hG; subst hw; subst hgl
  have hi := hx.inp hwo
  have e20 : I 285 1 ≤ 580 ↔ N + 20 ≤ 600 := by
    rw [h1]; exact (nI_leI (a := N) (b := 580) (by omega) (by omega)).trans (by omega)
  by_cases h : N + 20 ≤ 600
  · have m1 := k_putFour (G := kG K) (w := kw K) (gl := kl K) (I := I) (F := I 285) (b := I 286) (N := N) (x := x1) hi h1 (by omega)
    rw [pM_id] at m1
    refine bX10_append_0 (g2 := pM I (upd (I 285) 1 (nI (N + 4))) (k_wd (I 286) N x1)) (g6 := pM I (upd (I 285) 1 (nI (N + 20))) (k_ap (I 286) N x1 x2 x3 x4 x5)) hK hwo hx g00 (fun _ => m1) g00 (fun _ => k_putFour hi (upd_same _ _ _) (by omega)) g00 (fun _ => k_putFour hi (upd_same _ _ _) (by omega)) g00 (fun _ => k_putFour hi (upd_same _ _ _) (by omega)) g00 (fun _ => ?_) g00 (fun _ => qP_i h (by rw [pM_285, upd_same]) rfl) g16 (fun z => absurd (e20.mpr h) z)
    have h5 := k_putFour (G := kG K) (w := kw K) (gl := kl K) (I := I) (F := upd (upd (upd (upd (I 285) 1 (nI (N + 4))) 1 (nI (N + 4 + 4))) 1 (nI (N + 4 + 4 + 4))) 1 (nI (N + 4 + 4 + 4 + 4))) (b := k_wd (k_wd (k_wd (k_wd (I 286) N x1) (N + 4) x2) (N + 4 + 4) x3) (N + 4 + 4 + 4) x4) (N := N + 4 + 4 + 4 + 4) (x := x5) hi (upd_same _ _ _) (by omega)
    rw [upd_upd _ _ (nI (N + 4 + 4 + 4 + 4)) _] at h5
    rw [show pM I (upd (I 285) 1 (nI (N + 20))) (k_ap (I 286) N x1 x2 x3 x4 x5) = pM I (upd (upd (upd (upd (I 285) 1 (nI (N + 4))) 1 (nI (N + 4 + 4))) 1 (nI (N + 4 + 4 + 4))) 1 (nI (N + 4 + 4 + 4 + 4 + 4))) (k_wd (k_wd (k_wd (k_wd (k_wd (I 286) N x1) (N + 4) x2) (N + 4 + 4) x3) (N + 4 + 4 + 4) x4) (N + 4 + 4 + 4 + 4) x5) by
      rw [upd_upd, upd_upd, upd_upd]; rfl]
    exact h5
  · exact bX10_append_0 (g2 := I) (g3 := I) (g4 := I) (g5 := I) (g6 := I) hK hwo hx g00 (fun q => absurd (e20.mp q) h) g00 (fun q => absurd (e20.mp q) h) g00 (fun q => absurd (e20.mp q) h) g00 (fun q => absurd (e20.mp q) h) g00 (fun q => absurd (e20.mp q) h) g00 (fun q => absurd (e20.mp q) h) g16 (fun _ => ⟨h, rfl, rfl⟩)
theorem c_truncate (hx : isT w 10 0) {x : Int32} : CT G w gl (yX10_truncate, cX10_truncate, 2, some .int) 6 (1, 6) [.ref 0, .int x] I (qP (s_in x 0 (I 285 1) = true) x (up I 285 1 x)) (xP (s_in x 0 (I 285 1) = true) sA I) := by
  refine ct_of (by decide) [(0, .ref 0), (1, .int x)] rfl rfl (fun K hG hw hgl hwo hK => ?_)
  subst hG; subst hw; subst hgl
  refine bX10_truncate_0 hK hwo hx g16 (fun d => ⟨by have h := Int32.not_le.mpr d; simp [s_in, h], rfl, rfl⟩) g00 (fun d e => qP_i (by have h := Int32.not_lt.mp d; simp [s_in, h, e]) rfl rfl) g16 (fun d e => ⟨by simp [s_in, e], rfl, rfl⟩)
end CIO
section CIP
variable {G : zG} {w : Nat × Nat} {gl : Launch} {I : zM} {n c t a m : Nat}
theorem zLR235 : ∀ j, j < 2 → LR 235 j = 237 + 24 * j ∧ LT (237 + 24 * j) = 9 := by decide +kernel
theorem isT.sav (hw : wOK w) (h : isT w 10 0) {j : Nat} (hj : j < 2) : isT w 9 (237 + 24 * j) := by
  have h1 : isT w 32 235 := h.f (k := 6) (d := 32) hw rfl rfl rfl (by decide)
  have h2 := h1.a (i := nI j) (d := 9) hw (show vp_in (nI j) 2 from vp_in_nI hj (by omega)) rfl (fun _ => rfl) (by decide)
  rw [nI_clamp (by omega), (zLR235 j hj).1] at h2
  exact h2
def ksave (I : zM) (n c j : Nat) : zM := up (cpS I (237 + 24 * j) 288 n c) 236 j (vp_nar .boolean 1)
def krest (I : zM) (n c j : Nat) : zM := up (cpS I 288 (237 + 24 * j) n c) 89 1 0
/-- the output as a list of bytes, in the class -/
def kO (I : zM) (F : zBk) (o : List Int32) : zM := ups (ups I 88 (o_arr (I 88) o)) 87 (upd F 1 (nI o.length))
theorem kO_87 {F : zBk} {o : List Int32} : kO I F o 87 = upd F 1 (nI o.length) := ups_same _ _ _
theorem kO_88 {F : zBk} {o : List Int32} : kO I F o 88 = o_arr (I 88) o := by unfold kO; rw [ups_ne _ _ (by decide), ups_same]
theorem kO_ot {F : zBk} {o : List Int32} {r : Nat} (h : r ≠ 87) (h2 : r ≠ 88) : kO I F o r = I r := by unfold kO; rw [ups_ne _ _ h, ups_ne _ _ h2]
end CIP
