/-! THE LAW'S OFFICE: what it reads, and whether it agrees -/
/-- the law's block behind the numbers that it reads -/
def rd0 (B L : zBk) : zBk := upd (upd (upd (upd (upd (upd (upd (upd (upd (upd L 8 (B 8)) 9 (B 9)) 10 (B 10)) 13 (B 13)) 14 (B 14)) 15 (B 15)) 16 (B 16)) 17 (B 17)) 18 (B 18)) 19 (B 19)
def rdL (B L : zBk) : Nat → zBk
  | 0 => rd0 B L
  | k + 1 => s_set (s_set (rdL B L k) k 5 (s_of B k 5)) k 6 (s_of B k 6)
theorem rd0_at {B L : zBk} {k : Nat} (h : 8 ≤ k) (h2 : k < 20) : rd0 B L k = if k = 11 ∨ k = 12 then L k else B k := by
  unfold rd0
  by_cases h11 : k = 11
  · subst h11; simp [upd]
  by_cases h12 : k = 12
  · subst h12; simp [upd]
  rw [if_neg (by omega)]
  unfold upd
  (repeat' split) <;> first | (subst_vars; rfl) | (exfalso; omega)
theorem rd0_of {B L : zBk} {l f : Nat} : s_of (rd0 B L) l f = s_of L l f := by
  unfold rd0
  rw [of_upd (by omega), of_upd (by omega), of_upd (by omega), of_upd (by omega), of_upd (by omega), of_upd (by omega), of_upd (by omega), of_upd (by omega), of_upd (by omega), of_upd (by omega)]
theorem rdL_lo {B L : zBk} {k : Nat} (h : k < 64) : ∀ j, rdL B L j k = rd0 B L k
  | 0 => rfl
  | j + 1 => by
    unfold rdL
    rw [set_lo h, set_lo h]
    exact rdL_lo h j
theorem rdL_of {B L : zBk} {l f : Nat} (hf : f < 8) : ∀ j, s_of (rdL B L j) l f = if l < j ∧ (f = 5 ∨ f = 6) then s_of B l f else s_of L l f
  | 0 => by rw [if_neg (by omega)]; exact rd0_of
  | j + 1 => by
    unfold rdL
    rw [of_set hf (by omega), of_set hf (by omega), rdL_of hf j]
    by_cases h6 : l = j ∧ f = 6
    · rw [if_pos h6, if_pos (by omega), h6.1, h6.2]
    rw [if_neg h6]
    by_cases h5 : l = j ∧ f = 5
    · rw [if_pos h5, if_pos (by omega), h5.1, h5.2]
    rw [if_neg h5]
    by_cases h : l < j ∧ (f = 5 ∨ f = 6)
    · rw [if_pos h, if_pos (by omega)]
    · rw [if_neg h, if_neg (by omega)]
/-- behind a change and a reading the law holds the changed block -/
theorem read_eq {I : zM} {B L D : zBk} {n : Nat} (hE : s_eq n D B) (h11 : D 11 = L 11) (h12 : D 12 = L 12) (h7 : ∀ l, l < 12 → s_of D l 7 = s_of L l 7) (hh : ∀ l, n ≤ l → l < 12 → s_of D l 5 = s_of L l 5 ∧ s_of D l 6 = s_of L l 6) : oput I (rdL B L n) = oput I D := by
  refine oput_cg (fun k h1 h2 => ?_) (fun l hl f h1 h2 => ?_)
  · rw [rdL_lo (by omega), rd0_at h1 h2]
    by_cases e1 : k = 11
    · rw [if_pos (Or.inl e1), e1, h11]
    by_cases e2 : k = 12
    · rw [if_pos (Or.inr e2), e2, h12]
    rw [if_neg (by omega)]
    exact hE.1 k (by omega)
  · rw [rdL_of (by omega)]
    by_cases h : l < n ∧ (f = 5 ∨ f = 6)
    · rw [if_pos h]
      exact hE.2 l h.1 f (by omega)
    · rw [if_neg h]
      by_cases e7 : f = 7
      · rw [e7, h7 l hl]
      · have hq := hh l (by omega) hl
        by_cases e5 : f = 5
        · rw [e5]; exact hq.1.symm
        · have e6 : f = 6 := by omega
          rw [e6]; exact hq.2.symm
section LAWE
variable {G : zG} {w : Nat × Nat} {gl : Launch} {I : zM} {L : zBk} {n c t : Nat}
theorem e_read (hx : isT w 10 0) (hs : isT w 9 288) (ho : isT w 11 312) (h8 : vB I 288 8 = nI n) (hn : n ≤ 12) : CT G w gl (yX11_read, cX11_read, 2, none) 8 (0, 0) [.ref 312] (oput I L) (qV (fun J => J = oput I (rdL (vB I 288) L n))) nX := by
  refine ct_of (by decide) [(0, .ref 312)] rfl rfl (fun K hG hw hgl hwo hK => ?_)
  subst hG; subst hw; subst hgl
  have key : ∀ d i, i + d = n → ZZ K (0, 0) 112 [(0, .ref 312), (1, .int (nI i))] [] (oput I (rdL (vB I 288) L i)) := by
    intro d
    induction d with
    | zero =>
      intro i hi
      have h : oput I (rdL (vB I 288) L i) 312 5 ≤ nI i := by
        rw [op5, rdL_lo (by omega), rd0_at (by omega) (by omega), if_neg (by omega), h8]
        exact nI_le (by omega) (by omega)
      refine bX11_read_112 (f3 := 0) (g3 := I) (f5 := 0) (g5 := I) hK hwo ho (fun _ => ⟨rfl, by rw [show i = n by omega]⟩) (fun z => absurd h z) (fun z => absurd h z) (fun z => absurd h z) (fun z => absurd h z) (fun z => absurd h z)
    | succ d ih =>
      intro i hi
      have h : ¬ oput I (rdL (vB I 288) L i) 312 5 ≤ nI i := by
        rw [op5, rdL_lo (by omega), rd0_at (by omega) (by omega), if_neg (by omega), h8]
        exact nI_ge (by omega) (by omega)
      have i12 : vp_in (nI i) 12 := vp_in_nI (by omega) (by omega)
      have ci : (nI i).toNatClampNeg = i := nI_clamp (by omega)
      refine bX11_read_112 (f3 := s_of (vB I 288) i 5) (g3 := oput I (rdL (vB I 288) L i)) (f5 := s_of (vB I 288) i 6) (g5 := oput I (s_set (rdL (vB I 288) L i) i 5 (s_of (vB I 288) i 5))) hK hwo ho (fun z => absurd z h) (fun _ => u_remaining hx hs h8 hn (by omega)) (fun _ => i12) (fun _ => ?_) (fun _ => i12) (fun _ => ?_)
      · rw [ci, ouR (by omega)]
        exact u_finishMinute hx hs h8 hn (by omega)
      · rw [ci, ouN (by omega), nI_1]
        exact ih (i + 1) (by omega)
  have z := key n 0 (by omega)
  have q : ∀ (D : zBk) (k : Nat), (oput I D) 288 k = I 288 k := fun D k => by rw [opO (by omega)]
  have ee : ∀ (D : zBk) (k : Nat) (v : Int32) (y : MethodName) (cc : ByteArray), CT (kG K) (kw K) (kl K) (y, cc, 1, some .int) 0 (0, 0) [.ref 0] (oput I D) (qE (oput I D 288 k) (oput I D)) nX → I 288 k = v → CT (kG K) (kw K) (kl K) (y, cc, 1, some .int) 0 (0, 0) [.ref 0] (oput I D) (qE v (oput I D)) nX := fun D k v y cc h e => by
    rw [q, e] at h; exact h
  refine bX11_read_0 (f1 := vB I 288 8) (g1 := oput I L) (f2 := vB I 288 9) (g2 := oput I (upd L 8 (vB I 288 8))) (f3 := vB I 288 10) (g3 := oput I (upd (upd L 8 (vB I 288 8)) 9 (vB I 288 9)))
    (f4 := vB I 288 13) (g4 := oput I (upd (upd (upd L 8 (vB I 288 8)) 9 (vB I 288 9)) 10 (vB I 288 10))) (f5 := vB I 288 14) (g5 := oput I (upd (upd (upd (upd L 8 (vB I 288 8)) 9 (vB I 288 9)) 10 (vB I 288 10)) 13 (vB I 288 13)))
    (f6 := vB I 288 15) (g6 := oput I (upd (upd (upd (upd (upd L 8 (vB I 288 8)) 9 (vB I 288 9)) 10 (vB I 288 10)) 13 (vB I 288 13)) 14 (vB I 288 14)))
    (f7 := vB I 288 16) (g7 := oput I (upd (upd (upd (upd (upd (upd L 8 (vB I 288 8)) 9 (vB I 288 9)) 10 (vB I 288 10)) 13 (vB I 288 13)) 14 (vB I 288 14)) 15 (vB I 288 15)))
    (f8 := vB I 288 17) (g8 := oput I (upd (upd (upd (upd (upd (upd (upd L 8 (vB I 288 8)) 9 (vB I 288 9)) 10 (vB I 288 10)) 13 (vB I 288 13)) 14 (vB I 288 14)) 15 (vB I 288 15)) 16 (vB I 288 16)))
    (f9 := vB I 288 18) (g9 := oput I (upd (upd (upd (upd (upd (upd (upd (upd L 8 (vB I 288 8)) 9 (vB I 288 9)) 10 (vB I 288 10)) 13 (vB I 288 13)) 14 (vB I 288 14)) 15 (vB I 288 15)) 16 (vB I 288 16)) 17 (vB I 288 17)))
    (f10 := vB I 288 19) (g10 := oput I (upd (upd (upd (upd (upd (upd (upd (upd (upd L 8 (vB I 288 8)) 9 (vB I 288 9)) 10 (vB I 288 10)) 13 (vB I 288 13)) 14 (vB I 288 14)) 15 (vB I 288 15)) 16 (vB I 288 16)) 17 (vB I 288 17)) 18 (vB I 288 18)))
    hK hwo ho (ee L 3 _ _ _ (c_letterCount hx) rfl) ?_ ?_ ?_ ?_ ?_ ?_ ?_ ?_ ?_ ?_
  · rw [ou5]; exact ee _ 4 _ _ _ (c_minute hx) rfl
  · rw [ou6]; exact ee _ 6 _ _ _ (c_holder hx) rfl
  · rw [ou7]; exact ee _ 10 _ _ _ (c_ink hx) rfl
  · rw [ou10]; exact ee _ 11 _ _ _ (c_refillLeft hx) rfl
  · rw [ou11]; exact ee _ 12 _ _ _ (c_handOverLeft hx) rfl
  · rw [ou12]; exact ee _ 13 _ _ _ (c_blots hx) rfl
  · rw [ou13]; exact ee _ 14 _ _ _ (c_handOvers hx) rfl
  · rw [ou14]; exact ee _ 15 _ _ _ (c_writtenMinutes hx) rfl
  · rw [ou15]; exact ee _ 16 _ _ _ (c_idleMinutes hx) rfl
  · rw [ou16]; exact z
theorem op_self (hcu : I 288 7 = s_cur (vB I 288)) (hf : s_wf (vB I 288) n c t) : sput (oput I L) 288 (vB (oput I L) 288) (s_cur (vB (oput I L) 288)) = oput I L ∧ s_wf (vB (oput I L) 288) n c t ∧ s_eq n (vB I 288) (vB (oput I L) 288) := by
  have hn := hf.2.1
  have e : s_eq n (vB I 288) (vB (oput I L) 288) := ⟨fun j hj => vop_lo (by omega), fun l hl f hf => vop_of (by omega) hf⟩
  have e2 : s_cur (vB (oput I L) 288) = (oput I L) 288 7 := by rw [opO (by omega), hcu]; exact eq_cur e hf
  exact ⟨by rw [e2]; exact sput_self _ _, eq_wf e hf, e⟩
theorem u_selectedBy (hx : isT w 10 0) (hs : isT w 9 288) (hcu : I 288 7 = s_cur (vB I 288)) (hf : s_wf (vB I 288) n c t) {p : Nat} (hp : p < 5) : CT G w gl (yX10_selectedBy, cX10_selectedBy, 2, some .int) 7 (0, 0) [.ref 0, .int (nI p)] (oput I L) (qE (s_select (vB I 288) n p) (oput I L)) nX := by
  obtain ⟨e1, e2, e3⟩ := op_self (L := L) hcu hf
  have h := d_selectedBy (G := G) (w := w) (gl := gl) (I := oput I L) hx hs e2 hp
  rw [e1, eq_select e3 hf] at h
  exact h
theorem u_selectedLetter (hx : isT w 10 0) (hs : isT w 9 288) (hcu : I 288 7 = s_cur (vB I 288)) (hf : s_wf (vB I 288) n c t) : CT G w gl (yX10_selectedLetter, cX10_selectedLetter, 1, some .int) 3 (0, 0) [.ref 0] (oput I L) (qE (s_select (vB I 288) n (s_pol (vB I 288))) (oput I L)) nX := by
  obtain ⟨e1, e2, e3⟩ := op_self (L := L) hcu hf
  have h := c_selectedLetter (G := G) (w := w) (gl := gl) (I := oput I L) hx hs e2
  rw [e1, eq_select e3 hf, show s_pol (vB (oput I L) 288) = s_pol (vB I 288) by unfold s_pol; rw [vop_lo (by omega)]] at h
  exact h
theorem u_readyCount (hx : isT w 10 0) (hs : isT w 9 288) (hf : s_wf (vB I 288) n c t) : CT G w gl (yX10_readyCount, cX10_readyCount, 1, some .int) 2 (0, 0) [.ref 0] (oput I L) (qE (nI (s_cnt (s_open (vB I 288)) n)) (oput I L)) nX := by
  have hn := hf.2.1
  have e : s_eq n (vB I 288) (vB (oput I L) 288) := ⟨fun j hj => vop_lo (by omega), fun l hl f hf => vop_of (by omega) hf⟩
  have h := c_readyCount (G := G) (w := w) (gl := gl) (I := oput I L) (B := vB (oput I L) 288) (cu := oput I L 288 7) (n := n) hx hs (by rw [vop_lo (by omega)]; exact hf.1) hn (fun l hl => by rw [vop_of (by omega) (by omega)]; exact wf_0 hf hl)
  rw [sput_self, cnt_congr n (fun l hl => eq_open e hl)] at h
  exact h
end LAWE
