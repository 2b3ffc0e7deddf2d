/-! THE REFERENCE'S CALLS: the buffer, loading, output -/
def wb (x : Int32) (s : Int32) : Int32 := (x >>> (s &&& 31)) &&& 255
def a_wd (b : zBk) (N : Nat) (x : Int32) : zBk := upd (upd (upd (upd b N (wb x 24)) (N + 1) (wb x 16)) (N + 2) (wb x 8)) (N + 3) (wb x 0)
def aM (I : zM) (F b : zBk) : zM := ups (ups I 315 b) 312 F
theorem aM_312 {I : zM} {F b : zBk} : aM I F b 312 = F := ups_same _ _ _
theorem aM_315 {I : zM} {F b : zBk} : aM I F b 315 = b := by unfold aM; rw [ups_ne _ _ (by decide), ups_same]
theorem aM_5 {I : zM} {F b b' : zBk} : ups (aM I F b) 315 b' = aM I F b' := by unfold aM; rw [ups_sw (show 312 ≠ 315 by decide), ups_ups]
theorem aM_2 {I : zM} {F F' b : zBk} : ups (aM I F b) 312 F' = aM I F' b := by unfold aM; rw [ups_ups]
theorem mT_aM {I : zM} {k : Nat} : mT I k = aM I (upd (I 312) 9 (nI k)) (I 315) := by
  unfold mT aM; rw [ups_id]
def a_ap (b : zBk) (N : Nat) (x1 x2 x3 x4 x5 : Int32) : zBk := a_wd (a_wd (a_wd (a_wd (a_wd b N x1) (N + 4) x2) (N + 8) x3) (N + 12) x4) (N + 16) x5
/-- the output's bytes -/
def o_arr (W : zBk) (o : List Int32) : zBk := fun k => if k < o.length then o.getD k 0 else W k
theorem o_put {W : zBk} {o : List Int32} {x : Int32} : upd (o_arr W o) o.length x = o_arr W (o ++ [x]) := by
  funext k
  unfold o_arr
  rw [List.length_append, List.length_singleton]
  by_cases h : k = o.length
  · rw [h, upd_same, if_pos (by omega), List.getD_eq_getElem?_getD, List.getElem?_append_right (Nat.le_refl _), Nat.sub_self]; rfl
  · rw [upd_ne _ _ h]
    by_cases h2 : k < o.length
    · rw [if_pos h2, if_pos (by omega), List.getD_eq_getElem?_getD, List.getD_eq_getElem?_getD, List.getElem?_append_left h2]
    · rw [if_neg h2, if_neg (by omega)]
theorem o_nil {W : zBk} : o_arr W [] = W := by funext k; exact if_neg (Nat.not_lt_zero k)
def o_nm (B : zBk) (a : Nat) : Nat → List Int32
  | 0 => []
  | k + 1 => o_nm B a k ++ [B (22 + a * 7 + 1 + k)]
theorem o_nm_len (B : zBk) (a : Nat) : ∀ k, (o_nm B a k).length = k
  | 0 => rfl
  | k + 1 => by unfold o_nm; rw [List.length_append, o_nm_len B a k]; rfl
/-- the length of a clerk's name -/
def o_nl (B : zBk) (a : Nat) : Nat := (B (22 + a * 7)).toNatClampNeg
def o_dg (x : Int32) : List Int32 := (if x < 10 then [] else [48 + x / 10]) ++ [48 + (x - x / 10 * 10)]
def o_mk (B : zBk) (l : Nat) : List Int32 := if nI l = s_cur B then [42] else if s_late B l = true then [33] else []
def o_sp (l : Nat) : List Int32 := if l = 0 then [] else [32]
def o_let (B : zBk) (l : Nat) : List Int32 := o_sp l ++ (o_nm B (s_of B l 0).toNatClampNeg (o_nl B (s_of B l 0).toNatClampNeg) ++ ([58] ++ (o_dg (s_of B l 5) ++ o_mk B l)))
def o_all (B : zBk) : Nat → List Int32
  | 0 => []
  | l + 1 => o_all B l ++ o_let B l
theorem o_dg_len (x : Int32) : (o_dg x).length ≤ 2 := by unfold o_dg; split <;> simp
theorem o_mk_len (B : zBk) (l : Nat) : (o_mk B l).length ≤ 1 := by
  unfold o_mk
  split
  · simp
  · split <;> simp
section RIO
variable {G : zG} {w : Nat × Nat} {gl : Launch} {I : zM} {F B b : zBk} {n c t N : Nat}
theorem m_appendWord (hm : isT w 11 312) {x : Int32} (h4 : F 4 = nI N) (hN : N + 4 ≤ 600) : CT G w gl (yX11_appendWord, cX11_appendWord, 3, none) 0 (0, 0) [.ref 312, .int x] (aM I F b) (qV (fun J => J = aM I (upd F 4 (nI (N + 4))) (a_wd b N x))) nX := by
  refine ct_of (by decide) [(0, .ref 312), (1, .int x)] rfl rfl (fun K hG hw hgl hwo hK => ?_)
  subst hG; subst hw; subst hgl
  have one : ∀ (F' b' : zBk) (M : Nat) (s s' : Int32), F' 4 = nI M → M < 600 → ¬ s < 0 → s + (-8) = s' → ZZ K (0, 0) 3 [(0, .ref 312), (1, .int x), (2, .int s')] [] (aM I (upd F' 4 (nI (M + 1))) (upd b' M (wb x s))) → ZZ K (0, 0) 3 [(0, .ref 312), (1, .int x), (2, .int s)] [] (aM I F' b') := fun F' b' M s s' hF hM hs es hz => by
    refine bX11_appendWord_3 hK hwo hm (fun q => absurd q hs) (fun _ => by rw [aM_312, hF]; exact vp_in_nI hM (by omega)) (fun _ => ?_)
    rw [es]
    simp only [up_def, aM_312, aM_315, aM_5, hF, nI_clamp (show M < 2 ^ 31 by omega), aM_2, nI_1]
    exact hz
  refine bX11_appendWord_0 hK hwo hm ?_
  refine one _ _ N 24 16 h4 (by omega) (by decide) (by decide) ?_
  refine one _ _ (N + 1) 16 8 (upd_same _ _ _) (by omega) (by decide) (by decide) ?_
  refine one _ _ (N + 2) 8 0 (upd_same _ _ _) (by omega) (by decide) (by decide) ?_
  refine one _ _ (N + 3) 0 (-8) (upd_same _ _ _) (by omega) (by decide) (by decide) ?_
  refine bX11_appendWord_3 hK hwo hm (fun _ => qV_i ?_) (fun q => absurd (show (-8 : Int32) < 0 by decide) q) (fun q => absurd (show (-8 : Int32) < 0 by decide) q)
  rw [upd_upd, upd_upd, upd_upd]
  rfl
theorem r_append (hm : isT w 11 312) {x1 x2 x3 x4 x5 : Int32} (h4 : I 312 4 = nI N) (hN : N ≤ 600) : CT G w gl (yX11_append, cX11_append, 6, some .int) 1 (0, 0) [.ref 312, .int x1, .int x2, .int x3, .int x4, .int x5] I (qE (if N + 20 ≤ 600 then nI (N + 20) else 0) (if N + 20 ≤ 600 then aM I (upd (upd (I 312) 9 0) 4 (nI (N + 20))) (a_ap (I 315) N x1 x2 x3 x4 x5) else mT I 1)) nX := by
  refine ct_of (by decide) [(0, .ref 312), (1, .int x1), (2, .int x2), (3, .int x3), (4, .int x4), (5, .int x5)] rfl rfl (fun K hG hw hgl hwo hK => ?_)
  subst hG; subst hw; subst hgl
  have e20 : I 312 4 + 20 ≤ 600 ↔ N + 20 ≤ 600 := by
    rw [h4, show (20 : Int32) = nI 20 from rfl, nI_add]; exact nI_leI (a := N + 20) (b := 600) (by omega) (by omega)
  refine bX11_append_0 hK hwo hm (fun q => ?_) (fun q => ?_)
  · have h := e20.mp q
    rw [if_pos h, if_pos h] at hK
    have f4 : (upd (I 312) 9 0) 4 = nI N := by rw [upd_ne _ _ (by decide)]; exact h4
    refine bX11_append_19 (g7 := aM I (upd (upd (I 312) 9 0) 4 (nI (N + 20))) (a_ap (I 315) N x1 x2 x3 x4 x5)) hK hwo hm hm (m_f0 hm) (fun _ => by rw [mT_aM]; exact m_appendWord hm f4 (by omega)) (fun _ => m_appendWord hm (upd_same _ _ _) (by omega)) (fun _ => m_appendWord hm (upd_same _ _ _) (by omega)) (fun _ => m_appendWord hm (upd_same _ _ _) (by omega)) (fun _ => ?_) (fun _ => qE_i (by rw [aM_312, upd_same]) rfl) (fun z => absurd rfl z)
    have h5 := m_appendWord (G := kG K) (w := kw K) (gl := kl K) (I := I) (F := upd (upd (upd (upd (upd (I 312) 9 0) 4 (nI (N + 4))) 4 (nI (N + 4 + 4))) 4 (nI (N + 4 + 4 + 4))) 4 (nI (N + 4 + 4 + 4 + 4))) (b := a_wd (a_wd (a_wd (a_wd (I 315) N x1) (N + 4) x2) (N + 4 + 4) x3) (N + 4 + 4 + 4) x4) (N := N + 4 + 4 + 4 + 4) (x := x5) hm (upd_same _ _ _) (by omega)
    rw [upd_upd _ _ (nI (N + 4 + 4 + 4 + 4)) _] at h5
    rw [show aM I (upd (upd (I 312) 9 0) 4 (nI (N + 20))) (a_ap (I 315) N x1 x2 x3 x4 x5) = aM I (upd (upd (upd (upd (upd (I 312) 9 0) 4 (nI (N + 4))) 4 (nI (N + 4 + 4))) 4 (nI (N + 4 + 4 + 4))) 4 (nI (N + 4 + 4 + 4 + 4 + 4))) (a_wd (a_wd (a_wd (a_wd (a_wd (I 315) N x1) (N + 4) x2) (N + 4 + 4) x3) (N + 4 + 4 + 4) x4) (N + 4 + 4 + 4 + 4) x5) by
      rw [upd_upd, upd_upd, upd_upd]; rfl]
    exact h5
  · have h : ¬ N + 20 ≤ 600 := fun z => q (e20.mpr z)
    rw [if_neg h, if_neg h] at hK
    exact bX11_append_19 (g3 := I) (g4 := I) (g5 := I) (g6 := I) (g7 := I) hK hwo hm hm (m_f1 hm) (fun q => absurd q (by decide)) (fun q => absurd q (by decide)) (fun q => absurd q (by decide)) (fun q => absurd q (by decide)) (fun q => absurd q (by decide)) (fun q => absurd q (by decide)) (fun _ => qE_i rfl rfl)
theorem r_truncate (hm : isT w 11 312) {x : Int32} : CT G w gl (yX11_truncate, cX11_truncate, 2, some .int) 1 (0, 0) [.ref 312, .int x] I (qE (if s_in x 0 (I 312 4) = true then x else 0) (if s_in x 0 (I 312 4) = true then ups I 312 (upd (upd (I 312) 9 0) 4 x) else mT I 1)) nX := by
  refine ct_of (by decide) [(0, .ref 312), (1, .int x)] rfl rfl (fun K hG hw hgl hwo hK => ?_)
  subst hG; subst hw; subst hgl
  refine bX11_truncate_0 hK hwo hm m_in (fun d => ?_) (fun d => ?_)
  · have h := b2_n0.mp d
    rw [if_pos h, if_pos h] at hK
    refine bX11_truncate_18 hK hwo hm hm (m_f0 hm) (fun _ => qE_i rfl ?_) (fun q => absurd rfl q)
    rw [up_def]; unfold mT; rw [ups_same, ups_ups]; rfl
  · have h := b2_0.mp d
    rw [if_neg (by rw [h]; decide), if_neg (by rw [h]; decide)] at hK
    exact bX11_truncate_18 hK hwo hm hm (m_f1 hm) (fun q => absurd q (by decide)) (fun _ => qE_i rfl rfl)
theorem r_outputByte (hm : isT w 11 312) {x : Int32} {M : Nat} (h8 : I 312 8 = nI M) (hM : M ≤ 150) : CT G w gl (yX11_outputByte, cX11_outputByte, 2, some .int) 1 (0, 0) [.ref 312, .int x] I (qE (if s_has x (I 312 8) = true then I 316 x.toNatClampNeg else 0) (mT I (if s_has x (I 312 8) = true then 0 else 1))) nX := by
  refine ct_of (by decide) [(0, .ref 312), (1, .int x)] rfl rfl (fun K hG hw hgl hwo hK => ?_)
  subst hG; subst hw; subst hgl
  have mi := m_in (G := kG K) (w := kw K) (gl := kl K) (I := I) (x := x) (lo := 0) (hi := I 312 8 - 1)
  rw [h8, in_has (by omega), ← h8] at mi
  refine bX11_outputByte_0 hK hwo hm (by rw [h8, ← h8]; exact mi) (fun d => ?_) (fun d => ?_)
  · have h := b2_n0.mp d
    rw [if_pos h, if_pos h] at hK
    obtain ⟨k, hk, ek⟩ := has_nat h8 (by omega) h
    exact bX11_outputByte_20 hK hwo hm hm (m_f0 hm) (fun _ => by rw [ek]; exact vp_in_nI (by omega) (by omega)) (fun _ => qE_i (by rw [mT_ne (by decide)]) rfl) (fun q => absurd rfl q)
  · have h := b2_0.mp d
    rw [if_neg (by rw [h]; decide), if_neg (by rw [h]; decide)] at hK
    exact bX11_outputByte_20 hK hwo hm hm (m_f1 hm) (fun q => absurd q (by decide)) (fun q => absurd q (by decide)) (fun _ => qE_i rfl rfl)
/-- the memory with the output o -/
def oM (I : zM) (F : zBk) (o : List Int32) : zM := ups (ups I 316 (o_arr (I 316) o)) 312 (upd F 8 (nI o.length))
theorem oM_312 {o : List Int32} : oM I F o 312 = upd F 8 (nI o.length) := ups_same _ _ _
theorem oM_313 {o : List Int32} : oM I F o 313 = I 313 := by unfold oM; rw [ups_ne _ _ (by decide), ups_ne _ _ (by decide)]
theorem m_put (hm : isT w 11 312) {o : List Int32} {x : Int32} (ho : o.length < 150) : CT G w gl (yX11_put, cX11_put, 2, none) 0 (0, 0) [.ref 312, .int x] (oM I F o) (qV (fun J => J = oM I F (o ++ [x]))) nX := by
  refine ct_of (by decide) [(0, .ref 312), (1, .int x)] rfl rfl (fun K hG hw hgl hwo hK => ?_)
  subst hG; subst hw; subst hgl
  have e8 : oM I F o 312 8 = nI o.length := by rw [oM_312, upd_same]
  refine bX11_put_0 hK hwo hm (by rw [e8]; exact vp_in_nI ho (by omega)) (qV_i ?_)
  rw [e8, nI_clamp (by omega)]
  have e1 : up (oM I F o) 316 o.length x = ups (ups I 316 (o_arr (I 316) (o ++ [x]))) 312 (upd F 8 (nI o.length)) := by
    rw [up_def, show oM I F o 316 = o_arr (I 316) o by unfold oM; rw [ups_ne _ _ (by decide), ups_same], o_put]
    unfold oM
    rw [ups_sw (show 312 ≠ 316 by decide), ups_ups]
  rw [e1, up_def, ups_same, upd_same, ups_ups, nI_1, upd_upd]
  unfold oM
  rw [List.length_append, List.length_singleton]
theorem r_writeLetters (hm : isT w 11 312) (hf : s_wf (I 313) n c t) (hL : nmL (I 313) c) : CT G w gl (yX11_writeLetters, cX11_writeLetters, 4, some .int) 3 (0, 0) [.ref 312] I (qE (nI (o_all (I 313) n).length) (oM I (upd (I 312) 9 0) (o_all (I 313) n))) nX := by
  refine ct_of (by decide) [(0, .ref 312)] rfl rfl (fun K hG hw hgl hwo hK => ?_)
  subst hG; subst hw; subst hgl
  have hn := hf.2.1
  have e8 : ∀ o, oM I (upd (I 312) 9 0) o 313 8 = nI n := fun o => by rw [oM_313]; exact hf.1
  have rd : ∀ (o : List Int32) (l f : Nat), l < 12 → f < 8 → CT (kG K) (kw K) (kl K) (yX11_of, cX11_of, 3, some .int) 0 (0, 0) [.ref 312, .int (nI l), .int (nI f)] (oM I (upd (I 312) 9 0) o) (qE (s_of (I 313) l f) (oM I (upd (I 312) 9 0) o)) nX := fun o l f hl hf => by
    have h := m_of (G := kG K) (w := kw K) (gl := kl K) (I := oM I (upd (I 312) 9 0) o) (l := l) (f := f) hm hl hf
    rw [oM_313] at h; exact h
  have key : ∀ k l (o : List Int32), l + k = n → o = o_all (I 313) l → (l = 0 → o.length = 0) → (0 < l → o.length + 1 ≤ 11 * l) → ZZ K (0, 0) 12 [(0, .ref 312), (1, .int (nI l))] [] (oM I (upd (I 312) 9 0) o) := by
    intro k
    induction k with
    | zero =>
      intro l o hl ho h0 h1
      have le : oM I (upd (I 312) 9 0) o 313 8 ≤ nI l := by rw [e8, show l = n by omega]; exact Int32.le_refl _
      refine bX11_writeLetters_12 (g5 := I) hK hwo hm (fun _ => ?_) (fun q => absurd le q) (fun q => absurd le q) (fun q => absurd le q)
      have el : l = n := by omega
      subst el
      rw [oM_312, upd_same, ho]
      exact qE_i rfl rfl
    | succ k ih =>
      intro l o hl ho h0 h1
      have nle : ¬ oM I (upd (I 312) 9 0) o 313 8 ≤ nI l := by rw [e8]; exact nI_ge (by omega) (by omega)
      obtain ⟨⟨a, ha, ea⟩, -, -⟩ := hf.2.2.2.2.2.2.2.2.2.1 l (by omega)
      obtain ⟨L, hL6, hv⟩ := hL.2 a ha
      have hc6 := hL.1
      have ec : (s_of (I 313) l 0).toNatClampNeg = a := by rw [ea]; exact nI_clamp (by omega)
      have enl : o_nl (I 313) a = L := by unfold o_nl; rw [hv]; exact nI_clamp (by omega)
      have eat : (22 : Int32) + s_of (I 313) l 0 * 7 = nI (22 + a * 7) := by rw [ea, show (7 : Int32) = nI 7 from rfl, show (22 : Int32) = nI 22 from rfl, pk_mul, nI_add]
      have hsp : (o ++ o_sp l).length ≤ 11 * l := by
        unfold o_sp
        by_cases hl0 : l = 0
        · rw [if_pos hl0, List.append_nil, h0 hl0]; exact Nat.zero_le _
        · rw [if_neg hl0, List.length_append, List.length_singleton]; have := h1 (by omega); omega
      generalize ho1 : o ++ o_sp l = o1 at hsp
      have e111 : ∀ (o2 : List Int32) (v2 v3 : Int32), o2 = o1 ++ (o_nm (I 313) a L ++ [58]) ++ (if s_of (I 313) l 5 < 10 then [] else [48 + s_of (I 313) l 5 / 10]) → ZZ K (0, 0) 111 [(0, .ref 312), (1, .int (nI l)), (2, .int v2), (3, .int v3)] [] (oM I (upd (I 312) 9 0) o2) := fun o2 v2 v3 e2 => by
        have hlen : o2.length ≤ 11 * l + 8 := by
          rw [e2, List.length_append, List.length_append, List.length_append, o_nm_len]
          have : (if s_of (I 313) l 5 < 10 then [] else [48 + s_of (I 313) l 5 / 10]).length ≤ 1 := by split <;> simp
          simp only [List.length_singleton]
          omega
        have ed : o1 ++ (o_nm (I 313) a L ++ ([58] ++ (o_dg (s_of (I 313) l 5)))) = o2 ++ [48 + (s_of (I 313) l 5 - s_of (I 313) l 5 / 10 * 10)] := by
          rw [e2]; unfold o_dg
          simp only [List.append_assoc]
        have el : o_all (I 313) (l + 1) = (o2 ++ [48 + (s_of (I 313) l 5 - s_of (I 313) l 5 / 10 * 10)]) ++ o_mk (I 313) l := by
          show o_all (I 313) l ++ o_let (I 313) l = _
          unfold o_let
          rw [ec, enl, ← ed, ← ho, ← ho1]
          simp only [List.append_assoc]
        have l3 : (o2 ++ [48 + (s_of (I 313) l 5 - s_of (I 313) l 5 / 10 * 10)]).length ≤ 11 * l + 9 := by rw [List.length_append, List.length_singleton]; omega
        have nxt : ∀ o4, o4 = (o2 ++ [48 + (s_of (I 313) l 5 - s_of (I 313) l 5 / 10 * 10)]) ++ o_mk (I 313) l → ZZ K (0, 0) 12 [(0, .ref 312), (1, .int (nI l + 1))] [] (oM I (upd (I 312) 9 0) o4) := fun o4 e4 => by
          rw [nI_1]
          refine ih (l + 1) o4 (by omega) (by rw [e4, el]) (fun z => by omega) (fun _ => ?_)
          have := o_mk_len (I 313) l
          rw [e4, List.length_append]; omega
        have mc := m_current (G := kG K) (w := kw K) (gl := kl K) (I := oM I (upd (I 312) 9 0) (o2 ++ [48 + (s_of (I 313) l 5 - s_of (I 313) l 5 / 10 * 10)])) (n := n) (c := c) (t := t) hm (by rw [oM_313]; exact hf)
        have ml := m_isLate (G := kG K) (w := kw K) (gl := kl K) (I := oM I (upd (I 312) 9 0) (o2 ++ [48 + (s_of (I 313) l 5 - s_of (I 313) l 5 / 10 * 10)])) (l := l) hm (by omega)
        rw [oM_313] at mc ml
        refine bX11_writeLetters_111 hK hwo hm (rd o2 l 5 (by omega) (by omega)) (m_put hm (by omega)) mc (fun _ => ml) (fun q d => nxt _ ?_) (fun _ _ => m_put hm (by omega)) (fun q d => nxt _ ?_) (fun _ => m_put hm (by omega)) (fun q => nxt _ ?_) <;> unfold o_mk
        · rw [if_neg q, if_neg (by rw [b2_0.mp d]; decide), List.append_nil]
        · rw [if_neg q, if_pos (b2_n0.mp d)]
        · rw [if_pos q]
      have e48 : ∀ j i (o2 : List Int32), i + j = L → o2 = o1 ++ o_nm (I 313) a i → ZZ K (0, 0) 48 [(0, .ref 312), (1, .int (nI l)), (2, .int (nI (22 + a * 7))), (3, .int (nI i))] [] (oM I (upd (I 312) 9 0) o2) := by
        intro j
        induction j with
        | zero =>
          intro i o2 hi e2
          have ei : i = L := by omega
          subst ei
          have hlen : o2.length ≤ 11 * l + 6 := by rw [e2, List.length_append, o_nm_len]; omega
          have le : oM I (upd (I 312) 9 0) o2 313 (nI (22 + a * 7)).toNatClampNeg ≤ nI i := by rw [nI_clamp (by omega), oM_313, hv]; exact Int32.le_refl _
          have l2 : (o2 ++ [58]).length ≤ 11 * l + 7 := by rw [List.length_append, List.length_singleton]; omega
          refine bX11_writeLetters_48 (g11 := I) hK hwo hm (vp_in_nI (by omega) (by omega)) (fun _ => m_put hm (by omega)) (fun _ => rd (o2 ++ [58]) l 5 (by omega) (by omega)) (fun _ d => e111 _ _ _ ?_) (fun _ _ => rd _ l 5 (by omega) (by omega)) (fun _ _ => m_put hm (by omega)) (fun _ d => e111 _ _ _ ?_) (fun q => absurd le q) (fun q => absurd le q) (fun q => absurd le q)
          · rw [if_pos d, e2, List.append_nil, List.append_assoc]
          · rw [if_neg d, e2]; simp only [List.append_assoc]
        | succ j ihj =>
          intro i o2 hi e2
          have hlen : o2.length ≤ 11 * l + 5 := by rw [e2, List.length_append, o_nm_len]; omega
          have nle2 : ¬ oM I (upd (I 312) 9 0) o2 313 (nI (22 + a * 7)).toNatClampNeg ≤ nI i := by rw [nI_clamp (by omega), oM_313, hv]; exact nI_ge (by omega) (by omega)
          have ex : nI (22 + a * 7) + 1 + nI i = nI (22 + a * 7 + 1 + i) := by rw [nI_1, nI_add]
          refine bX11_writeLetters_48 (g3 := I) (f4 := 0) (g4 := I) (f7 := 0) (g7 := I) (g8 := I) hK hwo hm (vp_in_nI (by omega) (by omega)) (fun q => absurd q nle2) (fun q => absurd q nle2) (fun q => absurd q nle2) (fun q => absurd q nle2) (fun q => absurd q nle2) (fun q => absurd q nle2) (fun _ => by rw [ex]; exact vp_in_nI (by omega) (by omega)) (fun _ => m_put hm (by omega)) (fun _ => ?_)
          rw [nI_1, ex, nI_clamp (by omega), oM_313]
          refine ihj (i + 1) _ (by omega) ?_
          rw [e2, List.append_assoc]; rfl
      have e33 : ZZ K (0, 0) 33 [(0, .ref 312), (1, .int (nI l))] [] (oM I (upd (I 312) 9 0) o1) := by
        refine bX11_writeLetters_33 hK hwo hm (rd o1 l 0 (by omega) (by omega)) ?_
        rw [eat]
        exact e48 L 0 o1 (by omega) (by show o1 = o1 ++ []; rw [List.append_nil])
      by_cases hl0 : l = 0
      · have e1 : o = o1 := by rw [← ho1]; unfold o_sp; rw [if_pos hl0, List.append_nil]
        have le0 : nI l ≤ 0 := by rw [hl0]; exact Int32.le_refl _
        exact bX11_writeLetters_12 (g5 := I) hK hwo hm (fun q => absurd q nle) (fun _ _ => by rw [e1]; exact e33) (fun _ q => absurd le0 q) (fun _ q => absurd le0 q)
      · have e1 : o ++ [32] = o1 := by rw [← ho1]; unfold o_sp; rw [if_neg hl0]
        have nle0 : ¬ nI l ≤ 0 := nI_nle (by omega) (by omega)
        have := h1 (by omega)
        exact bX11_writeLetters_12 hK hwo hm (fun q => absurd q nle) (fun _ q => absurd q nle0) (fun _ _ => m_put hm (by omega)) (fun _ _ => by rw [e1]; exact e33)
  have h0 := key n 0 [] (by omega) rfl (fun _ => rfl) (fun z => by omega)
  refine bX11_writeLetters_0 hK hwo hm ?_
  rw [show up (up I 312 9 0) 312 8 0 = oM I (upd (I 312) 9 0) [] by
    unfold oM; rw [o_nil, ups_id, up_def, up_def, ups_same, ups_ups]; rfl]
  exact h0
end RIO
