/-! THE REFERENCE'S CALLS: changes -/
def rM (I : zM) (F B : zBk) : zM := ups (ups I 312 F) 313 B
theorem rM_312 {I : zM} {F B : zBk} : rM I F B 312 = F := by unfold rM; rw [ups_ne _ _ (by decide), ups_same]
theorem rM_313 {I : zM} {F B : zBk} : rM I F B 313 = B := ups_same _ _ _
theorem rM_ot {I : zM} {F B : zBk} {q : Nat} (h : q ≠ 312) (h2 : q ≠ 313) : rM I F B q = I q := by unfold rM; rw [ups_ne _ _ h2, ups_ne _ _ h]
theorem rM_id {I : zM} : rM I (I 312) (I 313) = I := by unfold rM; rw [ups_id, ups_id]
theorem rM_3 {I : zM} {F B C : zBk} : ups (rM I F B) 313 C = rM I F C := by unfold rM; rw [ups_ups]
theorem rM_2 {I : zM} {F B C : zBk} : ups (rM I F B) 312 C = rM I C B := by unfold rM; rw [ups_sw (show 313 ≠ 312 by decide), ups_ups]
theorem rM_rM {I : zM} {F B F' B' : zBk} : rM (rM I F B) F' B' = rM I F' B' := by
  show ups (ups (rM I F B) 312 F') 313 B' = _
  rw [rM_2, rM_3]
theorem rM_T {I : zM} {F B : zBk} {k : Nat} : mT (rM I F B) k = rM I (upd F 9 (nI k)) B := by unfold mT; rw [rM_312, rM_2]
theorem mT_rM {I : zM} {k : Nat} : mT I k = rM I (upd (I 312) 9 (nI k)) (I 313) := by
  rw [← rM_T, rM_id]
theorem mR_rM {I : zM} {r : zRs} : mR I r = rM I (rF (I 312) r.1 r.2.1) r.2.2 := rfl
/-- block a copied onto block b, its first k places -/
def s_cpb (B : zBk) (a b k : Nat) : zBk := fun j => if b * 160 ≤ j ∧ j < b * 160 + k then B (a * 160 + (j - b * 160)) else B j
def s_shift (B : zBk) : Nat → zBk
  | 0 => B
  | k + 1 => s_cpb (s_shift B k) (k + 2) (k + 1) 160
def s_rem (B : zBk) (m : Nat) : zBk := if m = 6 then s_cpb (s_shift B 5) 0 6 160 else s_cpb B 0 (m + 1) 160
theorem cpb_lo {B : zBk} {a b k j : Nat} (h : j < b * 160 ∨ b * 160 + k ≤ j) : s_cpb B a b k j = B j := if_neg (by omega)
theorem cpb_at {B : zBk} {a b k j : Nat} (h : j < k) : s_cpb B a b k (b * 160 + j) = B (a * 160 + j) := by
  unfold s_cpb
  rw [if_pos (by omega)]
  congr 1; omega
theorem shift_lo {B : zBk} {j : Nat} (h : j < 160) : ∀ k, s_shift B k j = B j
  | 0 => rfl
  | k + 1 => by
    unfold s_shift
    rw [cpb_lo (by omega), shift_lo h k]
theorem rem_lo {B : zBk} {m j : Nat} (h : j < 160) : s_rem B m j = B j := by
  unfold s_rem
  split
  · rw [cpb_lo (by omega), shift_lo h]
  · rw [cpb_lo (by omega)]
theorem rem_hi {B : zBk} {m j : Nat} (h : 1120 ≤ j) (hm : m ≤ 6) : s_rem B m j = B j := by
  have sh : ∀ k, k ≤ 5 → s_shift B k j = B j := by
    intro k
    induction k with
    | zero => intro _; rfl
    | succ k ih => intro hk; unfold s_shift; rw [cpb_lo (by omega), ih (by omega)]
  unfold s_rem
  split
  · rw [cpb_lo (by omega), sh 5 (by omega)]
  · rw [cpb_lo (by omega)]
section RCH
variable {G : zG} {w : Nat × Nat} {gl : Launch} {I : zM}
theorem m_copyBlock (hm : isT w 11 312) {a b : Nat} (ha : a < 10) (hb : b < 10) (hne : a ≠ b) : CT G w gl (yX11_copyBlock, cX11_copyBlock, 4, none) 0 (0, 0) [.ref 312, .int (nI a), .int (nI b)] I (qV (fun J => J = ups I 313 (s_cpb (I 313) a b 160))) nX := by
  refine ct_of (by decide) [(0, .ref 312), (1, .int (nI a)), (2, .int (nI b))] rfl rfl (fun K hG hw hgl hwo hK => ?_)
  subst hG; subst hw; subst hgl
  have ix : ∀ c i : Nat, nI c * 160 + nI i = nI (c * 160 + i) := fun c i => by
    rw [show (160 : Int32) = nI 160 from rfl, pk_mul, nI_add]
  have key : ∀ k i, i + k = 160 → ZZ K (0, 0) 2 [(0, .ref 312), (1, .int (nI a)), (2, .int (nI b)), (3, .int (nI i))] [] (ups I 313 (s_cpb (I 313) a b i)) := by
    intro k
    induction k with
    | zero =>
      intro i hi
      have e : i = 160 := by omega
      subst e
      have le : (160 : Int32) ≤ nI 160 := Int32.le_refl _
      exact bX11_copyBlock_2 hK hwo hm (fun _ => qV_i rfl) (fun q => absurd le q) (fun q => absurd le q) (fun q => absurd le q)
    | succ k ih =>
      intro i hi
      have nle : ¬ (160 : Int32) ≤ nI i := nI_ge (a := i) (b := 160) (by omega) (by omega)
      refine bX11_copyBlock_2 hK hwo hm (fun q => absurd q nle) (fun _ => by rw [ix]; exact vp_in_nI (by omega) (by omega)) (fun _ => by rw [ix]; exact vp_in_nI (by omega) (by omega)) (fun _ => ?_)
      rw [ix, ix, nI_clamp (by omega), nI_clamp (by omega), nI_1, up_def, ups_same, ups_ups]
      have hx := ih (i + 1) (by omega)
      rw [show s_cpb (I 313) a b (i + 1) = upd (s_cpb (I 313) a b i) (b * 160 + i) (s_cpb (I 313) a b i (a * 160 + i)) by
        funext j
        have e1 : s_cpb (I 313) a b i (a * 160 + i) = I 313 (a * 160 + i) := cpb_lo (by omega)
        rw [e1]
        by_cases e : j = b * 160 + i
        · rw [e, upd_same]; exact cpb_at (by omega)
        · rw [upd_ne _ _ e]
          unfold s_cpb
          by_cases h : b * 160 ≤ j ∧ j < b * 160 + i
          · rw [if_pos h, if_pos (by omega)]
          · rw [if_neg h, if_neg (by omega)]] at hx
      exact hx
  have h0 := key 160 0 (by omega)
  rw [show s_cpb (I 313) a b 0 = I 313 by funext j; exact cpb_lo (by omega), ups_id] at h0
  exact bX11_copyBlock_0 hK hwo hm h0
theorem c_copyBlock (hm : isT w 11 312) {F B : zBk} {a b : Nat} (ha : a < 10) (hb : b < 10) (hne : a ≠ b) : CT G w gl (yX11_copyBlock, cX11_copyBlock, 4, none) 0 (0, 0) [.ref 312, .int (nI a), .int (nI b)] (rM I F B) (qV (fun J => J = rM I F (s_cpb B a b 160))) nX := by
  have h := m_copyBlock (G := G) (gl := gl) (I := rM I F B) hm ha hb hne
  rw [rM_313, rM_3] at h
  exact h
theorem m_remember (hm : isT w 11 312) {F B : zBk} {m : Nat} (h2 : F 2 = nI m) (hm6 : m ≤ 6) : CT G w gl (yX11_remember, cX11_remember, 3, none) 1 (0, 0) [.ref 312, .int 0] (rM I F B) (qV (fun J => J = rM I (upd F 2 (nI (min (m + 1) 6))) (s_rem B m))) nX := by
  refine ct_of (by decide) [(0, .ref 312), (1, .int 0)] rfl rfl (fun K hG hw hgl hwo hK => ?_)
  subst hG; subst hw; subst hgl
  have u2 : ∀ (F B : zBk) (x : Int32), up (rM I F B) 312 2 x = rM I (upd F 2 x) B := fun F B x => by rw [up_def, rM_312, rM_2]
  have e41 : ∀ (F' C : zBk) (k : Nat), k < 6 → F' 2 = nI k → upd F' 2 (nI (k + 1)) = upd F 2 (nI (min (m + 1) 6)) → s_cpb C 0 (k + 1) 160 = s_rem B m → ZZ K (0, 0) 41 [(0, .ref 312), (1, .int 0)] [] (rM I F' C) := fun F' C k hk h hF hC => by
    have e9 : (up (rM I F' C) 312 2 (rM I F' C 312 2 + 1)) = rM I (upd F' 2 (nI (k + 1))) C := by rw [rM_312, u2, h, nI_1]
    refine bX11_remember_41 (g1 := rM I (upd F' 2 (nI (k + 1))) (s_cpb C 0 (k + 1) 160)) hK hwo hm ?_ (qV_i (by rw [hF, hC]))
    rw [e9, rM_312, upd_same]
    exact c_copyBlock (a := 0) hm (by omega) (by omega) (by omega)
  refine bX11_remember_0 hK hwo hm ?_ ?_ <;> rw [rM_312, h2] <;> intro c
  · have hm5 : m ≠ 6 := fun z => c (by rw [z]; rfl)
    exact e41 F B m (by omega) h2 (by rw [show min (m + 1) 6 = m + 1 by omega]) (by unfold s_rem; rw [if_neg hm5])
  · have hm5 : m = 6 := (nI_eq (a := m) (b := 6) (by omega) (by omega)).mp c
    subst hm5
    have key : ∀ k i, i + k = 5 → ZZ K (0, 0) 11 [(0, .ref 312), (1, .int 0), (2, .int (nI (i + 1)))] [] (rM I F (s_shift B i)) := by
      intro k
      induction k with
      | zero =>
        intro i hi
        have e : i = 5 := by omega
        subst e
        have le : (6 : Int32) ≤ nI (5 + 1) := Int32.le_refl _
        refine bX11_remember_11 (g3 := I) hK hwo hm (fun _ => ?_) (fun q => absurd le q) (fun q => absurd le q)
        rw [rM_312, u2, h2]
        refine e41 _ _ 5 (by omega) (by rw [upd_same]; rfl) ?_ ?_
        · rw [upd_upd]; rfl
        · unfold s_rem; rw [if_pos rfl]
      | succ k ih =>
        intro i hi
        have nle : ¬ (6 : Int32) ≤ nI (i + 1) := nI_ge (a := i + 1) (b := 6) (by omega) (by omega)
        refine bX11_remember_11 (g3 := rM I F (s_shift B (i + 1))) hK hwo hm (fun q => absurd q nle) (fun _ => ?_) (fun _ => ?_) <;> rw [nI_1]
        · exact c_copyBlock (a := i + 1 + 1) (b := i + 1) hm (by omega) (by omega) (by omega)
        · exact ih (i + 1) (by omega)
    exact key 5 0 (by omega)
/-- behind a change: the block B -/
def rCh (I : zM) (m : Nat) (B : zBk) : zM := rM I (upd (upd (I 312) 9 0) 2 (nI (min (m + 1) 6))) B
theorem m_rem0 (hm : isT w 11 312) {m : Nat} (h2 : I 312 2 = nI m) (hm6 : m ≤ 6) : CT G w gl (yX11_remember, cX11_remember, 3, none) 1 (0, 0) [.ref 312, .int 0] (mT I 0) (qV (fun J => J = rCh I m (s_rem (I 313) m))) nX := by
  have h := m_remember (G := G) (gl := gl) (I := I) (F := upd (I 312) 9 0) (B := I 313) (m := m) hm (by rw [upd_ne _ _ (by decide)]; exact h2) hm6
  rw [mT_rM]
  exact h
theorem rCh_313 {m : Nat} {B : zBk} : rCh I m B 313 = B := rM_313
theorem rCh_3 {m : Nat} {B C : zBk} : ups (rCh I m B) 313 C = rCh I m C := rM_3
def s_data (x1 x2 x3 x4 : Int32) : Bool := s_in x1 1 30 && (s_in x2 0 999 && (s_in x3 1 999 && s_in x4 0 9))
def s_canAdd (B : zBk) (d : Int32) : Bool := decide (B 8 < 12) && decide (B 9 + d ≤ 2000)
theorem m_isData (hm : isT w 11 312) {x1 x2 x3 x4 : Int32} : CT G w gl (yX11_isLetterData, cX11_isLetterData, 4, some .boolean) 1 (0, 0) [.int x1, .int x2, .int x3, .int x4] I (qE (b2 (s_data x1 x2 x3 x4)) I) nX := by
  refine ct_of (by decide) [(0, .int x1), (1, .int x2), (2, .int x3), (3, .int x4)] rfl rfl (fun K hG hw hgl hwo hK => ?_)
  subst hG; subst hw; subst hgl
  refine bX11_isLetterData_0 hK hwo m_in (fun a => ?_) (fun _ => m_in) (fun a b => ?_) (fun _ _ => m_in) (fun a b c => ?_) (fun _ _ _ => m_in) (fun a b c d => ?_) (fun a b c d => ?_) <;> refine qE_i ?_ rfl <;> unfold s_data
  · rw [b2_0.mp a]; rfl
  · rw [b2_0.mp b, Bool.false_and, Bool.and_false]; rfl
  · rw [b2_0.mp c, Bool.false_and, Bool.and_false, Bool.and_false]; rfl
  · rw [b2_0.mp d, Bool.and_false, Bool.and_false, Bool.and_false]; rfl
  · rw [b2_n0.mp a, b2_n0.mp b, b2_n0.mp c, b2_n0.mp d]; rfl
theorem m_canAdd (hm : isT w 11 312) {d : Int32} : CT G w gl (yX11_canAdd, cX11_canAdd, 2, some .boolean) 0 (0, 0) [.ref 312, .int d] I (qE (b2 (s_canAdd (I 313) d)) I) nX := by
  refine ct_of (by decide) [(0, .ref 312), (1, .int d)] rfl rfl (fun K hG hw hgl hwo hK => ?_)
  subst hG; subst hw; subst hgl
  refine bX11_canAdd_0 hK hwo hm (fun a => ?_) (fun a b => ?_) (fun a b => ?_) <;> refine qE_i ?_ rfl <;> unfold s_canAdd
  · rw [decide_eq_false (Int32.not_lt.mpr a), Bool.false_and]; rfl
  · rw [decide_eq_false (Int32.not_le.mpr b), Bool.and_false]; rfl
  · rw [decide_eq_true (Int32.not_le.mp a), decide_eq_true (Int32.not_lt.mp b)]; rfl
theorem m_throwAway (hm : isT w 11 312) {l : Nat} (hl : l < 12) : CT G w gl (yX11_throwAway, cX11_throwAway, 3, some .int) 1 (0, 0) [.ref 312, .int (nI l)] I (qE (s_of (I 313) l 5) (ups I 313 (s_drop (I 313) l))) nX := by
  refine ct_of (by decide) [(0, .ref 312), (1, .int (nI l))] rfl rfl (fun K hG hw hgl hwo hK => ?_)
  subst hG; subst hw; subst hgl
  have h2 := m_set (G := kG K) (w := kw K) (gl := kl K) (I := ups I 313 (s_set (I 313) l 5 0)) (l := l) (f := 6) (x := (ups I 313 (s_set (I 313) l 5 0)) 313 9) hm hl (by omega)
  rw [ups_same, ups_ups] at h2
  refine bX11_throwAway_0 hK hwo hm (m_of (f := 5) hm hl (by omega)) (m_set (f := 5) hm hl (by omega)) (by rw [ups_same]; exact h2) (qE_i rfl ?_)
  unfold s_drop
  rw [set_lo (by omega)]
theorem fk_0 {v1 v2 v3 : Int32} : (b2 (!decide (fk v1 v2 v3 = 0)) = 0) = (fk v1 v2 v3 = 0) := by
  apply propext
  by_cases h : fk v1 v2 v3 = 0
  · rw [decide_eq_true h]; exact ⟨fun _ => h, fun _ => rfl⟩
  · rw [decide_eq_false h]; exact ⟨fun z => absurd z (by decide), fun z => absurd z h⟩
theorem r_addLetter (hm : isT w 11 312) {x1 x2 x3 x4 x5 : Int32} {n c m : Nat} (hn : n ≤ 12) (h8 : I 313 8 = nI n) (h7 : I 313 7 = nI c) (hc : c ≤ 6) (h2 : I 312 2 = nI m) (hm6 : m ≤ 6) {k : Nat} (hk : k = if s_has x1 (I 313 7) = true then (if s_data x2 x3 x4 x5 = true then (if s_canAdd (I 313) x3 = true then 0 else 3) else 2) else 1) : CT G w gl (yX11_addLetter, cX11_addLetter, 7, some .int) 2 (0, 0) [.ref 312, .int x1, .int x2, .int x3, .int x4, .int x5] I (qE (if k = 0 then nI n else 0) (if k = 0 then rCh I m (s_add (s_rem (I 313) m) n x1 x2 (I 313 9 + x3) x4 x5) else mT I k)) nX := by
  refine ct_of (by decide) [(0, .ref 312), (1, .int x1), (2, .int x2), (3, .int x3), (4, .int x4), (5, .int x5)] rfl rfl (fun K hG hw hgl hwo hK => ?_)
  subst hG; subst hw; subst hgl
  have e53 : ∀ v6 a b c : Int32, fk a b c = k → ZZ K (0, 0) 53 [(0, .ref 312), (1, .int x1), (2, .int x2), (3, .int x3), (4, .int x4), (5, .int x5), (6, .int v6)] [.int c, .int b, .int a, .ref 312] I := fun v6 a b c hf => by
    have mf := m_fails (G := kG K) (w := kw K) (gl := kl K) (I := I) (v1 := a) (v2 := b) (v3 := c) hm
    by_cases h0 : k = 0
    · rw [if_pos h0, if_pos h0] at hK
      rw [hf, h0] at mf
      have hx : s_canAdd (I 313) x3 = true := by
        by_cases z : s_canAdd (I 313) x3 = true
        · exact z
        · rw [h0] at hk
          by_cases z1 : s_has x1 (I 313 7) = true
          · by_cases z2 : s_data x2 x3 x4 x5 = true
            · rw [if_pos z1, if_pos z2, if_neg z] at hk; omega
            · rw [if_pos z1, if_neg z2] at hk; omega
          · rw [if_neg z1] at hk; omega
      have hlt : n < 12 := by
        unfold s_canAdd at hx
        rw [Bool.and_eq_true, h8] at hx
        exact (nI_ltI (a := n) (b := 12) (by omega) (by omega)).mp (of_decide_eq_true hx.1)
      have ma := m_add (G := kG K) (w := kw K) (gl := kl K) (I := rCh I m (s_rem (I 313) m)) (n := n) (x1 := x1) (x2 := x2) (x3 := I 313 9 + x3) (x4 := x4) (x5 := x5) hm (by rw [rCh_313, rem_lo (by omega)]; exact h8) hlt
      rw [rCh_313, rCh_3] at ma
      exact bX11_addLetter_53 hK hwo hm hm mf (fun _ => m_rem0 hm h2 hm6) (fun _ => by rw [rCh_313, rem_lo (by omega)]; exact ma) (fun _ => qE_i rfl rfl) (fun q => absurd rfl q)
    · rw [if_neg h0, if_neg h0] at hK
      rw [hf, decide_eq_false h0] at mf
      exact bX11_addLetter_53 (g3 := I) (f4 := 0) (g4 := I) hK hwo hm hm mf (fun q => absurd q (by decide)) (fun q => absurd q (by decide)) (fun q => absurd q (by decide)) (fun _ => qE_i rfl rfl)
  have e35 : ∀ v1 v2 : Int32, v2 = (if s_data x2 x3 x4 x5 = true then 0 else 1) → v1 = (if s_has x1 (I 313 7) = true then 0 else 1) → ZZ K (0, 0) 35 [(0, .ref 312), (1, .int x1), (2, .int x2), (3, .int x3), (4, .int x4), (5, .int x5), (6, .int (b2 (s_data x2 x3 x4 x5)))] [.int v2, .int v1, .ref 312] I := fun v1 v2 e2 e1 => by
    refine bX11_addLetter_35 hK hwo hm hm (fun q => ?_) (fun _ => m_canAdd hm) (fun q d => ?_) (fun q d => ?_)
    · refine bX11_addLetter_52 hK hwo hm hm (e53 _ _ _ _ ?_)
      have z2 := b2_0.mp q
      by_cases z1 : s_has x1 (I 313 7) = true
      · simp [hk, e1, e2, z1, z2, fk]
      · simp [hk, e1, e2, z1, z2, fk]
    · refine bX11_addLetter_52 hK hwo hm hm (e53 _ _ _ _ ?_)
      rw [hk, e1, e2, if_pos (b2_n0.mp q), if_pos (b2_n0.mp q), if_pos (b2_n0.mp d)]
      by_cases z1 : s_has x1 (I 313 7) = true
      · rw [if_pos z1, if_pos z1]; rfl
      · rw [if_neg z1, if_neg z1]; rfl
    · refine e53 _ _ _ _ ?_
      have z2 := b2_n0.mp q
      have z3 := b2_0.mp d
      by_cases z1 : s_has x1 (I 313 7) = true
      · simp [hk, e1, e2, z1, z2, z3, fk]
      · simp [hk, e1, e2, z1, z2, z3, fk]
  have e25 : ∀ v1 : Int32, v1 = (if s_has x1 (I 313 7) = true then 0 else 1) → ZZ K (0, 0) 25 [(0, .ref 312), (1, .int x1), (2, .int x2), (3, .int x3), (4, .int x4), (5, .int x5), (6, .int (b2 (s_data x2 x3 x4 x5)))] [.int v1, .ref 312] I := fun v1 e1 =>
    bX11_addLetter_25 hK hwo hm hm (fun q => e35 _ _ (by rw [if_pos (b2_n0.mp q)]) e1) (fun q => e35 _ _ (by rw [if_neg (by rw [b2_0.mp q]; decide)]) e1)
  exact bX11_addLetter_0 hK hwo hm (m_isData hm) (m_isClerk hm h7 hc) (fun q => e25 _ (by rw [if_pos (b2_n0.mp q)])) (fun q => e25 _ (by rw [if_neg (by rw [b2_0.mp q]; decide)]))
theorem r_pass (hm : isT w 11 312) {x : Int32} {n c t m : Nat} (hf : s_wf (I 313) n c t) (hf2 : s_wf (s_rem (I 313) m) n c t) (ht : t ≤ 2000) (h2 : I 312 2 = nI m) (hm6 : m ≤ 6) {k : Nat} (hk : k = if s_in x 1 300 = true then (if I 313 9 + x ≤ 2000 then 0 else 2) else 1) : CT G w gl (yX11_pass, cX11_pass, 3, some .int) 9 (0, 0) [.ref 312, .int x] I (qE (if k = 0 then nI (s_cnt (s_done (s_mins (s_rem (I 313) m) n x.toNatClampNeg)) n) - nI (s_cnt (s_done (s_rem (I 313) m)) n) else 0) (if k = 0 then rCh I m (s_mins (s_rem (I 313) m) n x.toNatClampNeg) else mT I k)) nX := by
  refine ct_of (by decide) [(0, .ref 312), (1, .int x)] rfl rfl (fun K hG hw hgl hwo hK => ?_)
  subst hG; subst hw; subst hgl
  have e43 : ∀ v2 a b : Int32, fk a b 0 = k → ZZ K (0, 0) 43 [(0, .ref 312), (1, .int x), (2, .int v2)] [.int b, .int a, .ref 312] I := fun v2 a b hfk => by
    have mf := m_fails (G := kG K) (w := kw K) (gl := kl K) (I := I) (v1 := a) (v2 := b) (v3 := 0) hm
    by_cases h0 : k = 0
    · rw [if_pos h0, if_pos h0] at hK
      rw [hfk, h0] at mf
      have hx : s_in x 1 300 = true := by
        by_cases z : s_in x 1 300 = true
        · exact z
        · rw [h0, if_neg z] at hk; omega
      unfold s_in at hx
      rw [Bool.and_eq_true] at hx
      obtain ⟨j, hj, ej⟩ := i_of (M := 300) (n := 300) (by decide) (Int32.le_trans (by decide) (of_decide_eq_true hx.1)) (of_decide_eq_true hx.2)
      rw [ej, nI_clamp (by omega)] at hK
      have mp := m_passMinutes (G := kG K) (w := kw K) (gl := kl K) (I := rCh I m (s_rem (I 313) m)) (n := n) (c := c) (t := t) (k := j) hm (by rw [rCh_313]; exact hf2) (by omega)
      rw [rCh_313, rCh_3] at mp
      rw [ej]
      exact bX11_pass_43 hK hwo hm hm mf (fun _ => m_rem0 hm h2 hm6) (fun _ => mp) (fun _ => qE_i rfl rfl) (fun q => absurd rfl q)
    · rw [if_neg h0, if_neg h0] at hK
      rw [hfk, decide_eq_false h0] at mf
      exact bX11_pass_43 (g3 := I) (f4 := 0) (g4 := I) hK hwo hm hm mf (fun q => absurd q (by decide)) (fun q => absurd q (by decide)) (fun q => absurd q (by decide)) (fun _ => qE_i rfl rfl)
  have e19 : ∀ v1 : Int32, v1 = (if s_in x 1 300 = true then 0 else 1) → ZZ K (0, 0) 19 [(0, .ref 312), (1, .int x), (2, .int (b2 (s_in x 1 300)))] [.int v1, .ref 312] I := fun v1 e1 => by
    refine bX11_pass_19 hK hwo hm hm (fun q => ?_) (fun q d => ?_) (fun q d => ?_)
    · refine bX11_pass_42 hK hwo hm hm (e43 _ _ _ ?_)
      rw [hk, e1, if_neg (by rw [b2_0.mp q]; decide), if_neg (by rw [b2_0.mp q]; decide)]; rfl
    · refine bX11_pass_42 hK hwo hm hm (e43 _ _ _ ?_)
      rw [hk, e1, if_pos (b2_n0.mp q), if_pos (b2_n0.mp q), if_pos d]; rfl
    · refine e43 _ _ _ ?_
      rw [hk, e1, if_pos (b2_n0.mp q), if_pos (b2_n0.mp q), if_neg d]; rfl
  exact bX11_pass_0 hK hwo hm m_in (fun q => e19 _ (by rw [if_pos (b2_n0.mp q)])) (fun q => e19 _ (by rw [if_neg (by rw [b2_0.mp q]; decide)]))
theorem r_setPolicy (hm : isT w 11 312) {x : Int32} {m : Nat} (h2 : I 312 2 = nI m) (hm6 : m ≤ 6) {k : Nat} (hk : k = if s_in x 0 4 = true then 0 else 1) : CT G w gl (yX11_setPolicy, cX11_setPolicy, 3, some .int) 2 (0, 0) [.ref 312, .int x] I (qE (if k = 0 then I 313 0 else 0) (if k = 0 then rCh I m (upd (s_rem (I 313) m) 0 x) else mT I k)) nX := by
  refine ct_of (by decide) [(0, .ref 312), (1, .int x)] rfl rfl (fun K hG hw hgl hwo hK => ?_)
  subst hG; subst hw; subst hgl
  refine bX11_setPolicy_0 hK hwo hm m_in (fun q => ?_) (fun q => ?_)
  · have e : k = 0 := by rw [hk, if_pos (b2_n0.mp q)]
    rw [if_pos e, if_pos e] at hK
    refine bX11_setPolicy_15 hK hwo hm hm (m_f0 hm) (fun _ => m_rem0 hm h2 hm6) (fun _ => ?_) (fun q => absurd rfl q)
    refine qE_i (by rw [rCh_313, rem_lo (by omega)]) ?_
    rw [up_def, rCh_313, rCh_3]
  · have e : k = 1 := by rw [hk, if_neg (by rw [b2_0.mp q]; decide)]
    rw [if_neg (by omega), if_neg (by omega), e] at hK
    exact bX11_setPolicy_15 (g3 := I) hK hwo hm hm (m_f1 hm) (fun q => absurd q (by decide)) (fun q => absurd q (by decide)) (fun _ => qE_i rfl rfl)
theorem m_change (hm : isT w 11 312) {x y lo hi : Int32} {f n m : Nat} (hf : f < 8) (hn : n ≤ 12) (h8 : I 313 8 = nI n) (h2 : I 312 2 = nI m) (hm6 : m ≤ 6) {k : Nat} (hk : k = if s_has x (I 313 8) = true then (if s_in y lo hi = true then 0 else 2) else 1) : CT G w gl (yX11_change, cX11_change, 7, some .int) 2 (0, 0) [.ref 312, .int x, .int (nI f), .int y, .int lo, .int hi] I (qE (if k = 0 then s_of (I 313) x.toNatClampNeg f else 0) (if k = 0 then rCh I m (s_set (s_rem (I 313) m) x.toNatClampNeg f y) else mT I k)) nX := by
  refine ct_of (by decide) [(0, .ref 312), (1, .int x), (2, .int (nI f)), (3, .int y), (4, .int lo), (5, .int hi)] rfl rfl (fun K hG hw hgl hwo hK => ?_)
  subst hG; subst hw; subst hgl
  have e30 : ∀ a b : Int32, fk a b 0 = k → ZZ K (0, 0) 30 [(0, .ref 312), (1, .int x), (2, .int (nI f)), (3, .int y), (4, .int lo), (5, .int hi)] [.int b, .int a, .ref 312] I := fun a b hfk => by
    have mf := m_fails (G := kG K) (w := kw K) (gl := kl K) (I := I) (v1 := a) (v2 := b) (v3 := 0) hm
    by_cases h0 : k = 0
    · rw [if_pos h0, if_pos h0] at hK
      rw [hfk, h0] at mf
      have hx : s_has x (I 313 8) = true := by
        by_cases z : s_has x (I 313 8) = true
        · exact z
        · rw [h0, if_neg z] at hk; omega
      obtain ⟨l, hl, el⟩ := has_nat h8 (by omega) hx
      rw [el, nI_clamp (by omega)] at hK
      have m1 := m_of (G := kG K) (w := kw K) (gl := kl K) (I := rCh I m (s_rem (I 313) m)) (l := l) (f := f) hm (by omega) hf
      have m2 := m_set (G := kG K) (w := kw K) (gl := kl K) (I := rCh I m (s_rem (I 313) m)) (l := l) (f := f) (x := y) hm (by omega) hf
      rw [rCh_313, show s_of (s_rem (I 313) m) l f = s_of (I 313) l f from rem_lo (by omega)] at m1
      rw [rCh_313, rCh_3] at m2
      rw [el]
      exact bX11_change_30 hK hwo hm hm mf (fun _ => m_rem0 hm h2 hm6) (fun _ => m1) (fun _ => m2) (fun _ => qE_i rfl rfl) (fun q => absurd rfl q)
    · rw [if_neg h0, if_neg h0] at hK
      rw [hfk, decide_eq_false h0] at mf
      exact bX11_change_30 (g3 := I) (f4 := 0) (g4 := I) (g5 := I) hK hwo hm hm mf (fun q => absurd q (by decide)) (fun q => absurd q (by decide)) (fun q => absurd q (by decide)) (fun q => absurd q (by decide)) (fun _ => qE_i rfl rfl)
  have e14 : ∀ v1 : Int32, v1 = (if s_has x (I 313 8) = true then 0 else 1) → ZZ K (0, 0) 14 [(0, .ref 312), (1, .int x), (2, .int (nI f)), (3, .int y), (4, .int lo), (5, .int hi)] [.int v1, .ref 312] I := fun v1 e1 => by
    refine bX11_change_14 hK hwo hm hm m_in (fun q => e30 _ _ ?_) (fun q => e30 _ _ ?_) <;> rw [hk, e1]
    · rw [if_pos (b2_n0.mp q)]
      by_cases z1 : s_has x (I 313 8) = true
      · rw [if_pos z1, if_pos z1]; rfl
      · rw [if_neg z1, if_neg z1]; rfl
    · have z2 := b2_0.mp q
      by_cases z1 : s_has x (I 313 8) = true
      · simp [z1, z2, fk]
      · simp [z1, z2, fk]
  exact bX11_change_0 hK hwo hm (m_isLetter hm h8 hn) (fun q => e14 _ (by rw [if_pos (b2_n0.mp q)])) (fun q => e14 _ (by rw [if_neg (by rw [b2_0.mp q]; decide)]))
theorem r_setDeadline (hm : isT w 11 312) {x y : Int32} {n m : Nat} (hn : n ≤ 12) (h8 : I 313 8 = nI n) (h2 : I 312 2 = nI m) (hm6 : m ≤ 6) {k : Nat} (hk : k = if s_has x (I 313 8) = true then (if s_in y 1 999 = true then 0 else 2) else 1) : CT G w gl (yX11_setDeadline, cX11_setDeadline, 3, some .int) 3 (0, 0) [.ref 312, .int x, .int y] I (qE (if k = 0 then s_of (I 313) x.toNatClampNeg 3 else 0) (if k = 0 then rCh I m (s_set (s_rem (I 313) m) x.toNatClampNeg 3 y) else mT I k)) nX := by
  refine ct_of (by decide) [(0, .ref 312), (1, .int x), (2, .int y)] rfl rfl (fun K hG hw hgl hwo hK => ?_)
  subst hG; subst hw; subst hgl
  exact bX11_setDeadline_0 hK hwo hm (m_change (f := 3) hm (by omega) hn h8 h2 hm6 hk) (qE_i rfl rfl)
theorem r_setPriority (hm : isT w 11 312) {x y : Int32} {n m : Nat} (hn : n ≤ 12) (h8 : I 313 8 = nI n) (h2 : I 312 2 = nI m) (hm6 : m ≤ 6) {k : Nat} (hk : k = if s_has x (I 313 8) = true then (if s_in y 0 9 = true then 0 else 2) else 1) : CT G w gl (yX11_setPriority, cX11_setPriority, 3, some .int) 3 (0, 0) [.ref 312, .int x, .int y] I (qE (if k = 0 then s_of (I 313) x.toNatClampNeg 4 else 0) (if k = 0 then rCh I m (s_set (s_rem (I 313) m) x.toNatClampNeg 4 y) else mT I k)) nX := by
  refine ct_of (by decide) [(0, .ref 312), (1, .int x), (2, .int y)] rfl rfl (fun K hG hw hgl hwo hK => ?_)
  subst hG; subst hw; subst hgl
  exact bX11_setPriority_0 hK hwo hm (m_change (f := 4) hm (by omega) hn h8 h2 hm6 hk) (qE_i rfl rfl)
theorem r_discard (hm : isT w 11 312) {x : Int32} {n m : Nat} (hn : n ≤ 12) (h8 : I 313 8 = nI n) (h2 : I 312 2 = nI m) (hm6 : m ≤ 6) {k : Nat} (hk : k = if s_has x (I 313 8) = true then (if s_open (I 313) x.toNatClampNeg = true then 0 else 2) else 1) : CT G w gl (yX11_discard, cX11_discard, 3, some .int) 3 (0, 0) [.ref 312, .int x] I (qE (if k = 0 then s_of (I 313) x.toNatClampNeg 5 else 0) (if k = 0 then rCh I m (s_drop (s_rem (I 313) m) x.toNatClampNeg) else mT I k)) nX := by
  refine ct_of (by decide) [(0, .ref 312), (1, .int x)] rfl rfl (fun K hG hw hgl hwo hK => ?_)
  subst hG; subst hw; subst hgl
  have e33 : ∀ v2 a b : Int32, fk a b 0 = k → ZZ K (0, 0) 33 [(0, .ref 312), (1, .int x), (2, .int v2)] [.int b, .int a, .ref 312] I := fun v2 a b hfk => by
    have mf := m_fails (G := kG K) (w := kw K) (gl := kl K) (I := I) (v1 := a) (v2 := b) (v3 := 0) hm
    by_cases h0 : k = 0
    · rw [if_pos h0, if_pos h0] at hK
      rw [hfk, h0] at mf
      have hx : s_has x (I 313 8) = true := by
        by_cases z : s_has x (I 313 8) = true
        · exact z
        · rw [h0, if_neg z] at hk; omega
      obtain ⟨l, hl, el⟩ := has_nat h8 (by omega) hx
      rw [el, nI_clamp (by omega)] at hK
      have m1 := m_throwAway (G := kG K) (w := kw K) (gl := kl K) (I := rCh I m (s_rem (I 313) m)) (l := l) hm (by omega)
      rw [rCh_313, rCh_3, show s_of (s_rem (I 313) m) l 5 = s_of (I 313) l 5 from rem_lo (by omega)] at m1
      rw [el]
      exact bX11_discard_33 hK hwo hm hm mf (fun _ => m_rem0 hm h2 hm6) (fun _ => m1) (fun _ => qE_i rfl rfl) (fun q => absurd rfl q)
    · rw [if_neg h0, if_neg h0] at hK
      rw [hfk, decide_eq_false h0] at mf
      exact bX11_discard_33 (g3 := I) (f4 := 0) (g4 := I) hK hwo hm hm mf (fun q => absurd q (by decide)) (fun q => absurd q (by decide)) (fun q => absurd q (by decide)) (fun _ => qE_i rfl rfl)
  refine bX11_discard_0 hK hwo hm (m_isLetter hm h8 hn) (fun q => ?_) (fun q => ?_)
  · have hx := b2_n0.mp q
    obtain ⟨l, hl, el⟩ := has_nat h8 (by omega) hx
    have mo : CT (kG K) (kw K) (kl K) (yX11_isOpen, cX11_isOpen, 2, some .boolean) 2 (0, 0) [.ref 312, .int x] I (qE (b2 (s_open (I 313) x.toNatClampNeg)) I) nX := by
      rw [el, nI_clamp (by omega)]; exact m_isOpen hm (by omega)
    refine bX11_discard_16 hK hwo hm hm (fun z => absurd z q) (fun _ => mo) (fun _ d => bX11_discard_32 hK hwo hm hm (e33 _ _ _ ?_)) (fun _ d => e33 _ _ _ ?_) <;> rw [hk, if_pos hx]
    · rw [if_pos (b2_n0.mp d)]; rfl
    · rw [if_neg (by rw [b2_0.mp d]; decide)]; rfl
  · refine bX11_discard_16 (f3 := 0) (g3 := I) hK hwo hm hm (fun _ => bX11_discard_32 hK hwo hm hm (e33 _ _ _ ?_)) (fun z => absurd q z) (fun z => absurd q z) (fun z => absurd q z)
    rw [hk, if_neg (by rw [b2_0.mp q]; decide)]; rfl
def s_ext (B : zBk) (l : Nat) (y : Int32) : zBk := s_set (s_set B l 1 (s_of B l 1 + y)) l 5 (s_of B l 5 + y)
theorem r_extend (hm : isT w 11 312) {x y : Int32} {n m : Nat} (hn : n ≤ 12) (h8 : I 313 8 = nI n) (h2 : I 312 2 = nI m) (hm6 : m ≤ 6) {k : Nat} (hk : k = if s_has x (I 313 8) = true then (if s_in y 1 29 = true then (if s_done (I 313) x.toNatClampNeg = true ∨ ¬ s_of (I 313) x.toNatClampNeg 1 + y ≤ 30 then 3 else 0) else 2) else 1) : CT G w gl (yX11_extend, cX11_extend, 4, some .int) 2 (0, 0) [.ref 312, .int x, .int y] I (qE (if k = 0 then s_of (I 313) x.toNatClampNeg 5 + y else 0) (if k = 0 then rCh I m (s_ext (s_rem (I 313) m) x.toNatClampNeg y) else mT I k)) nX := by
  refine ct_of (by decide) [(0, .ref 312), (1, .int x), (2, .int y)] rfl rfl (fun K hG hw hgl hwo hK => ?_)
  subst hG; subst hw; subst hgl
  have e83 : ∀ v3 a b c : Int32, fk a b c = k → ZZ K (0, 0) 83 [(0, .ref 312), (1, .int x), (2, .int y), (3, .int v3)] [.int c, .int b, .int a, .ref 312] I := fun v3 a b c hfk => by
    have mf := m_fails (G := kG K) (w := kw K) (gl := kl K) (I := I) (v1 := a) (v2 := b) (v3 := c) hm
    by_cases h0 : k = 0
    · rw [if_pos h0, if_pos h0] at hK
      rw [hfk, h0] at mf
      have hx : s_has x (I 313 8) = true := by
        by_cases z : s_has x (I 313 8) = true
        · exact z
        · rw [h0, if_neg z] at hk; omega
      obtain ⟨l, hl, el⟩ := has_nat h8 (by omega) hx
      rw [el, nI_clamp (by omega)] at hK
      have rd : ∀ (C : zBk) (f : Nat), f < 8 → CT (kG K) (kw K) (kl K) (yX11_of, cX11_of, 3, some .int) 0 (0, 0) [.ref 312, .int (nI l), .int (nI f)] (rCh I m C) (qE (s_of C l f) (rCh I m C)) nX := fun C f hf => by
        have m1 := m_of (G := kG K) (w := kw K) (gl := kl K) (I := rCh I m C) (l := l) (f := f) hm (by omega) hf
        rw [rCh_313] at m1
        exact m1
      have wr : ∀ (C : zBk) (f : Nat) (v : Int32), f < 8 → CT (kG K) (kw K) (kl K) (yX11_set, cX11_set, 4, none) 0 (0, 0) [.ref 312, .int (nI l), .int (nI f), .int v] (rCh I m C) (qV (fun J => J = rCh I m (s_set C l f v))) nX := fun C f v hf => by
        have m2 := m_set (G := kG K) (w := kw K) (gl := kl K) (I := rCh I m C) (l := l) (f := f) (x := v) hm (by omega) hf
        rw [rCh_313, rCh_3] at m2
        exact m2
      rw [el]
      refine bX11_extend_83 hK hwo hm hm mf (fun _ => m_rem0 hm h2 hm6) (fun _ => rd _ 1 (by omega)) (fun _ => wr _ 1 _ (by omega)) (fun _ => rd _ 5 (by omega)) (fun _ => wr _ 5 _ (by omega)) (fun _ => rd _ 5 (by omega)) (fun _ => ?_) (fun q => absurd rfl q)
      have e5 : s_of (s_rem (I 313) m) l 5 = s_of (I 313) l 5 := rem_lo (by omega)
      rw [of_set (by omega) (by omega), if_pos ⟨rfl, rfl⟩, of_set (by omega) (by omega), if_neg (by omega), e5]
      refine qE_i rfl ?_
      unfold s_ext
      rw [e5]
    · rw [if_neg h0, if_neg h0] at hK
      rw [hfk, decide_eq_false h0] at mf
      exact bX11_extend_83 (g3 := I) (f4 := 0) (g4 := I) (g5 := I) (f6 := 0) (g6 := I) (g7 := I) (f8 := 0) (g8 := I) hK hwo hm hm mf (fun q => absurd q (by decide)) (fun q => absurd q (by decide)) (fun q => absurd q (by decide)) (fun q => absurd q (by decide)) (fun q => absurd q (by decide)) (fun q => absurd q (by decide)) (fun q => absurd q (by decide)) (fun _ => qE_i rfl rfl)
  have e53 : ∀ (g : Bool) (a b : Int32), g = (s_has x (I 313 8) && s_in y 1 29) → a = (if s_has x (I 313 8) = true then 0 else 1) → b = (if s_in y 1 29 = true then 0 else 1) → ZZ K (0, 0) 53 [(0, .ref 312), (1, .int x), (2, .int y), (3, .int (b2 g))] [.int b, .int a, .ref 312] I := fun g a b eg ea eb => by
    cases hg : g with
    | false =>
      rw [hg] at eg
      have hn1 : ¬ (s_has x (I 313 8) = true ∧ s_in y 1 29 = true) := fun z => by rw [z.1, z.2] at eg; cases eg
      refine bX11_extend_53 (f3 := 0) (g3 := I) (f6 := 0) (g6 := I) hK hwo hm hm (fun _ => bX11_extend_82 hK hwo hm hm (e83 _ _ _ _ ?_)) (fun q => absurd rfl q) (fun q => absurd rfl q) (fun q => absurd rfl q) (fun q => absurd rfl q) (fun q => absurd rfl q)
      rw [hk, ea, eb]
      by_cases z1 : s_has x (I 313 8) = true
      · by_cases z2 : s_in y 1 29 = true
        · exact absurd ⟨z1, z2⟩ hn1
        · rw [if_pos z1, if_pos z1, if_neg z2, if_neg z2]; rfl
      · rw [if_neg z1, if_neg z1]; rfl
    | true =>
      rw [hg] at eg
      have h12 : s_has x (I 313 8) = true ∧ s_in y 1 29 = true := by
        have := eg.symm; rw [Bool.and_eq_true] at this; exact this
      obtain ⟨l, hl, el⟩ := has_nat h8 (by omega) h12.1
      have md : CT (kG K) (kw K) (kl K) (yX11_isDone, cX11_isDone, 2, some .boolean) 1 (0, 0) [.ref 312, .int x] I (qE (b2 (s_done (I 313) x.toNatClampNeg)) I) nX := by
        rw [el, nI_clamp (by omega)]; exact m_isDone hm (by omega)
      have mo : CT (kG K) (kw K) (kl K) (yX11_of, cX11_of, 3, some .int) 0 (0, 0) [.ref 312, .int x, .int 1] I (qE (s_of (I 313) x.toNatClampNeg 1) I) nX := by
        rw [el, nI_clamp (by omega)]; exact m_of (f := 1) hm (by omega) (by omega)
      rw [if_pos h12.1, if_pos h12.2] at hk
      rw [if_pos h12.1] at ea
      rw [if_pos h12.2] at eb
      refine bX11_extend_53 hK hwo hm hm (fun q => absurd q (by decide)) (fun _ => md) (fun _ q => e83 _ _ _ _ ?_) (fun _ _ => mo) (fun _ q d => bX11_extend_82 hK hwo hm hm (e83 _ _ _ _ ?_)) (fun _ q d => e83 _ _ _ _ ?_) <;> rw [hk, ea, eb]
      · rw [if_pos (Or.inl (b2_n0.mp q))]; rfl
      · rw [if_neg (by rintro (z | z); exact absurd (z.symm.trans (b2_0.mp q)) (by decide); exact z d)]; rfl
      · rw [if_pos (Or.inr d)]; rfl
  have e38 : ∀ (g : Bool) (a : Int32), g = (s_has x (I 313 8) && s_in y 1 29) → a = (if s_has x (I 313 8) = true then 0 else 1) → ZZ K (0, 0) 38 [(0, .ref 312), (1, .int x), (2, .int y), (3, .int (b2 g))] [.int a, .ref 312] I := fun g a eg ea =>
    bX11_extend_38 hK hwo hm hm m_in (fun q => e53 g _ _ eg ea (by rw [if_pos (b2_n0.mp q)])) (fun q => e53 g _ _ eg ea (by rw [if_neg (by rw [b2_0.mp q]; decide)]))
  have e23 : ∀ (g : Bool), g = (s_has x (I 313 8) && s_in y 1 29) → ZZ K (0, 0) 23 [(0, .ref 312), (1, .int x), (2, .int y)] [.int (b2 g)] I := fun g eg =>
    bX11_extend_23 hK hwo hm (m_isLetter hm h8 hn) (fun q => e38 g _ eg (by rw [if_pos (b2_n0.mp q)])) (fun q => e38 g _ eg (by rw [if_neg (by rw [b2_0.mp q]; decide)]))
  refine bX11_extend_0 hK hwo hm (m_isLetter hm h8 hn) (fun q => bX11_extend_22 hK hwo hm (e23 false (by rw [b2_0.mp q]; rfl))) (fun _ => m_in) (fun q d => bX11_extend_22 hK hwo hm (e23 false (by rw [b2_0.mp d, Bool.and_false]))) (fun q d => e23 true (by rw [b2_n0.mp q, b2_n0.mp d]; rfl))
theorem r_undo (hm : isT w 11 312) {m : Nat} (h2 : I 312 2 = nI m) (hm6 : m ≤ 6) : CT G w gl (yX11_undo, cX11_undo, 1, some .int) 1 (0, 0) [.ref 312] I (qE (if m = 0 then 0 else nI (m - 1)) (if m = 0 then mT I 1 else rM I (upd (upd (I 312) 9 0) 2 (nI (m - 1))) (s_cpb (I 313) m 0 160))) nX := by
  refine ct_of (by decide) [(0, .ref 312)] rfl rfl (fun K hG hw hgl hwo hK => ?_)
  subst hG; subst hw; subst hgl
  refine bX11_undo_0 hK hwo hm ?_ ?_ <;> rw [h2] <;> intro q
  · have h0 : m ≠ 0 := fun z => q (by rw [z]; rfl)
    rw [if_neg h0, if_neg h0] at hK
    have h9 : (mT I 0) 312 2 = nI m := by rw [mT_312 (by decide)]; exact h2
    refine bX11_undo_13 (g3 := rM I (upd (I 312) 9 0) (s_cpb (I 313) m 0 160)) hK hwo hm hm (m_f0 hm) (fun _ => ?_) (fun _ => ?_) (fun z => absurd rfl z)
    · rw [h9, mT_rM]; exact c_copyBlock (b := 0) hm (by omega) (by omega) h0
    · obtain ⟨k, rfl⟩ : ∃ k, m = k + 1 := ⟨m - 1, by omega⟩
      rw [rM_312, upd_ne _ _ (show 2 ≠ 9 by decide), h2, nI_pred, up_def, rM_312, rM_2, rM_312, upd_same]
      exact qE_i rfl rfl
  · have h0 : m = 0 := (nI_eq (a := m) (b := 0) (by omega) (by omega)).mp q
    rw [if_pos h0, if_pos h0] at hK
    exact bX11_undo_13 (g3 := I) hK hwo hm hm (m_f1 hm) (fun z => absurd z (by decide)) (fun z => absurd z (by decide)) (fun _ => qE_i rfl rfl)
theorem r_save (hm : isT w 11 312) {x : Int32} {k : Nat} (hk : k = if s_in x 0 1 = true then 0 else 1) : CT G w gl (yX11_save, cX11_save, 2, some .int) 1 (0, 0) [.ref 312, .int x] I (qE (if k = 0 then I 313 9 else 0) (if k = 0 then up (rM I (upd (I 312) 9 0) (s_cpb (I 313) 0 (7 + x.toNatClampNeg) 160)) 314 x.toNatClampNeg (vp_nar .boolean 1) else mT I k)) nX := by
  refine ct_of (by decide) [(0, .ref 312), (1, .int x)] rfl rfl (fun K hG hw hgl hwo hK => ?_)
  subst hG; subst hw; subst hgl
  refine bX11_save_0 hK hwo hm m_in (fun q => ?_) (fun q => ?_)
  · have hx := b2_n0.mp q
    have e : k = 0 := by rw [hk, if_pos hx]
    rw [if_pos e, if_pos e] at hK
    unfold s_in at hx
    rw [Bool.and_eq_true] at hx
    obtain ⟨j, hj, ej⟩ := i_of (M := 1) (n := 1) (by decide) (of_decide_eq_true hx.1) (of_decide_eq_true hx.2)
    rw [ej, nI_clamp (by omega)] at hK
    refine bX11_save_15 (g3 := rM I (upd (I 312) 9 0) (s_cpb (I 313) 0 (7 + j) 160)) hK hwo hm hm (m_f0 hm) (fun _ => ?_) (fun _ => by rw [ej]; exact vp_in_nI (by omega) (by omega)) (fun _ => ?_) (fun z => absurd rfl z)
    · rw [ej, show (7 : Int32) + nI j = nI (7 + j) from nI_add 7 j, mT_rM]
      exact c_copyBlock (a := 0) hm (by omega) (by omega) (by omega)
    · rw [ej, nI_clamp (by omega), up_def, ups_ne _ _ (by decide), rM_313, cpb_lo (by omega)]
      exact qE_i rfl rfl
  · have e : k = 1 := by rw [hk, if_neg (by rw [b2_0.mp q]; decide)]
    rw [if_neg (by omega), if_neg (by omega), e] at hK
    exact bX11_save_15 (g3 := I) hK hwo hm hm (m_f1 hm) (fun z => absurd z (by decide)) (fun z => absurd z (by decide)) (fun z => absurd z (by decide)) (fun _ => qE_i rfl rfl)
theorem r_restore (hm : isT w 11 312) {x : Int32} {k : Nat} (hk : k = if s_in x 0 1 = true then (if I 314 x.toNatClampNeg = 0 then 2 else 0) else 1) : CT G w gl (yX11_restore, cX11_restore, 3, some .int) 1 (0, 0) [.ref 312, .int x] I (qE (if k = 0 then I 313 ((7 + x.toNatClampNeg) * 160 + 9) else 0) (if k = 0 then rM I (upd (upd (I 312) 9 0) 2 0) (s_cpb (I 313) (7 + x.toNatClampNeg) 0 160) else mT I k)) nX := by
  refine ct_of (by decide) [(0, .ref 312), (1, .int x)] rfl rfl (fun K hG hw hgl hwo hK => ?_)
  subst hG; subst hw; subst hgl
  have e35 : ∀ v2 a b : Int32, fk a b 0 = k → (k = 0 → s_in x 0 1 = true) → ZZ K (0, 0) 35 [(0, .ref 312), (1, .int x), (2, .int v2)] [.int b, .int a, .ref 312] I := fun v2 a b hfk hin => by
    have mf := m_fails (G := kG K) (w := kw K) (gl := kl K) (I := I) (v1 := a) (v2 := b) (v3 := 0) hm
    by_cases h0 : k = 0
    · rw [if_pos h0, if_pos h0] at hK
      rw [hfk, h0] at mf
      have hx := hin h0
      unfold s_in at hx
      rw [Bool.and_eq_true] at hx
      obtain ⟨j, hj, ej⟩ := i_of (M := 1) (n := 1) (by decide) (of_decide_eq_true hx.1) (of_decide_eq_true hx.2)
      rw [ej, nI_clamp (by omega)] at hK
      refine bX11_restore_35 (g3 := rM I (upd (I 312) 9 0) (s_cpb (I 313) (7 + j) 0 160)) hK hwo hm hm mf (fun _ => ?_) (fun _ => ?_) (fun z => absurd rfl z)
      · rw [ej, show (7 : Int32) + nI j = nI (7 + j) from nI_add 7 j, mT_rM]
        exact c_copyBlock (b := 0) hm (by omega) (by omega) (by omega)
      · rw [up_def, rM_312, rM_2, rM_313]
        refine qE_i ?_ rfl
        have := cpb_at (B := I 313) (a := 7 + j) (b := 0) (k := 160) (j := 9) (by omega)
        rw [Nat.zero_mul, Nat.zero_add] at this
        exact this
    · rw [if_neg h0, if_neg h0] at hK
      rw [hfk, decide_eq_false h0] at mf
      exact bX11_restore_35 (g3 := I) hK hwo hm hm mf (fun q => absurd q (by decide)) (fun q => absurd q (by decide)) (fun _ => qE_i rfl rfl)
  refine bX11_restore_0 hK hwo hm m_in (fun q => ?_) (fun q => ?_)
  · have hx := b2_n0.mp q
    rw [if_pos hx] at hk
    refine bX11_restore_17 hK hwo hm hm (fun z => absurd z q) (fun _ => ?_) (fun _ d => bX11_restore_34 hK hwo hm hm (e35 _ _ _ ?_ (fun _ => hx))) (fun _ d => e35 _ _ _ ?_ (fun _ => hx))
    · unfold s_in at hx
      rw [Bool.and_eq_true] at hx
      obtain ⟨j, hj, ej⟩ := i_of (M := 1) (n := 1) (by decide) (of_decide_eq_true hx.1) (of_decide_eq_true hx.2)
      rw [ej]; exact vp_in_nI (by omega) (by omega)
    · rw [hk, if_neg d]; rfl
    · rw [hk, if_pos d]; rfl
  · rw [if_neg (by rw [b2_0.mp q]; decide)] at hk
    exact bX11_restore_17 hK hwo hm hm (fun _ => bX11_restore_34 hK hwo hm hm (e35 _ _ _ (by rw [hk]; rfl) (fun z => by omega))) (fun z => absurd q z) (fun z => absurd q z) (fun z => absurd q z)
end RCH
