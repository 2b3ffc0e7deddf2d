/-! UTILIZATION AND THE MEAN TURNAROUND, of both -/
def qF (x : UInt32) (I : zM) : Option Value → zM → Prop := fun v J => v = some (.float x) ∧ J = I
def qD (x : UInt64) (I : zM) : Option Value → zM → Prop := fun v J => v = some (.double x) ∧ J = I
def fl_util (a b : Int32) : UInt32 := if b = 0 then FP.fconst0 else FP.fdiv (FP.i2f a) (FP.i2f b)
def fl_turn (a b : Int32) : UInt64 := if b = 0 then FP.dconst0 else FP.ddiv (FP.i2d a) (FP.i2d b)
theorem fc0_num : FP.Core.decode FP.Core.b32 (FP.fconst0).toNat ≠ .nan := by decide +kernel
theorem dc0_num : FP.Core.decode FP.Core.b64 (FP.dconst0).toNat ≠ .nan := by decide +kernel
theorem nIz {t : Nat} (ht : t < 2 ^ 31) (h : t ≠ 0) : ¬ nI t = 0 := fun z => h ((nI_eq (a := t) (b := 0) ht (by omega)).mp z)
theorem util_num {a : Int32} {t : Nat} (ht : t ≤ 2000) : FP.Core.decode FP.Core.b32 (fl_util a (nI t)).toNat ≠ .nan := by
  unfold fl_util
  by_cases h : t = 0
  · rw [if_pos (by rw [h]; rfl)]; exact fc0_num
  · rw [if_neg (nIz (by omega) h)]
    exact (div32 (i2f_num a) (i2f_pos h ht)).2
theorem turn_num {a : Int32} {t : Nat} (ht : t ≤ 12) : FP.Core.decode FP.Core.b64 (fl_turn a (nI t)).toNat ≠ .nan := by
  unfold fl_turn
  by_cases h : t = 0
  · rw [if_pos (by rw [h]; rfl)]; exact dc0_num
  · rw [if_neg (nIz (by omega) h)]
    exact (div64 (i2d_num a) (i2d_pos h ht)).2
theorem pos_nI {t : Nat} (ht : t < 2 ^ 31) : 0 < nI t ↔ t ≠ 0 := by
  rw [show (0 : Int32) = nI 0 from rfl, nI_ltI (by omega) ht]; omega
section FLC
variable {G : zG} {w : Nat × Nat} {gl : Launch} {I : zM} {n t : Nat}
theorem c_utilization (hx : isT w 10 0) (h9 : I 288 4 = nI t) (ht : t ≤ 2000) : CT G w gl (yX10_utilization, cX10_utilization, 1, some .float) 0 (0, 0) [.ref 0] I (qF (fl_util (I 288 15) (nI t)) I) nX := by
  refine ct_of (by decide) [(0, .ref 0)] rfl rfl (fun K hG hw hgl hwo hK => ?_)
  subst hG; subst hw; subst hgl
  refine fX10_utilization_0 hK hwo hx ?_ ?_ ?_ <;> rw [h9, pos_nI (by omega)] <;> intro c
  · exact (div32 (i2f_num _) (i2f_pos c ht)).1
  · refine ⟨?_, rfl⟩
    unfold fl_util
    rw [if_neg (nIz (by omega) c)]
  · refine ⟨?_, rfl⟩
    have c : t = 0 := by omega
    unfold fl_util
    rw [if_pos (by rw [c]; rfl)]
theorem r_utilization (hm : isT w 11 312) (h9 : I 313 9 = nI t) (ht : t ≤ 2000) : CT G w gl (yX11_utilization, cX11_utilization, 1, some .float) 0 (0, 0) [.ref 312] I (qF (fl_util (I 313 18) (nI t)) (mT I 0)) nX := by
  refine ct_of (by decide) [(0, .ref 312)] rfl rfl (fun K hG hw hgl hwo hK => ?_)
  subst hG; subst hw; subst hgl
  have e : up I 312 9 0 313 = I 313 := ups_ne _ _ (by decide)
  refine fX11_utilization_0 hK hwo hm ?_ ?_ ?_ <;> rw [e, h9, show (nI t = 0) = (t = 0) from propext (nI_eq (a := t) (b := 0) (by omega) (by omega))] <;> intro c
  · exact (div32 (i2f_num _) (i2f_pos c ht)).1
  · refine ⟨?_, rfl⟩
    unfold fl_util
    rw [if_neg (nIz (by omega) c)]
  · refine ⟨?_, rfl⟩
    unfold fl_util
    rw [if_pos (by rw [c]; rfl)]
def s_tsum (B : zBk) (n : Nat) : Int32 := s_sum (fun l => if s_done B l = true then s_of B l 6 - s_of B l 2 else 0) n
theorem c_meanTurnaround (hx : isT w 10 0) (h8 : vB I 288 8 = nI n) (hn : n ≤ 12) (h0 : ∀ l, l < n → 0 ≤ s_of (vB I 288) l 5) : CT G w gl (yX10_meanTurnaround, cX10_meanTurnaround, 2, some .double) 1 (0, 0) [.ref 0] I (qD (fl_turn (s_tsum (vB I 288) n) (nI (s_cnt (s_done (vB I 288)) n))) I) nX := by
  refine ct_of (by decide) [(0, .ref 0)] rfl rfl (fun K hG hw hgl hwo hK => ?_)
  subst hG; subst hw; subst hgl
  have m1 := k_countOpen (G := kG K) (w := kw K) (gl := kl K) (I := I) (s := 288) (B := vB I 288) (cu := I 288 7) (hx.st hwo) h8 hn h0
  have m2 := k_totalTurnaround (G := kG K) (w := kw K) (gl := kl K) (I := I) (s := 288) (B := vB I 288) (cu := I 288 7) (hx.st hwo) h8 hn
  rw [sput_self] at m1 m2
  have e : I 288 3 - nI (s_cnt (fun l => !s_done (vB I 288) l) n) = nI (s_cnt (s_done (vB I 288)) n) := by
    have hc := cnt_not (s_done (vB I 288)) n
    rw [show I 288 3 = nI n from h8, nI_sub (by omega)]
    congr 1; omega
  have hle := s_cnt_le (s_done (vB I 288)) n
  refine fX10_meanTurnaround_0 hK hwo hx m1 (fun _ => m2) ?_ ?_ ?_ <;> rw [e, pos_nI (by omega)] <;> intro c
  · exact (div64 (i2d_num _) (i2d_pos c (by omega))).1
  · refine ⟨?_, rfl⟩
    unfold fl_turn
    rw [if_neg (nIz (by omega) c)]
    rfl
  · refine ⟨?_, rfl⟩
    have c : s_cnt (s_done (vB I 288)) n = 0 := by omega
    unfold fl_turn
    rw [if_pos (by rw [c]; rfl)]
theorem r_meanTurnaround (hm : isT w 11 312) (h8 : I 313 8 = nI n) (hn : n ≤ 12) : CT G w gl (yX11_meanTurnaround, cX11_meanTurnaround, 3, some .double) 3 (0, 0) [.ref 312] I (qD (fl_turn (s_tsum (I 313) n) (nI (s_cnt (s_done (I 313)) n))) (mT I 0)) nX := by
  refine ct_of (by decide) [(0, .ref 312)] rfl rfl (fun K hG hw hgl hwo hK => ?_)
  subst hG; subst hw; subst hgl
  have hle := s_cnt_le (s_done (I 313)) n
  have rd : ∀ l f : Nat, l < 12 → f < 8 → CT (kG K) (kw K) (kl K) (yX11_of, cX11_of, 3, some .int) 0 (0, 0) [.ref 312, .int (nI l), .int (nI f)] (mT I 0) (qE (s_of (I 313) l f) (mT I 0)) nX := fun l f hl hf => by
    have h := m_of (G := kG K) (w := kw K) (gl := kl K) (I := mT I 0) (l := l) (f := f) hm hl hf
    rw [mT_313] at h; exact h
  have key : ∀ k l, l + k = n → ZZ K (0, 0) 9 [(0, .ref 312), (1, .int (s_tsum (I 313) l)), (2, .int (nI l))] [] (mT I 0) := by
    intro k
    induction k with
    | zero =>
      intro l hl
      have le : mT I 0 313 8 ≤ nI l := by rw [mT_313, h8, show l = n by omega]; exact Int32.le_refl _
      have md := m_doneCount (G := kG K) (w := kw K) (gl := kl K) (I := mT I 0) (n := n) hm hn (by rw [mT_313]; exact h8)
      rw [mT_313] at md
      have el : l = n := by omega
      subst el
      refine fX11_meanTurnaround_9 (f7 := 0) (g7 := I) (f10 := 0) (g10 := I) (f11 := 0) (g11 := I) hK hwo hm (fun _ => md) (fun _ c => ?_) (fun _ c => ⟨?_, rfl⟩) (fun _ c => ⟨?_, rfl⟩) (fun z => absurd le z) (fun z => absurd le z) (fun z => absurd le z) (fun z => absurd le z) (fun z => absurd le z)
      · exact (div64 (i2d_num _) (i2d_pos (fun z => c (by rw [z]; rfl)) (by omega))).1
      · unfold fl_turn; rw [if_neg c]
      · unfold fl_turn; rw [if_pos c]
    | succ k ih =>
      intro l hl
      have nle : ¬ mT I 0 313 8 ≤ nI l := by rw [mT_313, h8]; exact nI_ge (by omega) (by omega)
      have hnx := ih (l + 1) (by omega)
      have mi := m_isDone (G := kG K) (w := kw K) (gl := kl K) (I := mT I 0) (l := l) hm (by omega)
      rw [mT_313] at mi
      refine fX11_meanTurnaround_9 (f2 := 0) (g2 := I) hK hwo hm (fun z => absurd z nle) (fun z => absurd z nle) (fun z => absurd z nle) (fun z => absurd z nle) (fun _ => mi) (fun _ c => ?_) (fun _ _ => rd l 6 (by omega) (by omega)) (fun _ _ => rd l 2 (by omega) (by omega)) (fun _ c => ?_)
      · rw [nI_1]
        rw [show s_tsum (I 313) (l + 1) = s_tsum (I 313) l + 0 by show s_tsum (I 313) l + (if s_done (I 313) l = true then _ else _) = _; rw [if_neg (by rw [b2_0.mp c]; decide)]] at hnx
        exact hnx
      · rw [nI_1]
        rw [show s_tsum (I 313) (l + 1) = s_tsum (I 313) l + (s_of (I 313) l 6 - s_of (I 313) l 2) by show s_tsum (I 313) l + (if s_done (I 313) l = true then _ else _) = _; rw [if_pos (b2_n0.mp c)]] at hnx
        exact hnx
  exact fX11_meanTurnaround_0 hK hwo hm (key n 0 (by omega))
end FLC
