/-! THE REFERENCE: the minute -/
section RFC
variable {G : zG} {w : Nat × Nat} {gl : Launch} {I : zM}
theorem m_refill (hm : isT w 11 312) : CT G w gl (yX11_refill, cX11_refill, 1, none) 0 (0, 0) [.ref 312] I (qV (fun J => J = ups I 313 (s_refill (I 313)))) nX := by
  refine ct_of (by decide) [(0, .ref 312)] rfl rfl (fun K hG hw hgl hwo hK => ?_)
  subst hG; subst hw; subst hgl
  refine bX11_refill_0 hK hwo hm ?_ ?_ <;> intro c <;> refine qV_i ?_ <;> simp only [up_def, ups_same, ups_ups] at c ⊢ <;> unfold s_refill <;> dsimp only
  · rw [if_neg c]
  · rw [if_pos c]
theorem m_ink {B : zBk} {K : zK} {P : Option Value → zM → Prop} {X : String → zM → Prop} (hK : zIs K RX11 cX11_write 4 none 3 (0, 0) P X) (hwo : wOK (kw K)) (hm : isT (kw K) 11 312) {v1 v2 v3 : Int32} (hP : P none (ups I 313 (s_ink B))) : ZZ K (0, 0) 201 [(0, .ref 312), (1, .int v1), (2, .int v2), (3, .int v3)] [] (ups I 313 B) := by
  refine bX11_write_201 hK hwo hm ?_ ?_ ?_
  · intro c d; simp only [up_def, ups_same, ups_ups] at c d ⊢
    unfold s_ink at hP; dsimp only at hP; rw [if_pos c, if_neg d] at hP; exact hP
  · intro c d; simp only [up_def, ups_same, ups_ups] at c d ⊢
    unfold s_ink at hP; dsimp only at hP; rw [if_pos c, if_pos d] at hP; exact hP
  · intro c; simp only [up_def, ups_same, ups_ups] at c ⊢
    unfold s_ink at hP; dsimp only at hP; rw [if_neg c] at hP; exact hP
theorem m_mark {B : zBk} {l : Nat} (hl : l < 12) {K : zK} {P : Option Value → zM → Prop} {X : String → zM → Prop} (hK : zIs K RX11 cX11_write 4 none 3 (0, 0) P X) (hwo : wOK (kw K)) (hm : isT (kw K) 11 312) {v2 v3 r : Int32} (hP : P none (ups I 313 (s_ink (s_mark B l r)))) : ZZ K (0, 0) 127 [(0, .ref 312), (1, .int (nI l)), (2, .int v2), (3, .int v3)] [.int r, .int (12 : Int32), .ref 313] (ups I 313 B) := by
  have e12 : (12 : Int32).toNatClampNeg = 12 := rfl
  refine bX11_write_127 hK hwo hm (hm.f (k := 0) (d := 20) hwo rfl rfl rfl (by decide)) (zin rfl) (m_of hm (f := 5) hl (by omega)) (m_set hm (f := 5) hl (by omega)) (m_of hm (f := 7) hl (by omega)) (m_set hm (f := 7) hl (by omega)) (m_isDone hm hl) ?_ (fun _ => m_set hm (f := 6) hl (by omega)) ?_
  · intro c
    simp only [up_def, ups_same, ups_ups, e12] at c ⊢
    refine m_ink hK hwo hm ?_
    unfold s_mark at hP; dsimp only at hP
    rw [if_neg (by rw [b2_0.mp c]; decide)] at hP
    exact hP
  · intro c
    simp only [up_def, ups_same, ups_ups, e12] at c ⊢
    refine m_ink hK hwo hm ?_
    unfold s_mark at hP; dsimp only at hP
    rw [if_pos (b2_n0.mp c)] at hP
    exact hP
theorem m_run {B : zBk} {l : Nat} (hl : l < 12) {K : zK} {P : Option Value → zM → Prop} {X : String → zM → Prop} (hK : zIs K RX11 cX11_write 4 none 3 (0, 0) P X) (hwo : wOK (kw K)) (hm : isT (kw K) 11 312) {v2 : Int32} (hP : P none (ups I 313 (s_ink (s_mark B l (if s_goes B v2 (nI l) = true then B 12 + 1 else 1))))) : ZZ K (0, 0) 67 [(0, .ref 312), (1, .int (nI l)), (2, .int v2)] [] (ups I 313 B) := by
  have no : s_goes B v2 (nI l) = false → ZZ K (0, 0) 102 [(0, .ref 312), (1, .int (nI l)), (2, .int v2)] [] (ups I 313 B) := fun h => by
    rw [if_neg (by rw [h]; decide)] at hP
    exact bX11_write_102 hK hwo hm (bX11_write_103 hK hwo hm (fun _ => m_mark hl hK hwo hm hP) (fun c => absurd rfl c))
  have yes : s_goes B v2 (nI l) = true → ZZ K (0, 0) 103 [(0, .ref 312), (1, .int (nI l)), (2, .int v2)] [.int (1 : Int32)] (ups I 313 B) := fun h => by
    rw [if_pos h] at hP
    refine bX11_write_103 hK hwo hm (fun c => absurd c (by decide)) (fun _ => ?_)
    simp only [ups_same]
    exact m_mark hl hK hwo hm hP
  refine bX11_write_67 hK hwo hm ?_ ?_ ?_ ?_ <;> (try simp only [ups_same])
  · intro c; exact no (by simp [s_goes, c])
  · intro c d; exact yes (by simp [s_goes, c, d])
  · intro c d e; exact no (by have := Int32.not_lt.mpr e; simp [s_goes, c, d, this])
  · intro c d e; exact yes (by have := Int32.not_le.mp e; simp [s_goes, c, d, this])
theorem m_write (hm : isT w 11 312) {n c t l : Nat} (hf : s_wf (I 313) n c t) (hl : l < n) : CT G w gl (yX11_write, cX11_write, 4, none) 3 (0, 0) [.ref 312, .int (nI l)] I (qV (fun J => J = ups I 313 (s_write (I 313) l))) nX := by
  refine ct_of (by decide) [(0, .ref 312), (1, .int (nI l))] rfl rfl (fun K hG hw hgl hwo hK => ?_)
  subst hG; subst hw; subst hgl
  have hn := hf.2.1
  have go : ∀ B : zBk, B = s_blot (I 313) l → ZZ K (0, 0) 67 [(0, .ref 312), (1, .int (nI l)), (2, .int (s_cur (I 313)))] [] (ups I 313 B) := fun B hB =>
    m_run (by omega) hK hwo hm (qV_i (by unfold s_write; rw [hB]))
  by_cases h1 : s_cur (I 313) = -1
  · refine bX11_write_0 (f6 := 0) (g6 := I) (f7 := 0) (g7 := I) (f10 := 0) (g10 := I) hK hwo hm (m_current hm hf) ?_ (fun c => absurd h1 c) (fun c => absurd h1 c) (fun c => absurd h1 c) (fun c => absurd h1 c) (fun c => absurd h1 c) (fun c => absurd h1 c)
    intro _
    have := go (I 313) (by unfold s_blot; rw [if_pos (Or.inl h1)])
    rw [ups_id] at this
    exact this
  · obtain ⟨a, ha, ea, -⟩ := s_cur_open hf h1
    have hcl : (s_cur (I 313)).toNatClampNeg = a := by rw [ea]; exact nI_clamp (by omega)
    refine bX11_write_0 hK hwo hm (m_current hm hf) (fun c => absurd c h1) ?_ (fun _ _ => by rw [ea]; exact m_of (l := a) hm (f := 5) (by omega) (by omega)) (fun _ _ => by rw [ea]; exact m_of (l := a) hm (f := 1) (by omega) (by omega)) ?_ (fun _ _ _ => by rw [ea]; exact m_of (l := a) hm (f := 1) (by omega) (by omega)) ?_
    · intro _ d
      have := go (I 313) (by unfold s_blot; rw [if_pos (Or.inr d)])
      rw [ups_id] at this
      exact this
    · intro _ d e
      have hg := go (s_smear (I 313) a) (by unfold s_blot; rw [if_neg (by rintro (h | h); exact h1 h; exact d h), hcl])
      have hs : (if s_of (I 313) a 5 + I 313 6 ≤ s_of (I 313) a 1 then s_of (I 313) a 5 + I 313 6 else s_of (I 313) a 1) = s_of (I 313) a 5 + I 313 6 := if_pos e
      unfold s_smear at hg; dsimp only at hg
      rw [hs] at hg
      refine bX11_write_53 hK hwo hm hm (by rw [ea]; exact m_set (l := a) hm (f := 5) (by omega) (by omega)) ?_
      simp only [up_def, ups_same, ups_ups]
      exact hg
    · intro _ d e
      have hg := go (s_smear (I 313) a) (by unfold s_blot; rw [if_neg (by rintro (h | h); exact h1 h; exact d h), hcl])
      have hs : (if s_of (I 313) a 5 + I 313 6 ≤ s_of (I 313) a 1 then s_of (I 313) a 5 + I 313 6 else s_of (I 313) a 1) = s_of (I 313) a 1 := if_neg e
      unfold s_smear at hg; dsimp only at hg
      rw [hs] at hg
      refine bX11_write_53 hK hwo hm hm (by rw [ea]; exact m_set (l := a) hm (f := 5) (by omega) (by omega)) ?_
      simp only [up_def, ups_same, ups_ups]
      exact hg
theorem m_workOn (hm : isT w 11 312) {n c t l : Nat} (hf : s_wf (I 313) n c t) (hf2 : s_wf (s_give (I 313) l) n c t) (hl : l < n) : CT G w gl (yX11_workOn, cX11_workOn, 2, none) 4 (0, 0) [.ref 312, .int (nI l)] I (qV (fun J => J = ups I 313 (s_workOn (I 313) l))) nX := by
  refine ct_of (by decide) [(0, .ref 312), (1, .int (nI l))] rfl rfl (fun K hG hw hgl hwo hK => ?_)
  subst hG; subst hw; subst hgl
  have hn := hf.2.1
  have go : ZZ K (0, 0) 53 [(0, .ref 312), (1, .int (nI l))] [] (ups I 313 (s_give (I 313) l)) := by
    refine bX11_workOn_53 hK hwo hm (fun _ => m_write hm (n := n) (c := c) (t := t) (l := l) (by rw [ups_same]; exact hf2) hl) ?_ ?_ <;> intro d <;> refine qV_i ?_ <;> simp only [up_def, ups_same, ups_ups] at d ⊢ <;> unfold s_workOn
    · rw [if_pos d]
    · rw [if_neg d]; rfl
  refine bX11_workOn_0 hK hwo hm (m_of hm (f := 0) (by omega) (by omega)) ?_ (fun _ => m_of hm (f := 0) (by omega) (by omega)) ?_
  · intro d
    rw [show s_give (I 313) l = I 313 by unfold s_give; rw [if_pos d], ups_id] at go
    exact go
  · intro d
    simp only [up_def, ups_same, ups_ups]
    unfold s_give at go; rw [if_neg d] at go
    exact go
end RFC
