/-! THE REFERENCE, method by method: reads of letters -/
section RFA
variable {G : zG} {w : Nat × Nat} {gl : Launch} {I : zM}
theorem ix_of {l f : Nat} : (64 : Int32) + nI l * 8 + nI f = nI (64 + l * 8 + f) := by
  rw [show (8 : Int32) = nI 8 from rfl, show (64 : Int32) = nI 64 from rfl, pk_mul, nI_add, nI_add]
theorem m_of (hm : isT w 11 312) {l f : Nat} (hl : l < 12) (hf : f < 8) : CT G w gl (yX11_of, cX11_of, 3, some .int) 0 (0, 0) [.ref 312, .int (nI l), .int (nI f)] I (qE (s_of (I 313) l f) I) nX := by
  refine ct_of (by decide) [(0, .ref 312), (1, .int (nI l)), (2, .int (nI f))] rfl rfl (fun K hG hw hgl hwo hK => ?_)
  subst hG; subst hw; subst hgl
  refine bX11_of_0 hK hwo hm ?_ ?_ <;> rw [ix_of]
  · exact vp_in_nI (by omega) (by omega)
  · rw [nI_clamp (by omega)]; exact qE_i rfl rfl
theorem m_set (hm : isT w 11 312) {l f : Nat} {x : Int32} (hl : l < 12) (hf : f < 8) : CT G w gl (yX11_set, cX11_set, 4, none) 0 (0, 0) [.ref 312, .int (nI l), .int (nI f), .int x] I (qV (fun J => J = ups I 313 (s_set (I 313) l f x))) nX := by
  refine ct_of (by decide) [(0, .ref 312), (1, .int (nI l)), (2, .int (nI f)), (3, .int x)] rfl rfl (fun K hG hw hgl hwo hK => ?_)
  subst hG; subst hw; subst hgl
  refine bX11_set_0 hK hwo hm ?_ ?_ <;> rw [ix_of]
  · exact vp_in_nI (by omega) (by omega)
  · rw [nI_clamp (by omega)]; exact qV_i rfl
theorem m_isDone (hm : isT w 11 312) {l : Nat} (hl : l < 12) : CT G w gl (yX11_isDone, cX11_isDone, 2, some .boolean) 1 (0, 0) [.ref 312, .int (nI l)] I (qE (b2 (s_done (I 313) l)) I) nX := by
  refine ct_of (by decide) [(0, .ref 312), (1, .int (nI l))] rfl rfl (fun K hG hw hgl hwo hK => ?_)
  subst hG; subst hw; subst hgl
  refine bX11_isDone_0 hK hwo hm (m_of hm (f := 5) hl (by omega)) ?_ ?_ <;> intro c <;> refine qE_i ?_ rfl <;> simp [s_done, b2, c]
theorem m_hasArrived (hm : isT w 11 312) {l : Nat} (hl : l < 12) : CT G w gl (yX11_hasArrived, cX11_hasArrived, 2, some .boolean) 1 (0, 0) [.ref 312, .int (nI l)] I (qE (b2 (s_arr (I 313) l)) I) nX := by
  refine ct_of (by decide) [(0, .ref 312), (1, .int (nI l))] rfl rfl (fun K hG hw hgl hwo hK => ?_)
  subst hG; subst hw; subst hgl
  refine bX11_hasArrived_0 hK hwo hm (m_of hm (f := 2) hl (by omega)) ?_ ?_ <;> intro c <;> refine qE_i ?_ rfl
  · have h := Int32.not_le.mpr c
    simp [s_arr, b2, h]
  · have h := Int32.not_lt.mp c
    simp [s_arr, b2, h]
theorem m_isOpen (hm : isT w 11 312) {l : Nat} (hl : l < 12) : CT G w gl (yX11_isOpen, cX11_isOpen, 2, some .boolean) 2 (0, 0) [.ref 312, .int (nI l)] I (qE (b2 (s_open (I 313) l)) I) nX := by
  refine ct_of (by decide) [(0, .ref 312), (1, .int (nI l))] rfl rfl (fun K hG hw hgl hwo hK => ?_)
  subst hG; subst hw; subst hgl
  refine bX11_isOpen_0 hK hwo hm (m_hasArrived hm hl) ?_ (fun _ => m_isDone hm hl) ?_ ?_
  · intro c; exact qE_i (by simp [s_open, b2_0.mp c]; rfl) rfl
  · intro c d; exact qE_i (by simp [s_open, b2_n0.mp c, b2_n0.mp d]; rfl) rfl
  · intro c d; exact qE_i (by simp [s_open, b2_n0.mp c, b2_0.mp d]; rfl) rfl
theorem m_current (hm : isT w 11 312) {n c t : Nat} (hf : s_wf (I 313) n c t) : CT G w gl (yX11_current, cX11_current, 1, some .int) 2 (0, 0) [.ref 312] I (qE (s_cur (I 313)) I) nX := by
  refine ct_of (by decide) [(0, .ref 312)] rfl rfl (fun K hG hw hgl hwo hK => ?_)
  subst hG; subst hw; subst hgl
  obtain ⟨f1, f2, f3, f4, f5, f6, -⟩ := hf
  rcases f6 with h | ⟨l, hl, h, -⟩
  · refine bX11_current_0 (f3 := 0) (g3 := I) hK hwo hm ?_ (fun c => absurd h c) (fun c => absurd h c) (fun c => absurd h c)
    intro _; exact qE_i (by simp [s_cur, h]) rfl
  · have hne : ¬ I 313 11 = -1 := by rw [h]; exact nI_ne_m1 (by omega)
    have hcl : (nI l).toNatClampNeg = l := nI_clamp (by omega)
    refine bX11_current_0 hK hwo hm (fun c => absurd c hne) (fun _ => by rw [h]; exact m_isDone (l := l) hm (by omega)) ?_ ?_
    · intro _ d; exact qE_i (by unfold s_cur; rw [if_neg hne, h, hcl, if_pos (b2_n0.mp d)]) rfl
    · intro _ d; refine qE_i ?_ rfl
      unfold s_cur
      rw [if_neg hne, h, hcl, if_neg (by rw [b2_0.mp d]; decide)]
theorem m_waited (hm : isT w 11 312) {l : Nat} (hl : l < 12) : CT G w gl (yX11_waited, cX11_waited, 3, some .int) 2 (0, 0) [.ref 312, .int (nI l)] I (qE (s_waited (I 313) l) I) nX := by
  refine ct_of (by decide) [(0, .ref 312), (1, .int (nI l))] rfl rfl (fun K hG hw hgl hwo hK => ?_)
  subst hG; subst hw; subst hgl
  have key : ∀ e : Int32, (s_arr (I 313) l = true → e = if s_done (I 313) l = true then s_of (I 313) l 6 else I 313 9) → s_arr (I 313) l = true → ZZ K (0, 0) 35 [(0, .ref 312), (1, .int (nI l))] [.int e] I := fun e he ha =>
    bX11_waited_35 hK hwo hm (m_of hm (f := 2) hl (by omega)) (m_of hm (f := 7) hl (by omega)) (qE_i (by unfold s_waited; rw [if_pos ha, he ha]) rfl)
  refine bX11_waited_0 hK hwo hm (m_hasArrived hm hl) (fun _ => m_isDone hm hl) ?_ (fun _ _ => m_of hm (f := 6) hl (by omega)) ?_ ?_
  · intro c d; exact key _ (fun _ => by rw [if_neg (by rw [b2_0.mp d]; decide)]) (b2_n0.mp c)
  · intro c d; exact key _ (fun _ => by rw [if_pos (b2_n0.mp d)]) (b2_n0.mp c)
  · intro c; exact qE_i (by unfold s_waited; rw [if_neg (by rw [b2_0.mp c]; decide)]) rfl
theorem m_urgency (hm : isT w 11 312) {l : Nat} (hl : l < 12) (h5 : ¬ I 313 5 = 0) : CT G w gl (yX11_urgency, cX11_urgency, 2, some .int) 3 (0, 0) [.ref 312, .int (nI l)] I (qE (s_urg (I 313) l) I) nX := by
  refine ct_of (by decide) [(0, .ref 312), (1, .int (nI l))] rfl rfl (fun K hG hw hgl hwo hK => ?_)
  subst hG; subst hw; subst hgl
  exact bX11_urgency_0 hK hwo hm (m_of hm (f := 4) hl (by omega)) (m_waited hm hl) h5 (qE_i rfl rfl)
theorem m_isLate (hm : isT w 11 312) {l : Nat} (hl : l < 12) : CT G w gl (yX11_isLate, cX11_isLate, 2, some .boolean) 2 (0, 0) [.ref 312, .int (nI l)] I (qE (b2 (s_late (I 313) l)) I) nX := by
  refine ct_of (by decide) [(0, .ref 312), (1, .int (nI l))] rfl rfl (fun K hG hw hgl hwo hK => ?_)
  subst hG; subst hw; subst hgl
  refine bX11_isLate_0 hK hwo hm (m_isDone hm hl) ?_ (fun _ => m_of hm (f := 6) hl (by omega)) (fun _ => m_of hm (f := 3) hl (by omega)) ?_ ?_
  · intro c; exact qE_i (by simp [s_late, b2_0.mp c]; rfl) rfl
  · intro c d; exact qE_i (by have h := Int32.not_lt.mpr d; simp [s_late, b2_n0.mp c, h]; rfl) rfl
  · intro c d; exact qE_i (by have h := Int32.not_le.mp d; simp [s_late, b2_n0.mp c, h]; rfl) rfl
theorem m_badness (hm : isT w 11 312) {l p : Nat} (hl : l < 12) (hp : p < 4) (h5 : ¬ I 313 5 = 0) : CT G w gl (yX11_badness, cX11_badness, 3, some .int) 4 (0, 0) [.ref 312, .int (nI l), .int (nI p)] I (qE (s_bad (I 313) l p) I) nX := by
  refine ct_of (by decide) [(0, .ref 312), (1, .int (nI l)), (2, .int (nI p))] rfl rfl (fun K hG hw hgl hwo hK => ?_)
  subst hG; subst hw; subst hgl
  have hi : (nI p).toInt = p := nI_toInt (by omega)
  refine bX11_badness_0 hK hwo hm (fun _ => m_urgency hm hl h5) ?_ (fun _ => m_of hm (f := 2) hl (by omega)) ?_ (fun _ => m_of hm (f := 5) hl (by omega)) ?_ (fun _ => m_of hm (f := 3) hl (by omega)) ?_
  · intro c; exact qE_i (by unfold s_bad; rw [if_neg (by omega), if_neg (by omega), if_neg (by omega)]) rfl
  · intro c; exact qE_i (by unfold s_bad; rw [if_pos (by omega)]) rfl
  · intro c; exact qE_i (by unfold s_bad; rw [if_neg (by omega), if_pos (by omega)]) rfl
  · intro c; exact qE_i (by unfold s_bad; rw [if_neg (by omega), if_neg (by omega), if_pos (by omega)]) rfl
theorem m_best (hm : isT w 11 312) {n p : Nat} (hn : n ≤ 12) (h8 : I 313 8 = nI n) (hp : p < 4) (h5 : ¬ I 313 5 = 0) : CT G w gl (yX11_best, cX11_best, 4, some .int) 5 (0, 0) [.ref 312, .int (nI p)] I (qE (s_best (I 313) p n) I) nX := by
  refine ct_of (by decide) [(0, .ref 312), (1, .int (nI p))] rfl rfl (fun K hG hw hgl hwo hK => ?_)
  subst hG; subst hw; subst hgl
  refine bX11_best_0 hK hwo hm ?_
  have key : ∀ k i, i + k = n → ZZ K (0, 0) 4 [(0, .ref 312), (1, .int (nI p)), (2, .int (s_best (I 313) p i)), (3, .int (nI i))] [] I := by
    intro k
    induction k with
    | zero =>
      intro i hi
      refine bX11_best_4 (f3 := 0) (g3 := I) (f8 := 0) (g8 := I) (f9 := 0) (g9 := I) hK hwo hm ?_ ?_ ?_ ?_ ?_ ?_ ?_ ?_
      · intro _; exact qE_i (by rw [show i = n by omega]) rfl
      all_goals (intro c; exact absurd (by rw [h8]; exact nI_le (by omega) (by omega)) c)
    | succ k ih =>
      intro i hi
      have hlt : ¬ I 313 8 ≤ nI i := by rw [h8]; exact nI_ge (by omega) (by omega)
      have hnx := ih (i + 1) (by omega)
      have e1 : nI i + 1 = nI (i + 1) := nI_1 i
      refine bX11_best_4 hK hwo hm (fun c => absurd c hlt) (fun _ => m_isOpen (l := i) hm (by omega)) ?_ ?_ (fun _ _ _ => m_badness (l := i) hm (by omega) hp h5) (f9 := s_bad (I 313) (s_best (I 313) p i).toNatClampNeg p) (g9 := I) ?_ ?_ ?_
      · intro _ c; rw [e1]
        rw [show s_best (I 313) p (i + 1) = s_best (I 313) p i by conv => lhs; unfold s_best; rw [if_neg (by rw [b2_0.mp c]; simp)]] at hnx
        exact hnx
      · intro _ c d; rw [e1]
        rw [show s_best (I 313) p (i + 1) = nI i by conv => lhs; unfold s_best; rw [if_pos ⟨b2_n0.mp c, Or.inl d⟩]] at hnx
        exact hnx
      · intro _ _ d
        rcases s_best_in (I 313) p i with h | ⟨l, h1, h2, -⟩
        · exact absurd h d
        · rw [h2, nI_clamp (by omega)]; exact m_badness (l := l) hm (by omega) hp h5
      · intro _ c d f; rw [e1]
        rw [show s_best (I 313) p (i + 1) = s_best (I 313) p i by conv => lhs; unfold s_best; rw [if_neg (by rintro ⟨-, h | h⟩; exact d h; exact absurd f (Int32.not_le.mpr h))]] at hnx
        exact hnx
      · intro _ c d f; rw [e1]
        rw [show s_best (I 313) p (i + 1) = nI i by conv => lhs; unfold s_best; rw [if_pos ⟨b2_n0.mp c, Or.inr (Int32.not_le.mp f)⟩]] at hnx
        exact hnx
  exact key n 0 (by omega)
end RFA
