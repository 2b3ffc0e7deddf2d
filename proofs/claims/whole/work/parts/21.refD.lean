/-! THE REFERENCE: minutes and counts -/
section RFD
variable {G : zG} {w : Nat × Nat} {gl : Launch} {I : zM}
theorem m_passMinute (hm : isT w 11 312) {n c t : Nat} (hf : s_wf (I 313) n c t) : CT G w gl (yX11_passMinute, cX11_passMinute, 2, none) 7 (0, 0) [.ref 312] I (qV (fun J => J = ups I 313 (s_min (I 313) n))) nX := by
  refine ct_of (by decide) [(0, .ref 312)] rfl rfl (fun K hG hw hgl hwo hK => ?_)
  subst hG; subst hw; subst hgl
  have go : ZZ K (0, 0) 87 [(0, .ref 312)] [] (ups I 313 (s_min0 (I 313) n)) := by
    refine bX11_passMinute_87 hK hwo hm (qV_i ?_)
    simp only [up_def, ups_same, ups_ups]; rfl
  obtain ⟨p, hp, ep⟩ := hf.2.2.2.2.2.2.2.2.1
  have epol : s_pol (I 313) = p := by unfold s_pol; rw [ep]; exact nI_clamp (by omega)
  have hn := hf.2.1
  by_cases c1 : I 313 14 ≤ 0
  · by_cases c2 : I 313 15 ≤ 0
    · have hsel : CT (kG K) (kw K) (kl K) (yX11_select, cX11_select, 4, some .int) 6 (0, 0) [.ref 312, .int (I 313 0)] I (qE (s_select (I 313) n (s_pol (I 313))) I) nX := by
        rw [ep, epol]; exact m_select hm hf hp
      rcases sel_in (p := s_pol (I 313)) hf with h | ⟨l, hl, h, ho⟩
      · refine bX11_passMinute_0 (g5 := I) (g9 := I) hK hwo hm (fun _ _ => hsel) (fun _ _ d => absurd h d) (fun _ _ d => absurd h d) (fun _ _ _ => ?_) (fun _ d => absurd c2 d) (fun d => absurd c1 d) (fun d => absurd c1 d)
        unfold s_min0 at go; rw [if_pos c1, if_pos c2, if_pos h] at go; exact go
      · have hne : ¬ s_select (I 313) n (s_pol (I 313)) = -1 := by rw [h]; exact nI_ne_m1 (by omega)
        refine bX11_passMinute_0 (g9 := I) hK hwo hm (fun _ _ => hsel) (fun _ _ _ => by rw [h]; exact m_workOn hm hf (wf_give hf l) hl) (fun _ _ _ => ?_) (fun _ _ d => absurd d hne) (fun _ d => absurd c2 d) (fun d => absurd c1 d) (fun d => absurd c1 d)
        unfold s_min0 at go; rw [if_pos c1, if_pos c2, if_neg hne, h, nI_clamp (by omega)] at go; exact go
    · refine bX11_passMinute_0 (f3 := 0) (g3 := I) (g5 := I) (g9 := I) hK hwo hm (fun _ d => absurd d c2) (fun _ d => absurd d c2) (fun _ d => absurd d c2) (fun _ d => absurd d c2) (fun _ _ => ?_) (fun d => absurd c1 d) (fun d => absurd c1 d)
      unfold s_min0 at go; rw [if_pos c1, if_neg c2] at go
      simp only [up_def, ups_same, ups_ups]; exact go
  · refine bX11_passMinute_0 (f3 := 0) (g3 := I) (g5 := I) hK hwo hm (fun d => absurd d c1) (fun d => absurd d c1) (fun d => absurd d c1) (fun d => absurd d c1) (fun d => absurd d c1) (fun _ => m_refill hm) (fun _ => ?_)
    unfold s_min0 at go; rw [if_neg c1] at go; exact go
theorem m_doneCount (hm : isT w 11 312) {n : Nat} (hn : n ≤ 12) (h8 : I 313 8 = nI n) : CT G w gl (yX11_doneCount, cX11_doneCount, 3, some .int) 2 (0, 0) [.ref 312] I (qE (nI (s_cnt (s_done (I 313)) n)) I) nX := by
  refine ct_of (by decide) [(0, .ref 312)] rfl rfl (fun K hG hw hgl hwo hK => ?_)
  subst hG; subst hw; subst hgl
  refine bX11_doneCount_0 hK hwo hm ?_
  have key : ∀ k i, i + k = n → ZZ K (0, 0) 4 [(0, .ref 312), (1, .int (nI (s_cnt (s_done (I 313)) i))), (2, .int (nI i))] [] I := by
    intro k
    induction k with
    | zero =>
      intro i hi
      have h : I 313 8 ≤ nI i := by rw [h8]; exact nI_le (by omega) (by omega)
      exact bX11_doneCount_4 (f3 := 0) (g3 := I) hK hwo hm (fun _ => qE_i (by rw [show i = n by omega]) rfl) (fun d => absurd h d) (fun d => absurd h d) (fun d => absurd h d)
    | succ k ih =>
      intro i hi
      have h : ¬ I 313 8 ≤ nI i := by rw [h8]; exact nI_ge (by omega) (by omega)
      have hx := ih (i + 1) (by omega)
      rw [← nI_1] at hx
      refine bX11_doneCount_4 hK hwo hm (fun d => absurd d h) (fun _ => m_isDone (l := i) hm (by omega)) (fun _ d => ?_) (fun _ d => ?_)
      · rw [cnt_no (b2_0.mp d)] at hx
        rw [Int32.add_zero]; exact hx
      · rw [cnt_yes (b2_n0.mp d), ← nI_1] at hx
        exact hx
  exact key n 0 (by omega)
theorem m_lates (hm : isT w 11 312) {n : Nat} (hn : n ≤ 12) (h8 : I 313 8 = nI n) : CT G w gl (yX11_lates, cX11_lates, 3, some .int) 3 (0, 0) [.ref 312] I (qE (nI (s_cnt (s_late (I 313)) n)) I) nX := by
  refine ct_of (by decide) [(0, .ref 312)] rfl rfl (fun K hG hw hgl hwo hK => ?_)
  subst hG; subst hw; subst hgl
  refine bX11_lates_0 hK hwo hm ?_
  have key : ∀ k i, i + k = n → ZZ K (0, 0) 4 [(0, .ref 312), (1, .int (nI (s_cnt (s_late (I 313)) i))), (2, .int (nI i))] [] I := by
    intro k
    induction k with
    | zero =>
      intro i hi
      have h : I 313 8 ≤ nI i := by rw [h8]; exact nI_le (by omega) (by omega)
      exact bX11_lates_4 (f3 := 0) (g3 := I) hK hwo hm (fun _ => qE_i (by rw [show i = n by omega]) rfl) (fun d => absurd h d) (fun d => absurd h d) (fun d => absurd h d)
    | succ k ih =>
      intro i hi
      have h : ¬ I 313 8 ≤ nI i := by rw [h8]; exact nI_ge (by omega) (by omega)
      have hx := ih (i + 1) (by omega)
      rw [← nI_1] at hx
      refine bX11_lates_4 hK hwo hm (fun d => absurd d h) (fun _ => m_isLate (l := i) hm (by omega)) (fun _ d => ?_) (fun _ d => ?_)
      · rw [cnt_no (b2_0.mp d)] at hx
        rw [Int32.add_zero]; exact hx
      · rw [cnt_yes (b2_n0.mp d), ← nI_1] at hx
        exact hx
  exact key n 0 (by omega)
theorem m_passMinutes (hm : isT w 11 312) {n c t k : Nat} (hf : s_wf (I 313) n c t) (hk : t + k ≤ 10000) : CT G w gl (yX11_passMinutes, cX11_passMinutes, 4, some .int) 8 (0, 0) [.ref 312, .int (nI k)] I (qE (nI (s_cnt (s_done (s_mins (I 313) n k)) n) - nI (s_cnt (s_done (I 313)) n)) (ups I 313 (s_mins (I 313) n k))) nX := by
  refine ct_of (by decide) [(0, .ref 312), (1, .int (nI k))] rfl rfl (fun K hG hw hgl hwo hK => ?_)
  subst hG; subst hw; subst hgl
  refine bX11_passMinutes_0 hK hwo hm (m_doneCount hm hf.2.1 hf.1) ?_
  have key : ∀ j i, i + j = k → ZZ K (0, 0) 7 [(0, .ref 312), (1, .int (nI k)), (2, .int (nI (s_cnt (s_done (I 313)) n))), (3, .int (nI i))] [] (ups I 313 (s_mins (I 313) n i)) := by
    intro j
    induction j with
    | zero =>
      intro i hi
      have h : nI k ≤ nI i := nI_le (by omega) (by omega)
      have e : i = k := by omega
      subst e
      have hw1 := wf_mins hf i (by omega)
      refine bX11_passMinutes_7 (g4 := I) hK hwo hm (fun _ => m_doneCount (n := n) hm hf.2.1 (by rw [ups_same]; exact hw1.1)) (fun _ => qE_i (by rw [ups_same]) rfl) (fun d => absurd h d) (fun d => absurd h d)
    | succ j ih =>
      intro i hi
      have h : ¬ nI k ≤ nI i := nI_ge (by omega) (by omega)
      have hx := ih (i + 1) (by omega)
      rw [← nI_1] at hx
      have hw1 := wf_mins hf i (by omega)
      refine bX11_passMinutes_7 (f2 := 0) (g2 := I) hK hwo hm (fun d => absurd d h) (fun d => absurd d h) (fun _ => m_passMinute (n := n) (c := c) (t := t + i) hm (by rw [ups_same]; exact hw1)) (fun _ => ?_)
      rw [ups_same, ups_ups]
      exact hx
  have h0 := key k 0 (by omega)
  rw [show s_mins (I 313) n 0 = I 313 from rfl, ups_id] at h0
  exact h0
end RFD
