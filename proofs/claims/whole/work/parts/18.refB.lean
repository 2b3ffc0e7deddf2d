/-! THE REFERENCE: selection and the minute -/
section RFB
variable {G : zG} {w : Nat × Nat} {gl : Launch} {I : zM}
theorem m_nextInTurn (hm : isT w 11 312) {n c t : Nat} (hf : s_wf (I 313) n c t) : CT G w gl (yX11_nextInTurn, cX11_nextInTurn, 3, some .int) 3 (0, 0) [.ref 312] I (qE (s_turn (I 313) (s_last1 (I 313)) n 0 n) I) nX := by
  refine ct_of (by decide) [(0, .ref 312)] rfl rfl (fun K hG hw hgl hwo hK => ?_)
  subst hG; subst hw; subst hgl
  obtain ⟨h8, hn, f3, f4, f5, f6, -⟩ := hf
  refine bX11_nextInTurn_0 hK hwo hm ?_
  obtain ⟨a, ha, hal⟩ : ∃ a, I 313 11 + 1 = nI a ∧ a ≤ n := by
    rcases f6 with h | ⟨l, hl, h, -⟩
    · exact ⟨0, by rw [h]; rfl, Nat.zero_le _⟩
    · exact ⟨l + 1, by rw [h]; exact nI_1 l, hl⟩
  have e1 : s_last1 (I 313) = a := by unfold s_last1; rw [ha, nI_clamp (by omega)]
  rw [e1] at hK
  have key : ∀ k i, i + k = n → s_turn (I 313) a n i k = s_turn (I 313) a n 0 n → ZZ K (0, 0) 2 [(0, .ref 312), (1, .int (nI (i + 1)))] [] I := by
    intro k
    induction k with
    | zero =>
      intro i hi hs
      have hlt : I 313 8 < nI (i + 1) := by rw [h8]; exact nI_lt (by omega) (by omega)
      refine bX11_nextInTurn_2 (f4 := 0) (g4 := I) hK hwo hm (fun _ => qE_i (by rw [← hs]; rfl) rfl) (fun c => absurd hlt c) (fun c => absurd hlt c) (fun c => absurd hlt c) (fun c => absurd hlt c)
    | succ k ih =>
      intro i hi hs
      have hge : ¬ I 313 8 < nI (i + 1) := by rw [h8]; exact nI_nlt (by omega) (by omega)
      have hn0 : ¬ I 313 8 = 0 := by rw [h8]; exact nI_ne0 (by omega) (by omega)
      have ex : I 313 11 + nI (i + 1) = nI (a + i) := by
        rw [nI_succ, Int32.add_comm (nI i) 1, ← Int32.add_assoc, ha, nI_add]
      have ei : I 313 11 + nI (i + 1) - (I 313 11 + nI (i + 1)) / I 313 8 * I 313 8 = nI ((a + i) % n) := by
        rw [ex, h8]; exact pk_rem (by omega) (by omega) (by omega)
      have hlt : (a + i) % n < n := Nat.mod_lt _ (by omega)
      refine bX11_nextInTurn_2 hK hwo hm (fun c => absurd c hge) (fun _ => hn0) (fun _ => by rw [ei]; exact m_isOpen (l := (a + i) % n) hm (by omega)) ?_ ?_
      · intro _ c
        have hx := ih (i + 1) (by omega) (by rw [← hs]; conv => rhs; unfold s_turn; rw [if_neg (by rw [b2_0.mp c]; decide)])
        rw [← nI_1] at hx
        exact hx
      · intro _ c
        exact qE_i (by rw [ei, ← hs]; unfold s_turn; rw [if_pos (b2_n0.mp c)]) rfl
  exact key n 0 (by omega) rfl
theorem s_cur_in {B : zBk} {n c t : Nat} (hf : s_wf B n c t) : s_cur B = -1 ∨ ∃ l, l < n ∧ s_cur B = nI l := by
  obtain ⟨-, -, -, -, -, f6, -⟩ := hf
  unfold s_cur
  rcases f6 with h | ⟨l, hl, h, -⟩
  · rw [if_pos h]; exact Or.inl rfl
  · by_cases h1 : B 11 = -1
    · rw [if_pos h1]; exact Or.inl rfl
    · rw [if_neg h1]
      by_cases h2 : s_done B (B 11).toNatClampNeg = true
      · rw [if_pos h2]; exact Or.inl rfl
      · rw [if_neg h2]; exact Or.inr ⟨l, hl, h⟩
theorem s_cur_open {B : zBk} {n c t : Nat} (hf : s_wf B n c t) (h : ¬ s_cur B = -1) : ∃ l, l < n ∧ s_cur B = nI l ∧ s_open B l = true := by
  obtain ⟨-, hn, -, -, -, f6, -⟩ := hf
  unfold s_cur at h ⊢
  rcases f6 with h0 | ⟨l, hl, h0, ha⟩
  · rw [if_pos h0] at h; exact absurd rfl h
  · have hne : ¬ B 11 = -1 := by rw [h0]; exact nI_ne_m1 (by omega)
    rw [if_neg hne] at h ⊢
    have hcl : (B 11).toNatClampNeg = l := by rw [h0]; exact nI_clamp (by omega)
    rw [hcl] at h ⊢
    by_cases h2 : s_done B l = true
    · rw [if_pos h2] at h; exact absurd rfl h
    · rw [if_neg h2]; exact ⟨l, hl, h0, by unfold s_open; rw [ha]; simpa using h2⟩
theorem wf_5 {B : zBk} {n c t : Nat} (hf : s_wf B n c t) : ¬ B 5 = 0 := fun h => by
  obtain ⟨-, -, -, -, -, -, ⟨h1, -⟩, -⟩ := hf
  rw [h] at h1
  exact absurd h1 (by decide)
theorem m_badq (hm : isT w 11 312) {n c t p : Nat} {x : Int32} (hf : s_wf (I 313) n c t) (hp : p < 4) (hx : ∃ l, l < n ∧ x = nI l) : CT G w gl (yX11_badness, cX11_badness, 3, some .int) 4 (0, 0) [.ref 312, .int x, .int (nI p)] I (qE (s_bad (I 313) x.toNatClampNeg p) I) nX := by
  obtain ⟨l, hl, rfl⟩ := hx
  have hn := hf.2.1
  rw [nI_clamp (by omega)]
  exact m_badness hm (by omega) hp (wf_5 hf)
theorem m_select (hm : isT w 11 312) {n c t p : Nat} (hf : s_wf (I 313) n c t) (hp : p < 5) : CT G w gl (yX11_select, cX11_select, 4, some .int) 6 (0, 0) [.ref 312, .int (nI p)] I (qE (s_select (I 313) n p) I) nX := by
  refine ct_of (by decide) [(0, .ref 312), (1, .int (nI p))] rfl rfl (fun K hG hw hgl hwo hK => ?_)
  subst hG; subst hw; subst hgl
  have hi : (nI p).toInt = p := nI_toInt (by omega)
  have h5 := wf_5 hf
  have hcur := s_cur_in hf
  have hb : ∀ p, p < 4 → CT (kG K) (kw K) (kl K) (yX11_best, cX11_best, 4, some .int) 5 (0, 0) [.ref 312, .int (nI p)] I (qE (s_best (I 313) p n) I) nX := fun p h4 => m_best hm hf.2.1 hf.1 h4 h5
  have hbb : ∀ p, p < 4 → ¬ s_cur (I 313) = -1 → CT (kG K) (kw K) (kl K) (yX11_badness, cX11_badness, 3, some .int) 4 (0, 0) [.ref 312, .int (s_best (I 313) p n), .int (nI p)] I (qE (s_bad (I 313) (s_best (I 313) p n).toNatClampNeg p) I) nX := fun p h4 hc => by
    obtain ⟨l, h1, -, h3⟩ := s_cur_open hf hc
    rcases s_best_in (I 313) p n with h | ⟨l, h1, h2, -⟩
    · exact absurd h (s_best_ne _ _ n hf.2.1 h1 h3)
    · exact m_badq hm hf h4 ⟨l, h1, h2⟩
  rcases (show p = 0 ∨ p = 1 ∨ p = 2 ∨ p = 3 ∨ p = 4 by omega) with rfl | rfl | rfl | rfl | rfl
  · refine bX11_select_0 (f3 := 0) (g3 := I) (f6 := 0) (g6 := I) (f7 := 0) (g7 := I) (f15 := 0) (g15 := I) (f18 := 0) (g18 := I) (f19 := 0) (g19 := I) (f23 := 0) (g23 := I) (f26 := 0) (g26 := I) (f27 := 0) (g27 := I) (f32 := 0) (g32 := I) hK hwo hm (m_current hm hf) (fun c => absurd c (by decide)) (fun c => absurd c (by decide)) (fun c => absurd c (by decide)) (fun c => absurd c (by decide)) (fun c => absurd c (by decide)) (fun c => absurd c (by decide)) (fun _ _ => hb 0 (by omega)) ?_ ?_ (fun c => absurd c (by decide)) (fun c => absurd c (by decide)) (fun c => absurd c (by decide)) (fun c => absurd c (by decide)) (fun c => absurd c (by decide)) (fun c => absurd c (by decide)) (fun c => absurd c (by decide)) (fun c => absurd c (by decide)) (fun c => absurd c (by decide)) (fun c => absurd c (by decide)) (fun c => absurd c (by decide)) (fun c => absurd c (by decide)) (fun c => absurd c (by decide)) (fun c => absurd c (by decide)) (fun c => absurd c (by decide)) (fun c => absurd c (by decide)) (fun c => absurd c (by decide)) (fun c => absurd c (by decide))
    · intro _ c; exact qE_i (by unfold s_select; rw [if_pos (by omega), if_pos c]) rfl
    · intro _ c; exact qE_i (by unfold s_select; rw [if_pos (by omega), if_neg c]) rfl
  · refine bX11_select_0 (f3 := 0) (g3 := I) (f6 := 0) (g6 := I) (f7 := 0) (g7 := I) (f12 := 0) (g12 := I) (f23 := 0) (g23 := I) (f26 := 0) (g26 := I) (f27 := 0) (g27 := I) (f32 := 0) (g32 := I) hK hwo hm (m_current hm hf) (fun c => absurd c (by decide)) (fun c => absurd c (by decide)) (fun c => absurd c (by decide)) (fun c => absurd c (by decide)) (fun c => absurd c (by decide)) (fun c => absurd c (by decide)) (fun c => absurd c (by decide)) (fun c => absurd c (by decide)) (fun c => absurd c (by decide)) (fun _ => hb 1 (by omega)) ?_ (fun _ c => m_badq hm (p := 1) hf (by omega) (hcur.resolve_left c)) (fun _ c => hbb 1 (by omega) c) ?_ ?_ (fun c => absurd c (by decide)) (fun c => absurd c (by decide)) (fun c => absurd c (by decide)) (fun c => absurd c (by decide)) (fun c => absurd c (by decide)) (fun c => absurd c (by decide)) (fun c => absurd c (by decide)) (fun c => absurd c (by decide)) (fun c => absurd c (by decide)) (fun c => absurd c (by decide)) (fun c => absurd c (by decide)) (fun c => absurd c (by decide))
    · intro _ c; exact qE_i (by unfold s_select; rw [if_neg (by omega), if_neg (by omega), if_pos (Or.inl c)]) rfl
    · intro _ c d; exact qE_i (by unfold s_select; rw [if_neg (by omega), if_neg (by omega), if_pos (Or.inr d)]) rfl
    · intro _ c d; exact qE_i (by unfold s_select; rw [if_neg (by omega), if_neg (by omega), if_neg (by rintro (h | h); exact c h; exact d h)]) rfl
  · refine bX11_select_0 (f3 := 0) (g3 := I) (f6 := 0) (g6 := I) (f7 := 0) (g7 := I) (f12 := 0) (g12 := I) (f15 := 0) (g15 := I) (f18 := 0) (g18 := I) (f19 := 0) (g19 := I) (f32 := 0) (g32 := I) hK hwo hm (m_current hm hf) (fun c => absurd c (by decide)) (fun c => absurd c (by decide)) (fun c => absurd c (by decide)) (fun c => absurd c (by decide)) (fun c => absurd c (by decide)) (fun c => absurd c (by decide)) (fun c => absurd c (by decide)) (fun c => absurd c (by decide)) (fun c => absurd c (by decide)) (fun c => absurd c (by decide)) (fun c => absurd c (by decide)) (fun c => absurd c (by decide)) (fun c => absurd c (by decide)) (fun c => absurd c (by decide)) (fun c => absurd c (by decide)) (fun _ => hb 2 (by omega)) ?_ (fun _ c => m_badq hm (p := 2) hf (by omega) (hcur.resolve_left c)) (fun _ c => hbb 2 (by omega) c) ?_ ?_ (fun c => absurd c (by decide)) (fun c => absurd c (by decide)) (fun c => absurd c (by decide)) (fun c => absurd c (by decide)) (fun c => absurd c (by decide)) (fun c => absurd c (by decide))
    · intro _ c; exact qE_i (by unfold s_select; rw [if_neg (by omega), if_neg (by omega), if_pos (Or.inl c)]) rfl
    · intro _ c d; exact qE_i (by unfold s_select; rw [if_neg (by omega), if_neg (by omega), if_pos (Or.inr d)]) rfl
    · intro _ c d; exact qE_i (by unfold s_select; rw [if_neg (by omega), if_neg (by omega), if_neg (by rintro (h | h); exact c h; exact d h)]) rfl
  · refine bX11_select_0 (f3 := 0) (g3 := I) (f6 := 0) (g6 := I) (f7 := 0) (g7 := I) (f12 := 0) (g12 := I) (f15 := 0) (g15 := I) (f18 := 0) (g18 := I) (f19 := 0) (g19 := I) (f23 := 0) (g23 := I) (f26 := 0) (g26 := I) (f27 := 0) (g27 := I) hK hwo hm (m_current hm hf) (fun c => absurd c (by decide)) (fun c => absurd c (by decide)) (fun c => absurd c (by decide)) (fun c => absurd c (by decide)) (fun c => absurd c (by decide)) (fun c => absurd c (by decide)) (fun c => absurd c (by decide)) (fun c => absurd c (by decide)) (fun c => absurd c (by decide)) (fun c => absurd c (by decide)) (fun c => absurd c (by decide)) (fun c => absurd c (by decide)) (fun c => absurd c (by decide)) (fun c => absurd c (by decide)) (fun c => absurd c (by decide)) (fun c => absurd c (by decide)) (fun c => absurd c (by decide)) (fun c => absurd c (by decide)) (fun c => absurd c (by decide)) (fun c => absurd c (by decide)) (fun c => absurd c (by decide)) (fun _ _ => hb 3 (by omega)) ?_ ?_ (fun c => absurd c (by decide)) (fun c => absurd c (by decide)) (fun c => absurd c (by decide))
    · intro _ c; exact qE_i (by unfold s_select; rw [if_pos (by omega), if_pos c]) rfl
    · intro _ c; exact qE_i (by unfold s_select; rw [if_pos (by omega), if_neg c]) rfl
  · refine bX11_select_0 (f3 := 0) (g3 := I) (f6 := 0) (g6 := I) (f7 := 0) (g7 := I) (f12 := 0) (g12 := I) (f15 := 0) (g15 := I) (f18 := 0) (g18 := I) (f19 := 0) (g19 := I) (f23 := 0) (g23 := I) (f26 := 0) (g26 := I) (f27 := 0) (g27 := I) (f32 := 0) (g32 := I) hK hwo hm (m_current hm hf) (fun c => absurd c (by decide)) (fun c => absurd c (by decide)) (fun c => absurd c (by decide)) (fun c => absurd c (by decide)) (fun c => absurd c (by decide)) (fun c => absurd c (by decide)) (fun c => absurd c (by decide)) (fun c => absurd c (by decide)) (fun c => absurd c (by decide)) (fun c => absurd c (by decide)) (fun c => absurd c (by decide)) (fun c => absurd c (by decide)) (fun c => absurd c (by decide)) (fun c => absurd c (by decide)) (fun c => absurd c (by decide)) (fun c => absurd c (by decide)) (fun c => absurd c (by decide)) (fun c => absurd c (by decide)) (fun c => absurd c (by decide)) (fun c => absurd c (by decide)) (fun c => absurd c (by decide)) (fun c => absurd c (by decide)) (fun c => absurd c (by decide)) (fun c => absurd c (by decide)) ?_ ?_ ?_
    · intro _ c; exact bX11_select_80 hK hwo hm (m_nextInTurn hm hf) (qE_i (by unfold s_select; rw [if_neg (by omega), if_pos rfl, if_pos (Or.inl c)]) rfl)
    · intro _ c d; exact bX11_select_80 hK hwo hm (m_nextInTurn hm hf) (qE_i (by unfold s_select; rw [if_neg (by omega), if_pos rfl, if_pos (Or.inr d)]) rfl)
    · intro _ c d; exact qE_i (by unfold s_select; rw [if_neg (by omega), if_pos rfl, if_neg (by rintro (h | h); exact c h; exact d h)]) rfl
end RFB
