/-! THE CLASS: findClerk, greatestLateness -/
theorem worst_gl {B : zBk} : ∀ n, n ≤ 12 → (∀ l, l < n → s_done B l = true → -999 ≤ s_lt B l) → s_worst B n = if s_gl B n = -1 then -999 else s_lt B (s_gl B n).toNatClampNeg
  | 0, _, _ => rfl
  | n + 1, hn, h => by
    have ih := worst_gl (B := B) n (by omega) (fun l hl => h l (by omega))
    unfold s_worst
    unfold s_gl
    rw [ih]
    have hne : ¬ nI n = -1 := nI_ne_m1 (by omega)
    have hcl : (nI n).toNatClampNeg = n := nI_clamp (by omega)
    by_cases hd : s_done B n = true
    · have hge := h n (by omega) hd
      by_cases h1 : s_gl B n = -1
      · rw [if_pos h1, if_pos (⟨hd, Or.inl h1⟩ : s_done B n = true ∧ (s_gl B n = -1 ∨ s_lt B (s_gl B n).toNatClampNeg < s_lt B n)), if_neg hne, hcl]
        by_cases h2 : (-999 : Int32) < s_of B n 6 - s_of B n 3
        · rw [if_pos ⟨hd, h2⟩]; rfl
        · rw [if_neg (fun q => h2 q.2)]
          exact Int32.le_antisymm hge (Int32.not_lt.mp h2)
      · rw [if_neg h1]
        by_cases h2 : s_lt B (s_gl B n).toNatClampNeg < s_of B n 6 - s_of B n 3
        · rw [if_pos ⟨hd, h2⟩, if_pos (⟨hd, Or.inr h2⟩ : s_done B n = true ∧ (s_gl B n = -1 ∨ s_lt B (s_gl B n).toNatClampNeg < s_lt B n)), if_neg hne, hcl]; rfl
        · rw [if_neg (fun q => h2 q.2), if_neg (fun (q : s_done B n = true ∧ (s_gl B n = -1 ∨ s_lt B (s_gl B n).toNatClampNeg < s_lt B n)) => q.2.elim h1 h2), if_neg h1]
    · rw [if_neg (fun q => hd q.1), if_neg (fun (q : s_done B n = true ∧ (s_gl B n = -1 ∨ s_lt B (s_gl B n).toNatClampNeg < s_lt B n)) => hd q.1)]
theorem open_gl {B : zBk} : ∀ n, n ≤ 12 → (s_cnt (fun l => !s_done B l) n = n ↔ s_gl B n = -1)
  | 0, _ => ⟨fun _ => rfl, fun _ => rfl⟩
  | n + 1, hn => by
    have ih := open_gl (B := B) n (by omega)
    have hle := s_cnt_le (fun l => !s_done B l) n
    unfold s_cnt
    unfold s_gl
    by_cases hd : s_done B n = true
    · have e1 : ¬ (fun l => !s_done B l) n = true := by show ¬ (!s_done B n) = true; rw [hd]; decide
      rw [if_neg e1]
      constructor
      · intro h; omega
      · intro h
        exfalso
        by_cases h1 : s_done B n = true ∧ (s_gl B n = -1 ∨ s_lt B (s_gl B n).toNatClampNeg < s_lt B n)
        · rw [if_pos h1] at h
          exact nI_ne_m1 (by omega) h
        · rw [if_neg h1] at h
          exact h1 ⟨hd, Or.inl h⟩
    · have e1 : (fun l => !s_done B l) n = true := by show (!s_done B n) = true; simpa using hd
      rw [if_pos e1, if_neg (fun q => hd q.1), ← ih]
      omega
section CTH
variable {G : zG} {w : Nat × Nat} {gl : Launch} {I : zM} {n c N : Nat}
theorem c_findClerk (hx : isT w 10 0) (h1 : I 285 1 = nI N) (hN : N ≤ 600) (hc : I 290 0 = nI c) (hL : nmL (vB I 288) c) {F : Int32} (hF : F = tq_find (vB I 288) (I 286) 0 N 0 c) : CT G w gl (yX10_findClerk, cX10_findClerk, 2, some .int) 7 (1, 6) [.ref 0] I (qP (¬ F = -1) F I) (xP (¬ F = -1) sN I) := by
  refine ct_of (by decide) [(0, .ref 0)] rfl rfl (fun K hG hw hgl hwo hK => ?_)
  subst hG; subst hw; subst hgl
  have hm : CT (kG K) (kw K) (kl K) (yX0_find, cX0_find, 5, some .int) 1 (0, 0) [.ref 290, .ref 286, .int (0 : Int32), .int (I 285 1)] I (qE F I) nX := by
    have h := k_find (G := kG K) (w := kw K) (gl := kl K) (I := I) (s := 288) (fr := 0) (m := N) (c := c) (hx.st hwo) (show isT (kw K) 21 286 from isT.f (k := 0) (show isT (kw K) 4 285 from isT.f (k := 2) hx hwo rfl rfl rfl (by decide)) hwo rfl rfl rfl (by decide)) hc hL (by omega)
    rw [h1, hF, show nI N = nI (0 + N) by rw [Nat.zero_add]]
    exact h
  have hK0 := hK
  obtain ⟨hb, ho, hnl, hR, hE⟩ := hK
  refine bX10_findClerk_0 hK0 hwo hx ⟨Nat.zero_le _, Nat.zero_le _⟩ hm ⟨Nat.zero_le _, Nat.zero_le _⟩ (fun d => ⟨d, qE_i rfl rfl⟩) (fun d => ?_)
  exact zz_throwN hb ho hnl hR hE 5 rfl rfl rfl ⟨Nat.le_refl _, Nat.le_refl _⟩ (z_dec dX10_findClerk 15 rfl) (z_dec dX10_findClerk 16 rfl) (z_dec dX10_findClerk 17 rfl) (z_dec dX10_findClerk 18 rfl) (z_dec dX10_findClerk 19 rfl) ⟨fun q => q d, rfl, rfl⟩
theorem c_greatestLateness (hx : isT w 10 0) (hn : n ≤ 12) (h8 : vB I 288 8 = nI n) (h0 : ∀ l, l < n → 0 ≤ s_of (vB I 288) l 5) (hl : ∀ l, l < n → s_done (vB I 288) l = true → -999 ≤ s_lt (vB I 288) l) : CT G w gl (yX10_greatestLateness, cX10_greatestLateness, 1, some .int) 7 (1, 6) [.ref 0] I (qP (¬ s_gl (vB I 288) n = -1) (s_lt (vB I 288) (s_gl (vB I 288) n).toNatClampNeg) I) (xP (¬ s_gl (vB I 288) n = -1) sN I) := by
  refine ct_of (by decide) [(0, .ref 0)] rfl rfl (fun K hG hw hgl hwo hK => ?_)
  subst hG; subst hw; subst hgl
  have h3 : I 288 3 = nI n := h8
  have m1 := k_countOpen (G := kG K) (w := kw K) (gl := kl K) (I := I) (s := 288) (B := vB I 288) (cu := I 288 7) (hx.st hwo) h8 hn h0
  have m3 := k_worstLateness (G := kG K) (w := kw K) (gl := kl K) (I := I) (s := 288) (B := vB I 288) (cu := I 288 7) (hx.st hwo) h8 hn
  rw [sput_self] at m1 m3
  have hcl := s_cnt_le (fun l => !s_done (vB I 288) l) n
  have hop := open_gl (B := vB I 288) n hn
  have hK0 := hK
  obtain ⟨hb, ho, hnl, hR, hE⟩ := hK
  have ee : nI (s_cnt (fun l => !s_done (vB I 288) l) n) = I 288 3 ↔ s_gl (vB I 288) n = -1 := by
    rw [h3, nI_eq (by omega) (by omega)]; exact hop
  refine bX10_greatestLateness_0 hK0 hwo hx ⟨Nat.zero_le _, Nat.zero_le _⟩ m1 ⟨Nat.zero_le _, Nat.zero_le _⟩ (fun _ => m3) ⟨Nat.zero_le _, Nat.zero_le _⟩ (fun d => ?_) (fun d => ?_)
  · have d2 : ¬ s_gl (vB I 288) n = -1 := fun q => d (ee.mpr q)
    refine ⟨d2, qE_i ?_ rfl⟩
    rw [worst_gl n hn hl, if_neg d2]
  · exact zz_throwN hb ho hnl hR hE 6 rfl rfl rfl ⟨Nat.le_refl _, Nat.le_refl _⟩ (z_dec dX10_greatestLateness 7 rfl) (z_dec dX10_greatestLateness 8 rfl) (z_dec dX10_greatestLateness 9 rfl) (z_dec dX10_greatestLateness 10 rfl) (z_dec dX10_greatestLateness 11 rfl) ⟨fun q => q (ee.mp d), rfl, rfl⟩
end CTH
