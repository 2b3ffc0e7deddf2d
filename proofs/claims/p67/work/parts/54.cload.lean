/-! THE CLASS'S PARSER: letters, the whole setup, loading -/
section KXL
variable {G : zG} {w : Nat × Nat} {gl : Launch} {I : zM} {s N : Nat} {cu : Int32} {t : zTk} {X : zBk} {A : Nat → Int32}
theorem xR_2 (hs : sep3 s) {r : zKs} : xR I s cu r 285 2 = nI r.2.1.1 := by rw [xR_285, kF_2 (by decide) (by decide)]; rfl
theorem let1_ok {b : zBk} {n : Nat} {q : Int32 × Nat × zTk} (h : tOK b N q.2.2) : tOK b N (kx_let1 b N X A n q).2.1 := by
  unfold kx_let1
  split
  · exact h
  · unfold kx_let2
    have h2 := nums_ok (lo := zS5 2) (hi := zS5 3) 4 0 q.2.2 A h
    split
    · split
      · exact kT_nx h2
      · exact h2
    · exact h2
theorem add_lt {n k : Nat} {x1 x2 x3 x4 x5 : Int32} (h : k < 64) (h8 : k ≠ 8) : s_add X n x1 x2 x3 x4 x5 k = X k := add_lo h h8
theorem let1_blk {b : zBk} {n : Nat} {q : Int32 × Nat × zTk} (h0 : (kx_let1 b N X A n q).1 = 0) (hq : q.1 = -1 → q.2.1 ≠ 0) : ∃ a x1 x2 x3 x4 : Int32, (kx_let1 b N X A n q).2.2.1 = s_add X n a x1 x2 x3 x4 := by
  unfold kx_let1 at h0 ⊢
  split
  · rename_i h1
    rw [if_pos h1] at h0
    exact absurd h0 (hq h1)
  · rename_i h1
    rw [if_neg h1] at h0
    unfold kx_let2 at h0 ⊢
    split
    · rename_i h2
      rw [if_pos h2] at h0
      split
      · exact ⟨_, _, _, _, _, rfl⟩
      · rename_i h3
        rw [if_neg h3] at h0
        exact absurd h0 (show ¬ (1 : Nat) = 0 by decide)
    · rename_i h2
      rw [if_neg h2] at h0
      exact absurd h0 h2
theorem x_lets (hm : isT w 4 285) (hs : isT w 9 s) (hp : pOK I s N) (hok : tOK (I 286) N t) {c : Nat} (h7 : X 7 = nI c) (hL : nmL X c) (h8 : X 8 = 0) {r : zKs} (hr : r = kx_lets (I 286) N c 13 0 t X A) : CT G w gl (yX10_readLetters, cX10_readLetters, 4, some .boolean) 5 (0, 0) [.ref 285, .ref s] (xR I s cu (0, t, X, A)) (qE (b2 (decide (r.1 = 0))) (xR I s cu r)) nX := by
  refine ct_of (by decide) [(0, .ref 285), (1, .ref s)] rfl rfl (fun K hG hw hgl hwo hK => ?_)
  subst hG; subst hw; subst hgl
  have D : ((0, 0) : Nat × Nat).1 ≤ ((0, 0) : Nat × Nat).1 ∧ ((0, 0) : Nat × Nat).2 ≤ ((0, 0) : Nat × Nat).2 := ⟨Nat.le_refl _, Nat.le_refl _⟩
  have hlr := (hs.lr hwo).2.1
  refine bX10_readLetters_0 hK hwo hm hs ?_
  have key : ∀ k n (t : zTk) (X : zBk) (A : Nat → Int32), k + n = 13 → n ≤ 12 → tOK (I 286) N t → X 7 = nI c → nmL X c → X 8 = nI n → r = kx_lets (I 286) N c k n t X A → ZZ K (0, 0) 2 [(0, .ref 285), (1, .ref s), (2, .int (nI n))] [] (xR I s cu (0, t, X, A)) := by
    intro k
    induction k with
    | zero => intro n t X A h1 h2; omega
    | succ k ih =>
      intro n t X A h1 h2 hok h7 hL h8 hr
      have nlt : ¬ (12 : Int32) < nI n := fun z => by have := (nI_ltI (a := 12) (b := n) (by omega) (by omega)).mp z; omega
      have c6 := hL.1
      have k0 : xR I s cu (0, t, X, A) 285 2 = 0 ↔ t.1 = 0 := by
        rw [xR_2 hp.1]; have := hok.1; exact nI_eq (a := t.1) (b := 0) (by omega) (by omega)
      unfold kx_lets at hr
      by_cases ht0 : t.1 = 0
      · rw [if_pos ht0] at hr
        rw [hr] at hK
        have e4 := k0.mpr ht0
        exact bX10_readLetters_2 (mc7 := (0, 0)) (x7 := nX) (f7 := 0) (g7 := I) (g10 := I) (f11 := 0) (g11 := I) (f15 := 0) (g15 := I) (f19 := 0) (g19 := I) (f21 := 0) (g21 := I) (f25 := 0) (g25 := I) (f29 := 0) (g29 := I) hK hwo hm hs D (fun z => absurd z nlt) D (fun _ _ => qE_i rfl rfl) D (fun _ z => absurd e4 z) (fun _ z => absurd e4 z) D (fun _ z => absurd e4 z) D (fun _ z => absurd e4 z) D (fun _ z => absurd e4 z) D (fun _ z => absurd e4 z) D (fun _ z => absurd e4 z) D (fun _ z => absurd e4 z) D (fun _ z => absurd e4 z) (fun _ z => absurd e4 z) D (fun _ z => absurd e4 z) D (fun _ z => absurd e4 z) D (fun _ z => absurd e4 z) (fun _ z => absurd e4 z) D (fun _ z => absurd e4 z) D (fun _ z => absurd e4 z) (fun _ z => absurd e4 z)
      · rw [if_neg ht0] at hr
        have e4 : ¬ xR I s cu (0, t, X, A) 285 2 = 0 := fun z => ht0 (k0.mp z)
        have m7 := x_word (G := kG K) (w := kw K) (gl := kl K) (I := I) (s := s) (cu := cu) (X := X) (A := A) hm hp hok (j := 2) (by omega)
        by_cases hw1 : tq_isw (I 286) t 2 = true
        · rw [if_pos hw1] at hr
          have e8 : ¬ b2 (tq_isw (I 286) t 2) = 0 := by rw [hw1]; decide
          by_cases hn12 : n = 12
          · rw [if_pos hn12] at hr
            rw [hr] at hK
            have e9 : nI n = 12 := by rw [hn12]; rfl
            have mf := x_fail (G := kG K) (w := kw K) (gl := kl K) (I := I) (s := s) (cu := cu) (t := t) (X := X) (A := A) hm (c := 4) (by decide)
            exact bX10_readLetters_2 (mc7 := (0, 0)) (x7 := nX) (g10 := I) (f11 := 0) (g11 := I) (f15 := 0) (g15 := I) (f19 := 0) (g19 := I) (f21 := 0) (g21 := I) (f29 := 0) (g29 := I) hK hwo hm hs D (fun z => absurd z nlt) D (fun _ z => absurd z e4) D (fun _ _ _ _ z => z.elim) (fun _ _ => m7) D (fun _ _ _ z => absurd e9 z) D (fun _ _ _ z => absurd e9 z) D (fun _ _ _ z => absurd e9 z) D (fun _ _ _ z => absurd e9 z) D (fun _ _ _ z => absurd e9 z) D (fun _ _ _ z => absurd e9 z) D (fun _ _ _ z => absurd e9 z) (fun _ _ _ z => absurd e9 z) D (fun _ _ _ z => absurd e9 z) D (fun _ _ _ _ => mf) D (fun _ _ _ _ => qE_i rfl rfl) (fun _ _ _ _ => Or.inl rfl) D (fun _ _ z => absurd z e8) D (fun _ _ z => absurd z e8) (fun _ _ z => absurd z e8)
          · rw [if_neg hn12] at hr
            have e9 : ¬ nI n = 12 := fun z => hn12 ((nI_eq (a := n) (b := 12) (by omega) (by omega)).mp z)
            have hok1 := kT_nx hok
            have m10 := x_adv (G := kG K) (w := kw K) (gl := kl K) (I := I) (s := s) (cu := cu) (X := X) (A := A) hm hp hok
            generalize hq : tq_clk X (I 286) N c (tq_nx (I 286) N t) = q at hr
            have okq : tOK (I 286) N q.2.2 := by rw [← hq]; exact clk_ok hok1
            have m11 := x_clk (G := kG K) (w := kw K) (gl := kl K) (I := I) (s := s) (cu := cu) (A := A) hm hs hp hok1 h7 hL hq.symm
            have q1 : q.1 = -1 → q.2.1 ≠ 0 := fun z => by rw [← hq] at z ⊢; exact clk_1 z (by omega)
            by_cases hf : q.1 = -1
            · have hcode := q1 hf
              have el : kx_let1 (I 286) N X A n q = (q.2.1, q.2.2, X, A) := by unfold kx_let1; rw [if_pos hf]
              rw [el, if_neg hcode] at hr
              rw [hr] at hK
              exact bX10_readLetters_2 (mc7 := (0, 0)) (x7 := nX) (f15 := 0) (g15 := I) (f19 := 0) (g19 := I) (f21 := 0) (g21 := I) (f25 := 0) (g25 := I) (f29 := 0) (g29 := I) hK hwo hm hs D (fun z => absurd z nlt) D (fun _ z => absurd z e4) D (fun _ _ _ _ z => z.elim) (fun _ _ => m7) D (fun _ _ _ _ => m10) D (fun _ _ _ _ => by rw [hlr]; exact m11) D (fun _ _ _ _ _ => qE_i (b2d hcode).symm rfl) D (fun _ _ _ _ z => absurd hf z) D (fun _ _ _ _ z => absurd hf z) D (fun _ _ _ _ z => absurd hf z) D (fun _ _ _ _ z => absurd hf z) (fun _ _ _ _ z => absurd hf z) D (fun _ _ _ _ z => absurd hf z) D (fun _ _ _ z => absurd z e9) D (fun _ _ _ z => absurd z e9) (fun _ _ _ z => absurd z e9) D (fun _ _ z => absurd z e8) D (fun _ _ z => absurd z e8) (fun _ _ z => absurd z e8)
            · have hc0 : q.2.1 = 0 := by rw [← hq] at hf ⊢; exact (clk_0 hf).1
              rw [hc0] at m11
              generalize hv : tq_nums (I 286) N (zS5 2) (zS5 3) 4 0 q.2.2 A = v
              have okv : tOK (I 286) N v.2.1 := by rw [← hv]; exact nums_ok _ _ _ _ okq
              have el : kx_let1 (I 286) N X A n q = kx_let2 (I 286) N X q.1 n v := by unfold kx_let1; rw [if_neg hf, hv]
              rw [el] at hr
              have m15 := x_nums (G := kG K) (w := kw K) (gl := kl K) (I := I) (s := s) (cu := cu) (X := X) (A := A) hm hp okq (n := 4) (by omega) (zoT2 (kG K)) (zoT3 (kG K)) hv.symm
              have m19 := x_semi (G := kG K) (w := kw K) (gl := kl K) (I := I) (s := s) (cu := cu) (X := X) (A := v.2.2) hm hp okv
              by_cases hv0 : v.1 = 0
              · rw [hv0] at m15
                have e2 : kx_let2 (I 286) N X q.1 n v = if v.2.1.1 = 3 then (0, tq_nx (I 286) N v.2.1, s_add X n q.1 (v.2.2 0) (v.2.2 1) (v.2.2 2) (v.2.2 3), v.2.2) else (1, v.2.1, X, v.2.2) := by unfold kx_let2; rw [if_pos hv0]
                rw [e2] at hr
                by_cases h3 : v.2.1.1 = 3
                · rw [if_pos h3, if_pos rfl] at hr
                  rw [if_pos h3, h3] at m19
                  have eA : ∀ j, xR I s cu (0, tq_nx (I 286) N v.2.1, X, v.2.2) 287 j = v.2.2 j := fun j => by rw [xR_287]
                  have m21 := k_putLetter (G := kG K) (w := kw K) (gl := kl K) (I := xR I s cu (0, tq_nx (I 286) N v.2.1, X, v.2.2)) (s := s) (B := X) (cu := cu) (n := n) (x1 := q.1) (x2 := v.2.2 0) (x3 := v.2.2 1) (x4 := v.2.2 2) (x5 := v.2.2 3) hs h8 (by omega)
                  rw [xR_B hp.1, xR_B hp.1] at m21
                  refine bX10_readLetters_2 (mc7 := (0, 0)) (x7 := nX) (f25 := 0) (g25 := I) (f29 := 0) (g29 := I) hK hwo hm hs D (fun z => absurd z nlt) D (fun _ z => absurd z e4) D (fun _ _ _ _ z => z.elim) (fun _ _ => m7) D (fun _ _ _ _ => m10) D (fun _ _ _ _ => by rw [hlr]; exact m11) D (fun _ _ _ _ z => absurd z hf) D (fun _ _ _ _ _ => m15) D (fun _ _ _ _ _ z => absurd z (by decide)) D (fun _ _ _ _ _ _ => m19) D (fun _ _ _ _ _ _ _ => by rw [eA, eA, eA, eA]; exact m21) (fun _ _ _ _ _ _ _ => ?_) D (fun _ _ _ _ _ _ z => absurd z (by decide)) D (fun _ _ _ z => absurd z e9) D (fun _ _ _ z => absurd z e9) (fun _ _ _ z => absurd z e9) D (fun _ _ z => absurd z e8) D (fun _ _ z => absurd z e8) (fun _ _ z => absurd z e8)
                  rw [nI_1]
                  refine ih (n + 1) _ _ _ (by omega) (by omega) (kT_nx okv) (by rw [add_lo (by omega) (by omega)]; exact h7) ⟨c6, fun a ha => by rw [add_lo (by omega) (by omega)]; exact hL.2 a ha⟩ (by rw [add_8, h8, nI_1]) hr
                · rw [if_neg h3, if_neg (show ¬ (1 : Nat) = 0 by decide)] at hr
                  rw [if_neg h3] at m19
                  rw [hr] at hK
                  have ef : b2 (decide (v.2.1.1 = 3)) = 0 := by rw [decide_eq_false h3]; rfl
                  exact bX10_readLetters_2 (mc7 := (0, 0)) (x7 := nX) (f21 := 0) (g21 := I) (f25 := 0) (g25 := I) (f29 := 0) (g29 := I) hK hwo hm hs D (fun z => absurd z nlt) D (fun _ z => absurd z e4) D (fun _ _ _ _ z => z.elim) (fun _ _ => m7) D (fun _ _ _ _ => m10) D (fun _ _ _ _ => by rw [hlr]; exact m11) D (fun _ _ _ _ z => absurd z hf) D (fun _ _ _ _ _ => m15) D (fun _ _ _ _ _ z => absurd z (by decide)) D (fun _ _ _ _ _ _ => m19) D (fun _ _ _ _ _ _ z => absurd ef z) (fun _ _ _ _ _ _ z => absurd ef z) D (fun _ _ _ _ _ _ _ => qE_i rfl rfl) D (fun _ _ _ z => absurd z e9) D (fun _ _ _ z => absurd z e9) (fun _ _ _ z => absurd z e9) D (fun _ _ z => absurd z e8) D (fun _ _ z => absurd z e8) (fun _ _ z => absurd z e8)
              · have e2 : kx_let2 (I 286) N X q.1 n v = (v.1, v.2.1, X, v.2.2) := by unfold kx_let2; rw [if_neg hv0]
                rw [e2, if_neg hv0] at hr
                rw [hr] at hK
                have ef := b2d hv0
                exact bX10_readLetters_2 (mc7 := (0, 0)) (x7 := nX) (f19 := 0) (g19 := I) (f21 := 0) (g21 := I) (f25 := 0) (g25 := I) (f29 := 0) (g29 := I) hK hwo hm hs D (fun z => absurd z nlt) D (fun _ z => absurd z e4) D (fun _ _ _ _ z => z.elim) (fun _ _ => m7) D (fun _ _ _ _ => m10) D (fun _ _ _ _ => by rw [hlr]; exact m11) D (fun _ _ _ _ z => absurd z hf) D (fun _ _ _ _ _ => m15) D (fun _ _ _ _ _ _ => qE_i ef.symm rfl) D (fun _ _ _ _ _ z => absurd ef z) D (fun _ _ _ _ _ z => absurd ef z) (fun _ _ _ _ _ z => absurd ef z) D (fun _ _ _ _ _ z => absurd ef z) D (fun _ _ _ z => absurd z e9) D (fun _ _ _ z => absurd z e9) (fun _ _ _ z => absurd z e9) D (fun _ _ z => absurd z e8) D (fun _ _ z => absurd z e8) (fun _ _ z => absurd z e8)
        · rw [if_neg hw1] at hr
          rw [hr] at hK
          have e8 : b2 (tq_isw (I 286) t 2) = 0 := b2_0.mpr (by simpa using hw1)
          have mf := x_fail (G := kG K) (w := kw K) (gl := kl K) (I := I) (s := s) (cu := cu) (t := t) (X := X) (A := A) hm (c := 1) (by decide)
          exact bX10_readLetters_2 (mc7 := (0, 0)) (x7 := nX) (g10 := I) (f11 := 0) (g11 := I) (f15 := 0) (g15 := I) (f19 := 0) (g19 := I) (f21 := 0) (g21 := I) (f25 := 0) (g25 := I) hK hwo hm hs D (fun z => absurd z nlt) D (fun _ z => absurd z e4) D (fun _ _ _ _ z => z.elim) (fun _ _ => m7) D (fun _ _ z => absurd e8 z) D (fun _ _ z => absurd e8 z) D (fun _ _ z => absurd e8 z) D (fun _ _ z => absurd e8 z) D (fun _ _ z => absurd e8 z) D (fun _ _ z => absurd e8 z) D (fun _ _ z => absurd e8 z) (fun _ _ z => absurd e8 z) D (fun _ _ z => absurd e8 z) D (fun _ _ z => absurd e8 z) D (fun _ _ z => absurd e8 z) (fun _ _ z => absurd e8 z) D (fun _ _ _ => mf) D (fun _ _ _ => qE_i rfl rfl) (fun _ _ _ => Or.inl rfl)
  exact key 13 0 t X A (by omega) (by omega) hok h7 hL h8 hr
end KXL
