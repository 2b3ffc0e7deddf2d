/-! THE CLASS'S PARSER: a setup -/
def s_sets (X : zBk) (A : Nat → Int32) : zBk := upd (upd (upd (upd (upd (upd (upd X 0 (A 0)) 1 (A 1)) 2 (A 2)) 3 (A 3)) 4 (A 4)) 5 (A 5)) 6 (A 6)
def kx_set2 (b : zBk) (N : Nat) (X : zBk) (q : Nat × zTk × (Nat → Int32)) : zKs :=
  if q.1 = 0 then (if q.2.1.1 = 3 then (0, tq_nx b N q.2.1, s_sets X q.2.2, q.2.2) else (1, q.2.1, s_sets X q.2.2, q.2.2)) else (q.1, q.2.1, X, q.2.2)
def kx_set (b : zBk) (N : Nat) (t : zTk) (X : zBk) (A : Nat → Int32) : zKs :=
  if tq_isw b t 0 = true then kx_set2 b N X (tq_nums b N (zS5 0) (zS5 1) 7 0 (tq_nx b N t) A) else (1, t, X, A)
def kx_clks (b : zBk) (N : Nat) : Nat → Nat → zTk → zBk → (Nat → Int32) → zKs
  | 0, _, t, X, A => (0, t, X, A)
  | k + 1, c, t, X, A => if tq_isw b t 1 = true then (if c = 6 then (4, t, X, A) else if tq_short (tq_nx b N t) = 0 then (if tq_find X b (tq_nx b N t).2.1 (tq_ln (tq_nx b N t)) 0 c = -1 then (if (tq_nx b N (tq_nx b N t)).1 = 3 then kx_clks b N k (c + 1) (tq_nx b N (tq_nx b N (tq_nx b N t))) (s_clk X b c (tq_nx b N t).2.1 (tq_ln (tq_nx b N t))) A else (1, tq_nx b N (tq_nx b N t), s_clk X b c (tq_nx b N t).2.1 (tq_ln (tq_nx b N t)), A)) else (3, tq_nx b N t, X, A)) else (tq_short (tq_nx b N t), tq_nx b N t, X, A)) else if c < 2 then (1, t, X, A) else (0, t, X, A)
def kx_let2 (b : zBk) (N : Nat) (X : zBk) (a : Int32) (n : Nat) (q : Nat × zTk × (Nat → Int32)) : zKs :=
  if q.1 = 0 then (if q.2.1.1 = 3 then (0, tq_nx b N q.2.1, s_add X n a (q.2.2 0) (q.2.2 1) (q.2.2 2) (q.2.2 3), q.2.2) else (1, q.2.1, X, q.2.2)) else (q.1, q.2.1, X, q.2.2)
def kx_let1 (b : zBk) (N : Nat) (X : zBk) (A : Nat → Int32) (n : Nat) (q : Int32 × Nat × zTk) : zKs :=
  if q.1 = -1 then (q.2.1, q.2.2, X, A) else kx_let2 b N X q.1 n (tq_nums b N (zS5 2) (zS5 3) 4 0 q.2.2 A)
def kx_lets (b : zBk) (N c : Nat) : Nat → Nat → zTk → zBk → (Nat → Int32) → zKs
  | 0, _, t, X, A => (0, t, X, A)
  | k + 1, n, t, X, A => if t.1 = 0 then (0, t, X, A) else if tq_isw b t 2 = true then (if n = 12 then (4, t, X, A) else if (kx_let1 b N X A n (tq_clk X b N c (tq_nx b N t))).1 = 0 then kx_lets b N c k (n + 1) (kx_let1 b N X A n (tq_clk X b N c (tq_nx b N t))).2.1 (kx_let1 b N X A n (tq_clk X b N c (tq_nx b N t))).2.2.1 (kx_let1 b N X A n (tq_clk X b N c (tq_nx b N t))).2.2.2 else kx_let1 b N X A n (tq_clk X b N c (tq_nx b N t))) else (1, t, X, A)
theorem nums_ok {b : zBk} {N : Nat} {lo hi : Nat → Int32} : ∀ k i (t : zTk) (A : Nat → Int32), tOK b N t → tOK b N (tq_nums b N lo hi k i t A).2.1
  | 0, _, _, _, h => h
  | k + 1, i, t, A, h => by
    unfold tq_nums
    split
    · split
      · exact nums_ok k (i + 1) _ _ (kT_nx h)
      · exact h
    · exact h
theorem clk_ok {b : zBk} {N c : Nat} {X : zBk} {t : zTk} (h : tOK b N t) : tOK b N (tq_clk X b N c t).2.2 := by
  unfold tq_clk
  split
  · split
    · exact h
    · exact kT_nx h
  · exact h
theorem clk_0 {b : zBk} {N c : Nat} {X : zBk} {t : zTk} (h : (tq_clk X b N c t).1 ≠ -1) : (tq_clk X b N c t).2.1 = 0 ∧ ∃ a, a < c ∧ (tq_clk X b N c t).1 = nI a := by
  unfold tq_clk at h ⊢
  split at h
  · split at h
    · exact absurd rfl h
    · rename_i h1 h2
      rw [if_pos h1, if_neg h2]
      rcases find_in X b t.2.1 (t.2.2.1 - t.2.1) c 0 with e | ⟨a, -, ha, e⟩
      · exact absurd e h2
      · exact ⟨rfl, a, by omega, e⟩
  · exact absurd rfl h
theorem short_ne {t : zTk} : tq_short t = 0 ∨ tq_short t = 1 ∨ tq_short t = 3 := by
  unfold tq_short; split <;> (try split) <;> simp
theorem clk_1 {b : zBk} {N c : Nat} {X : zBk} {t : zTk} (h : (tq_clk X b N c t).1 = -1) (hc : c < 2 ^ 31) : (tq_clk X b N c t).2.1 ≠ 0 := by
  unfold tq_clk at h ⊢
  split
  · rename_i h1
    rw [if_pos h1] at h
    split
    · show (3 : Nat) ≠ 0; decide
    · rename_i h2
      rw [if_neg h2] at h
      exact absurd h h2
  · rename_i h1; exact h1
section KXS
variable {G : zG} {w : Nat × Nat} {gl : Launch} {I : zM} {s N : Nat} {cu : Int32} {t : zTk} {X : zBk} {A : Nat → Int32}
theorem x_set (hm : isT w 4 285) (hs : isT w 9 s) (hp : pOK I s N) (hok : tOK (I 286) N t) {r : zKs} (hr : r = kx_set (I 286) N t X A) : CT G w gl (yX10_readSettings, cX10_readSettings, 2, some .boolean) 6 (0, 0) [.ref 285, .ref s] (xR I s cu (0, t, X, A)) (qE (b2 (decide (r.1 = 0))) (xR I s cu r)) nX := by
  refine ct_of (by decide) [(0, .ref 285), (1, .ref s)] rfl rfl (fun K hG hw hgl hwo hK => ?_)
  subst hG; subst hw; subst hgl
  have D : ((0, 0) : Nat × Nat).1 ≤ ((0, 0) : Nat × Nat).1 ∧ ((0, 0) : Nat × Nat).2 ≤ ((0, 0) : Nat × Nat).2 := ⟨Nat.le_refl _, Nat.le_refl _⟩
  have hk := x_key (G := kG K) (w := kw K) (gl := kl K) (I := I) (s := s) (cu := cu) (X := X) (A := A) hm hp hok (j := 0) (by omega)
  unfold kx_set at hr
  by_cases h0 : tq_isw (I 286) t 0 = true
  · rw [if_pos h0] at hr hk
    generalize hq : tq_nums (I 286) N (zS5 0) (zS5 1) 7 0 (tq_nx (I 286) N t) A = q at hr
    have hok1 := kT_nx hok
    have hok2 : tOK (I 286) N q.2.1 := by rw [← hq]; exact nums_ok _ _ _ _ hok1
    have hn := x_nums (G := kG K) (w := kw K) (gl := kl K) (I := I) (s := s) (cu := cu) (X := X) (A := A) hm hp hok1 (n := 7) (by omega) (zoT0 (kG K)) (zoT1 (kG K)) hq.symm
    by_cases h1 : q.1 = 0
    · have hsr : s ≠ 287 ∧ s + 1 ≠ 287 := by have := hp.1; unfold sep3 at this; omega
      have eo : ∀ (M : zM) (r k j : Nat) (x : Int32), r ≠ 287 → up M r k x 287 j = M 287 j := fun M r k j x h => by rw [up_def, ups_ne _ _ (Ne.symm h)]
      have e7 : ∀ j, xR I s cu (q.1, q.2.1, X, q.2.2) 287 j = q.2.2 j := fun j => by rw [xR_287]
      have hse := x_semi (G := kG K) (w := kw K) (gl := kl K) (I := I) (s := s) (cu := cu) (X := s_sets X q.2.2) (A := q.2.2) hm hp hok2
      have er : r.1 = 0 ↔ q.2.1.1 = 3 := by
        rw [hr]; unfold kx_set2; rw [if_pos h1]
        by_cases h3 : q.2.1.1 = 3
        · rw [if_pos h3]; simp [h3]
        · rw [if_neg h3]; simp [h3]
      have em : (if q.2.1.1 = 3 then xR I s cu (0, tq_nx (I 286) N q.2.1, s_sets X q.2.2, q.2.2) else xR I s cu (1, q.2.1, s_sets X q.2.2, q.2.2)) = xR I s cu r := by
        rw [hr]; unfold kx_set2; rw [if_pos h1]; split <;> rfl
      rw [em, show decide (q.2.1.1 = 3) = decide (r.1 = 0) from decide_eq_decide.mpr er.symm] at hse
      refine bX10_readSettings_0 (mc1 := (0, 0)) (x1 := nX) hK hwo hm hs D (fun _ _ z => z.elim) hk D (fun z => absurd h0 (by rw [b2_0.mp z]; decide)) D (fun _ => hn) D (fun _ _ => ?_) D (fun _ _ => qE_i rfl rfl) (fun _ _ => b2_01 _) D (fun _ z => absurd h1 (of_decide_eq_false (b2_0.mp z)))
      rw [(hs.lr hwo).1]
      simp only [eo _ s _ _ _ hsr.1, eo _ (s + 1) _ _ _ hsr.2, e7]
      rw [← xR_B hp.1 (X := X) (cu := cu) (cu' := cu) (r := (q.1, q.2.1, X, q.2.2))]
      simp only [su5, suS (show 0 < 6 by omega), suS (show 1 < 6 by omega), suS (show 2 < 6 by omega), suS (show 3 < 6 by omega), suS (show 4 < 6 by omega), suS (show 5 < 6 by omega)]
      rw [xR_B hp.1, h1]
      exact hse
    · have er : r = (q.1, q.2.1, X, q.2.2) := by rw [hr]; unfold kx_set2; rw [if_neg h1]
      rw [er] at hK
      refine bX10_readSettings_0 (mc1 := (0, 0)) (x1 := nX) (f7 := 0) (g7 := I) hK hwo hm hs D (fun _ _ z => z.elim) hk D (fun z => absurd h0 (by rw [b2_0.mp z]; decide)) D (fun _ => hn) D (fun _ z => absurd (of_decide_eq_true (b2_n0.mp z)) h1) D (fun _ z => absurd (of_decide_eq_true (b2_n0.mp z)) h1) (fun _ z => absurd (of_decide_eq_true (b2_n0.mp z)) h1) D (fun _ _ => qE_i ?_ rfl)
      exact (b2d h1).symm
  · rw [if_neg h0] at hr hk
    rw [hr] at hK
    have hf : tq_isw (I 286) t 0 = false := by simpa using h0
    refine bX10_readSettings_0 (mc1 := (0, 0)) (x1 := nX) (f5 := 0) (g5 := I) (f7 := 0) (g7 := I) hK hwo hm hs D (fun _ _ z => z.elim) hk D (fun _ => qE_i rfl rfl) D (fun z => absurd (b2_n0.mp z) h0) D (fun z => absurd (b2_n0.mp z) h0) D (fun z => absurd (b2_n0.mp z) h0) (fun z => absurd (b2_n0.mp z) h0) D (fun z => absurd (b2_n0.mp z) h0)
theorem clkL {b : zBk} {c fr m : Nat} (hL : nmL X c) (hc : c < 6) (hm : m ≤ 6) : nmL (s_clk X b c fr m) (c + 1) := by
  refine ⟨by omega, fun a ha => ?_⟩
  unfold s_clk
  rw [upd_ne _ _ (by omega)]
  by_cases e : a = c
  · rw [e, upd_same]; exact ⟨m, hm, rfl⟩
  · rw [upd_ne _ _ (by omega), nm_far m (by omega)]; exact hL.2 a (by omega)
theorem x_clks (hm : isT w 4 285) (hs : isT w 9 s) (hp : pOK I s N) (hbt : ∀ j, j < N → (I 286 j).toInt8.toInt32 = I 286 j) (hok : tOK (I 286) N t) {r : zKs} (hr : r = kx_clks (I 286) N 7 0 t (upd X 7 0) A) : CT G w gl (yX10_readClerks, cX10_readClerks, 3, some .boolean) 5 (0, 0) [.ref 285, .ref (s + 2)] (xR I s cu (0, t, X, A)) (qE (b2 (decide (r.1 = 0))) (xR I s cu r)) nX := by
  refine ct_of (by decide) [(0, .ref 285), (1, .ref (s + 2))] rfl rfl (fun K hG hw hgl hwo hK => ?_)
  subst hG; subst hw; subst hgl
  have D : ((0, 0) : Nat × Nat).1 ≤ ((0, 0) : Nat × Nat).1 ∧ ((0, 0) : Nat × Nat).2 ≤ ((0, 0) : Nat × Nat).2 := ⟨Nat.le_refl _, Nat.le_refl _⟩
  have hcl := hs.clk hwo
  have hby := hm.byt hwo
  refine bX10_readClerks_0 hK hwo hm hcl ?_
  have key : ∀ k c (t : zTk) (X : zBk), k + c = 7 → c ≤ 6 → tOK (I 286) N t → X 7 = nI c → nmL X c → r = kx_clks (I 286) N k c t X A → ZZ K (0, 0) 7 [(0, .ref 285), (1, .ref (s + 2)), (2, .int (nI c))] [] (xR I s cu (0, t, X, A)) := by
    intro k
    induction k with
    | zero => intro c t X h1 h2; omega
    | succ k ih =>
      intro c t X h1 h2 hok h7 hL hr
      have nlt : ¬ (6 : Int32) < nI c := fun z => by have := (nI_ltI (a := 6) (b := c) (by omega) (by omega)).mp z; omega
      have m4 := x_word (G := kG K) (w := kw K) (gl := kl K) (I := I) (s := s) (cu := cu) (X := X) (A := A) hm hp hok (j := 1) (by omega)
      unfold kx_clks at hr
      by_cases hw1 : tq_isw (I 286) t 1 = true
      · rw [if_pos hw1] at hr
        have ne5 : ¬ b2 (tq_isw (I 286) t 1) = 0 := by rw [hw1]; decide
        by_cases hc6 : c = 6
        · rw [if_pos hc6] at hr
          rw [hr] at hK
          have e6 : nI c = 6 := by rw [hc6]; rfl
          have mf := x_fail (G := kG K) (w := kw K) (gl := kl K) (I := I) (s := s) (cu := cu) (t := t) (X := X) (A := A) hm (c := 4) (by decide)
          exact bX10_readClerks_7 (mc4 := (0, 0)) (x4 := nX) (g7 := I) (f8 := 0) (g8 := I) (f10 := 0) (g10 := I) (g12 := I) (g13 := I) (f14 := 0) (g14 := I) (f19 := 0) (g19 := I) (f32 := 0) (g32 := I) hK hwo hm hcl D (fun z => absurd z nlt) D (fun _ _ _ z => z.elim) (fun _ => m4) D (fun _ _ z => absurd e6 z) D (fun _ _ z => absurd e6 z) D (fun _ _ z => absurd e6 z) D (fun _ _ z => absurd e6 z) D (fun _ _ z => absurd e6 z) D (fun _ _ z => absurd e6 z) (fun _ _ z => absurd e6 z) D (fun _ _ z => absurd e6 z) D (fun _ _ z => absurd e6 z) D (fun _ _ z => absurd e6 z) (fun _ _ z => absurd e6 z) D (fun _ _ z => absurd e6 z) D (fun _ _ _ => mf) D (fun _ _ _ => qE_i rfl rfl) (fun _ _ _ => Or.inl rfl) D (fun _ z => absurd z ne5) D (fun _ z => absurd z ne5) D (fun _ z => absurd z ne5) D (fun _ z => absurd z ne5)
        · rw [if_neg hc6] at hr
          have e6 : ¬ nI c = 6 := fun z => hc6 ((nI_eq (a := c) (b := 6) (by omega) (by omega)).mp z)
          have hok1 := kT_nx hok
          have m7 := x_adv (G := kG K) (w := kw K) (gl := kl K) (I := I) (s := s) (cu := cu) (X := X) (A := A) hm hp hok
          have m8 := x_name (G := kG K) (w := kw K) (gl := kl K) (I := I) (s := s) (cu := cu) (X := X) (A := A) hm hp hok1
          by_cases hsh : tq_short (tq_nx (I 286) N t) = 0
          · rw [if_pos hsh] at hr
            rw [hsh] at m8
            have ne9 : ¬ b2 (decide ((0 : Nat) = 0)) = 0 := by decide
            obtain ⟨hk1, hl6⟩ := short0 hsh
            have elen : (tq_nx (I 286) N t).2.1 + tq_ln (tq_nx (I 286) N t) = (tq_nx (I 286) N t).2.2.1 := by unfold tq_ln; have := hok1.2.1; omega
            have hle := hok1.2.2.1
            have hN := hp.2.2
            have e3 : ∀ Y : zBk, xR I s cu (0, tq_nx (I 286) N t, Y, A) 285 3 = nI (tq_nx (I 286) N t).2.1 := fun Y => by rw [xR_285, kF_2 (by decide) (by decide)]; rfl
            have e4 : ∀ Y : zBk, xR I s cu (0, tq_nx (I 286) N t, Y, A) 285 4 = nI ((tq_nx (I 286) N t).2.1 + tq_ln (tq_nx (I 286) N t)) := fun Y => by rw [xR_285, kF_2 (by decide) (by decide), elen]; rfl
            have m10 := x_find (G := kG K) (w := kw K) (gl := kl K) (I := I) (s := s) (cu := cu) (r := (0, tq_nx (I 286) N t, X, A)) (fr := (tq_nx (I 286) N t).2.1) (m := tq_ln (tq_nx (I 286) N t)) hs hby hp h7 hL (by omega)
            by_cases hfd : tq_find X (I 286) (tq_nx (I 286) N t).2.1 (tq_ln (tq_nx (I 286) N t)) 0 c = -1
            · rw [if_pos hfd] at hr
              have m12 := x_addc (G := kG K) (w := kw K) (gl := kl K) (I := I) (s := s) (cu := cu) (t := tq_nx (I 286) N t) (X := X) (A := A) (fr := (tq_nx (I 286) N t).2.1) (m := tq_ln (tq_nx (I 286) N t)) hs hby hp h7 (by omega) hl6 (by omega) (fun j a b => hbt j (by omega))
              have m13 := x_adv (G := kG K) (w := kw K) (gl := kl K) (I := I) (s := s) (cu := cu) (X := s_clk X (I 286) c (tq_nx (I 286) N t).2.1 (tq_ln (tq_nx (I 286) N t))) (A := A) hm hp hok1
              have m14 := x_semi (G := kG K) (w := kw K) (gl := kl K) (I := I) (s := s) (cu := cu) (X := s_clk X (I 286) c (tq_nx (I 286) N t).2.1 (tq_ln (tq_nx (I 286) N t))) (A := A) hm hp (kT_nx hok1)
              refine bX10_readClerks_7 (mc4 := (0, 0)) (x4 := nX) (f19 := 0) (g19 := I) (f25 := 0) (g25 := I) (f32 := 0) (g32 := I) hK hwo hm hcl D (fun z => absurd z nlt) D (fun _ _ _ z => z.elim) (fun _ => m4) D (fun _ _ _ => m7) D (fun _ _ _ => m8) D (fun _ _ _ _ => by rw [e3, e4]; exact m10) D (fun _ _ _ _ _ => by rw [e3, e4]; exact m12) D (fun _ _ _ _ _ => m13) D (fun _ _ _ _ _ => m14) (fun _ _ _ _ _ z => ?_) D (fun _ _ _ _ _ z => ?_) D (fun _ _ _ _ z => absurd hfd z) D (fun _ _ _ _ z => absurd hfd z) (fun _ _ _ _ z => absurd hfd z) D (fun _ _ _ z => absurd z ne9) D (fun _ _ z => absurd z e6) D (fun _ _ z => absurd z e6) (fun _ _ z => absurd z e6) D (fun _ z => absurd z ne5) D (fun _ z => absurd z ne5) D (fun _ z => absurd z ne5) D (fun _ z => absurd z ne5)
              · have h3 : (tq_nx (I 286) N (tq_nx (I 286) N t)).1 = 3 := of_decide_eq_true (b2_n0.mp z)
                rw [if_pos h3] at hr ⊢
                rw [nI_1]
                exact ih (c + 1) _ _ (by omega) (by omega) (kT_nx (kT_nx hok1)) (upd_same _ _ _) (clkL hL (by omega) hl6) hr
              · have h3 : ¬ (tq_nx (I 286) N (tq_nx (I 286) N t)).1 = 3 := of_decide_eq_false (b2_0.mp z)
                rw [if_neg h3] at hr ⊢
                rw [hr]
                exact qE_i rfl rfl
            · rw [if_neg hfd] at hr
              rw [hr] at hK
              have mf := x_fail (G := kG K) (w := kw K) (gl := kl K) (I := I) (s := s) (cu := cu) (t := tq_nx (I 286) N t) (X := X) (A := A) hm (c := 3) (by decide)
              exact bX10_readClerks_7 (mc4 := (0, 0)) (x4 := nX) (g12 := I) (g13 := I) (f14 := 0) (g14 := I) (f25 := 0) (g25 := I) (f32 := 0) (g32 := I) hK hwo hm hcl D (fun z => absurd z nlt) D (fun _ _ _ z => z.elim) (fun _ => m4) D (fun _ _ _ => m7) D (fun _ _ _ => m8) D (fun _ _ _ _ => by rw [e3, e4]; exact m10) D (fun _ _ _ _ z => absurd z hfd) D (fun _ _ _ _ z => absurd z hfd) D (fun _ _ _ _ z => absurd z hfd) (fun _ _ _ _ z => absurd z hfd) D (fun _ _ _ _ z => absurd z hfd) D (fun _ _ _ _ _ => mf) D (fun _ _ _ _ _ => qE_i rfl rfl) (fun _ _ _ _ _ => Or.inl rfl) D (fun _ _ _ z => absurd z ne9) D (fun _ _ z => absurd z e6) D (fun _ _ z => absurd z e6) (fun _ _ z => absurd z e6) D (fun _ z => absurd z ne5) D (fun _ z => absurd z ne5) D (fun _ z => absurd z ne5) D (fun _ z => absurd z ne5)
          · rw [if_neg hsh] at hr
            rw [hr] at hK
            have e9 : b2 (decide (tq_short (tq_nx (I 286) N t) = 0)) = 0 := b2d hsh
            exact bX10_readClerks_7 (mc4 := (0, 0)) (x4 := nX) (f10 := 0) (g10 := I) (g12 := I) (g13 := I) (f14 := 0) (g14 := I) (f19 := 0) (g19 := I) (f25 := 0) (g25 := I) (f32 := 0) (g32 := I) hK hwo hm hcl D (fun z => absurd z nlt) D (fun _ _ _ z => z.elim) (fun _ => m4) D (fun _ _ _ => m7) D (fun _ _ _ => m8) D (fun _ _ _ z => absurd e9 z) D (fun _ _ _ z => absurd e9 z) D (fun _ _ _ z => absurd e9 z) D (fun _ _ _ z => absurd e9 z) (fun _ _ _ z => absurd e9 z) D (fun _ _ _ z => absurd e9 z) D (fun _ _ _ z => absurd e9 z) D (fun _ _ _ z => absurd e9 z) (fun _ _ _ z => absurd e9 z) D (fun _ _ _ _ => qE_i (by rw [e9]) rfl) D (fun _ _ z => absurd z e6) D (fun _ _ z => absurd z e6) (fun _ _ z => absurd z e6) D (fun _ z => absurd z ne5) D (fun _ z => absurd z ne5) D (fun _ z => absurd z ne5) D (fun _ z => absurd z ne5)
      · rw [if_neg hw1] at hr
        have e5 : b2 (tq_isw (I 286) t 1) = 0 := b2_0.mpr (by simpa using hw1)
        by_cases hc2 : c < 2
        · rw [if_pos hc2] at hr
          rw [hr] at hK
          have n2 : ¬ (2 : Int32) ≤ nI c := fun z => by have := (nI_leI (a := 2) (b := c) (by omega) (by omega)).mp z; omega
          have mf := x_fail (G := kG K) (w := kw K) (gl := kl K) (I := I) (s := s) (cu := cu) (t := t) (X := X) (A := A) hm (c := 1) (by decide)
          exact bX10_readClerks_7 (mc4 := (0, 0)) (x4 := nX) (g7 := I) (f8 := 0) (g8 := I) (f10 := 0) (g10 := I) (g12 := I) (g13 := I) (f14 := 0) (g14 := I) (f19 := 0) (g19 := I) (f25 := 0) (g25 := I) hK hwo hm hcl D (fun z => absurd z nlt) D (fun _ _ _ z => z.elim) (fun _ => m4) D (fun _ z => absurd e5 z) D (fun _ z => absurd e5 z) D (fun _ z => absurd e5 z) D (fun _ z => absurd e5 z) D (fun _ z => absurd e5 z) D (fun _ z => absurd e5 z) (fun _ z => absurd e5 z) D (fun _ z => absurd e5 z) D (fun _ z => absurd e5 z) D (fun _ z => absurd e5 z) (fun _ z => absurd e5 z) D (fun _ z => absurd e5 z) D (fun _ z => absurd e5 z) D (fun _ z => absurd e5 z) (fun _ z => absurd e5 z) D (fun _ _ z => absurd z n2) D (fun _ _ _ => mf) D (fun _ _ _ _ => qE_i rfl rfl) D (fun _ _ _ z => absurd rfl z)
        · rw [if_neg hc2] at hr
          rw [hr] at hK
          have p2 : (2 : Int32) ≤ nI c := (nI_leI (a := 2) (b := c) (by omega) (by omega)).mpr (by omega)
          exact bX10_readClerks_7 (mc4 := (0, 0)) (x4 := nX) (g7 := I) (f8 := 0) (g8 := I) (f10 := 0) (g10 := I) (g12 := I) (g13 := I) (f14 := 0) (g14 := I) (f19 := 0) (g19 := I) (f25 := 0) (g25 := I) (f32 := 0) (g32 := I) hK hwo hm hcl D (fun z => absurd z nlt) D (fun _ _ _ z => z.elim) (fun _ => m4) D (fun _ z => absurd e5 z) D (fun _ z => absurd e5 z) D (fun _ z => absurd e5 z) D (fun _ z => absurd e5 z) D (fun _ z => absurd e5 z) D (fun _ z => absurd e5 z) (fun _ z => absurd e5 z) D (fun _ z => absurd e5 z) D (fun _ z => absurd e5 z) D (fun _ z => absurd e5 z) (fun _ z => absurd e5 z) D (fun _ z => absurd e5 z) D (fun _ z => absurd e5 z) D (fun _ z => absurd e5 z) (fun _ z => absurd e5 z) D (fun _ _ _ => qE_i rfl rfl) D (fun _ _ z => absurd p2 z) D (fun _ _ z => absurd p2 z) D (fun _ _ z => absurd p2 z)
  have e := key 7 0 t (upd X 7 0) (by omega) (by omega) hok (upd_same _ _ _) ⟨by omega, fun a ha => by omega⟩ hr
  rw [← xR_B hp.1 (X := X) (cu := cu) (cu' := cu) (r := (0, t, X, A)), suC, xR_B hp.1]
  exact e
end KXS
