/-! THE REFERENCE: a script is run -/
theorem dg_nat {x : Int32} (h : tq_dg x = true) : ∃ d, d ≤ 9 ∧ x = nI (48 + d) := by
  unfold tq_dg at h
  rw [Bool.and_eq_true] at h
  have h1 : (48 : Int32) ≤ x := of_decide_eq_true h.1
  obtain ⟨j, hj, ej⟩ := i_of (M := 57) (n := 57) (by decide) (Int32.le_trans (by decide) h1) (of_decide_eq_true h.2)
  rw [ej] at h1
  have := (nI_leI (a := 48) (b := j) (by omega) (by omega)).mp h1
  exact ⟨j - 48, by omega, by rw [ej]; congr 1; omega⟩
theorem val_nat {b : zBk} {p : Nat} : ∀ k, k ≤ 3 → (∀ i, i < k → tq_dg (b (p + i)) = true) → ∃ v, v < 10 ^ k ∧ tq_val b p k = nI v
  | 0, _, _ => ⟨0, by decide, rfl⟩
  | k + 1, hk, h => by
    obtain ⟨v, hv, ev⟩ := val_nat k (by omega) (fun i hi => h i (by omega))
    obtain ⟨d, hd, ed⟩ := dg_nat (h k (by omega))
    have hp : 10 ^ (k + 1) = 10 ^ k * 10 := Nat.pow_succ 10 k
    refine ⟨v * 10 + d, by omega, ?_⟩
    unfold tq_val
    rw [ev, ed, show (10 : Int32) = nI 10 from rfl, pk_mul, nI_add, show (48 : Int32) = nI 48 from rfl, nI_sub (by omega)]
    congr 1; omega
theorem tok_val {b : zBk} {N : Nat} {t : zTk} (h : tOK b N t) (h2 : t.1 = 2) : ∃ v, v ≤ 999 ∧ t.2.2.2 = nI v := by
  obtain ⟨-, g2, -, -, g5⟩ := h
  obtain ⟨g6, g7, g8⟩ := g5 h2
  obtain ⟨v, hv, ev⟩ := val_nat (b := b) (p := t.2.1) (t.2.2.1 - t.2.1) g6 (fun i hi => g8 _ (by omega) (by omega))
  have : 10 ^ (t.2.2.1 - t.2.1) ≤ 10 ^ 3 := Nat.pow_le_pow_right (by decide) g6
  exact ⟨v, by omega, by rw [g7, ev]⟩
theorem anys_far {b : zBk} {N j : Nat} : ∀ k i (t : zTk) (C : Nat → Int32), (j < i ∨ i + k ≤ j) → (tq_anys b N k i t C).2.2 j = C j
  | 0, _, _, _, _ => rfl
  | k + 1, i, t, C, h => by
    unfold tq_anys
    split
    · rw [anys_far k (i + 1) _ _ (by omega), upd_ne _ _ (by omega)]
    · rfl
theorem anys_val {b : zBk} {N : Nat} : ∀ k i (t : zTk) (C : Nat → Int32), tOK b N t → (tq_anys b N k i t C).1 = 0 → ∀ q, q < k → ∃ v, v ≤ 999 ∧ (tq_anys b N k i t C).2.2 (i + q) = nI v
  | 0, _, _, _, _, _, q, hq => absurd hq (Nat.not_lt_zero q)
  | k + 1, i, t, C, h, h0, q, hq => by
    unfold tq_anys at h0 ⊢
    by_cases h2 : t.1 = 2
    · rw [if_pos h2] at h0 ⊢
      by_cases e : q = 0
      · subst e
        obtain ⟨v, hv, ev⟩ := tok_val h h2
        exact ⟨v, hv, by rw [anys_far k (i + 1) _ _ (by omega), Nat.add_zero, upd_same, ev]⟩
      · obtain ⟨v, hv, ev⟩ := anys_val k (i + 1) _ _ (kT_nx h) h0 (q - 1) (by omega)
        exact ⟨v, hv, by rw [show i + q = i + 1 + (q - 1) by omega]; exact ev⟩
    · rw [if_neg h2] at h0; exact absurd (show (1 : Nat) = 0 from h0) (by decide)
theorem args_far {b : zBk} {N c cmd to j : Nat} {B : zBk} {t : zTk} {C : Nat → Int32} (h : j < to ∨ to + 5 ≤ j) : (sp_args b N B c cmd to t C).2.2 j = C j := by
  unfold sp_args
  split
  · exact anys_far 2 to _ _ (by omega)
  · split
    · exact anys_far 1 to _ _ (by omega)
    · split
      · split
        · exact upd_ne _ _ (by omega)
        · rw [anys_far 4 (to + 1) _ _ (by omega), upd_ne _ _ (by omega)]
      · rfl
theorem args_row {b : zBk} {N c cmd m : Nat} {B : zBk} {t : zTk} {C : Nat → Int32} (h : tOK b N t) (hc : cmd ≤ 5) (h6 : C (m * 6) = nI cmd) (h0 : (sp_args b N B c cmd (m * 6 + 1) t C).1 = 0) : rw_ok (sp_args b N B c cmd (m * 6 + 1) t C).2.2 c m := by
  refine ⟨cmd, hc, by rw [args_far (by omega)]; exact h6, ?_, ?_, ?_⟩
  · intro z
    unfold sp_args at h0 ⊢
    rw [if_neg (by omega), if_neg (by omega)] at h0 ⊢
    by_cases hs : tq_short t = 0
    · rw [if_pos hs] at h0 ⊢
      by_cases hf : tq_find B b t.2.1 (tq_ln t) 0 c = -1
      · rw [if_pos hf] at h0; exact absurd (show (3 : Nat) = 0 from h0) (by decide)
      · rw [if_neg hf] at h0 ⊢
        obtain ⟨a, -, ha, ea⟩ := (find_in B b t.2.1 (tq_ln t) c 0).resolve_left hf
        refine ⟨⟨a, by omega, by rw [anys_far 4 _ _ _ (by omega), upd_same, ea]⟩, fun i h1 h2 => ?_⟩
        obtain ⟨v, hv, ev⟩ := anys_val 4 (m * 6 + 1 + 1) _ _ (kT_nx h) h0 (i - 2) (by omega)
        exact ⟨v, hv, by rw [show m * 6 + i = m * 6 + 1 + 1 + (i - 2) by omega]; exact ev⟩
    · rw [if_neg hs] at h0; exact absurd h0 hs
  · intro z
    unfold sp_args at h0 ⊢
    by_cases z3 : cmd = 3 ∨ cmd = 4
    · rw [if_pos z3] at h0 ⊢
      exact anys_val 2 (m * 6 + 1) _ _ h h0 0 (by omega)
    · rw [if_neg z3, if_pos z] at h0 ⊢
      exact anys_val 1 (m * 6 + 1) _ _ h h0 0 (by omega)
  · intro z
    unfold sp_args at h0 ⊢
    rw [if_pos z] at h0 ⊢
    exact anys_val 2 (m * 6 + 1) _ _ h h0 1 (by omega)
theorem rw_cg {C D : Nat → Int32} {c j : Nat} (h : ∀ i, i < 6 → D (j * 6 + i) = C (j * 6 + i)) (hr : rw_ok C c j) : rw_ok D c j := by
  obtain ⟨cmd, h5, ec, r0, r1, r3⟩ := hr
  have e0 := h 0 (by omega)
  rw [Nat.add_zero] at e0
  refine ⟨cmd, h5, by rw [e0]; exact ec, fun z => ⟨?_, fun i h1 h2 => ?_⟩, fun z => ?_, fun z => ?_⟩
  · rw [h 1 (by omega)]; exact (r0 z).1
  · rw [h i (by omega)]; exact (r0 z).2 i h1 h2
  · rw [h 1 (by omega)]; exact r1 z
  · rw [h 2 (by omega)]; exact r3 z
theorem scr_ok {b : zBk} {N c : Nat} {B : zBk} : ∀ k m (t : zTk) (C : Nat → Int32), m + k = 31 → m ≤ 30 → tOK b N t → (∀ j, j < m → rw_ok C c j) → (sp_scr b N B c k m t C).1.1 = 0 → (sp_scr b N B c k m t C).2 ≤ 30 ∧ ∀ j, j < (sp_scr b N B c k m t C).2 → rw_ok (sp_scr b N B c k m t C).1.2.2 c j
  | 0, m, t, C, h1, h2, _, _, _ => by omega
  | k + 1, m, t, C, h1, h2, ht, hr, h0 => by
    unfold sp_scr at h0 ⊢
    by_cases t0 : t.1 = 0
    · rw [if_pos t0] at h0 ⊢; exact ⟨h2, hr⟩
    rw [if_neg t0] at h0 ⊢
    by_cases cm : sp_cmd b t 6 0 = -1
    · rw [if_pos cm] at h0; exact absurd (show (1 : Nat) = 0 from h0) (by decide)
    rw [if_neg cm] at h0 ⊢
    obtain ⟨cd, -, hcd, ecd⟩ := (cmd_in (b := b) (t := t) 6 0).resolve_left cm
    by_cases m30 : m < 30
    · rw [if_pos m30] at h0 ⊢
      rw [ecd, nI_clamp (by omega)] at h0 ⊢
      by_cases a0 : (sp_args b N B c cd (m * 6 + 1) (tq_nx b N t) (upd C (m * 6) (nI cd))).1 = 0
      · rw [if_pos a0] at h0 ⊢
        have row := args_row (B := B) (c := c) (m := m) (C := upd C (m * 6) (nI cd)) (kT_nx ht) (show cd ≤ 5 by omega) (upd_same _ _ _) a0
        by_cases a3 : (sp_args b N B c cd (m * 6 + 1) (tq_nx b N t) (upd C (m * 6) (nI cd))).2.1.1 = 3
        · rw [if_pos a3] at h0 ⊢
          refine scr_ok k (m + 1) _ _ (by omega) (by omega) (kT_nx (args_ok (kT_nx ht))) (fun j hj => ?_) h0
          by_cases e : j = m
          · rw [e]; exact row
          · refine rw_cg (fun i hi => ?_) (hr j (by omega))
            rw [args_far (by omega), upd_ne _ _ (by omega)]
        · rw [if_neg a3] at h0; exact absurd (show (1 : Nat) = 0 from h0) (by decide)
      · rw [if_neg a0] at h0; exact absurd h0 a0
    · rw [if_neg m30] at h0; exact absurd (show (4 : Nat) = 0 from h0) (by decide)
theorem run_le {C : Nat → Int32} : ∀ k j (B : zBk), (s_run C k j B).1 ≤ j + k
  | 0, j, B => Nat.le_refl _
  | k + 1, j, B => by
    unfold s_run
    split
    · have := run_le (C := C) k (j + 1) (s_doit B C j); omega
    · show j ≤ _; omega
theorem wf_run {C : Nat → Int32} {c : Nat} : ∀ k j (B : zBk) n t, s_wf B n c t → t ≤ 2000 → (∀ i, i < j + k → rw_ok C c i) → ∃ n' t', s_wf (s_run C k j B).2 n' c t' ∧ t' ≤ 2000
  | 0, j, B, n, t, hf, ht, _ => ⟨n, t, hf, ht⟩
  | k + 1, j, B, n, t, hf, ht, hr => by
    unfold s_run
    by_cases h : s_can B C j = true
    · rw [if_pos h]
      obtain ⟨n', t', h1, h2⟩ := wf_doit hf ht (hr j (by omega)) h
      exact wf_run k (j + 1) _ n' t' h1 h2 (fun i hi => hr i (by omega))
    · rw [if_neg h]; exact ⟨n, t, hf, ht⟩
section RRS
variable {G : zG} {w : Nat × Nat} {gl : Launch} {I : zM} {N : Nat}
theorem r_runScript (hm : isT w 11 312) (h4 : I 312 4 = nI N) (hN : N ≤ 600) {n c t m : Nat} (hf : s_wf (I 313) n c t) (hf2 : s_wf (s_rem (I 313) m) n c t) (ht : t ≤ 2000) (hL : nmL (I 313) c) (h2 : I 312 2 = nI m) (hm6 : m ≤ 6) {R : zSs × Nat} (hR : R = sp_scr (I 315) N (I 313) c 31 0 (t_beg I N) (I 317)) : CT G w gl (yX11_runScript, cX11_runScript, 3, some .int) 10 (0, 0) [.ref 312] I (qE (if R.1.1 = 0 then nI (s_run R.1.2.2 R.2 0 (s_rem (I 313) m)).1 else 0) (if R.1.1 = 0 then rM (ups I 317 R.1.2.2) (upd (upd (upd (rF (bF (I 312)) R.1.1 R.1.2.1) 4 0) 9 0) 2 (nI (min (m + 1) 6))) (s_run R.1.2.2 R.2 0 (s_rem (I 313) m)).2 else rM (ups I 317 R.1.2.2) (upd (upd (rF (bF (I 312)) R.1.1 R.1.2.1) 4 0) 9 1) (I 313))) nX := by
  refine ct_of (by decide) [(0, .ref 312)] rfl rfl (fun K hG hw hgl hwo hK => ?_)
  subst hG; subst hw; subst hgl
  have z0 : (0, 0).1 ≤ ((0, 0) : Nat × Nat).1 ∧ (0, 0).2 ≤ ((0, 0) : Nat × Nat).2 := ⟨Nat.le_refl _, Nat.le_refl _⟩
  have tb : tOK (I 315) N (t_beg I N) := tk_ok (by omega)
  have mb := m_begin (G := kG K) (w := kw K) (gl := kl K) (I := I) (N := N) hm h4 hN
  have e0 : mR (bI I) (0, t_beg I N, I 313) = mS I (0, t_beg I N, I 317) := by unfold mS; rw [ups_id]
  rw [e0] at mb
  have ms := m_scr (G := kG K) (w := kw K) (gl := kl K) (I := I) (N := N) (c := c) (r := (0, t_beg I N, I 317)) hm h4 hN hf.2.2.1 hL rfl tb hR
  have eM : up (mS I R.1) 312 4 0 = rM (ups I 317 R.1.2.2) (upd (rF (bF (I 312)) R.1.1 R.1.2.1) 4 0) (I 313) := by
    unfold mS
    rw [bI_R, up_def, rM_312, rM_2, ups_ne _ _ (show 312 ≠ 317 by decide)]
  have hmr : (upd (rF (bF (I 312)) R.1.1 R.1.2.1) 4 0) 2 = nI m := by
    rw [upd_ne _ _ (by decide)]
    unfold rF
    split
    · show bF (I 312) 2 = _
      unfold bF; rw [upd_ne _ _ (by decide), upd_ne _ _ (by decide)]; exact h2
    · unfold wr_put
      rw [upd_ne _ _ (by decide), upd_ne _ _ (by decide)]
      show bF (I 312) 2 = _
      unfold bF; rw [upd_ne _ _ (by decide), upd_ne _ _ (by decide)]; exact h2
  by_cases hc0 : R.1.1 = 0
  · rw [if_pos hc0] at ms
    rw [if_pos hc0, if_pos hc0] at hK
    have ok := scr_ok (b := I 315) (N := N) (c := c) (B := I 313) 31 0 (t_beg I N) (I 317) (by omega) (by omega) tb (fun j hj => absurd hj (Nat.not_lt_zero j)) (by rw [← hR]; exact hc0)
    rw [← hR] at ok
    obtain ⟨hR30, rows⟩ := ok
    have nm1 : ¬ nI R.2 = -1 := nI_ne_m1 (by omega)
    generalize hF : upd (upd (upd (rF (bF (I 312)) R.1.1 R.1.2.1) 4 0) 9 0) 2 (nI (min (m + 1) 6)) = F at hK
    generalize hRun : s_run R.1.2.2 R.2 0 (s_rem (I 313) m) = Z at hK
    have key : ∀ k j (B : zBk) n t, j + k = R.2 → s_wf B n c t → t ≤ 2000 → s_run R.1.2.2 k j B = Z → ZZ K (0, 0) 42 [(0, .ref 312), (1, .int (nI R.2)), (2, .int (nI j))] [] (rM (ups I 317 R.1.2.2) F B) := by
      intro k
      induction k with
      | zero =>
        intro j B n t hj hB htt he
        have le : nI R.2 ≤ nI j := by rw [show j = R.2 by omega]; exact Int32.le_refl _
        refine bX11_runScript_42 (u := (0, 0)) (mc := (0, 0)) (f4 := 0) (g4 := I) (g8 := I) hK hwo hm z0 (fun _ => ?_) z0 (fun q => absurd le q) z0 (fun q => absurd le q) z0 (fun q => absurd le q) (fun q => absurd le q)
        rw [← he]; exact qE_i rfl rfl
      | succ k ih =>
        intro j B n t hj hB htt he
        have nle : ¬ nI R.2 ≤ nI j := nI_ge (by omega) (by omega)
        have e6 : nI j * 6 = nI (j * 6) := by rw [show (6 : Int32) = nI 6 from rfl, pk_mul]
        have e17 : (rM (ups I 317 R.1.2.2) F B) 317 = R.1.2.2 := by rw [rM_ot (by decide) (by decide), ups_same]
        have mc := m_canDo (G := kG K) (w := kw K) (gl := kl K) (I := rM (ups I 317 R.1.2.2) F B) (n := n) (c := c) (t := t) (j := j) hm (by rw [rM_313]; exact hB) (by omega) (by rw [e17]; exact rows j (by omega))
        rw [rM_313, e17] at mc
        unfold s_run at he
        refine bX11_runScript_42 (u := (0, 0)) (mc := (0, 0)) (g8 := rM (ups I 317 R.1.2.2) F (s_doit B R.1.2.2 j)) hK hwo hm z0 (fun q => absurd q nle) z0 (fun _ => by rw [e6]; exact mc) z0 (fun _ d => ?_) z0 (fun _ d => ?_) (fun _ d => ?_)
        · rw [if_neg (by rw [b2_0.mp d]; decide)] at he
          rw [← he]; exact qE_i rfl rfl
        · have md := m_doIt (G := kG K) (w := kw K) (gl := kl K) (I := rM (ups I 317 R.1.2.2) F B) (n := n) (c := c) (t := t) (j := j) hm (by rw [rM_313]; exact hB) htt (by omega) (by rw [e17]; exact rows j (by omega)) (by rw [rM_313, e17]; exact b2_n0.mp d)
          rw [rM_313, e17, rM_3] at md
          rw [e6]; exact md
        · rw [if_pos (b2_n0.mp d)] at he
          obtain ⟨n', t', w1, w2⟩ := wf_doit hB htt (rows j (by omega)) (b2_n0.mp d)
          rw [nI_1]
          exact ih (j + 1) _ n' t' (by omega) w1 w2 he
    have mf := m_f0 (G := kG K) (w := kw K) (gl := kl K) (I := rM (ups I 317 R.1.2.2) (upd (rF (bF (I 312)) R.1.1 R.1.2.1) 4 0) (I 313)) hm
    rw [rM_T] at mf
    have mr := m_remember (G := kG K) (w := kw K) (gl := kl K) (I := ups I 317 R.1.2.2) (F := upd (upd (rF (bF (I 312)) R.1.1 R.1.2.1) 4 0) 9 0) (B := I 313) (m := m) hm (by rw [upd_ne _ _ (by decide)]; exact hmr) hm6
    rw [hF] at mr
    refine bX11_runScript_0 (u := (0, 0)) (mc := (0, 0)) (mc2 := (0, 0)) (x2 := nX) hK hwo hm z0 mb z0 (fun _ _ h => h) ms (fun _ => ?_) (fun q => absurd q nm1)
    rw [eM]
    exact bX11_runScript_25 (u := (0, 0)) (mc := (0, 0)) hK hwo hm hm z0 mf z0 (fun _ => mr) (fun _ => key R.2 0 _ n t (by omega) hf2 ht hRun) z0 (fun q => absurd rfl q)
  · rw [if_neg hc0] at ms
    rw [if_neg hc0, if_neg hc0] at hK
    have mf := m_f1 (G := kG K) (w := kw K) (gl := kl K) (I := rM (ups I 317 R.1.2.2) (upd (rF (bF (I 312)) R.1.1 R.1.2.1) 4 0) (I 313)) hm
    rw [rM_T] at mf
    refine bX11_runScript_0 (u := (0, 0)) (mc := (0, 0)) (mc2 := (0, 0)) (x2 := nX) hK hwo hm z0 mb z0 (fun _ _ h => h) ms (fun q => absurd rfl q) (fun _ => ?_)
    rw [eM]
    exact bX11_runScript_25 (u := (0, 0)) (mc := (0, 0)) (g3 := I) hK hwo hm hm z0 mf z0 (fun q => absurd q (by decide)) (fun q => absurd q (by decide)) z0 (fun _ => qE_i rfl rfl)
end RRS
