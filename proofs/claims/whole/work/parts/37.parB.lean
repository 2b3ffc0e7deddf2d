/-! THE REFERENCE'S PARSER: clerks, letters, the setup -/
section RPB
variable {G : zG} {w : Nat × Nat} {gl : Launch} {I : zM} {N : Nat}
theorem m_named (hm : isT w 11 312) {fr m c : Nat} (h7 : I 313 7 = nI c) (hL : nmL (I 313) c) (hfr : fr + m ≤ 600) : CT G w gl (yX11_clerkNamed, cX11_clerkNamed, 7, some .int) 0 (0, 0) [.ref 312, .int (nI fr), .int (nI m)] I (qE (tq_find (I 313) (I 315) fr m 0 c) I) nX := by
  refine ct_of (by decide) [(0, .ref 312), (1, .int (nI fr)), (2, .int (nI m))] rfl rfl (fun K hG hw hgl hwo hK => ?_)
  subst hG; subst hw; subst hgl
  obtain ⟨hc6, hL⟩ := hL
  have key : ∀ k a, a + k = c → tq_find (I 313) (I 315) fr m a k = tq_find (I 313) (I 315) fr m 0 c → ZZ K (0, 0) 2 [(0, .ref 312), (1, .int (nI fr)), (2, .int (nI m)), (3, .int (nI a))] [] I := by
    intro k
    induction k with
    | zero =>
      intro a ha he
      have le : I 313 7 ≤ nI a := by rw [h7, show a = c by omega]; exact Int32.le_refl _
      exact bX11_clerkNamed_2 hK hwo hm (fun _ => qE_i (by rw [← he]; rfl) rfl) (fun q => absurd le q) (fun q => absurd le q) (fun q => absurd le q)
    | succ k ih =>
      intro a ha he
      have nle : ¬ I 313 7 ≤ nI a := by rw [h7]; exact nI_ge (by omega) (by omega)
      obtain ⟨L, hL6, hv⟩ := hL a (by omega)
      have eat : (22 : Int32) + nI a * 7 = nI (22 + a * 7) := by
        rw [show (7 : Int32) = nI 7 from rfl, show (22 : Int32) = nI 22 from rfl, pk_mul, nI_add]
      have e91 : ∀ (x : Bool) (v6 : Int32), x = tq_same (I 313) (I 315) fr m a → ZZ K (0, 0) 91 [(0, .ref 312), (1, .int (nI fr)), (2, .int (nI m)), (3, .int (nI a)), (4, .int (nI (22 + a * 7))), (5, .int (b2 x)), (6, .int v6)] [] I := fun x v6 hx => by
        refine bX11_clerkNamed_91 hK hwo hm (fun d => ?_) (fun d => ?_)
        · rw [nI_1]
          exact ih (a + 1) (by omega) (by rw [← he]; conv => rhs; unfold tq_find; rw [if_neg (by rw [← hx, b2_0.mp d]; decide)])
        · exact qE_i (by rw [← he]; unfold tq_find; rw [if_pos (by rw [← hx]; exact b2_n0.mp d)]) rfl
      have z43 : ∀ v6, tq_same (I 313) (I 315) fr m a = false → ZZ K (0, 0) 43 [(0, .ref 312), (1, .int (nI fr)), (2, .int (nI m)), (3, .int (nI a)), (4, .int (nI (22 + a * 7))), (5, .int 0), (6, .int v6)] [] I := fun v6 h =>
        bX11_clerkNamed_43 hK hwo hm (fun _ => e91 false v6 h.symm) (fun d => absurd rfl d) (fun d => absurd rfl d) (fun d => absurd rfl d) (fun d => absurd rfl d) (fun d => absurd rfl d)
      have e43 : I 313 (22 + a * 7) = nI m → m ≤ 6 → ∀ j i, i + j = m → tq_cm (fun k => I 313 (22 + a * 7 + 1 + k)) (fun k => I 315 (fr + k)) i = true → ZZ K (0, 0) 43 [(0, .ref 312), (1, .int (nI fr)), (2, .int (nI m)), (3, .int (nI a)), (4, .int (nI (22 + a * 7))), (5, .int 1), (6, .int (nI i))] [] I := by
        intro hm1 hm6 j
        induction j with
        | zero =>
          intro i hi hc
          have le : nI m ≤ nI i := by rw [show i = m by omega]; exact Int32.le_refl _
          refine bX11_clerkNamed_43 hK hwo hm (fun d => absurd d (by decide)) (fun _ _ => e91 true _ ?_) (fun _ d => absurd le d) (fun _ d => absurd le d) (fun _ d => absurd le d) (fun _ d => absurd le d)
          unfold tq_same
          rw [decide_eq_true hm1, show m = i by omega, hc]; rfl
        | succ j ihj =>
          intro i hi hc
          have nle2 : ¬ nI m ≤ nI i := nI_ge (by omega) (by omega)
          have ex : nI (22 + a * 7) + 1 + nI i = nI (22 + a * 7 + 1 + i) := by rw [nI_1, nI_add]
          refine bX11_clerkNamed_43 hK hwo hm (fun d => absurd d (by decide)) (fun _ d => absurd d nle2) (fun _ _ => by rw [ex]; exact vp_in_nI (by omega) (by omega)) (fun _ _ => by rw [nI_add]; exact vp_in_nI (by omega) (by omega)) ?_ ?_ <;> rw [ex, nI_add, nI_clamp (by omega), nI_clamp (by omega)]
          · intro _ _ d
            refine z43 _ ?_
            unfold tq_same
            rw [cm_ff (k := i) d _ (by omega), Bool.and_false]
          · intro _ _ d
            rw [nI_1]
            refine ihj (i + 1) (by omega) ?_
            unfold tq_cm
            rw [hc, decide_eq_true d]; rfl
      refine bX11_clerkNamed_2 hK hwo hm (fun q => absurd q nle) (fun _ => by rw [eat]; exact vp_in_nI (by omega) (by omega)) ?_ ?_ <;> rw [eat, nI_clamp (by omega)] <;> intro _ d
      · refine z43 _ ?_
        unfold tq_same
        rw [decide_eq_false d, Bool.false_and]
      · have hm6 : m ≤ 6 := by
          rw [hv] at d
          have := (nI_eq (by omega) (by omega)).mp d
          omega
        exact e43 d hm6 m 0 (by omega) rfl
  exact bX11_clerkNamed_0 hK hwo hm (key c 0 (by omega) rfl)
theorem m_add (hm : isT w 11 312) {n : Nat} {x1 x2 x3 x4 x5 : Int32} (h8 : I 313 8 = nI n) (hn : n < 12) : CT G w gl (yX11_add, cX11_add, 7, some .int) 1 (0, 0) [.ref 312, .int x1, .int x2, .int x3, .int x4, .int x5] I (qE (nI n) (ups I 313 (s_add (I 313) n x1 x2 x3 x4 x5))) nX := by
  refine ct_of (by decide) [(0, .ref 312), (1, .int x1), (2, .int x2), (3, .int x3), (4, .int x4), (5, .int x5)] rfl rfl (fun K hG hw hgl hwo hK => ?_)
  subst hG; subst hw; subst hgl
  have st : ∀ (B : zBk) (f : Nat) (x : Int32), f < 8 → CT (kG K) (kw K) (kl K) (yX11_set, cX11_set, 4, none) 0 (0, 0) [.ref 312, .int (I 313 8), .int (nI f), .int x] (ups I 313 B) (qV (fun J => J = ups I 313 (s_set B n f x))) nX := fun B f x hf => by
    have h := m_set (G := kG K) (w := kw K) (gl := kl K) (I := ups I 313 B) (l := n) (f := f) (x := x) hm (by omega) hf
    rw [ups_same, ups_ups] at h
    rw [h8]; exact h
  have s0 := st (I 313) 0 x1 (by omega)
  rw [ups_id] at s0
  refine bX11_add_0 hK hwo hm s0 (st _ 1 _ (by omega)) (st _ 2 _ (by omega)) (st _ 3 _ (by omega)) (st _ 4 _ (by omega)) (st _ 5 _ (by omega)) (st _ 6 _ (by omega)) (st _ 7 _ (by omega)) (qE_i h8 ?_)
  simp only [up_def, ups_same, ups_ups]
  unfold s_add
  have e8 : ∀ (C : zBk) (f : Nat) (x : Int32), s_set C n f x 8 = C 8 := fun C f x => set_lo (by omega)
  simp only [e8]
theorem nm_far {B b : zBk} {c fr j : Nat} : ∀ k, (j < 22 + c * 7 + 1 ∨ 22 + c * 7 + 1 + k ≤ j) → s_nm B b c fr k j = B j
  | 0, _ => rfl
  | k + 1, h => by
    unfold s_nm
    rw [upd_ne _ _ (by omega), nm_far k (by omega)]
theorem nm_at {B b : zBk} {c fr i : Nat} : ∀ k, i < k → s_nm B b c fr k (22 + c * 7 + 1 + i) = b (fr + i)
  | 0, h => absurd h (Nat.not_lt_zero i)
  | k + 1, h => by
    unfold s_nm
    by_cases e : i = k
    · rw [e, upd_same]
    · rw [upd_ne _ _ (by omega), nm_at k (by omega)]
theorem short0 {t : zTk} (h : tq_short t = 0) : t.1 = 1 ∧ tq_ln t ≤ 6 := by
  unfold tq_short at h
  by_cases c : t.1 = 1
  · rw [if_pos c] at h
    by_cases d : t.2.2.1 - t.2.1 ≤ 6
    · exact ⟨c, d⟩
    · rw [if_neg d] at h; exact absurd h (by decide)
  · rw [if_neg c] at h; exact absurd h (by decide)
/-- the clerks of a block that is being read -/
def clOK (B : zBk) (c : Nat) : Prop := B 7 = nI c ∧ nmL B c
theorem semi0 {b : zBk} {t : zTk} {B : zBk} (h : (rp_semi b N t B).1 = 0) : rp_semi b N t B = (0, tq_nx b N t, B) := by
  unfold rp_semi at h ⊢
  by_cases c : t.1 = 3
  · rw [if_pos c]
  · rw [if_neg c] at h; exact absurd (show (1 : Nat) = 0 from h) (by decide)
theorem semi1 {b : zBk} {t : zTk} {B : zBk} (h : (rp_semi b N t B).1 ≠ 0) : rp_semi b N t B = (1, t, B) := by
  unfold rp_semi at h ⊢
  by_cases c : t.1 = 3
  · rw [if_pos c] at h; exact absurd rfl h
  · rw [if_neg c]
theorem clerk_ok {b : zBk} {t : zTk} {B : zBk} {c : Nat} (hok : tOK b N t) (hc : clOK B c) (h0 : (rp_clerk b N t B c).1 = 0) : c < 6 ∧ tOK b N (rp_clerk b N t B c).2.1 ∧ clOK (rp_clerk b N t B c).2.2 (c + 1) ∧ (∀ j, j < 22 → j ≠ 7 → (rp_clerk b N t B c).2.2 j = B j) ∧ (∀ j, 64 ≤ j → (rp_clerk b N t B c).2.2 j = B j) := by
  unfold rp_clerk at h0 ⊢
  by_cases c6 : c = 6
  · rw [if_pos c6] at h0; exact absurd (show (4 : Nat) = 0 from h0) (by decide)
  rw [if_neg c6] at h0 ⊢
  by_cases hs : tq_short (tq_nx b N t) = 0
  · rw [if_pos hs] at h0 ⊢
    by_cases hf : tq_find B b (tq_nx b N t).2.1 (tq_ln (tq_nx b N t)) 0 c = -1
    · rw [if_pos hf] at h0 ⊢
      have hl := (short0 hs).2
      have hlt : c < 6 := by have := hc.2.1; omega
      by_cases hm : (rp_semi b N (tq_nx b N (tq_nx b N t)) (s_nm (upd B (22 + c * 7) (nI (tq_ln (tq_nx b N t)))) b c (tq_nx b N t).2.1 (tq_ln (tq_nx b N t)))).1 = 0
      · rw [rb0 hm, semi0 hm]
        dsimp only
        have far : ∀ j, (j < 22 + c * 7 ∨ 22 + c * 7 + 7 ≤ j) → s_nm (upd B (22 + c * 7) (nI (tq_ln (tq_nx b N t)))) b c (tq_nx b N t).2.1 (tq_ln (tq_nx b N t)) j = B j := fun j hj => by
          rw [nm_far _ (by omega), upd_ne _ _ (by omega)]
        refine ⟨hlt, kT_nx (kT_nx (kT_nx hok)), ⟨?_, by omega, fun a ha => ?_⟩, fun j h1 h2 => ?_, fun j h1 => ?_⟩
        · show upd _ 7 _ 7 = _
          rw [upd_same, far 7 (by omega), hc.1, nI_1]
        · show ∃ L, L ≤ 6 ∧ upd _ 7 _ (22 + a * 7) = nI L
          rw [upd_ne _ _ (by omega)]
          by_cases e : a = c
          · subst e
            exact ⟨tq_ln (tq_nx b N t), hl, by rw [nm_far _ (by omega), upd_same]⟩
          · obtain ⟨L, h1, h2⟩ := hc.2.2 a (by omega)
            exact ⟨L, h1, by rw [far _ (by omega), h2]⟩
        · show upd _ 7 _ j = _
          rw [upd_ne _ _ h2, far j (by omega)]
        · show upd _ 7 _ j = _
          rw [upd_ne _ _ (by omega), far j (by omega)]
      · rw [rb1 hm] at h0; exact absurd h0 hm
    · rw [if_neg hf] at h0; exact absurd (show (3 : Nat) = 0 from h0) (by decide)
  · rw [if_neg hs] at h0; exact absurd h0 hs
theorem m_clerk (hm : isT w 11 312) (hB : rB I N) {r : zRs} (h0 : r.1 = 0) (hok : tOK (I 315) N r.2.1) {c : Nat} (hc : clOK r.2.2 c) : CT G w gl (yX11_parseClerk, cX11_parseClerk, 3, some .boolean) 3 (0, 0) [.ref 312] (mR I r) (qE (b2 (decide ((rp_clerk (I 315) N r.2.1 r.2.2 c).1 = 0))) (mR I (rp_clerk (I 315) N r.2.1 r.2.2 c))) nX := by
  refine ct_of (by decide) [(0, .ref 312)] rfl rfl (fun K hG hw hgl hwo hK => ?_)
  subst hG; subst hw; subst hgl
  obtain ⟨h7, hL⟩ := hc
  have hN := hB.2
  have e6 : mR I r 313 7 = 6 ↔ c = 6 := by rw [mR_313, h7]; exact nI_eq (a := c) (b := 6) (by have := hL.1; omega) (by omega)
  generalize ht1 : tq_nx (I 315) N r.2.1 = t1
  have k1 : tOK (I 315) N t1 := by rw [← ht1]; exact kT_nx hok
  have fin : ∀ s : zRs, s.1 ≠ 0 → rp_clerk (I 315) N r.2.1 r.2.2 c = s → qE (b2 (decide ((rp_clerk (I 315) N r.2.1 r.2.2 c).1 = 0))) (mR I (rp_clerk (I 315) N r.2.1 r.2.2 c)) (some (.int 0)) (mR I s) := fun s h e => by
    rw [e]; exact qE_i (b2d h).symm rfl
  have e41 : mR I (tq_short t1, t1, r.2.2) 313 = r.2.2 := mR_313
  have sub1 : tq_short t1 = 0 → mR I (tq_short t1, t1, r.2.2) 312 10 - mR I (tq_short t1, t1, r.2.2) 312 12 = nI (tq_ln t1) := fun h => by
    obtain ⟨-, -, a, b, -⟩ := mR_tok (r := (tq_short t1, t1, r.2.2)) hB h
    rw [a, b]; exact nI_sub k1.2.1
  have fr1 : tq_short t1 = 0 → mR I (tq_short t1, t1, r.2.2) 312 12 = nI t1.2.1 := fun h => (mR_tok (r := (tq_short t1, t1, r.2.2)) hB h).2.2.1
  have eat : (22 : Int32) + mR I (tq_short t1, t1, r.2.2) 313 7 * 7 = nI (22 + c * 7) := by
    rw [e41, h7, show (7 : Int32) = nI 7 from rfl, show (22 : Int32) = nI 22 from rfl, pk_mul, nI_add]
  refine bX11_parseClerk_0 (g2 := mR I (0, t1, r.2.2)) (f3 := b2 (decide (tq_short t1 = 0))) (g3 := mR I (tq_short t1, t1, r.2.2)) (f5 := tq_find r.2.2 (I 315) t1.2.1 (tq_ln t1) 0 c) (g5 := mR I (tq_short t1, t1, r.2.2)) (f9 := 0) (g9 := mR I (3, t1, r.2.2)) (f13 := 0) (g13 := mR I (4, r.2.1, r.2.2)) hK hwo hm (fun _ => by rw [← ht1]; exact m_tok hm hB h0 hok) (fun _ => m_short (r := (0, t1, r.2.2)) hm hB rfl k1) ?_ ?_ ?_ ?_ ?_ (fun _ _ _ => Or.inl rfl) ?_ ?_ ?_ (fun _ => Or.inl rfl)
  · intro d f
    have hs := d01 f
    rw [sub1 hs, fr1 hs]
    have h := m_named (G := kG K) (w := kw K) (gl := kl K) (I := mR I (tq_short t1, t1, r.2.2)) (fr := t1.2.1) (m := tq_ln t1) (c := c) hm (by rw [e41]; exact h7) (by rw [e41]; exact hL) (by have := k1.2.1; have := k1.2.2.1; unfold tq_ln; omega)
    rw [e41, mR_315] at h
    exact h
  · intro d f g
    rw [eat]; exact vp_in_nI (by have := hL.1; omega) (by omega)
  · intro d f g
    have hs := d01 f
    have hc6 : ¬ c = 6 := fun z => d (e6.mpr z)
    have hl := (short0 hs).2
    have hlt : c < 6 := by have := hL.1; omega
    rw [eat, nI_clamp (by omega), sub1 hs, mR_up]
    rw [show mR I ((tq_short t1, t1, r.2.2).1, (tq_short t1, t1, r.2.2).2.1, upd (tq_short t1, t1, r.2.2).2.2 (22 + c * 7) (nI (tq_ln t1))) 312 12 = nI t1.2.1 from (mR_tok (r := (tq_short t1, t1, upd r.2.2 (22 + c * 7) (nI (tq_ln t1)))) hB hs).2.2.1]
    have es : rp_clerk (I 315) N r.2.1 r.2.2 c = rbind (rp_semi (I 315) N (tq_nx (I 315) N t1) (s_nm (upd r.2.2 (22 + c * 7) (nI (tq_ln t1))) (I 315) c t1.2.1 (tq_ln t1))) fun t B => (0, t, upd B 7 (B 7 + 1)) := by
      unfold rp_clerk
      rw [if_neg hc6, ht1, if_pos hs, if_pos g]
    have key : ∀ k i, i + k = tq_ln t1 → ZZ K (0, 0) 92 [(0, .ref 312), (1, .int (nI (22 + c * 7))), (2, .int (nI (t1.2.1 + i)))] [] (mR I (0, t1, s_nm (upd r.2.2 (22 + c * 7) (nI (tq_ln t1))) (I 315) c t1.2.1 i)) := by
      intro k
      have hah : t1.2.2.1 = t1.2.1 + tq_ln t1 := by have := k1.2.1; unfold tq_ln; omega
      induction k with
      | zero =>
        intro i hi
        have ei : i = tq_ln t1 := by omega
        subst ei
        have tk := mR_tok (r := (0, t1, s_nm (upd r.2.2 (22 + c * 7) (nI (tq_ln t1))) (I 315) c t1.2.1 (tq_ln t1))) hB rfl
        have le : mR I (0, t1, s_nm (upd r.2.2 (22 + c * 7) (nI (tq_ln t1))) (I 315) c t1.2.1 (tq_ln t1)) 312 10 ≤ nI (t1.2.1 + tq_ln t1) := by rw [tk.2.2.2.1, ← hah]; exact Int32.le_refl _
        refine bX11_parseClerk_92 (g2 := mR I (0, tq_nx (I 315) N t1, s_nm (upd r.2.2 (22 + c * 7) (nI (tq_ln t1))) (I 315) c t1.2.1 (tq_ln t1))) hK hwo hm (fun _ => m_tok hm hB rfl k1) (fun _ => m_semi (r := (0, tq_nx (I 315) N t1, s_nm (upd r.2.2 (22 + c * 7) (nI (tq_ln t1))) (I 315) c t1.2.1 (tq_ln t1))) hm hB rfl (kT_nx k1)) (fun _ q => ?_) (fun _ q => ?_) (fun q => absurd le q) (fun q => absurd le q) (fun q => absurd le q)
        · have q1 := d01 q
          rw [mR_up, mR_313]
          have e9 : rp_clerk (I 315) N r.2.1 r.2.2 c = (0, tq_nx (I 315) N (tq_nx (I 315) N t1), upd (s_nm (upd r.2.2 (22 + c * 7) (nI (tq_ln t1))) (I 315) c t1.2.1 (tq_ln t1)) 7 (s_nm (upd r.2.2 (22 + c * 7) (nI (tq_ln t1))) (I 315) c t1.2.1 (tq_ln t1) 7 + 1)) := by rw [es, rb0 q1, semi0 q1]
          have e10 := semi0 q1
          rw [e9, e10]
          exact qE_i rfl rfl
        · have q1 := d10 q
          exact fin _ q1 (by rw [es, rb1 q1])
      | succ k ih =>
        intro i hi
        have tk := mR_tok (r := (0, t1, s_nm (upd r.2.2 (22 + c * 7) (nI (tq_ln t1))) (I 315) c t1.2.1 i)) hB rfl
        have hah2 := k1.2.2.1
        have nle : ¬ mR I (0, t1, s_nm (upd r.2.2 (22 + c * 7) (nI (tq_ln t1))) (I 315) c t1.2.1 i) 312 10 ≤ nI (t1.2.1 + i) := by rw [tk.2.2.2.1, hah]; exact nI_ge (by omega) (by omega)
        have ex : nI (22 + c * 7) + 1 + nI (t1.2.1 + i) - mR I (0, t1, s_nm (upd r.2.2 (22 + c * 7) (nI (tq_ln t1))) (I 315) c t1.2.1 i) 312 12 = nI (22 + c * 7 + 1 + i) := by
          rw [tk.2.2.1, nI_1, nI_add, nI_sub (by show t1.2.1 ≤ _; omega)]
          congr 1; show 22 + c * 7 + 1 + (t1.2.1 + i) - t1.2.1 = _; omega
        refine bX11_parseClerk_92 (g2 := I) (f3 := 0) (g3 := I) hK hwo hm (fun q => absurd q nle) (fun q => absurd q nle) (fun q => absurd q nle) (fun q => absurd q nle) (fun _ => vp_in_nI (by omega) (by omega)) (fun _ => by rw [ex]; exact vp_in_nI (by omega) (by omega)) (fun _ => ?_)
        rw [ex, nI_clamp (by omega), nI_clamp (by omega), mR_up, mR_315, nI_1]
        exact ih (i + 1) (by omega)
    have h9 := key (tq_ln t1) 0 (by omega)
    rw [show mR I ((tq_short t1, t1, r.2.2).1, (tq_short t1, t1, r.2.2).2.1, upd (tq_short t1, t1, r.2.2).2.2 (22 + c * 7) (nI (tq_ln t1))) = mR I (0, t1, upd r.2.2 (22 + c * 7) (nI (tq_ln t1))) by rw [show (tq_short t1, t1, r.2.2).1 = 0 from hs]]
    exact h9
  · intro d f g
    exact m_wrong (r := (tq_short t1, t1, r.2.2)) (c := 3) hm (d01 f) (by decide)
  · intro d f g
    refine fin (3, t1, r.2.2) (show (3 : Nat) ≠ 0 by decide) ?_
    unfold rp_clerk
    rw [if_neg (fun z => d (e6.mpr z)), ht1, if_pos (d01 f), if_neg g]
  · intro d f
    refine fin (tq_short t1, t1, r.2.2) (d10 f) ?_
    unfold rp_clerk
    rw [if_neg (fun z => d (e6.mpr z)), ht1, if_neg (d10 f)]
  · exact fun _ => m_wrong (r := r) (c := 4) hm h0 (by decide)
  · intro d
    refine fin (4, r.2.1, r.2.2) (show (4 : Nat) ≠ 0 by decide) ?_
    unfold rp_clerk
    rw [if_pos (e6.mp d)]
end RPB
