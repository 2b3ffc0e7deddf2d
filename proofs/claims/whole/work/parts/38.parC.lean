/-! THE REFERENCE'S PARSER: letters and the whole setup -/
section RPC
variable {G : zG} {w : Nat × Nat} {gl : Launch} {I : zM} {N : Nat}
theorem rng_ne {b : zBk} {t : zTk} {B : zBk} {to j : Nat} {lo hi : Int32} (h : j ≠ to) : (rp_rng b N t B to lo hi).2.2 j = B j := by
  unfold rp_rng
  split
  · split
    · exact upd_ne _ _ h
    · rfl
  · rfl
theorem semi_B {b : zBk} {t : zTk} {B : zBk} : (rp_semi b N t B).2.2 = B := by
  unfold rp_semi
  split <;> rfl
theorem add_8 {B : zBk} {n : Nat} {x1 x2 x3 x4 x5 : Int32} : s_add B n x1 x2 x3 x4 x5 8 = B 8 + 1 := upd_same _ _ _
theorem add_lo {B : zBk} {n j : Nat} {x1 x2 x3 x4 x5 : Int32} (h : j < 64) (h8 : j ≠ 8) : s_add B n x1 x2 x3 x4 x5 j = B j := by
  unfold s_add
  rw [upd_ne _ _ h8, set_lo h, set_lo h, set_lo h, set_lo h, set_lo h, set_lo h, set_lo h, set_lo h]
theorem m_letter (hm : isT w 11 312) (hB : rB I N) {r : zRs} (h0 : r.1 = 0) (hok : tOK (I 315) N r.2.1) {c n : Nat} (hc : clOK r.2.2 c) (h8 : r.2.2 8 = nI n) (hn : n ≤ 12) : CT G w gl (yX11_parseLetter, cX11_parseLetter, 3, some .boolean) 3 (0, 0) [.ref 312] (mR I r) (qE (b2 (decide ((rp_letter (I 315) N c r.2.1 r.2.2 n).1 = 0))) (mR I (rp_letter (I 315) N c r.2.1 r.2.2 n))) nX := by
  refine ct_of (by decide) [(0, .ref 312)] rfl rfl (fun K hG hw hgl hwo hK => ?_)
  subst hG; subst hw; subst hgl
  obtain ⟨h7, hL⟩ := hc
  have hN := hB.2
  have e12 : mR I r 313 8 = 12 ↔ n = 12 := by rw [mR_313, h8]; exact nI_eq (a := n) (b := 12) (by omega) (by omega)
  generalize ht1 : tq_nx (I 315) N r.2.1 = t1
  have k1 : tOK (I 315) N t1 := by rw [← ht1]; exact kT_nx hok
  have fin : ∀ s : zRs, s.1 ≠ 0 → rp_letter (I 315) N c r.2.1 r.2.2 n = s → qE (b2 (decide ((rp_letter (I 315) N c r.2.1 r.2.2 n).1 = 0))) (mR I (rp_letter (I 315) N c r.2.1 r.2.2 n)) (some (.int 0)) (mR I s) := fun s h e => by
    rw [e]; exact qE_i (b2d h).symm rfl
  have e41 : mR I (tq_short t1, t1, r.2.2) 313 = r.2.2 := mR_313
  have sub1 : tq_short t1 = 0 → mR I (tq_short t1, t1, r.2.2) 312 10 - mR I (tq_short t1, t1, r.2.2) 312 12 = nI (tq_ln t1) := fun h => by
    obtain ⟨-, -, a, b, -⟩ := mR_tok (r := (tq_short t1, t1, r.2.2)) hB h
    rw [a, b]; exact nI_sub k1.2.1
  have fr1 : tq_short t1 = 0 → mR I (tq_short t1, t1, r.2.2) 312 12 = nI t1.2.1 := fun h => (mR_tok (r := (tq_short t1, t1, r.2.2)) hB h).2.2.1
  have eat : ∀ k : Nat, (64 : Int32) + mR I (0, tq_nx (I 315) N t1, r.2.2) 313 8 * 8 + nI k = nI (64 + n * 8 + k) := fun k => by
    rw [mR_313, h8]; exact ix_of
  have eat1 := eat 1
  have eat2 := eat 2
  have eat3 := eat 3
  have eat4 := eat 4
  have R : ∀ (s : zRs) (to : Nat) (lo hi : Int32), s.1 = 0 → tOK (I 315) N s.2.1 → to < 160 → CT (kG K) (kw K) (kl K) (yX11_parseRanged, cX11_parseRanged, 4, some .boolean) 2 (0, 0) [.ref 312, .int (nI to), .int lo, .int hi] (mR I s) (qE (b2 (decide ((rp_rng (I 315) N s.2.1 s.2.2 to lo hi).1 = 0))) (mR I (rp_rng (I 315) N s.2.1 s.2.2 to lo hi))) nX := fun s to lo hi h h2 h3 => m_rng hm hB h h2 h3
  generalize h1 : rp_rng (I 315) N (tq_nx (I 315) N t1) r.2.2 (64 + n * 8 + 1) 1 30 = s1
  have k2 : tOK (I 315) N s1.2.1 := by rw [← h1]; exact rng_ok (kT_nx k1)
  have b1 : s1.2.2 8 = nI n := by rw [← h1, rng_ne (by omega)]; exact h8
  generalize h2 : rp_rng (I 315) N s1.2.1 s1.2.2 (64 + n * 8 + 2) 0 999 = s2
  have k3 : tOK (I 315) N s2.2.1 := by rw [← h2]; exact rng_ok k2
  have b2' : s2.2.2 8 = nI n := by rw [← h2, rng_ne (by omega)]; exact b1
  generalize h3 : rp_rng (I 315) N s2.2.1 s2.2.2 (64 + n * 8 + 3) 1 999 = s3
  have k4 : tOK (I 315) N s3.2.1 := by rw [← h3]; exact rng_ok k3
  have b3 : s3.2.2 8 = nI n := by rw [← h3, rng_ne (by omega)]; exact b2'
  generalize h4 : rp_rng (I 315) N s3.2.1 s3.2.2 (64 + n * 8 + 4) 0 9 = s4
  have k5 : tOK (I 315) N s4.2.1 := by rw [← h4]; exact rng_ok k4
  have b4 : s4.2.2 8 = nI n := by rw [← h4, rng_ne (by omega)]; exact b3
  generalize h5 : rp_semi (I 315) N s4.2.1 s4.2.2 = s5
  have b5 : s5.2.2 = s4.2.2 := by rw [← h5]; exact semi_B
  have es : n ≠ 12 → tq_short t1 = 0 → tq_find r.2.2 (I 315) t1.2.1 (tq_ln t1) 0 c ≠ -1 → rp_letter (I 315) N c r.2.1 r.2.2 n = rbind s1 fun t1' B1 => rbind (rp_rng (I 315) N t1' B1 (64 + n * 8 + 2) 0 999) fun t2 B2 => rbind (rp_rng (I 315) N t2 B2 (64 + n * 8 + 3) 1 999) fun t3 B3 => rbind (rp_rng (I 315) N t3 B3 (64 + n * 8 + 4) 0 9) fun t4 B4 => rbind (rp_semi (I 315) N t4 B4) fun t5 B5 => (0, t5, s_add B5 n (tq_find r.2.2 (I 315) t1.2.1 (tq_ln t1) 0 c) (B5 (64 + n * 8 + 1)) (B5 (64 + n * 8 + 2)) (B5 (64 + n * 8 + 3)) (B5 (64 + n * 8 + 4))) := fun a1 a2 a3 => by
    unfold rp_letter
    rw [if_neg a1, ht1, if_pos a2, if_neg a3, h1]
  have nn : ∀ d : ¬ mR I r 313 8 = 12, n ≠ 12 := fun d z => d (e12.mpr z)
  refine bX11_parseLetter_0 (g2 := mR I (0, t1, r.2.2)) (f3 := b2 (decide (tq_short t1 = 0))) (g3 := mR I (tq_short t1, t1, r.2.2)) (f5 := tq_find r.2.2 (I 315) t1.2.1 (tq_ln t1) 0 c) (g5 := mR I (tq_short t1, t1, r.2.2)) (g7 := mR I (0, tq_nx (I 315) N t1, r.2.2))
    (f8 := b2 (decide (s1.1 = 0))) (g8 := mR I s1) (f11 := b2 (decide (s2.1 = 0))) (g11 := mR I s2) (f14 := b2 (decide (s3.1 = 0))) (g14 := mR I s3) (f17 := b2 (decide (s4.1 = 0))) (g17 := mR I s4) (f20 := b2 (decide (s5.1 = 0))) (g20 := mR I s5) (f26 := nI n) (g26 := mR I (s5.1, s5.2.1, s_add s5.2.2 n (tq_find r.2.2 (I 315) t1.2.1 (tq_ln t1) 0 c) (s5.2.2 (64 + n * 8 + 1)) (s5.2.2 (64 + n * 8 + 2)) (s5.2.2 (64 + n * 8 + 3)) (s5.2.2 (64 + n * 8 + 4))))
    (f29 := 0) (g29 := mR I (3, t1, r.2.2)) (f33 := 0) (g33 := mR I (4, r.2.1, r.2.2)) hK hwo hm
    (fun _ => by rw [← ht1]; exact m_tok hm hB h0 hok) (fun _ => m_short (r := (0, t1, r.2.2)) hm hB rfl k1) ?_
    (fun d f g => m_tok (r := (tq_short t1, t1, r.2.2)) hm hB (d01 f) k1)
    (fun d f g => by rw [show ((64 : Int32) + mR I (0, tq_nx (I 315) N t1, r.2.2) 313 8 * 8 + 1) = nI (64 + n * 8 + 1) from eat1, ← h1]; exact R (0, tq_nx (I 315) N t1, r.2.2) _ 1 30 rfl (kT_nx k1) (by have := nn d; omega))
    (fun d f g p => fin s1 (d10 p) (by rw [es (nn d) (d01 f) g, rb1 (d10 p)]))
    (fun d f g p => by rw [show ((64 : Int32) + mR I (0, tq_nx (I 315) N t1, r.2.2) 313 8 * 8 + 2) = nI (64 + n * 8 + 2) from eat2, ← h2]; exact R s1 _ 0 999 (d01 p) k2 (by have := nn d; omega))
    (fun d f g p q => fin s2 (d10 q) (by rw [es (nn d) (d01 f) g, rb0 (d01 p), h2, rb1 (d10 q)]))
    (fun d f g p q => by rw [show ((64 : Int32) + mR I (0, tq_nx (I 315) N t1, r.2.2) 313 8 * 8 + 3) = nI (64 + n * 8 + 3) from eat3, ← h3]; exact R s2 _ 1 999 (d01 q) k3 (by have := nn d; omega))
    (fun d f g p q u => fin s3 (d10 u) (by rw [es (nn d) (d01 f) g, rb0 (d01 p), h2, rb0 (d01 q), h3, rb1 (d10 u)]))
    (fun d f g p q u => by rw [show ((64 : Int32) + mR I (0, tq_nx (I 315) N t1, r.2.2) 313 8 * 8 + 4) = nI (64 + n * 8 + 4) from eat4, ← h4]; exact R s3 _ 0 9 (d01 u) k4 (by have := nn d; omega))
    (fun d f g p q u v => fin s4 (d10 v) (by rw [es (nn d) (d01 f) g, rb0 (d01 p), h2, rb0 (d01 q), h3, rb0 (d01 u), h4, rb1 (d10 v)]))
    (fun d f g p q u v => by rw [← h5]; exact m_semi (r := s4) hm hB (d01 v) k5)
    (fun d f g p q u v x => by rw [show ((64 : Int32) + mR I (0, tq_nx (I 315) N t1, r.2.2) 313 8 * 8 + 1) = nI (64 + n * 8 + 1) from eat1]; exact vp_in_nI (by omega) (by omega))
    (fun d f g p q u v x => by rw [show ((64 : Int32) + mR I (0, tq_nx (I 315) N t1, r.2.2) 313 8 * 8 + 2) = nI (64 + n * 8 + 2) from eat2]; exact vp_in_nI (by omega) (by omega))
    (fun d f g p q u v x => by rw [show ((64 : Int32) + mR I (0, tq_nx (I 315) N t1, r.2.2) 313 8 * 8 + 3) = nI (64 + n * 8 + 3) from eat3]; exact vp_in_nI (by omega) (by omega))
    (fun d f g p q u v x => by rw [show ((64 : Int32) + mR I (0, tq_nx (I 315) N t1, r.2.2) 313 8 * 8 + 4) = nI (64 + n * 8 + 4) from eat4]; exact vp_in_nI (by omega) (by omega))
    ?_ ?_ ?_ ?_ ?_ (fun _ _ _ => Or.inl rfl) ?_ ?_ ?_ (fun _ => Or.inl rfl)
  · intro d f
    have hs := d01 f
    rw [sub1 hs, fr1 hs]
    have h := m_named (G := kG K) (w := kw K) (gl := kl K) (I := mR I (tq_short t1, t1, r.2.2)) (fr := t1.2.1) (m := tq_ln t1) (c := c) hm (by rw [e41]; exact h7) (by rw [e41]; exact hL) (by have := k1.2.1; have := k1.2.2.1; unfold tq_ln; omega)
    rw [e41, mR_315] at h
    exact h
  · intro d f g p q u v x
    have hlt : n < 12 := by have := nn d; omega
    have ha := m_add (G := kG K) (w := kw K) (gl := kl K) (I := mR I s5) (n := n) (x1 := tq_find r.2.2 (I 315) t1.2.1 (tq_ln t1) 0 c) (x2 := s5.2.2 (64 + n * 8 + 1)) (x3 := s5.2.2 (64 + n * 8 + 2)) (x4 := s5.2.2 (64 + n * 8 + 3)) (x5 := s5.2.2 (64 + n * 8 + 4)) hm (by rw [mR_313, b5]; exact b4) hlt
    rw [mR_B, mR_313] at ha
    rw [show ((64 : Int32) + mR I (0, tq_nx (I 315) N t1, r.2.2) 313 8 * 8 + 1) = nI (64 + n * 8 + 1) from eat1, show ((64 : Int32) + mR I (0, tq_nx (I 315) N t1, r.2.2) 313 8 * 8 + 2) = nI (64 + n * 8 + 2) from eat2, show ((64 : Int32) + mR I (0, tq_nx (I 315) N t1, r.2.2) 313 8 * 8 + 3) = nI (64 + n * 8 + 3) from eat3, show ((64 : Int32) + mR I (0, tq_nx (I 315) N t1, r.2.2) 313 8 * 8 + 4) = nI (64 + n * 8 + 4) from eat4, nI_clamp (by omega), nI_clamp (by omega), nI_clamp (by omega), nI_clamp (by omega), mR_313]
    exact ha
  · intro d f g p q u v x
    have e9 : rp_letter (I 315) N c r.2.1 r.2.2 n = (s5.1, s5.2.1, s_add s5.2.2 n (tq_find r.2.2 (I 315) t1.2.1 (tq_ln t1) 0 c) (s5.2.2 (64 + n * 8 + 1)) (s5.2.2 (64 + n * 8 + 2)) (s5.2.2 (64 + n * 8 + 3)) (s5.2.2 (64 + n * 8 + 4))) := by
      rw [es (nn d) (d01 f) g, rb0 (d01 p), h2, rb0 (d01 q), h3, rb0 (d01 u), h4, rb0 (d01 v), h5, rb0 (d01 x), d01 x]
    rw [e9]; exact qE_i (b2e (d01 x)).symm rfl
  · intro d f g p q u v x
    exact fin s5 (d10 x) (by rw [es (nn d) (d01 f) g, rb0 (d01 p), h2, rb0 (d01 q), h3, rb0 (d01 u), h4, rb0 (d01 v), h5, rb1 (d10 x)])
  · intro d f g
    exact m_wrong (r := (tq_short t1, t1, r.2.2)) (c := 3) hm (d01 f) (by decide)
  · intro d f g
    refine fin (3, t1, r.2.2) (show (3 : Nat) ≠ 0 by decide) ?_
    unfold rp_letter
    rw [if_neg (nn d), ht1, if_pos (d01 f), if_pos g]
  · intro d f
    refine fin (tq_short t1, t1, r.2.2) (d10 f) ?_
    unfold rp_letter
    rw [if_neg (nn d), ht1, if_neg (d10 f)]
  · exact fun _ => m_wrong (r := r) (c := 4) hm h0 (by decide)
  · intro d
    refine fin (4, r.2.1, r.2.2) (show (4 : Nat) ≠ 0 by decide) ?_
    unfold rp_letter
    rw [if_pos (e12.mp d)]
theorem rng0 {b : zBk} {t : zTk} {B : zBk} {to : Nat} {lo hi : Int32} (h : (rp_rng b N t B to lo hi).1 = 0) : t.1 = 2 ∧ s_in t.2.2.2 lo hi = true ∧ rp_rng b N t B to lo hi = (0, tq_nx b N t, upd B to t.2.2.2) := by
  unfold rp_rng at h ⊢
  by_cases c : t.1 = 2
  · rw [if_pos c] at h ⊢
    by_cases d : s_in t.2.2.2 lo hi = true
    · rw [if_pos d] at h ⊢; exact ⟨c, d, rfl⟩
    · rw [if_neg d] at h; exact absurd (show (2 : Nat) = 0 from h) (by decide)
  · rw [if_neg c] at h; exact absurd (show (1 : Nat) = 0 from h) (by decide)
theorem rb_inv {r : zRs} {f : zTk → zBk → zRs} (h : (rbind r f).1 = 0) : r.1 = 0 ∧ rbind r f = f r.2.1 r.2.2 := by
  by_cases c : r.1 = 0
  · exact ⟨c, rb0 c⟩
  · rw [rb1 c] at h; exact absurd h c
/-- what a letter that was read is -/
theorem letter_ok {b : zBk} {c n : Nat} {t : zTk} {B : zBk} (hok : tOK b N t) (h0 : (rp_letter b N c t B n).1 = 0) : n ≠ 12 ∧ tq_short (tq_nx b N t) = 0 ∧ (∃ a, a < c ∧ tq_find B b (tq_nx b N t).2.1 (tq_ln (tq_nx b N t)) 0 c = nI a) ∧ tOK b N (rp_letter b N c t B n).2.1 ∧ ∃ x1 x2 x3 x4 : Int32, s_in x1 1 30 = true ∧ s_in x2 0 999 = true ∧ s_in x3 1 999 = true ∧ s_in x4 0 9 = true ∧ ∃ C : zBk, (rp_letter b N c t B n).2.2 = s_add C n (tq_find B b (tq_nx b N t).2.1 (tq_ln (tq_nx b N t)) 0 c) x1 x2 x3 x4 ∧ ∀ j, (j < 64 + n * 8 ∨ 64 + n * 8 + 8 ≤ j) → C j = B j := by
  unfold rp_letter at h0 ⊢
  by_cases c6 : n = 12
  · rw [if_pos c6] at h0; exact absurd (show (4 : Nat) = 0 from h0) (by decide)
  rw [if_neg c6] at h0 ⊢
  by_cases hs : tq_short (tq_nx b N t) = 0
  · rw [if_pos hs] at h0 ⊢
    by_cases hf : tq_find B b (tq_nx b N t).2.1 (tq_ln (tq_nx b N t)) 0 c = -1
    · rw [if_pos hf] at h0; exact absurd (show (3 : Nat) = 0 from h0) (by decide)
    · rw [if_neg hf] at h0 ⊢
      obtain ⟨g1, e1⟩ := rb_inv h0
      rw [e1] at h0 ⊢
      obtain ⟨-, v1, r1⟩ := rng0 g1
      obtain ⟨g2, e2⟩ := rb_inv h0
      rw [e2] at h0 ⊢
      obtain ⟨-, v2, r2⟩ := rng0 g2
      obtain ⟨g3, e3⟩ := rb_inv h0
      rw [e3] at h0 ⊢
      obtain ⟨-, v3, r3⟩ := rng0 g3
      obtain ⟨g4, e4⟩ := rb_inv h0
      rw [e4] at h0 ⊢
      obtain ⟨-, v4, r4⟩ := rng0 g4
      obtain ⟨g5, e5⟩ := rb_inv h0
      rw [e5]
      have r5 := semi0 g5
      refine ⟨c6, hs, ?_, ?_, _, _, _, _, ?_, ?_, ?_, ?_, _, rfl, fun j hj => ?_⟩
      · rcases find_in B b (tq_nx b N t).2.1 (tq_ln (tq_nx b N t)) c 0 with q | ⟨a, -, h2, h3⟩
        · exact absurd q hf
        · exact ⟨a, by omega, h3⟩
      · dsimp only
        rw [r5]
        exact kT_nx (rng_ok (rng_ok (rng_ok (rng_ok (kT_nx (kT_nx hok))))))
      · rw [semi_B, rng_ne (by omega), rng_ne (by omega), rng_ne (by omega), r1]
        dsimp only; rw [upd_same]; exact v1
      · rw [semi_B, rng_ne (by omega), rng_ne (by omega), r2]
        dsimp only; rw [upd_same]; exact v2
      · rw [semi_B, rng_ne (by omega), r3]
        dsimp only; rw [upd_same]; exact v3
      · rw [semi_B, r4]
        dsimp only; rw [upd_same]; exact v4
      · rw [semi_B, rng_ne (by omega), rng_ne (by omega), rng_ne (by omega), rng_ne (by omega)]
  · rw [if_neg hs] at h0; exact absurd h0 hs
theorem m_lets (hm : isT w 11 312) (hB : rB I N) {K : zK} {P : Option Value → zM → Prop} (hK : zIs K RX11 cX11_parseSetup 2 (some .boolean) 5 (0, 0) P nX) (hwo : wOK (kw K)) (e1 : G = kG K) (e2 : w = kw K) (e3 : gl = kl K) {c : Nat} {v1 : Int32} (hc6 : c ≤ 6) : ∀ k n (t : zTk) (B : zBk), n + k = 13 → n ≤ 12 → tOK (I 315) N t → clOK B c → B 8 = nI n → (P (some (.int (b2 (decide ((rp_letters (I 315) N c k n t B).1 = 0))))) (mR I (rp_letters (I 315) N c k n t B))) → ZZ K (0, 0) 123 [(0, .ref 312), (1, .int v1)] [] (mR I (0, t, B)) := by
  subst e1; subst e2; subst e3
  have z0 : (0, 0).1 ≤ ((0, 0) : Nat × Nat).1 ∧ (0, 0).2 ≤ ((0, 0) : Nat × Nat).2 := ⟨Nat.le_refl _, Nat.le_refl _⟩
  intro k
  induction k with
  | zero => intro n t B h1 h2; omega
  | succ k ih =>
    intro n t B h1 h2 hok hc h8 hP
    unfold rp_letters at hP
    by_cases hw : tq_isw (I 315) t 2 = true
    · rw [if_pos hw] at hP
      have mw := m_isWord (G := kG K) (w := kw K) (gl := kl K) (r := (0, t, B)) (j := 2) hm hB rfl hok (by omega)
      rw [show (0, t, B).2.1 = t from rfl, hw] at mw
      have ml := m_letter (G := kG K) (w := kw K) (gl := kl K) (r := (0, t, B)) hm hB rfl hok hc h8 h2
      refine bX11_parseSetup_123 (u := (0, 0)) (mc := (0, 0)) (mc1 := (0, 0)) (x1 := nX) (f6 := 0) (g6 := I) hK hwo hm z0 (fun _ _ h => h) mw z0 (fun q => absurd q (by decide)) z0 (fun q => absurd q (by decide)) z0 (fun q => absurd q (by decide)) z0 (fun q => absurd q (by decide)) z0 (fun _ => ml) (fun _ q => ?_) z0 (fun _ q => ?_)
      · have q1 := d01 q
        rw [rb0 q1] at hP
        obtain ⟨g1, g2, g3, g4, x1, x2, x3, x4, -, -, -, -, C, g5, g6⟩ := letter_ok hok q1
        have e9 : mR I (rp_letter (I 315) N c t B n) = mR I (0, (rp_letter (I 315) N c t B n).2.1, (rp_letter (I 315) N c t B n).2.2) := by
          rw [show (0 : Nat) = (rp_letter (I 315) N c t B n).1 from q1.symm]
        show ZZ K (0, 0) 123 [(0, .ref 312), (1, .int v1)] [] (mR I (rp_letter (I 315) N c t B n))
        rw [e9]
        refine ih (n + 1) _ _ (by omega) (by omega) g4 ⟨?_, hc.2.1, fun a ha => ?_⟩ ?_ hP
        · rw [g5, add_lo (by omega) (by omega), g6 _ (by omega)]; exact hc.1
        · obtain ⟨L, l1, l2⟩ := hc.2.2 a ha
          exact ⟨L, l1, by rw [g5, add_lo (by omega) (by omega), g6 _ (by omega)]; exact l2⟩
        · rw [g5, add_8, g6 _ (by omega)]; show B 8 + 1 = _; rw [h8, nI_1]
      · have q1 := d10 q
        rw [rb1 q1, b2d q1] at hP
        exact hP
    · rw [if_neg hw] at hP
      have mw := m_isWord (G := kG K) (w := kw K) (gl := kl K) (r := (0, t, B)) (j := 2) hm hB rfl hok (by omega)
      rw [show (0, t, B).2.1 = t from rfl, show tq_isw (I 315) t 2 = false by simpa using hw] at mw
      have e0 := mt (r := (0, t, B)) (a := 0) hB rfl hok (by omega)
      refine bX11_parseSetup_123 (u := (0, 0)) (mc := (0, 0)) (mc1 := (0, 0)) (x1 := nX) (f6 := 0) (g6 := mR I (1, t, B)) (f12 := 0) (g12 := I) hK hwo hm z0 (fun _ _ h => h) mw z0 (fun _ q => ?_) z0 (fun _ _ => m_wrong (r := (0, t, B)) (c := 1) hm rfl (by decide)) z0 (fun _ q _ => ?_) z0 (fun _ _ q => absurd rfl q) z0 (fun q => absurd rfl q) (fun q => absurd rfl q) z0 (fun q => absurd rfl q)
      · rw [if_pos (e0.mp q)] at hP; exact hP
      · rw [if_neg (fun z => q (e0.mpr z))] at hP; exact hP
theorem m_clks (hm : isT w 11 312) (hB : rB I N) {K : zK} {P : Option Value → zM → Prop} (hK : zIs K RX11 cX11_parseSetup 2 (some .boolean) 5 (0, 0) P nX) (hwo : wOK (kw K)) (e1 : G = kG K) (e2 : w = kw K) (e3 : gl = kl K) {v1 : Int32} : ∀ k c (t : zTk) (B : zBk), c + k = 7 → c ≤ 6 → tOK (I 315) N t → clOK B c → B 8 = 0 → (P (some (.int (b2 (decide ((rp_clerks (I 315) N k c t B).1 = 0))))) (mR I (rp_clerks (I 315) N k c t B))) → ZZ K (0, 0) 79 [(0, .ref 312), (1, .int v1)] [] (mR I (0, t, B)) := by
  subst e1; subst e2; subst e3
  have z0 : (0, 0).1 ≤ ((0, 0) : Nat × Nat).1 ∧ (0, 0).2 ≤ ((0, 0) : Nat × Nat).2 := ⟨Nat.le_refl _, Nat.le_refl _⟩
  intro k
  induction k with
  | zero => intro c t B h1 h2; omega
  | succ k ih =>
    intro c t B h1 h2 hok hc h8 hP
    have e2 : mR I (0, t, B) 313 7 < 2 ↔ c < 2 := by rw [mR_313]; show B 7 < 2 ↔ _; rw [hc.1]; exact nI_ltI (a := c) (b := 2) (by omega) (by omega)
    have mw := m_isWord (G := kG K) (w := kw K) (gl := kl K) (r := (0, t, B)) (j := 1) hm hB rfl hok (by omega)
    rw [show (0, t, B).2.1 = t from rfl] at mw
    unfold rp_clerks at hP
    by_cases hw : tq_isw (I 315) t 1 = true
    · rw [if_pos hw] at hP
      rw [hw] at mw
      have ml := m_clerk (G := kG K) (w := kw K) (gl := kl K) (r := (0, t, B)) hm hB rfl hok hc
      have a99 : ZZ K (0, 0) 99 [(0, .ref 312), (1, .int v1)] [] (mR I (0, t, B)) := by
        refine bX11_parseSetup_99 (u := (0, 0)) (mc := (0, 0)) (mc1 := (0, 0)) (x1 := nX) (f8 := 0) (g8 := I) hK hwo hm z0 (fun _ _ h => h) mw z0 (fun _ => ml) (fun _ q => ?_) z0 (fun _ q => ?_) z0 (fun q => absurd q (by decide)) z0 (fun q => absurd q (by decide)) (fun q => absurd q (by decide))
        · have q1 := d01 q
          rw [rb0 q1] at hP
          obtain ⟨g1, g2, g3, g4, g5⟩ := clerk_ok hok hc q1
          have e9 : mR I (rp_clerk (I 315) N t B c) = mR I (0, (rp_clerk (I 315) N t B c).2.1, (rp_clerk (I 315) N t B c).2.2) := by
            rw [show (0 : Nat) = (rp_clerk (I 315) N t B c).1 from q1.symm]
          show ZZ K (0, 0) 79 [(0, .ref 312), (1, .int v1)] [] (mR I (rp_clerk (I 315) N t B c))
          rw [e9]
          exact ih (c + 1) _ _ (by omega) (by omega) g2 g3 (by rw [g4 8 (by omega) (by omega)]; exact h8) hP
        · have q1 := d10 q
          rw [rb1 q1, b2d q1] at hP
          exact hP
      exact bX11_parseSetup_79 (u := (0, 0)) (mc := (0, 0)) (mc3 := (0, 0)) (x3 := nX) hK hwo hm (fun _ => a99) z0 (fun _ _ _ h => h) (fun _ => mw) (fun _ q => absurd q (by decide)) (fun _ _ => a99)
    · rw [if_neg hw] at hP
      rw [show tq_isw (I 315) t 1 = false by simpa using hw] at mw
      have a99 : c < 2 → ZZ K (0, 0) 99 [(0, .ref 312), (1, .int v1)] [] (mR I (0, t, B)) := fun h => by
        rw [if_pos h] at hP
        exact bX11_parseSetup_99 (u := (0, 0)) (mc := (0, 0)) (mc1 := (0, 0)) (x1 := nX) (f3 := 0) (g3 := I) (f8 := 0) (g8 := mR I (1, t, B)) hK hwo hm z0 (fun _ _ h => h) mw z0 (fun q => absurd rfl q) (fun q => absurd rfl q) z0 (fun q => absurd rfl q) z0 (fun _ => m_wrong (r := (0, t, B)) (c := 1) hm rfl (by decide)) z0 (fun _ => hP) (fun _ => Or.inl rfl)
      refine bX11_parseSetup_79 (u := (0, 0)) (mc := (0, 0)) (mc3 := (0, 0)) (x3 := nX) hK hwo hm (fun q => a99 (e2.mp q)) z0 (fun _ _ _ h => h) (fun _ => mw) (fun q _ => ?_) (fun _ q => absurd rfl q)
      rw [if_neg (fun z => q (e2.mpr z))] at hP
      exact m_lets (G := kG K) (w := kw K) (gl := kl K) hm hB hK hwo rfl rfl rfl h2 13 0 t B (by omega) (by omega) hok hc h8 hP
theorem m_setup (hm : isT w 11 312) (hB : rB I N) {r : zRs} (h0 : r.1 = 0) (hok : tOK (I 315) N r.2.1) : CT G w gl (yX11_parseSetup, cX11_parseSetup, 2, some .boolean) 5 (0, 0) [.ref 312] (mR I r) (qE (b2 (decide ((rp_setup (I 315) N r.2.1 r.2.2).1 = 0))) (mR I (rp_setup (I 315) N r.2.1 r.2.2))) nX := by
  refine ct_of (by decide) [(0, .ref 312)] rfl rfl (fun K hG hw hgl hwo hK => ?_)
  subst hG; subst hw; subst hgl
  have z0 : (0, 0).1 ≤ ((0, 0) : Nat × Nat).1 ∧ (0, 0).2 ≤ ((0, 0) : Nat × Nat).2 := ⟨Nat.le_refl _, Nat.le_refl _⟩
  refine bX11_parseSetup_0 (u := (0, 0)) (mc := (0, 0)) hK hwo hm ?_
  have key : ∀ k i, i + k = 160 → ZZ K (0, 0) 2 [(0, .ref 312), (1, .int (nI i))] [] (mR I (r.1, r.2.1, fun j => if j < i then 0 else r.2.2 j)) := by
    intro k
    induction k with
    | zero =>
      intro i hi
      have e : i = 160 := by omega
      subst e
      have le : (160 : Int32) ≤ nI 160 := Int32.le_refl _
      have mw := m_isWord (G := kG K) (w := kw K) (gl := kl K) (r := (0, r.2.1, s_z r.2.2)) (j := 0) hm hB rfl hok (by omega)
      rw [show (0, r.2.1, s_z r.2.2).2.1 = r.2.1 from rfl] at mw
      have ez : up (up (mR I (r.1, r.2.1, fun j => if j < 160 then 0 else r.2.2 j)) 313 10 (-1)) 313 11 (-1) = mR I (0, r.2.1, s_z r.2.2) := by
        rw [mR_up, mR_up, h0]; rfl
      generalize hr1 : rp_set (I 315) N (tq_nx (I 315) N r.2.1) (s_z r.2.2) = r1 at *
      by_cases hw : tq_isw (I 315) r.2.1 0 = true
      · rw [hw] at mw
        have es : rp_setup (I 315) N r.2.1 r.2.2 = rbind r1 (fun t B => rp_clerks (I 315) N 7 0 t (upd B 13 (B 2))) := by unfold rp_setup; rw [if_pos hw, hr1]
        have ms := m_set7 (G := kG K) (w := kw K) (gl := kl K) (r := (0, tq_nx (I 315) N r.2.1, s_z r.2.2)) hm hB rfl (kT_nx hok)
        rw [show rp_set (I 315) N (0, tq_nx (I 315) N r.2.1, s_z r.2.2).2.1 (0, tq_nx (I 315) N r.2.1, s_z r.2.2).2.2 = r1 from hr1] at ms
        refine bX11_parseSetup_2 (u := (0, 0)) (mc := (0, 0)) (mc2 := (0, 0)) (x2 := nX) (f10 := 0) (g10 := I) hK hwo hm z0 (fun _ _ _ h => h) (fun _ => by rw [ez]; exact mw) z0 (fun _ _ => m_tok (r := (0, r.2.1, s_z r.2.2)) hm hB rfl hok) z0 (fun _ _ => ms) (fun _ _ q => ?_) z0 (fun _ _ q => ?_) z0 (fun _ q => absurd q (by decide)) z0 (fun _ q => absurd q (by decide)) (fun _ q => absurd q (by decide)) (fun q => absurd le q) (fun q => absurd le q)
        · have q1 := d01 q
          have ok1 : tOK (I 315) N r1.2.1 ∧ ∀ j, 6 < j → r1.2.2 j = s_z r.2.2 j := by
            rw [← hr1] at q1 ⊢
            unfold rp_set at q1 ⊢
            obtain ⟨g1, e1⟩ := rb_inv q1
            rw [e1] at q1 ⊢
            obtain ⟨g2, e2⟩ := rb_inv q1
            rw [e2] at q1 ⊢
            obtain ⟨g3, e3⟩ := rb_inv q1
            rw [e3] at q1 ⊢
            obtain ⟨g4, e4⟩ := rb_inv q1
            rw [e4] at q1 ⊢
            obtain ⟨g5, e5⟩ := rb_inv q1
            rw [e5] at q1 ⊢
            obtain ⟨g6, e6⟩ := rb_inv q1
            rw [e6] at q1 ⊢
            obtain ⟨g7, e7⟩ := rb_inv q1
            rw [e7]
            refine ⟨semi_ok (rng_ok (rng_ok (rng_ok (rng_ok (rng_ok (rng_ok (rng_ok (kT_nx hok)))))))), fun j hj => ?_⟩
            rw [semi_B, rng_ne (by omega), rng_ne (by omega), rng_ne (by omega), rng_ne (by omega), rng_ne (by omega), rng_ne (by omega), rng_ne (by omega)]
          have z7 : s_z r.2.2 7 = 0 := by unfold s_z; rw [upd_ne _ _ (by omega), upd_ne _ _ (by omega), if_pos (by omega)]
          have z8 : s_z r.2.2 8 = 0 := by unfold s_z; rw [upd_ne _ _ (by omega), upd_ne _ _ (by omega), if_pos (by omega)]
          rw [mR_313, mR_up]
          have e9 : mR I (r1.1, r1.2.1, upd r1.2.2 13 (r1.2.2 2)) = mR I (0, r1.2.1, upd r1.2.2 13 (r1.2.2 2)) := by rw [q1]
          rw [e9]
          refine m_clks (G := kG K) (w := kw K) (gl := kl K) hm hB hK hwo rfl rfl rfl 7 0 r1.2.1 _ (by omega) (by omega) ok1.1 ⟨?_, by omega, fun a ha => absurd ha (Nat.not_lt_zero a)⟩ ?_ ?_
          · rw [upd_ne _ _ (by omega), ok1.2 7 (by omega), z7]; rfl
          · rw [upd_ne _ _ (by omega), ok1.2 8 (by omega), z8]
          · rw [es, rb0 q1]; exact qE_i rfl rfl
        · have q1 := d10 q
          rw [es, rb1 q1]; exact qE_i (b2d q1).symm rfl
      · rw [show tq_isw (I 315) r.2.1 0 = false by simpa using hw] at mw
        have es : rp_setup (I 315) N r.2.1 r.2.2 = (1, r.2.1, s_z r.2.2) := by unfold rp_setup; rw [if_neg hw]
        refine bX11_parseSetup_2 (u := (0, 0)) (mc := (0, 0)) (mc2 := (0, 0)) (x2 := nX) (g4 := I) (f5 := 0) (g5 := I) (f10 := 0) (g10 := mR I (1, r.2.1, s_z r.2.2)) hK hwo hm z0 (fun _ _ _ h => h) (fun _ => by rw [ez]; exact mw) z0 (fun _ q => absurd rfl q) z0 (fun _ q => absurd rfl q) (fun _ q => absurd rfl q) z0 (fun _ q => absurd rfl q) z0 (fun _ _ => m_wrong (r := (0, r.2.1, s_z r.2.2)) (c := 1) hm rfl (by decide)) z0 (fun _ _ => ?_) (fun _ _ => Or.inl rfl) (fun q => absurd le q) (fun q => absurd le q)
        rw [es]; exact qE_i rfl rfl
    | succ k ih =>
      intro i hi
      have nle : ¬ (160 : Int32) ≤ nI i := nI_ge (a := i) (b := 160) (by omega) (by omega)
      refine bX11_parseSetup_2 (u := (0, 0)) (mc := (0, 0)) (mc2 := (0, 0)) (x2 := nX) (f2 := 0) (g2 := I) (g4 := I) (f5 := 0) (g5 := I) (f10 := 0) (g10 := I) hK hwo hm z0 (fun q => absurd q nle) (fun q => absurd q nle) z0 (fun q => absurd q nle) z0 (fun q => absurd q nle) (fun q => absurd q nle) z0 (fun q => absurd q nle) z0 (fun q => absurd q nle) z0 (fun q => absurd q nle) (fun q => absurd q nle) (fun _ => vp_in_nI (by omega) (by omega)) (fun _ => ?_)
      rw [nI_clamp (by omega), mR_up, nI_1]
      have hx := ih (i + 1) (by omega)
      rw [show (fun j => if j < i + 1 then (0 : Int32) else r.2.2 j) = upd (fun j => if j < i then (0 : Int32) else r.2.2 j) i 0 by
        funext j
        by_cases e : j = i
        · rw [e, upd_same, if_pos (by omega)]
        · rw [upd_ne _ _ e]
          by_cases e2 : j < i
          · rw [if_pos e2, if_pos (by omega)]
          · rw [if_neg e2, if_neg (by omega)]] at hx
      exact hx
  have h9 := key 160 0 (by omega)
  rw [show (r.1, r.2.1, fun j => if j < 0 then (0 : Int32) else r.2.2 j) = r by
    rw [show (fun j => if j < 0 then (0 : Int32) else r.2.2 j) = r.2.2 by funext j; rw [if_neg (Nat.not_lt_zero j)]]] at h9
  exact h9
end RPC
