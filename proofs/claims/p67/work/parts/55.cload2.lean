/-! THE OFFICE: loading -/
/-- a byte as a number -/
def bt (x : Int32) : Prop := x.toInt8.toInt32 = x
theorem bt_fits {x : Int32} (h : bt x) : fits .byte (.int x) = true := by
  have h1 : x.toInt = x.toInt8.toInt := by
    have := congrArg Int32.toInt h
    rw [Int8.toInt_toInt32] at this
    exact this.symm
  have h2 := Int8.le_toInt x.toInt8
  have h3 := Int8.toInt_lt x.toInt8
  unfold fits
  rw [Bool.and_eq_true]
  refine ⟨decide_eq_true (Int32.le_iff_toInt_le.mpr ?_), decide_eq_true (Int32.le_iff_toInt_le.mpr ?_)⟩
  · rw [show (-128 : Int32).toInt = -128 by decide]; omega
  · rw [show (127 : Int32).toInt = 127 by decide]; omega
section KXM
variable {b : zBk} {N c : Nat} {t : zTk} {X : zBk} {A : Nat → Int32}
theorem nmK_nm {fr m : Nat} (h : nmK X) (hc : c < 6) (hm : m ≤ 6) (hb : ∀ j, fr ≤ j → j < fr + m → bt (b j)) : nmK (s_clk X b c fr m) := fun a ha k hk => by
  unfold s_clk
  rw [upd_ne _ _ (by omega), upd_ne _ _ (by omega)]
  by_cases e : a = c ∧ k < m
  · obtain ⟨rfl, hkm⟩ := e
    rw [nm_at m hkm]
    exact bt_fits (hb _ (by omega) (by omega))
  · rw [nm_far m (by omega)]; exact h a ha k hk
/-- what the clerks of a text leave -/
theorem clks_ok (hN : N ≤ 600) (hbt : ∀ j, j < N → bt (b j)) : ∀ k c (t : zTk) (X : zBk) (A : Nat → Int32), k + c = 7 → c ≤ 6 → tOK b N t → X 7 = nI c → nmL X c → nmK X → nmK (kx_clks b N k c t X A).2.2.1 ∧ ((kx_clks b N k c t X A).1 = 0 → (∀ j, j < 22 → j ≠ 7 → (kx_clks b N k c t X A).2.2.1 j = X j) ∧ tOK b N (kx_clks b N k c t X A).2.1 ∧ ∃ c', 2 ≤ c' ∧ c' ≤ 6 ∧ (kx_clks b N k c t X A).2.2.1 7 = nI c' ∧ nmL (kx_clks b N k c t X A).2.2.1 c')
  | 0, c, t, X, A, h1, h2, _, _, _, _ => by omega
  | k + 1, c, t, X, A, h1, h2, hok, h7, hL, hK => by
    unfold kx_clks
    have hok1 := kT_nx hok
    split
    · split
      · exact ⟨hK, fun z => absurd z (show ¬ (4 : Nat) = 0 by decide)⟩
      · rename_i hc6
        split
        · rename_i hsh
          obtain ⟨hk1, hl6⟩ := short0 hsh
          have elen : (tq_nx b N t).2.1 + tq_ln (tq_nx b N t) = (tq_nx b N t).2.2.1 := by unfold tq_ln; have := hok1.2.1; omega
          have hle := hok1.2.2.1
          have hK' : nmK (s_clk X b c (tq_nx b N t).2.1 (tq_ln (tq_nx b N t))) := nmK_nm hK (by omega) hl6 (fun j a b => hbt j (by omega))
          split
          · split
            · have ih := clks_ok hN hbt k (c + 1) (tq_nx b N (tq_nx b N (tq_nx b N t))) (s_clk X b c (tq_nx b N t).2.1 (tq_ln (tq_nx b N t))) A (by omega) (by omega) (kT_nx (kT_nx hok1)) (upd_same _ _ _) (clkL hL (by omega) hl6) hK'
              refine ⟨ih.1, fun z => ⟨fun j hj h7 => ?_, (ih.2 z).2⟩⟩
              rw [(ih.2 z).1 j hj h7]
              unfold s_clk
              rw [upd_ne _ _ h7, upd_ne _ _ (by omega), nm_far _ (by omega)]
            · exact ⟨hK', fun z => absurd z (show ¬ (1 : Nat) = 0 by decide)⟩
          · exact ⟨hK, fun z => absurd z (show ¬ (3 : Nat) = 0 by decide)⟩
        · rename_i hsh; exact ⟨hK, fun z => absurd z hsh⟩
    · split
      · exact ⟨hK, fun z => absurd z (show ¬ (1 : Nat) = 0 by decide)⟩
      · exact ⟨hK, fun _ => ⟨fun _ _ _ => rfl, hok, c, by omega, h2, h7, hL⟩⟩
theorem let1_X {n : Nat} {q : Int32 × Nat × zTk} : (kx_let1 b N X A n q).2.2.1 = X ∨ ∃ a x1 x2 x3 x4 : Int32, (kx_let1 b N X A n q).2.2.1 = s_add X n a x1 x2 x3 x4 := by
  unfold kx_let1
  split
  · exact Or.inl rfl
  · unfold kx_let2
    split
    · split
      · exact Or.inr ⟨_, _, _, _, _, rfl⟩
      · exact Or.inl rfl
    · exact Or.inl rfl
theorem nmK_add {n : Nat} {x1 x2 x3 x4 x5 : Int32} (h : nmK X) : nmK (s_add X n x1 x2 x3 x4 x5) := fun a ha k hk => by
  rw [add_lo (by omega) (by omega)]; exact h a ha k hk
theorem lets_ok (hc : c ≤ 6) : ∀ k n (t : zTk) (X : zBk) (A : Nat → Int32), k + n = 13 → n ≤ 12 → tOK b N t → X 8 = nI n → nmK X → nmK (kx_lets b N c k n t X A).2.2.1 ∧ ((kx_lets b N c k n t X A).1 = 0 → (∀ j, j < 64 → j ≠ 8 → (kx_lets b N c k n t X A).2.2.1 j = X j) ∧ ∃ n', n' ≤ 12 ∧ (kx_lets b N c k n t X A).2.2.1 8 = nI n')
  | 0, n, t, X, A, h1, h2, _, _, _ => by omega
  | k + 1, n, t, X, A, h1, h2, hok, h8, hK => by
    unfold kx_lets
    have okq := clk_ok (c := c) (X := X) (kT_nx hok)
    split
    · exact ⟨hK, fun _ => ⟨fun _ _ _ => rfl, n, h2, h8⟩⟩
    · split
      · split
        · exact ⟨hK, fun z => absurd z (show ¬ (4 : Nat) = 0 by decide)⟩
        · split
          · rename_i h0
            obtain ⟨a, x1, x2, x3, x4, e⟩ := let1_blk h0 (fun z => clk_1 z (by omega))
            have ih := lets_ok hc k (n + 1) (kx_let1 b N X A n (tq_clk X b N c (tq_nx b N t))).2.1 (kx_let1 b N X A n (tq_clk X b N c (tq_nx b N t))).2.2.1 (kx_let1 b N X A n (tq_clk X b N c (tq_nx b N t))).2.2.2 (by omega) (by omega) (let1_ok okq) (by rw [e, add_8, h8, nI_1]) (by rw [e]; exact nmK_add hK)
            refine ⟨ih.1, fun z => ⟨fun j hj h8' => ?_, (ih.2 z).2⟩⟩
            rw [(ih.2 z).1 j hj h8', e, add_lo hj h8']
          · rename_i h0
            refine ⟨?_, fun z => absurd z h0⟩
            rcases let1_X (b := b) (N := N) (X := X) (A := A) (n := n) (q := tq_clk X b N c (tq_nx b N t)) with e | ⟨a, x1, x2, x3, x4, e⟩
            · rw [e]; exact hK
            · rw [e]; exact nmK_add hK
      · exact ⟨hK, fun z => absurd z (show ¬ (1 : Nat) = 0 by decide)⟩
theorem set_ok (hok : tOK b N t) (hK : nmK X) : nmK (kx_set b N t X A).2.2.1 ∧ tOK b N (kx_set b N t X A).2.1 := by
  have hs : ∀ B : Nat → Int32, nmK (s_sets X B) := fun B a ha k hk => by
    unfold s_sets
    rw [upd_ne _ _ (by omega), upd_ne _ _ (by omega), upd_ne _ _ (by omega), upd_ne _ _ (by omega), upd_ne _ _ (by omega), upd_ne _ _ (by omega), upd_ne _ _ (by omega)]
    exact hK a ha k hk
  have h2 := nums_ok (lo := zS5 0) (hi := zS5 1) 7 0 (tq_nx b N t) A (kT_nx hok)
  unfold kx_set
  split
  · unfold kx_set2
    split
    · split
      · exact ⟨hs _, kT_nx h2⟩
      · exact ⟨hs _, h2⟩
    · exact ⟨hK, h2⟩
  · exact ⟨hK, hok⟩
end KXM
/-- a setup as far as its clerks; the whole -/
def kx_two (b : zBk) (N : Nat) (t : zTk) (X : zBk) (A : Nat → Int32) : zKs :=
  if (kx_set b N t X A).1 = 0 then kx_clks b N 7 0 (kx_set b N t X A).2.1 (upd (kx_set b N t X A).2.2.1 7 0) (kx_set b N t X A).2.2.2 else kx_set b N t X A
def kx_setup (b : zBk) (N : Nat) (t : zTk) (X : zBk) (A : Nat → Int32) : zKs :=
  if (kx_two b N t X A).1 = 0 then kx_lets b N ((kx_two b N t X A).2.2.1 7).toNatClampNeg 13 0 (kx_two b N t X A).2.1 (s_beg (kx_two b N t X A).2.2.1) (kx_two b N t X A).2.2.2 else kx_two b N t X A
theorem beg_lo {X : zBk} {j : Nat} (h : j < 8) : s_beg X j = X j := by
  unfold s_beg
  rw [upd_ne _ _ (by omega), upd_ne _ _ (by omega), upd_ne _ _ (by omega), upd_ne _ _ (by omega), upd_ne _ _ (by omega), upd_ne _ _ (by omega), upd_ne _ _ (by omega), upd_ne _ _ (by omega), upd_ne _ _ (by omega), upd_ne _ _ (by omega), upd_ne _ _ (by omega), upd_ne _ _ (by omega), upd_ne _ _ (by omega), upd_ne _ _ (by omega)]
theorem beg_hi {X : zBk} {j : Nat} (h : 22 ≤ j) : s_beg X j = X j := by
  unfold s_beg
  rw [upd_ne _ _ (by omega), upd_ne _ _ (by omega), upd_ne _ _ (by omega), upd_ne _ _ (by omega), upd_ne _ _ (by omega), upd_ne _ _ (by omega), upd_ne _ _ (by omega), upd_ne _ _ (by omega), upd_ne _ _ (by omega), upd_ne _ _ (by omega), upd_ne _ _ (by omega), upd_ne _ _ (by omega), upd_ne _ _ (by omega), upd_ne _ _ (by omega)]
theorem beg_8 {X : zBk} : s_beg X 8 = 0 := by
  unfold s_beg
  rw [upd_ne _ _ (by omega), upd_ne _ _ (by omega), upd_ne _ _ (by omega), upd_ne _ _ (by omega), upd_ne _ _ (by omega), upd_ne _ _ (by omega), upd_ne _ _ (by omega), upd_ne _ _ (by omega), upd_ne _ _ (by omega), upd_ne _ _ (by omega), upd_ne _ _ (by omega), upd_ne _ _ (by omega), upd_ne _ _ (by omega), upd_same]
section KXN
variable {G : zG} {w : Nat × Nat} {gl : Launch} {I : zM} {s N : Nat} {cu : Int32} {t : zTk} {X : zBk} {A : Nat → Int32}
/-- what a setup that was read has -/
theorem two_ok {b : zBk} (hN : N ≤ 600) (hbt : ∀ j, j < N → bt (b j)) (hok : tOK b N t) (hK : nmK X) : nmK (kx_two b N t X A).2.2.1 ∧ ((kx_two b N t X A).1 = 0 → tOK b N (kx_two b N t X A).2.1 ∧ ∃ c', 2 ≤ c' ∧ c' ≤ 6 ∧ (kx_two b N t X A).2.2.1 7 = nI c' ∧ nmL (kx_two b N t X A).2.2.1 c') := by
  obtain ⟨h1, h2⟩ := set_ok (A := A) hok hK
  unfold kx_two
  by_cases h0 : (kx_set b N t X A).1 = 0
  · rw [if_pos h0]
    have h := clks_ok hN hbt 7 0 (kx_set b N t X A).2.1 (upd (kx_set b N t X A).2.2.1 7 0) (kx_set b N t X A).2.2.2 (by omega) (by omega) h2 (upd_same _ _ _) ⟨by omega, fun a ha => by omega⟩ (nmK_upd h1 (by omega))
    exact ⟨h.1, fun z => (h.2 z).2⟩
  · rw [if_neg h0]
    exact ⟨h1, fun z => absurd z h0⟩
theorem nmK_beg (h : nmK X) : nmK (s_beg X) := fun a ha k hk => by rw [beg_hi (by omega)]; exact h a ha k hk
theorem setup_ok {b : zBk} (hN : N ≤ 600) (hbt : ∀ j, j < N → bt (b j)) (hok : tOK b N t) (hK : nmK X) : nmK (kx_setup b N t X A).2.2.1 ∧ ((kx_setup b N t X A).1 = 0 → ∃ n c, n ≤ 12 ∧ 2 ≤ c ∧ c ≤ 6 ∧ (kx_setup b N t X A).2.2.1 7 = nI c ∧ (kx_setup b N t X A).2.2.1 8 = nI n ∧ nmL (kx_setup b N t X A).2.2.1 c) := by
  have h2 := two_ok (A := A) hN hbt hok hK
  unfold kx_setup
  by_cases h0 : (kx_two b N t X A).1 = 0
  · rw [if_pos h0]
    obtain ⟨hok2, c, hc2, hc6, h7, hL⟩ := h2.2 h0
    have ec : ((kx_two b N t X A).2.2.1 7).toNatClampNeg = c := by rw [h7]; exact nI_clamp (by omega)
    rw [ec]
    have h := lets_ok (b := b) (N := N) hc6 13 0 (kx_two b N t X A).2.1 (s_beg (kx_two b N t X A).2.2.1) (kx_two b N t X A).2.2.2 (by omega) (by omega) hok2 beg_8 (nmK_beg h2.1)
    refine ⟨h.1, fun z => ?_⟩
    obtain ⟨ha, n, hn, h8⟩ := h.2 z
    refine ⟨n, c, hn, hc2, hc6, ?_, h8, hc6, fun a ha' => ?_⟩
    · rw [ha 7 (by omega) (by omega), beg_lo (by omega)]; exact h7
    · rw [ha _ (by omega) (by omega), beg_hi (by omega)]; exact hL.2 a ha'
  · rw [if_neg h0]
    exact ⟨h2.1, fun z => absurd z h0⟩
/-- the memory at a setup's reading, from I on -/
def kbI (I : zM) : zM := ups I 285 (upd (upd (I 285) 6 0) 7 (-1))
def kSU (I : zM) (s N : Nat) (v : Int32) : zKs := kx_setup (I 286) N (tq_tk (I 286) N 0 v) (vB I s) (I 287)
def kSM (I : zM) (s N : Nat) (v : Int32) : zM := xR (kbI I) s (if (kx_two (I 286) N (tq_tk (I 286) N 0 v) (vB I s) (I 287)).1 = 0 then -1 else I s 7) (kSU I s N v)
theorem kb_xR (hs3 : sep3 s) {t : zTk} : ups I 285 (tk_put (upd (upd (I 285) 6 0) 7 (-1)) t) = xR (kbI I) s (I s 7) (0, t, vB I s, I 287) := by
  unfold xR kbI
  show _ = ups (ups (sput (ups I 285 (upd (upd (I 285) 6 0) 7 (-1))) s (vB I s) (I s 7)) 285 (kF (ups I 285 (upd (upd (I 285) 6 0) 7 (-1)) 285) 0 t)) 287 (I 287)
  unfold sep3 at hs3
  rw [sput_ups (by omega), sput_self, ups_ups, ups_same, kF_0]
  have e : (ups I 285 (tk_put (upd (upd (I 285) 6 0) 7 (-1)) t)) 287 = I 287 := ups_ne _ _ (by decide)
  conv => rhs; rw [← e]
  rw [ups_id]
theorem kbI_286 : kbI I 286 = I 286 := ups_ne _ _ (by decide)
theorem x_setup (hm : isT w 4 285) (hs : isT w 9 s) (hp : pOK I s N) (hbt : ∀ j, j < N → bt (I 286 j)) (hK0 : nmK (vB I s)) (v : Int32) : CT G w gl (yX10_readSetup, cX10_readSetup, 2, some .boolean) 7 (0, 0) [.ref 285, .ref s] I (qE (b2 (decide ((kSU I s N v).1 = 0))) (kSM I s N v)) nX := by
  refine ct_of (by decide) [(0, .ref 285), (1, .ref s)] rfl rfl (fun K hG hw hgl hwo hK => ?_)
  subst hG; subst hw; subst hgl
  have D : ((0, 0) : Nat × Nat).1 ≤ ((0, 0) : Nat × Nat).1 ∧ ((0, 0) : Nat × Nat).2 ≤ ((0, 0) : Nat × Nat).2 := ⟨Nat.le_refl _, Nat.le_refl _⟩
  have hb := k_begin (G := kG K) (gl := kl K) (I := I) (N := N) hm v hp.2.1 hp.2.2
  rw [kb_xR hp.1] at hb
  have hp' : pOK (kbI I) s N := ⟨hp.1, by unfold kbI; rw [ups_same, upd_ne _ _ (by decide), upd_ne _ _ (by decide)]; exact hp.2.1, hp.2.2⟩
  have hok : tOK (I 286) N (tq_tk (I 286) N 0 v) := tk_ok (Nat.zero_le _)
  have e6 := kbI_286 (I := I)
  unfold kSM at hK
  unfold kSU at hK
  generalize ht : tq_tk (I 286) N 0 v = t at hb hok hK
  have hlr := (hs.lr hwo).2.1
  obtain ⟨s1, s2⟩ := set_ok (A := I 287) hok hK0
  have t2 := two_ok (A := I 287) hp.2.2 hbt hok hK0
  have m2 := x_set (G := kG K) (w := kw K) (gl := kl K) (I := kbI I) (s := s) (cu := I s 7) (X := vB I s) (A := I 287) hm hs hp' (by rw [e6]; exact hok) (r := kx_set (I 286) N t (vB I s) (I 287)) (by rw [e6])
  by_cases h0 : (kx_set (I 286) N t (vB I s) (I 287)).1 = 0
  · have e2 : kx_two (I 286) N t (vB I s) (I 287) = kx_clks (I 286) N 7 0 (kx_set (I 286) N t (vB I s) (I 287)).2.1 (upd (kx_set (I 286) N t (vB I s) (I 287)).2.2.1 7 0) (kx_set (I 286) N t (vB I s) (I 287)).2.2.2 := by unfold kx_two; rw [if_pos h0]
    have m6 := x_clks (G := kG K) (w := kw K) (gl := kl K) (I := kbI I) (s := s) (cu := I s 7) (t := (kx_set (I 286) N t (vB I s) (I 287)).2.1) (X := (kx_set (I 286) N t (vB I s) (I 287)).2.2.1) (A := (kx_set (I 286) N t (vB I s) (I 287)).2.2.2) hm hs hp' (by rw [e6]; exact hbt) (by rw [e6]; exact s2) (r := kx_two (I 286) N t (vB I s) (I 287)) (by rw [e6]; exact e2)
    have er : xR (kbI I) s (I s 7) (kx_set (I 286) N t (vB I s) (I 287)) = xR (kbI I) s (I s 7) (0, (kx_set (I 286) N t (vB I s) (I 287)).2) := by
      conv => lhs; rw [show kx_set (I 286) N t (vB I s) (I 287) = ((kx_set (I 286) N t (vB I s) (I 287)).1, (kx_set (I 286) N t (vB I s) (I 287)).2) from rfl, h0]
    rw [er] at m2
    by_cases h1 : (kx_two (I 286) N t (vB I s) (I 287)).1 = 0
    · obtain ⟨ok3, c, hc2, hc6, h7, hL⟩ := t2.2 h1
      have ec : ((kx_two (I 286) N t (vB I s) (I 287)).2.2.1 7).toNatClampNeg = c := by rw [h7]; exact nI_clamp (by omega)
      have e3 : kx_setup (I 286) N t (vB I s) (I 287) = kx_lets (I 286) N c 13 0 (kx_two (I 286) N t (vB I s) (I 287)).2.1 (s_beg (kx_two (I 286) N t (vB I s) (I 287)).2.2.1) (kx_two (I 286) N t (vB I s) (I 287)).2.2.2 := by unfold kx_setup; rw [if_pos h1, ec]
      rw [if_pos h1] at hK
      have er2 : xR (kbI I) s (I s 7) (kx_two (I 286) N t (vB I s) (I 287)) = xR (kbI I) s (I s 7) (0, (kx_two (I 286) N t (vB I s) (I 287)).2) := by
        conv => lhs; rw [show kx_two (I 286) N t (vB I s) (I 287) = ((kx_two (I 286) N t (vB I s) (I 287)).1, (kx_two (I 286) N t (vB I s) (I 287)).2) from rfl, h1]
      rw [er2] at m6
      have m8 := x_beg (G := kG K) (w := kw K) (gl := kl K) (I := kbI I) (s := s) (cu := I s 7) (t := (kx_two (I 286) N t (vB I s) (I 287)).2.1) (X := (kx_two (I 286) N t (vB I s) (I 287)).2.2.1) (A := (kx_two (I 286) N t (vB I s) (I 287)).2.2.2) hs hp'
      have m9 := x_lets (G := kG K) (w := kw K) (gl := kl K) (I := kbI I) (s := s) (cu := -1) (t := (kx_two (I 286) N t (vB I s) (I 287)).2.1) (X := s_beg (kx_two (I 286) N t (vB I s) (I 287)).2.2.1) (A := (kx_two (I 286) N t (vB I s) (I 287)).2.2.2) hm hs hp' (by rw [e6]; exact ok3) (c := c) (by rw [beg_lo (by omega)]; exact h7) ⟨hc6, fun a ha => by rw [beg_hi (by omega)]; exact hL.2 a ha⟩ beg_8 (r := kx_setup (I 286) N t (vB I s) (I 287)) (by rw [e6]; exact e3)
      exact bX10_readSetup_0 (mc2 := (0, 0)) (x2 := nX) (mc6 := (0, 0)) (x6 := nX) (mc9 := (0, 0)) (x9 := nX) hK hwo hm hs D hb D (fun _ _ z => z.elim) m2 D (fun z => absurd h0 (of_decide_eq_false (b2_0.mp z))) D (fun _ _ _ z => z.elim) (fun _ => by rw [hlr]; exact m6) D (fun _ _ => m8) D (fun _ _ _ _ z => z.elim) (fun _ _ => m9) D (fun _ _ => qE_i rfl rfl) (fun _ _ => b2_01 _) D (fun _ z => absurd h1 (of_decide_eq_false (b2_0.mp z)))
    · have e3 : kx_setup (I 286) N t (vB I s) (I 287) = kx_two (I 286) N t (vB I s) (I 287) := by unfold kx_setup; rw [if_neg h1]
      rw [if_neg h1, e3] at hK
      exact bX10_readSetup_0 (mc2 := (0, 0)) (x2 := nX) (mc6 := (0, 0)) (x6 := nX) (mc9 := (0, 0)) (x9 := nX) (g8 := I) (f9 := 0) (g9 := I) hK hwo hm hs D hb D (fun _ _ z => z.elim) m2 D (fun z => absurd h0 (of_decide_eq_false (b2_0.mp z))) D (fun _ _ _ z => z.elim) (fun _ => by rw [hlr]; exact m6) D (fun _ z => absurd (of_decide_eq_true (b2_n0.mp z)) h1) D (fun _ _ _ _ z => z.elim) (fun _ z => absurd (of_decide_eq_true (b2_n0.mp z)) h1) D (fun _ z => absurd (of_decide_eq_true (b2_n0.mp z)) h1) (fun _ z => absurd (of_decide_eq_true (b2_n0.mp z)) h1) D (fun _ _ => qE_i (b2d h1).symm rfl)
  · have e2 : kx_two (I 286) N t (vB I s) (I 287) = kx_set (I 286) N t (vB I s) (I 287) := by unfold kx_two; rw [if_neg h0]
    have h1 : ¬ (kx_two (I 286) N t (vB I s) (I 287)).1 = 0 := by rw [e2]; exact h0
    have e3 : kx_setup (I 286) N t (vB I s) (I 287) = kx_set (I 286) N t (vB I s) (I 287) := by unfold kx_setup; rw [if_neg h1, e2]
    rw [if_neg h1, e3] at hK
    exact bX10_readSetup_0 (mc2 := (0, 0)) (x2 := nX) (mc6 := (0, 0)) (x6 := nX) (mc9 := (0, 0)) (x9 := nX) (f6 := 0) (g6 := I) (g8 := I) (f9 := 0) (g9 := I) hK hwo hm hs D hb D (fun _ _ z => z.elim) m2 D (fun _ => qE_i (b2d h0).symm rfl) D (fun z => absurd (of_decide_eq_true (b2_n0.mp z)) h0) (fun z => absurd (of_decide_eq_true (b2_n0.mp z)) h0) D (fun z => absurd (of_decide_eq_true (b2_n0.mp z)) h0) D (fun z => absurd (of_decide_eq_true (b2_n0.mp z)) h0) (fun z => absurd (of_decide_eq_true (b2_n0.mp z)) h0) D (fun z => absurd (of_decide_eq_true (b2_n0.mp z)) h0) (fun z => absurd (of_decide_eq_true (b2_n0.mp z)) h0) D (fun z => absurd (of_decide_eq_true (b2_n0.mp z)) h0)
/-- behind a good load: the memory that the spare state's setup leaves -/
def kLD (M : zM) (n c : Nat) : zM := up (up (up (cpS M 288 1 n c) 89 1 0) 236 0 (vp_nar .boolean 0)) 236 1 (vp_nar .boolean 0)
def kLM (I : zM) (N : Nat) (v : Int32) : zM := up (kSM I 1 N v) 285 1 0
theorem c_load (hx : isT w 10 0) (h1 : I 285 1 = nI N) (hN : N ≤ 600) (hbt : ∀ j, j < N → bt (I 286 j)) (hK0 : nmB I 1) (v : Int32) {R : zKs} (hR : R = kSU I 1 N v) {n c : Nat} (hn : R.1 = 0 → n = (R.2.2.1 8).toNatClampNeg ∧ c = (R.2.2.1 7).toNatClampNeg) : CT G w gl (yX10_load, cX10_load, 3, some .int) 8 (1, 6) [.ref 0] I (qP (R.1 = 0) (R.2.2.1 8) (kLD (kLM I N v) n c)) (xP (R.1 = 0) sA (kLM I N v)) := by
  refine ct_of (by decide) [(0, .ref 0)] rfl rfl (fun K hG hw hgl hwo hK => ?_)
  subst hG; subst hw; subst hgl
  have hp : pOK I 1 N := ⟨Or.inl (by omega), h1, hN⟩
  have m1 := x_setup (G := kG K) (gl := kl K) (hx.inp hwo) (hx.spa hwo) hp hbt (nmK_B.mp hK0) v
  rw [← hR] at m1
  by_cases h0 : R.1 = 0
  · have hok : tOK (I 286) N (tq_tk (I 286) N 0 v) := tk_ok (Nat.zero_le _)
    have so := setup_ok (A := I 287) hN hbt hok (nmK_B.mp hK0)
    obtain ⟨n', c', hn12, hc2, hc6, h7, h8, hL⟩ := so.2 (by rw [show kx_setup (I 286) N (tq_tk (I 286) N 0 v) (vB I 1) (I 287) = R from hR.symm]; exact h0)
    rw [show kx_setup (I 286) N (tq_tk (I 286) N 0 v) (vB I 1) (I 287) = R from hR.symm] at so h7 h8 hL
    obtain ⟨en, ec⟩ := hn h0
    rw [h8, nI_clamp (by omega)] at en
    rw [h7, nI_clamp (by omega)] at ec
    subst en; subst ec
    have eM : ∀ q x, 1 ≤ q → q < 25 → kLM I N v q x = xR (kbI I) 1 (if (kx_two (I 286) N (tq_tk (I 286) N 0 v) (vB I 1) (I 287)).1 = 0 then -1 else I 1 7) R q x := fun q x a b => by
      unfold kLM kSM; rw [up_def, ups_ne _ _ (by omega), hR]
    have hs3 : sep3 1 := Or.inl (by omega)
    have m3 := k_copyFrom (G := kG K) (gl := kl K) (I := kLM I N v) (s := 288) (o := 1) (n := n) (c := c) (hx.st hwo) (hx.spa hwo) (by omega) (by rw [eM _ _ (by omega) (by omega), xR_st hs3 (by omega) (by omega), sp3]; exact h8) hn12 (by rw [eM _ _ (by omega) (by omega), xR_st hs3 (by omega) (by omega)]; exact spC.trans h7) hc6 (fun a ha k hk => by rw [eM _ _ (by omega) (by omega), xR_st hs3 (by omega) (by omega)]; rw [spN ha hk]; exact so.1 a ha k hk)
    refine bX10_load_0 (mc1 := (0, 0)) (x1 := nX) hK hwo hx ⟨by decide, by decide⟩ (fun _ _ z => z.elim) m1 ⟨by decide, by decide⟩ (fun _ => m3) (fun _ => ?_) ⟨by decide, by decide⟩ (fun z => absurd h0 (of_decide_eq_false (b2_0.mp z)))
    refine bX10_load_55 hK hwo hx ⟨by decide, by decide⟩ (fun z => absurd z (by decide)) (fun _ => vp_in_nI (n := 0) (N := 2) (by omega) (by omega)) (fun _ => ?_)
    refine bX10_load_55 hK hwo hx ⟨by decide, by decide⟩ (fun z => absurd z (by decide)) (fun _ => vp_in_nI (n := 1) (N := 2) (by omega) (by omega)) (fun _ => ?_)
    refine bX10_load_55 hK hwo hx ⟨by decide, by decide⟩ (fun _ => qP_i h0 ?_ rfl) (fun z => absurd (by decide) z) (fun z => absurd (by decide) z)
    rw [up_def, ups_ne _ _ (by decide), up_def, ups_ne _ _ (by decide), up_def, ups_ne _ _ (by decide)]
    unfold cpS
    rw [sp3]
    show (if q_cp n c 8 = true then vB (kLM I N v) 1 8 else vB (kLM I N v) 288 8) = _
    rw [if_pos (by unfold q_cp; exact decide_eq_true (Or.inl (by omega)))]
    show kLM I N v 1 3 = _
    rw [eM _ _ (by omega) (by omega), xR_st hs3 (by omega) (by omega), sp3]
  · refine bX10_load_0 (mc1 := (0, 0)) (x1 := nX) (g3 := I) hK hwo hx ⟨by decide, by decide⟩ (fun _ _ z => z.elim) m1 ⟨by decide, by decide⟩ (fun z => absurd (of_decide_eq_true (b2_n0.mp z)) h0) (fun z => absurd (of_decide_eq_true (b2_n0.mp z)) h0) ⟨by decide, by decide⟩ (fun _ => ⟨h0, rfl, rfl⟩)
end KXN
