/-! THE LAW'S TEXT IS READ: settings, clerks, letters -/
section PA2
variable {b : zBk} {N : Nat}
theorem set_run {vs : List Nat} {ys : List Nat} {X : zBk} {A : Nat → Int32} {v : Int32} (h : AtL b 0 (hdT vs ++ ys)) (hl : vs.length = 7) (hN : (hdT vs).length ≤ N) (hv : ∀ j, j < 7 → vs.getD j 0 < 100 ∧ s_in (nI (vs.getD j 0)) (zS5 0 j) (zS5 1 j) = true) :
    ∃ x', kx_set b N (tq_tk b N 0 v) X A = (0, tq_tk b N (hdT vs).length x', s_sets X (aput A 0 vs), aput A 0 vs) := by
  obtain ⟨h1, -⟩ := (AtL_app _ _ _).mp h
  obtain ⟨h2, h3⟩ := (AtL_app wOff 0 _).mp h1
  have hlen : (hdT vs).length = 6 + ((spns vs).length + 1) := by
    unfold hdT
    rw [List.length_append, List.length_append]; rfl
  obtain ⟨z, zs, ez⟩ : ∃ z zs, spns vs ++ [59] = 32 :: zs ∧ z = (0 : Nat) := by
    cases vs with
    | nil => simp at hl
    | cons u us => exact ⟨0, _, rfl, rfl⟩
  have hw : AtL b 0 (wOff ++ [32]) := (AtL_app _ _ _).mpr ⟨h2, by
    have z := h3
    rw [ez.1] at z
    exact ⟨z.1, trivial⟩⟩
  have hfr := fr_0 (b := b) (N := N) (p := 0) h2.1 (by omega) (by omega) (by omega)
  have tk := tk_w (v := v) (m := 6) hfr hw rfl (by omega) (by omega) (by decide) (by omega) (by omega)
  have is0 : tq_isw b (1, 0, 0 + 6, v) 0 = true := isw_of (b := b) (v := v) (j := 0) h2 rfl rfl
  obtain ⟨x', hr⟩ := nums_run (N := N) (lo := zS5 0) (hi := zS5 1) vs 0 6 v A (by have z := h3; exact z) (by omega) (fun j hj => by rw [Nat.zero_add]; exact hv j (by omega))
  refine ⟨x', ?_⟩
  unfold kx_set
  rw [tk, if_pos is0]
  show kx_set2 b N X (tq_nums b N (zS5 0) (zS5 1) 7 0 (tq_tk b N 6 v) A) = _
  rw [hl] at hr
  rw [hr]
  unfold kx_set2
  rw [if_pos rfl, if_pos rfl, hlen]
  show (0, tq_tk b N (6 + (spns vs).length + 1) x', _) = _
  rw [show 6 + (spns vs).length + 1 = 6 + ((spns vs).length + 1) by omega]
/-- the clerks' names -/
def NM (X : zBk) (c : Nat) : Prop := ∀ a, a < c → X (22 + a * 7) = nI 2 ∧ X (22 + a * 7 + 1) = nI 99 ∧ X (22 + a * 7 + 2) = nI (97 + a)
theorem find_no {X : zBk} {fr c : Nat} (h : NM X c) (hc : c ≤ 6) (h1 : b (fr + 1) = nI (97 + c)) : ∀ k a, a + k = c → tq_find X b fr 2 a k = -1
  | 0, _, _ => rfl
  | k + 1, a, e => by
    unfold tq_find
    have z := h a (by omega)
    have s : tq_same X b fr 2 a = false := by
      unfold tq_same
      rw [cm_ff (k := 1) (by
        show ¬ X (22 + a * 7 + 1 + 1) = b (fr + 1)
        rw [h1, show 22 + a * 7 + 1 + 1 = 22 + a * 7 + 2 from rfl, z.2.2]
        exact fun q => by
          have := (nI_eq (a := 97 + a) (b := 97 + c) (by omega) (by omega)).mp q
          omega) 2 (by omega), Bool.and_false]
    rw [s, if_neg (by decide), find_no h hc h1 k (a + 1) (by omega)]
theorem find_at {X : zBk} {fr c a : Nat} (h : NM X c) (hc : c ≤ 6) (ha : a < c) (h0 : b fr = nI 99) (h1 : b (fr + 1) = nI (97 + a)) : ∀ k i, i + k = c → i ≤ a → tq_find X b fr 2 i k = nI a
  | 0, i, e, hi => by omega
  | k + 1, i, e, hi => by
    unfold tq_find
    have z := h i (by omega)
    by_cases q : i = a
    · subst q
      have s : tq_same X b fr 2 i = true := by
        unfold tq_same
        rw [Bool.and_eq_true]
        refine ⟨decide_eq_true z.1, cm_of 2 (fun k hk => ?_)⟩
        have : k = 0 ∨ k = 1 := by omega
        rcases this with rfl | rfl
        · show X (22 + i * 7 + 1) = b fr
          rw [z.2.1, h0]
        · show X (22 + i * 7 + 2) = b (fr + 1)
          rw [z.2.2, h1]
      rw [if_pos s]
    · have s : tq_same X b fr 2 i = false := by
        unfold tq_same
        rw [cm_ff (k := 1) (by
          show ¬ X (22 + i * 7 + 1 + 1) = b (fr + 1)
          rw [h1, show 22 + i * 7 + 1 + 1 = 22 + i * 7 + 2 from rfl, z.2.2]
          exact fun q' => by
            have := (nI_eq (a := 97 + i) (b := 97 + a) (by omega) (by omega)).mp q'
            omega) 2 (by omega), Bool.and_false]
      rw [s, if_neg (by decide), find_at h hc ha h0 h1 k (i + 1) (by omega) (by omega)]
/-- a name's token: blank, c, letter -/
theorem tk_nm {p a y : Nat} {v : Int32} (h : AtL b p [32, 99, 97 + a, y]) (ha : a ≤ 6) (hy : y < 97) (hN : p + 3 < N) : tq_tk b N p v = (1, p + 1, p + 3, v) := by
  have hfr := fr_1 (b := b) (N := N) h.1 h.2.1 (by omega) (by omega) (by omega)
  exact tk_w (v := v) (m := 2) (ws := [99, 97 + a]) (y := y) hfr h.2 rfl (by omega) (by omega) (by
    intro x hx
    simp at hx
    omega) hy (by omega)
theorem clks_run {A : Nat → Int32} : ∀ (k c m p : Nat) (x : Int32) (X : zBk), AtL b p (clksT c k) → p + (clksT c k).length ≤ N → (∀ x, tq_isw b (tq_tk b N (p + (clksT c k).length) x) 1 = false) → c + k ≤ 6 → k + 1 ≤ m → 2 ≤ c + k → X 7 = nI c → NM X c →
    ∃ x' X', kx_clks b N m c (tq_tk b N p x) X A = (0, tq_tk b N (p + (clksT c k).length) x', X', A) ∧ X' 7 = nI (c + k) ∧ NM X' (c + k) ∧ (∀ j, j < 22 → j ≠ 7 → X' j = X j) ∧ ∀ j, 64 ≤ j → X' j = X j
  | 0, c, m, p, x, X, h, hN, he, h6, hm, h2, h7, hX => by
    obtain ⟨m, rfl⟩ : ∃ q, m = q + 1 := ⟨m - 1, by omega⟩
    refine ⟨x, X, ?_, h7, hX, fun _ _ _ => rfl, fun _ _ => rfl⟩
    have z := he x
    show kx_clks b N (m + 1) c (tq_tk b N (p + (clksT c 0).length) x) X A = _
    unfold kx_clks
    rw [z, if_neg (by decide), if_neg (by omega)]
  | k + 1, c, m, p, x, X, h, hN, he, h6, hm, h2, h7, hX => by
    obtain ⟨m, rfl⟩ : ∃ q, m = q + 1 := ⟨m - 1, by omega⟩
    have hlen : (clksT c (k + 1)).length = 9 + (clksT (c + 1) k).length := by
      show (clkT c ++ clksT (c + 1) k).length = _
      rw [List.length_append]; rfl
    obtain ⟨h1, hr⟩ := (AtL_app (clkT c) p (clksT (c + 1) k)).mp h
    obtain ⟨hw, hn⟩ := (AtL_app wClk p _).mp h1
    have hr : AtL b (p + 9) (clksT (c + 1) k) := hr
    have hn : AtL b (p + 5) [32, 99, 97 + c, 59] := hn
    rw [hlen] at hN he ⊢
    have hfr := fr_0 (b := b) (N := N) (p := p) hw.1 (by omega) (by omega) (by omega)
    have tk := tk_w (v := x) (m := 5) (y := 32) hfr ((AtL_app wClk p [32]).mpr ⟨hw, ⟨hn.1, trivial⟩⟩) rfl (by omega) (by omega) (by decide) (by omega) (by omega)
    have is1 : tq_isw b (1, p, p + 5, x) 1 = true := isw_of (b := b) (v := x) (j := 1) hw rfl rfl
    have tn := tk_nm (N := N) (v := x) hn (by omega) (by omega) (by omega)
    have b6 : b (p + 5 + 1) = nI 99 := hn.2.1
    have b7 : b (p + 5 + 1 + 1) = nI (97 + c) := hn.2.2.1
    have b8 : b (p + 8) = nI 59 := hn.2.2.2.1
    have ts := tk_s (v := x) (N := N) b8 (by omega)
    have hf := find_no (b := b) (fr := p + 5 + 1) hX (by omega) b7 c 0 (by omega)
    have X7 : s_clk X b c (p + 6) 2 7 = nI (c + 1) := upd_same _ _ _
    have far : ∀ j, j ≠ 7 → (j < 22 + c * 7 ∨ 22 + c * 7 + 3 ≤ j) → s_clk X b c (p + 6) 2 j = X j := fun j h1 h2 => by
      unfold s_clk
      rw [upd_ne _ _ h1, upd_ne _ _ (by omega), nm_far 2 (by omega)]
    have hNM : NM (s_clk X b c (p + 6) 2) (c + 1) := fun a ha => by
      by_cases e : a = c
      · subst e
        refine ⟨?_, ?_, ?_⟩
        · unfold s_clk
          rw [upd_ne _ _ (by omega), upd_same]
        · unfold s_clk
          rw [upd_ne _ _ (by omega), upd_ne _ _ (by omega)]
          exact (nm_at (i := 0) 2 (by omega)).trans b6
        · unfold s_clk
          rw [upd_ne _ _ (by omega), upd_ne _ _ (by omega)]
          exact (nm_at (i := 1) 2 (by omega)).trans b7
      · have z := hX a (by omega)
        exact ⟨by rw [far _ (by omega) (by omega)]; exact z.1, by rw [far _ (by omega) (by omega)]; exact z.2.1, by rw [far _ (by omega) (by omega)]; exact z.2.2⟩
    obtain ⟨x', X', ih, i7, iN, i1, i2⟩ := clks_run (A := A) k (c + 1) m (p + 9) x (s_clk X b c (p + 6) 2) hr (by omega) (fun y => by rw [show p + 9 + (clksT (c + 1) k).length = p + (9 + (clksT (c + 1) k).length) by omega]; exact he y) (by omega) (by omega) (by omega) X7 hNM
    refine ⟨x', X', ?_, by rw [i7, show c + 1 + k = c + (k + 1) by omega], by rw [show c + (k + 1) = c + 1 + k by omega]; exact iN, fun j h1 h2 => (i1 j h1 h2).trans (far j h2 (by omega)), fun j h1 => (i2 j h1).trans (far j (by omega) (by omega))⟩
    unfold kx_clks
    have n1 : tq_nx b N (1, p, p + 5, x) = (1, p + 6, p + 8, x) := tn
    have n2 : tq_nx b N (1, p + 6, p + 8, x) = (3, p + 8, p + 9, x) := ts
    have n3 : tq_nx b N (3, p + 8, p + 9, x) = tq_tk b N (p + 9) x := rfl
    have sh : tq_short (1, p + 6, p + 8, x) = 0 := by
      unfold tq_short
      rw [if_pos rfl, if_pos (by show p + 8 - (p + 6) ≤ 6; omega)]
    have ln : tq_ln (1, p + 6, p + 8, x) = 2 := by unfold tq_ln; show p + 8 - (p + 6) = 2; omega
    rw [tk, if_pos is1, if_neg (by omega), n1, if_pos sh, ln]
    show (if tq_find X b (p + 6) 2 0 c = -1 then _ else _) = _
    rw [if_pos hf, n2, if_pos rfl, n3, ih, show p + 9 + (clksT (c + 1) k).length = p + (9 + (clksT (c + 1) k).length) by omega]
/-- a letter of the text that can be read -/
def ltOK (c : Nat) (q : Nat × List Nat) : Prop := q.1 < c ∧ q.2.length = 4 ∧ ∀ j, j < 4 → q.2.getD j 0 < 100 ∧ s_in (nI (q.2.getD j 0)) (zS5 2 j) (zS5 3 j) = true
theorem lets_run {c : Nat} (hc : c ≤ 6) : ∀ (qs : List (Nat × List Nat)) (n m p : Nat) (x : Int32) (L X : zBk) (A : Nat → Int32), AtL b p (letsT qs) → p + (letsT qs).length = N → (∀ q ∈ qs, ltOK c q) → n + qs.length ≤ 12 → qs.length + 1 ≤ m → oR L X (-1) n c 0 → inv L n 0 → NM X c →
    ∃ L', (kx_lets b N c m n (tq_tk b N p x) X A).1 = 0 ∧ oR L' (kx_lets b N c m n (tq_tk b N p x) X A).2.2.1 (-1) (n + qs.length) c 0 ∧ inv L' (n + qs.length) 0 ∧ (∀ j, j < 64 → j ≠ 8 → L' j = L j) ∧ ∀ l f, n + qs.length ≤ l → f < 8 → s_of L' l f = s_of L l f
  | [], n, m, p, x, L, X, A, h, hN, hq, h12, hm, hO, hi, hX => by
    obtain ⟨m, rfl⟩ : ∃ q, m = q + 1 := ⟨m - 1, by omega⟩
    have e : p = N := hN
    subst e
    have k : kx_lets b p c (m + 1) n (tq_tk b p p x) X A = (0, (0, p, p, x), X, A) := by
      unfold kx_lets
      rw [tk_e, if_pos rfl]
    exact ⟨L, by rw [k], by rw [k]; exact hO, hi, fun _ _ _ => rfl, fun _ _ _ _ => rfl⟩
  | q :: qs, n, m, p, x, L, X, A, h, hN, hq, h12, hm, hO, hi, hX => by
    obtain ⟨m, rfl⟩ : ∃ q, m = q + 1 := ⟨m - 1, by omega⟩
    obtain ⟨a, vs⟩ := q
    obtain ⟨ha, h4, hv⟩ := hq (a, vs) List.mem_cons_self
    have ha : a < c := ha
    have h4 : vs.length = 4 := h4
    have hlen : (letsT ((a, vs) :: qs)).length = 10 + (spns vs).length + (letsT qs).length := by
      show (letT (a, vs) ++ letsT qs).length = _
      unfold letT
      simp [wLet]
      omega
    have hqs : ((a, vs) :: qs).length = qs.length + 1 := rfl
    rw [hqs] at h12 hm ⊢
    rw [hlen] at hN
    obtain ⟨h1, hr⟩ := (AtL_app (letT (a, vs)) p (letsT qs)).mp h
    obtain ⟨hw, h2⟩ := (AtL_app wLet p _).mp h1
    obtain ⟨hn, h3⟩ := (AtL_app [32, 99, 97 + a] (p + 6) _).mp h2
    have h3 : AtL b (p + 9) (spns vs ++ [59]) := h3
    have hr : AtL b (p + (10 + (spns vs).length)) (letsT qs) := by
      have z := hr
      have e : (letT (a, vs)).length = 10 + (spns vs).length := by
        unfold letT
        simp [wLet]
        omega
      rw [e] at z; exact z
    have h32 : b (p + 9) = nI 32 := by
      cases vs with
      | nil => simp at h4
      | cons u us => exact h3.1
    have hfr := fr_0 (b := b) (N := N) (p := p) hw.1 (by omega) (by omega) (by omega)
    have tk := tk_w (v := x) (m := 6) (y := 32) hfr ((AtL_app wLet p [32]).mpr ⟨hw, ⟨hn.1, trivial⟩⟩) rfl (by omega) (by omega) (by decide) (by omega) (by omega)
    have is2 : tq_isw b (1, p, p + 6, x) 2 = true := isw_of (b := b) (v := x) (j := 2) hw rfl rfl
    have tn := tk_nm (N := N) (v := x) (p := p + 6) (a := a) (y := 32) ⟨hn.1, hn.2.1, hn.2.2.1, h32, trivial⟩ (by omega) (by omega) (by omega)
    have b7 : b (p + 7) = nI 99 := hn.2.1
    have b8 : b (p + 7 + 1) = nI (97 + a) := hn.2.2.1
    have hf := find_at (b := b) (fr := p + 7) hX hc ha b7 b8 c 0 (by omega) (by omega)
    obtain ⟨x', hnum⟩ := nums_run (N := N) (lo := zS5 2) (hi := zS5 3) vs 0 (p + 9) x A h3 (by omega) (fun j hj => by rw [Nat.zero_add]; exact hv j (by omega))
    rw [h4] at hnum
    have n1 : tq_nx b N (1, p, p + 6, x) = (1, p + 7, p + 9, x) := tn
    have n2 : tq_nx b N (1, p + 7, p + 9, x) = tq_tk b N (p + 9) x := rfl
    have sh : tq_short (1, p + 7, p + 9, x) = 0 := by
      unfold tq_short
      rw [if_pos rfl, if_pos (by show p + 9 - (p + 7) ≤ 6; omega)]
    have hclk : tq_clk X b N c (1, p + 7, p + 9, x) = (nI a, 0, tq_tk b N (p + 9) x) := by
      unfold tq_clk
      show (if tq_short (1, p + 7, p + 9, x) = 0 then (if tq_find X b (p + 7) (p + 9 - (p + 7)) 0 c = -1 then _ else _) else _) = _
      rw [if_pos sh, show p + 9 - (p + 7) = 2 by omega, hf, if_neg (by
        intro e
        have z := congrArg Int32.toInt e
        rw [nI_toInt (by omega)] at z
        have : ((-1 : Int32)).toInt = -1 := by decide
        omega), n2]
    have e0 : aput A 0 vs 0 = nI (vs.getD 0 0) := aput_at vs A 0 0 (by omega)
    have e1 : aput A 0 vs 1 = nI (vs.getD 1 0) := aput_at vs A 0 1 (by omega)
    have e2 : aput A 0 vs 2 = nI (vs.getD 2 0) := aput_at vs A 0 2 (by omega)
    have e3 : aput A 0 vs 3 = nI (vs.getD 3 0) := aput_at vs A 0 3 (by omega)
    have hl1 : kx_let1 b N X A n (tq_clk X b N c (tq_nx b N (1, p, p + 6, x))) = (0, tq_tk b N (p + (10 + (spns vs).length)) x', s_add X n (nI a) (nI (vs.getD 0 0)) (nI (vs.getD 1 0)) (nI (vs.getD 2 0)) (nI (vs.getD 3 0)), aput A 0 vs) := by
      rw [n1, hclk]
      unfold kx_let1
      rw [if_neg (by
        show ¬ nI a = -1
        intro e
        have z := congrArg Int32.toInt e
        rw [nI_toInt (by omega)] at z
        have : ((-1 : Int32)).toInt = -1 := by decide
        omega)]
      show kx_let2 b N X (nI a) n (tq_nums b N (zS5 2) (zS5 3) 4 0 (tq_tk b N (p + 9) x) A) = _
      rw [hnum]
      unfold kx_let2
      rw [if_pos rfl, if_pos rfl]
      show (0, tq_tk b N (p + 9 + (spns vs).length + 1) x', s_add X n (nI a) (aput A 0 vs 0) (aput A 0 vs 1) (aput A 0 vs 2) (aput A 0 vs 3), aput A 0 vs) = _
      rw [e0, e1, e2, e3, show p + 9 + (spns vs).length + 1 = p + (10 + (spns vs).length) by omega]
    have kx : kx_lets b N c (m + 1) n (tq_tk b N p x) X A = kx_lets b N c m (n + 1) (tq_tk b N (p + (10 + (spns vs).length)) x') (s_add X n (nI a) (nI (vs.getD 0 0)) (nI (vs.getD 1 0)) (nI (vs.getD 2 0)) (nI (vs.getD 3 0))) (aput A 0 vs) := by
      rw [kx_lets, tk, if_neg (show ¬ (1 : Nat) = 0 by decide), if_pos is2, if_neg (by omega), hl1, if_pos rfl]
    have v0 : s_in (nI (vs.getD 0 0)) 1 30 = true := (hv 0 (by omega)).2
    have v2 : s_in (nI (vs.getD 2 0)) 1 999 = true := (hv 2 (by omega)).2
    have v3 : s_in (nI (vs.getD 3 0)) 0 9 = true := (hv 3 (by omega)).2
    have w1 : vs.getD 1 0 < 100 := (hv 1 (by omega)).1
    have w3 : vs.getD 3 0 < 100 := (hv 3 (by omega)).1
    have v3' : vs.getD 3 0 ≤ 9 := by
      unfold s_in at v3
      rw [Bool.and_eq_true] at v3
      have z := of_decide_eq_true v3.2
      have z := (nI_leI (a := vs.getD 3 0) (b := 9) (by omega) (by omega)).mp z
      exact z
    have hO' := oR_add (x3 := nI (vs.getD 1 0)) (x5 := nI (vs.getD 3 0)) hO (by omega) ha rfl v0 v2
    have hi' : inv (s_add L n (nI a) (nI (vs.getD 0 0)) (nI (vs.getD 1 0)) (nI (vs.getD 2 0)) (nI (vs.getD 3 0))) (n + 1) 0 := inv_add hi (Nat.le_trans (Nat.le_of_lt w1) (by omega)) v3'
    have hX' : NM (s_add X n (nI a) (nI (vs.getD 0 0)) (nI (vs.getD 1 0)) (nI (vs.getD 2 0)) (nI (vs.getD 3 0))) c := fun i hi => by
      rw [add_lo (by omega) (by omega), add_lo (by omega) (by omega), add_lo (by omega) (by omega)]
      exact hX i hi
    obtain ⟨L', g1, g2, g3, g4, g5⟩ := lets_run hc qs (n + 1) m (p + (10 + (spns vs).length)) x' _ _ (aput A 0 vs) hr (by omega) (fun q hq' => hq q (List.mem_cons_of_mem _ hq')) (by omega) (by omega) hO' hi' hX'
    rw [kx]
    refine ⟨L', g1, by rw [show n + (qs.length + 1) = n + 1 + qs.length by omega]; exact g2, by rw [show n + (qs.length + 1) = n + 1 + qs.length by omega]; exact g3, fun j hj h8 => (g4 j hj h8).trans (add_lo hj h8), fun l f hl hf => (g5 l f (by omega) hf).trans (add_of hf (by omega))⟩
end PA2
