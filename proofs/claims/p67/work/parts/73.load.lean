/-! THE LAW'S TEXT IS LOADED -/
theorem up_at {I : zM} {q k : Nat} {x : Int32} : up I q k x q k = x := by rw [up_def, ups_same, upd_same]
theorem up_at2 {I : zM} {q k j : Nat} {x : Int32} (h : j ≠ k) : up I q k x q j = I q j := by rw [up_def, ups_same, upd_ne _ _ h]
theorem up_far {I : zM} {q r k : Nat} {x : Int32} (h : r ≠ q) : up I q k x r = I r := ups_ne I _ h
theorem ups_far {I : zM} {q r : Nat} {f : Nat → Int32} (h : r ≠ q) : ups I q f r = I r := ups_ne I f h
theorem beg_at {X : zBk} {j : Nat} (h1 : 8 ≤ j) (h : j < 22) : s_beg X j = if j = 11 then -1 else if j = 10 then -1 else if j = 13 then X 2 else 0 := by
  unfold s_beg
  rcases (show j = 8 ∨ j = 9 ∨ j = 10 ∨ j = 11 ∨ j = 12 ∨ j = 13 ∨ j = 14 ∨ j = 15 ∨ j = 16 ∨ j = 17 ∨ j = 18 ∨ j = 19 ∨ j = 20 ∨ j = 21 by omega) with rfl | rfl | rfl | rfl | rfl | rfl | rfl | rfl | rfl | rfl | rfl | rfl | rfl | rfl <;> simp [upd]
theorem in_le {x lo hi : Int32} (h : s_in x lo hi = true) : lo ≤ x ∧ x ≤ hi := by
  unfold s_in at h
  rw [Bool.and_eq_true] at h
  exact ⟨of_decide_eq_true h.1, of_decide_eq_true h.2⟩
theorem sets_at {X : zBk} {A : Nat → Int32} {i : Nat} (h : i < 7) : s_sets X A i = A i := by
  unfold s_sets
  rcases (show i = 0 ∨ i = 1 ∨ i = 2 ∨ i = 3 ∨ i = 4 ∨ i = 5 ∨ i = 6 by omega) with rfl | rfl | rfl | rfl | rfl | rfl | rfl <;> simp [upd]
theorem sets_hi {X : zBk} {A : Nat → Int32} {i : Nat} (h : 7 ≤ i) : s_sets X A i = X i := by
  unfold s_sets
  rw [upd_ne _ _ (by omega), upd_ne _ _ (by omega), upd_ne _ _ (by omega), upd_ne _ _ (by omega), upd_ne _ _ (by omega), upd_ne _ _ (by omega), upd_ne _ _ (by omega)]
/-- the whole text: settings, clerks, letters -/
def txt (vs : List Nat) (c : Nat) (qs : List (Nat × List Nat)) : List Nat := hdT vs ++ (clksT 0 c ++ letsT qs)
def stOK (vs : List Nat) : Prop := vs.length = 7 ∧ ∀ j, j < 7 → vs.getD j 0 < 100 ∧ s_in (nI (vs.getD j 0)) (zS5 0 j) (zS5 1 j) = true
section LDT
variable {G : zG} {w : Nat × Nat} {gl : Launch} {I J M : zM} {b : zBk} {N n c t a m s : Nat} {v : Int32}
/-- the text is a setup, and the law's block of it -/
theorem txt_run {vs : List Nat} {qs : List (Nat × List Nat)} {X : zBk} {A : Nat → Int32} (h : AtL b 0 (txt vs c qs)) (hN : N = (txt vs c qs).length) (hN6 : N ≤ 600) (hv : stOK vs) (h1 : 1 ≤ vs.getD 2 0) (hc2 : 2 ≤ c) (hc : c ≤ 6) (hq : ∀ q ∈ qs, ltOK c q) (hn : qs.length ≤ 12) (hbt : ∀ j, j < N → bt (b j)) (hK : nmK X) :
    (kx_two b N (tq_tk b N 0 v) X A).1 = 0 ∧ (kx_setup b N (tq_tk b N 0 v) X A).1 = 0 ∧ ∃ L, oR L (kx_setup b N (tq_tk b N 0 v) X A).2.2.1 (-1) qs.length c 0 ∧ inv L qs.length 0 ∧ (∀ i, i < 7 → L i = nI (vs.getD i 0)) ∧ L 11 = -1 ∧ L 12 = 0 ∧ ∀ l f, qs.length ≤ l → l < 12 → f < 8 → s_of L l f = 0 := by
  have two := two_ok (A := A) hN6 hbt (tk_ok (v := v) (Nat.zero_le N)) hK
  have hlen : (txt vs c qs).length = (hdT vs).length + ((clksT 0 c).length + (letsT qs).length) := by
    unfold txt
    rw [List.length_append, List.length_append]
  obtain ⟨x1, e1⟩ := set_run (N := N) (X := X) (A := A) (v := v) h hv.1 (by omega) hv.2
  obtain ⟨-, h2⟩ := (AtL_app _ _ _).mp h
  obtain ⟨h3, h4⟩ := (AtL_app _ _ _).mp h2
  rw [Nat.zero_add] at h3 h4
  -- behind the clerks stands a letter or the end
  have hend : ∀ x, tq_isw b (tq_tk b N ((hdT vs).length + (clksT 0 c).length) x) 1 = false := fun x => by
    cases qs with
    | nil =>
      have e : (hdT vs).length + (clksT 0 c).length = N := by rw [hN, hlen]; rfl
      rw [e, tk_e]
      exact isw_no (Or.inr (show (0 : Nat) ≠ 1 by decide))
    | cons q qs =>
      have hl : (letsT (q :: qs)).length = (letT q).length + (letsT qs).length := List.length_append
      have hl2 : (letT q).length ≥ 9 := by
        unfold letT
        simp [wLet]
      obtain ⟨g1, -⟩ := (AtL_app (letT q) _ (letsT qs)).mp h4
      obtain ⟨g2, g3⟩ := (AtL_app wLet _ _).mp g1
      have hfr := fr_0 (b := b) (N := N) g2.1 (by omega) (by omega) (by omega)
      have tk := tk_w (v := x) (m := 6) (y := 32) hfr ((AtL_app wLet _ [32]).mpr ⟨g2, ⟨g3.1, trivial⟩⟩) rfl (by omega) (by omega) (by decide) (by omega) (by omega)
      rw [tk]
      exact isw_no (Or.inl (by
        show (hdT vs).length + (clksT 0 c).length + 6 - ((hdT vs).length + (clksT 0 c).length) ≠ 5
        omega))
  obtain ⟨x2, X2, e2, i7, iN, i1, i2⟩ := clks_run (b := b) (N := N) (A := aput A 0 vs) c 0 7 (hdT vs).length x1 (upd (s_sets X (aput A 0 vs)) 7 0) h3 (by omega) hend (by omega) (by omega) (by omega) (upd_same _ _ _) (fun a ha => absurd ha (Nat.not_lt_zero a))
  rw [Nat.zero_add] at i7 iN
  have ek : kx_two b N (tq_tk b N 0 v) X A = (0, tq_tk b N ((hdT vs).length + (clksT 0 c).length) x2, X2, aput A 0 vs) := by
    unfold kx_two
    rw [e1, if_pos rfl]
    exact e2
  have nK2 : nmK X2 := by
    have z := two.1
    rw [ek] at z
    exact z
  have xs : ∀ j, j < 7 → X2 j = nI (vs.getD j 0) := fun j hj => by
    rw [i1 j (by omega) (by omega), upd_ne _ _ (by omega), sets_at hj]
    have z := aput_at vs A 0 j (by rw [hv.1]; exact hj)
    rw [Nat.zero_add] at z
    exact z
  have rg : ∀ j, j < 7 → zS5 0 j ≤ X2 j ∧ X2 j ≤ zS5 1 j := fun j hj => by
    rw [xs j hj]
    exact in_le (hv.2 j hj).2
  -- the law's block: no letters yet
  let L0 : zBk := fun k => if k < 64 then s_beg X2 k else 0
  have L0lo : ∀ k, k < 64 → L0 k = s_beg X2 k := fun k hk => if_pos hk
  have L0of : ∀ l f, s_of L0 l f = 0 := fun l f => if_neg (by omega)
  have L0s : ∀ j, j < 8 → L0 j = X2 j := fun j hj => (L0lo j (by omega)).trans (beg_lo hj)
  have L0b : ∀ j, 8 ≤ j → j < 22 → L0 j = if j = 11 then -1 else if j = 10 then -1 else if j = 13 then X2 2 else 0 := fun j h8 h22 => (L0lo j (by omega)).trans (beg_at h8 h22)
  have L0z : ∀ j, 14 ≤ j → j < 22 → L0 j = 0 := fun j h1 h2 => by rw [L0b j (by omega) h2, if_neg (by omega), if_neg (by omega), if_neg (by omega)]
  have e11 : L0 11 = -1 := L0b 11 (by omega) (by omega)
  have i0 : 0 ≤ X2 0 ∧ X2 0 ≤ 4 := rg 0 (by omega)
  obtain ⟨pl, hpl, epl⟩ := i_of (M := 4) (n := 4) (by decide) i0.1 i0.2
  have wf : s_wf L0 0 c 0 := ⟨L0b 8 (by omega) (by omega), by omega, (L0s 7 (by omega)).trans i7, hc2, hc, Or.inl e11, by rw [L0s 5 (by omega)]; exact rg 5 (by omega), by rw [L0s 6 (by omega)]; exact rg 6 (by omega), ⟨pl, by omega, by rw [L0s 0 (by omega)]; exact epl⟩, fun l hl => absurd hl (Nat.not_lt_zero l), L0b 9 (by omega) (by omega), by omega⟩
  have nmz : nmZ L0 c := ⟨hc, fun a ha => ⟨2, by omega, by rw [L0lo _ (by omega), beg_hi (by omega)]; exact (iN a ha).1, fun k hk => by
    have : k = 0 ∨ k = 1 := by omega
    rcases this with rfl | rfl
    · rw [L0lo _ (by omega), beg_hi (by omega), (iN a ha).2.1]; decide
    · rw [L0lo _ (by omega), beg_hi (by omega), show 22 + a * 7 + 1 + 1 = 22 + a * 7 + 2 from rfl, (iN a ha).2.2, sm_of (by omega)]
      exact decide_eq_true (by omega)⟩⟩
  have hO : oR L0 (s_beg X2) (-1) 0 c 0 := by
    refine ⟨wf, by omega, ⟨?_, ?_, ?_, ?_⟩, ⟨⟨0, by omega, L0b 18 (by omega) (by omega)⟩, fun l hl => absurd hl (Nat.not_lt_zero l)⟩, nmz, ⟨fun k hk => (L0lo k (by omega)).symm, fun l hl => absurd hl (Nat.not_lt_zero l)⟩, fun a ha => ⟨(L0lo _ (by omega)).symm, fun k hk => (L0lo _ ?_).symm⟩, ?_, nmK_beg nK2⟩
    · rw [L0s 1 (by omega)]; exact (rg 1 (by omega)).1
    · rw [L0s 3 (by omega)]; exact (rg 3 (by omega)).1
    · rw [L0z 14 (by omega) (by omega)]; decide
    · rw [L0z 15 (by omega) (by omega)]; decide
    · rw [L0lo _ (by omega), beg_hi (by omega), (iN a ha).1] at hk
      rw [nI_clamp (by omega)] at hk
      omega
    · unfold s_cur
      rw [if_pos e11]
  have hinv : inv L0 0 0 := by
    refine ⟨⟨?_, fun _ => ?_⟩, ?_, fun l hl => absurd hl (Nat.not_lt_zero l), fun l _ _ => L0of l 7⟩
    · exact ⟨vs.getD 2 0, h1, by have := (hv.2 2 (by omega)).1; omega, by rw [L0s 2 (by omega)]; exact xs 2 (by omega)⟩
    · exact ⟨vs.getD 2 0, h1, by have := (hv.2 2 (by omega)).1; omega, (L0b 13 (by omega) (by omega)).trans (xs 2 (by omega))⟩
    · unfold i_sum
      rw [show L0 9 = 0 from L0b 9 (by omega) (by omega), L0z 18 (by omega) (by omega), L0z 19 (by omega) (by omega), L0z 20 (by omega) (by omega), L0z 21 (by omega) (by omega)]
      decide
  have hNM : NM (s_beg X2) c := fun a ha => by
    rw [beg_hi (by omega), beg_hi (by omega), beg_hi (by omega)]
    exact iN a ha
  obtain ⟨L', g1, g2, g3, g4, g5⟩ := lets_run (b := b) (N := N) hc qs 0 13 ((hdT vs).length + (clksT 0 c).length) x2 L0 (s_beg X2) (aput A 0 vs) h4 (by omega) hq (by omega) (by omega) hO hinv hNM
  rw [Nat.zero_add] at g2 g3 g5
  have es : kx_setup b N (tq_tk b N 0 v) X A = kx_lets b N c 13 0 (tq_tk b N ((hdT vs).length + (clksT 0 c).length) x2) (s_beg X2) (aput A 0 vs) := by
    unfold kx_setup
    rw [ek, if_pos rfl]
    show kx_lets b N (X2 7).toNatClampNeg 13 0 (tq_tk b N ((hdT vs).length + (clksT 0 c).length) x2) (s_beg X2) (aput A 0 vs) = _
    rw [i7, nI_clamp (by omega)]
  refine ⟨by rw [ek], by rw [es]; exact g1, L', by rw [es]; exact g2, g3, fun i hi => ?_, ?_, ?_, fun l f h1 h2 h3 => (g5 l f h1 h3).trans (L0of l f)⟩
  · rw [g4 i (by omega) (by omega), L0s i (by omega)]; exact xs i hi
  · rw [g4 11 (by omega) (by omega)]; exact e11
  · rw [g4 12 (by omega) (by omega)]; exact L0b 12 (by omega) (by omega)
end LDT
