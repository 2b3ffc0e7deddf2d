/-! A SETUP TEXT ON BOTH SIDES -/
def rp_rngs (b : zBk) (N o : Nat) (lo hi : Nat → Int32) : Nat → Nat → zTk → zBk → zRs
  | 0, _, t, B => (0, t, B)
  | k + 1, i, t, B => rbind (rp_rng b N t B (o + i) (lo i) (hi i)) (fun t B => rp_rngs b N o lo hi k (i + 1) t B)
theorem rb_as {r : zRs} {f g : zTk → zBk → zRs} : rbind (rbind r f) g = rbind r (fun t B => rbind (f t B) g) := by
  by_cases h : r.1 = 0
  · rw [rb0 h, rb0 h]
  · rw [rb1 (f := f) h, rb1 (f := g) h, rb1 h]
theorem rb_00 {t : zTk} {B : zBk} {f : zTk → zBk → zRs} : rbind (0, t, B) f = f t B := rfl
theorem rbc {c : Nat} {t : zTk} {B : zBk} {f : zTk → zBk → zRs} (h : c ≠ 0) : rbind (c, t, B) f = (c, t, B) := rb1 h
theorem pr_ne {α : Type} {c : Nat} {x : α} (h : c ≠ 0) : ¬ (c, x).1 = 0 := h
theorem set_rngs {b : zBk} {N : Nat} {t : zTk} {B : zBk} : rp_set b N t B = rbind (rp_rngs b N 0 (zS5 0) (zS5 1) 7 0 t B) (fun t B => rp_semi b N t B) := by
  unfold rp_set
  simp only [rp_rngs, rb_as, rb_00]
  rfl
section LDB
variable {b b' : zBk} {N c : Nat}
theorem nums_far {lo hi : Nat → Int32} : ∀ k i (t : zTk) (A : Nat → Int32) (j : Nat), j < i → (tq_nums b N lo hi k i t A).2.2 j = A j
  | 0, _, _, _, _, _ => rfl
  | k + 1, i, t, A, j, h => by
    unfold tq_nums
    split
    · split
      · rw [nums_far k (i + 1) _ _ j (by omega), upd_ne _ _ (by omega)]
      · exact upd_ne _ _ (by omega)
    · rfl
theorem rngs_nums {lo hi : Nat → Int32} {o : Nat} (hb : bR b b' N) : ∀ k i (t : zTk) (B : zBk) (A : Nat → Int32), tOK b N t →
    (tq_nums b' N lo hi k i t A).1 = (rp_rngs b N o lo hi k i t B).1 ∧ (tq_nums b' N lo hi k i t A).2.1 = (rp_rngs b N o lo hi k i t B).2.1 ∧ ((rp_rngs b N o lo hi k i t B).1 = 0 → ∀ x, x < k → (rp_rngs b N o lo hi k i t B).2.2 (o + i + x) = (tq_nums b' N lo hi k i t A).2.2 (i + x) ∧ s_in ((tq_nums b' N lo hi k i t A).2.2 (i + x)) (lo (i + x)) (hi (i + x)) = true) ∧ tOK b N (rp_rngs b N o lo hi k i t B).2.1 ∧ ∀ j, (j < o + i ∨ o + i + k ≤ j) → (rp_rngs b N o lo hi k i t B).2.2 j = B j
  | 0, _, _, _, _, h => ⟨rfl, rfl, fun _ x hx => absurd hx (Nat.not_lt_zero x), h, fun _ _ => rfl⟩
  | k + 1, i, t, B, A, h => by
    unfold tq_nums rp_rngs rp_rng
    by_cases h2 : t.1 = 2
    · rw [if_pos h2, if_pos h2]
      by_cases h3 : s_in t.2.2.2 (lo i) (hi i) = true
      · rw [if_pos h3, if_pos h3, bR_nx hb h, rb_00]
        obtain ⟨a1, a2, a3, a4, a5⟩ := rngs_nums hb k (i + 1) (tq_nx b N t) (upd B (o + i) t.2.2.2) (upd A i t.2.2.2) (kT_nx h)
        refine ⟨a1, a2, fun h0 x hx => ?_, a4, fun j hj => by rw [a5 j (by omega), upd_ne _ _ (by omega)]⟩
        cases x with
        | zero =>
          rw [show o + i + 0 = o + i from rfl, show i + 0 = i from rfl, nums_far k (i + 1) _ _ i (by omega), upd_same, a5 (o + i) (by omega), upd_same]
          exact ⟨rfl, h3⟩
        | succ x =>
          have z := a3 h0 x (by omega)
          rw [show i + (x + 1) = i + 1 + x by omega, show o + i + (x + 1) = o + (i + 1) + x by omega]
          exact z
      · rw [if_neg h3, if_neg h3, rbc (by decide)]
        exact ⟨rfl, rfl, fun h0 => absurd (show (2 : Nat) = 0 from h0) (by decide), h, fun _ _ => rfl⟩
    · rw [if_neg h2, if_neg h2, rbc (by decide)]
      exact ⟨rfl, rfl, fun h0 => absurd (show (1 : Nat) = 0 from h0) (by decide), h, fun _ _ => rfl⟩
theorem sets_at {X : zBk} {A : Nat → Int32} {i : Nat} (h : i < 7) : s_sets X A i = A i := by
  unfold s_sets
  rcases (show i = 0 ∨ i = 1 ∨ i = 2 ∨ i = 3 ∨ i = 4 ∨ i = 5 ∨ i = 6 by omega) with rfl | rfl | rfl | rfl | rfl | rfl | rfl <;> simp [upd]
theorem sets_hi {X : zBk} {A : Nat → Int32} {i : Nat} (h : 7 ≤ i) : s_sets X A i = X i := by
  unfold s_sets
  rw [upd_ne _ _ (by omega), upd_ne _ _ (by omega), upd_ne _ _ (by omega), upd_ne _ _ (by omega), upd_ne _ _ (by omega), upd_ne _ _ (by omega), upd_ne _ _ (by omega)]
/-- the first sentence of a setup, in both -/
theorem set_both (hb : bR b b' N) {t : zTk} {B X : zBk} {A : Nat → Int32} (hok : tOK b N t) {r : zRs} {q : zKs} (hr : r = rp_set b N t B) (hq : q = kx_set2 b' N X (tq_nums b' N (zS5 0) (zS5 1) 7 0 t A)) :
    q.1 = r.1 ∧ q.2.1 = r.2.1 ∧ (r.1 = 0 → tOK b N r.2.1 ∧ (∀ i, i < 7 → r.2.2 i = q.2.2.1 i ∧ s_in (r.2.2 i) (zS5 0 i) (zS5 1 i) = true) ∧ (∀ j, 7 ≤ j → r.2.2 j = B j) ∧ ∀ j, 7 ≤ j → q.2.2.1 j = X j) := by
  rw [set_rngs] at hr
  obtain ⟨a1, a2, a3, a4, a5⟩ := rngs_nums (o := 0) (lo := zS5 0) (hi := zS5 1) hb 7 0 t B A hok
  generalize rp_rngs b N 0 (zS5 0) (zS5 1) 7 0 t B = r1 at a1 a2 a3 a4 a5 hr
  generalize tq_nums b' N (zS5 0) (zS5 1) 7 0 t A = q1 at a1 a2 a3 hq
  unfold kx_set2 at hq
  rw [a1, a2, bR_nx hb a4] at hq
  by_cases h0 : r1.1 = 0
  · rw [if_pos h0] at hq
    rw [rb0 h0] at hr
    unfold rp_semi at hr
    by_cases h3 : r1.2.1.1 = 3
    · rw [if_pos h3] at hr hq
      subst hr; subst hq
      refine ⟨rfl, rfl, fun _ => ⟨kT_nx a4, fun i hi => ?_, fun j hj => a5 j (by omega), fun j hj => sets_hi hj⟩⟩
      obtain ⟨z1, z2⟩ := a3 h0 i hi
      simp only [Nat.zero_add] at z1 z2
      show r1.2.2 i = s_sets X q1.2.2 i ∧ s_in (r1.2.2 i) _ _ = true
      rw [sets_at hi, z1]
      exact ⟨rfl, z2⟩
    · rw [if_neg h3] at hr hq
      subst hr; subst hq
      exact ⟨rfl, rfl, fun h => absurd (show (1 : Nat) = 0 from h) (by decide)⟩
  · rw [if_neg h0] at hq
    rw [rb1 h0] at hr
    subst hr; subst hq
    exact ⟨rfl, rfl, fun h => absurd h h0⟩
/-- a name that is read lies in small letters -/
theorem nmZ_add {B C : zBk} {fr L : Nat} (hZ : nmZ B c) (hc : c < 6) (hL : L ≤ 6) (h1 : ∀ k, 22 ≤ k → k < 22 + c * 7 → C k = B k) (h2 : C (22 + c * 7) = nI L) (h3 : ∀ k, k < L → C (22 + c * 7 + 1 + k) = b (fr + k)) (hs : ∀ k, k < L → tq_sm (b (fr + k)) = true) : nmZ C (c + 1) := ⟨by omega, fun a ha => by
  by_cases e : a = c
  · subst e
    exact ⟨L, hL, h2, fun k hk => by rw [h3 k hk]; exact hs k hk⟩
  · obtain ⟨L', g1, g2, g3⟩ := hZ.2 a (by omega)
    exact ⟨L', g1, by rw [h1 _ (by omega) (by omega)]; exact g2, fun k hk => by rw [h1 _ (by omega) (by omega)]; exact g3 k hk⟩⟩
theorem nmE_add {B C B' C' : zBk} {fr L : Nat} (hZ : nmZ B c) (hE : nmE c B C) (hc : c < 6) (hL : L ≤ 6) (h1 : ∀ k, 22 ≤ k → k < 22 + c * 7 → B' k = B k) (h2 : B' (22 + c * 7) = nI L) (h3 : ∀ k, k < L → B' (22 + c * 7 + 1 + k) = b (fr + k)) (g1 : ∀ k, 22 ≤ k → k < 22 + c * 7 → C' k = C k) (g2 : C' (22 + c * 7) = nI L) (g3 : ∀ k, k < L → C' (22 + c * 7 + 1 + k) = b' (fr + k)) (he : ∀ k, k < L → b' (fr + k) = b (fr + k)) : nmE (c + 1) B' C' := fun a ha => by
  by_cases e : a = c
  · subst e
    refine ⟨g2.trans h2.symm, fun k hk => ?_⟩
    rw [h2, nI_clamp (by omega)] at hk
    rw [g3 k hk, h3 k hk, he k hk]
  · exact (hE.cg hZ.L h1 g1) a (by omega)
/-- the clerks of a setup, in both -/
theorem clks_both (hb : bR b b' N) (hN : N ≤ 600) : ∀ k c (t : zTk) (B X : zBk) (A : Nat → Int32), c + k = 7 → c ≤ 6 → tOK b N t → clOK B c → nmZ B c → nmE c B X → X 7 = nI c →
    ((kx_clks b' N k c t X A).1 ≠ 0 → (rp_clerks b N k c t B).1 = (kx_clks b' N k c t X A).1 ∧ (rp_clerks b N k c t B).2.1 = (kx_clks b' N k c t X A).2.1) ∧
    ((kx_clks b' N k c t X A).1 = 0 → ∃ (c' : Nat) (B' : zBk), 2 ≤ c' ∧ c' ≤ 6 ∧ rp_clerks b N k c t B = rp_letters b N c' 13 0 (kx_clks b' N k c t X A).2.1 B' ∧ tOK b N (kx_clks b' N k c t X A).2.1 ∧ clOK B' c' ∧ nmZ B' c' ∧ nmE c' B' (kx_clks b' N k c t X A).2.2.1 ∧ (kx_clks b' N k c t X A).2.2.1 7 = nI c' ∧ (∀ j, j < 22 → j ≠ 7 → B' j = B j) ∧ ∀ j, j < 22 → j ≠ 7 → (kx_clks b' N k c t X A).2.2.1 j = X j)
  | 0, c, t, B, X, A, h1, h2, _, _, _, _, _ => by omega
  | k + 1, c, t, B, X, A, h1, h2, hok, hc, hZ, hE, h7 => by
    unfold kx_clks rp_clerks
    rw [bR_isw hb hok, bR_nx hb hok]
    have okn := kT_nx hok
    rw [bR_nx hb okn, bR_nx hb (kT_nx okn)]
    by_cases w1 : tq_isw b t 1 = true
    · rw [if_pos w1, if_pos w1]
      unfold rp_clerk
      by_cases c6 : c = 6
      · rw [if_pos c6, if_pos c6, rbc (by decide)]
        exact ⟨fun _ => ⟨rfl, rfl⟩, fun h => absurd (show (4 : Nat) = 0 from h) (by decide)⟩
      rw [if_neg c6, if_neg c6]
      have g1 := okn.2.1
      have g2 := okn.2.2.1
      have hfd := find_both hb hZ hE (fr := (tq_nx b N t).2.1) (m := tq_ln (tq_nx b N t)) (by unfold tq_ln; omega) (by unfold tq_ln; omega)
      rw [hfd]
      by_cases hs : tq_short (tq_nx b N t) = 0
      · rw [if_pos hs, if_pos hs]
        by_cases hf : tq_find B b (tq_nx b N t).2.1 (tq_ln (tq_nx b N t)) 0 c = -1
        · rw [if_pos hf, if_pos hf]
          obtain ⟨s1, s2⟩ := short0 hs
          have okw := okn.2.2.2.1 s1
          have hsm : ∀ k, k < tq_ln (tq_nx b N t) → tq_sm (b ((tq_nx b N t).2.1 + k)) = true := fun k hk => okw.2 _ (by omega) (by unfold tq_ln at hk; omega)
          have hbe : ∀ k, k < tq_ln (tq_nx b N t) → b' ((tq_nx b N t).2.1 + k) = b ((tq_nx b N t).2.1 + k) := fun k hk => bR_smE hb (by unfold tq_ln at hk; omega) (hsm k hk)
          generalize tq_ln (tq_nx b N t) = L at s2 hsm hbe
          generalize (tq_nx b N t).2.1 = fr at hsm hbe
          have ok2 := kT_nx okn
          generalize tq_nx b N (tq_nx b N t) = t2 at ok2
          unfold rp_semi
          by_cases h3 : t2.1 = 3
          · rw [if_pos h3, if_pos h3, rb_00, rb_00]
            have k1 : ∀ j, (j < 22 + c * 7 ∨ 22 + c * 7 + 7 ≤ j) → j ≠ 7 → upd (s_nm (upd B (22 + c * 7) (nI L)) b c fr L) 7 (s_nm (upd B (22 + c * 7) (nI L)) b c fr L 7 + 1) j = B j := fun j hj h7 => by
              rw [upd_ne _ _ h7, nm_far L (by omega), upd_ne _ _ (by omega)]
            have k2 : upd (s_nm (upd B (22 + c * 7) (nI L)) b c fr L) 7 (s_nm (upd B (22 + c * 7) (nI L)) b c fr L 7 + 1) (22 + c * 7) = nI L := by
              rw [upd_ne _ _ (by omega), nm_far L (by omega), upd_same]
            have k3 : ∀ k, k < L → upd (s_nm (upd B (22 + c * 7) (nI L)) b c fr L) 7 (s_nm (upd B (22 + c * 7) (nI L)) b c fr L 7 + 1) (22 + c * 7 + 1 + k) = b (fr + k) := fun k hk => by
              rw [upd_ne _ _ (by omega), nm_at L hk]
            have k7 : upd (s_nm (upd B (22 + c * 7) (nI L)) b c fr L) 7 (s_nm (upd B (22 + c * 7) (nI L)) b c fr L 7 + 1) 7 = nI (c + 1) := by
              rw [upd_same, nm_far L (by omega), upd_ne _ _ (by omega), hc.1, nI_1]
            have x1 : ∀ j, (j < 22 + c * 7 ∨ 22 + c * 7 + 7 ≤ j) → j ≠ 7 → s_clk X b' c fr L j = X j := fun j hj h7 => by
              unfold s_clk
              rw [upd_ne _ _ h7, upd_ne _ _ (by omega), nm_far L (by omega)]
            have x2 : s_clk X b' c fr L (22 + c * 7) = nI L := by unfold s_clk; rw [upd_ne _ _ (by omega), upd_same]
            have x3 : ∀ k, k < L → s_clk X b' c fr L (22 + c * 7 + 1 + k) = b' (fr + k) := fun k hk => by
              unfold s_clk
              rw [upd_ne _ _ (by omega), upd_ne _ _ (by omega), nm_at L hk]
            have x7 : s_clk X b' c fr L 7 = nI (c + 1) := by unfold s_clk; rw [upd_same]
            generalize upd (s_nm (upd B (22 + c * 7) (nI L)) b c fr L) 7 (s_nm (upd B (22 + c * 7) (nI L)) b c fr L 7 + 1) = B2 at k1 k2 k3 k7
            generalize s_clk X b' c fr L = X2 at x1 x2 x3 x7
            have Z2 := nmZ_add (b := b) hZ (by omega) s2 (fun j a b => k1 j (by omega) (by omega)) k2 k3 hsm
            have E2 := nmE_add (b := b) (b' := b') hZ hE (by omega) s2 (fun j a b => k1 j (by omega) (by omega)) k2 k3 (fun j a b => x1 j (by omega) (by omega)) x2 x3 hbe
            obtain ⟨r1, r2⟩ := clks_both hb hN k (c + 1) (tq_nx b N t2) B2 X2 A (by omega) (by omega) (kT_nx ok2) ⟨k7, Z2.L⟩ Z2 E2 x7
            refine ⟨r1, fun h => ?_⟩
            obtain ⟨c', B', y1, y2, y3, y4, y5, y6, y7, y8, y9, y10⟩ := r2 h
            exact ⟨c', B', y1, y2, y3, y4, y5, y6, y7, y8, fun j a b => (y9 j a b).trans (k1 j (by omega) b), fun j a b => (y10 j a b).trans (x1 j (by omega) b)⟩
          · rw [if_neg h3, if_neg h3, rbc (c := 1) (by decide), rbc (c := 1) (by decide)]
            exact ⟨fun _ => ⟨rfl, rfl⟩, fun h => absurd (show (1 : Nat) = 0 from h) (by decide)⟩
        · rw [if_neg hf, if_neg hf, rbc (by decide)]
          exact ⟨fun _ => ⟨rfl, rfl⟩, fun h => absurd (show (3 : Nat) = 0 from h) (by decide)⟩
      · rw [if_neg hs, if_neg hs, rb1 hs]
        exact ⟨fun _ => ⟨rfl, rfl⟩, fun h => absurd (show tq_short _ = 0 from h) hs⟩
    · rw [if_neg w1, if_neg w1]
      by_cases c2 : c < 2
      · rw [if_pos c2, if_pos c2]
        exact ⟨fun _ => ⟨rfl, rfl⟩, fun h => absurd (show (1 : Nat) = 0 from h) (by decide)⟩
      · rw [if_neg c2, if_neg c2]
        exact ⟨fun h => absurd rfl h, fun _ => ⟨c, B, by omega, h2, rfl, hok, hc, hZ, hE, h7, fun _ _ _ => rfl, fun _ _ _ => rfl⟩⟩
/-- a letter's numbers in a row -/
theorem letter_rngs {n : Nat} {t : zTk} {B : zBk} {a : Int32} : (rbind (rp_rng b N t B (64 + n * 8 + 1) 1 30) fun t1 B1 => rbind (rp_rng b N t1 B1 (64 + n * 8 + 2) 0 999) fun t2 B2 => rbind (rp_rng b N t2 B2 (64 + n * 8 + 3) 1 999) fun t3 B3 => rbind (rp_rng b N t3 B3 (64 + n * 8 + 4) 0 9) fun t4 B4 => rbind (rp_semi b N t4 B4) fun t5 B5 => ((0, t5, s_add B5 n a (B5 (64 + n * 8 + 1)) (B5 (64 + n * 8 + 2)) (B5 (64 + n * 8 + 3)) (B5 (64 + n * 8 + 4))) : zRs)) =
    rbind (rp_rngs b N (64 + n * 8 + 1) (zS5 2) (zS5 3) 4 0 t B) fun t4 B4 => rbind (rp_semi b N t4 B4) fun t5 B5 => (0, t5, s_add B5 n a (B5 (64 + n * 8 + 1)) (B5 (64 + n * 8 + 2)) (B5 (64 + n * 8 + 3)) (B5 (64 + n * 8 + 4))) := by
  simp only [rp_rngs, rb_as, rb_00]
  rfl
theorem add_cg {B C : zBk} {n : Nat} {x1 x2 x3 x4 x5 : Int32} (h : ∀ j, (j < 64 + n * 8 ∨ 64 + n * 8 + 8 ≤ j) → C j = B j) : s_add C n x1 x2 x3 x4 x5 = s_add B n x1 x2 x3 x4 x5 := by
  funext j
  unfold s_add s_set
  rw [h 8 (by omega)]
  by_cases e : j < 64 + n * 8 ∨ 64 + n * 8 + 8 ≤ j
  · by_cases e8 : j = 8
    · rw [e8, upd_same, upd_same]
    · simp only [upd, if_neg e8]
      rw [if_neg (by omega), if_neg (by omega), if_neg (by omega), if_neg (by omega), if_neg (by omega), if_neg (by omega), if_neg (by omega), if_neg (by omega), if_neg (by omega), if_neg (by omega), if_neg (by omega), if_neg (by omega), if_neg (by omega), if_neg (by omega), if_neg (by omega), if_neg (by omega)]
      exact h j e
  · obtain ⟨f, hf, rfl⟩ : ∃ f, f < 8 ∧ j = 64 + n * 8 + f := ⟨j - (64 + n * 8), by omega, by omega⟩
    rcases (show f = 0 ∨ f = 1 ∨ f = 2 ∨ f = 3 ∨ f = 4 ∨ f = 5 ∨ f = 6 ∨ f = 7 by omega) with rfl | rfl | rfl | rfl | rfl | rfl | rfl | rfl <;> simp [upd]
/-- the letters of a setup, in both -/
theorem lets_both (hb : bR b b' N) (hN : N ≤ 600) : ∀ k n (t : zTk) (B X : zBk) (A : Nat → Int32), n + k = 13 → n ≤ 12 → tOK b N t → oR B X (-1) n c 0 →
    (kx_lets b' N c k n t X A).1 = (rp_letters b N c k n t B).1 ∧ (kx_lets b' N c k n t X A).2.1 = (rp_letters b N c k n t B).2.1 ∧ ((rp_letters b N c k n t B).1 = 0 → ∃ n', oR (rp_letters b N c k n t B).2.2 (kx_lets b' N c k n t X A).2.2.1 (-1) n' c 0)
  | 0, n, t, B, X, A, h1, h2, _, _ => by omega
  | k + 1, n, t, B, X, A, h1, h2, hok, h => by
    unfold kx_lets rp_letters
    rw [bR_isw hb hok, bR_nx hb hok]
    have okn := kT_nx hok
    by_cases t0 : t.1 = 0
    · have w0 : ¬ tq_isw b t 2 = true := fun z => by
        unfold tq_isw at z
        rw [Bool.and_eq_true] at z
        have z1 := of_decide_eq_true z.1
        omega
      rw [if_pos t0, if_neg w0, if_pos t0]
      exact ⟨rfl, rfl, fun _ => ⟨n, h⟩⟩
    rw [if_neg t0]
    by_cases w2 : tq_isw b t 2 = true
    · rw [if_pos w2, if_pos w2]
      unfold rp_letter
      by_cases n12 : n = 12
      · rw [if_pos n12, if_pos n12, rbc (by decide)]
        exact ⟨rfl, rfl, fun h => absurd (show (4 : Nat) = 0 from h) (by decide)⟩
      rw [if_neg n12, if_neg n12, clk_both hb hN h.2.2.2.2.1 h.2.2.2.2.2.2.1 okn]
      rw [letter_rngs]
      unfold tq_clk
      have eln : (tq_nx b N t).2.2.1 - (tq_nx b N t).2.1 = tq_ln (tq_nx b N t) := rfl
      rw [eln]
      by_cases hs : tq_short (tq_nx b N t) = 0
      · rw [if_pos hs, if_pos hs]
        by_cases hf : tq_find B b (tq_nx b N t).2.1 (tq_ln (tq_nx b N t)) 0 c = -1
        · rw [if_pos hf, if_pos hf, rbc (by decide)]
          unfold kx_let1
          rw [if_pos rfl]
          dsimp only
          rw [if_neg (show ¬ (3 : Nat) = 0 by decide)]
          exact ⟨rfl, rfl, fun h => absurd (show (3 : Nat) = 0 from h) (by decide)⟩
        · rw [if_neg hf, if_neg hf]
          obtain ⟨a, ha, ea⟩ : ∃ a, a < c ∧ tq_find B b (tq_nx b N t).2.1 (tq_ln (tq_nx b N t)) 0 c = nI a := by
            rcases find_in B b (tq_nx b N t).2.1 (tq_ln (tq_nx b N t)) c 0 with e | ⟨a, -, h9, e⟩
            · exact absurd e hf
            · exact ⟨a, by omega, e⟩
          generalize tq_find B b (tq_nx b N t).2.1 (tq_ln (tq_nx b N t)) 0 c = fd at hf ea
          have ok2 := kT_nx okn
          generalize tq_nx b N (tq_nx b N t) = t2 at ok2
          unfold kx_let1
          dsimp only
          rw [if_neg hf]
          obtain ⟨a1, a2, a3, a4, a5⟩ := rngs_nums (o := 64 + n * 8 + 1) (lo := zS5 2) (hi := zS5 3) hb 4 0 t2 B A ok2
          generalize rp_rngs b N (64 + n * 8 + 1) (zS5 2) (zS5 3) 4 0 t2 B = r1 at a1 a2 a3 a4 a5
          generalize tq_nums b' N (zS5 2) (zS5 3) 4 0 t2 A = q1 at a1 a2 a3
          unfold kx_let2
          rw [a1, a2, bR_nx hb a4]
          by_cases h0 : r1.1 = 0
          · rw [if_pos h0, rb0 h0]
            unfold rp_semi
            by_cases h3 : r1.2.1.1 = 3
            · rw [if_pos h3, if_pos h3, rb_00, rb_00, if_pos rfl]
              have e0 := a3 h0 0 (by omega)
              have e1 := a3 h0 1 (by omega)
              have e2 := a3 h0 2 (by omega)
              have e3 := a3 h0 3 (by omega)
              have f1 : r1.2.2 (64 + n * 8 + 1) = q1.2.2 0 := e0.1
              have f2 : r1.2.2 (64 + n * 8 + 2) = q1.2.2 1 := e1.1
              have f3 : r1.2.2 (64 + n * 8 + 3) = q1.2.2 2 := e2.1
              have f4 : r1.2.2 (64 + n * 8 + 4) = q1.2.2 3 := e3.1
              rw [f1, f2, f3, f4, add_cg (B := B) (C := r1.2.2) (fun j hj => a5 j (by omega))]
              have h' := oR_add (x3 := q1.2.2 1) (x5 := q1.2.2 3) h (by omega) ha ea e0.2 e2.2
              exact lets_both hb hN k (n + 1) _ _ _ _ (by omega) (by omega) (kT_nx a4) h'
            · rw [if_neg h3, if_neg h3, rbc (c := 1) (by decide), rbc (c := 1) (by decide), if_neg (pr_ne (c := 1) (by decide))]
              exact ⟨rfl, rfl, fun h => absurd (show (1 : Nat) = 0 from h) (by decide)⟩
          · rw [if_neg h0, rb1 h0, rb1 h0, if_neg h0]
            exact ⟨rfl, rfl, fun h => absurd h h0⟩
      · rw [if_neg hs, if_neg hs, rb1 hs]
        unfold kx_let1
        rw [if_pos rfl, if_neg hs]
        exact ⟨rfl, rfl, fun h => absurd (show tq_short _ = 0 from h) hs⟩
    · rw [if_neg w2, if_neg w2, if_neg t0]
      exact ⟨rfl, rfl, fun h => absurd (show (1 : Nat) = 0 from h) (by decide)⟩
theorem zS_7 : ∀ i, i < 7 → zS5 0 i = [(0 : Int32), 0, 1, 0, 1, 1, 0].getD i 0 ∧ zS5 1 i = [(4 : Int32), 5, 99, 9, 9, 20, 5].getD i 0 := fun _ _ => ⟨rfl, rfl⟩
theorem in_le {x lo hi : Int32} (h : s_in x lo hi = true) : lo ≤ x ∧ x ≤ hi := by
  unfold s_in at h
  rw [Bool.and_eq_true] at h
  exact ⟨of_decide_eq_true h.1, of_decide_eq_true h.2⟩
theorem sz_at {B : zBk} {j : Nat} (h : j < 160) : s_z B j = if j = 11 then -1 else if j = 10 then -1 else 0 := by
  unfold s_z upd
  by_cases e : j = 11
  · rw [if_pos e, if_pos e]
  rw [if_neg e, if_neg e]
  by_cases e2 : j = 10
  · rw [if_pos e2, if_pos e2]
  rw [if_neg e2, if_neg e2]
  exact if_pos h
theorem beg_at {X : zBk} {j : Nat} (h1 : 8 ≤ j) (h : j < 22) : s_beg X j = if j = 11 then -1 else if j = 10 then -1 else if j = 13 then X 2 else 0 := by
  unfold s_beg
  rcases (show j = 8 ∨ j = 9 ∨ j = 10 ∨ j = 11 ∨ j = 12 ∨ j = 13 ∨ j = 14 ∨ j = 15 ∨ j = 16 ∨ j = 17 ∨ j = 18 ∨ j = 19 ∨ j = 20 ∨ j = 21 by omega) with rfl | rfl | rfl | rfl | rfl | rfl | rfl | rfl | rfl | rfl | rfl | rfl | rfl | rfl <;> simp [upd]
/-- a setup, in both -/
theorem setup_both (hb : bR b b' N) (hN : N ≤ 600) {t : zTk} {B X : zBk} {A : Nat → Int32} (hok : tOK b N t) (hK : nmK X) :
    (kx_setup b' N t X A).1 = (rp_setup b N t B).1 ∧ (kx_setup b' N t X A).2.1 = (rp_setup b N t B).2.1 ∧ ((rp_setup b N t B).1 = 0 → ∃ n c, oR (rp_setup b N t B).2.2 (kx_setup b' N t X A).2.2.1 (-1) n c 0) := by
  have hbt : ∀ j, j < N → bt (b' j) := fun j hj => bR_bt hb hj
  have two := two_ok (b := b') (A := A) hN hbt (bR_ok hb hok) hK
  have eset : kx_set b' N t X A = if tq_isw b t 0 = true then kx_set2 b' N X (tq_nums b' N (zS5 0) (zS5 1) 7 0 (tq_nx b N t) A) else (1, t, X, A) := by
    unfold kx_set
    rw [bR_isw hb hok, bR_nx hb hok]
  unfold kx_setup rp_setup
  unfold kx_two at two ⊢
  rw [eset] at two ⊢
  by_cases w0 : tq_isw b t 0 = true
  · rw [if_pos w0] at two ⊢
    rw [if_pos w0]
    obtain ⟨p1, p2, p3⟩ := set_both hb (X := X) (B := s_z B) (A := A) (kT_nx hok) rfl rfl
    generalize kx_set2 b' N X (tq_nums b' N (zS5 0) (zS5 1) 7 0 (tq_nx b N t) A) = q at p1 p2 p3 two
    generalize rp_set b N (tq_nx b N t) (s_z B) = r at p1 p2 p3
    by_cases r0 : r.1 = 0
    · have q0 : q.1 = 0 := p1.trans r0
      rw [if_pos q0] at two ⊢
      rw [p2] at two
      rw [rb0 r0, p2]
      obtain ⟨okr, hset, hrB, hqX⟩ := p3 r0
      have z7 : upd r.2.2 13 (r.2.2 2) 7 = nI 0 := by rw [upd_ne _ _ (by omega), hrB 7 (by omega), sz_at (by omega)]; rfl
      obtain ⟨g1, g2⟩ := clks_both hb hN 7 0 r.2.1 (upd r.2.2 13 (r.2.2 2)) (upd q.2.2.1 7 0) q.2.2.2 (by omega) (by omega) okr ⟨z7, by omega, fun a ha => absurd ha (Nat.not_lt_zero a)⟩ ⟨by omega, fun a ha => absurd ha (Nat.not_lt_zero a)⟩ (fun a ha => absurd ha (Nat.not_lt_zero a)) (upd_same _ _ _)
      generalize kx_clks b' N 7 0 r.2.1 (upd q.2.2.1 7 0) q.2.2.2 = s at g1 g2 two
      by_cases s0 : s.1 = 0
      · rw [if_pos s0]
        obtain ⟨c', B', y1, y2, y3, y4, y5, y6, y7, y8, y9, y10⟩ := g2 s0
        rw [y3, y8, nI_clamp (by omega)]
        have bB : ∀ j, j < 22 → j ≠ 7 → B' j = if j = 13 then r.2.2 2 else r.2.2 j := fun j a b => by
          rw [y9 j a b]; rfl
        have bS : ∀ j, j < 7 → B' j = r.2.2 j := fun j hj => by rw [bB j (by omega) (by omega), if_neg (by omega)]
        have bZ : ∀ j, 8 ≤ j → j < 22 → j ≠ 13 → B' j = if j = 11 then -1 else if j = 10 then -1 else 0 := fun j h8 h22 h13 => by
          rw [bB j h22 (by omega), if_neg h13, hrB j (by omega), sz_at (by omega)]
        have xS : ∀ j, j < 7 → s.2.2.1 j = B' j := fun j hj => by
          rw [y10 j (by omega) (by omega), upd_ne _ _ (by omega), bS j hj, (hset j hj).1]
        have i5 : 1 ≤ B' 5 ∧ B' 5 ≤ 20 := by rw [bS 5 (by omega)]; exact in_le (hset 5 (by omega)).2
        have i6 : 0 ≤ B' 6 ∧ B' 6 ≤ 5 := by rw [bS 6 (by omega)]; exact in_le (hset 6 (by omega)).2
        have i0 : 0 ≤ B' 0 ∧ B' 0 ≤ 4 := by rw [bS 0 (by omega)]; exact in_le (hset 0 (by omega)).2
        have i1 : 0 ≤ B' 1 ∧ B' 1 ≤ 5 := by rw [bS 1 (by omega)]; exact in_le (hset 1 (by omega)).2
        have i3 : 0 ≤ B' 3 ∧ B' 3 ≤ 9 := by rw [bS 3 (by omega)]; exact in_le (hset 3 (by omega)).2
        have e11 : B' 11 = -1 := by rw [bZ 11 (by omega) (by omega) (by omega)]; rfl
        obtain ⟨pl, hpl, epl⟩ := i_of (M := 4) (n := 4) (by decide) i0.1 i0.2
        have w : s_wf B' 0 c' 0 := ⟨by rw [bZ 8 (by omega) (by omega) (by omega)]; rfl, by omega, y5.1, y1, y2, Or.inl e11, i5, i6, ⟨pl, by omega, epl⟩, fun l hl => absurd hl (Nat.not_lt_zero l), by rw [bZ 9 (by omega) (by omega) (by omega)]; rfl, by omega⟩
        have hO : oR B' (s_beg s.2.2.1) (-1) 0 c' 0 := by
          refine ⟨w, by omega, ⟨i1.1, i3.1, ?_, ?_⟩, ⟨⟨0, by omega, ?_⟩, fun l hl => absurd hl (Nat.not_lt_zero l)⟩, y6, ⟨fun k hk => ?_, fun l hl => absurd hl (Nat.not_lt_zero l)⟩, ?_, ?_, nmK_beg two.1⟩
          · rw [bZ 14 (by omega) (by omega) (by omega)]; decide
          · rw [bZ 15 (by omega) (by omega) (by omega)]; decide
          · rw [bZ 18 (by omega) (by omega) (by omega)]; rfl
          · by_cases k8 : k < 8
            · rw [beg_lo k8]
              by_cases k7 : k = 7
              · rw [k7, y8, y5.1]
              · exact xS k (by omega)
            · rw [beg_at (by omega) hk]
              by_cases k13 : k = 13
              · subst k13
                rw [if_neg (by decide), if_neg (by decide), if_pos rfl, xS 2 (by omega), bB 13 (by omega) (by omega), if_pos rfl, bS 2 (by omega)]
              · rw [bZ k (by omega) hk k13, if_neg k13]
          · exact y7.cg y6.L (fun k a b => rfl) (fun k a b => beg_hi (by omega))
          · unfold s_cur
            rw [e11, if_pos rfl]
        obtain ⟨l1, l2, l3⟩ := lets_both (c := c') hb hN 13 0 s.2.1 B' (s_beg s.2.2.1) s.2.2.2 (by omega) (by omega) y4 hO
        refine ⟨l1, l2, fun h => ?_⟩
        obtain ⟨n', hn'⟩ := l3 h
        exact ⟨n', c', hn'⟩
      · rw [if_neg s0]
        obtain ⟨e1, e2⟩ := g1 s0
        exact ⟨e1.symm, e2.symm, fun h => absurd (e1.symm.trans h) s0⟩
    · have q0 : ¬ q.1 = 0 := fun z => r0 (p1.symm.trans z)
      rw [if_neg q0] at two ⊢
      rw [if_neg q0, rb1 r0]
      exact ⟨p1, p2, fun h => absurd h r0⟩
  · rw [if_neg w0] at two ⊢
    rw [if_neg (pr_ne (c := 1) (by decide)), if_neg (pr_ne (c := 1) (by decide)), if_neg w0]
    exact ⟨rfl, rfl, fun h => absurd (show (1 : Nat) = 0 from h) (by decide)⟩
end LDB
