/-! THE RELATION OF BOTH MEMORIES -/
/-- block k of the reference -/
def bk (B : zBk) (k : Nat) : zBk := fun j => B (k * 160 + j)
def RelO (I : zM) (n c t : Nat) : Prop := oR (I 313) (vB I 288) (I 288 7) n c t
/-- the ring's state that lies i changes back -/
def rg (a i : Nat) : Nat := 91 + 24 * ((a + 6 - i) % 6)
def RelH (I : zM) (a m : Nat) : Prop := (I 89 2 = nI a ∧ a < 6) ∧ (I 89 1 = nI m ∧ m ≤ 6) ∧ I 312 2 = nI m ∧ (∀ j, j < 6 → nmB I (91 + 24 * j)) ∧ ∀ i, i < m → ∃ n c t, oR (bk (I 313) (m - i)) (vB I (rg a i)) (I (rg a i) 7) n c t
def RelS (I : zM) : Prop := ∀ j, j < 2 → nmB I (237 + 24 * j) ∧ I 314 j = I 236 j ∧ (¬ I 236 j = 0 → ∃ n c t, oR (bk (I 313) (7 + j)) (vB I (237 + 24 * j)) (I (237 + 24 * j) 7) n c t)
def RelB (I : zM) (N : Nat) : Prop := I 312 4 = nI N ∧ I 285 1 = nI N ∧ N ≤ 600 ∧ bR (I 315) (I 286) N
def RelE (I : zM) : Prop := I 312 5 = I 285 6 ∧ I 312 6 = I 285 7
def RelW (I : zM) (M : Nat) : Prop := I 312 8 = nI M ∧ I 87 1 = nI M ∧ M ≤ 131 ∧ ∀ k, k < M → I 316 k = I 88 k
def Rel (I : zM) : Prop := nmB I 1 ∧ RelS I ∧ (∃ n c t, RelO I n c t) ∧ (∃ a m, RelH I a m) ∧ (∃ N, RelB I N) ∧ RelE I ∧ ∃ M, RelW I M
theorem so_r {I : zM} {s q : Nat} {B : zBk} {c : Int32} (h : q < s ∨ s + 24 ≤ q) : sput I s B c q = I q := funext fun _ => so h
theorem cpr {I : zM} {s o n c r : Nat} (h : r < s ∨ s + 24 ≤ r) : cpS I s o n c r = I r := funext fun _ => cps_far h
section REL
variable {I J : zM} {n c t a m N M s : Nat}
theorem vB_k (h : ∀ r, s ≤ r → r < s + 24 → J r = I r) {k : Nat} (hk : k < 160) : vB J s k = vB I s k := by
  unfold vB
  (repeat' split) <;> exact congrFun (h _ (by omega) (by omega)) _
theorem nmB_fr (h : ∀ r, s ≤ r → r < s + 24 → J r = I r) (q : nmB I s) : nmB J s := fun a ha k hk => by
  rw [h _ (by omega) (by omega)]
  exact q a ha k hk
theorem RelO.fr (h : RelO I n c t) (e : ∀ r, 288 ≤ r → r < 312 → J r = I r) (e13 : ∀ k, k < 160 → J 313 k = I 313 k) : RelO J n c t := by
  unfold RelO at h ⊢
  rw [e 288 (by omega) (by omega)]
  exact (h.cgB e13).cgC2 (fun k hk => vB_k (fun r a b => e r (by omega) (by omega)) hk)
theorem rg_in {a i : Nat} : ∃ j, j < 6 ∧ rg a i = 91 + 24 * j := ⟨(a + 6 - i) % 6, Nat.mod_lt _ (by omega), rfl⟩
theorem RelH.fr (h : RelH I a m) (e : ∀ r, 89 ≤ r → r < 235 → J r = I r) (e2 : J 312 2 = I 312 2) (e13 : ∀ k, 160 ≤ k → k < 1120 → J 313 k = I 313 k) : RelH J a m := by
  obtain ⟨⟨h1, h2⟩, ⟨h3, h4⟩, h5, h6, h7⟩ := h
  refine ⟨⟨by rw [e 89 (by omega) (by omega)]; exact h1, h2⟩, ⟨by rw [e 89 (by omega) (by omega)]; exact h3, h4⟩, e2.trans h5, fun j hj => nmB_fr (fun r a b => e r (by omega) (by omega)) (h6 j hj), fun i hi => ?_⟩
  obtain ⟨n, c, t, h⟩ := h7 i hi
  obtain ⟨j, hj, ej⟩ := rg_in (a := a) (i := i)
  rw [ej] at h ⊢
  refine ⟨n, c, t, ?_⟩
  rw [e (91 + 24 * j) (by omega) (by omega)]
  exact (h.cgB (fun k hk => e13 _ (by omega) (by omega))).cgC2 (fun k hk => vB_k (fun r a b => e r (by omega) (by omega)) hk)
theorem RelS.fr (h : RelS I) (e : ∀ r, 236 ≤ r → r < 285 → J r = I r) (e14 : J 314 = I 314) (e13 : ∀ k, 1120 ≤ k → k < 1440 → J 313 k = I 313 k) : RelS J := by
  intro j hj
  obtain ⟨h0, h1, h2⟩ := h j hj
  refine ⟨nmB_fr (fun r a b => e r (by omega) (by omega)) h0, by rw [e14, e 236 (by omega) (by omega)]; exact h1, fun hz => ?_⟩
  rw [e 236 (by omega) (by omega)] at hz
  obtain ⟨n, c, t, h⟩ := h2 hz
  refine ⟨n, c, t, ?_⟩
  rw [e (237 + 24 * j) (by omega) (by omega)]
  exact (h.cgB (fun k hk => e13 _ (by omega) (by omega))).cgC2 (fun k hk => vB_k (fun r a b => e r (by omega) (by omega)) hk)
theorem RelB.fr (h : RelB I N) (e4 : J 312 4 = I 312 4) (e1 : J 285 1 = I 285 1) (e15 : J 315 = I 315) (e86 : J 286 = I 286) : RelB J N := by
  unfold RelB at h ⊢
  rw [e4, e1, e15, e86]
  exact h
theorem RelE.fr (h : RelE I) (e5 : J 312 5 = I 312 5) (e6 : J 312 6 = I 312 6) (e1 : J 285 6 = I 285 6) (e2 : J 285 7 = I 285 7) : RelE J := by
  unfold RelE at h ⊢
  rw [e5, e6, e1, e2]
  exact h
theorem RelW.fr (h : RelW I M) (e8 : J 312 8 = I 312 8) (e87 : J 87 = I 87) (e88 : J 88 = I 88) (e16 : J 316 = I 316) : RelW J M := by
  unfold RelW at h ⊢
  rw [e8, e87, e88, e16]
  exact h
/-- a memory that says the same of all that is related -/
def sR (I J : zM) : Prop := (∀ r, 25 ≤ r → r < 312 → J r = I r) ∧ (∀ k, k < 1440 → J 313 k = I 313 k) ∧ J 314 = I 314 ∧ J 315 = I 315 ∧ J 316 = I 316 ∧ ∀ k, (k = 2 ∨ k = 4 ∨ k = 5 ∨ k = 6 ∨ k = 8) → J 312 k = I 312 k
theorem Rel_sR (h : Rel I) (e : sR I J) (h1 : nmB J 1) : Rel J := by
  obtain ⟨-, hS, ⟨n, c, t, hO⟩, ⟨a, m, hH⟩, ⟨N, hB⟩, hE, M, hW⟩ := h
  obtain ⟨e1, e2, e3, e4, e5, e6⟩ := e
  exact ⟨h1, hS.fr (fun r a b => e1 r (by omega) (by omega)) e3 (fun k a b => e2 k (by omega)), ⟨n, c, t, hO.fr (fun r a b => e1 r (by omega) (by omega)) (fun k hk => e2 k (by omega))⟩, ⟨a, m, hH.fr (fun r a b => e1 r (by omega) (by omega)) (e6 2 (by omega)) (fun k a b => e2 k (by omega))⟩, ⟨N, hB.fr (e6 4 (by omega)) (by rw [e1 285 (by omega) (by omega)]) e4 (e1 286 (by omega) (by omega))⟩, hE.fr (e6 5 (by omega)) (e6 6 (by omega)) (by rw [e1 285 (by omega) (by omega)]) (by rw [e1 285 (by omega) (by omega)]), M, hW.fr (e6 8 (by omega)) (e1 87 (by omega) (by omega)) (e1 88 (by omega) (by omega)) e5⟩
theorem sR.tr {D : zM} (h : sR I J) (h2 : sR J D) : sR I D :=
  ⟨fun r a b => (h2.1 r a b).trans (h.1 r a b), fun k hk => (h2.2.1 k hk).trans (h.2.1 k hk), h2.2.2.1.trans h.2.2.1, h2.2.2.2.1.trans h.2.2.2.1, h2.2.2.2.2.1.trans h.2.2.2.2.1, fun k hk => (h2.2.2.2.2.2 k hk).trans (h.2.2.2.2.2 k hk)⟩
theorem sR_319 {x : Int32} : sR I (up I 319 0 x) := ⟨fun r a b => up_far (by omega), fun k hk => by rw [up_far (by decide)], up_far (by decide), up_far (by decide), up_far (by decide), fun k hk => by rw [up_far (by decide)]⟩
theorem sR_T {k : Nat} : sR I (mT I k) := ⟨fun r a b => mT_ne (by omega), fun j hj => rfl, rfl, rfl, rfl, fun j hj => mT_312 (by omega)⟩
theorem sR_sp {X : zBk} {Y : Int32} : sR I (sput I 1 X Y) := ⟨fun r a b => sp_288 a, fun k hk => by rw [sp_288 (by omega)], sp_288 (by omega), sp_288 (by omega), sp_288 (by omega), fun k hk => by rw [sp_288 (by omega)]⟩
theorem sR_as : sR I (rM I (upd (I 312) 9 0) (s_aside (I 313))) := ⟨fun r a b => rM_ot (by omega) (by omega), fun k hk => by rw [rM_313]; exact aside_lo hk, rM_ot (by decide) (by decide), rM_ot (by decide) (by decide), rM_ot (by decide) (by decide), fun k hk => by rw [rM_312, upd_ne _ _ (by omega)]⟩
theorem sR_order {F : Nat → Int32} : sR I (ups (mT I 0) 318 F) := ⟨fun r a b => by rw [ups_far (by omega), mT_ne (by omega)], fun j hj => by rw [ups_far (by decide)]; rfl, by rw [ups_far (by decide)]; rfl, by rw [ups_far (by decide)]; rfl, by rw [ups_far (by decide)]; rfl, fun j hj => by rw [ups_far (by decide)]; exact mT_312 (by omega)⟩
theorem nm1 (h : Rel I) (e : ∀ r, r < 25 → J r = I r) : nmB J 1 := nmB_fr (fun r a b => e r (by omega)) h.1
/-! copies of blocks and states -/
theorem bk_0 {B : zBk} {k j : Nat} : bk B k j = B (k * 160 + j) := rfl
theorem bk_cpb {B : zBk} {x y j : Nat} (hj : j < 160) : bk (s_cpb B x y 160) y j = bk B x j := by
  rw [bk_0, bk_0]
  exact cpb_at hj
theorem bk_cpb_ne {B : zBk} {x y z j : Nat} (hj : j < 160) (h : z ≠ y) : bk (s_cpb B x y 160) z j = bk B z j := by
  rw [bk_0, bk_0]
  exact cpb_lo (by omega)
theorem bk_shift {B : zBk} {j : Nat} (hj : j < 160) : ∀ k b, (1 ≤ b ∧ b ≤ k → bk (s_shift B k) b j = bk B (b + 1) j) ∧ (k < b ∨ b = 0 → bk (s_shift B k) b j = bk B b j)
  | 0, b => ⟨fun h => by omega, fun _ => rfl⟩
  | k + 1, b => by
    unfold s_shift
    refine ⟨fun h => ?_, fun h => ?_⟩
    · by_cases e : b = k + 1
      · rw [e, bk_cpb hj]
        exact (bk_shift hj k (k + 2)).2 (by omega)
      · rw [bk_cpb_ne hj e]
        exact (bk_shift hj k b).1 (by omega)
    · rw [bk_cpb_ne hj (by omega)]
      exact (bk_shift hj k b).2 (by omega)
theorem rem_new {B : zBk} {j : Nat} (hj : j < 160) (hm : m ≤ 6) : bk (s_rem B m) (min (m + 1) 6) j = B j := by
  have e0 : bk B 0 j = B j := by rw [bk_0, Nat.zero_mul, Nat.zero_add]
  unfold s_rem
  by_cases h : m = 6
  · rw [if_pos h, h]
    rw [show min (6 + 1) 6 = 6 from rfl, bk_cpb hj, (bk_shift hj 5 0).2 (Or.inr rfl), e0]
  · rw [if_neg h, show min (m + 1) 6 = m + 1 by omega, bk_cpb hj, e0]
theorem rem_old {B : zBk} {i j : Nat} (hj : j < 160) (hm : m ≤ 6) (hi : i + 1 < min (m + 1) 6) : bk (s_rem B m) (min (m + 1) 6 - (i + 1)) j = bk B (m - i) j := by
  unfold s_rem
  by_cases h : m = 6
  · rw [if_pos h, h, show min (6 + 1) 6 = 6 from rfl, bk_cpb_ne hj (by omega), (bk_shift hj 5 (6 - (i + 1))).1 (by omega), show 6 - (i + 1) + 1 = 6 - i by omega]
  · rw [if_neg h, show min (m + 1) 6 - (i + 1) = m - i by omega, bk_cpb_ne hj (by omega)]
/-- what a copied state holds -/
theorem cps_7 {s o : Nat} : cpS I s o n c s 7 = I o 7 := sp7
theorem cps_k {s o k : Nat} (hk : k < 160) : vB (cpS I s o n c) s k = cpk (vB I s) (vB I o) (q_cp n c) k := vB_sp hk
theorem cps_nm {s o : Nat} (h1 : nmB I s) (h2 : nmB I o) : nmK (vB (cpS I s o n c) s) := fun a ha k hk => by
  rw [cps_k (by omega)]
  exact nmK_cpk (nmK_B.mp h1) (nmK_B.mp h2) a ha k hk
theorem cps_oR {B : zBk} {s o : Nat} (h : oR B (vB I o) (I o 7) n c t) (h1 : nmB I s) (h2 : nmB I o) : oR B (vB (cpS I s o n c) s) (cpS I s o n c s 7) n c t := by
  rw [cps_7]
  have hn := h.1.2.1
  have hc := h.1.2.2.2.2.1
  refine h.cgC (fun k hk => ?_) (cps_nm h1 h2)
  have z := of_decide_eq_true (show decide (k < 22 ∨ (22 ≤ k ∧ k < 22 + c * 7) ∨ (64 ≤ k ∧ k < 64 + n * 8)) = true from hk)
  rw [cps_k (by omega)]
  unfold cpk
  rw [if_pos hk]
theorem kq_of (hO : RelO I n c t) (hH : RelH I a m) : kq I n c t a m := ⟨hO.wfC, hO.posC, hO.curC, nmK_B.mpr hO.2.2.2.2.2.2.2.2, hH.1, hH.2.1, hO.2.1⟩
theorem kc_of (hO : RelO I n c t) : kc I n c t := ⟨hO.wfC, hO.posC, hO.curC, nmK_B.mpr hO.2.2.2.2.2.2.2.2, hO.2.1⟩
theorem RelO.nm (hO : RelO I n c t) : nmB I 288 := nmK_B.mpr hO.2.2.2.2.2.2.2.2
/-- a change on both sides: the history keeps the office, then it becomes another -/
theorem Rel_change (h : Rel I) (hO : RelO I n c t) (hH : RelH I a m) {B : zBk} {X : zBk} {cu : Int32} {n' t' : Nat} (h' : oR B X cu n' c t') (hB : ∀ k, 160 ≤ k → B k = s_rem (I 313) m k)
    (hJr : ∀ r, r < 312 → J r = sput (kp I n c a) 288 X cu r) (hJ13 : J 313 = B) (hJ12 : ∀ k, (k = 4 ∨ k = 5 ∨ k = 6 ∨ k = 8) → J 312 k = I 312 k) (hJ2 : J 312 2 = nI (min (m + 1) 6)) (hx : ∀ r, (r = 314 ∨ r = 315 ∨ r = 316) → J r = I r) : Rel J := by
  obtain ⟨h1, hS, -, -, ⟨N, hBf⟩, hE, M, hW⟩ := h
  obtain ⟨⟨g1, g2⟩, ⟨g3, g4⟩, g5, g6, g7⟩ := hH
  have lo : ∀ r, r < 89 → J r = I r := fun r hr => by rw [hJr r (by omega), so_r (by omega), kp_lo hr]
  have hi : ∀ r, 235 ≤ r → r < 288 → J r = I r := fun r a1 a2 => by rw [hJr r (by omega), so_r (by omega), kp_hi a1]
  have mid : ∀ r, 89 ≤ r → r < 235 → J r = kp I n c a r := fun r a1 a2 => by rw [hJr r (by omega), so_r (by omega)]
  have kpq : kp I n c a 89 2 = nI ((a + 1) % 6) ∧ kp I n c a 89 1 = nI (min (m + 1) 6) ∧ ∀ r, 91 ≤ r → r < 235 → kp I n c a r = cpS (up I 89 2 (nI ((a + 1) % 6))) (91 + 24 * ((a + 1) % 6)) 288 n c r := by
    have hlt : (a + 1) % 6 < 6 := Nat.mod_lt _ (by omega)
    unfold kp kkeep
    by_cases e : I 89 1 = 6
    · have em : m = 6 := (nI_eq (a := m) (b := 6) (by omega) (by omega)).mp (g3.symm.trans e)
      rw [if_pos e]
      exact ⟨by rw [cpr (by omega), up_at], by rw [cpr (by omega), up_at2 (by decide), e, em]; rfl, fun r _ _ => rfl⟩
    · have em : m ≠ 6 := fun q => e (by rw [g3, q]; rfl)
      rw [if_neg e]
      exact ⟨by rw [up_at2 (by decide), cpr (by omega), up_at], by rw [up_at, g3, nI_1, show min (m + 1) 6 = m + 1 by omega], fun r a1 a2 => up_far (by omega)⟩
  obtain ⟨k1, k2, k3⟩ := kpq
  have hlt : (a + 1) % 6 < 6 := Nat.mod_lt _ (by omega)
  have I2r : ∀ r, r ≠ 89 → up I 89 2 (nI ((a + 1) % 6)) r = I r := fun r hr => up_far hr
  have I2v : ∀ s, 90 ≤ s → ∀ r, s ≤ r → r < s + 24 → up I 89 2 (nI ((a + 1) % 6)) r = I r := fun s hs r a1 a2 => I2r r (by omega)
  -- the newest state
  have snew : oR (I 313) (vB J (91 + 24 * ((a + 1) % 6))) (J (91 + 24 * ((a + 1) % 6)) 7) n c t ∧ nmB J (91 + 24 * ((a + 1) % 6)) := by
    have o1 : oR (I 313) (vB (up I 89 2 (nI ((a + 1) % 6))) 288) (up I 89 2 (nI ((a + 1) % 6)) 288 7) n c t := by
      have q := RelO.fr (J := up I 89 2 (nI ((a + 1) % 6))) hO (fun r a1 a2 => I2r r (by omega)) (fun k hk => by rw [I2r 313 (by omega)])
      unfold RelO at q
      rw [I2r 313 (by omega)] at q
      exact q
    have n1 : nmB (up I 89 2 (nI ((a + 1) % 6))) (91 + 24 * ((a + 1) % 6)) := nmB_fr (I2v _ (by omega)) (g6 _ hlt)
    have n2 : nmB (up I 89 2 (nI ((a + 1) % 6))) 288 := nmB_fr (I2v _ (by omega)) hO.nm
    have o2 := cps_oR o1 n1 n2
    have e : ∀ r, 91 + 24 * ((a + 1) % 6) ≤ r → r < 91 + 24 * ((a + 1) % 6) + 24 → J r = cpS (up I 89 2 (nI ((a + 1) % 6))) (91 + 24 * ((a + 1) % 6)) 288 n c r := fun r a1 a2 => by
      rw [mid r (by omega) (by omega), k3 r (by omega) (by omega)]
    rw [e (91 + 24 * ((a + 1) % 6)) (by omega) (by omega)]
    exact ⟨o2.cgC2 (fun k hk => vB_k e hk), nmB_fr e (nmK_B.mpr o2.2.2.2.2.2.2.2.2)⟩
  have sold : ∀ j, j < 6 → j ≠ (a + 1) % 6 → ∀ r, 91 + 24 * j ≤ r → r < 91 + 24 * j + 24 → J r = I r := fun j hj hne r a1 a2 => by
    rw [mid r (by omega) (by omega), k3 r (by omega) (by omega), cpr (by omega), I2r r (by omega)]
  refine ⟨nmB_fr (fun r a1 a2 => lo r (by omega)) h1, hS.fr (fun r a1 a2 => hi r (by omega) (by omega)) (hx 314 (by omega)) (fun k a1 a2 => by rw [hJ13, hB k (by omega), rem_hi a1 g4]), ⟨n', c, t', ?_⟩, ⟨(a + 1) % 6, min (m + 1) 6, ?_⟩, ⟨N, hBf.fr (hJ12 4 (by omega)) (by rw [hi 285 (by omega) (by omega)]) (hx 315 (by omega)) (hi 286 (by omega) (by omega))⟩, hE.fr (hJ12 5 (by omega)) (hJ12 6 (by omega)) (by rw [hi 285 (by omega) (by omega)]) (by rw [hi 285 (by omega) (by omega)]), M, hW.fr (hJ12 8 (by omega)) (lo 87 (by omega)) (lo 88 (by omega)) (hx 316 (by omega))⟩
  · unfold RelO
    rw [hJ13, hJr 288 (by decide), sp7]
    exact h'.cgC2 (fun k hk => (vB_k (fun r a1 a2 => hJr r (by omega)) hk).trans (vB_sp hk))
  · refine ⟨⟨by rw [mid 89 (by omega) (by omega), k1], hlt⟩, ⟨by rw [mid 89 (by omega) (by omega), k2], by omega⟩, hJ2, fun j hj => ?_, fun i hi9 => ?_⟩
    · by_cases e : j = (a + 1) % 6
      · rw [e]; exact snew.2
      · exact nmB_fr (sold j hj e) (g6 j hj)
    · rw [hJ13]
      have cgB : ∀ (x : Nat), 1 ≤ x → ∀ k, k < 160 → bk B x k = bk (s_rem (I 313) m) x k := fun x hx k hk => hB _ (by omega)
      cases i with
      | zero =>
        have er : rg ((a + 1) % 6) 0 = 91 + 24 * ((a + 1) % 6) := by unfold rg; omega
        rw [er]
        exact ⟨n, c, t, snew.1.cgB (fun k hk => by rw [Nat.sub_zero, cgB _ (by omega) k hk, rem_new hk g4])⟩
      | succ i =>
        obtain ⟨n1, c1, t1, q⟩ := g7 i (by omega)
        have er : rg ((a + 1) % 6) (i + 1) = rg a i := by unfold rg; omega
        have ej : rg a i = 91 + 24 * ((a + 6 - i) % 6) := rfl
        have jl : (a + 6 - i) % 6 < 6 := Nat.mod_lt _ (by omega)
        have e := sold ((a + 6 - i) % 6) jl (by omega)
        rw [er, ej]
        rw [ej] at q
        refine ⟨n1, c1, t1, ?_⟩
        rw [e (91 + 24 * ((a + 6 - i) % 6)) (by omega) (by omega)]
        exact (q.cgB (fun k hk => by rw [cgB _ (by omega) k hk, rem_old hk g4 (by omega)])).cgC2 (fun k hk => vB_k e hk)
theorem Rel_ch (h : Rel I) (hO : RelO I n c t) (hH : RelH I a m) {B : zBk} {X : zBk} {cu : Int32} {n' t' : Nat} {z : Int32} (h' : oR B X cu n' c t') (hB : ∀ k, 160 ≤ k → B k = s_rem (I 313) m k) :
    Rel (rCh (up (sput (kp I n c a) 288 X cu) 319 0 z) m B) := by
  refine Rel_change h hO hH h' hB (fun r hr => ?_) rCh_313 (fun k hk => ?_) ?_ (fun r hr => ?_)
  · unfold rCh
    rw [rM_ot (by omega) (by omega), up_far (by omega)]
  · unfold rCh
    rw [rM_312, upd_ne _ _ (by omega), upd_ne _ _ (by omega), up_far (by decide), so_r (by omega), kp_hi (by omega)]
  · unfold rCh
    rw [rM_312, upd_same]
  · unfold rCh
    rw [rM_ot (by omega) (by omega), up_far (by omega), so_r (by omega), kp_hi (by omega)]
end REL
