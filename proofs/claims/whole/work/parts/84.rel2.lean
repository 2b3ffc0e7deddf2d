/-! THE RELATION IS KEPT: forecasts, undo, saved states, the buffer, output, scripts, loads -/
section REM
variable {I J : zM} {n c t a m N M s : Nat} {z : Int32}
theorem Rel_read (h : Rel I) {k : Nat} : Rel (mT (up I 319 0 z) k) :=
  Rel_sR h (sR.tr sR_319 sR_T) (nm1 h (fun r hr => by rw [mT_ne (by omega), up_far (by omega)]))
theorem Rel_T (h : Rel I) {k : Nat} : Rel (mT I k) := Rel_sR h sR_T (nm1 h (fun r hr => mT_ne (by omega)))
theorem Rel_319 (h : Rel I) : Rel (up I 319 0 z) := Rel_sR h sR_319 (nm1 h (fun r hr => up_far (by omega)))
theorem Rel_as (h : Rel I) : Rel (rM I (upd (I 312) 9 0) (s_aside (I 313))) := Rel_sR h sR_as (nm1 h (fun r hr => rM_ot (by omega) (by omega)))
theorem Rel_sp (h : Rel I) {X : zBk} {Y : Int32} (hX : nmK X) : Rel (sput I 1 X Y) := Rel_sR h sR_sp (nmB_sp hX)
theorem Rel_order (h : Rel I) {F : Nat → Int32} : Rel (ups (mT I 0) 318 F) := Rel_sR h sR_order (nm1 h (fun r hr => by rw [ups_far (by omega), mT_ne (by omega)]))
theorem Rel_O (h : Rel I) : ∃ n c t, RelO I n c t := h.2.2.1
theorem Rel_H (h : Rel I) : ∃ a m, RelH I a m := h.2.2.2.1
theorem Rel_B (h : Rel I) : ∃ N, RelB I N := h.2.2.2.2.1
/-- undo -/
theorem Rel_undo (h : Rel I) (hO : RelO I n c t) (hH : RelH I a m) (hm : m ≠ 0) {n1 c1 t1 : Nat} (q : oR (bk (I 313) m) (vB I (91 + 24 * a)) (I (91 + 24 * a) 7) n1 c1 t1) (hz : J = up (kback I 288 n1 c1 a) 319 0 z) :
    Rel (rM J (upd (upd (J 312) 9 0) 2 (nI (m - 1))) (s_cpb (J 313) m 0 160)) := by
  obtain ⟨h1, hS, -, -, ⟨N, hBf⟩, hE, M, hW⟩ := h
  obtain ⟨⟨g1, g2⟩, ⟨g3, g4⟩, g5, g6, g7⟩ := hH
  have hJ : ∀ r, r ≠ 319 → r ≠ 89 → (r < 288 ∨ 312 ≤ r) → J r = I r := fun r a1 a2 a3 => by
    rw [hz, up_far a1]
    unfold kback
    rw [up_far a2, up_far a2, cpr a3]
  have hJ8 : ∀ r, 288 ≤ r → r < 312 → J r = cpS I 288 (91 + 24 * a) n1 c1 r := fun r a1 a2 => by
    rw [hz, up_far (by omega)]
    unfold kback
    rw [up_far (by omega), up_far (by omega)]
  have hJ1 : J 89 1 = nI (m - 1) := by
    rw [hz, up_far (by decide)]
    unfold kback
    rw [up_at, g3]
    obtain ⟨m', rfl⟩ : ∃ m', m = m' + 1 := ⟨m - 1, by omega⟩
    rw [nI_pred]; rfl
  have hJ2 : J 89 2 = nI (if a = 0 then 5 else a - 1) := by
    rw [hz, up_far (by decide)]
    unfold kback
    rw [up_at2 (by decide), up_at]
  clear hz
  have e13 : J 313 = I 313 := hJ 313 (by decide) (by decide) (by omega)
  have e12 : J 312 = I 312 := hJ 312 (by decide) (by decide) (by omega)
  rw [e13, e12]
  have hR : ∀ r, r ≠ 312 → r ≠ 313 → rM J (upd (upd (I 312) 9 0) 2 (nI (m - 1))) (s_cpb (I 313) m 0 160) r = J r := fun r a1 a2 => rM_ot a1 a2
  have hR13 : rM J (upd (upd (I 312) 9 0) 2 (nI (m - 1))) (s_cpb (I 313) m 0 160) 313 = s_cpb (I 313) m 0 160 := rM_313
  have hR12 : ∀ k, k ≠ 9 → k ≠ 2 → rM J (upd (upd (I 312) 9 0) 2 (nI (m - 1))) (s_cpb (I 313) m 0 160) 312 k = I 312 k := fun k a1 a2 => by rw [rM_312, upd_ne _ _ a2, upd_ne _ _ a1]
  have hR2 : rM J (upd (upd (I 312) 9 0) 2 (nI (m - 1))) (s_cpb (I 313) m 0 160) 312 2 = nI (m - 1) := by rw [rM_312, upd_same]
  generalize rM J (upd (upd (I 312) 9 0) 2 (nI (m - 1))) (s_cpb (I 313) m 0 160) = R at hR hR13 hR12 hR2
  have hRI : ∀ r, r ≠ 312 → r ≠ 313 → r ≠ 319 → r ≠ 89 → (r < 288 ∨ 312 ≤ r) → R r = I r := fun r a1 a2 a3 a4 a5 => (hR r a1 a2).trans (hJ r a3 a4 a5)
  have hi : ∀ k, 160 ≤ k → s_cpb (I 313) m 0 160 k = I 313 k := fun k hk => cpb_lo (Or.inr (by omega))
  refine ⟨nmB_fr (fun r a1 a2 => hRI r (by omega) (by omega) (by omega) (by omega) (by omega)) h1, hS.fr (fun r a1 a2 => hRI r (by omega) (by omega) (by omega) (by omega) (by omega)) (hRI 314 (by decide) (by decide) (by decide) (by decide) (by omega)) (fun k a1 a2 => by rw [hR13, hi k (by omega)]), ⟨n1, c1, t1, ?_⟩, ⟨if a = 0 then 5 else a - 1, m - 1, ?_⟩, ⟨N, hBf.fr (hR12 4 (by decide) (by decide)) (by rw [hRI 285 (by decide) (by decide) (by decide) (by decide) (by omega)]) (hRI 315 (by decide) (by decide) (by decide) (by decide) (by omega)) (hRI 286 (by decide) (by decide) (by decide) (by decide) (by omega))⟩, hE.fr (hR12 5 (by decide) (by decide)) (hR12 6 (by decide) (by decide)) (by rw [hRI 285 (by decide) (by decide) (by decide) (by decide) (by omega)]) (by rw [hRI 285 (by decide) (by decide) (by decide) (by decide) (by omega)]), M, hW.fr (hR12 8 (by decide) (by decide)) (hRI 87 (by decide) (by decide) (by decide) (by decide) (by omega)) (hRI 88 (by decide) (by decide) (by decide) (by decide) (by omega)) (hRI 316 (by decide) (by decide) (by decide) (by decide) (by omega))⟩
  · have o := cps_oR (s := 288) q hO.nm (g6 a g2)
    have e : ∀ r, 288 ≤ r → r < 288 + 24 → R r = cpS I 288 (91 + 24 * a) n1 c1 r := fun r a1 a2 => (hR r (by omega) (by omega)).trans (hJ8 r a1 (by omega))
    unfold RelO
    rw [hR13, e 288 (by omega) (by omega)]
    refine (o.cgB (fun k hk => ?_)).cgC2 (fun k hk => vB_k e hk)
    have z := cpb_at (B := I 313) (a := m) (b := 0) (k := 160) hk
    rw [Nat.zero_mul, Nat.zero_add] at z
    exact z
  · have hR89 : R 89 = J 89 := hR 89 (by decide) (by decide)
    refine ⟨⟨by rw [hR89, hJ2], by split <;> omega⟩, ⟨by rw [hR89, hJ1], by omega⟩, hR2, fun j hj => nmB_fr (fun r a1 a2 => hRI r (by omega) (by omega) (by omega) (by omega) (by omega)) (g6 j hj), fun i hi9 => ?_⟩
    obtain ⟨n2, c2, t2, w⟩ := g7 (i + 1) (by omega)
    have er : rg (if a = 0 then 5 else a - 1) i = rg a (i + 1) := by unfold rg; split <;> omega
    obtain ⟨j, hj, ej⟩ := rg_in (a := a) (i := i + 1)
    rw [er, ej, hR13]
    rw [ej] at w
    have e : ∀ r, 91 + 24 * j ≤ r → r < 91 + 24 * j + 24 → R r = I r := fun r a1 a2 => hRI r (by omega) (by omega) (by omega) (by omega) (by omega)
    refine ⟨n2, c2, t2, ?_⟩
    rw [e (91 + 24 * j) (by omega) (by omega)]
    refine (w.cgB (fun k hk => ?_)).cgC2 (fun k hk => vB_k e hk)
    rw [bk_0, bk_0, hi _ (by omega), show m - 1 - i = m - (i + 1) by omega]
/-- save -/
theorem Rel_save (h : Rel I) (hO : RelO I n c t) {x : Nat} (hx : x < 2) (hz : J = up (ksave I n c x) 319 0 z) :
    Rel (up (rM J (upd (J 312) 9 0) (s_cpb (J 313) 0 (7 + x) 160)) 314 x (vp_nar .boolean 1)) := by
  obtain ⟨h1, hS, -, ⟨a, m, hH⟩, ⟨N, hBf⟩, hE, M, hW⟩ := h
  have hJ : ∀ r, r ≠ 319 → r ≠ 236 → (r < 237 + 24 * x ∨ 237 + 24 * x + 24 ≤ r) → J r = I r := fun r a1 a2 a3 => by
    rw [hz, up_far a1]
    unfold ksave
    rw [up_far a2, cpr a3]
  have hJ8 : ∀ r, 237 + 24 * x ≤ r → r < 237 + 24 * x + 24 → J r = cpS I (237 + 24 * x) 288 n c r := fun r a1 a2 => by
    rw [hz, up_far (by omega)]
    unfold ksave
    rw [up_far (by omega)]
  have hJ6 : ∀ k, J 236 k = if k = x then vp_nar .boolean 1 else I 236 k := fun k => by
    rw [hz, up_far (by decide)]
    unfold ksave
    by_cases e : k = x
    · rw [if_pos e, e, up_at]
    · rw [if_neg e, up_at2 e, cpr (by omega)]
  clear hz
  have e13 : J 313 = I 313 := hJ 313 (by decide) (by decide) (by omega)
  have e12 : J 312 = I 312 := hJ 312 (by decide) (by decide) (by omega)
  have e14 : J 314 = I 314 := hJ 314 (by decide) (by decide) (by omega)
  rw [e13, e12]
  have hR : ∀ r, r ≠ 312 → r ≠ 313 → r ≠ 314 → up (rM J (upd (I 312) 9 0) (s_cpb (I 313) 0 (7 + x) 160)) 314 x (vp_nar .boolean 1) r = J r := fun r a1 a2 a3 => by rw [up_far a3, rM_ot a1 a2]
  have hR13 : up (rM J (upd (I 312) 9 0) (s_cpb (I 313) 0 (7 + x) 160)) 314 x (vp_nar .boolean 1) 313 = s_cpb (I 313) 0 (7 + x) 160 := by rw [up_far (by decide), rM_313]
  have hR12 : ∀ k, k ≠ 9 → up (rM J (upd (I 312) 9 0) (s_cpb (I 313) 0 (7 + x) 160)) 314 x (vp_nar .boolean 1) 312 k = I 312 k := fun k a1 => by rw [up_far (by decide), rM_312, upd_ne _ _ a1]
  have hR14 : ∀ k, up (rM J (upd (I 312) 9 0) (s_cpb (I 313) 0 (7 + x) 160)) 314 x (vp_nar .boolean 1) 314 k = if k = x then vp_nar .boolean 1 else I 314 k := fun k => by
    by_cases e : k = x
    · rw [if_pos e, e, up_at]
    · rw [if_neg e, up_at2 e, rM_ot (by decide) (by decide), e14]
  generalize up (rM J (upd (I 312) 9 0) (s_cpb (I 313) 0 (7 + x) 160)) 314 x (vp_nar .boolean 1) = R at hR hR13 hR12 hR14
  have hRI : ∀ r, r ≠ 312 → r ≠ 313 → r ≠ 314 → r ≠ 319 → r ≠ 236 → (r < 237 + 24 * x ∨ 237 + 24 * x + 24 ≤ r) → R r = I r := fun r a1 a2 a3 a4 a5 a6 => (hR r a1 a2 a3).trans (hJ r a4 a5 a6)
  have lo : ∀ r, r < 236 → R r = I r := fun r hr => hRI r (by omega) (by omega) (by omega) (by omega) (by omega) (by omega)
  have mi : ∀ r, 285 ≤ r → r < 312 → R r = I r := fun r a1 a2 => hRI r (by omega) (by omega) (by omega) (by omega) (by omega) (by omega)
  refine ⟨nmB_fr (fun r a1 a2 => lo r (by omega)) h1, fun j hj => ?_, ⟨n, c, t, hO.fr (fun r a1 a2 => mi r (by omega) (by omega)) (fun k hk => by rw [hR13]; exact cpb_lo (Or.inl (by omega)))⟩, ⟨a, m, hH.fr (fun r a1 a2 => lo r (by omega)) (hR12 2 (by decide)) (fun k a1 a2 => by rw [hR13]; exact cpb_lo (Or.inl (by omega)))⟩, ⟨N, hBf.fr (hR12 4 (by decide)) (by rw [mi 285 (by omega) (by omega)]) (hRI 315 (by decide) (by decide) (by decide) (by decide) (by decide) (by omega)) (mi 286 (by omega) (by omega))⟩, hE.fr (hR12 5 (by decide)) (hR12 6 (by decide)) (by rw [mi 285 (by omega) (by omega)]) (by rw [mi 285 (by omega) (by omega)]), M, hW.fr (hR12 8 (by decide)) (lo 87 (by omega)) (lo 88 (by omega)) (hRI 316 (by decide) (by decide) (by decide) (by decide) (by decide) (by omega))⟩
  obtain ⟨g1, g2, g3⟩ := hS j hj
  have h236 : R 236 = J 236 := hR 236 (by decide) (by decide) (by decide)
  rw [hR14, h236, hJ6, hR13]
  by_cases e : j = x
  · subst e
    have o := cps_oR (s := 237 + 24 * j) hO g1 hO.nm
    have er : ∀ r, 237 + 24 * j ≤ r → r < 237 + 24 * j + 24 → R r = cpS I (237 + 24 * j) 288 n c r := fun r a1 a2 => (hR r (by omega) (by omega) (by omega)).trans (hJ8 r a1 a2)
    rw [if_pos rfl, if_pos rfl, er (237 + 24 * j) (by omega) (by omega)]
    refine ⟨nmB_fr er (nmK_B.mpr o.2.2.2.2.2.2.2.2), rfl, fun _ => ⟨n, c, t, (o.cgB (fun k hk => ?_)).cgC2 (fun k hk => vB_k er hk)⟩⟩
    rw [bk_cpb hk, bk_0, Nat.zero_mul, Nat.zero_add]
  · rw [if_neg e, if_neg e]
    have er : ∀ r, 237 + 24 * j ≤ r → r < 237 + 24 * j + 24 → R r = I r := fun r a1 a2 => hRI r (by omega) (by omega) (by omega) (by omega) (by omega) (by omega)
    rw [er (237 + 24 * j) (by omega) (by omega)]
    refine ⟨nmB_fr er g1, g2, fun hz => ?_⟩
    obtain ⟨n1, c1, t1, w⟩ := g3 hz
    exact ⟨n1, c1, t1, (w.cgB (fun k hk => by rw [bk_cpb_ne hk (by omega)])).cgC2 (fun k hk => vB_k er hk)⟩
/-- restore -/
theorem Rel_restore (h : Rel I) (hO : RelO I n c t) {x : Nat} (hx : x < 2) {n1 c1 t1 : Nat} (q : oR (bk (I 313) (7 + x)) (vB I (237 + 24 * x)) (I (237 + 24 * x) 7) n1 c1 t1) (hz : J = up (krest I n1 c1 x) 319 0 z) :
    Rel (rM J (upd (upd (J 312) 9 0) 2 0) (s_cpb (J 313) (7 + x) 0 160)) := by
  obtain ⟨h1, hS, -, ⟨a, m, hH⟩, ⟨N, hBf⟩, hE, M, hW⟩ := h
  obtain ⟨⟨g1, g2⟩, ⟨g3, g4⟩, g5, g6, g7⟩ := hH
  have hJ : ∀ r, r ≠ 319 → r ≠ 89 → (r < 288 ∨ 312 ≤ r) → J r = I r := fun r a1 a2 a3 => by
    rw [hz, up_far a1]
    unfold krest
    rw [up_far a2, cpr a3]
  have hJ8 : ∀ r, 288 ≤ r → r < 312 → J r = cpS I 288 (237 + 24 * x) n1 c1 r := fun r a1 a2 => by
    rw [hz, up_far (by omega)]
    unfold krest
    rw [up_far (by omega)]
  have hJ1 : J 89 1 = 0 ∧ J 89 2 = nI a := by
    rw [hz, up_far (by decide)]
    unfold krest
    exact ⟨up_at, by rw [up_at2 (by decide), cpr (by omega)]; exact g1⟩
  clear hz
  have e13 : J 313 = I 313 := hJ 313 (by decide) (by decide) (by omega)
  have e12 : J 312 = I 312 := hJ 312 (by decide) (by decide) (by omega)
  rw [e13, e12]
  have hR : ∀ r, r ≠ 312 → r ≠ 313 → rM J (upd (upd (I 312) 9 0) 2 0) (s_cpb (I 313) (7 + x) 0 160) r = J r := fun r a1 a2 => rM_ot a1 a2
  have hR13 : rM J (upd (upd (I 312) 9 0) 2 0) (s_cpb (I 313) (7 + x) 0 160) 313 = s_cpb (I 313) (7 + x) 0 160 := rM_313
  have hR12 : ∀ k, k ≠ 9 → k ≠ 2 → rM J (upd (upd (I 312) 9 0) 2 0) (s_cpb (I 313) (7 + x) 0 160) 312 k = I 312 k := fun k a1 a2 => by rw [rM_312, upd_ne _ _ a2, upd_ne _ _ a1]
  have hR2 : rM J (upd (upd (I 312) 9 0) 2 0) (s_cpb (I 313) (7 + x) 0 160) 312 2 = nI 0 := by rw [rM_312, upd_same]; rfl
  generalize rM J (upd (upd (I 312) 9 0) 2 0) (s_cpb (I 313) (7 + x) 0 160) = R at hR hR13 hR12 hR2
  have hRI : ∀ r, r ≠ 312 → r ≠ 313 → r ≠ 319 → r ≠ 89 → (r < 288 ∨ 312 ≤ r) → R r = I r := fun r a1 a2 a3 a4 a5 => (hR r a1 a2).trans (hJ r a3 a4 a5)
  have hi : ∀ k, 160 ≤ k → s_cpb (I 313) (7 + x) 0 160 k = I 313 k := fun k hk => cpb_lo (Or.inr (by omega))
  refine ⟨nmB_fr (fun r a1 a2 => hRI r (by omega) (by omega) (by omega) (by omega) (by omega)) h1, hS.fr (fun r a1 a2 => hRI r (by omega) (by omega) (by omega) (by omega) (by omega)) (hRI 314 (by decide) (by decide) (by decide) (by decide) (by omega)) (fun k a1 a2 => by rw [hR13, hi k (by omega)]), ⟨n1, c1, t1, ?_⟩, ⟨a, 0, ?_⟩, ⟨N, hBf.fr (hR12 4 (by decide) (by decide)) (by rw [hRI 285 (by decide) (by decide) (by decide) (by decide) (by omega)]) (hRI 315 (by decide) (by decide) (by decide) (by decide) (by omega)) (hRI 286 (by decide) (by decide) (by decide) (by decide) (by omega))⟩, hE.fr (hR12 5 (by decide) (by decide)) (hR12 6 (by decide) (by decide)) (by rw [hRI 285 (by decide) (by decide) (by decide) (by decide) (by omega)]) (by rw [hRI 285 (by decide) (by decide) (by decide) (by decide) (by omega)]), M, hW.fr (hR12 8 (by decide) (by decide)) (hRI 87 (by decide) (by decide) (by decide) (by decide) (by omega)) (hRI 88 (by decide) (by decide) (by decide) (by decide) (by omega)) (hRI 316 (by decide) (by decide) (by decide) (by decide) (by omega))⟩
  · have o := cps_oR (s := 288) q hO.nm (hS x hx).1
    have e : ∀ r, 288 ≤ r → r < 288 + 24 → R r = cpS I 288 (237 + 24 * x) n1 c1 r := fun r a1 a2 => (hR r (by omega) (by omega)).trans (hJ8 r a1 (by omega))
    unfold RelO
    rw [hR13, e 288 (by omega) (by omega)]
    refine (o.cgB (fun k hk => ?_)).cgC2 (fun k hk => vB_k e hk)
    have z := cpb_at (B := I 313) (a := 7 + x) (b := 0) (k := 160) hk
    rw [Nat.zero_mul, Nat.zero_add] at z
    exact z
  · have hR89 : R 89 = J 89 := hR 89 (by decide) (by decide)
    exact ⟨⟨by rw [hR89, hJ1.2], g2⟩, ⟨by rw [hR89, hJ1.1]; rfl, by omega⟩, hR2, fun j hj => nmB_fr (fun r a1 a2 => hRI r (by omega) (by omega) (by omega) (by omega) (by omega)) (g6 j hj), fun i hi => absurd hi (Nat.not_lt_zero i)⟩
/-- a call that touches the buffer alone: the input, the error, the tokens -/
theorem Rel_buf (h : Rel I) {N' : Nat} (hN : RelB J N') (hE : RelE J) (hr : ∀ r, r < 312 → r ≠ 285 → r ≠ 286 → (r < 25 ∨ 87 ≤ r) → J r = I r) (h13 : ∀ k, k < 1440 → J 313 k = I 313 k) (h14 : J 314 = I 314) (h16 : J 316 = I 316) (h12 : ∀ k, (k = 2 ∨ k = 8) → J 312 k = I 312 k) : Rel J := by
  obtain ⟨h1, hS, ⟨n, c, t, hO⟩, ⟨a, m, hH⟩, -, -, M, hW⟩ := h
  exact ⟨nmB_fr (fun r a1 a2 => hr r (by omega) (by omega) (by omega) (by omega)) h1, hS.fr (fun r a1 a2 => hr r (by omega) (by omega) (by omega) (by omega)) h14 (fun k a1 a2 => h13 k (by omega)), ⟨n, c, t, hO.fr (fun r a1 a2 => hr r (by omega) (by omega) (by omega) (by omega)) (fun k hk => h13 k (by omega))⟩, ⟨a, m, hH.fr (fun r a1 a2 => hr r (by omega) (by omega) (by omega) (by omega)) (h12 2 (by omega)) (fun k a1 a2 => h13 k (by omega))⟩, ⟨N', hN⟩, hE, M, hW.fr (h12 8 (by omega)) (hr 87 (by decide) (by decide) (by decide) (by omega)) (hr 88 (by decide) (by decide) (by decide) (by omega)) h16⟩
theorem Rel_buf3 (h : Rel I) {N' : Nat} (hN : RelB J N') (hE : RelE J) (hr : ∀ r, r < 312 → r ≠ 285 → r ≠ 286 → r ≠ 287 → (r < 25 ∨ 87 ≤ r) → J r = I r) (h13 : ∀ k, k < 1440 → J 313 k = I 313 k) (h14 : J 314 = I 314) (h16 : J 316 = I 316) (h12 : ∀ k, (k = 2 ∨ k = 8) → J 312 k = I 312 k) : Rel J := by
  obtain ⟨h1, hS, ⟨n, c, t, hO⟩, ⟨a, m, hH⟩, -, -, M, hW⟩ := h
  exact ⟨nmB_fr (fun r a1 a2 => hr r (by omega) (by omega) (by omega) (by omega) (by omega)) h1, hS.fr (fun r a1 a2 => hr r (by omega) (by omega) (by omega) (by omega) (by omega)) h14 (fun k a1 a2 => h13 k (by omega)), ⟨n, c, t, hO.fr (fun r a1 a2 => hr r (by omega) (by omega) (by omega) (by omega) (by omega)) (fun k hk => h13 k (by omega))⟩, ⟨a, m, hH.fr (fun r a1 a2 => hr r (by omega) (by omega) (by omega) (by omega) (by omega)) (h12 2 (by omega)) (fun k a1 a2 => h13 k (by omega))⟩, ⟨N', hN⟩, hE, M, hW.fr (h12 8 (by omega)) (hr 87 (by decide) (by decide) (by decide) (by decide) (by omega)) (hr 88 (by decide) (by decide) (by decide) (by decide) (by omega)) h16⟩
/-- the output written by both -/
theorem Rel_wri (h : Rel I) {F : zBk} {o : List Int32} (ho : o.length ≤ 131) (hz : J = kO I (I 87) o) : Rel (oM J (upd (J 312) 9 0) o) := by
  obtain ⟨h1, hS, ⟨n, c, t, hO⟩, ⟨a, m, hH⟩, ⟨N, hBf⟩, hE, -⟩ := h
  have hJ : ∀ r, r ≠ 87 → r ≠ 88 → J r = I r := fun r a1 a2 => by rw [hz, kO_ot a1 a2]
  have h87 : J 87 1 = nI o.length := by rw [hz, kO_87, upd_same]
  have h88 : J 88 = o_arr (I 88) o := by rw [hz, kO_88]
  clear hz
  have hR : ∀ r, r ≠ 312 → r ≠ 316 → oM J (upd (J 312) 9 0) o r = J r := fun r a1 a2 => by
    unfold oM
    rw [ups_far a1, ups_far a2]
  have hR12 : ∀ k, k ≠ 8 → k ≠ 9 → oM J (upd (J 312) 9 0) o 312 k = I 312 k := fun k a1 a2 => by rw [oM_312, upd_ne _ _ a1, upd_ne _ _ a2, hJ 312 (by decide) (by decide)]
  have hR8 : oM J (upd (J 312) 9 0) o 312 8 = nI o.length := by rw [oM_312, upd_same]
  have hR16 : oM J (upd (J 312) 9 0) o 316 = o_arr (J 316) o := by
    unfold oM
    rw [ups_far (by decide), ups_same]
  generalize oM J (upd (J 312) 9 0) o = R at hR hR12 hR8 hR16
  have e : ∀ r, r ≠ 312 → r ≠ 316 → r ≠ 87 → r ≠ 88 → R r = I r := fun r a1 a2 a3 a4 => (hR r a1 a2).trans (hJ r a3 a4)
  have e13 : ∀ k, R 313 k = I 313 k := fun k => by rw [e 313 (by decide) (by decide) (by decide) (by decide)]
  refine ⟨nmB_fr (fun r a1 a2 => e r (by omega) (by omega) (by omega) (by omega)) h1, hS.fr (fun r a1 a2 => e r (by omega) (by omega) (by omega) (by omega)) (e 314 (by decide) (by decide) (by decide) (by decide)) (fun k a1 a2 => e13 k), ⟨n, c, t, hO.fr (fun r a1 a2 => e r (by omega) (by omega) (by omega) (by omega)) (fun k hk => e13 k)⟩, ⟨a, m, hH.fr (fun r a1 a2 => e r (by omega) (by omega) (by omega) (by omega)) (hR12 2 (by decide) (by decide)) (fun k a1 a2 => e13 k)⟩, ⟨N, hBf.fr (hR12 4 (by decide) (by decide)) (by rw [e 285 (by decide) (by decide) (by decide) (by decide)]) (e 315 (by decide) (by decide) (by decide) (by decide)) (e 286 (by decide) (by decide) (by decide) (by decide))⟩, hE.fr (hR12 5 (by decide) (by decide)) (hR12 6 (by decide) (by decide)) (by rw [e 285 (by decide) (by decide) (by decide) (by decide)]) (by rw [e 285 (by decide) (by decide) (by decide) (by decide)]), o.length, hR8, by rw [hR 87 (by decide) (by decide)]; exact h87, ho, fun k hk => ?_⟩
  rw [hR16, hR 88 (by decide) (by decide), h88]
  unfold o_arr
  rw [if_pos hk, if_pos hk]
end REM
