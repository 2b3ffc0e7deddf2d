/-! THE CLASS'S INPUT: words, names, numbers -/
def kF (F : zBk) (code : Nat) (t : zTk) : zBk := if code = 0 then tk_put F t else fl_put (tk_put F t) (nI code)
def tq_short (t : zTk) : Nat := if t.1 = 1 then (if t.2.2.1 - t.2.1 ≤ 6 then 0 else 3) else 1
def tq_nx (b : zBk) (N : Nat) (t : zTk) : zTk := tq_tk b N t.2.2.1 t.2.2.2
def tq_clk (B b : zBk) (N c : Nat) (t : zTk) : Int32 × Nat × zTk :=
  if tq_short t = 0 then (if tq_find B b t.2.1 (t.2.2.1 - t.2.1) 0 c = -1 then (-1, 3, t) else (tq_find B b t.2.1 (t.2.2.1 - t.2.1) 0 c, 0, tq_nx b N t)) else (-1, tq_short t, t)
def tq_nums (b : zBk) (N : Nat) (lo hi : Nat → Int32) : Nat → Nat → zTk → (Nat → Int32) → Nat × zTk × (Nat → Int32)
  | 0, _, t, A => (0, t, A)
  | k + 1, i, t, A => if t.1 = 2 then (if s_in t.2.2.2 (lo i) (hi i) = true then tq_nums b N lo hi k (i + 1) (tq_nx b N t) (upd A i t.2.2.2) else (2, t, upd A i t.2.2.2)) else (1, t, A)
def tq_anys (b : zBk) (N : Nat) : Nat → Nat → zTk → (Nat → Int32) → Nat × zTk × (Nat → Int32)
  | 0, _, t, A => (0, t, A)
  | k + 1, i, t, A => if t.1 = 2 then tq_anys b N k (i + 1) (tq_nx b N t) (upd A i t.2.2.2) else (1, t, A)
theorem kT_nx {b : zBk} {N : Nat} {t : zTk} (h : tOK b N t) : tOK b N (tq_nx b N t) := tk_ok h.2.2.1
theorem put_self {I : zM} {N : Nat} {t : zTk} (h : kT I N t) : tk_put (I 285) t = I 285 := by
  obtain ⟨-, -, h2, h3, h4⟩ := h
  funext j
  unfold tk_put
  by_cases a : j = 2
  · rw [if_pos a, a, h2]
  rw [if_neg a]
  by_cases b : j = 3
  · rw [if_pos b, b, h3]
  rw [if_neg b]
  by_cases c : j = 4
  · rw [if_pos c, c, h4]
  rw [if_neg c]
theorem kF_0 {F : zBk} {t : zTk} : kF F 0 t = tk_put F t := if_pos rfl
theorem kF_put {F : zBk} {c : Nat} {t t' : zTk} : kF (tk_put F t) c t' = kF F c t' := by unfold kF; rw [put_put]
theorem kF_fail {I : zM} {N c : Nat} {t : zTk} (h : kT I N t) (hc : c ≠ 0) : kF (I 285) c t = fl_put (I 285) (nI c) := by unfold kF; rw [if_neg hc, put_self h]
theorem ups_sw {I : zM} {a b : Nat} {F A : Nat → Int32} (h : a ≠ b) : ups (ups I a F) b A = ups (ups I b A) a F := by
  funext q
  unfold ups
  by_cases e : q = a
  · rw [if_neg (by rw [e]; exact h), if_pos e, if_pos e]
  · rw [if_neg e, if_neg e]
theorem uu4 {I : zM} {a b : Nat} {F A F' A' : Nat → Int32} (h : a ≠ b) : ups (ups (ups (ups I a F) b A) a F') b A' = ups (ups I a F') b A' := by
  rw [ups_sw (I := ups I a F) (F := A) (A := F') (Ne.symm h), ups_ups, ups_ups]
theorem uu_id {I : zM} {a b : Nat} : ups (ups I a (I a)) b (I b) = I := by rw [ups_id, ups_id]
section KIB
variable {G : zG} {w : Nat × Nat} {gl : Launch} {I : zM}
theorem k_fail (hm : isT w 4 285) {c : Int32} : CT G w gl (yX4_fail, cX4_fail, 2, some .boolean) 0 (0, 0) [.ref 285, .int c] I (qE 0 (ups I 285 (fl_put (I 285) c))) nX := by
  refine ct_of (by decide) [(0, .ref 285), (1, .int c)] rfl rfl (fun K hG hw hgl hwo hK => ?_)
  subst hG; subst hw; subst hgl
  refine bX4_fail_0 hK hwo hm (qE_i rfl ?_)
  simp only [up_def, ups_same, ups_ups]
  rw [upd_ne _ _ (by decide)]
  rfl
theorem k_begin (hm : isT w 4 285) {N : Nat} (v : Int32) (h4 : I 285 1 = nI N) (hN : N ≤ 600) : CT G w gl (yX4_begin, cX4_begin, 1, none) 2 (0, 0) [.ref 285] I (qV (fun J => J = ups I 285 (tk_put (upd (upd (I 285) 6 0) 7 (-1)) (tq_tk (I 286) N 0 v)))) nX := by
  refine ct_of (by decide) [(0, .ref 285)] rfl rfl (fun K hG hw hgl hwo hK => ?_)
  subst hG; subst hw; subst hgl
  have ha := k_advance (G := kG K) (w := kw K) (gl := kl K) (I := up (up (up I 285 6 0) 285 7 (-1)) 285 4 0) hm (N := N) (p := 0) v (by simp only [up_def, ups_same, ups_ups]; simp [upd, h4]) hN (by simp only [up_def, ups_same, ups_ups]; simp [upd]; rfl) (by omega)
  refine bX4_begin_0 hK hwo hm ha (qV_i ?_)
  simp only [up_def, ups_same, ups_ups, u286]
  refine congrArg (ups I 285) (funext fun j => ?_)
  unfold tk_put
  by_cases a : j = 4
  · rw [if_neg (by omega), if_neg (by omega), if_pos a, if_neg (by omega), if_neg (by omega), if_pos a]
  · rw [upd_ne _ _ a]
theorem k_isAtWord (hm : isT w 4 285) {N j : Nat} {t : zTk} (ht : kT I N t) (hj : j < 9) : CT G w gl (yX4_isAtWord, cX4_isAtWord, 3, some .boolean) 4 (0, 0) [.ref 285, .ref (1100 + j)] I (qE (b2 (tq_isw (I 286) t j)) I) nX := by
  refine ct_of (by decide) [(0, .ref 285), (1, .ref (1100 + j))] rfl rfl (fun K hG hw hgl hwo hK => ?_)
  subst hG; subst hw; subst hgl
  have z0 : (0, 0).1 ≤ ((0, 0) : Nat × Nat).1 ∧ (0, 0).2 ≤ ((0, 0) : Nat × Nat).2 := ⟨Nat.le_refl _, Nat.le_refl _⟩
  have z1 : (0, 0).1 + (0, 0).1 ≤ ((0, 0) : Nat × Nat).1 ∧ (0, 0).2 + (0, 0).2 ≤ ((0, 0) : Nat × Nat).2 := ⟨Nat.le_refl _, Nat.le_refl _⟩
  obtain ⟨⟨h1, hN⟩, ⟨o1, o2, o3, o4, o5⟩, k2, k3, k4⟩ := ht
  have hs : zIsS (1100 + j) := ⟨j, hj, rfl⟩
  have hlen : zTl.getD j 0 < 2 ^ 31 := (zT_ok j hj).1
  have loop : t.1 = 1 → t.2.2.1 - t.2.1 = zTl.getD j 0 → ∀ k i, i + k = zTl.getD j 0 → tq_cm (fun k => I 286 (t.2.1 + k)) (fun k => (zTb.getD j []).getD k 0) i = true → ZZ K (0, 0) 28 [(0, .ref 285), (1, .ref (1100 + j)), (2, .int (nI i))] [] I := by
    intro e1 e2 k
    induction k with
    | zero =>
      intro i hi hc
      have e : i = zTl.getD j 0 := by omega
      have le : Int32.ofNat (zTl.getD j 0) ≤ nI i := by rw [e]; exact Int32.le_refl _
      refine bX4_isAtWord_28 (f7 := 0) (g7 := I) (mc7 := (0, 0)) (x7 := nX) hK hwo hm z0 (cJ_length hj) hs z0 (fun _ => qE_i ?_ rfl) (fun c => absurd le c) z1 (fun c => absurd le c) (fun c => absurd le c) (fun c => absurd le c) (fun c => absurd le c) z0 (fun c => absurd le c)
      unfold tq_isw
      rw [decide_eq_true e1, decide_eq_true e2, ← e, hc]; rfl
    | succ k ih =>
      intro i hi hc
      have nle : ¬ Int32.ofNat (zTl.getD j 0) ≤ nI i := nI_ge (by omega) hlen
      have ea : I 285 3 + nI i = nI (t.2.1 + i) := by rw [k3, nI_add]
      have ec : (nI i).toNatClampNeg = i := nI_clamp (by omega)
      refine bX4_isAtWord_28 (f7 := (zTb.getD j []).getD (nI i).toNatClampNeg 0) (g7 := I) (mc7 := (0, 0)) (x7 := nX) hK hwo hm z0 (cJ_length hj) hs z0 (fun c => absurd c nle) (fun _ => by rw [ea]; exact vp_in_nI (by omega) (by omega)) z1 (fun _ _ _ h => h) (fun _ => (cJ_charAt hj (vp_in_nI (by omega) hlen)).deep (by omega)) (fun _ => hs) ?_ z0 ?_
      · intro _ d
        rw [ea, nI_clamp (by omega), ec] at d
        rw [nI_1]
        refine ih (i + 1) (by omega) ?_
        unfold tq_cm
        rw [hc, decide_eq_true d]; rfl
      · intro _ d
        rw [ea, nI_clamp (by omega), ec] at d
        refine qE_i ?_ rfl
        unfold tq_isw
        rw [cm_ff (k := i) d _ (by omega), Bool.and_false, Bool.and_false]; rfl
  have esub : I 285 4 - I 285 3 = nI (t.2.2.1 - t.2.1) := by rw [k3, k4]; exact nI_sub o2
  refine bX4_isAtWord_0 (f4 := Int32.ofNat (zTl.getD j 0)) (g4 := I) hK hwo hm z0 ?_ z0 (fun _ => cJ_length hj) (fun _ => hs) ?_ z0 ?_ <;> rw [k2]
  · intro c
    refine qE_i ?_ rfl
    unfold tq_isw
    rw [decide_eq_false (fun e => c (by rw [e]; rfl)), Bool.false_and]; rfl
  · rw [esub]
    intro c d
    have e1 : t.1 = 1 := (nI_eq (a := t.1) (b := 1) (by omega) (by omega)).mp c
    have e2 : t.2.2.1 - t.2.1 = zTl.getD j 0 := (nI_eq (by omega) hlen).mp d
    exact loop e1 e2 (zTl.getD j 0) 0 (by omega) rfl
  · rw [esub]
    intro c d
    refine qE_i ?_ rfl
    unfold tq_isw
    rw [decide_eq_false (p := t.2.2.1 - t.2.1 = zTl.getD j 0) (fun e => d (by rw [e]; rfl)), Bool.false_and, Bool.and_false]; rfl
theorem k_adv (hm : isT w 4 285) {N : Nat} {t : zTk} (ht : kT I N t) : CT G w gl (yX4_advance, cX4_advance, 1, none) 1 (0, 0) [.ref 285] I (qV (fun J => J = ups I 285 (tk_put (I 285) (tq_nx (I 286) N t)))) nX :=
  k_advance hm t.2.2.2 ht.1.1 ht.1.2 ht.2.2.2.2 ht.2.1.2.2.1
theorem k_takeKeyword (hm : isT w 4 285) {N j : Nat} {t : zTk} (ht : kT I N t) (hj : j < 9) : CT G w gl (yX4_takeKeyword, cX4_takeKeyword, 2, some .boolean) 5 (0, 0) [.ref 285, .ref (1100 + j)] I (qE (b2 (tq_isw (I 286) t j)) (ups I 285 (if tq_isw (I 286) t j = true then tk_put (I 285) (tq_nx (I 286) N t) else fl_put (I 285) 1))) nX := by
  refine ct_of (by decide) [(0, .ref 285), (1, .ref (1100 + j))] rfl rfl (fun K hG hw hgl hwo hK => ?_)
  subst hG; subst hw; subst hgl
  have z0 : (0, 0).1 ≤ ((0, 0) : Nat × Nat).1 ∧ (0, 0).2 ≤ ((0, 0) : Nat × Nat).2 := ⟨Nat.le_refl _, Nat.le_refl _⟩
  refine bX4_takeKeyword_0 (mc1 := (0, 0)) (x1 := nX) hK hwo hm z0 (fun _ _ h => h) (k_isAtWord hm ht hj) z0 (fun _ => k_adv hm ht) z0 (fun c => ?_) z0 (fun _ => k_fail hm) z0 (fun c => ?_) (fun _ => Or.inl rfl)
  · rw [if_pos (b2_n0.mp c)]; exact qE_i (by rw [b2_n0.mp c]; rfl) rfl
  · rw [if_neg (by rw [b2_0.mp c]; decide)]; exact qE_i (by rw [b2_0.mp c]; rfl) rfl
theorem kt2 {I : zM} {N a : Nat} {t : zTk} (ht : kT I N t) (ha : a < 2 ^ 31) : I 285 2 = nI a ↔ t.1 = a := by
  rw [ht.2.2.1]; exact nI_eq (by have := ht.2.1.1; omega) ha
theorem k_takeSemicolon (hm : isT w 4 285) {N : Nat} {t : zTk} (ht : kT I N t) : CT G w gl (yX4_takeSemicolon, cX4_takeSemicolon, 1, some .boolean) 2 (0, 0) [.ref 285] I (qE (b2 (decide (t.1 = 3))) (ups I 285 (if t.1 = 3 then tk_put (I 285) (tq_nx (I 286) N t) else fl_put (I 285) 1))) nX := by
  refine ct_of (by decide) [(0, .ref 285)] rfl rfl (fun K hG hw hgl hwo hK => ?_)
  subst hG; subst hw; subst hgl
  have e := kt2 (a := 3) ht (by omega)
  refine bX4_takeSemicolon_0 hK hwo hm (fun _ => k_adv hm ht) (fun c => ?_) (fun _ => k_fail hm) (fun c => ?_) (fun _ => Or.inl rfl)
  · have c' := e.mp c; rw [if_pos c', decide_eq_true c']; exact qE_i rfl rfl
  · have c' : ¬ t.1 = 3 := fun z => c (e.mpr z); rw [if_neg c', decide_eq_false c']; exact qE_i rfl rfl
theorem k_isAtName (hm : isT w 4 285) {N : Nat} {t : zTk} (ht : kT I N t) : CT G w gl (yX4_isAtName, cX4_isAtName, 1, some .boolean) 1 (0, 0) [.ref 285] I (qE (b2 (decide (tq_short t = 0))) (if tq_short t = 0 then I else ups I 285 (fl_put (I 285) (nI (tq_short t))))) nX := by
  refine ct_of (by decide) [(0, .ref 285)] rfl rfl (fun K hG hw hgl hwo hK => ?_)
  subst hG; subst hw; subst hgl
  have e := kt2 (a := 1) ht (by omega)
  have hlt : t.2.2.1 - t.2.1 < 2 ^ 31 := by have := ht.2.1.2.2.1; have := ht.1.2; omega
  have esub : I 285 4 - I 285 3 = nI (t.2.2.1 - t.2.1) := by rw [ht.2.2.2.1, ht.2.2.2.2]; exact nI_sub ht.2.1.2.1
  have e6 := nI_leI (a := t.2.2.1 - t.2.1) (b := 6) hlt (by omega)
  rw [← esub] at e6
  refine bX4_isAtName_0 hK hwo hm (fun c d => ?_) (fun _ _ => k_fail hm) (fun c d _ => ?_) (fun _ _ q => absurd rfl q) (fun _ => k_fail hm) (fun c => ?_) (fun _ => Or.inl rfl)
  · have s : tq_short t = 0 := by unfold tq_short; rw [if_pos (e.mp c), if_pos (e6.mp d)]
    rw [if_pos s, decide_eq_true s]; exact qE_i rfl rfl
  · have s : tq_short t = 3 := by unfold tq_short; rw [if_pos (e.mp c), if_neg (fun z => d (e6.mpr z))]
    rw [s]; exact qE_i rfl rfl
  · have s : tq_short t = 1 := by unfold tq_short; rw [if_neg (fun z => c (e.mpr z))]
    rw [s]; exact qE_i rfl rfl
/-- clerks' names are short -/
def nmL (B : zBk) (c : Nat) : Prop := c ≤ 6 ∧ ∀ a, a < c → ∃ L, L ≤ 6 ∧ B (22 + a * 7) = nI L
theorem k_isNamed {s : Nat} (hs : isT w 9 s) (hb : isT w 21 286) {fr m a L : Nat} (ha : a < 6) (hL : L ≤ 6) (hv : I (s + 10) a = nI L) (hfr : fr + m ≤ 600) : CT G w gl (yX0_isNamed, cX0_isNamed, 6, some .boolean) 0 (0, 0) [.ref (s + 2), .int (nI a), .ref 286, .int (nI fr), .int (nI (fr + m))] I (qE (b2 (tq_same (vB I s) (I 286) fr m a)) I) nX := by
  refine ct_of (by decide) [(0, .ref (s + 2)), (1, .int (nI a)), (2, .ref 286), (3, .int (nI fr)), (4, .int (nI (fr + m)))] rfl rfl (fun K hG hw hgl hwo hK => ?_)
  subst hG; subst hw; subst hgl
  have hcl : (nI a).toNatClampNeg = a := nI_clamp (by omega)
  have e1 : LR (s + 2) 2 = s + 10 := (hs.lr hwo).2.2.2.2.1
  have e3 : LR (LR (s + 2) 1) a = s + 4 + a := by rw [(hs.lr hwo).2.2.2.1, (hs.lr hwo).2.2.2.2.2.2 a (by omega)]
  have hin : vp_in (nI a) 6 := vp_in_nI ha (by omega)
  have esub : nI (fr + m) - nI fr = nI m := by rw [nI_sub (by omega)]; congr 1; omega
  have loop : L = m → ∀ k i, i + k = L → tq_cm (fun k => vB I s (22 + a * 7 + 1 + k)) (fun k => I 286 (fr + k)) i = true → ZZ K (0, 0) 18 [(0, .ref (s + 2)), (1, .int (nI a)), (2, .ref 286), (3, .int (nI fr)), (4, .int (nI (fr + m))), (5, .int (nI i))] [] I := by
    intro e k
    induction k with
    | zero =>
      intro i hi hc
      have le : I (LR (s + 2) 2) (nI a).toNatClampNeg ≤ nI i := by rw [hcl, e1, hv, show i = L by omega]; exact Int32.le_refl _
      refine bX0_isNamed_18 hK hwo (hs.clk hwo) hb hin (fun _ => qE_i ?_ rfl) (fun c => absurd le c) (fun c => absurd le c) (fun c => absurd le c) (fun c => absurd le c) (fun c => absurd le c)
      unfold tq_same
      rw [voW (by omega), hv, e, decide_eq_true rfl, show m = i by omega, hc]; rfl
    | succ k ih =>
      intro i hi hc
      have nle : ¬ I (LR (s + 2) 2) (nI a).toNatClampNeg ≤ nI i := by rw [hcl, e1, hv]; exact nI_ge (by omega) (by omega)
      have ei : (nI i).toNatClampNeg = i := nI_clamp (by omega)
      refine bX0_isNamed_18 hK hwo (hs.clk hwo) hb hin (fun c => absurd c nle) (fun _ => hin) (fun _ => vp_in_nI (by omega) (by omega)) (fun _ => by rw [nI_add]; exact vp_in_nI (by omega) (by omega)) ?_ ?_
      · intro _ d
        rw [hcl, ei, e3, nI_add, nI_clamp (by omega)] at d
        rw [nI_1]
        refine ih (i + 1) (by omega) ?_
        unfold tq_cm
        rw [hc, voN (by omega) (by omega), decide_eq_true d]; rfl
      · intro _ d
        rw [hcl, ei, e3, nI_add, nI_clamp (by omega)] at d
        refine qE_i ?_ rfl
        unfold tq_same
        rw [cm_ff (k := i) (by rw [voN (by omega) (by omega)]; exact d) _ (by omega), Bool.and_false]; rfl
  refine bX0_isNamed_0 hK hwo (hs.clk hwo) hb hin ?_ ?_ <;> rw [hcl, e1, hv, esub]
  · intro c
    exact loop ((nI_eq (by omega) (by omega)).mp c) L 0 (by omega) rfl
  · intro c
    refine qE_i ?_ rfl
    unfold tq_same
    rw [voW (by omega), hv, decide_eq_false c]; rfl
theorem k_find {s : Nat} (hs : isT w 9 s) (hb : isT w 21 286) {fr m c : Nat} (hc : I (s + 2) 0 = nI c) (hL : nmL (vB I s) c) (hfr : fr + m ≤ 600) : CT G w gl (yX0_find, cX0_find, 5, some .int) 1 (0, 0) [.ref (s + 2), .ref 286, .int (nI fr), .int (nI (fr + m))] I (qE (tq_find (vB I s) (I 286) fr m 0 c) I) nX := by
  refine ct_of (by decide) [(0, .ref (s + 2)), (1, .ref 286), (2, .int (nI fr)), (3, .int (nI (fr + m)))] rfl rfl (fun K hG hw hgl hwo hK => ?_)
  subst hG; subst hw; subst hgl
  obtain ⟨hc6, hL⟩ := hL
  have key : ∀ k a, a + k = c → tq_find (vB I s) (I 286) fr m a k = tq_find (vB I s) (I 286) fr m 0 c → ZZ K (0, 0) 3 [(0, .ref (s + 2)), (1, .ref 286), (2, .int (nI fr)), (3, .int (nI (fr + m))), (4, .int (nI a))] [] I := by
    intro k
    induction k with
    | zero =>
      intro a ha he
      have le : I (s + 2) 0 ≤ nI a := by rw [hc, show a = c by omega]; exact Int32.le_refl _
      exact bX0_find_3 (f3 := 0) (g3 := I) hK hwo (hs.clk hwo) hb (fun _ => qE_i (by rw [← he]; rfl) rfl) (fun q => absurd le q) (fun q => absurd le q) (fun q => absurd le q)
    | succ k ih =>
      intro a ha he
      have nle : ¬ I (s + 2) 0 ≤ nI a := by rw [hc]; exact nI_ge (by omega) (by omega)
      obtain ⟨L, hL6, hv⟩ := hL a (by omega)
      rw [voW (by omega)] at hv
      refine bX0_find_3 hK hwo (hs.clk hwo) hb (fun q => absurd q nle) (fun _ => k_isNamed hs hb (by omega) hL6 hv hfr) (fun _ d => ?_) (fun _ d => ?_)
      · rw [nI_1]
        exact ih (a + 1) (by omega) (by rw [← he]; conv => rhs; unfold tq_find; rw [if_neg (by rw [b2_0.mp d]; decide)])
      · exact qE_i (by rw [← he]; unfold tq_find; rw [if_pos (b2_n0.mp d)]) rfl
  exact bX0_find_0 hK hwo (hs.clk hwo) hb (key c 0 (by omega) rfl)
theorem isT.byt {w : Nat × Nat} (hw : wOK w) (h : isT w 4 285) : isT w 21 286 := h.f (k := 0) (d := 21) hw rfl rfl rfl (by decide)
theorem k_takeClerk (hm : isT w 4 285) {s : Nat} (hs : isT w 9 s) {N c : Nat} {t : zTk} (ht : kT I N t) (hc : I (s + 2) 0 = nI c) (hL : nmL (vB I s) c) : CT G w gl (yX4_takeClerk, cX4_takeClerk, 3, some .int) 2 (0, 0) [.ref 285, .ref (s + 2)] I (qE (tq_clk (vB I s) (I 286) N c t).1 (ups I 285 (kF (I 285) (tq_clk (vB I s) (I 286) N c t).2.1 (tq_clk (vB I s) (I 286) N c t).2.2))) nX := by
  refine ct_of (by decide) [(0, .ref 285), (1, .ref (s + 2))] rfl rfl (fun K hG hw hgl hwo hK => ?_)
  subst hG; subst hw; subst hgl
  have eah : t.2.2.1 = t.2.1 + (t.2.2.1 - t.2.1) := by have := ht.2.1.2.1; omega
  have hfr : t.2.1 + (t.2.2.1 - t.2.1) ≤ 600 := by have := ht.2.1.2.1; have := ht.2.1.2.2.1; have := ht.1.2; omega
  have hfd := k_find (G := kG K) (w := kw K) (gl := kl K) hs (hm.byt hwo) hc hL hfr
  by_cases h0 : tq_short t = 0
  · have mn := k_isAtName (G := kG K) (w := kw K) (gl := kl K) hm ht
    rw [if_pos h0, decide_eq_true h0] at mn
    refine bX4_takeClerk_0 hK hwo hm (hs.clk hwo) mn (fun _ => by rw [ht.2.2.2.1, ht.2.2.2.2]; rw [← eah] at hfd; exact hfd) (fun _ _ => k_adv hm ht) (fun _ d => ?_) (fun _ _ => k_fail hm) (fun _ d => ?_) (fun c => absurd c (by decide))
    · have e : tq_clk (vB I s) (I 286) N c t = (tq_find (vB I s) (I 286) t.2.1 (t.2.2.1 - t.2.1) 0 c, 0, tq_nx (I 286) N t) := by unfold tq_clk; rw [if_pos h0, if_neg d]
      rw [e]; exact qE_i rfl (by rw [kF_0])
    · have e : tq_clk (vB I s) (I 286) N c t = (-1, 3, t) := by unfold tq_clk; rw [if_pos h0, if_pos d]
      rw [e]; exact qE_i d (by show _ = ups I 285 (kF (I 285) 3 t); rw [kF_fail ht (by decide)]; rfl)
  · have mn := k_isAtName (G := kG K) (w := kw K) (gl := kl K) hm ht
    rw [if_neg h0, decide_eq_false h0] at mn
    have e : tq_clk (vB I s) (I 286) N c t = (-1, tq_short t, t) := by unfold tq_clk; rw [if_neg h0]
    refine bX4_takeClerk_0 (f3 := 0) (g3 := I) (g5 := I) (f7 := 0) (g7 := I) hK hwo hm (hs.clk hwo) mn (fun c => absurd rfl c) (fun c => absurd rfl c) (fun c => absurd rfl c) (fun c => absurd rfl c) (fun c => absurd rfl c) (fun _ => ?_)
    rw [e]; exact qE_i rfl (by rw [kF_fail ht h0])
theorem k_takeNumber (hm : isT w 4 285) {N p : Nat} {t : zTk} (ht : kT I N t) (hp : p < 7) : CT G w gl (yX4_takeNumber, cX4_takeNumber, 4, some .boolean) 1 (0, 0) [.ref 285, .int (nI p)] I (qE (b2 (decide (t.1 = 2))) (if t.1 = 2 then ups I 287 (upd (I 287) p t.2.2.2) else ups I 285 (fl_put (I 285) 1))) nX := by
  refine ct_of (by decide) [(0, .ref 285), (1, .int (nI p))] rfl rfl (fun K hG hw hgl hwo hK => ?_)
  subst hG; subst hw; subst hgl
  have e := kt2 (a := 2) ht (by omega)
  have hN := ht.1.2
  obtain ⟨o1, o2, o3, o4, o5⟩ := ht.2.1
  have key : t.1 = 2 → ∀ k i, t.2.1 + i + k = t.2.2.1 → ZZ K (0, 0) 21 [(0, .ref 285), (1, .int (nI p)), (2, .int (tq_val (I 286) t.2.1 i)), (3, .int (nI (t.2.1 + i)))] [] I := by
    intro e2 k
    induction k with
    | zero =>
      intro i hi
      have le : I 285 4 ≤ nI (t.2.1 + i) := by rw [ht.2.2.2.2, show t.2.1 + i = t.2.2.1 by omega]; exact Int32.le_refl _
      refine bX4_takeNumber_21 hK hwo hm (fun _ => vp_in_nI hp (by omega)) (fun _ => ?_) (fun c => absurd le c) (fun c => absurd le c)
      rw [if_pos e2, decide_eq_true e2]
      refine qE_i rfl ?_
      rw [nI_clamp (by omega), (o5 e2).2.1, show i = t.2.2.1 - t.2.1 by omega]
      rfl
    | succ k ih =>
      intro i hi
      have nle : ¬ I 285 4 ≤ nI (t.2.1 + i) := by rw [ht.2.2.2.2]; exact nI_ge (by omega) (by omega)
      refine bX4_takeNumber_21 hK hwo hm (fun c => absurd c nle) (fun c => absurd c nle) (fun _ => vp_in_nI (by omega) (by omega)) (fun _ => ?_)
      rw [nI_clamp (by omega), nI_1]
      exact ih (i + 1) (by omega)
  refine bX4_takeNumber_0 hK hwo hm (fun c => ?_) (fun _ => k_fail hm) (fun c => ?_) (fun _ => Or.inl rfl)
  · rw [ht.2.2.2.1]
    exact key (e.mp c) (t.2.2.1 - t.2.1) 0 (by omega)
  · have c' : ¬ t.1 = 2 := fun z => c (e.mpr z)
    rw [if_neg c', decide_eq_false c']; exact qE_i rfl rfl
theorem kT_287 {N : Nat} {t : zTk} {A : Nat → Int32} (h : kT I N t) : kT (ups I 287 A) N t := by
  unfold kT
  rw [ups_ne _ _ (show 285 ≠ 287 by decide), ups_ne _ _ (show 286 ≠ 287 by decide)]
  exact h
theorem k_takeNumbers (hm : isT w 4 285) {N n r1 r2 : Nat} {lo hi : Nat → Int32} {t : zTk} (ht : kT I N t) (hn : n ≤ 7) (o1 : zSA G r1 n lo) (o2 : zSA G r2 n hi) : CT G w gl (yX4_takeNumbers, cX4_takeNumbers, 4, some .boolean) 2 (0, 0) [.ref 285, .ref r1, .ref r2] I (qE (b2 (decide ((tq_nums (I 286) N lo hi n 0 t (I 287)).1 = 0))) (ups (ups I 285 (kF (I 285) (tq_nums (I 286) N lo hi n 0 t (I 287)).1 (tq_nums (I 286) N lo hi n 0 t (I 287)).2.1)) 287 (tq_nums (I 286) N lo hi n 0 t (I 287)).2.2)) nX := by
  refine ct_of (by decide) [(0, .ref 285), (1, .ref r1), (2, .ref r2)] rfl rfl (fun K hG hw hgl hwo hK => ?_)
  subst hG; subst hw; subst hgl
  have l7 : Int32.ofNat (LL 287) = nI 7 := rfl
  have key : ∀ (b : zBk) (P : Option Value → zM → Prop), zIs K yX4_takeNumbers.cls cX4_takeNumbers 4 (some .boolean) 2 (0, 0) P nX → ∀ k i t (I : zM), I 286 = b → kT I N t → i + k = n → P (some (.int (b2 (decide ((tq_nums b N lo hi k i t (I 287)).1 = 0))))) (ups (ups I 285 (kF (I 285) (tq_nums b N lo hi k i t (I 287)).1 (tq_nums b N lo hi k i t (I 287)).2.1)) 287 (tq_nums b N lo hi k i t (I 287)).2.2) → ZZ K (0, 0) 2 [(0, .ref 285), (1, .ref r1), (2, .ref r2), (3, .int (nI i))] [] I := by
    intro b P hK k
    induction k with
    | zero =>
      intro i t I hb ht hik hP
      have le : Int32.ofNat n ≤ nI i := by rw [show i = n by omega]; exact Int32.le_refl _
      refine bX4_takeNumbers_2 (f7 := 0) (g7 := I) (f12 := 0) (g12 := I) (g14 := I) (f16 := 0) (g16 := I) hK hwo hm o1 o2 (fun _ => ?_) (fun c => absurd le c) (fun c => absurd le c) (fun c => absurd le c) (fun c => absurd le c) (fun c => absurd le c) (fun c => absurd le c) (fun c => absurd le c) (fun c => absurd le c) (fun c => absurd le c) (fun c => absurd le c) (fun c => absurd le c) (fun c => absurd le c) (fun c => absurd le c)
      unfold tq_nums at hP
      simp only [kF_0, put_self ht, uu_id] at hP
      exact hP
    | succ k ih =>
      intro i t I hb ht hik hP
      have nle : ¬ Int32.ofNat n ≤ nI i := nI_ge (by omega) (by omega)
      have nle7 : ¬ Int32.ofNat (LL 287) ≤ nI i := by rw [l7]; exact nI_ge (by omega) (by omega)
      have hcl : (nI i).toNatClampNeg = i := nI_clamp (by omega)
      have mt := k_takeNumber (G := kG K) (w := kw K) (gl := kl K) (p := i) hm ht (by omega)
      by_cases e2 : t.1 = 2
      · rw [if_pos e2, decide_eq_true e2] at mt
        have ht7 := kT_287 (A := upd (I 287) i t.2.2.2) ht
        have vv : (ups I 287 (upd (I 287) i t.2.2.2)) 287 i = t.2.2.2 := by rw [ups_same, upd_same]
        have mo := c_outside (G := kG K) (w := kw K) (gl := kl K) (I := ups I 287 (upd (I 287) i t.2.2.2)) (x := t.2.2.2) (lo := lo i) (hi := hi i)
        have e5 : (ups I 287 (upd (I 287) i t.2.2.2)) 285 = I 285 := ups_ne _ _ (by decide)
        have e6 : (ups I 287 (upd (I 287) i t.2.2.2)) 286 = b := by rw [ups_ne _ _ (by decide)]; exact hb
        by_cases h3 : s_in t.2.2.2 (lo i) (hi i) = true
        · rw [h3] at mo
          have ma := k_adv (G := kG K) (w := kw K) (gl := kl K) hm ht7
          rw [e5, e6] at ma
          refine bX4_takeNumbers_2 (f16 := 0) (g16 := I) hK hwo hm o1 o2 (fun c => absurd c nle) (fun _ c => absurd c nle) (fun _ _ c => absurd c nle7) (fun _ _ _ => mt) (fun _ _ _ _ => vp_in_nI (by omega) (by omega)) (fun _ _ _ _ => vp_in_nI (by omega) (by omega)) (fun _ _ _ _ => vp_in_nI (by omega) (by omega)) (fun _ _ _ _ => by rw [hcl, vv]; exact mo) (fun _ _ _ _ _ => ma) (fun _ _ _ _ _ => ?_) (fun _ _ _ _ d => absurd rfl d) (fun _ _ _ _ d => absurd rfl d) (fun _ _ _ _ d => absurd rfl d) (fun _ _ _ d => absurd d (by decide))
          rw [nI_1]
          have ht8 : kT (ups (ups I 287 (upd (I 287) i t.2.2.2)) 285 (tk_put (I 285) (tq_nx b N t))) N (tq_nx b N t) := by
            have := kT_put (F := I 285) (t' := tq_nx b N t) ht7 (by rw [e6]; exact kT_nx (by rw [← hb]; exact ht.2.1)) (by rw [e5])
            exact this
          refine ih (i + 1) _ _ (by rw [ups_ne _ _ (by decide)]; exact e6) ht8 (by omega) ?_
          unfold tq_nums at hP
          rw [if_pos e2, if_pos h3] at hP
          rw [ups_same, ups_ne _ _ (show 287 ≠ 285 by decide), ups_same, kF_put, ups_ups, ups_sw (show 287 ≠ 285 by decide), ups_ups]
          exact hP
        · have h3' : s_in t.2.2.2 (lo i) (hi i) = false := by simpa using h3
          rw [h3'] at mo
          refine bX4_takeNumbers_2 (g14 := I) hK hwo hm o1 o2 (fun c => absurd c nle) (fun _ c => absurd c nle) (fun _ _ c => absurd c nle7) (fun _ _ _ => mt) (fun _ _ _ _ => vp_in_nI (by omega) (by omega)) (fun _ _ _ _ => vp_in_nI (by omega) (by omega)) (fun _ _ _ _ => vp_in_nI (by omega) (by omega)) (fun _ _ _ _ => by rw [hcl, vv]; exact mo) (fun _ _ _ _ d => absurd d (by decide)) (fun _ _ _ _ d => absurd d (by decide)) (fun _ _ _ _ _ => k_fail hm) (fun _ _ _ _ _ => ?_) (fun _ _ _ _ _ => Or.inl rfl) (fun _ _ _ d => absurd d (by decide))
          unfold tq_nums at hP
          rw [if_pos e2, if_neg h3] at hP
          rw [e5, ups_sw (show 287 ≠ 285 by decide)]
          simp only [kF_fail ht (show 2 ≠ 0 by decide)] at hP
          exact hP
      · rw [if_neg e2, decide_eq_false e2] at mt
        refine bX4_takeNumbers_2 (f12 := 0) (g12 := I) (g14 := I) (f16 := 0) (g16 := I) hK hwo hm o1 o2 (fun c => absurd c nle) (fun _ c => absurd c nle) (fun _ _ c => absurd c nle7) (fun _ _ _ => mt) (fun _ _ _ c => absurd rfl c) (fun _ _ _ c => absurd rfl c) (fun _ _ _ c => absurd rfl c) (fun _ _ _ c => absurd rfl c) (fun _ _ _ c => absurd rfl c) (fun _ _ _ c => absurd rfl c) (fun _ _ _ c => absurd rfl c) (fun _ _ _ c => absurd rfl c) (fun _ _ _ c => absurd rfl c) (fun _ _ _ _ => ?_)
        unfold tq_nums at hP
        rw [if_neg e2] at hP
        simp only [kF_fail ht (show 1 ≠ 0 by decide)] at hP
        rw [show I 287 = (ups I 285 (fl_put (I 285) (nI 1))) 287 from (ups_ne _ _ (by decide)).symm, ups_id] at hP
        exact hP
  exact bX4_takeNumbers_0 hK hwo hm o1 o2 (key _ _ hK n 0 t I rfl ht (by omega) (qE_i rfl rfl))
end KIB
