/-! THE CLASS: reading a script -/
/-- the commands' rows D, and how many -/
def dput (I : zM) (D : zM) (x : Int32) : zM := fun q => if 27 ≤ q ∧ q < 87 then D q else if q = 25 then upd (I 25) 1 x else I q
theorem zLR26 : ∀ j, j < 30 → LR 26 j = 27 + 2 * j ∧ LT (27 + 2 * j) = 2 ∧ LR (27 + 2 * j) 2 = 28 + 2 * j ∧ LL (28 + 2 * j) = 4 ∧ LT (28 + 2 * j) = 20 := by decide +kernel
section DPA
variable {I D : zM} {x : Int32} {s N : Nat} {cu : Int32} {r : zKs}
theorem dput_in {q : Nat} (h : 27 ≤ q) (h2 : q < 87) : dput I D x q = D q := if_pos ⟨h, h2⟩
theorem dput_25 : dput I D x 25 = upd (I 25) 1 x := by unfold dput; rw [if_neg (by omega), if_pos rfl]
theorem dput_ot {q : Nat} (h : q < 27 ∨ 87 ≤ q) (h2 : q ≠ 25) : dput I D x q = I q := by unfold dput; rw [if_neg (by omega), if_neg h2]
theorem dput_ups {q : Nat} {F : Nat → Int32} (h : 27 ≤ q) (h2 : q < 87) : ups (dput I D x) q F = dput I (ups D q F) x := by
  funext r
  by_cases e : r = q
  · subst e; rw [ups_same, dput_in h h2, ups_same]
  · rw [ups_ne _ _ e]
    unfold dput
    rw [ups_ne D F e]
theorem dput_up25 {y : Int32} : up (dput I D x) 25 1 y = dput I D y := by
  funext r
  rw [up_def, dput_25, upd_upd]
  unfold ups dput
  by_cases e : r = 25
  · rw [if_pos e, if_neg (by omega), if_pos e]
  · rw [if_neg e, if_neg e, if_neg e]
theorem xR_ups {q : Nat} {F : Nat → Int32} (h1 : q < s ∨ s + 24 ≤ q) (h2 : q ≠ 285) (h3 : q ≠ 287) : ups (xR I s cu r) q F = xR (ups I q F) s cu r := by
  unfold xR
  rw [ups_ne _ _ (Ne.symm h2), sput_ups h1]
  rw [ups_sw (a := 287) (b := q) (Ne.symm h3), ups_sw (a := 285) (b := q) (Ne.symm h2)]
theorem xD_up {q k : Nat} {y : Int32} (h : 27 ≤ q) (h2 : q < 87) : up (xR (dput I D x) 288 cu r) q k y = xR (dput I (up D q k y) x) 288 cu r := by
  rw [up_def, xR_ot (by omega) (by omega) (by omega), dput_in h h2, xR_ups (by omega) (by omega) (by omega), dput_ups h h2]
  rfl
theorem xD_ups {q : Nat} {F : Nat → Int32} (h : 27 ≤ q) (h2 : q < 87) : ups (xR (dput I D x) 288 cu r) q F = xR (dput I (ups D q F) x) 288 cu r := by
  rw [xR_ups (by omega) (by omega) (by omega), dput_ups h h2]
theorem xD_25 {y : Int32} : up (xR (dput I D x) 288 cu r) 25 1 y = xR (dput I D y) 288 cu r := by
  rw [up_def, xR_ot (by omega) (by omega) (by omega), xR_ups (by omega) (by omega) (by omega), ← up_def, dput_up25]
theorem xD_r {q : Nat} (h : 27 ≤ q) (h2 : q < 87) : xR (dput I D x) 288 cu r q = D q := by
  rw [xR_ot (by omega) (by omega) (by omega), dput_in h h2]
theorem xD_c : xR (dput I D x) 288 cu r 25 1 = x := by
  rw [xR_ot (by omega) (by omega) (by omega), dput_25, upd_same]
end DPA
abbrev zCs : Type := Nat × zTk × zM × (Nat → Int32)
def kc_m (k : Nat) : Nat := if k = 0 then 4 else if k = 3 ∨ k = 4 then 2 else 1
theorem kc_m5 : ∀ k, k ≤ 5 → zS5 4 k = nI (kc_m k) ∧ kc_m k ≤ 4 := by
  intro k hk
  rcases (show k = 0 ∨ k = 1 ∨ k = 2 ∨ k = 3 ∨ k = 4 ∨ k = 5 by omega) with rfl | rfl | rfl | rfl | rfl | rfl <;> exact ⟨rfl, by decide⟩
def kc_fin (b : zBk) (N n : Nat) (D : zM) (m : Nat) (q : Nat × zTk × (Nat → Int32)) : zCs := if q.1 = 0 then (if q.2.1.1 = 3 then (0, tq_nx b N q.2.1, ups D (28 + 2 * n) (va_cpy q.2.2 (D (28 + 2 * n)) 0 0 m), q.2.2) else (1, q.2.1, D, q.2.2)) else (q.1, q.2.1, D, q.2.2)
def kc_let (b : zBk) (N n : Nat) (D : zM) (A : Nat → Int32) (q : Int32 × Nat × zTk) : zCs := if q.1 = -1 then (q.2.1, q.2.2, up D (27 + 2 * n) 1 q.1, A) else kc_fin b N n (up D (27 + 2 * n) 1 q.1) 4 (tq_anys b N 4 0 q.2.2 A)
def kc_cmd (b : zBk) (N : Nat) (X : zBk) (c k n : Nat) (t : zTk) (D : zM) (A : Nat → Int32) : zCs :=
  if k = 0 then kc_let b N n (up D (27 + 2 * n) 0 (nI k)) A (tq_clk X b N c t) else kc_fin b N n (up D (27 + 2 * n) 0 (nI k)) (kc_m k) (tq_anys b N (kc_m k) 0 t A)
def kc_scr (b : zBk) (N : Nat) (X : zBk) (c : Nat) : Nat → Nat → zTk → zM → (Nat → Int32) → zCs × Nat
  | 0, n, t, D, A => ((0, t, D, A), n)
  | k + 1, n, t, D, A => if t.1 = 0 then ((0, t, D, A), n) else if sp_cmd b t 6 0 = -1 then ((1, t, D, A), n) else if n = 30 then ((4, t, D, A), n) else
      (if (kc_cmd b N X c (sp_cmd b t 6 0).toNatClampNeg n (tq_nx b N t) D A).1 = 0 then kc_scr b N X c k (n + 1) (kc_cmd b N X c (sp_cmd b t 6 0).toNatClampNeg n (tq_nx b N t) D A).2.1 (kc_cmd b N X c (sp_cmd b t 6 0).toNatClampNeg n (tq_nx b N t) D A).2.2.1 (kc_cmd b N X c (sp_cmd b t 6 0).toNatClampNeg n (tq_nx b N t) D A).2.2.2
      else (kc_cmd b N X c (sp_cmd b t 6 0).toNatClampNeg n (tq_nx b N t) D A, n))
section KCS
variable {G : zG} {w : Nat × Nat} {gl : Launch} {I D : zM} {s N n : Nat} {cu : Int32} {t : zTk} {X : zBk} {A : Nat → Int32}
theorem x_kind (hm : isT w 4 285) (hp : pOK I s N) (hok : tOK (I 286) N t) : CT G w gl (yX7_kindOf, cX7_kindOf, 1, some .int) 5 (0, 0) [.ref 285] (xR I s cu (0, t, X, A)) (qE (sp_cmd (I 286) t 6 0) (xR I s cu (0, t, X, A))) nX := by
  refine ct_of (by decide) [(0, .ref 285)] rfl rfl (fun K hG hw hgl hwo hK => ?_)
  subst hG; subst hw; subst hgl
  have wd : ∀ j : Nat, j < 9 → CT (kG K) (kw K) (kl K) (yX4_isAtWord, cX4_isAtWord, 3, some .boolean) 4 (0, 0) [.ref 285, .ref (1100 + j)] (xR I s cu (0, t, X, A)) (qE (b2 (tq_isw (I 286) t j)) (xR I s cu (0, t, X, A))) nX := fun j hj => x_word hm hp hok hj
  have w2 := wd 2 (by omega)
  have w3 := wd 3 (by omega)
  have w4 := wd 4 (by omega)
  have w5 := wd 5 (by omega)
  have w6 := wd 6 (by omega)
  have w7 := wd 7 (by omega)
  have f : ∀ j : Nat, b2 (tq_isw (I 286) t j) = 0 → ¬ tq_isw (I 286) t j = true := fun j z => by rw [b2_0.mp z]; decide
  refine bX7_kindOf_0 (mc1 := (0, 0)) (x1 := nX) (mc3 := (0, 0)) (x3 := nX) (mc5 := (0, 0)) (x5 := nX) (mc7 := (0, 0)) (x7 := nX) (mc9 := (0, 0)) (x9 := nX) (mc11 := (0, 0)) (x11 := nX) hK hwo hm ⟨by decide, by decide⟩ (fun _ _ z => z.elim) w2 ⟨by decide, by decide⟩ (fun _ _ _ z => z.elim) (fun _ => w3) ⟨by decide, by decide⟩ (fun _ _ _ _ z => z.elim) (fun _ _ => w4) ⟨by decide, by decide⟩ (fun _ _ _ _ _ z => z.elim) (fun _ _ _ => w5) ⟨by decide, by decide⟩ (fun _ _ _ _ _ _ z => z.elim) (fun _ _ _ _ => w6) ⟨by decide, by decide⟩ (fun _ _ _ _ _ _ _ z => z.elim) (fun _ _ _ _ _ => w7) ⟨by decide, by decide⟩ (fun a b c d e g => qE_i ?_ rfl) ⟨by decide, by decide⟩ (fun a b c d e g => qE_i ?_ rfl) ⟨by decide, by decide⟩ (fun a b c d e => qE_i ?_ rfl) ⟨by decide, by decide⟩ (fun a b c d => qE_i ?_ rfl) ⟨by decide, by decide⟩ (fun a b c => qE_i ?_ rfl) ⟨by decide, by decide⟩ (fun a b => qE_i ?_ rfl) ⟨by decide, by decide⟩ (fun a => qE_i ?_ rfl)
  · simp only [sp_cmd, if_neg (f 2 a), if_neg (f 3 b), if_neg (f 4 c), if_neg (f 5 d), if_neg (f 6 e), if_neg (f 7 g)]
  · simp only [sp_cmd, if_neg (f 2 a), if_neg (f 3 b), if_neg (f 4 c), if_neg (f 5 d), if_neg (f 6 e), if_pos (b2_n0.mp g)]; rfl
  · simp only [sp_cmd, if_neg (f 2 a), if_neg (f 3 b), if_neg (f 4 c), if_neg (f 5 d), if_pos (b2_n0.mp e)]; rfl
  · simp only [sp_cmd, if_neg (f 2 a), if_neg (f 3 b), if_neg (f 4 c), if_pos (b2_n0.mp d)]; rfl
  · simp only [sp_cmd, if_neg (f 2 a), if_neg (f 3 b), if_pos (b2_n0.mp c)]; rfl
  · simp only [sp_cmd, if_neg (f 2 a), if_pos (b2_n0.mp b)]; rfl
  · simp only [sp_cmd, if_pos (b2_n0.mp a)]; rfl
/-- the memory at a command's result -/
def xC (I : zM) (cu : Int32) (X : zBk) (n : Nat) (r : zCs) : zM := xR (dput I r.2.2.1 (nI (if r.1 = 0 then n + 1 else n))) 288 cu (r.1, r.2.1, X, r.2.2.2)
theorem anys_ok2 {b : zBk} {k i : Nat} (h : tOK b N t) : tOK b N (tq_anys b N k i t A).2.1 := anys_ok k i t A h
theorem cmd_ok {b : zBk} {c k : Nat} (h : tOK b N t) : tOK b N (kc_cmd b N X c k n t D A).2.1 := by
  have fin : ∀ (D : zM) (m : Nat) (q : Nat × zTk × (Nat → Int32)), tOK b N q.2.1 → tOK b N (kc_fin b N n D m q).2.1 := fun D m q h => by
    unfold kc_fin
    split
    · split
      · exact kT_nx h
      · exact h
    · exact h
  unfold kc_cmd
  split
  · unfold kc_let
    split
    · exact clk_ok h
    · exact fin _ _ _ (anys_ok2 (clk_ok h))
  · exact fin _ _ _ (anys_ok2 h)
theorem dp_286 {x : Int32} : dput I D x 286 = I 286 := dput_ot (by omega) (by omega)
theorem dp_ok {x : Int32} (hp : pOK I 288 N) : pOK (dput I D x) 288 N := ⟨hp.1, by rw [dput_ot (by omega) (by omega)]; exact hp.2.1, hp.2.2⟩
theorem x_cmd (hsc : isT w 7 25) (hm : isT w 4 285) (hs : isT w 9 288) (hp : pOK I 288 N) (hok : tOK (I 286) N t) {c k : Nat} (hk : k ≤ 5) (hn : n < 30) (h7 : X 7 = nI c) (hL : nmL X c) {r : zCs} (hr : r = kc_cmd (I 286) N X c k n t D A) : CT G w gl (yX7_readCommand, cX7_readCommand, 6, some .boolean) 3 (0, 0) [.ref 25, .int (nI k), .ref 285, .ref 290] (xR (dput I D (nI n)) 288 cu (0, t, X, A)) (qE (b2 (decide (r.1 = 0))) (xC I cu X n r)) nX := by
  refine ct_of (by decide) [(0, .ref 25), (1, .int (nI k)), (2, .ref 285), (3, .ref 290)] rfl rfl (fun K hG hw hgl hwo hK => ?_)
  subst hG; subst hw; subst hgl
  obtain ⟨l1, l2, l3, l4, l5⟩ := zLR26 n hn
  have hcl : isT (kw K) 1 290 := hs.clk hwo
  have ha26 : isT (kw K) 33 26 := hsc.f (k := 0) (d := 33) hwo rfl rfl rfl (by decide)
  have tc : isT (kw K) 2 (27 + 2 * n) := by
    have h := ha26.a (i := nI n) (d := 2) hwo (show vp_in (nI n) 30 from vp_in_nI hn (by omega)) rfl (fun _ => rfl) (by decide)
    rw [nI_clamp (by omega), l1] at h; exact h
  have tn : isT (kw K) 20 (28 + 2 * n) := by
    have h := tc.f (k := 2) (d := 20) hwo rfl rfl rfl (by decide)
    rw [l3] at h; exact h
  have t287 : isT (kw K) 20 287 := hm.f (k := 5) (d := 20) hwo rfl rfl rfl (by decide)
  have e25 : ∀ (E : zM) (r : zKs), xR (dput I E (nI n)) 288 cu r 25 1 = nI n := fun E r => xD_c
  have el : LR 26 (xR (dput I D (nI n)) 288 cu (0, t, X, A) 25 1).toNatClampNeg = 27 + 2 * n := by rw [e25, nI_clamp (by omega), l1]
  have e0 : ∀ (E : zM) (y : zKs) (x : Int32), up (xR (dput I E (nI n)) 288 cu y) (27 + 2 * n) 0 x = xR (dput I (up E (27 + 2 * n) 0 x) (nI n)) 288 cu y := fun E y x => xD_up (by omega) (by omega)
  have e1 : ∀ (E : zM) (y : zKs) (x : Int32), up (xR (dput I E (nI n)) 288 cu y) (27 + 2 * n) 1 x = xR (dput I (up E (27 + 2 * n) 1 x) (nI n)) 288 cu y := fun E y x => xD_up (by omega) (by omega)
  have fin : ∀ (E : zM) (t : zTk) (m : Nat), tOK (I 286) N t → kc_m k = m → r = kc_fin (I 286) N n E m (tq_anys (I 286) N m 0 t A) → ZZ K (0, 0) 42 [(0, .ref 25), (1, .int (nI k)), (2, .ref 285), (3, .ref 290), (4, .ref (27 + 2 * n))] [] (xR (dput I E (nI n)) 288 cu (0, t, X, A)) := fun E t m hok em hr => by
    obtain ⟨z1, z2⟩ := kc_m5 k hk
    rw [em] at z1 z2
    have ez : zS5 4 (nI k).toNatClampNeg = nI m := by rw [nI_clamp (by omega)]; exact z1
    generalize hq : tq_anys (I 286) N m 0 t A = q at hr
    have okq : tOK (I 286) N q.2.1 := by rw [← hq]; exact anys_ok2 hok
    have m2 := x_anys (G := kG K) (w := kw K) (gl := kl K) (I := dput I E (nI n)) (s := 288) (N := N) (cu := cu) (t := t) (X := X) (A := A) hm (dp_ok hp) (by rw [dp_286]; exact hok) (n := m) (by omega) (q := q) (by rw [dp_286]; exact hq.symm)
    have m5 := x_semi (G := kG K) (w := kw K) (gl := kl K) (I := dput I E (nI n)) (s := 288) (N := N) (cu := cu) (t := q.2.1) (X := X) (A := q.2.2) hm (dp_ok hp) (by rw [dp_286]; exact okq)
    rw [dp_286] at m5
    unfold kc_fin at hr
    by_cases h0 : q.1 = 0
    · rw [if_pos h0] at hr
      rw [h0] at m2
      by_cases h3 : q.2.1.1 = 3
      · rw [if_pos h3] at hr m5
        rw [h3] at m5
        refine bX7_readCommand_42 hK hwo hsc hm hcl tc (vp_in_nI (by omega) (by omega)) (by rw [ez]; exact m2) (fun z => absurd z (by decide)) (fun _ => m5) (fun _ _ => ?_) (fun _ z => absurd z (by decide))
        rw [ez, l3]
        refine zz_acopy (t := 0) (ty := .int) (n := m) hK.1 hK.2.1 hK.2.2.2.1 (rX7_readCommand 15 rfl) (Or.inl rfl) (fun _ => rfl) rfl t287 tn rfl rfl rfl (by show m ≤ 7; omega) (by rw [l4]; omega) (by omega) (fun _ _ => rfl) rfl (z_dec dX7_readCommand 42 rfl) ?_
        rw [xR_287, xD_r (by omega) (by omega), xD_ups (by omega) (by omega)]
        refine bX7_readCommand_83 hK hwo hsc hm hcl tc ?_
        rw [e25, nI_1, xD_25, hr]
        exact qE_i rfl rfl
      · rw [if_neg h3] at hr m5
        have ef : b2 (decide (q.2.1.1 = 3)) = 0 := by rw [decide_eq_false h3]; rfl
        refine bX7_readCommand_42 hK hwo hsc hm hcl tc (vp_in_nI (by omega) (by omega)) (by rw [ez]; exact m2) (fun z => absurd z (by decide)) (fun _ => m5) (fun _ z => absurd ef z) (fun _ _ => ?_)
        rw [hr]
        exact qE_i rfl rfl
    · rw [if_neg h0] at hr
      refine bX7_readCommand_42 (f5 := 0) (g5 := I) hK hwo hsc hm hcl tc (vp_in_nI (by omega) (by omega)) (by rw [ez]; exact m2) (fun _ => ?_) (fun z => absurd (b2d h0) z) (fun z => absurd (b2d h0) z) (fun z => absurd (b2d h0) z)
      rw [hr]
      refine qE_i (b2d h0).symm ?_
      unfold xC
      rw [if_neg h0]
  unfold kc_cmd at hr
  by_cases hk0 : k = 0
  · subst hk0
    rw [if_pos rfl] at hr
    generalize hq : tq_clk X (I 286) N c t = q at hr
    have okq : tOK (I 286) N q.2.2 := by rw [← hq]; exact clk_ok hok
    have m4 := x_clk (G := kG K) (w := kw K) (gl := kl K) (I := dput I (up D (27 + 2 * n) 0 (nI 0)) (nI n)) (s := 288) (N := N) (cu := cu) (t := t) (X := X) (A := A) hm hs (dp_ok hp) (by rw [dp_286]; exact hok) h7 hL (q := q) (by rw [dp_286]; exact hq.symm)
    unfold kc_let at hr
    have ev : ∀ (E : zM) (y : zKs) (x : Int32), xR (dput I (up E (27 + 2 * n) 1 x) (nI n)) 288 cu y (27 + 2 * n) 1 = x := fun E y x => by rw [xD_r (by omega) (by omega), up_def, ups_same, upd_same]
    refine bX7_readCommand_0 hK hwo hsc hm hcl (by rw [e25]; exact vp_in_nI (by omega) (by omega)) (fun z => absurd rfl z) (fun _ => by rw [el, e0]; exact m4) (fun _ z => ?_) (fun _ z => ?_)
    · rw [el, e1, ev] at z
      rw [if_neg z] at hr
      rw [el, e1]
      have hc0 : q.2.1 = 0 := by rw [← hq] at z ⊢; exact (clk_0 z).1
      rw [hc0]
      exact fin _ _ 4 okq rfl hr
    · rw [el, e1, ev] at z
      rw [if_pos z] at hr
      have hcn : q.2.1 ≠ 0 := by rw [← hq] at z ⊢; exact clk_1 z (by have := hL.1; omega)
      rw [el, e1, hr]
      refine qE_i (b2d hcn).symm ?_
      unfold xC
      rw [if_neg hcn]
  · rw [if_neg hk0] at hr
    have ek : ¬ nI k = 0 := fun z => hk0 ((nI_eq (a := k) (b := 0) (by omega) (by omega)).mp z)
    refine bX7_readCommand_0 (f4 := 0) (g4 := I) hK hwo hsc hm hcl (by rw [e25]; exact vp_in_nI (by omega) (by omega)) (fun _ => ?_) (fun z => absurd z ek) (fun z => absurd z ek) (fun z => absurd z ek)
    rw [el, e0]
    exact fin _ _ _ hok rfl hr
end KCS
