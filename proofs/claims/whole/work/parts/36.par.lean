/-! THE REFERENCE'S PARSER -/
def rt_put (F : zBk) (t : zTk) : zBk := fun j => if j = 10 then nI t.2.2.1 else if j = 11 then nI t.1 else if j = 12 then nI t.2.1 else if j = 13 then t.2.2.2 else F j
def wr_put (F : zBk) (code : Int32) : zBk := upd (upd F 5 code) 6 (F 12)
def rF (F : zBk) (code : Nat) (t : zTk) : zBk := if code = 0 then rt_put F t else wr_put (rt_put F t) (nI code)
def rB (I : zM) (N : Nat) : Prop := I 312 4 = nI N ∧ N ≤ 600
abbrev zRs : Type := Nat × zTk × zBk
/-- the memory at a parser's result, from I on -/
def mR (I : zM) (r : zRs) : zM := ups (ups I 312 (rF (I 312) r.1 r.2.1)) 313 r.2.2
def rbind (r : zRs) (f : zTk → zBk → zRs) : zRs := if r.1 = 0 then f r.2.1 r.2.2 else r
def rp_semi (b : zBk) (N : Nat) (t : zTk) (B : zBk) : zRs := if t.1 = 3 then (0, tq_nx b N t, B) else (1, t, B)
def rp_rng (b : zBk) (N : Nat) (t : zTk) (B : zBk) (to : Nat) (lo hi : Int32) : zRs := if t.1 = 2 then (if s_in t.2.2.2 lo hi = true then (0, tq_nx b N t, upd B to t.2.2.2) else (2, t, B)) else (1, t, B)
def rp_set (b : zBk) (N : Nat) (t : zTk) (B : zBk) : zRs :=
  rbind (rp_rng b N t B 0 0 4) fun t B => rbind (rp_rng b N t B 1 0 5) fun t B => rbind (rp_rng b N t B 2 1 99) fun t B => rbind (rp_rng b N t B 3 0 9) fun t B => rbind (rp_rng b N t B 4 1 9) fun t B => rbind (rp_rng b N t B 5 1 20) fun t B => rbind (rp_rng b N t B 6 0 5) fun t B => rp_semi b N t B
def s_nm (B b : zBk) (c fr : Nat) : Nat → zBk
  | 0 => B
  | k + 1 => upd (s_nm B b c fr k) (22 + c * 7 + 1 + k) (b (fr + k))
def tq_ln (t : zTk) : Nat := t.2.2.1 - t.2.1
def rp_clerk (b : zBk) (N : Nat) (t : zTk) (B : zBk) (c : Nat) : zRs :=
  if c = 6 then (4, t, B)
  else if tq_short (tq_nx b N t) = 0 then
    (if tq_find B b (tq_nx b N t).2.1 (tq_ln (tq_nx b N t)) 0 c = -1 then
      rbind (rp_semi b N (tq_nx b N (tq_nx b N t)) (s_nm (upd B (22 + c * 7) (nI (tq_ln (tq_nx b N t)))) b c (tq_nx b N t).2.1 (tq_ln (tq_nx b N t)))) fun t B => (0, t, upd B 7 (B 7 + 1))
    else (3, tq_nx b N t, B))
  else (tq_short (tq_nx b N t), tq_nx b N t, B)
def rp_letter (b : zBk) (N c : Nat) (t : zTk) (B : zBk) (n : Nat) : zRs :=
  if n = 12 then (4, t, B)
  else if tq_short (tq_nx b N t) = 0 then
    (if tq_find B b (tq_nx b N t).2.1 (tq_ln (tq_nx b N t)) 0 c = -1 then (3, tq_nx b N t, B)
    else rbind (rp_rng b N (tq_nx b N (tq_nx b N t)) B (64 + n * 8 + 1) 1 30) fun t1 B1 => rbind (rp_rng b N t1 B1 (64 + n * 8 + 2) 0 999) fun t2 B2 => rbind (rp_rng b N t2 B2 (64 + n * 8 + 3) 1 999) fun t3 B3 => rbind (rp_rng b N t3 B3 (64 + n * 8 + 4) 0 9) fun t4 B4 => rbind (rp_semi b N t4 B4) fun t5 B5 => (0, t5, s_add B5 n (tq_find B b (tq_nx b N t).2.1 (tq_ln (tq_nx b N t)) 0 c) (B5 (64 + n * 8 + 1)) (B5 (64 + n * 8 + 2)) (B5 (64 + n * 8 + 3)) (B5 (64 + n * 8 + 4))))
  else (tq_short (tq_nx b N t), tq_nx b N t, B)
def rp_letters (b : zBk) (N c : Nat) : Nat → Nat → zTk → zBk → zRs
  | 0, _, t, B => (0, t, B)
  | k + 1, n, t, B => if tq_isw b t 2 = true then rbind (rp_letter b N c t B n) (fun t B => rp_letters b N c k (n + 1) t B) else if t.1 = 0 then (0, t, B) else (1, t, B)
def rp_clerks (b : zBk) (N : Nat) : Nat → Nat → zTk → zBk → zRs
  | 0, c, t, B => rp_letters b N c 13 0 t B
  | k + 1, c, t, B => if tq_isw b t 1 = true then rbind (rp_clerk b N t B c) (fun t B => rp_clerks b N k (c + 1) t B) else if c < 2 then (1, t, B) else rp_letters b N c 13 0 t B
def s_z (B : zBk) : zBk := upd (upd (fun k => if k < 160 then 0 else B k) 10 (-1)) 11 (-1)
def rp_setup (b : zBk) (N : Nat) (t : zTk) (B : zBk) : zRs :=
  if tq_isw b t 0 = true then rbind (rp_set b N (tq_nx b N t) (s_z B)) (fun t B => rp_clerks b N 7 0 t (upd B 13 (B 2))) else (1, t, s_z B)
theorem rt_put_put {F : zBk} {t t' : zTk} : rt_put (rt_put F t) t' = rt_put F t' := by
  funext j
  unfold rt_put
  by_cases h2 : j = 10 <;> by_cases h3 : j = 11 <;> by_cases h4 : j = 12 <;> by_cases h5 : j = 13 <;> simp [h2, h3, h4, h5]
theorem rF_put {F : zBk} {c : Nat} {t t' : zTk} : rF (rt_put F t) c t' = rF F c t' := by unfold rF; rw [rt_put_put]
theorem rng_ok {b : zBk} {N to : Nat} {t : zTk} {B : zBk} {lo hi : Int32} (h : tOK b N t) : tOK b N (rp_rng b N t B to lo hi).2.1 := by
  unfold rp_rng
  split
  · split
    · exact kT_nx h
    · exact h
  · exact h
theorem semi_ok {b : zBk} {N : Nat} {t : zTk} {B : zBk} (h : tOK b N t) : tOK b N (rp_semi b N t B).2.1 := by
  unfold rp_semi
  split
  · exact kT_nx h
  · exact h
section RPA
variable {G : zG} {w : Nat × Nat} {gl : Launch} {I : zM} {N : Nat}
theorem mR_312 {r : zRs} : mR I r 312 = rF (I 312) r.1 r.2.1 := by unfold mR; rw [ups_ne _ _ (by decide), ups_same]
theorem mR_313 {r : zRs} : mR I r 313 = r.2.2 := ups_same _ _ _
theorem mR_ot {r : zRs} {q : Nat} (h : q ≠ 312) (h2 : q ≠ 313) : mR I r q = I q := by unfold mR; rw [ups_ne _ _ h2, ups_ne _ _ h]
theorem mR_315 {r : zRs} : mR I r 315 = I 315 := mR_ot (by decide) (by decide)
theorem rF_4 {F : zBk} {c : Nat} {t : zTk} : rF F c t 4 = F 4 := by
  unfold rF
  split
  · rfl
  · rfl
theorem mR_mR {r r' : zRs} (h : r.1 = 0) : mR (mR I r) r' = mR I r' := by
  have e : rF (mR I r 312) r'.1 r'.2.1 = rF (I 312) r'.1 r'.2.1 := by
    rw [mR_312, show rF (I 312) r.1 r.2.1 = rt_put (I 312) r.2.1 by unfold rF; rw [if_pos h], rF_put]
  show ups (ups (mR I r) 312 (rF (mR I r 312) r'.1 r'.2.1)) 313 r'.2.2 = _
  rw [e]
  unfold mR
  exact uu4 (by decide)
theorem mR_up {r : zRs} {k : Nat} {x : Int32} : up (mR I r) 313 k x = mR I (r.1, r.2.1, upd r.2.2 k x) := by
  unfold mR
  rw [up_def, ups_same, ups_ups]
theorem mR_B {r : zRs} {B : zBk} : ups (mR I r) 313 B = mR I (r.1, r.2.1, B) := by
  unfold mR
  rw [ups_ups]
/-- a token at the reference's result -/
theorem mR_tok (hB : rB I N) {r : zRs} (h0 : r.1 = 0) : (mR I r 312 4 = nI N) ∧ mR I r 312 11 = nI r.2.1.1 ∧ mR I r 312 12 = nI r.2.1.2.1 ∧ mR I r 312 10 = nI r.2.1.2.2.1 ∧ mR I r 312 13 = r.2.1.2.2.2 := by
  rw [mR_312]
  refine ⟨by rw [rF_4]; exact hB.1, ?_⟩
  unfold rF
  rw [if_pos h0]
  exact ⟨rfl, rfl, rfl, rfl⟩
theorem rt_tok {F b : zBk} {N p : Nat} : tq_put F b N p = rt_put F (tq_tk b N p (F 13)) := by
  funext j
  unfold tq_put rt_put tq_tk tq_vv
  rfl
theorem m_tok (hm : isT w 11 312) (hB : rB I N) {r : zRs} (h0 : r.1 = 0) (hok : tOK (I 315) N r.2.1) : CT G w gl (yX11_token, cX11_token, 1, none) 1 (0, 0) [.ref 312] (mR I r) (qV (fun J => J = mR I (0, tq_nx (I 315) N r.2.1, r.2.2))) nX := by
  obtain ⟨e4, e11, e12, e10, e13⟩ := mR_tok hB h0
  have m := m_token (G := G) (gl := gl) (I := mR I r) hm e4 hB.2 e10 hok.2.2.1
  rw [rt_tok, mR_315, e13] at m
  refine m.weak (fun v J h => ⟨h.1, h.2.trans ?_⟩) (fun _ _ h => h)
  have e1 : rt_put (mR I r 312) (tq_tk (I 315) N r.2.1.2.2.1 r.2.1.2.2.2) = rt_put (I 312) (tq_nx (I 315) N r.2.1) := by
    rw [mR_312, show rF (I 312) r.1 r.2.1 = rt_put (I 312) r.2.1 by unfold rF; rw [if_pos h0], rt_put_put]; rfl
  rw [e1]
  unfold mR
  rw [ups_sw (show 313 ≠ 312 by decide), ups_ups]
  rfl
theorem m_wrong (hm : isT w 11 312) {r : zRs} {c : Nat} (h0 : r.1 = 0) (hc : c ≠ 0) : CT G w gl (yX11_wrong, cX11_wrong, 2, some .boolean) 0 (0, 0) [.ref 312, .int (nI c)] (mR I r) (qE 0 (mR I (c, r.2.1, r.2.2))) nX := by
  refine ct_of (by decide) [(0, .ref 312), (1, .int (nI c))] rfl rfl (fun K hG hw hgl hwo hK => ?_)
  subst hG; subst hw; subst hgl
  refine bX11_wrong_0 hK hwo hm (qE_i rfl ?_)
  simp only [up_def, ups_same, ups_ups]
  rw [mR_312]
  unfold mR
  rw [ups_sw (show 313 ≠ 312 by decide), ups_ups]
  refine congrArg (fun z => ups (ups I 312 z) 313 r.2.2) ?_
  show _ = rF (I 312) c r.2.1
  unfold rF
  rw [if_pos h0, if_neg hc]
  unfold wr_put
  rw [upd_ne _ _ (by decide)]
theorem m_isWord (hm : isT w 11 312) (hB : rB I N) {r : zRs} (h0 : r.1 = 0) (hok : tOK (I 315) N r.2.1) {j : Nat} (hj : j < 9) : CT G w gl (yX11_isWord, cX11_isWord, 3, some .boolean) 4 (0, 0) [.ref 312, .ref (1100 + j)] (mR I r) (qE (b2 (tq_isw (I 315) r.2.1 j)) (mR I r)) nX := by
  refine ct_of (by decide) [(0, .ref 312), (1, .ref (1100 + j))] rfl rfl (fun K hG hw hgl hwo hK => ?_)
  subst hG; subst hw; subst hgl
  have z0 : (0, 0).1 ≤ ((0, 0) : Nat × Nat).1 ∧ (0, 0).2 ≤ ((0, 0) : Nat × Nat).2 := ⟨Nat.le_refl _, Nat.le_refl _⟩
  have z1 : (0, 0).1 + (0, 0).1 ≤ ((0, 0) : Nat × Nat).1 ∧ (0, 0).2 + (0, 0).2 ≤ ((0, 0) : Nat × Nat).2 := ⟨Nat.le_refl _, Nat.le_refl _⟩
  obtain ⟨k1, k2, k3, k4, k5⟩ := mR_tok hB h0
  obtain ⟨o1, o2, o3, o4, o5⟩ := hok
  have hN := hB.2
  have k6 : mR I r 315 = I 315 := mR_315
  generalize hM : mR I r = M at k1 k2 k3 k4 k5 k6 hK ⊢
  generalize r.2.1 = t at *
  have hs : zIsS (1100 + j) := ⟨j, hj, rfl⟩
  have hlen : zTl.getD j 0 < 2 ^ 31 := (zT_ok j hj).1
  have loop : t.1 = 1 → t.2.2.1 - t.2.1 = zTl.getD j 0 → ∀ k i, i + k = zTl.getD j 0 → tq_cm (fun k => I 315 (t.2.1 + k)) (fun k => (zTb.getD j []).getD k 0) i = true → ZZ K (0, 0) 28 [(0, .ref 312), (1, .ref (1100 + j)), (2, .int (nI i))] [] M := by
    intro e1 e2 k
    induction k with
    | zero =>
      intro i hi hc
      have e : i = zTl.getD j 0 := by omega
      have le : Int32.ofNat (zTl.getD j 0) ≤ nI i := by rw [e]; exact Int32.le_refl _
      refine bX11_isWord_28 (f7 := 0) (g7 := I) (mc7 := (0, 0)) (x7 := nX) hK hwo hm z0 (cJ_length hj) hs z0 (fun _ => qE_i ?_ rfl) (fun c => absurd le c) z1 (fun c => absurd le c) (fun c => absurd le c) (fun c => absurd le c) (fun c => absurd le c) z0 (fun c => absurd le c)
      unfold tq_isw
      rw [decide_eq_true e1, decide_eq_true e2, ← e, hc]; rfl
    | succ k ih =>
      intro i hi hc
      have nle : ¬ Int32.ofNat (zTl.getD j 0) ≤ nI i := nI_ge (by omega) hlen
      have ea : M 312 12 + nI i = nI (t.2.1 + i) := by rw [k3, nI_add]
      have ec : (nI i).toNatClampNeg = i := nI_clamp (by omega)
      refine bX11_isWord_28 (f7 := (zTb.getD j []).getD (nI i).toNatClampNeg 0) (g7 := M) (mc7 := (0, 0)) (x7 := nX) hK hwo hm z0 (cJ_length hj) hs z0 (fun c => absurd c nle) (fun _ => by rw [ea]; exact vp_in_nI (by omega) (by omega)) z1 (fun _ _ _ h => h) (fun _ => (cJ_charAt hj (vp_in_nI (by omega) hlen)).deep (by omega)) (fun _ => hs) ?_ z0 ?_
      · intro _ d
        rw [ea, nI_clamp (by omega), ec, k6] at d
        rw [nI_1]
        refine ih (i + 1) (by omega) ?_
        unfold tq_cm
        rw [hc, decide_eq_true d]; rfl
      · intro _ d
        rw [ea, nI_clamp (by omega), ec, k6] at d
        refine qE_i ?_ rfl
        unfold tq_isw
        rw [cm_ff (k := i) d _ (by omega), Bool.and_false, Bool.and_false]; rfl
  have esub : M 312 10 - M 312 12 = nI (t.2.2.1 - t.2.1) := by rw [k3, k4]; exact nI_sub o2
  refine bX11_isWord_0 (f4 := Int32.ofNat (zTl.getD j 0)) (g4 := M) hK hwo hm z0 ?_ z0 (fun _ => cJ_length hj) (fun _ => hs) ?_ z0 ?_ <;> rw [k2]
  · intro c
    refine qE_i ?_ rfl
    unfold tq_isw
    rw [decide_eq_false (fun e => c (by rw [e]; rfl)), Bool.false_and]; rfl
  · rw [esub]
    intro c d
    have e1 : t.1 = 1 := (nI_eq (a := t.1) (b := 1) (by omega) (by omega)).mp c
    have e2 : t.2.2.1 - t.2.1 = zTl.getD j 0 := (nI_eq (by omega) hlen).mp d
    exact loop e1 e2 (zTl.getD j 0) 0 (by omega) rfl
  · rw [esub]
    intro c d
    refine qE_i ?_ rfl
    unfold tq_isw
    rw [decide_eq_false (p := t.2.2.1 - t.2.1 = zTl.getD j 0) (fun e => d (by rw [e]; rfl)), Bool.false_and, Bool.and_false]; rfl
theorem mt {a : Nat} (hB : rB I N) {r : zRs} (h0 : r.1 = 0) (hok : tOK (I 315) N r.2.1) (ha : a < 2 ^ 31) : mR I r 312 11 = nI a ↔ r.2.1.1 = a := by
  rw [(mR_tok hB h0).2.1]; exact nI_eq (by have := hok.1; omega) ha
theorem m_semi (hm : isT w 11 312) (hB : rB I N) {r : zRs} (h0 : r.1 = 0) (hok : tOK (I 315) N r.2.1) : CT G w gl (yX11_semicolon, cX11_semicolon, 1, some .boolean) 2 (0, 0) [.ref 312] (mR I r) (qE (b2 (decide ((rp_semi (I 315) N r.2.1 r.2.2).1 = 0))) (mR I (rp_semi (I 315) N r.2.1 r.2.2))) nX := by
  refine ct_of (by decide) [(0, .ref 312)] rfl rfl (fun K hG hw hgl hwo hK => ?_)
  subst hG; subst hw; subst hgl
  have e := mt (a := 3) hB h0 hok (by omega)
  refine bX11_semicolon_0 hK hwo hm (fun _ => m_tok hm hB h0 hok) (fun c => ?_) (fun _ => m_wrong (c := 1) hm h0 (by decide)) (fun c => ?_) (fun _ => Or.inl rfl)
  · have s : rp_semi (I 315) N r.2.1 r.2.2 = (0, tq_nx (I 315) N r.2.1, r.2.2) := by unfold rp_semi; rw [if_pos (e.mp c)]
    rw [s]; exact qE_i rfl rfl
  · have s : rp_semi (I 315) N r.2.1 r.2.2 = (1, r.2.1, r.2.2) := by unfold rp_semi; rw [if_neg (fun z => c (e.mpr z))]
    rw [s]; exact qE_i rfl rfl
theorem m_short (hm : isT w 11 312) (hB : rB I N) {r : zRs} (h0 : r.1 = 0) (hok : tOK (I 315) N r.2.1) : CT G w gl (yX11_isShortWord, cX11_isShortWord, 1, some .boolean) 1 (0, 0) [.ref 312] (mR I r) (qE (b2 (decide (tq_short r.2.1 = 0))) (mR I (tq_short r.2.1, r.2.1, r.2.2))) nX := by
  refine ct_of (by decide) [(0, .ref 312)] rfl rfl (fun K hG hw hgl hwo hK => ?_)
  subst hG; subst hw; subst hgl
  have e := mt (a := 1) hB h0 hok (by omega)
  have hlt : r.2.1.2.2.1 - r.2.1.2.1 < 2 ^ 31 := by have := hok.2.2.1; have := hB.2; omega
  have esub : mR I r 312 10 - mR I r 312 12 = nI (r.2.1.2.2.1 - r.2.1.2.1) := by rw [(mR_tok hB h0).2.2.1, (mR_tok hB h0).2.2.2.1]; exact nI_sub hok.2.1
  have e6 := nI_leI (a := r.2.1.2.2.1 - r.2.1.2.1) (b := 6) hlt (by omega)
  rw [← esub] at e6
  refine bX11_isShortWord_0 hK hwo hm (fun c d => ?_) (fun _ _ => m_wrong (c := 3) hm h0 (by decide)) (fun c d _ => ?_) (fun _ _ q => absurd rfl q) (fun _ => m_wrong (c := 1) hm h0 (by decide)) (fun c => ?_) (fun _ => Or.inl rfl)
  · have s : tq_short r.2.1 = 0 := by unfold tq_short; rw [if_pos (e.mp c), if_pos (e6.mp d)]
    rw [s]; exact qE_i rfl (by rw [← h0])
  · have s : tq_short r.2.1 = 3 := by unfold tq_short; rw [if_pos (e.mp c), if_neg (fun z => d (e6.mpr z))]
    rw [s]; exact qE_i rfl rfl
  · have s : tq_short r.2.1 = 1 := by unfold tq_short; rw [if_neg (fun z => c (e.mpr z))]
    rw [s]; exact qE_i rfl rfl
theorem m_rng (hm : isT w 11 312) (hB : rB I N) {r : zRs} (h0 : r.1 = 0) (hok : tOK (I 315) N r.2.1) {to : Nat} {lo hi : Int32} (hto : to < 160) : CT G w gl (yX11_parseRanged, cX11_parseRanged, 4, some .boolean) 2 (0, 0) [.ref 312, .int (nI to), .int lo, .int hi] (mR I r) (qE (b2 (decide ((rp_rng (I 315) N r.2.1 r.2.2 to lo hi).1 = 0))) (mR I (rp_rng (I 315) N r.2.1 r.2.2 to lo hi))) nX := by
  refine ct_of (by decide) [(0, .ref 312), (1, .int (nI to)), (2, .int lo), (3, .int hi)] rfl rfl (fun K hG hw hgl hwo hK => ?_)
  subst hG; subst hw; subst hgl
  have e := mt (a := 2) hB h0 hok (by omega)
  have e13 := (mR_tok hB h0).2.2.2.2
  refine bX11_parseRanged_0 (f2 := b2 (s_in r.2.1.2.2.2 lo hi)) (g2 := mR I r) (g5 := mR I (0, tq_nx (I 315) N r.2.1, upd r.2.2 to r.2.1.2.2.2)) hK hwo hm (fun _ => by rw [e13]; exact m_in) (fun _ _ => vp_in_nI (by omega) (by omega)) (fun _ _ => ?_) (fun c d => ?_) (fun _ _ => m_wrong (c := 2) hm h0 (by decide)) (fun c d => ?_) (fun _ _ => Or.inl rfl) (fun _ => m_wrong (c := 1) hm h0 (by decide)) (fun c => ?_) (fun _ => Or.inl rfl)
  · rw [e13, nI_clamp (by omega), mR_up]
    exact m_tok (r := (r.1, r.2.1, upd r.2.2 to r.2.1.2.2.2)) hm hB h0 hok
  · have s : rp_rng (I 315) N r.2.1 r.2.2 to lo hi = (0, tq_nx (I 315) N r.2.1, upd r.2.2 to r.2.1.2.2.2) := by unfold rp_rng; rw [if_pos (e.mp c), if_pos (b2_n0.mp d)]
    rw [s]; exact qE_i rfl rfl
  · have s : rp_rng (I 315) N r.2.1 r.2.2 to lo hi = (2, r.2.1, r.2.2) := by unfold rp_rng; rw [if_pos (e.mp c), if_neg (by rw [b2_0.mp d]; decide)]
    rw [s]; exact qE_i rfl rfl
  · have s : rp_rng (I 315) N r.2.1 r.2.2 to lo hi = (1, r.2.1, r.2.2) := by unfold rp_rng; rw [if_neg (fun z => c (e.mpr z))]
    rw [s]; exact qE_i rfl rfl
theorem d01 {x : Nat} (h : ¬ b2 (decide (x = 0)) = 0) : x = 0 := by have := b2_n0.mp h; simpa using this
theorem d10 {x : Nat} (h : b2 (decide (x = 0)) = 0) : x ≠ 0 := by have := b2_0.mp h; simpa using this
theorem rb0 {r : zRs} {f : zTk → zBk → zRs} (h : r.1 = 0) : rbind r f = f r.2.1 r.2.2 := if_pos h
theorem rb1 {r : zRs} {f : zTk → zBk → zRs} (h : r.1 ≠ 0) : rbind r f = r := if_neg h
theorem b2d {x : Nat} (h : x ≠ 0) : b2 (decide (x = 0)) = 0 := by rw [decide_eq_false h]; rfl
theorem b2e {x : Nat} (h : x = 0) : b2 (decide (x = 0)) = 1 := by rw [decide_eq_true h]; rfl
theorem m_set7 (hm : isT w 11 312) (hB : rB I N) {r : zRs} (h0 : r.1 = 0) (hok : tOK (I 315) N r.2.1) : CT G w gl (yX11_parseSettings, cX11_parseSettings, 1, some .boolean) 3 (0, 0) [.ref 312] (mR I r) (qE (b2 (decide ((rp_set (I 315) N r.2.1 r.2.2).1 = 0))) (mR I (rp_set (I 315) N r.2.1 r.2.2))) nX := by
  refine ct_of (by decide) [(0, .ref 312)] rfl rfl (fun K hG hw hgl hwo hK => ?_)
  subst hG; subst hw; subst hgl
  have R : ∀ (s : zRs) (to : Nat) (lo hi : Int32), s.1 = 0 → tOK (I 315) N s.2.1 → to < 160 → CT (kG K) (kw K) (kl K) (yX11_parseRanged, cX11_parseRanged, 4, some .boolean) 2 (0, 0) [.ref 312, .int (nI to), .int lo, .int hi] (mR I s) (qE (b2 (decide ((rp_rng (I 315) N s.2.1 s.2.2 to lo hi).1 = 0))) (mR I (rp_rng (I 315) N s.2.1 s.2.2 to lo hi))) nX := fun s to lo hi h h2 h3 => m_rng hm hB h h2 h3
  have fin : ∀ s : zRs, s.1 ≠ 0 → rp_set (I 315) N r.2.1 r.2.2 = s → qE (b2 (decide ((rp_set (I 315) N r.2.1 r.2.2).1 = 0))) (mR I (rp_set (I 315) N r.2.1 r.2.2)) (some (.int 0)) (mR I s) := fun s h e => by
    rw [e]; exact qE_i (b2d h).symm rfl
  generalize h1 : rp_rng (I 315) N r.2.1 r.2.2 0 0 4 = s1
  have k1 : tOK (I 315) N s1.2.1 := by rw [← h1]; exact rng_ok hok
  generalize h2 : rp_rng (I 315) N s1.2.1 s1.2.2 1 0 5 = s2
  have k2 : tOK (I 315) N s2.2.1 := by rw [← h2]; exact rng_ok k1
  generalize h3 : rp_rng (I 315) N s2.2.1 s2.2.2 2 1 99 = s3
  have k3 : tOK (I 315) N s3.2.1 := by rw [← h3]; exact rng_ok k2
  generalize h4 : rp_rng (I 315) N s3.2.1 s3.2.2 3 0 9 = s4
  have k4 : tOK (I 315) N s4.2.1 := by rw [← h4]; exact rng_ok k3
  generalize h5 : rp_rng (I 315) N s4.2.1 s4.2.2 4 1 9 = s5
  have k5 : tOK (I 315) N s5.2.1 := by rw [← h5]; exact rng_ok k4
  generalize h6 : rp_rng (I 315) N s5.2.1 s5.2.2 5 1 20 = s6
  have k6 : tOK (I 315) N s6.2.1 := by rw [← h6]; exact rng_ok k5
  generalize h7 : rp_rng (I 315) N s6.2.1 s6.2.2 6 0 5 = s7
  have k7 : tOK (I 315) N s7.2.1 := by rw [← h7]; exact rng_ok k6
  have es : rp_set (I 315) N r.2.1 r.2.2 = rbind s1 fun t B => rbind (rp_rng (I 315) N t B 1 0 5) fun t B => rbind (rp_rng (I 315) N t B 2 1 99) fun t B => rbind (rp_rng (I 315) N t B 3 0 9) fun t B => rbind (rp_rng (I 315) N t B 4 1 9) fun t B => rbind (rp_rng (I 315) N t B 5 1 20) fun t B => rbind (rp_rng (I 315) N t B 6 0 5) fun t B => rp_semi (I 315) N t B := by rw [← h1]; rfl
  refine bX11_parseSettings_0 (f1 := b2 (decide (s1.1 = 0))) (g1 := mR I s1) (f4 := b2 (decide (s2.1 = 0))) (g4 := mR I s2) (f7 := b2 (decide (s3.1 = 0))) (g7 := mR I s3) (f10 := b2 (decide (s4.1 = 0))) (g10 := mR I s4) (f12 := b2 (decide (s5.1 = 0))) (g12 := mR I s5) (f15 := b2 (decide (s6.1 = 0))) (g15 := mR I s6) (f18 := b2 (decide (s7.1 = 0))) (g18 := mR I s7) (f21 := b2 (decide ((rp_semi (I 315) N s7.2.1 s7.2.2).1 = 0))) (g21 := mR I (rp_semi (I 315) N s7.2.1 s7.2.2)) hK hwo hm
    (by rw [← h1]; exact R r 0 0 4 h0 hok (by omega)) (fun c => fin s1 (d10 c) (by rw [es, rb1 (d10 c)]))
    (fun c => by rw [← h2]; exact R s1 1 0 5 (d01 c) k1 (by omega)) (fun c d => fin s2 (d10 d) (by rw [es, rb0 (d01 c), h2, rb1 (d10 d)]))
    (fun c d => by rw [← h3]; exact R s2 2 1 99 (d01 d) k2 (by omega)) (fun c d e => fin s3 (d10 e) (by rw [es, rb0 (d01 c), h2, rb0 (d01 d), h3, rb1 (d10 e)]))
    (fun c d e => by rw [← h4]; exact R s3 3 0 9 (d01 e) k3 (by omega))
    (fun c d e f => by rw [← h5]; exact R s4 4 1 9 (d01 f) k4 (by omega)) (fun c d e f g => fin s5 (d10 g) (by rw [es, rb0 (d01 c), h2, rb0 (d01 d), h3, rb0 (d01 e), h4, rb0 (d01 f), h5, rb1 (d10 g)]))
    (fun c d e f g => by rw [← h6]; exact R s5 5 1 20 (d01 g) k5 (by omega)) (fun c d e f g h => fin s6 (d10 h) (by rw [es, rb0 (d01 c), h2, rb0 (d01 d), h3, rb0 (d01 e), h4, rb0 (d01 f), h5, rb0 (d01 g), h6, rb1 (d10 h)]))
    (fun c d e f g h => by rw [← h7]; exact R s6 6 0 5 (d01 h) k6 (by omega)) (fun c d e f g h i => fin s7 (d10 i) (by rw [es, rb0 (d01 c), h2, rb0 (d01 d), h3, rb0 (d01 e), h4, rb0 (d01 f), h5, rb0 (d01 g), h6, rb0 (d01 h), h7, rb1 (d10 i)]))
    (fun c d e f g h i => m_semi hm hB (d01 i) k7) ?_ ?_ ?_
  · intro c d e f g h i j
    exact fin _ (d10 j) (by rw [es, rb0 (d01 c), h2, rb0 (d01 d), h3, rb0 (d01 e), h4, rb0 (d01 f), h5, rb0 (d01 g), h6, rb0 (d01 h), h7, rb0 (d01 i)])
  · intro c d e f g h i j
    have e9 : rp_set (I 315) N r.2.1 r.2.2 = rp_semi (I 315) N s7.2.1 s7.2.2 := by rw [es, rb0 (d01 c), h2, rb0 (d01 d), h3, rb0 (d01 e), h4, rb0 (d01 f), h5, rb0 (d01 g), h6, rb0 (d01 h), h7, rb0 (d01 i)]
    rw [e9]; exact qE_i (b2e (d01 j)).symm rfl
  · intro c d e f
    exact fin s4 (d10 f) (by rw [es, rb0 (d01 c), h2, rb0 (d01 d), h3, rb0 (d01 e), h4, rb1 (d10 f)])
end RPA
