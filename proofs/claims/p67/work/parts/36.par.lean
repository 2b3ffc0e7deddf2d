/-! THE REFERENCE'S PARSER -/
def rt_put (F : zBk) (t : zTk) : zBk := fun j => if j = 10 then nI t.2.2.1 else if j = 11 then nI t.1 else if j = 12 then nI t.2.1 else if j = 13 then t.2.2.2 else F j
def wr_put (F : zBk) (code : Int32) : zBk := upd (upd F 5 code) 6 (F 12)
def rF (F : zBk) (code : Nat) (t : zTk) : zBk := if code = 0 then rt_put F t else wr_put (rt_put F t) (nI code)
def rB (I : zM) (N : Nat) : Prop := I 312 4 = nI N ∧ N ≤ 600
abbrev zRs : Type := Nat × zTk × zBk
/-- the memory at a parser's result, from I on -/
def mR (I : zM) (r : zRs) : zM := ups (ups I 312 (rF (I 312) r.1 r.2.1)) 313 r.2.2
def rbind (r : zRs) (f : zTk → zBk → zRs) : zRs := if r.1 = 0 then f r.2.1 r.2.2 else r
def rp_semi (b : zBk) (N : Nat) (t : zTk) (B : zBk) : zRs := if t.1 = 3 then (0, tq_nx b N t, B) else (1, t, B)
def rp_rng (b : zBk) (N : Nat) (t : zTk) (B : zBk) (to : Nat) (lo hi : Int32) : zRs := if t.1 = 2 then (if s_in t.2.2.2 lo hi = true then (0, tq_nx b N t, upd B to t.2.2.2) else (2, t, B)) else (1, t, B)
def rp_set (b : zBk) (N : Nat) (t : zTk) (B : zBk) : zRs :=
  rbind (rp_rng b N t B 0 0 4) fun t B => rbind (rp_rng b N t B 1 0 5) fun t B => rbind (rp_rng b N t B 2 1 99) fun t B => rbind (rp_rng b N t B 3 0 9) fun t B => rbind (rp_rng b N t B 4 1 9) fun t B => rbind (rp_rng b N t B 5 1 20) fun t B => rbind (rp_rng b N t B 6 0 5) fun t B => rp_semi b N t B
def s_nm (B b : zBk) (c fr : Nat) : Nat → zBk
  | 0 => B
  | k + 1 => upd (s_nm B b c fr k) (22 + c * 7 + 1 + k) (b (fr + k))
def tq_ln (t : zTk) : Nat := t.2.2.1 - t.2.1
def rp_clerk (b : zBk) (N : Nat) (t : zTk) (B : zBk) (c : Nat) : zRs :=
  if c = 6 then (4, t, B)
  else if tq_short (tq_nx b N t) = 0 then
    (if tq_find B b (tq_nx b N t).2.1 (tq_ln (tq_nx b N t)) 0 c = -1 then
      rbind (rp_semi b N (tq_nx b N (tq_nx b N t)) (s_nm (upd B (22 + c * 7) (nI (tq_ln (tq_nx b N t)))) b c (tq_nx b N t).2.1 (tq_ln (tq_nx b N t)))) fun t B => (0, t, upd B 7 (B 7 + 1))
    else (3, tq_nx b N t, B))
  else (tq_short (tq_nx b N t), tq_nx b N t, B)
def rp_letter (b : zBk) (N c : Nat) (t : zTk) (B : zBk) (n : Nat) : zRs :=
  if n = 12 then (4, t, B)
  else if tq_short (tq_nx b N t) = 0 then
    (if tq_find B b (tq_nx b N t).2.1 (tq_ln (tq_nx b N t)) 0 c = -1 then (3, tq_nx b N t, B)
    else rbind (rp_rng b N (tq_nx b N (tq_nx b N t)) B (64 + n * 8 + 1) 1 30) fun t1 B1 => rbind (rp_rng b N t1 B1 (64 + n * 8 + 2) 0 999) fun t2 B2 => rbind (rp_rng b N t2 B2 (64 + n * 8 + 3) 1 999) fun t3 B3 => rbind (rp_rng b N t3 B3 (64 + n * 8 + 4) 0 9) fun t4 B4 => rbind (rp_semi b N t4 B4) fun t5 B5 => (0, t5, s_add B5 n (tq_find B b (tq_nx b N t).2.1 (tq_ln (tq_nx b N t)) 0 c) (B5 (64 + n * 8 + 1)) (B5 (64 + n * 8 + 2)) (B5 (64 + n * 8 + 3)) (B5 (64 + n * 8 + 4))))
  else (tq_short (tq_nx b N t), tq_nx b N t, B)
def rp_letters (b : zBk) (N c : Nat) : Nat → Nat → zTk → zBk → zRs
  | 0, _, t, B => (0, t, B)
  | k + 1, n, t, B => if tq_isw b t 2 = true then rbind (rp_letter b N c t B n) (fun t B => rp_letters b N c k (n + 1) t B) else if t.1 = 0 then (0, t, B) else (1, t, B)
def rp_clerks (b : zBk) (N : Nat) : Nat → Nat → zTk → zBk → zRs
  | 0, c, t, B => rp_letters b N c 13 0 t B
  | k + 1, c, t, B => if tq_isw b t 1 = true then rbind (rp_clerk b N t B c) (fun t B => rp_clerks b N k (c + 1) t B) else if c < 2 then (1, t, B) else rp_letters b N c 13 0 t B
def s_z (B : zBk) : zBk := upd (upd (fun k => if k < 160 then 0 else B k) 10 (-1)) 11 (-1)
def rp_setup (b : zBk) (N : Nat) (t : zTk) (B : zBk) : zRs :=
  if tq_isw b t 0 = true then rbind (rp_set b N (tq_nx b N t) (s_z B)) (fun t B => rp_clerks b N 7 0 t (upd B 13 (B 2))) else (1, t, s_z B)
theorem rt_put_put {F : zBk} {t t' : zTk} : rt_put (rt_put F t) t' = rt_put F t' := by
  funext j
  unfold rt_put
  by_cases h2 : j = 10 <;> by_cases h3 : j = 11 <;> by_cases h4 : j = 12 <;> by_cases h5 : j = 13 <;> simp [h2, h3, h4, h5]
theorem rF_put {F : zBk} {c : Nat} {t t' : zTk} : rF (rt_put F t) c t' = rF F c t' := by unfold rF; rw [rt_put_put]
theorem rng_ok {b : zBk} {N to : Nat} {t : zTk} {B : zBk} {lo hi : Int32} (h : tOK b N t) : tOK b N (rp_rng b N t B to lo hi).2.1 := by
  unfold rp_rng
  split
  · split
    · exact kT_nx h
    · exact h
  · exact h
theorem semi_ok {b : zBk} {N : Nat} {t : zTk} {B : zBk} (h : tOK b N t) : tOK b N (rp_semi b N t B).2.1 := by
  unfold rp_semi
  split
  · exact kT_nx h
  · exact h
section RPA
variable {G : zG} {w : Nat × Nat} {gl : Launch} {I : zM} {N : Nat}
theorem mR_312 {r : zRs} : mR I r 312 = rF (I 312) r.1 r.2.1 := by unfold mR; rw [ups_ne _ _ (by decide), ups_same]
theorem mR_313 {r : zRs} : mR I r 313 = r.2.2 := ups_same _ _ _
theorem mR_ot {r : zRs} {q : Nat} (h : q ≠ 312) (h2 : q ≠ 313) : mR I r q = I q := by unfold mR; rw [ups_ne _ _ h2, ups_ne _ _ h]
theorem mR_315 {r : zRs} : mR I r 315 = I 315 := mR_ot (by decide) (by decide)
theorem rF_4 {F : zBk} {c : Nat} {t : zTk} : rF F c t 4 = F 4 := by
  unfold rF
  split
  · rfl
  · rfl
theorem mR_mR {r r' : zRs} (h : r.1 = 0) : mR (mR I r) r' = mR I r' := by
  have e : rF (mR I r 312) r'.1 r'.2.1 = rF (I 312) r'.1 r'.2.1 := by
    rw [mR_312, show rF (I 312) r.1 r.2.1 = rt_put (I 312) r.2.1 by unfold rF; rw [if_pos h], rF_put]
  show ups (ups (mR I r) 312 (rF (mR I r 312) r'.1 r'.2.1)) 313 r'.2.2 = _
  rw [e]
  unfold mR
  exact uu4 (by decide)
theorem mR_up {r : zRs} {k : Nat} {x : Int32} : up (mR I r) 313 k x = mR I (r.1, r.2.1, upd r.2.2 k x) := by
  unfold mR
  rw [up_def, ups_same, ups_ups]
theorem mR_B {r : zRs} {B : zBk} : ups (mR I r) 313 B = mR I (r.1, r.2.1, B) := by
  unfold mR
  rw [ups_ups]
/-- a token at the reference's result -/
theorem mR_tok (hB : rB I N) {r : zRs} (h0 : r.1 = 0) : (mR I r 312 4 = nI N) ∧ mR I r 312 11 = nI r.2.1.1 ∧ mR I r 312 12 = nI r.2.1.2.1 ∧ mR I r 312 10 = nI r.2.1.2.2.1 ∧ mR I r 312 13 = r.2.1.2.2.2 := by
  rw [mR_312]
  refine ⟨by rw [rF_4]; exact hB.1, ?_⟩
  unfold rF
  rw [if_pos h0]
  exact ⟨rfl, rfl, rfl, rfl⟩
theorem rt_tok {F b : zBk} {N p : Nat} : tq_put F b N p = rt_put F (tq_tk b N p (F 13)) := by
  funext j
  unfold tq_put rt_put tq_tk tq_vv
  rfl
theorem mt {a : Nat} (hB : rB I N) {r : zRs} (h0 : r.1 = 0) (hok : tOK (I 315) N r.2.1) (ha : a < 2 ^ 31) : mR I r 312 11 = nI a ↔ r.2.1.1 = a := by
  rw [(mR_tok hB h0).2.1]; exact nI_eq (by have := hok.1; omega) ha
theorem d01 {x : Nat} (h : ¬ b2 (decide (x = 0)) = 0) : x = 0 := by have := b2_n0.mp h; simpa using this
theorem d10 {x : Nat} (h : b2 (decide (x = 0)) = 0) : x ≠ 0 := by have := b2_0.mp h; simpa using this
theorem rb0 {r : zRs} {f : zTk → zBk → zRs} (h : r.1 = 0) : rbind r f = f r.2.1 r.2.2 := if_pos h
theorem rb1 {r : zRs} {f : zTk → zBk → zRs} (h : r.1 ≠ 0) : rbind r f = r := if_neg h
theorem b2d {x : Nat} (h : x ≠ 0) : b2 (decide (x = 0)) = 0 := by rw [decide_eq_false h]; rfl
theorem b2e {x : Nat} (h : x = 0) : b2 (decide (x = 0)) = 1 := by rw [decide_eq_true h]; rfl
end RPA
