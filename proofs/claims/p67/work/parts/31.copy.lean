/-! THE CLASS: a state copied onto another -/
def zsep (s o : Nat) : Prop := o + 24 ≤ s ∨ s + 24 ≤ o
theorem so {I : zM} {s q x : Nat} {B : zBk} {c : Int32} (h : q < s ∨ s + 24 ≤ q) : sput I s B c q x = I q x := by
  unfold sput
  rw [if_neg (by omega), if_neg (by omega), if_neg (by omega), if_neg (by omega), if_neg (by omega), if_neg (by omega)]
theorem zsep9 : ∀ s, s < zNN → LT s = 9 → ∀ o, o < zNN → LT o = 9 → s = o ∨ (o + 24 ≤ s ∨ s + 24 ≤ o) := by decide +kernel
theorem isT.sep {w : Nat × Nat} {s o : Nat} (hw : wOK w) (h : isT w 9 s) (h2 : isT w 9 o) (hne : s ≠ o) : zsep s o := (zsep9 s (Nat.lt_of_lt_of_le h.1.2 hw.1) h.2 o (Nat.lt_of_lt_of_le h2.1.2 hw.1) h2.2).resolve_left hne
def cpk (B C : zBk) (q : Nat → Bool) : zBk := fun k => if q k = true then C k else B k
theorem cpk_nil {B C : zBk} : cpk B C (fun _ => false) = B := by funext k; simp [cpk]
theorem cpk_up {B C : zBk} {q : Nat → Bool} {k : Nat} {x : Int32} (h : x = C k) : upd (cpk B C q) k x = cpk B C (fun j => q j || j == k) := by
  subst h
  funext j
  unfold cpk
  by_cases e : j = k
  · subst e; rw [upd_same]; simp
  · rw [upd_ne _ _ e]; simp [e]
theorem cpk_cg {B C : zBk} {q r : Nat → Bool} (h : ∀ k, q k = true ↔ r k = true) : cpk B C q = cpk B C r := by
  funext k
  unfold cpk
  by_cases e : q k = true
  · rw [if_pos e, if_pos ((h k).mp e)]
  · rw [if_neg e, if_neg (fun z => e ((h k).mpr z))]
theorem cpk_1 {B C : zBk} {k : Nat} {x : Int32} (h : x = C k) : upd B k x = cpk B C (fun j => j == k) := by
  have e := cpk_up (B := B) (q := fun _ => false) h
  rw [cpk_nil] at e
  rw [e]
  exact cpk_cg (fun j => by simp)
section CPA
variable {G : zG} {w : Nat × Nat} {gl : Launch} {I : zM} {s o : Nat} {B : zBk} {cu : Int32} {q : Nat → Bool}
theorem vo1 {k : Nat} (h : 1 ≤ k) (h2 : k ≤ 6) : vB I o k = I (o + 1) (k - 1) := by
  unfold vB; rw [if_neg (by omega), if_pos h2]
theorem voW {a : Nat} (h : a < 6) : vB I o (22 + a * 7) = I (o + 10) a := by
  unfold vB
  rw [if_neg (by omega), if_neg (by omega), if_neg (by omega), if_neg (by omega), if_neg (by omega), if_neg (by omega), if_neg (by omega), if_pos (by omega), if_pos (by omega)]
  rw [show (22 + a * 7 - 22) / 7 = a by omega]
theorem voN {a k : Nat} (h : a < 6) (hk : k < 6) : vB I o (22 + a * 7 + 1 + k) = I (o + 4 + a) k := by
  unfold vB
  rw [if_neg (by omega), if_neg (by omega), if_neg (by omega), if_neg (by omega), if_neg (by omega), if_neg (by omega), if_neg (by omega), if_pos (by omega), if_neg (by omega)]
  rw [show (22 + a * 7 + 1 + k - 22) / 7 = a by omega, show (22 + a * 7 + 1 + k - 22) % 7 - 1 = k by omega]
theorem voL {l f : Nat} (hf : f < 8) : s_of (vB I o) l f = I (o + 12 + l) f := by
  unfold s_of vB
  rw [if_neg (by omega), if_neg (by omega), if_neg (by omega), if_neg (by omega), if_neg (by omega), if_neg (by omega), if_neg (by omega), if_neg (by omega)]
  rw [show (64 + l * 8 + f - 64) / 8 = l by omega, show (64 + l * 8 + f - 64) % 8 = f by omega]
theorem k_copySet (hs : isT w 9 s) (ht : isT w 9 o) (hso : zsep s o) : CT G w gl (yX8_copyFrom, cX8_copyFrom, 2, none) 0 (0, 0) [.ref (s + 1), .ref (o + 1)] (sput I s (cpk B (vB I o) q) cu) (qV (fun J => J = sput I s (cpk B (vB I o) (fun k => q k || decide (1 ≤ k ∧ k ≤ 6))) cu)) nX := by
  refine ct_of (by decide) [(0, .ref (s + 1)), (1, .ref (o + 1))] rfl rfl (fun K hG hw hgl hwo hK => ?_)
  subst hG; subst hw; subst hgl
  have e : ∀ (C : zBk) (c : Int32) (x : Nat), sput I s C c (o + 1) x = I (o + 1) x := fun C c x => so (by unfold zsep at hso; omega)
  refine bX8_copyFrom_0 hK hwo (hs.set hwo) (ht.set hwo) ?_
  simp only [e, suS (show 0 < 6 by omega), suS (show 1 < 6 by omega), suS (show 2 < 6 by omega), suS (show 3 < 6 by omega), suS (show 4 < 6 by omega), suS (show 5 < 6 by omega)]
  refine qV_i (congrArg (fun b => sput I s b cu) ?_)
  rw [cpk_up (C := vB I o) (k := 0 + 1) (x := I (o + 1) 0) rfl, cpk_up (C := vB I o) (k := 1 + 1) (x := I (o + 1) 1) rfl, cpk_up (C := vB I o) (k := 2 + 1) (x := I (o + 1) 2) rfl, cpk_up (C := vB I o) (k := 3 + 1) (x := I (o + 1) 3) rfl, cpk_up (C := vB I o) (k := 4 + 1) (x := I (o + 1) 4) rfl, cpk_up (C := vB I o) (k := 5 + 1) (x := I (o + 1) 5) rfl]
  refine cpk_cg (fun k => ?_)
  cases hq : q k
  · simp only [hq, Bool.false_or, Bool.or_eq_true, beq_iff_eq, decide_eq_true_eq]; omega
  · simp only [hq, Bool.true_or]
theorem k_copyLet (hs : isT w 9 s) (ht : isT w 9 o) (hso : zsep s o) {l : Nat} (hl : l < 12) : CT G w gl (yX5_copyFrom, cX5_copyFrom, 2, none) 0 (0, 0) [.ref (s + 12 + l), .ref (o + 12 + l)] (sput I s (cpk B (vB I o) q) cu) (qV (fun J => J = sput I s (cpk B (vB I o) (fun k => q k || decide (64 + l * 8 ≤ k ∧ k < 64 + l * 8 + 8))) cu)) nX := by
  refine ct_of (by decide) [(0, .ref (s + 12 + l)), (1, .ref (o + 12 + l))] rfl rfl (fun K hG hw hgl hwo hK => ?_)
  subst hG; subst hw; subst hgl
  have e : ∀ (C : zBk) (c : Int32) (x : Nat), sput I s C c (o + 12 + l) x = I (o + 12 + l) x := fun C c x => so (by unfold zsep at hso; omega)
  refine bX5_copyFrom_0 hK hwo (hs.let hwo hl) (ht.let hwo hl) ?_
  simp only [e, suL hl (show 0 < 8 by omega), suL hl (show 1 < 8 by omega), suL hl (show 2 < 8 by omega), suL hl (show 3 < 8 by omega), suL hl (show 4 < 8 by omega), suL hl (show 5 < 8 by omega), suL hl (show 6 < 8 by omega), suL hl (show 7 < 8 by omega)]
  refine qV_i (congrArg (fun b => sput I s b cu) ?_)
  have v : ∀ f, f < 8 → I (o + 12 + l) f = vB I o (64 + l * 8 + f) := fun f hf => (voL hf).symm
  unfold s_set
  rw [cpk_up (v 0 (by omega)), cpk_up (v 1 (by omega)), cpk_up (v 2 (by omega)), cpk_up (v 3 (by omega)), cpk_up (v 4 (by omega)), cpk_up (v 5 (by omega)), cpk_up (v 6 (by omega)), cpk_up (v 7 (by omega))]
  refine cpk_cg (fun k => ?_)
  cases hq : q k
  · simp only [hq, Bool.false_or, Bool.or_eq_true, beq_iff_eq, decide_eq_true_eq]; omega
  · simp only [hq, Bool.true_or]
theorem ups6 {J : zM} {r : Nat} {f : Nat → Int32} : ups J r (va_cpy f (J r) 0 0 6) = up (up (up (up (up (up J r 0 (f 0)) r 1 (f 1)) r 2 (f 2)) r 3 (f 3)) r 4 (f 4)) r 5 (f 5) := by
  simp only [up_def, ups_same, ups_ups]
  congr 1
  funext k
  unfold va_cpy
  by_cases h : k < 6
  · rw [if_pos ⟨Nat.zero_le _, by omega⟩, Nat.zero_add, Nat.sub_zero]
    rcases (show k = 0 ∨ k = 1 ∨ k = 2 ∨ k = 3 ∨ k = 4 ∨ k = 5 by omega) with rfl | rfl | rfl | rfl | rfl | rfl <;> simp [upd]
  · rw [if_neg (by omega), upd_ne _ _ (by omega), upd_ne _ _ (by omega), upd_ne _ _ (by omega), upd_ne _ _ (by omega), upd_ne _ _ (by omega), upd_ne _ _ (by omega)]
theorem zLn9b : ∀ s, s < zNN → LT s = 9 → ∀ a, a < 6 → LL (s + 4 + a) = 6 ∧ LT (s + 4 + a) = 21 := by decide +kernel
/-- the names' bytes are bytes -/
def nmB (I : zM) (o : Nat) : Prop := ∀ a, a < 6 → ∀ k, k < 6 → fits .byte (.int (I (o + 4 + a) k)) = true
theorem isT.nm {w : Nat × Nat} {s a : Nat} (hw : wOK w) (t : isT w 9 s) (ha : a < 6) : isT w 21 (s + 4 + a) := by
  have h1 := (t.clk hw).f (k := 1) (d := 30) hw rfl rfl rfl (by decide)
  rw [(t.lr hw).2.2.2.1] at h1
  have hn : LL (s + 3) = 6 := by
    have := zLn1 hw (t.clk hw)
    rwa [(t.lr hw).2.2.2.1] at this
  have h := h1.a (i := nI a) (d := 21) hw (by rw [hn]; exact vp_in_nI ha (by omega)) rfl (fun _ => rfl) (by decide)
  rwa [nI_clamp (by omega), (t.lr hw).2.2.2.2.2.2 a ha] at h
theorem k_copyClk (hs : isT w 9 s) (ht : isT w 9 o) (hso : zsep s o) {c : Nat} (hc : I (o + 2) 0 = nI c) (hc6 : c ≤ 6) (hb : nmB I o) : CT G w gl (yX0_copyFrom, cX0_copyFrom, 3, none) 2 (0, 0) [.ref (s + 2), .ref (o + 2)] (sput I s (cpk B (vB I o) q) cu) (qV (fun J => J = sput I s (cpk B (vB I o) (fun k => q k || decide (k = 7 ∨ (22 ≤ k ∧ k < 22 + c * 7)))) cu)) nX := by
  refine ct_of (by decide) [(0, .ref (s + 2)), (1, .ref (o + 2))] rfl rfl (fun K hG hw hgl hwo hK => ?_)
  subst hG; subst hw; subst hgl
  have e : ∀ (C : zBk) (c : Int32) (r x : Nat), o ≤ r → r < o + 24 → sput I s C c r x = I r x := fun C c r x h1 h2 => so (by unfold zsep at hso; omega)
  have key : ∀ k a, a + k = c → ZZ K (0, 0) 10 [(0, .ref (s + 2)), (1, .ref (o + 2)), (2, .int (nI a))] [] (sput I s (cpk B (vB I o) (fun k => q k || decide (k = 7 ∨ (22 ≤ k ∧ k < 22 + a * 7)))) cu) := by
    intro k
    induction k with
    | zero =>
      intro a ha
      have ea : a = c := by omega
      subst ea
      have h : sput I s (cpk B (vB I o) (fun k => q k || decide (k = 7 ∨ (22 ≤ k ∧ k < 22 + a * 7)))) cu (s + 2) 0 ≤ nI a := by
        rw [spC]; unfold cpk; rw [if_pos (by simp)]
        show I (o + 2) 0 ≤ nI a
        rw [hc]; exact Int32.le_refl _
      exact bX0_copyFrom_10 hK hwo (hs.clk hwo) (ht.clk hwo) (fun _ => qV_i rfl) (fun d => absurd h d) (fun d => absurd h d) (fun d => absurd h d) (fun d => absurd h d) (fun d => absurd h d)
    | succ k ih =>
      intro a ha
      have h : ¬ sput I s (cpk B (vB I o) (fun k => q k || decide (k = 7 ∨ (22 ≤ k ∧ k < 22 + a * 7)))) cu (s + 2) 0 ≤ nI a := by
        rw [spC]; unfold cpk; rw [if_pos (by simp)]
        show ¬ I (o + 2) 0 ≤ nI a
        rw [hc]; exact nI_ge (by omega) (by omega)
      have hv : vp_in (nI a) 6 := vp_in_nI (by omega) (by omega)
      have hcl : (nI a).toNatClampNeg = a := nI_clamp (by omega)
      have e1 : LR (s + 2) 2 = s + 10 := (hs.lr hwo).2.2.2.2.1
      have e2 : LR (o + 2) 2 = o + 10 := (ht.lr hwo).2.2.2.2.1
      have e3 : LR (LR (s + 2) 1) a = s + 4 + a := by rw [(hs.lr hwo).2.2.2.1, (hs.lr hwo).2.2.2.2.2.2 a (by omega)]
      have e4 : LR (LR (o + 2) 1) a = o + 4 + a := by rw [(ht.lr hwo).2.2.2.1, (ht.lr hwo).2.2.2.2.2.2 a (by omega)]
      refine bX0_copyFrom_10 hK hwo (hs.clk hwo) (ht.clk hwo) (fun d => absurd d h) (fun _ => hv) (fun _ => hv) (fun _ => hv) (fun _ => hv) (fun _ => ?_)
      rw [hcl, e1, e2, e3, e4, e _ _ _ _ (by omega) (by omega), suW (by omega), cpk_up (C := vB I o) (voW (by omega)).symm]
      obtain ⟨l0, t0⟩ := zLn9b s (Nat.lt_of_lt_of_le hs.1.2 hwo.1) hs.2 a (by omega)
      obtain ⟨l1, t1⟩ := zLn9b o (Nat.lt_of_lt_of_le ht.1.2 hwo.1) ht.2 a (by omega)
      have n0 := ht.nm hwo (a := a) (by omega)
      have n1 := hs.nm hwo (a := a) (by omega)
      refine zz_acopy (t := 1) (ty := .byte) (n := 6) hK.1 hK.2.1 hK.2.2.2.1 (rX0_copyFrom 3 rfl) (Or.inr rfl) (fun _ => rfl) rfl n0 n1 rfl rfl rfl (by omega) (by omega) (by omega) (fun i hi => ?_) rfl (z_dec dX0_copyFrom 29 rfl) ?_
      · rw [e _ _ _ _ (by omega) (by omega)]; exact hb a (by omega) i hi
      · refine bX0_copyFrom_49 hK hwo (hs.clk hwo) (ht.clk hwo) ?_
        rw [ups6, e _ _ _ _ (by omega) (by omega), e _ _ _ _ (by omega) (by omega), e _ _ _ _ (by omega) (by omega), e _ _ _ _ (by omega) (by omega), e _ _ _ _ (by omega) (by omega), e _ _ _ _ (by omega) (by omega)]
        rw [suN (by omega) (show 0 < 6 by omega), suN (by omega) (show 1 < 6 by omega), suN (by omega) (show 2 < 6 by omega), suN (by omega) (show 3 < 6 by omega), suN (by omega) (show 4 < 6 by omega), suN (by omega) (show 5 < 6 by omega)]
        have v : ∀ f, f < 6 → I (o + 4 + a) f = vB I o (22 + a * 7 + 1 + f) := fun f hf => (voN (by omega) hf).symm
        rw [cpk_up (v 0 (by omega)), cpk_up (v 1 (by omega)), cpk_up (v 2 (by omega)), cpk_up (v 3 (by omega)), cpk_up (v 4 (by omega)), cpk_up (v 5 (by omega))]
        have hx := ih (a + 1) (by omega)
        rw [← nI_1] at hx
        rw [cpk_cg (r := fun k => q k || decide (k = 7 ∨ (22 ≤ k ∧ k < 22 + (a + 1) * 7)))]
        · exact hx
        · intro k
          cases hq : q k
          · simp only [hq, Bool.false_or, Bool.or_eq_true, beq_iff_eq, decide_eq_true_eq]; omega
          · simp only [hq, Bool.true_or]
  refine bX0_copyFrom_0 hK hwo (hs.clk hwo) (ht.clk hwo) ?_
  rw [e _ _ _ _ (by omega) (by omega), suC, cpk_up (C := vB I o) (show I (o + 2) 0 = vB I o 7 from rfl)]
  have h0 := key c 0 (by omega)
  rw [cpk_cg (r := fun k => q k || decide (k = 7 ∨ (22 ≤ k ∧ k < 22 + 0 * 7)))]
  · exact h0
  · intro k
    cases hq : q k
    · simp only [hq, Bool.false_or, Bool.or_eq_true, beq_iff_eq, decide_eq_true_eq]; omega
    · simp only [hq, Bool.true_or]
/-- what copyFrom copies -/
def q_cp (n c k : Nat) : Bool := decide (k < 22 ∨ (22 ≤ k ∧ k < 22 + c * 7) ∨ (64 ≤ k ∧ k < 64 + n * 8))
def cpS (I : zM) (s o n c : Nat) : zM := sput I s (cpk (vB I s) (vB I o) (q_cp n c)) (I o 7)
theorem k_copyFrom (hs : isT w 9 s) (ht : isT w 9 o) (hne : s ≠ o) {n c : Nat} (h3 : I o 3 = nI n) (hn : n ≤ 12) (hc : I (o + 2) 0 = nI c) (hc6 : c ≤ 6) (hb : nmB I o) : CT G w gl (yX9_copyFrom, cX9_copyFrom, 3, none) 3 (0, 0) [.ref s, .ref o] I (qV (fun J => J = cpS I s o n c)) nX := by
  refine ct_of (by decide) [(0, .ref s), (1, .ref o)] rfl rfl (fun K hG hw hgl hwo hK => ?_)
  subst hG; subst hw; subst hgl
  have hso := hs.sep hwo ht hne
  have e : ∀ (C : zBk) (c : Int32) (r x : Nat), o ≤ r → r < o + 24 → sput I s C c r x = I r x := fun C c r x h1 h2 => so (by unfold zsep at hso; omega)
  have eo : ∀ (C : zBk) (c : Int32) (x : Nat), sput I s C c o x = I o x := fun C c x => e C c o x (by omega) (by omega)
  have key : ∀ k l, l + k = n → ZZ K (0, 0) 32 [(0, .ref s), (1, .ref o), (2, .int (nI l))] [] (sput I s (cpk (vB I s) (vB I o) (fun k => decide ((1 ≤ k ∧ k ≤ 8) ∨ (22 ≤ k ∧ k < 22 + c * 7) ∨ (64 ≤ k ∧ k < 64 + l * 8)))) (I s 7)) := by
    intro k
    induction k with
    | zero =>
      intro l hl
      have el : l = n := by omega
      subst el
      have h : sput I s (cpk (vB I s) (vB I o) (fun k => decide ((1 ≤ k ∧ k ≤ 8) ∨ (22 ≤ k ∧ k < 22 + c * 7) ∨ (64 ≤ k ∧ k < 64 + l * 8)))) (I s 7) s 3 ≤ nI l := by
        rw [sp3]; unfold cpk; rw [if_pos (by simp)]
        show I o 3 ≤ nI l
        rw [h3]; exact Int32.le_refl _
      refine bX9_copyFrom_32 (g5 := I) hK hwo hs ht (fun _ => ?_) (fun d => absurd h d) (fun d => absurd h d) (fun d => absurd h d) (fun d => absurd h d)
      simp only [eo, su4, su5, su6, su7, su8, su9, su10, su11, su12, su13, su14, su15, su16, su17, su18]
      refine qV_i ?_
      unfold cpS
      refine congrArg (fun b => sput I s b (I o 7)) ?_
      rw [cpk_up (C := vB I o) (k := 9) (x := I o 4) rfl, cpk_up (C := vB I o) (k := 0) (x := I o 5) rfl, cpk_up (C := vB I o) (k := 10) (x := I o 6) rfl, cpk_up (C := vB I o) (k := 11) (x := I o 8) rfl, cpk_up (C := vB I o) (k := 12) (x := I o 9) rfl, cpk_up (C := vB I o) (k := 13) (x := I o 10) rfl, cpk_up (C := vB I o) (k := 14) (x := I o 11) rfl, cpk_up (C := vB I o) (k := 15) (x := I o 12) rfl, cpk_up (C := vB I o) (k := 16) (x := I o 13) rfl, cpk_up (C := vB I o) (k := 17) (x := I o 14) rfl, cpk_up (C := vB I o) (k := 18) (x := I o 15) rfl, cpk_up (C := vB I o) (k := 19) (x := I o 16) rfl, cpk_up (C := vB I o) (k := 20) (x := I o 17) rfl, cpk_up (C := vB I o) (k := 21) (x := I o 18) rfl]
      refine cpk_cg (fun k => ?_)
      unfold q_cp
      simp only [Bool.or_eq_true, beq_iff_eq, decide_eq_true_eq]
      omega
    | succ k ih =>
      intro l hl
      have h : ¬ sput I s (cpk (vB I s) (vB I o) (fun k => decide ((1 ≤ k ∧ k ≤ 8) ∨ (22 ≤ k ∧ k < 22 + c * 7) ∨ (64 ≤ k ∧ k < 64 + l * 8)))) (I s 7) s 3 ≤ nI l := by
        rw [sp3]; unfold cpk; rw [if_pos (by simp)]
        show ¬ I o 3 ≤ nI l
        rw [h3]; exact nI_ge (by omega) (by omega)
      have hv : vp_in (nI l) 12 := vp_in_nI (by omega) (by omega)
      refine bX9_copyFrom_32 hK hwo hs ht (fun d => absurd d h) (fun _ => hv) (fun _ => hv) (fun _ => by rw [k_lr hwo hs (by omega), k_lr hwo ht (by omega)]; exact k_copyLet hs ht hso (by omega)) (fun _ => ?_)
      have hx := ih (l + 1) (by omega)
      rw [← nI_1] at hx
      rw [cpk_cg (r := fun k => decide ((1 ≤ k ∧ k ≤ 8) ∨ (22 ≤ k ∧ k < 22 + c * 7) ∨ (64 ≤ k ∧ k < 64 + (l + 1) * 8)))]
      · exact hx
      · intro k
        simp only [Bool.or_eq_true, beq_iff_eq, decide_eq_true_eq]
        omega
  have h0 := key n 0 (by omega)
  have m1 := k_copySet (G := kG K) (w := kw K) (gl := kl K) (I := I) (B := vB I s) (cu := I s 7) (q := fun _ => false) hs ht hso
  rw [cpk_nil, sput_self] at m1
  refine bX9_copyFrom_0 hK hwo hs ht (by rw [(hs.lr hwo).1, (ht.lr hwo).1]; exact m1) (by rw [(hs.lr hwo).2.1, (ht.lr hwo).2.1]; exact k_copyClk hs ht hso hc hc6 hb) ?_
  rw [eo, su3, cpk_up (C := vB I o) (k := 8) (x := I o 3) rfl]
  rw [cpk_cg (r := fun k => decide ((1 ≤ k ∧ k ≤ 8) ∨ (22 ≤ k ∧ k < 22 + c * 7) ∨ (64 ≤ k ∧ k < 64 + 0 * 8)))]
  · exact h0
  · intro k
    simp only [Bool.or_eq_true, beq_iff_eq, decide_eq_true_eq, Bool.false_eq_true, false_or]
    omega
end CPA
/-! THE CLASS: the history -/
theorem zLR90 : ∀ j, j < 6 → LR 90 j = 91 + 24 * j ∧ LT (91 + 24 * j) = 9 := by decide +kernel
def kkeep (I : zM) (o n c j : Nat) : zM := if I 89 1 = 6 then cpS (up I 89 2 (nI j)) (91 + 24 * j) o n c else up (cpS (up I 89 2 (nI j)) (91 + 24 * j) o n c) 89 1 (I 89 1 + 1)
def kback (I : zM) (o n c j : Nat) : zM := up (up (cpS I o (91 + 24 * j) n c) 89 2 (nI (if j = 0 then 5 else j - 1))) 89 1 (I 89 1 - 1)
section HIS
variable {G : zG} {w : Nat × Nat} {gl : Launch} {I : zM}
theorem cps_far {I : zM} {s o n c r x : Nat} (h : r < s ∨ s + 24 ≤ r) : cpS I s o n c r x = I r x := so h
theorem isT.his {w : Nat × Nat} (hw : wOK w) (h : isT w 3 89) {j : Nat} (hj : j < 6) : isT w 9 (91 + 24 * j) := by
  have h1 := h.f (k := 0) (d := 32) hw rfl rfl rfl (by decide)
  have h2 := h1.a (i := nI j) (d := 9) hw (by show vp_in (nI j) 6; exact vp_in_nI hj (by omega)) rfl (fun _ => rfl) (by decide)
  rw [nI_clamp (by omega)] at h2
  have e : LR (LR 89 0) j = 91 + 24 * j := (zLR90 j hj).1
  rwa [e] at h2
theorem k_keep (hh : isT w 3 89) (ht : isT w 9 288) {n c a : Nat} (h3 : I 288 3 = nI n) (hn : n ≤ 12) (hc : I 290 0 = nI c) (hc6 : c ≤ 6) (hb : nmB I 288) (ha : I 89 2 = nI a) (ha6 : a < 6) {m : Nat} (hm : I 89 1 = nI m) (hm6 : m ≤ 6) : CT G w gl (yX3_keep, cX3_keep, 2, none) 4 (0, 0) [.ref 89, .ref 288] I (qV (fun J => J = kkeep I 288 n c ((a + 1) % 6))) nX := by
  refine ct_of (by decide) [(0, .ref 89), (1, .ref 288)] rfl rfl (fun K hG hw hgl hwo hK => ?_)
  subst hG; subst hw; subst hgl
  have go : ∀ j, j < 6 → j = (a + 1) % 6 → ZZ K (0, 0) 22 [(0, .ref 89), (1, .ref 288)] [.int (nI j), .ref 89] I := fun j hj ej => by
    subst ej
    have e2 : (up I 89 2 (nI ((a + 1) % 6))) 89 2 = nI ((a + 1) % 6) := by simp [up, ups, upd]
    have e0 : ∀ r x, r ≠ 89 → (up I 89 2 (nI ((a + 1) % 6))) r x = I r x := fun r x h => by simp [up, ups, h]
    have e1 : ∀ s o n c, (s < 89 → s + 24 ≤ 89) → s ≠ 89 → cpS (up I 89 2 (nI ((a + 1) % 6))) s o n c 89 1 = I 89 1 := fun s o n c h h2 => by
      rw [cps_far (by omega)]; simp [up, ups, upd]
    refine bX3_keep_22 hK hwo hh ht hh ?_ (g2 := cpS (up I 89 2 (nI ((a + 1) % 6))) (91 + 24 * ((a + 1) % 6)) 288 n c) ?_ ?_ ?_
    · rw [e2]; exact vp_in_nI hj (by omega)
    · rw [e2, nI_clamp (by omega), (zLR90 _ hj).1]
      exact k_copyFrom (hh.his hwo hj) ht (by omega) (by rw [e0 _ _ (by omega)]; exact h3) hn (by rw [e0 _ _ (by omega)]; exact hc) hc6 (fun b hb1 k hk => by rw [e0 _ _ (by omega)]; exact hb b hb1 k hk)
    · rw [e1 _ _ _ _ (by omega) (by omega), hm]
      intro d
      have em : m = 6 := by
        have := (nI_leI (a := 6) (b := m) (by omega) (by omega)).mp d
        omega
      refine qV_i ?_
      unfold kkeep
      rw [if_pos (by rw [hm, em]; rfl)]
    · rw [e1 _ _ _ _ (by omega) (by omega), hm]
      intro d
      refine qV_i ?_
      unfold kkeep
      rw [if_neg (by rw [hm]; intro q; exact d (by rw [q]; exact Int32.le_refl _)), hm]
  refine bX3_keep_0 hK hwo hh ht ?_ ?_ <;> rw [ha, nI_1] <;> intro d
  · have h5 := (nI_leI (a := 6) (b := a + 1) (by omega) (by omega)).mp d
    exact go 0 (by omega) (by rw [show a = 5 by omega])
  · have h5 : ¬ 6 ≤ a + 1 := fun q => d ((nI_leI (a := 6) (b := a + 1) (by omega) (by omega)).mpr q)
    exact go (a + 1) (by omega) (by omega)
end HIS
