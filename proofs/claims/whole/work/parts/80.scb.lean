/-! SCRIPTS OF BOTH SIDES: the same commands are read -/
/-- the rows of both say the same command -/
def rowE (E C : Nat → Int32) (j : Nat) : Prop := E (j * 6) = C (j * 6) ∧ E (j * 6 + 1) = C (j * 6 + 1) ∧ ((C (j * 6) = 0 ∨ C (j * 6) = 3 ∨ C (j * 6) = 4) → E (j * 6 + 2) = C (j * 6 + 2)) ∧ (C (j * 6) = 0 → E (j * 6 + 3) = C (j * 6 + 3) ∧ E (j * 6 + 4) = C (j * 6 + 4) ∧ E (j * 6 + 5) = C (j * 6 + 5))
theorem rowE_cg {E C E' C' : Nat → Int32} {j : Nat} (h1 : ∀ i, i < 6 → E' (j * 6 + i) = E (j * 6 + i)) (h2 : ∀ i, i < 6 → C' (j * 6 + i) = C (j * 6 + i)) (h : rowE E C j) : rowE E' C' j := by
  have a0 := h1 0 (by omega)
  have b0 := h2 0 (by omega)
  rw [Nat.add_zero] at a0 b0
  unfold rowE at h ⊢
  rw [a0, b0, h1 1 (by omega), h1 2 (by omega), h1 3 (by omega), h1 4 (by omega), h1 5 (by omega), h2 1 (by omega), h2 2 (by omega), h2 3 (by omega), h2 4 (by omega), h2 5 (by omega)]
  exact h
theorem cvt_row {D E : zM} {j i : Nat} (h : E (27 + 2 * j) = D (27 + 2 * j)) (h2 : E (28 + 2 * j) = D (28 + 2 * j)) (hi : i < 6) : cvt E (j * 6 + i) = cvt D (j * 6 + i) := by
  unfold cvt
  rw [show (j * 6 + i) / 6 = j by omega, h, h2]
section SCB
variable {b b' : zBk} {N c : Nat} {B X : zBk}
theorem cmd_both (hb : bR b b' N) {t : zTk} (hok : tOK b N t) : ∀ k i, sp_cmd b' t k i = sp_cmd b t k i
  | 0, _ => rfl
  | k + 1, i => by
    unfold sp_cmd
    rw [bR_isw hb hok, cmd_both hb hok k (i + 1)]
theorem anys_both (hb : bR b b' N) : ∀ k i i' (t : zTk) (C A : Nat → Int32), tOK b N t → (tq_anys b' N k i' t A).1 = (tq_anys b N k i t C).1 ∧ (tq_anys b' N k i' t A).2.1 = (tq_anys b N k i t C).2.1 ∧ ((tq_anys b N k i t C).1 = 0 → ∀ x, x < k → (tq_anys b' N k i' t A).2.2 (i' + x) = (tq_anys b N k i t C).2.2 (i + x))
  | 0, _, _, _, _, _, _ => ⟨rfl, rfl, fun _ x hx => absurd hx (Nat.not_lt_zero x)⟩
  | k + 1, i, i', t, C, A, h => by
    unfold tq_anys
    by_cases h2 : t.1 = 2
    · rw [if_pos h2, if_pos h2, bR_nx hb h]
      obtain ⟨a1, a2, a3⟩ := anys_both hb k (i + 1) (i' + 1) (tq_nx b N t) (upd C i t.2.2.2) (upd A i' t.2.2.2) (kT_nx h)
      refine ⟨a1, a2, fun h0 x hx => ?_⟩
      cases x with
      | zero => rw [show i' + 0 = i' from rfl, show i + 0 = i from rfl, anys_far k (i' + 1) _ _ (by omega), anys_far k (i + 1) _ _ (by omega), upd_same, upd_same]
      | succ x =>
        have z := a3 h0 x (by omega)
        rw [show i' + (x + 1) = i' + 1 + x by omega, show i + (x + 1) = i + 1 + x by omega]
        exact z
    · rw [if_neg h2, if_neg h2]
      exact ⟨rfl, rfl, fun h0 => absurd (show (1 : Nat) = 0 from h0) (by decide)⟩
theorem clk_both (hb : bR b b' N) (hN : N ≤ 600) (hZ : nmZ B c) (hE : nmE c B X) {t : zTk} (hok : tOK b N t) : tq_clk X b' N c t = tq_clk B b N c t := by
  have h1 := hok.2.1
  have h2 := hok.2.2.1
  unfold tq_clk
  rw [find_both hb hZ hE (by omega) (by omega), bR_nx hb hok]
/-- a command's end, in both -/
theorem finc_both (hb : bR b b' N) {t : zTk} (hok : tOK b N t) {mm to m : Nat} {D : zM} {C A : Nat → Int32} {r : Nat × zTk × (Nat → Int32)} {q : zCs} (hr : r = tq_anys b N mm to t C) (hq : q = kc_fin b' N m D mm (tq_anys b' N mm 0 t A)) :
    (r.1 = 0 → r.2.1.1 = 3 → q.1 = 0 ∧ q.2.1 = tq_nx b N r.2.1 ∧ ∃ g : Nat → Int32, q.2.2.1 = ups D (28 + 2 * m) g ∧ ∀ x, x < mm → g x = r.2.2 (to + x)) ∧ (r.1 = 0 → r.2.1.1 ≠ 3 → q.1 = 1 ∧ q.2.1 = r.2.1) ∧ (r.1 ≠ 0 → q.1 = r.1 ∧ q.2.1 = r.2.1) := by
  obtain ⟨a1, a2, a3⟩ := anys_both hb mm to 0 t C A hok
  have ok := anys_ok (b := b) (N := N) mm to t C hok
  rw [← hr] at a1 a2 a3 ok
  generalize tq_anys b' N mm 0 t A = s at a1 a2 a3 hq
  unfold kc_fin at hq
  rw [a1, a2] at hq
  refine ⟨fun h0 h3 => ?_, fun h0 h3 => ?_, fun h0 => ?_⟩
  · rw [if_pos h0, if_pos h3, bR_nx hb ok] at hq
    subst hq
    refine ⟨rfl, rfl, _, rfl, fun x hx => ?_⟩
    have z := a3 h0 x hx
    rw [Nat.zero_add] at z
    unfold va_cpy
    rw [if_pos (by omega), Nat.zero_add, Nat.sub_zero]
    exact z
  · rw [if_pos h0, if_neg h3] at hq
    subst hq
    exact ⟨rfl, rfl⟩
  · rw [if_neg h0] at hq
    subst hq
    exact ⟨rfl, rfl⟩
theorem ups_far {I : zM} {q r : Nat} {f : Nat → Int32} (h : r ≠ q) : ups I q f r = I r := ups_ne I f h
theorem up_far {I : zM} {q r k : Nat} {x : Int32} (h : r ≠ q) : up I q k x r = I r := ups_ne I _ h
theorem up_at {I : zM} {q k : Nat} {x : Int32} : up I q k x q k = x := by rw [up_def, ups_same, upd_same]
theorem up_at2 {I : zM} {q k j : Nat} {x : Int32} (h : j ≠ k) : up I q k x q j = I q j := by rw [up_def, ups_same, upd_ne _ _ h]
theorem m_c0 {cd : Nat} (h : cd ≠ 0) : (cd = 3 ∨ cd = 4) ∧ kc_m cd = 2 ∨ ¬ (cd = 3 ∨ cd = 4) ∧ kc_m cd = 1 := by
  unfold kc_m
  rw [if_neg h]
  by_cases e : cd = 3 ∨ cd = 4
  · rw [if_pos e]; exact Or.inl ⟨e, rfl⟩
  · rw [if_neg e]; exact Or.inr ⟨e, rfl⟩
/-- a command, in both -/
theorem args_both (hb : bR b b' N) (hN : N ≤ 600) (hZ : nmZ B c) (hE : nmE c B X) {t : zTk} (hok : tOK b N t) {cd m : Nat} (h5 : cd ≤ 5) {D : zM} {C A : Nat → Int32} {r : zSs} {q : zCs} (hr : r = sp_args b N B c cd (m * 6 + 1) t (upd C (m * 6) (nI cd))) (hq : q = kc_cmd b' N X c cd m t D A) :
    (r.1 = 0 → r.2.1.1 = 3 → q.1 = 0 ∧ q.2.1 = tq_nx b N r.2.1 ∧ rowE (cvt q.2.2.1) r.2.2 m ∧ ∀ j, j < m → ∀ i, i < 6 → cvt q.2.2.1 (j * 6 + i) = cvt D (j * 6 + i)) ∧ (r.1 = 0 → r.2.1.1 ≠ 3 → q.1 = 1 ∧ q.2.1 = r.2.1) ∧ (r.1 ≠ 0 → q.1 = r.1 ∧ q.2.1 = r.2.1) := by
  have r6 : r.2.2 (m * 6) = nI cd := by rw [hr, args_far (by omega), upd_same]
  unfold kc_cmd at hq
  by_cases c0 : cd = 0
  · subst c0
    rw [if_pos rfl, clk_both hb hN hZ hE hok] at hq
    unfold sp_args at hr
    rw [if_neg (by decide), if_neg (by decide)] at hr
    unfold kc_let tq_clk at hq
    have eln : t.2.2.1 - t.2.1 = tq_ln t := rfl
    rw [eln] at hq
    by_cases hs : tq_short t = 0
    · rw [if_pos hs] at hr hq
      by_cases hfd : tq_find B b t.2.1 (tq_ln t) 0 c = -1
      · rw [if_pos hfd] at hr hq
        rw [if_pos rfl] at hq
        subst hr; subst hq
        exact ⟨fun h => absurd (show (3 : Nat) = 0 from h) (by decide), fun h => absurd (show (3 : Nat) = 0 from h) (by decide), fun _ => ⟨rfl, rfl⟩⟩
      · rw [if_neg hfd] at hr hq
        rw [if_neg hfd] at hq
        obtain ⟨f1, f2, f3⟩ := finc_both hb (kT_nx hok) (m := m) (D := up (up D (27 + 2 * m) 0 (nI 0)) (27 + 2 * m) 1 (tq_find B b t.2.1 (tq_ln t) 0 c)) (A := A) hr hq
        refine ⟨fun h0 h3 => ?_, f2, f3⟩
        obtain ⟨g1, g2, g, g3, g4⟩ := f1 h0 h3
        refine ⟨g1, g2, ?_, ?_⟩
        · have k0 : q.2.2.1 (27 + 2 * m) 0 = 0 := by rw [g3, ups_far (by omega), up_at2 (by decide), up_at]; rfl
          have k1 : q.2.2.1 (27 + 2 * m) 1 = tq_find B b t.2.1 (tq_ln t) 0 c := by rw [g3, ups_far (by omega), up_at]
          have kx : ∀ i, i < 4 → q.2.2.1 (28 + 2 * m) i = r.2.2 (m * 6 + 2 + i) := fun i hi => by
            rw [g3, ups_same, g4 i hi]
          have r1 : r.2.2 (m * 6 + 1) = tq_find B b t.2.1 (tq_ln t) 0 c := by rw [hr, anys_far 4 (m * 6 + 1 + 1) _ _ (by omega), upd_same]
          have z0 := cvtL (D := q.2.2.1) (j := m) (i := 0) k0 (by omega)
          have z1 := cvtL (D := q.2.2.1) (j := m) (i := 1) k0 (by omega)
          have z2 := cvtL (D := q.2.2.1) (j := m) (i := 2) k0 (by omega)
          have z3 := cvtL (D := q.2.2.1) (j := m) (i := 3) k0 (by omega)
          refine ⟨by rw [cvt0, k0, r6]; rfl, by rw [cvtL1 k0, k1, r1], fun _ => z0.trans (kx 0 (by omega)), fun _ => ⟨z1.trans (kx 1 (by omega)), z2.trans (kx 2 (by omega)), z3.trans (kx 3 (by omega))⟩⟩
        · intro j hj i hi
          refine cvt_row ?_ ?_ hi
          · rw [g3, ups_far (by omega), up_far (by omega), up_far (by omega)]
          · rw [g3, ups_far (by omega), up_far (by omega), up_far (by omega)]
    · rw [if_neg hs] at hr hq
      rw [if_pos rfl] at hq
      subst hr; subst hq
      exact ⟨fun h => absurd (show tq_short t = 0 from h) hs, fun h => absurd (show tq_short t = 0 from h) hs, fun _ => ⟨rfl, rfl⟩⟩
  · rw [if_neg c0] at hq
    have hr2 : r = tq_anys b N (kc_m cd) (m * 6 + 1) t (upd C (m * 6) (nI cd)) := by
      rw [hr]
      unfold sp_args
      rcases m_c0 c0 with ⟨e, e2⟩ | ⟨e, e2⟩
      · rw [if_pos e, e2]
      · rw [if_neg e, if_pos c0, e2]
    obtain ⟨f1, f2, f3⟩ := finc_both hb hok (m := m) (D := up D (27 + 2 * m) 0 (nI cd)) (A := A) hr2 hq
    refine ⟨fun h0 h3 => ?_, f2, f3⟩
    obtain ⟨g1, g2, g, g3, g4⟩ := f1 h0 h3
    refine ⟨g1, g2, ?_, ?_⟩
    · have k0 : q.2.2.1 (27 + 2 * m) 0 = nI cd := by rw [g3, ups_far (by omega), up_at]
      have kn : ¬ q.2.2.1 (27 + 2 * m) 0 = 0 := by rw [k0]; exact nI_ne0 (by omega) (by omega)
      have kx : ∀ i, i < kc_m cd → q.2.2.1 (28 + 2 * m) i = r.2.2 (m * 6 + 1 + i) := fun i hi => by rw [g3, ups_same, g4 i hi]
      have hm1 : 1 ≤ kc_m cd := by rcases m_c0 c0 with ⟨-, e2⟩ | ⟨-, e2⟩ <;> omega
      have z0 := cvtO (D := q.2.2.1) (j := m) (i := 0) kn (by omega)
      have z1 := cvtO (D := q.2.2.1) (j := m) (i := 1) kn (by omega)
      refine ⟨by rw [cvt0, k0, r6], z0.trans (kx 0 hm1), fun h => ?_, fun h => ?_⟩
      · rw [r6] at h
        have e34 : cd = 3 ∨ cd = 4 := by
          rcases h with h | h | h
          · exact absurd ((nI_eq (a := cd) (b := 0) (by omega) (by omega)).mp h) c0
          · exact Or.inl ((nI_eq (a := cd) (b := 3) (by omega) (by omega)).mp h)
          · exact Or.inr ((nI_eq (a := cd) (b := 4) (by omega) (by omega)).mp h)
        rcases m_c0 c0 with ⟨-, e2⟩ | ⟨e, -⟩
        · exact z1.trans (kx 1 (by omega))
        · exact absurd e34 e
      · rw [r6] at h
        exact absurd ((nI_eq (a := cd) (b := 0) (by omega) (by omega)).mp h) c0
    · intro j hj i hi
      refine cvt_row ?_ ?_ hi
      · rw [g3, ups_far (by omega), up_far (by omega)]
      · rw [g3, ups_far (by omega), up_far (by omega)]
/-- a script, in both -/
theorem scr_both (hb : bR b b' N) (hN : N ≤ 600) (hZ : nmZ B c) (hE : nmE c B X) : ∀ k m (t : zTk) (C : Nat → Int32) (D : zM) (A : Nat → Int32), m + k = 31 → m ≤ 30 → tOK b N t → (∀ j, j < m → rowE (cvt D) C j) →
    (kc_scr b' N X c k m t D A).1.1 = (sp_scr b N B c k m t C).1.1 ∧ (kc_scr b' N X c k m t D A).1.2.1 = (sp_scr b N B c k m t C).1.2.1 ∧ (kc_scr b' N X c k m t D A).2 = (sp_scr b N B c k m t C).2 ∧ ((sp_scr b N B c k m t C).1.1 = 0 → ∀ j, j < (sp_scr b N B c k m t C).2 → rowE (cvt (kc_scr b' N X c k m t D A).1.2.2.1) (sp_scr b N B c k m t C).1.2.2 j)
  | 0, m, t, C, D, A, h1, h2, _, _ => by omega
  | k + 1, m, t, C, D, A, h1, h2, hok, hrow => by
    unfold kc_scr sp_scr
    by_cases t0 : t.1 = 0
    · rw [if_pos t0, if_pos t0]; exact ⟨rfl, rfl, rfl, fun _ => hrow⟩
    rw [if_neg t0, if_neg t0, cmd_both hb hok, bR_nx hb hok]
    by_cases cm : sp_cmd b t 6 0 = -1
    · rw [if_pos cm, if_pos cm]; exact ⟨rfl, rfl, rfl, fun h => absurd (show (1 : Nat) = 0 from h) (by decide)⟩
    rw [if_neg cm, if_neg cm]
    obtain ⟨cd, -, hcd, ecd⟩ := (cmd_in (b := b) (t := t) 6 0).resolve_left cm
    by_cases m30 : m = 30
    · rw [if_pos m30, if_neg (by omega)]; exact ⟨rfl, rfl, rfl, fun h => absurd (show (4 : Nat) = 0 from h) (by decide)⟩
    rw [if_neg m30, if_pos (show m < 30 by omega), ecd, nI_clamp (by omega)]
    have okn := kT_nx hok
    have frow : ∀ j, j < m → ∀ i, i < 6 → (sp_args b N B c cd (m * 6 + 1) (tq_nx b N t) (upd C (m * 6) (nI cd))).2.2 (j * 6 + i) = C (j * 6 + i) := fun j hj i hi => by
      rw [args_far (by omega), upd_ne _ _ (by omega)]
    have okr : tOK b N (sp_args b N B c cd (m * 6 + 1) (tq_nx b N t) (upd C (m * 6) (nI cd))).2.1 := args_ok okn
    obtain ⟨p1, p2, p3⟩ := args_both hb hN hZ hE okn (show cd ≤ 5 by omega) (m := m) (C := C) (D := D) (A := A) rfl rfl
    generalize sp_args b N B c cd (m * 6 + 1) (tq_nx b N t) (upd C (m * 6) (nI cd)) = r at frow okr p1 p2 p3
    generalize kc_cmd b' N X c cd m (tq_nx b N t) D A = q at p1 p2 p3
    by_cases a0 : r.1 = 0
    · rw [if_pos a0]
      by_cases a3 : r.2.1.1 = 3
      · obtain ⟨g1, g2, g3, g4⟩ := p1 a0 a3
        rw [if_pos a3, if_pos g1, g2]
        refine scr_both hb hN hZ hE k (m + 1) _ _ _ _ (by omega) (by omega) (kT_nx okr) (fun j hj => ?_)
        by_cases e : j = m
        · rw [e]; exact g3
        · exact rowE_cg (g4 j (by omega)) (frow j (by omega)) (hrow j (by omega))
      · obtain ⟨g1, g2⟩ := p2 a0 a3
        rw [if_neg a3, if_neg (by rw [g1]; decide)]
        exact ⟨g1, g2, rfl, fun h => absurd (show (1 : Nat) = 0 from h) (by decide)⟩
    · obtain ⟨g1, g2⟩ := p3 a0
      rw [if_neg a0, if_neg (by rw [g1]; exact a0)]
      exact ⟨g1, g2, rfl, fun h => absurd h a0⟩
end SCB
