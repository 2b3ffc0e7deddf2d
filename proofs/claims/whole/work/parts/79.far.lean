/-! FORECASTS OF BOTH SIDES -/
theorem first_at {q : Nat → Bool} : ∀ k i, s_first q k i < i + k → q (s_first q k i) = true
  | 0, i, h => absurd (show i < i + 0 from h) (by omega)
  | k + 1, i, h => by
    unfold s_first at h ⊢
    by_cases e : q i = true
    · rw [if_pos e]; exact e
    · rw [if_neg e] at h ⊢
      exact first_at k (i + 1) (by omega)
theorem cnt_all {q : Nat → Bool} : ∀ n, s_cnt q n = n → ∀ l, l < n → q l = true
  | 0, _, l, h => absurd h (Nat.not_lt_zero l)
  | n + 1, h, l, hl => by
    unfold s_cnt at h
    have h1 := s_cnt_le q n
    by_cases e : q n = true
    · rw [if_pos e] at h
      rcases Nat.lt_or_eq_of_le (Nat.le_of_lt_succ hl) with h4 | h4
      · exact cnt_all n (by omega) l h4
      · rw [h4]; exact e
    · rw [if_neg e] at h
      omega
section FAR
variable {B C : zBk} {n c t l p : Nat}
theorem all_done (h : s_all B n = true) : ∀ l, l < n → s_done B l = true := cnt_all n (of_decide_eq_true h)
theorem open_nd (h : s_open B l = true) : s_done B l = false := by
  unfold s_open at h
  rw [Bool.and_eq_true] at h
  have := h.2
  simpa using this
theorem min_done (hf : s_wf B n c t) (ha : ∀ l, l < n → s_done B l = true) : ∀ l f, s_of (s_min B n) l f = s_of B l f := by
  intro l f
  have hsel : s_select B n (s_pol B) = -1 := by
    rcases sel_in (p := s_pol B) hf with e | ⟨a, h1, -, ho⟩
    · exact e
    · have z := ha a h1
      rw [open_nd ho] at z
      exact absurd z (by decide)
  unfold s_min s_min0
  rw [of_upd (by omega)]
  split
  · split
    · first | exact of_upd (by omega) | rw [if_pos hsel, of_upd (by omega)]
    · exact f_hand
  · exact f_refill
theorem mins_done {i : Nat} (hf : s_wf B n c t) (ha : ∀ l, l < n → s_done (s_mins B n i) l = true) : ∀ d, t + (i + d) ≤ 10000 → ∀ l f, s_of (s_mins B n (i + d)) l f = s_of (s_mins B n i) l f
  | 0, _, _, _ => rfl
  | d + 1, h, l, f => by
    have ih := mins_done hf ha d (by omega)
    show s_of (s_min (s_mins B n (i + d)) n) l f = _
    rw [min_done (wf_mins hf (i + d) (by omega)) (fun a h9 => by rw [done_f (ih a 5)]; exact ha a h9), ih]
/-- far ahead nothing more happens to letters that are done -/
theorem far_same (hf : s_wf B n c t) (hn : s_num B n t) (ht : t ≤ 2000) (hp : p < 5) {l : Nat} (hl : l < n) : s_late (s_far B n p) l = s_late (fX B n p) l ∧ s_done (s_far B n p) l = s_done (fX B n p) l ∧ s_waited (s_far B n p) l = s_waited (fX B n p) l := by
  have wD := wf_pol hf hp
  have nD : s_num (upd B 0 (nI p)) n t := num_upd hn (by omega) (by omega) (by omega)
  unfold s_far fX
  generalize upd B 0 (nI p) = D at wD nD
  have hi : s_first (fun i => s_all (s_mins D n i) n) 1500 0 ≤ 0 + 1500 := (first_in _ _).2
  have hat := first_at (q := fun i => s_all (s_mins D n i) n) 1500 0
  generalize s_first (fun i => s_all (s_mins D n i) n) 1500 0 = i at hi hat
  by_cases e : i = 1500
  · rw [e]; exact ⟨rfl, rfl, rfl⟩
  · have hd := all_done (hat (by omega))
    have hs := mins_done wD hd (1500 - i) (by omega)
    have n1 := num_mins wD nD 1500 (by omega)
    have n2 := num_mins wD nD i (by omega)
    rw [show i + (1500 - i) = 1500 by omega] at hs
    have d1 : s_done (s_mins D n 1500) l = true := by rw [done_f (hs l 5)]; exact hd l hl
    have a1 := ((n1.2 l hl).2 d1).1
    have a2 := ((n2.2 l hl).2 (hd l hl)).1
    refine ⟨?_, done_f (hs l 5), ?_⟩
    · unfold s_late
      rw [done_f (hs l 5), hs, hs]
    · unfold s_waited
      rw [if_pos a1, if_pos a2, if_pos d1, if_pos (hd l hl), hs, hs, hs]
theorem i_asub (x y z : Int32) : x + y - z = x + (y - z) := by
  apply Int32.toBitVec_inj.mp
  simp only [Int32.toBitVec_sub, Int32.toBitVec_add]
  bv_omega
theorem far_late (hf : s_wf B n c t) (hn : s_num B n t) (ht : t ≤ 2000) (hp : p < 5) : s_lateBy B n p = kLate (fX B n p) n := by
  unfold s_lateBy kLate
  rw [open_nI, i_asub, cnt_congr (q := s_late (s_far B n p)) (r := s_late (fX B n p)) n (fun l hl => (far_same hf hn ht hp hl).1), cnt_congr (q := s_done (s_far B n p)) (r := s_done (fX B n p)) n (fun l hl => (far_same hf hn ht hp hl).2.1)]
theorem far_wait (hf : s_wf B n c t) (hn : s_num B n t) (ht : t ≤ 2000) (hp : p < 5) : s_waitBy B n p = kWait (fX B n p) n :=
  sum_cg n (fun l hl => (far_same hf hn ht hp hl).2.2)
theorem late_nat {X : zBk} (hn : n ≤ 12) : ∃ x, x ≤ 24 ∧ kLate X n = nI x := by
  have h1 := s_cnt_le (s_late X) n
  have h2 := s_cnt_le (fun l => !s_done X l) n
  exact ⟨s_cnt (s_late X) n + s_cnt (fun l => !s_done X l) n, by omega, by unfold kLate; rw [nI_add]⟩
theorem i_cmp : ∀ a, a < 25 → ∀ b, b < 25 → (nI a - nI b < 0 ↔ nI a < nI b) ∧ (nI a - nI b = 0 ↔ nI a = nI b) := by decide +kernel
theorem bp_eq {L W : Nat → Int32} (h : ∀ p, p < 5 → ∃ x, x ≤ 24 ∧ L p = nI x) : ∀ k, k ≤ 4 → s_bp L W k = s_kp L W k
  | 0, _ => rfl
  | k + 1, hk => by
    have ih := bp_eq (L := L) (W := W) h k (by omega)
    have h9 := s_kp_le (L := L) (W := W) k
    obtain ⟨x, hx, ex⟩ := h (k + 1) (by omega)
    obtain ⟨y, hy, ey⟩ := h (s_kp L W k) (by omega)
    obtain ⟨q1, q2⟩ := i_cmp x (by omega) y (by omega)
    unfold s_bp s_kp
    rw [ih]
    rw [← ex, ← ey] at q1 q2
    simp only [q1, q2]
theorem bp_cg {L W L' W' : Nat → Int32} (h : ∀ p, p < 5 → L' p = L p ∧ W' p = W p) : ∀ k, k ≤ 4 → s_kp L' W' k = s_kp L W k
  | 0, _ => rfl
  | k + 1, hk => by
    have ih := bp_cg h k (by omega)
    have h9 := s_kp_le (L := L) (W := W) k
    unfold s_kp
    rw [ih, (h (k + 1) (by omega)).1, (h (k + 1) (by omega)).2, (h (s_kp L W k) (by omega)).1, (h (s_kp L W k) (by omega)).2]
theorem bpR_cg {L W L' W' : Nat → Int32} (h : ∀ p, p < 5 → L' p = L p ∧ W' p = W p) : ∀ k, k ≤ 4 → s_bp L' W' k = s_bp L W k
  | 0, _ => rfl
  | k + 1, hk => by
    have ih := bpR_cg h k (by omega)
    have h9 := bp_le (L := L) (W := W) k
    unfold s_bp
    rw [ih, (h (k + 1) (by omega)).1, (h (k + 1) (by omega)).2, (h (s_bp L W k) (by omega)).1, (h (s_bp L W k) (by omega)).2]
/-- the best policy, of both -/
theorem best_both (hf : s_wf B n c t) (hn : s_num B n t) (ht : t ≤ 2000) (h : s_eq n B C) : s_kp (fun p => kLate (fX C n p) n) (fun p => kWait (fX C n p) n) 4 = s_bp (s_lateBy B n) (s_waitBy B n) 4 := by
  rw [bpR_cg (L := fun p => kLate (fX B n p) n) (W := fun p => kWait (fX B n p) n) (fun p hp => ⟨far_late hf hn ht hp, far_wait hf hn ht hp⟩) 4 (by omega)]
  rw [bp_eq (fun p _ => late_nat hf.2.1) 4 (by omega)]
  exact bp_cg (fun p hp => ⟨kLate_eq (fX_eq h hf ht hp), kWait_eq (fX_eq h hf ht hp)⟩) 4 (by omega)
theorem mtf_eq (h : s_eq n B C) (hf : s_wf B n c t) (ht : t ≤ 2000) : s_mtf C n = s_mtf B n :=
  first_cg 1500 0 (fun j _ _ => eq_all (eq_mins h hf j (by omega)))
theorem mtl_eq (h : s_eq n B C) (hf : s_wf B n c t) (ht : t ≤ 2000) (hl : l < n) : s_mtl C n l = s_mtl B n l :=
  first_cg 1500 0 (fun j _ _ => eq_done (eq_mins h hf j (by omega)) hl)
theorem fin_both (h : s_eq n B C) (hf : s_wf B n c t) (ht : t ≤ 2000) : (if s_all (s_mins C n (s_mtf C n)) n = true then nI (s_mtf C n) else -1) = if s_all (s_mins B n (s_mtf B n)) n = true then nI (s_mtf B n) else -1 := by
  have hi : s_mtf B n ≤ 0 + 1500 := (first_in _ _).2
  rw [mtf_eq h hf ht, eq_all (eq_mins h hf (s_mtf B n) (by omega))]
theorem finl_both (h : s_eq n B C) (hf : s_wf B n c t) (ht : t ≤ 2000) (hl : l < n) : (if s_done (s_mins C n (s_mtl C n l)) l = true then nI (s_mtl C n l) else -1) = if s_done (s_mins B n (s_mtl B n l)) l = true then nI (s_mtl B n l) else -1 := by
  have hi : s_mtl B n l ≤ 0 + 1500 := (first_in _ _).2
  rw [mtl_eq h hf ht hl, eq_done (eq_mins h hf (s_mtl B n l) (by omega)) hl]
theorem wr_eq (h : s_eq n B C) (hf : s_wf B n c t) : s_wr C n = s_wr B n := by
  have hn := hf.2.1
  have e0 : s_pol C = s_pol B := by unfold s_pol; rw [h.1 0 (by omega)]
  unfold s_wr
  rw [e0, eq_select h hf, h.1 14 (by omega), h.1 15 (by omega)]
  by_cases e : s_select B n (s_pol B) = -1
  · rw [if_neg (fun z => z.2.2.1 e), if_neg (fun z => z.2.2.1 e)]
  · obtain ⟨l, hl, h2, -⟩ := (sel_in hf).resolve_left e
    rw [h2, nI_clamp (by omega), (eq_give h hl).1 15 (by omega)]
/-- the letter that a minute writes, told from the numbers -/
theorem lwi_wr (hf : s_wf B n c t) (hn : s_num B n t) : (if s_min B n 18 ≤ B 18 then -1 else s_min B n 11) = s_wr B n := by
  have hn12 := hf.2.1
  have ht := hf.2.2.2.2.2.2.2.2.2.2.2
  obtain ⟨⟨w, hw, ew⟩, -⟩ := hn
  have same : ∀ X : zBk, X 18 = B 18 → (if upd X 9 (X 9 + 1) 18 ≤ B 18 then (-1 : Int32) else upd X 9 (X 9 + 1) 11) = -1 := fun X hX => by
    rw [upd_ne _ _ (by omega), hX, if_pos (Int32.le_refl _)]
  by_cases c1 : B 14 ≤ 0
  · by_cases c2 : B 15 ≤ 0
    · by_cases c3 : s_select B n (s_pol B) = -1
      · have es : s_wr B n = -1 := by unfold s_wr; exact if_neg (fun z => z.2.2.1 c3)
        have e0 : s_min0 B n = upd B 19 (B 19 + 1) := by unfold s_min0; rw [if_pos c1, if_pos c2, if_pos c3]
        unfold s_min
        rw [es, e0]
        exact same _ (upd_ne _ _ (by omega))
      · obtain ⟨l, hl, h2, ho⟩ := (sel_in hf).resolve_left c3
        have e0 : s_min0 B n = s_workOn B l := by unfold s_min0; rw [if_pos c1, if_pos c2, if_neg c3, h2, nI_clamp (by omega)]
        unfold s_min
        rw [e0]
        unfold s_workOn
        by_cases c4 : s_give B l 15 ≤ 0
        · have es : s_wr B n = nI l := by
            unfold s_wr
            rw [h2, nI_clamp (by omega)]
            exact if_pos ⟨c1, c2, by rw [← h2]; exact c3, c4⟩
          rw [if_pos c4, es]
          have e18 : s_write (s_give B l) l 18 = nI (w + 1) := by
            unfold s_write; try dsimp only
            rw [g_ink (by omega) (by omega), g_mark18, g_blot (by omega) (by omega), g_give (by omega) (by omega) (by omega), ew, nI_1]
          have e11 : s_write (s_give B l) l 11 = nI l := by
            unfold s_write; try dsimp only
            rw [g_ink (by omega) (by omega), g_mark11]
          rw [upd_ne _ _ (by omega), upd_ne _ _ (by omega), e18, e11, ew, if_neg (nI_ge (by omega) (by omega))]
        · have es : s_wr B n = -1 := by
            unfold s_wr
            rw [h2, nI_clamp (by omega)]
            exact if_neg (fun z => c4 z.2.2.2)
          rw [if_neg c4, es]
          exact same _ (by rw [g_hand (by omega) (by omega), g_give (by omega) (by omega) (by omega)])
    · have es : s_wr B n = -1 := by unfold s_wr; exact if_neg (fun z => c2 z.2.1)
      have e0 : s_min0 B n = s_hand B := by unfold s_min0; rw [if_pos c1, if_neg c2]
      unfold s_min
      rw [es, e0]
      exact same _ (g_hand (by omega) (by omega))
  · have es : s_wr B n = -1 := by unfold s_wr; exact if_neg (fun z => c1 z.1)
    have e0 : s_min0 B n = s_refill B := by unfold s_min0; rw [if_neg c1]
    unfold s_min
    rw [es, e0]
    exact same _ (g_refill (by omega) (by omega) (by omega))
theorem lwi_both (h : s_eq n B C) (hf : s_wf B n c t) (hn : s_num B n t) {k : Nat} (hk : t + k < 10000) : s_wr (s_mins C n k) n = s_lwi B n k := by
  unfold s_lwi
  rw [lwi_wr (wf_mins hf k (by omega)) (num_mins hf hn k (by omega))]
  exact wr_eq (eq_mins h hf k (by omega)) (wf_mins hf k (by omega))
/-! names that agree as far as they go -/
def nmE (c : Nat) (B C : zBk) : Prop := ∀ a, a < c → C (22 + a * 7) = B (22 + a * 7) ∧ ∀ k, k < (B (22 + a * 7)).toNatClampNeg → C (22 + a * 7 + 1 + k) = B (22 + a * 7 + 1 + k)
theorem nmE.rf : nmE c B B := fun _ _ => ⟨rfl, fun _ _ => rfl⟩
theorem nmE.tr {D : zBk} (h : nmE c B C) (h2 : nmE c C D) : nmE c B D := fun a ha => ⟨((h2 a ha).1).trans (h a ha).1, fun k hk => ((h2 a ha).2 k (by rw [(h a ha).1]; exact hk)).trans ((h a ha).2 k hk)⟩
theorem nmE.cg {B' C' : zBk} (h : nmE c B C) (hL : nmL B c) (e1 : ∀ k, 22 ≤ k → k < 22 + c * 7 → B' k = B k) (e2 : ∀ k, 22 ≤ k → k < 22 + c * 7 → C' k = C k) : nmE c B' C' := fun a ha => by
  obtain ⟨L, hL6, eL⟩ := hL.2 a ha
  obtain ⟨h1, h2⟩ := h a ha
  rw [eL, nI_clamp (by omega)] at h2
  rw [e1 _ (by omega) (by omega), e2 _ (by omega) (by omega), eL, nI_clamp (by omega)]
  refine ⟨by rw [← eL]; exact h1, fun k hk => ?_⟩
  rw [e1 _ (by omega) (by omega), e2 _ (by omega) (by omega)]
  exact h2 k hk
theorem nmE.L (h : nmE c B C) (hL : nmL B c) : nmL C c := ⟨hL.1, fun a ha => by
  obtain ⟨L, h6, e⟩ := hL.2 a ha
  exact ⟨L, h6, (h a ha).1.trans e⟩⟩
theorem find_nm {b : zBk} {fr m : Nat} (hL : nmL B c) (hE : nmE c B C) (hm : m ≤ 600) : ∀ k a, a + k ≤ c → tq_find C b fr m a k = tq_find B b fr m a k
  | 0, _, _ => rfl
  | k + 1, a, ha => by
    have es : tq_same C b fr m a = tq_same B b fr m a := by
      obtain ⟨L, h6, e⟩ := hL.2 a (by omega)
      obtain ⟨h1, h2⟩ := hE a (by omega)
      unfold tq_same
      rw [h1]
      by_cases e1 : B (22 + a * 7) = nI m
      · rw [e1, nI_clamp (by omega)] at h2
        rw [cm_cg (f := fun k => B (22 + a * 7 + 1 + k)) (f' := fun k => C (22 + a * 7 + 1 + k)) (g := fun k => b (fr + k)) (g' := fun k => b (fr + k)) m (fun k hk => by
          show C (22 + a * 7 + 1 + k) = _ ↔ B (22 + a * 7 + 1 + k) = _
          rw [h2 k hk])]
      · rw [decide_eq_false e1]; rfl
    unfold tq_find
    rw [es, find_nm hL hE hm k (a + 1) (by omega)]
theorem find_both {b b' : zBk} {N fr m : Nat} (h : bR b b' N) (hZ : nmZ B c) (hE : nmE c B C) (hm : m ≤ 600) (hfr : fr + m ≤ N) : tq_find C b' fr m 0 c = tq_find B b fr m 0 c := by
  rw [find_nm hZ.L hE hm c 0 (by omega)]
  exact bR_find h hZ hm hfr (fun _ _ _ => rfl)
/-! the letters' text, of both -/
theorem nm_both {a : Nat} (h2 : ∀ k, k < (B (22 + a * 7)).toNatClampNeg → C (22 + a * 7 + 1 + k) = B (22 + a * 7 + 1 + k)) : ∀ k, k ≤ (B (22 + a * 7)).toNatClampNeg → o_nm C a k = o_nm B a k
  | 0, _ => rfl
  | k + 1, hk => by
    unfold o_nm
    rw [nm_both h2 k (by omega), h2 k (by omega)]
theorem out_both (hf : s_wf B n c t) (h : s_eq n B C) (hE : nmE c B C) : ∀ m, m ≤ n → o_all C m = o_all B m
  | 0, _ => rfl
  | l + 1, hl => by
    have hn := hf.2.1
    obtain ⟨⟨a, ha, ea⟩, -⟩ := hf.2.2.2.2.2.2.2.2.2.1 l (by omega)
    obtain ⟨h1, h2⟩ := hE a ha
    have hc := hf.2.2.2.2.1
    unfold o_all
    rw [out_both hf h hE l (by omega)]
    congr 1
    unfold o_let
    rw [h.2 l (by omega) 0 (by omega), h.2 l (by omega) 5 (by omega), ea, nI_clamp (by omega)]
    have e1 : o_nl C a = o_nl B a := by unfold o_nl; rw [h1]
    have e2 : o_mk C l = o_mk B l := by unfold o_mk; rw [eq_cur h hf, eq_late h (by omega)]
    rw [e1, e2, nm_both h2 (o_nl B a) (Nat.le_refl _)]
theorem all_len (hf : s_wf B n c t) (hL : nmL B c) : ∀ m, m ≤ n → (o_all B m).length + (if m = 0 then 0 else 1) ≤ 11 * m
  | 0, _ => Nat.le_refl _
  | l + 1, hl => by
    have hn := hf.2.1
    obtain ⟨⟨a, ha, ea⟩, -⟩ := hf.2.2.2.2.2.2.2.2.2.1 l (by omega)
    obtain ⟨L, h6, eL⟩ := hL.2 a ha
    have ih := all_len hf hL l (by omega)
    have i1 := o_dg_len (s_of B l 5)
    have i2 := o_mk_len B l
    have i3 : (o_sp l).length ≤ (if l = 0 then 0 else 1) := by unfold o_sp; split <;> simp
    have i4 : o_nl B (s_of B l 0).toNatClampNeg ≤ 6 := by
      rw [ea, nI_clamp (by have := hf.2.2.2.2.1; omega)]
      unfold o_nl
      rw [eL, nI_clamp (by omega)]
      exact h6
    unfold o_all o_let
    simp only [List.length_append, o_nm_len, List.length_cons, List.length_nil]
    rw [if_neg (by omega)]
    split at ih <;> split at i3 <;> omega
end FAR
