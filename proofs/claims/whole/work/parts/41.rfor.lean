/-! THE REFERENCE'S CALLS: forecasts -/
def s_aside (B : zBk) : zBk := s_cpb B 0 9 160
theorem aside_lo {B : zBk} {j : Nat} (h : j < 1440) : s_aside B j = B j := cpb_lo (by omega)
theorem aside_9 {B : zBk} {j : Nat} (h : j < 160) : s_aside B (1440 + j) = B j := by
  have := cpb_at (B := B) (a := 0) (b := 9) (k := 160) h
  rw [Nat.zero_mul, Nat.zero_add] at this
  exact this
theorem aside_aside {B : zBk} : s_aside (s_aside B) = s_aside B := by
  funext j
  by_cases h : j < 1440
  · rw [aside_lo h]
  · by_cases h2 : j < 1600
    · obtain ⟨k, rfl⟩ : ∃ k, j = 1440 + k := ⟨j - 1440, by omega⟩
      rw [aside_9 (by omega), aside_9 (by omega), aside_lo (by omega)]
    · show s_cpb (s_aside B) 0 9 160 j = _
      rw [cpb_lo (by omega)]
/-- block 9 brought back onto block 0 -/
theorem aside_back {B C : zBk} (h : ∀ j, 160 ≤ j → C j = s_aside B j) : s_cpb C 9 0 160 = s_aside B := by
  funext j
  by_cases h1 : j < 160
  · have e := cpb_at (B := C) (a := 9) (b := 0) (k := 160) h1
    rw [Nat.zero_mul, Nat.zero_add] at e
    rw [e, h _ (by omega), aside_9 h1, aside_lo (by omega)]
  · rw [cpb_lo (by omega), h j (by omega)]
theorem eq_aside {B : zBk} {n : Nat} (hn : n ≤ 12) : s_eq n B (s_aside B) := ⟨fun k hk => aside_lo (by omega), fun l hl f hf => aside_lo (by omega)⟩
/-- the first i from i on, over k, with q -/
def s_first (q : Nat → Bool) : Nat → Nat → Nat
  | 0, i => i
  | k + 1, i => if q i = true then i else s_first q k (i + 1)
theorem first_in {q : Nat → Bool} : ∀ k i, i ≤ s_first q k i ∧ s_first q k i ≤ i + k
  | 0, i => ⟨Nat.le_refl _, Nat.le_refl _⟩
  | k + 1, i => by
    unfold s_first
    split
    · omega
    · have := first_in (q := q) k (i + 1); omega
def s_all (B : zBk) (n : Nat) : Bool := decide (s_cnt (s_done B) n = n)
def s_mtf (B : zBk) (n : Nat) : Nat := s_first (fun i => s_all (s_mins B n i) n) 1500 0
def s_mtl (B : zBk) (n l : Nat) : Nat := s_first (fun i => s_done (s_mins B n i) l) 1500 0
def s_far (B : zBk) (n p : Nat) : zBk := s_mins (upd B 0 (nI p)) n 1500
def s_lateBy (B : zBk) (n p : Nat) : Int32 := nI (s_cnt (s_late (s_far B n p)) n) + nI n - nI (s_cnt (s_done (s_far B n p)) n)
def s_waitBy (B : zBk) (n p : Nat) : Int32 := s_sum (s_waited (s_far B n p)) n
/-- the best policy of 0 .. k -/
def s_bp (L W : Nat → Int32) : Nat → Nat
  | 0 => 0
  | k + 1 => if L (k + 1) - L (s_bp L W k) < 0 ∨ (L (k + 1) - L (s_bp L W k) = 0 ∧ W (k + 1) < W (s_bp L W k)) then k + 1 else s_bp L W k
theorem bp_le {L W : Nat → Int32} : ∀ k, s_bp L W k ≤ k
  | 0 => Nat.le_refl _
  | k + 1 => by
    unfold s_bp
    have := bp_le (L := L) (W := W) k
    split <;> omega
theorem wf_pol {B : zBk} {n c t p : Nat} (hf : s_wf B n c t) (hp : p < 5) : s_wf (upd B 0 (nI p)) n c t := by
  obtain ⟨f1, f2, f3, f4, f5, f6, f7, f8, f9, f10, f11, f12⟩ := hf
  refine ⟨by rw [upd_ne _ _ (by omega)]; exact f1, f2, by rw [upd_ne _ _ (by omega)]; exact f3, f4, f5, ?_, by rw [upd_ne _ _ (by omega)]; exact f7, by rw [upd_ne _ _ (by omega)]; exact f8, ⟨p, hp, upd_same _ _ _⟩, fun l hl => ?_, by rw [upd_ne _ _ (by omega)]; exact f11, f12⟩
  · rw [upd_ne _ _ (by omega)]
    rcases f6 with e | ⟨l, hl, e, ha⟩
    · exact Or.inl e
    · exact Or.inr ⟨l, hl, e, by rw [arr_eq (of_upd (by omega)) (upd_ne _ _ (by omega))]; exact ha⟩
  · unfold s_let
    rw [of_upd (by omega), of_upd (by omega), of_upd (by omega)]
    exact f10 l hl
section RFO
variable {G : zG} {w : Nat × Nat} {gl : Launch} {I : zM} {F B : zBk} {n c t : Nat}
theorem far_hi {C : zBk} (hf : s_wf (s_aside B) n c t) (ht : t ≤ 2000) {k : Nat} (hk : k ≤ 2000) (hC : C = s_mins (s_aside B) n k) : ∀ j, 160 ≤ j → C j = s_aside B j := fun j hj => by
  rw [hC]; exact mins_far hf (Or.inr (by have := hf.2.1; omega)) k (by omega)
theorem f_pass (hm : isT w 11 312) (hf : s_wf B n c t) {k : Nat} (hk : t + k ≤ 10000) : CT G w gl (yX11_passMinutes, cX11_passMinutes, 4, some .int) 8 (0, 0) [.ref 312, .int (nI k)] (rM I F B) (qE (nI (s_cnt (s_done (s_mins B n k)) n) - nI (s_cnt (s_done B) n)) (rM I F (s_mins B n k))) nX := by
  have h := m_passMinutes (G := G) (gl := gl) (I := rM I F B) (n := n) (c := c) (t := t) (k := k) hm (by rw [rM_313]; exact hf) hk
  rw [rM_313, rM_3] at h
  exact h
theorem f_min (hm : isT w 11 312) (hf : s_wf B n c t) : CT G w gl (yX11_passMinute, cX11_passMinute, 2, none) 7 (0, 0) [.ref 312] (rM I F B) (qV (fun J => J = rM I F (s_min B n))) nX := by
  have h := m_passMinute (G := G) (gl := gl) (I := rM I F B) (n := n) (c := c) (t := t) hm (by rw [rM_313]; exact hf)
  rw [rM_313, rM_3] at h
  exact h
theorem f_done (hm : isT w 11 312) (hf : s_wf B n c t) : CT G w gl (yX11_doneCount, cX11_doneCount, 3, some .int) 2 (0, 0) [.ref 312] (rM I F B) (qE (nI (s_cnt (s_done B) n)) (rM I F B)) nX := by
  have h := m_doneCount (G := G) (gl := gl) (I := rM I F B) (n := n) hm hf.2.1 (by rw [rM_313]; exact hf.1)
  rw [rM_313] at h
  exact h
theorem f_lates (hm : isT w 11 312) (hf : s_wf B n c t) : CT G w gl (yX11_lates, cX11_lates, 3, some .int) 3 (0, 0) [.ref 312] (rM I F B) (qE (nI (s_cnt (s_late B) n)) (rM I F B)) nX := by
  have h := m_lates (G := G) (gl := gl) (I := rM I F B) (n := n) hm hf.2.1 (by rw [rM_313]; exact hf.1)
  rw [rM_313] at h
  exact h
theorem all_iff (hf : s_wf B n c t) : (nI n ≤ nI (s_cnt (s_done B) n)) = (s_all B n = true) := by
  have h1 := s_cnt_le (s_done B) n
  have h2 := hf.2.1
  apply propext
  rw [nI_leI (by omega) (by omega)]
  unfold s_all
  rw [decide_eq_true_eq]
  omega
theorem r_minutesToFinish (hm : isT w 11 312) (hf : s_wf (I 313) n c t) (hf2 : s_wf (s_aside (I 313)) n c t) (ht : t ≤ 2000) : CT G w gl (yX11_minutesToFinish, cX11_minutesToFinish, 3, some .int) 8 (0, 0) [.ref 312] I (qE (if s_all (s_mins (s_aside (I 313)) n (s_mtf (s_aside (I 313)) n)) n = true then nI (s_mtf (s_aside (I 313)) n) else -1) (rM I (upd (I 312) 9 0) (s_aside (I 313)))) nX := by
  refine ct_of (by decide) [(0, .ref 312)] rfl rfl (fun K hG hw hgl hwo hK => ?_)
  subst hG; subst hw; subst hgl
  generalize hC : s_aside (I 313) = C at hf2 hK
  have hn := hf.2.1
  have e45 : ∀ i, i ≤ 1500 → i = s_mtf C n → ZZ K (0, 0) 45 [(0, .ref 312), (1, .int (nI i))] [] (rM I (upd (I 312) 9 0) (s_mins C n i)) := fun i hi ei => by
    have hw1 := wf_mins hf2 i (by omega)
    have cb := c_copyBlock (G := kG K) (w := kw K) (gl := kl K) (I := I) (F := upd (I 312) 9 0) (B := s_mins C n i) (a := 9) (b := 0) hm (by omega) (by omega) (by omega)
    rw [aside_back (B := I 313) (C := s_mins C n i) (by rw [hC]; exact fun j hj => mins_far hf2 (Or.inr (by omega)) i (by omega)), hC] at cb
    have e8 : (rM I (upd (I 312) 9 0) (s_mins C n i)) 313 8 = nI n := by rw [rM_313]; exact hw1.1
    have h3 := s_cnt_le (s_done (s_mins C n i)) n
    refine bX11_minutesToFinish_45 hK hwo hm (f_done hm hw1) ?_ ?_ <;> rw [e8] <;> intro d
    · refine bX11_minutesToFinish_64 hK hwo hm cb (fun _ => qE_i ?_ rfl) (fun q => absurd rfl q)
      rw [← ei, if_neg]
      intro z
      exact d (by rw [of_decide_eq_true z])
    · refine bX11_minutesToFinish_64 hK hwo hm cb (fun q => absurd q (by decide)) (fun _ => qE_i ?_ rfl)
      rw [← ei, if_pos]
      exact decide_eq_true ((nI_eq (by omega) (by omega)).mp d)
  have key : ∀ k i, i + k = 1500 → s_first (fun i => s_all (s_mins C n i) n) k i = s_mtf C n → ZZ K (0, 0) 14 [(0, .ref 312), (1, .int (nI i))] [] (rM I (upd (I 312) 9 0) (s_mins C n i)) := by
    intro k
    induction k with
    | zero =>
      intro i hi he
      have le : (1500 : Int32) ≤ nI i := by rw [show i = 1500 by omega]; exact Int32.le_refl _
      exact bX11_minutesToFinish_14 (f3 := 0) (g3 := I) (g6 := I) hK hwo hm (fun _ => e45 i (by omega) he) (fun q => absurd le q) (fun q => absurd le q) (fun q => absurd le q) (fun q => absurd le q)
    | succ k ih =>
      intro i hi he
      have nle : ¬ (1500 : Int32) ≤ nI i := nI_ge (a := i) (b := 1500) (by omega) (by omega)
      have hw1 := wf_mins hf2 i (by omega)
      have e8 : (rM I (upd (I 312) 9 0) (s_mins C n i)) 313 8 = nI n := by rw [rM_313]; exact hw1.1
      refine bX11_minutesToFinish_14 hK hwo hm (fun q => absurd q nle) (fun _ => f_done hm hw1) (fun _ => ?_) (fun _ _ => f_min hm hw1) (fun _ => ?_) <;> rw [e8, all_iff hw1]
      · intro q
        exact e45 i (by omega) (by rw [← he]; unfold s_first; rw [if_pos q])
      · intro q
        rw [nI_1]
        exact ih (i + 1) (by omega) (by rw [← he]; conv => rhs; unfold s_first; rw [if_neg q])
  have cb := c_copyBlock (G := kG K) (w := kw K) (gl := kl K) (I := I) (F := upd (I 312) 9 0) (B := I 313) (a := 0) (b := 9) hm (by omega) (by omega) (by omega)
  rw [show s_cpb (I 313) 0 9 160 = C from hC] at cb
  exact bX11_minutesToFinish_0 hK hwo hm (by rw [show up I 312 9 0 = mT I 0 from rfl, mT_rM]; exact cb) (key 1500 0 (by omega) rfl)
theorem r_minutesToFinishLetter (hm : isT w 11 312) {x : Int32} (hf : s_wf (I 313) n c t) (hf2 : s_wf (s_aside (I 313)) n c t) (ht : t ≤ 2000) : CT G w gl (yX11_minutesToFinishLetter, cX11_minutesToFinishLetter, 4, some .int) 8 (0, 0) [.ref 312, .int x] I (qE (if s_has x (I 313 8) = true then (if s_done (s_mins (s_aside (I 313)) n (s_mtl (s_aside (I 313)) n x.toNatClampNeg)) x.toNatClampNeg = true then nI (s_mtl (s_aside (I 313)) n x.toNatClampNeg) else -1) else 0) (if s_has x (I 313 8) = true then rM I (upd (I 312) 9 0) (s_aside (I 313)) else mT I 1)) nX := by
  refine ct_of (by decide) [(0, .ref 312), (1, .int x)] rfl rfl (fun K hG hw hgl hwo hK => ?_)
  subst hG; subst hw; subst hgl
  have hn := hf.2.1
  refine bX11_minutesToFinishLetter_0 hK hwo hm (m_isLetter hm hf.1 hn) (fun d => ?_) (fun d => ?_)
  · have h := b2_n0.mp d
    rw [if_pos h, if_pos h] at hK
    obtain ⟨l, hl, el⟩ := has_nat hf.1 (by omega) h
    rw [el, nI_clamp (by omega)] at hK
    rw [el]
    generalize hC : s_aside (I 313) = C at hf2 hK
    have dn : ∀ i, i ≤ 1500 → CT (kG K) (kw K) (kl K) (yX11_isDone, cX11_isDone, 2, some .boolean) 1 (0, 0) [.ref 312, .int (nI l)] (rM I (upd (I 312) 9 0) (s_mins C n i)) (qE (b2 (s_done (s_mins C n i) l)) (rM I (upd (I 312) 9 0) (s_mins C n i))) nX := fun i hi => by
      have h := m_isDone (G := kG K) (w := kw K) (gl := kl K) (I := rM I (upd (I 312) 9 0) (s_mins C n i)) (l := l) hm (by omega)
      rw [rM_313] at h
      exact h
    have e58 : ∀ i, i ≤ 1500 → i = s_mtl C n l → ZZ K (0, 0) 58 [(0, .ref 312), (1, .int (nI l)), (2, .int (nI i))] [] (rM I (upd (I 312) 9 0) (s_mins C n i)) := fun i hi ei => by
      have cb := c_copyBlock (G := kG K) (w := kw K) (gl := kl K) (I := I) (F := upd (I 312) 9 0) (B := s_mins C n i) (a := 9) (b := 0) hm (by omega) (by omega) (by omega)
      rw [aside_back (B := I 313) (C := s_mins C n i) (by rw [hC]; exact fun j hj => mins_far hf2 (Or.inr (by omega)) i (by omega)), hC] at cb
      refine bX11_minutesToFinishLetter_58 hK hwo hm (dn i hi) cb (fun q => qE_i ?_ rfl) (fun q => qE_i ?_ rfl) <;> rw [← ei]
      · rw [if_neg (by rw [b2_0.mp q]; decide)]
      · rw [if_pos (b2_n0.mp q)]
    have key : ∀ k i, i + k = 1500 → s_first (fun i => s_done (s_mins C n i) l) k i = s_mtl C n l → ZZ K (0, 0) 33 [(0, .ref 312), (1, .int (nI l)), (2, .int (nI i))] [] (rM I (upd (I 312) 9 0) (s_mins C n i)) := by
      intro k
      induction k with
      | zero =>
        intro i hi he
        have le : (1500 : Int32) ≤ nI i := by rw [show i = 1500 by omega]; exact Int32.le_refl _
        exact bX11_minutesToFinishLetter_33 (f3 := 0) (g3 := I) (g6 := I) hK hwo hm (fun _ => e58 i (by omega) he) (fun q => absurd le q) (fun q => absurd le q) (fun q => absurd le q) (fun q => absurd le q)
      | succ k ih =>
        intro i hi he
        have nle : ¬ (1500 : Int32) ≤ nI i := nI_ge (a := i) (b := 1500) (by omega) (by omega)
        have hw1 := wf_mins hf2 i (by omega)
        refine bX11_minutesToFinishLetter_33 hK hwo hm (fun q => absurd q nle) (fun _ => dn i (by omega)) (fun _ q => ?_) (fun _ _ => f_min hm hw1) (fun _ q => ?_)
        · exact e58 i (by omega) (by rw [← he]; unfold s_first; rw [if_pos (b2_n0.mp q)])
        · rw [nI_1]
          exact ih (i + 1) (by omega) (by rw [← he]; conv => rhs; unfold s_first; rw [if_neg (by rw [b2_0.mp q]; decide)])
    have cb := c_copyBlock (G := kG K) (w := kw K) (gl := kl K) (I := I) (F := upd (I 312) 9 0) (B := I 313) (a := 0) (b := 9) hm (by omega) (by omega) (by omega)
    rw [show s_cpb (I 313) 0 9 160 = C from hC] at cb
    exact bX11_minutesToFinishLetter_14 hK hwo hm hm (m_f0 hm) (fun _ => by rw [mT_rM]; exact cb) (fun _ => key 1500 0 (by omega) rfl) (fun q => absurd rfl q)
  · have h := b2_0.mp d
    rw [if_neg (by rw [h]; decide), if_neg (by rw [h]; decide)] at hK
    exact bX11_minutesToFinishLetter_14 (g3 := I) hK hwo hm hm (m_f1 hm) (fun q => absurd q (by decide)) (fun q => absurd q (by decide)) (fun _ => qE_i rfl rfl)
/-- the letter of the minute behind k minutes, as the reference tells it -/
def s_lwi (B : zBk) (n k : Nat) : Int32 := if (s_min (s_mins B n k) n) 18 ≤ (s_mins B n k) 18 then -1 else (s_min (s_mins B n k) n) 11
theorem r_letterWrittenIn (hm : isT w 11 312) {x : Int32} (hf : s_wf (I 313) n c t) (hf2 : s_wf (s_aside (I 313)) n c t) (ht : t ≤ 2000) : CT G w gl (yX11_letterWrittenIn, cX11_letterWrittenIn, 4, some .int) 9 (0, 0) [.ref 312, .int x] I (qE (if s_in x 0 300 = true then s_lwi (s_aside (I 313)) n x.toNatClampNeg else 0) (if s_in x 0 300 = true then rM I (upd (I 312) 9 0) (s_aside (I 313)) else mT I 1)) nX := by
  refine ct_of (by decide) [(0, .ref 312), (1, .int x)] rfl rfl (fun K hG hw hgl hwo hK => ?_)
  subst hG; subst hw; subst hgl
  have hn := hf.2.1
  refine bX11_letterWrittenIn_0 hK hwo hm m_in (fun d => ?_) (fun d => ?_)
  · have h := b2_n0.mp d
    rw [if_pos h, if_pos h] at hK
    have h9 := h
    unfold s_in at h9
    rw [Bool.and_eq_true] at h9
    obtain ⟨k, hk, ek⟩ := i_of (M := 300) (n := 300) (by decide) (of_decide_eq_true h9.1) (of_decide_eq_true h9.2)
    rw [ek, nI_clamp (by omega)] at hK
    rw [ek]
    generalize hC : s_aside (I 313) = C at hf2 hK
    have hw1 := wf_mins hf2 k (by omega)
    have cb := c_copyBlock (G := kG K) (w := kw K) (gl := kl K) (I := I) (F := upd (I 312) 9 0) (B := I 313) (a := 0) (b := 9) hm (by omega) (by omega) (by omega)
    rw [show s_cpb (I 313) 0 9 160 = C from hC] at cb
    have cc := c_copyBlock (G := kG K) (w := kw K) (gl := kl K) (I := I) (F := upd (I 312) 9 0) (B := s_min (s_mins C n k) n) (a := 9) (b := 0) hm (by omega) (by omega) (by omega)
    rw [aside_back (B := I 313) (C := s_min (s_mins C n k) n) (by rw [hC]; exact fun j hj => mins_far hf2 (Or.inr (by omega)) (k + 1) (by omega)), hC] at cc
    refine bX11_letterWrittenIn_17 hK hwo hm hm (m_f0 hm) (fun _ => by rw [mT_rM]; exact cb) (fun _ => f_pass hm hf2 (by omega)) (fun _ => f_min hm hw1) (fun _ => ?_) (fun _ => ?_) (fun q => absurd rfl q) <;> rw [rM_313, rM_313] <;> intro q
    · exact bX11_letterWrittenIn_74 hK hwo hm cc (qE_i (by unfold s_lwi; rw [if_pos q]) rfl)
    · exact bX11_letterWrittenIn_74 hK hwo hm cc (qE_i (by unfold s_lwi; rw [if_neg q]) rfl)
  · have h := b2_0.mp d
    rw [if_neg (by rw [h]; decide), if_neg (by rw [h]; decide)] at hK
    exact bX11_letterWrittenIn_17 (g3 := I) (f4 := 0) (g4 := I) (g5 := I) hK hwo hm hm (m_f1 hm) (fun q => absurd q (by decide)) (fun q => absurd q (by decide)) (fun q => absurd q (by decide)) (fun q => absurd q (by decide)) (fun q => absurd q (by decide)) (fun _ => qE_i rfl rfl)
theorem m_runFar (hm : isT w 11 312) (hf : s_wf B n c t) (ht : t ≤ 2000) {p : Nat} (hp : p < 5) : CT G w gl (yX11_runFar, cX11_runFar, 2, none) 9 (0, 0) [.ref 312, .int (nI p)] (rM I F B) (qV (fun J => J = rM I F (s_far B n p))) nX := by
  refine ct_of (by decide) [(0, .ref 312), (1, .int (nI p))] rfl rfl (fun K hG hw hgl hwo hK => ?_)
  subst hG; subst hw; subst hgl
  refine bX11_runFar_0 (f1 := nI (s_cnt (s_done (s_far B n p)) n) - nI (s_cnt (s_done (upd B 0 (nI p))) n)) (g1 := rM I F (s_far B n p)) hK hwo hm ?_ (qV_i rfl)
  rw [up_def, rM_313, rM_3]
  exact f_pass (k := 1500) hm (wf_pol hf hp) (by omega)
theorem far_hi2 (hf : s_wf (s_aside B) n c t) (ht : t ≤ 2000) {p : Nat} (hp : p < 5) : ∀ j, 160 ≤ j → s_far (s_aside B) n p j = s_aside B j := fun j hj => by
  unfold s_far
  rw [mins_far (wf_pol hf hp) (Or.inr (by have := hf.2.1; omega)) 1500 (by omega), upd_ne _ _ (by omega)]
theorem m_lateBy (hm : isT w 11 312) (hf : s_wf (s_aside B) n c t) (ht : t ≤ 2000) {p : Nat} (hp : p < 5) : CT G w gl (yX11_lateBy, cX11_lateBy, 3, some .int) 10 (0, 0) [.ref 312, .int (nI p)] (rM I F B) (qE (s_lateBy (s_aside B) n p) (rM I F (s_aside B))) nX := by
  refine ct_of (by decide) [(0, .ref 312), (1, .int (nI p))] rfl rfl (fun K hG hw hgl hwo hK => ?_)
  subst hG; subst hw; subst hgl
  have hw1 : s_wf (s_far (s_aside B) n p) n c (t + 1500) := wf_mins (wf_pol hf hp) 1500 (by omega)
  have cc := c_copyBlock (G := kG K) (w := kw K) (gl := kl K) (I := I) (F := F) (B := s_far (s_aside B) n p) (a := 9) (b := 0) hm (by omega) (by omega) (by omega)
  rw [aside_back (far_hi2 hf ht hp)] at cc
  refine bX11_lateBy_0 hK hwo hm (c_copyBlock (a := 0) (b := 9) hm (by omega) (by omega) (by omega)) (m_runFar hm hf ht hp) (f_lates hm hw1) (f_done hm hw1) cc (qE_i ?_ rfl)
  rw [rM_313, hw1.1]
  rfl
theorem m_waitingBy (hm : isT w 11 312) (hf : s_wf (s_aside B) n c t) (ht : t ≤ 2000) {p : Nat} (hp : p < 5) : CT G w gl (yX11_waitingBy, cX11_waitingBy, 4, some .int) 10 (0, 0) [.ref 312, .int (nI p)] (rM I F B) (qE (s_waitBy (s_aside B) n p) (rM I F (s_aside B))) nX := by
  refine ct_of (by decide) [(0, .ref 312), (1, .int (nI p))] rfl rfl (fun K hG hw hgl hwo hK => ?_)
  subst hG; subst hw; subst hgl
  have hn := hf.2.1
  have hw1 : s_wf (s_far (s_aside B) n p) n c (t + 1500) := wf_mins (wf_pol hf hp) 1500 (by omega)
  have cc := c_copyBlock (G := kG K) (w := kw K) (gl := kl K) (I := I) (F := F) (B := s_far (s_aside B) n p) (a := 9) (b := 0) hm (by omega) (by omega) (by omega)
  rw [aside_back (far_hi2 hf ht hp)] at cc
  have e8 : rM I F (s_far (s_aside B) n p) 313 8 = nI n := by rw [rM_313]; exact hw1.1
  have key : ∀ k i, i + k = n → ZZ K (0, 0) 16 [(0, .ref 312), (1, .int (nI p)), (2, .int (s_sum (s_waited (s_far (s_aside B) n p)) i)), (3, .int (nI i))] [] (rM I F (s_far (s_aside B) n p)) := by
    intro k
    induction k with
    | zero =>
      intro i hi
      have h : rM I F (s_far (s_aside B) n p) 313 8 ≤ nI i := by rw [e8]; exact nI_le (by omega) (by omega)
      exact bX11_waitingBy_16 (f4 := 0) (g4 := I) hK hwo hm (fun _ => cc) (fun _ => qE_i (by rw [show i = n by omega]; rfl) rfl) (fun d => absurd h d) (fun d => absurd h d)
    | succ k ih =>
      intro i hi
      have h : ¬ rM I F (s_far (s_aside B) n p) 313 8 ≤ nI i := by rw [e8]; exact nI_ge (by omega) (by omega)
      have hx := ih (i + 1) (by omega)
      rw [← nI_1, sum_s] at hx
      have mw := m_waited (G := kG K) (w := kw K) (gl := kl K) (I := rM I F (s_far (s_aside B) n p)) (l := i) hm (by omega)
      rw [rM_313] at mw
      exact bX11_waitingBy_16 (g2 := I) hK hwo hm (fun d => absurd d h) (fun d => absurd d h) (fun _ => mw) (fun _ => hx)
  exact bX11_waitingBy_0 hK hwo hm (c_copyBlock (a := 0) (b := 9) hm (by omega) (by omega) (by omega)) (m_runFar hm hf ht hp) (key n 0 (by omega))
theorem r_lateWith (hm : isT w 11 312) {x : Int32} (hf2 : s_wf (s_aside (I 313)) n c t) (ht : t ≤ 2000) : CT G w gl (yX11_lateWith, cX11_lateWith, 2, some .int) 11 (0, 0) [.ref 312, .int x] I (qE (if s_in x 0 4 = true then s_lateBy (s_aside (I 313)) n x.toNatClampNeg else 0) (if s_in x 0 4 = true then rM I (upd (I 312) 9 0) (s_aside (I 313)) else mT I 1)) nX := by
  refine ct_of (by decide) [(0, .ref 312), (1, .int x)] rfl rfl (fun K hG hw hgl hwo hK => ?_)
  subst hG; subst hw; subst hgl
  refine bX11_lateWith_0 hK hwo hm m_in (fun d => ?_) (fun d => ?_)
  · have h := b2_n0.mp d
    rw [if_pos h, if_pos h] at hK
    have h9 := h
    unfold s_in at h9
    rw [Bool.and_eq_true] at h9
    obtain ⟨k, hk, ek⟩ := i_of (M := 4) (n := 4) (by decide) (of_decide_eq_true h9.1) (of_decide_eq_true h9.2)
    rw [ek, nI_clamp (by omega)] at hK
    rw [ek]
    exact bX11_lateWith_15 hK hwo hm hm (m_f0 hm) (fun _ => by rw [mT_rM]; exact m_lateBy hm hf2 ht (by omega)) (fun _ => qE_i rfl rfl) (fun q => absurd rfl q)
  · have h := b2_0.mp d
    rw [if_neg (by rw [h]; decide), if_neg (by rw [h]; decide)] at hK
    exact bX11_lateWith_15 (f3 := 0) (g3 := I) hK hwo hm hm (m_f1 hm) (fun q => absurd q (by decide)) (fun q => absurd q (by decide)) (fun _ => qE_i rfl rfl)
theorem r_waitingWith (hm : isT w 11 312) {x : Int32} (hf2 : s_wf (s_aside (I 313)) n c t) (ht : t ≤ 2000) : CT G w gl (yX11_waitingWith, cX11_waitingWith, 2, some .int) 11 (0, 0) [.ref 312, .int x] I (qE (if s_in x 0 4 = true then s_waitBy (s_aside (I 313)) n x.toNatClampNeg else 0) (if s_in x 0 4 = true then rM I (upd (I 312) 9 0) (s_aside (I 313)) else mT I 1)) nX := by
  refine ct_of (by decide) [(0, .ref 312), (1, .int x)] rfl rfl (fun K hG hw hgl hwo hK => ?_)
  subst hG; subst hw; subst hgl
  refine bX11_waitingWith_0 hK hwo hm m_in (fun d => ?_) (fun d => ?_)
  · have h := b2_n0.mp d
    rw [if_pos h, if_pos h] at hK
    have h9 := h
    unfold s_in at h9
    rw [Bool.and_eq_true] at h9
    obtain ⟨k, hk, ek⟩ := i_of (M := 4) (n := 4) (by decide) (of_decide_eq_true h9.1) (of_decide_eq_true h9.2)
    rw [ek, nI_clamp (by omega)] at hK
    rw [ek]
    exact bX11_waitingWith_15 hK hwo hm hm (m_f0 hm) (fun _ => by rw [mT_rM]; exact m_waitingBy hm hf2 ht (by omega)) (fun _ => qE_i rfl rfl) (fun q => absurd rfl q)
  · have h := b2_0.mp d
    rw [if_neg (by rw [h]; decide), if_neg (by rw [h]; decide)] at hK
    exact bX11_waitingWith_15 (f3 := 0) (g3 := I) hK hwo hm hm (m_f1 hm) (fun q => absurd q (by decide)) (fun q => absurd q (by decide)) (fun _ => qE_i rfl rfl)
theorem r_bestPolicy (hm : isT w 11 312) (hf2 : s_wf (s_aside (I 313)) n c t) (ht : t ≤ 2000) : CT G w gl (yX11_bestPolicy, cX11_bestPolicy, 4, some .int) 11 (0, 0) [.ref 312] I (qE (nI (s_bp (s_lateBy (s_aside (I 313)) n) (s_waitBy (s_aside (I 313)) n) 4)) (rM I (upd (I 312) 9 0) (s_aside (I 313)))) nX := by
  refine ct_of (by decide) [(0, .ref 312)] rfl rfl (fun K hG hw hgl hwo hK => ?_)
  subst hG; subst hw; subst hgl
  have L : ∀ (B : zBk) (p : Nat), s_aside B = s_aside (I 313) → p < 5 → CT (kG K) (kw K) (kl K) (yX11_lateBy, cX11_lateBy, 3, some .int) 10 (0, 0) [.ref 312, .int (nI p)] (rM I (upd (I 312) 9 0) B) (qE (s_lateBy (s_aside (I 313)) n p) (rM I (upd (I 312) 9 0) (s_aside (I 313)))) nX := fun B p hB hp => by
    have h := m_lateBy (G := kG K) (w := kw K) (gl := kl K) (I := I) (F := upd (I 312) 9 0) (B := B) (n := n) (c := c) (t := t) (p := p) hm (by rw [hB]; exact hf2) ht hp
    rw [hB] at h; exact h
  have W : ∀ (B : zBk) (p : Nat), s_aside B = s_aside (I 313) → p < 5 → CT (kG K) (kw K) (kl K) (yX11_waitingBy, cX11_waitingBy, 4, some .int) 10 (0, 0) [.ref 312, .int (nI p)] (rM I (upd (I 312) 9 0) B) (qE (s_waitBy (s_aside (I 313)) n p) (rM I (upd (I 312) 9 0) (s_aside (I 313)))) nX := fun B p hB hp => by
    have h := m_waitingBy (G := kG K) (w := kw K) (gl := kl K) (I := I) (F := upd (I 312) 9 0) (B := B) (n := n) (c := c) (t := t) (p := p) hm (by rw [hB]; exact hf2) ht hp
    rw [hB] at h; exact h
  have key : ∀ k i (B : zBk), i + k = 4 → s_aside B = s_aside (I 313) → (k = 0 → B = s_aside (I 313)) → ZZ K (0, 0) 9 [(0, .ref 312), (1, .int (nI (s_bp (s_lateBy (s_aside (I 313)) n) (s_waitBy (s_aside (I 313)) n) i))), (2, .int (nI (i + 1)))] [] (rM I (upd (I 312) 9 0) B) := by
    intro k
    induction k with
    | zero =>
      intro i B hi hB hB2
      have e4 : i = 4 := by omega
      subst e4
      have le : (4 : Int32) < nI (4 + 1) := by decide
      refine bX11_bestPolicy_9 (f3 := 0) (g3 := I) (f4 := 0) (g4 := I) (f9 := 0) (g9 := I) (f10 := 0) (g10 := I) hK hwo hm (fun _ => qE_i rfl (by rw [hB2 rfl])) (fun d => absurd le d) (fun d => absurd le d) (fun d => absurd le d) (fun d => absurd le d) (fun d => absurd le d) (fun d => absurd le d) (fun d => absurd le d) (fun d => absurd le d)
    | succ k ih =>
      intro i B hi hB _
      have nle : ¬ (4 : Int32) < nI (i + 1) := nI_nlt (a := 4) (b := i + 1) (by omega) (by omega)
      have hbp := bp_le (L := s_lateBy (s_aside (I 313)) n) (W := s_waitBy (s_aside (I 313)) n) i
      have hx := ih (i + 1) (s_aside (I 313)) (by omega) aside_aside (fun _ => rfl)
      unfold s_bp at hx
      refine bX11_bestPolicy_9 hK hwo hm (fun d => absurd d nle) (fun _ => L B (i + 1) hB (by omega)) (fun _ => L _ _ aside_aside (by omega)) (fun _ d => ?_) (fun _ d e => ?_) (fun _ _ _ => W _ (i + 1) aside_aside (by omega)) (fun _ _ _ => W _ _ aside_aside (by omega)) (fun _ d e f => ?_) (fun _ d e f => ?_) <;> rw [nI_1]
      · rw [if_pos (Or.inl d)] at hx; exact hx
      · rw [if_neg (by rintro (z | z); exact d z; exact e z.1)] at hx; exact hx
      · rw [if_neg (by rintro (z | z); exact d z; exact absurd f (Int32.not_le.mpr z.2))] at hx; exact hx
      · rw [if_pos (Or.inr ⟨e, Int32.not_le.mp f⟩)] at hx; exact hx
  have h0 := key 4 0 (I 313) (by omega) rfl (fun z => absurd z (by decide))
  exact bX11_bestPolicy_0 hK hwo hm (by rw [show up I 312 9 0 = mT I 0 from rfl, mT_rM]; exact h0)
end RFO
