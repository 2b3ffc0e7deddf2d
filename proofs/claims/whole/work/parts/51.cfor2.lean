/-! THE OFFICE: forecasts of a letter, the best policy -/
theorem first_cg {q r : Nat → Bool} : ∀ k i, (∀ j, i ≤ j → j < i + k → r j = q j) → s_first r k i = s_first q k i
  | 0, _, _ => rfl
  | k + 1, i, h => by
    unfold s_first
    rw [h i (by omega) (by omega), first_cg k (i + 1) (fun j a b => h j (by omega) (by omega))]
theorem sum_cg {q r : Nat → Int32} : ∀ n, (∀ l, l < n → r l = q l) → s_sum r n = s_sum q n
  | 0, _ => rfl
  | n + 1, h => by
    unfold s_sum
    rw [sum_cg n (fun l hl => h l (by omega)), h n (by omega)]
/-- far ahead, till all is done -/
def fX (B : zBk) (n p : Nat) : zBk := s_mins (upd B 0 (nI p)) n (s_first (fun i => s_all (s_mins (upd B 0 (nI p)) n i) n) 1500 0)
theorem eq_all {B C : zBk} {n : Nat} (h : s_eq n B C) : s_all C n = s_all B n := by
  unfold s_all
  rw [cnt_eq (q := s_done) (r := s_done) (fun l hl => eq_done h hl)]
theorem fX_eq {B C : zBk} {n c t p : Nat} (h : s_eq n B C) (hf : s_wf B n c t) (ht : t ≤ 2000) (hp : p < 5) : s_eq n (fX B n p) (fX C n p) := by
  have h2 : s_eq n (upd B 0 (nI p)) (upd C 0 (nI p)) := h.up (by omega) rfl
  have hf2 := wf_pol hf hp
  have e : s_first (fun i => s_all (s_mins (upd C 0 (nI p)) n i) n) 1500 0 = s_first (fun i => s_all (s_mins (upd B 0 (nI p)) n i) n) 1500 0 :=
    first_cg 1500 0 (fun j a b => eq_all (eq_mins h2 hf2 j (by omega)))
  unfold fX
  rw [e]
  have hi : s_first (fun i => s_all (s_mins (upd B 0 (nI p)) n i) n) 1500 0 ≤ 0 + 1500 := (first_in _ _).2
  exact eq_mins h2 hf2 _ (by omega)
theorem kLate_eq {B C : zBk} {n : Nat} (h : s_eq n B C) : kLate C n = kLate B n := by
  unfold kLate
  rw [cnt_eq (q := s_late) (r := s_late) (fun l hl => eq_late h hl), cnt_eq (q := fun B l => !s_done B l) (r := fun B l => !s_done B l) (B := B) (C := C) (fun l hl => by rw [eq_done h hl])]
theorem kWait_eq {B C : zBk} {n : Nat} (h : s_eq n B C) : kWait C n = kWait B n := sum_cg n (fun l hl => eq_waited h hl)
/-- the best policy of 0 .. k, as the class compares -/
def s_kp (L W : Nat → Int32) : Nat → Nat
  | 0 => 0
  | k + 1 => if L (k + 1) < L (s_kp L W k) ∨ (L (k + 1) = L (s_kp L W k) ∧ W (k + 1) < W (s_kp L W k)) then k + 1 else s_kp L W k
theorem s_kp_le {L W : Nat → Int32} : ∀ k, s_kp L W k ≤ k
  | 0 => Nat.le_refl _
  | k + 1 => by
    unfold s_kp
    have := s_kp_le (L := L) (W := W) k
    split <;> omega
section CFP
variable {G : zG} {w : Nat × Nat} {gl : Launch} {I : zM} {n c t a m : Nat}
theorem c_minutesToFinishLetter (hx : isT w 10 0) (q : kc I n c t) (h1 : nmB I 1) {x : Int32} : CT G w gl (yX10_minutesToFinishLetter, cX10_minutesToFinishLetter, 3, some .int) 7 (1, 6) [.ref 0, .int x] I (fun v J => s_has x (vB I 288 8) = true ∧ qS (if s_done (s_mins (spD I n c) n (s_mtl (spD I n c) n x.toNatClampNeg)) x.toNatClampNeg = true then nI (s_mtl (spD I n c) n x.toNatClampNeg) else -1) I v J) (xP (s_has x (vB I 288 8) = true) sI I) := by
  refine ct_of (by decide) [(0, .ref 0), (1, .int x)] rfl rfl (fun K hG hw hgl hwo hK => ?_)
  subst hG; subst hw; subst hgl
  have hs := hx.spa hwo
  have hn := q.1.2.1
  have ht := q.2.2.2.2
  have rl := c_requireLetter (G := kG K) (w := kw K) (gl := kl K) (I := I) (B := vB I 288) (cu := I 288 7) (x := x) hx (hx.st hwo)
  rw [sput_self] at rl
  have hcp := h_copy (G := kG K) (gl := kl K) hx hwo q
  have hf : s_wf (spD I n c) n c t := eq_wf spD_eq q.1
  have hpo : s_pos (spD I n c) := eq_pos spD_eq q.2.1
  have hnm : nmK (spD I n c) := nmK_cpk (nmK_B.mp h1) (nmK_B.mp q.2.2.2.1)
  generalize hB : spD I n c = B at hf hpo hnm hcp hK
  have wfm : ∀ i, i ≤ 2000 → s_wf (s_mins B n i) n c (t + i) := fun i hi => wf_mins hf i (by omega)
  refine bX10_minutesToFinishLetter_0 (p1 := s_has x (vB I 288 8) = true) (x1 := xP (s_has x (vB I 288 8) = true) sI I) hK hwo hx g16 (fun _ _ z => z) rl g66 (fun _ => hcp) (fun h => ?_)
  obtain ⟨l, hl, ex⟩ := has_nat q.1.1 (by omega) h
  have hcl : x.toNatClampNeg = l := by rw [ex]; exact nI_clamp (by omega)
  rw [hcl] at hK
  have fin : ∀ i, i ≤ 1501 → ∃ X Y, sput I 1 (s_mins B n i) (s_cur (s_mins B n i)) = sput I 1 X Y ∧ nmK X := fun i hi => ⟨_, _, rfl, nmK_mins hf hnm (by omega)⟩
  have isf : ∀ i, i ≤ 2000 → CT (kG K) (kw K) (kl K) (yX9_isFinished, cX9_isFinished, 2, some .boolean) 0 (0, 0) [.ref 1, .int x] (sput I 1 (s_mins B n i) (s_cur (s_mins B n i))) (qE (b2 (s_done (s_mins B n i) l)) (sput I 1 (s_mins B n i) (s_cur (s_mins B n i)))) nX := fun i hi => by
    have h := k_isFinished (G := kG K) (w := kw K) (gl := kl K) (I := I) (s := 1) (B := s_mins B n i) (cu := s_cur (s_mins B n i)) (x := x) hs (Or.inr ⟨l, by omega, ex⟩)
    rw [if_neg (by rw [ex]; exact nI_ne_m1 (by omega)), hcl] at h
    exact h
  have key : ∀ k i, i + k = 1500 → s_first (fun i => s_done (s_mins B n i) l) k i = s_mtl B n l → ZZ K (1, 6) 18 [(0, .ref 0), (1, .int x), (2, .int (nI i))] [] (sput I 1 (s_mins B n i) (s_cur (s_mins B n i))) := by
    intro k
    induction k with
    | zero =>
      intro i hi hfi
      have nlt : ¬ (1500 : Int32) < nI i := fun z => by have := (nI_ltI (a := 1500) (b := i) (by omega) (by omega)).mp z; omega
      have ei : i = s_mtl B n l := hfi
      refine bX10_minutesToFinishLetter_18 hK hwo hx ⟨by decide, by decide⟩ (fun z => absurd z nlt) ⟨by decide, by decide⟩ (fun _ => isf i (by omega)) ⟨by decide, by decide⟩ (fun _ _ => k_runMinute hs (wfm i (by omega)) (pos_mins hpo n i)) (fun _ d => ?_) ⟨by decide, by decide⟩ (fun _ d => ⟨h, ?_, fin i (by omega)⟩)
      · have lt : (1500 : Int32) < nI i + 1 := by rw [nI_1]; exact (nI_ltI (a := 1500) (b := i + 1) (by omega) (by omega)).mpr (by omega)
        refine bX10_minutesToFinishLetter_18 (f4 := 0) (g4 := I) (f6 := 0) (g6 := I) hK hwo hx ⟨by decide, by decide⟩ (fun _ => ⟨h, ?_, fin (i + 1) (by omega)⟩) ⟨by decide, by decide⟩ (fun z => absurd lt z) ⟨by decide, by decide⟩ (fun z => absurd lt z) (fun z => absurd lt z) ⟨by decide, by decide⟩ (fun z => absurd lt z)
        rw [← ei, if_neg (by rw [b2_0.mp d]; decide)]
      · rw [← ei, if_pos (b2_n0.mp d)]
    | succ k ih =>
      intro i hi hfi
      have nlt : ¬ (1500 : Int32) < nI i := fun z => by have := (nI_ltI (a := 1500) (b := i) (by omega) (by omega)).mp z; omega
      unfold s_first at hfi
      refine bX10_minutesToFinishLetter_18 hK hwo hx ⟨by decide, by decide⟩ (fun z => absurd z nlt) ⟨by decide, by decide⟩ (fun _ => isf i (by omega)) ⟨by decide, by decide⟩ (fun _ _ => k_runMinute hs (wfm i (by omega)) (pos_mins hpo n i)) (fun _ d => ?_) ⟨by decide, by decide⟩ (fun _ d => ⟨h, ?_, fin i (by omega)⟩)
      · rw [if_neg (by rw [b2_0.mp d]; decide)] at hfi
        rw [nI_1]
        exact ih (i + 1) (by omega) hfi
      · rw [if_pos (b2_n0.mp d)] at hfi
        rw [← hfi, if_pos (b2_n0.mp d)]
  exact key 1500 0 (by omega) rfl
theorem c_letterWrittenIn (hx : isT w 10 0) (q : kc I n c t) (h1 : nmB I 1) {x : Int32} : CT G w gl (yX10_letterWrittenIn, cX10_letterWrittenIn, 3, some .int) 6 (1, 6) [.ref 0, .int x] I (fun v J => s_in x 0 300 = true ∧ qS (s_wr (s_mins (spD I n c) n x.toNatClampNeg) n) I v J) (xP (s_in x 0 300 = true) sA I) := by
  refine ct_of (by decide) [(0, .ref 0), (1, .int x)] rfl rfl (fun K hG hw hgl hwo hK => ?_)
  subst hG; subst hw; subst hgl
  have hs := hx.spa hwo
  have hn := q.1.2.1
  have ht := q.2.2.2.2
  have hcp := h_copy (G := kG K) (gl := kl K) hx hwo q
  have hf : s_wf (spD I n c) n c t := eq_wf spD_eq q.1
  have hpo : s_pos (spD I n c) := eq_pos spD_eq q.2.1
  have hnm : nmK (spD I n c) := nmK_cpk (nmK_B.mp h1) (nmK_B.mp q.2.2.2.1)
  generalize hB : spD I n c = B at hf hpo hnm hcp hK
  have wfm : ∀ i, i ≤ 2000 → s_wf (s_mins B n i) n c (t + i) := fun i hi => wf_mins hf i (by omega)
  refine bX10_letterWrittenIn_0 hK hwo hx g16 (fun d => ⟨by have h := Int32.not_le.mpr d; simp [s_in, h], rfl, rfl⟩) g00 (fun _ _ => hcp) (fun d e => ?_) g16 (fun d e => ⟨by simp [s_in, e], rfl, rfl⟩)
  have h : s_in x 0 300 = true := by have h := Int32.not_lt.mp d; simp [s_in, h, e]
  obtain ⟨k0, hk0, ex⟩ := i_of (M := 300) (n := 300) (by decide) (Int32.not_lt.mp d) e
  have hcl : x.toNatClampNeg = k0 := by rw [ex]; exact nI_clamp (by omega)
  rw [hcl] at hK
  have key : ∀ k i, i + k = k0 → ZZ K (0, 0) 35 [(0, .ref 0), (1, .int x), (2, .int (nI i))] [] (sput I 1 (s_mins B n i) (s_cur (s_mins B n i))) := by
    intro k
    induction k with
    | zero =>
      intro i hi
      have ei : i = k0 := by omega
      have le : x ≤ nI i := by rw [ex, ei]; exact Int32.le_refl _
      refine bX10_letterWrittenIn_35 (f5 := 0) (g5 := I) hK hwo hx g00 (fun _ => k_runMinute hs (wfm i (by omega)) (pos_mins hpo n i)) g00 (fun _ => ⟨h, by rw [ei], ?_⟩) g00 (fun z => absurd le z) (fun z => absurd le z)
      exact ⟨s_mins B n (i + 1), _, rfl, nmK_mins hf hnm (by omega)⟩
    | succ k ih =>
      intro i hi
      have nle : ¬ x ≤ nI i := by rw [ex]; exact nI_ge (by omega) (by omega)
      refine bX10_letterWrittenIn_35 (f2 := 0) (g2 := I) hK hwo hx g00 (fun z => absurd z nle) g00 (fun z => absurd z nle) g00 (fun _ => k_runMinute hs (wfm i (by omega)) (pos_mins hpo n i)) (fun _ => ?_)
      rw [nI_1]
      exact ih (i + 1) (by omega)
  exact key k0 0 (by omega)
theorem kc_sp {X : zBk} {Y : Int32} (q : kc I n c t) : kc (sput I 1 X Y) n c t := by
  have e : vB (sput I 1 X Y) 288 = vB I 288 := vB_hi (fun r hr => sp_288 (by omega))
  unfold kc
  rw [e, sp_288 (by omega)]
  refine ⟨q.1, q.2.1, q.2.2.1, fun a ha k hk => ?_, q.2.2.2.2⟩
  rw [sp_288 (by omega)]
  exact q.2.2.2.1 a ha k hk
theorem spX_eq (q : kc I n c t) {p : Nat} (hp : p < 5) : s_eq n (fX (vB I 288) n p) (spX I n c p) := fX_eq spD_eq q.1 q.2.2.2.2 hp
theorem c_bestPolicy (hx : isT w 10 0) (q : kc I n c t) (h1 : nmB I 1) : CT G w gl (yX10_bestPolicy, cX10_bestPolicy, 7, some .int) 6 (0, 0) [.ref 0] I (qS (nI (s_kp (fun p => kLate (fX (vB I 288) n p) n) (fun p => kWait (fX (vB I 288) n p) n) 4)) I) nX := by
  refine ct_of (by decide) [(0, .ref 0)] rfl rfl (fun K hG hw hgl hwo hK => ?_)
  subst hG; subst hw; subst hgl
  generalize hL : (fun p => kLate (fX (vB I 288) n p) n) = L at hK
  generalize hW : (fun p => kWait (fX (vB I 288) n p) n) = W at hK
  refine bX10_bestPolicy_0 hK hwo hx ?_
  have key : ∀ k p (X : zBk) (Y b l v : Int32), p + k = 5 → nmK X → (p = 0 → b = -1) → (∀ j, p = j + 1 → b = nI (s_kp L W j) ∧ l = L (s_kp L W j) ∧ v = W (s_kp L W j)) → ZZ K (0, 0) 9 [(0, .ref 0), (1, .int b), (2, .int l), (3, .int v), (4, .int (nI p))] [] (sput I 1 X Y) := by
    intro k
    induction k with
    | zero =>
      intro p X Y b l v hp hnm h0 hj
      have le : (5 : Int32) ≤ nI p := nI_le (a := 5) (b := p) (by omega) (by omega)
      refine bX10_bestPolicy_9 (g3 := I) (f4 := 0) (g4 := I) (f5 := 0) (g5 := I) (f6 := 0) (g6 := I) hK hwo hx (fun _ => ⟨?_, X, Y, rfl, hnm⟩) (fun z => absurd le z) (fun z => absurd le z) (fun z => absurd le z) (fun z => absurd le z) (fun z => absurd le z) (fun z => absurd le z) (fun z => absurd le z) (fun z => absurd le z) (fun z => absurd le z)
      rw [(hj 4 (by omega)).1]
    | succ k ih =>
      intro p X Y b l v hp hnm h0 hj
      have nle : ¬ (5 : Int32) ≤ nI p := fun z => by have := (nI_leI (a := 5) (b := p) (by omega) (by omega)).mp z; omega
      have q' : kc (sput I 1 X Y) n c t := kc_sp q
      obtain ⟨u, hu, hfw⟩ := kfar_wf q' (p := p) (by omega)
      have hnm' : nmK (spX (sput I 1 X Y) n c p) := kfar_nm q' (nmB_sp hnm) (by omega)
      have ef : kfar (sput I 1 X Y) n c p = sput I 1 (spX (sput I 1 X Y) n c p) (s_cur (spX (sput I 1 X Y) n c p)) := sput_sput
      have se := spX_eq q' (p := p) (by omega)
      rw [vB_hi (J := sput I 1 X Y) (I := I) (fun r hr => sp_288 (by omega))] at se
      have eL : kLate (spX (sput I 1 X Y) n c p) n = L p := by rw [kLate_eq se, ← hL]
      have eW : kWait (spX (sput I 1 X Y) n c p) n = W p := by rw [kWait_eq se, ← hW]
      have ks := k_spare (G := kG K) (gl := kl K) hx q' (p := p) (by omega)
      rw [ef] at ks
      generalize spX (sput I 1 X Y) n c p = X' at hfw hnm' eL eW ks
      have h70 : ∀ v1 v2 v3 : Int32, (∀ j, p = j + 1 → s_kp L W p = p) → ZZ K (0, 0) 70 [(0, .ref 0), (1, .int v1), (2, .int v2), (3, .int v3), (4, .int (nI p)), (5, .int (nI (s_cnt (s_late X') n) + nI (s_cnt (fun l => !s_done X' l) n))), (6, .int (s_sum (s_waited X') n))] [] (sput I 1 X' (s_cur X')) := fun v1 v2 v3 hkp => by
        refine bX10_bestPolicy_70 hK hwo hx ?_
        rw [nI_1]
        have ekp : s_kp L W p = p := by
          cases p with
          | zero => rfl
          | succ j => exact hkp j rfl
        refine ih (p + 1) X' (s_cur X') _ _ _ (by omega) hnm' (fun z => by omega) (fun j ej => ?_)
        obtain rfl : j = p := by omega
        rw [ekp]
        exact ⟨rfl, eL, eW⟩
      have h9 : (∀ j, p = j + 1 → s_kp L W p = s_kp L W j) → (∃ j, p = j + 1) → ZZ K (0, 0) 9 [(0, .ref 0), (1, .int b), (2, .int l), (3, .int v), (4, .int (nI p + 1))] [] (sput I 1 X' (s_cur X')) := fun hkp hex => by
        rw [nI_1]
        obtain ⟨j, ej⟩ := hex
        refine ih (p + 1) X' (s_cur X') _ _ _ (by omega) hnm' (fun z => by omega) (fun j' ej' => ?_)
        obtain rfl : j' = p := by omega
        rw [hkp j ej]
        exact hj j ej
      have hpos : ¬ b = -1 → ∃ j, p = j + 1 := fun hb => by
        cases p with
        | zero => exact absurd (h0 rfl) hb
        | succ j => exact ⟨j, rfl⟩
      refine bX10_bestPolicy_9 hK hwo hx (fun z => absurd z nle) (fun _ => ks) (fun _ => k_countLate (hx.spa hwo) hfw.1 hfw.2.1) (fun _ => k_countOpen (hx.spa hwo) hfw.1 hfw.2.1 (fun l hl => (wf_rem hfw l hl).1)) (fun _ => k_totalWaiting (hx.spa hwo) hfw.1 hfw.2.1) (fun _ hb => h70 _ _ _ (fun j ej => ?_)) (fun _ hb d => h70 _ _ _ (fun j ej => ?_)) (fun _ hb d e => h9 (fun j ej => ?_) (hpos hb)) (fun _ hb d e g => h9 (fun j ej => ?_) (hpos hb)) (fun _ hb d e g => h70 _ _ _ (fun j ej => ?_))
      · rw [(hj j ej).1] at hb
        have := s_kp_le (L := L) (W := W) j
        exact absurd hb (nI_ne_m1 (by omega))
      all_goals
        subst ej
        obtain ⟨e1, e2, e3⟩ := hj j rfl
        rw [show nI (s_cnt (s_late X') n) + nI (s_cnt (fun l => !s_done X' l) n) = L (j + 1) from eL, e2] at d
        try rw [show nI (s_cnt (s_late X') n) + nI (s_cnt (fun l => !s_done X' l) n) = L (j + 1) from eL, e2] at e
        try rw [show s_sum (s_waited X') n = W (j + 1) from eW, e3] at g
        conv => lhs; unfold s_kp
      · rw [if_pos (Or.inl d)]
      · rw [if_neg (fun z => z.elim d (fun z => e z.1))]
      · rw [if_neg (fun z => z.elim d (fun z => absurd z.2 (Int32.not_lt.mpr g)))]
      · rw [if_pos (Or.inr ⟨e, Int32.not_le.mp g⟩)]
  have h0 := key 5 0 (vB I 1) (I 1 7) (-1) 0 0 (by omega) (nmK_B.mp h1) (fun _ => rfl) (fun j ej => by omega)
  rw [sput_self] at h0
  exact h0
end CFP
