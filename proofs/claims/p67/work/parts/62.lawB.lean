/-! THE LAW'S OFFICE: which letter goes ahead, and the selection -/
/-- the settings of the law are those of the block -/
def setL (G : zG) (L : zBk) : Prop := ∀ i, 1 ≤ i → i < 7 → L i = nI (stg G i)
/-- far from the least number -/
def urgOK (L : zBk) (n : Nat) : Prop := ∀ l, l < n → -2147483648 < (s_urg L l).toInt
theorem i_negT {x : Int32} (h : -2147483648 < x.toInt) : (-x).toInt = -x.toInt := by
  rw [Int32.toInt_neg]
  have h1 := Int32.toInt_lt x
  exact Int.bmod_eq_of_le (by omega) (by omega)
theorem i_neg_lt {x y : Int32} (hx : -2147483648 < x.toInt) (hy : -2147483648 < y.toInt) : -x < -y ↔ y < x := by
  rw [Int32.lt_iff_toInt_lt, Int32.lt_iff_toInt_lt, i_negT hx, i_negT hy]
  omega
theorem b2_d1 {p : Prop} [Decidable p] (h : p) : (1 : Int32) = b2 (decide p) := by rw [decide_eq_true h]; rfl
theorem b2_d0 {p : Prop} [Decidable p] (h : ¬ p) : (0 : Int32) = b2 (decide p) := by rw [decide_eq_false h]; rfl
section LAWB
variable {G : zG} {w : Nat × Nat} {gl : Launch} {I : zM} {L : zBk} {n c t k o p : Nat}
theorem e_isAhead (hx : isT w 10 0) (hs : isT w 9 288) (ho : isT w 11 312) (hL : (gs G).1 ≤ 260) (hf : s_wf L n c t) (hm : sim I L n) (hS : setL G L) (hu : urgOK L n) (hp : p < 4) (hk : k < n) (hq : o < n) : CT G w gl (yX11_isAhead, cX11_isAhead, 4, some .boolean) 9 (0, 0) [.ref 312, .int (nI p), .int (nI k), .int (nI o)] (oput I L) (qE (b2 (decide (s_bad L k p < s_bad L o p))) (oput I L)) nX := by
  refine ct_of (by decide) [(0, .ref 312), (1, .int (nI p)), (2, .int (nI k)), (3, .int (nI o))] rfl rfl (fun K hG hw hgl hwo hK => ?_)
  subst hG; subst hw; subst hgl
  have hn := hf.2.1
  have h8 := hm.h8 hf.1
  have e4 : ∀ q, q < 5 → (nI p = nI q ↔ p = q) := fun q hq => nI_eq (by omega) (by omega)
  have n0 : ¬ nI p = 0 ↔ p ≠ 0 := not_congr (e4 0 (by omega))
  have n1 : ¬ nI p = 1 ↔ p ≠ 1 := not_congr (e4 1 (by omega))
  have n2 : ¬ nI p = 2 ↔ p ≠ 2 := not_congr (e4 2 (by omega))
  have arr : ∀ l, l < n → CT (kG K) (kw K) (kl K) (yX10_arrival, cX10_arrival, 2, some .int) 7 (0, 0) [.ref 0, .int (nI l)] (oput I L) (qE (s_of L l 2) (oput I L)) nX := fun l hl => by
    rw [← hm.2 l hl 2 (by omega)]; exact u_arrival hx hs h8 hn hl
  have dea : ∀ l, l < n → CT (kG K) (kw K) (kl K) (yX10_deadline, cX10_deadline, 2, some .int) 7 (0, 0) [.ref 0, .int (nI l)] (oput I L) (qE (s_of L l 3) (oput I L)) nX := fun l hl => by
    rw [← hm.2 l hl 3 (by omega)]; exact u_deadline hx hs h8 hn hl
  have pri : ∀ l, l < n → CT (kG K) (kw K) (kl K) (yX10_priority, cX10_priority, 2, some .int) 7 (0, 0) [.ref 0, .int (nI l)] (oput I L) (qE (s_of L l 4) (oput I L)) nX := fun l hl => by
    rw [← hm.2 l hl 4 (by omega)]; exact u_priority hx hs h8 hn hl
  have wai : ∀ l, l < n → CT (kG K) (kw K) (kl K) (yX11_waited, cX11_waited, 2, some .int) 8 (0, 0) [.ref 312, .int (nI l)] (oput I L) (qE (s_waited L l) (oput I L)) nX := fun l hl => e_waited hx hs ho hf hm hl
  have agi : CT (kG K) (kw K) (kl K) (yL_aging, cL_aging, 1, some .int) 1 (0, 0) [.ref 1400] (oput I L) (qE (L 5) (oput I L)) nX := by
    rw [hS 5 (by omega) (by omega)]; exact e_aging hL
  have a0 : ¬ L 5 = 0 := fun e => by
    have h1 := wf_51 hf
    rw [e] at h1
    exact absurd h1 (by decide)
  have i12 : ∀ l, l < n → vp_in (nI l) 12 := fun l hl => vp_in_nI (by omega) (by omega)
  have c12 : ∀ l, l < n → (nI l).toNatClampNeg = l := fun l hl => nI_clamp (by omega)
  refine bX11_isAhead_0 hK hwo ho (fun _ _ _ => pri k hk) (fun _ _ _ => wai k hk) (fun _ _ _ => agi) (fun _ _ _ => a0) (fun _ _ _ => pri o hq) (fun _ _ _ => wai o hq) (fun _ _ _ => agi) (fun _ _ _ => a0) (fun c1 c2 c3 d => ?_) (fun c1 c2 c3 d => ?_) (fun _ _ _ => dea k hk) (fun _ _ _ => dea o hq) (fun c1 c2 c3 d => ?_) (fun c1 c2 c3 d => ?_) (fun _ _ => i12 k hk) (fun _ _ => i12 o hq) (fun c1 c2 d => ?_) (fun c1 c2 d => ?_) (fun _ => arr k hk) (fun _ => arr o hq) (fun c1 d => ?_) (fun c1 d => ?_)
  · have e : p = 3 := by have := n0.mp c1; have := n1.mp c2; have := n2.mp c3; omega
    subst e
    refine qE_i (b2_d0 (fun z => ?_)) rfl
    exact Int32.not_lt.mpr d ((i_neg_lt (hu k hk) (hu o hq)).mp z)
  · have e : p = 3 := by have := n0.mp c1; have := n1.mp c2; have := n2.mp c3; omega
    subst e
    refine qE_i (b2_d1 ?_) rfl
    exact (i_neg_lt (hu k hk) (hu o hq)).mpr (Int32.not_le.mp d)
  · have e : p = 2 := (e4 2 (by omega)).mp c3
    subst e
    exact qE_i (b2_d0 (fun z => Int32.not_lt.mpr d z)) rfl
  · have e : p = 2 := (e4 2 (by omega)).mp c3
    subst e
    exact qE_i (b2_d1 (Int32.not_le.mp d)) rfl
  · have e : p = 1 := (e4 1 (by omega)).mp c2
    subst e
    rw [c12 k hk, c12 o hq, opR (by omega), opR (by omega)] at d
    exact qE_i (b2_d0 (fun z => Int32.not_lt.mpr d z)) rfl
  · have e : p = 1 := (e4 1 (by omega)).mp c2
    subst e
    rw [c12 k hk, c12 o hq, opR (by omega), opR (by omega)] at d
    exact qE_i (b2_d1 (Int32.not_le.mp d)) rfl
  · have e : p = 0 := (e4 0 (by omega)).mp c1
    subst e
    exact qE_i (b2_d0 (fun z => Int32.not_lt.mpr d z)) rfl
  · have e : p = 0 := (e4 0 (by omega)).mp c1
    subst e
    exact qE_i (b2_d1 (Int32.not_le.mp d)) rfl
theorem cur_m1 (hf : s_wf L n c t) : s_cur L < 0 ↔ s_cur L = -1 := by
  by_cases h : s_cur L = -1
  · rw [h]; exact ⟨fun _ => rfl, fun _ => m1_lt⟩
  · obtain ⟨l, hl, e, -⟩ := s_cur_open hf h
    have hn := hf.2.1
    rw [e]
    exact ⟨fun z => absurd z (nI_pos (by omega)), fun z => absurd z (nI_ne_m1 (by omega))⟩
theorem kb_in (hf : s_wf L n c t) {i : Nat} (hi : i ≤ n) : s_kb L p (s_cur L) i = -1 ∨ ∃ l, l < n ∧ s_kb L p (s_cur L) i = nI l := by
  have hb : s_best L p i = -1 ∨ ∃ l, l < n ∧ s_best L p i = nI l := by
    rcases s_best_in L p i with h | ⟨l, h, h1, -⟩
    · exact Or.inl h
    · exact Or.inr ⟨l, by omega, h1⟩
  unfold s_kb
  split
  · exact hb
  · next h =>
    split
    · exact hb
    · obtain ⟨l, hl, e, -⟩ := s_cur_open hf h
      exact Or.inr ⟨l, hl, e⟩
theorem kb_fin (hf : s_wf L n c t) (h4 : p < 4) (hc : s_cur L = -1 ∨ p = 1 ∨ p = 2) : s_kb L p (s_cur L) n = s_select L n p := by
  have hn := hf.2.1
  unfold s_kb s_select
  by_cases h1 : s_cur L = -1
  · rw [if_pos h1]
    by_cases h7 : p = 0 ∨ p = 3
    · rw [if_pos h7, if_pos h1]
    · rw [if_neg h7, if_neg (show ¬ p = 4 by omega), if_pos (Or.inl h1)]
  · have h2 := hc.resolve_left h1
    obtain ⟨l, hl, -, ho⟩ := s_cur_open hf h1
    have h3 := s_best_ne L p n hn hl ho
    rw [if_neg h1, if_neg (show ¬ (p = 0 ∨ p = 3) by omega), if_neg (show ¬ p = 4 by omega)]
    by_cases h6 : s_bad L (s_best L p n).toNatClampNeg p < s_bad L (s_cur L).toNatClampNeg p
    · rw [if_pos ⟨h3, h6⟩, if_pos (Or.inr h6)]
    · rw [if_neg (fun q => h6 q.2), if_neg (by rintro (q | q); exact h1 q; exact h6 q)]
theorem kb_0 : s_kb L p (s_cur L) 0 = s_cur L := by
  unfold s_kb
  by_cases h1 : s_cur L = -1
  · rw [if_pos h1, h1]; rfl
  · rw [if_neg h1, if_neg (fun q => q.1 rfl)]
theorem e_select (hx : isT w 10 0) (hs : isT w 9 288) (ho : isT w 11 312) (hL : (gs G).1 ≤ 260) (hf : s_wf L n c t) (hm : sim I L n) (hS : setL G L) (hu : urgOK L n) (hp : p < 5) : CT G w gl (yX11_select, cX11_select, 6, some .int) 10 (0, 0) [.ref 312, .int (nI p)] (oput I L) (qE (s_select L n p) (oput I L)) nX := by
  refine ct_of (by decide) [(0, .ref 312), (1, .int (nI p))] rfl rfl (fun K hG hw hgl hwo hK => ?_)
  subst hG; subst hw; subst hgl
  have hn := hf.2.1
  have h8 : (oput I L) 312 5 = nI n := op5.trans hf.1
  have e4 : ∀ q, q < 5 → (nI p = nI q ↔ p = q) := fun q hq => nI_eq (by omega) (by omega)
  have rea : ∀ l, l < n → CT (kG K) (kw K) (kl K) (yX11_isReady, cX11_isReady, 2, some .boolean) 8 (0, 0) [.ref 312, .int (nI l)] (oput I L) (qE (b2 (s_open L l)) (oput I L)) nX := fun l hl => e_isReady hx hs ho hf hm hl
  -- the four policies that look for the best
  have loop : p < 4 → (s_cur L = -1 ∨ p = 1 ∨ p = 2) → ∀ (v2 : Int32) (d i : Nat), i + d = n → ZZ K (0, 0) 58 [(0, .ref 312), (1, .int (nI p)), (2, .int v2), (3, .int (s_kb L p (s_cur L) i)), (4, .int (nI (i + 1)))] [] (oput I L) := fun h4 hc v2 d => by
    have n4 : ¬ nI p = 4 := fun q => absurd ((e4 4 (by omega)).mp q) (by omega)
    induction d with
    | zero =>
      intro i hi
      have hlt : (oput I L) 312 5 < nI (i + 1) := by rw [h8]; exact nI_lt (by omega) (by omega)
      refine bX11_select_58 hK hwo ho (fun _ => ?_) (fun z => absurd hlt z) (fun z => absurd hlt z) (fun z => absurd hlt z)
      rw [show i = n by omega]
      exact qE_i (kb_fin hf h4 hc) rfl
    | succ d ih =>
      intro i hi
      have hge : ¬ (oput I L) 312 5 < nI (i + 1) := by rw [h8]; exact nI_nlt (by omega) (by omega)
      have es : nI (i + 1) - 1 = nI i := pk_sub (a := i + 1) (b := 1) (by omega)
      have e2 : nI (i + 1) + 1 = nI (i + 1 + 1) := nI_1 (i + 1)
      refine bX11_select_58 hK hwo ho (fun z => absurd z hge) (fun _ _ => ?_) (fun _ z => absurd z n4) (fun _ z => absurd z n4)
      rw [es]
      have ec : (nI i).toNatClampNeg = i := nI_clamp (by omega)
      have nxt := ih (i + 1) (by omega)
      rcases kb_in (p := p) hf (i := i) (by omega) with hb | ⟨l, hl, hb⟩
      · have hlt : s_kb L p (s_cur L) i < 0 := by rw [hb]; exact m1_lt
        refine bX11_select_91 (f6 := 0) (g6 := I) hK hwo ho (rea i (by omega)) (fun z _ _ => ?_) (fun _ _ z => absurd hlt z) (fun _ _ z => absurd hlt z) (fun _ _ z => absurd hlt z) (fun _ z => absurd z n4) (fun z => ?_)
        · rw [kb_yes (by omega) (b2_n0.mp z) (Or.inl hb)] at nxt
          rw [e2]; exact nxt
        · rw [kb_no (b2_0.mp z)] at nxt
          rw [e2]; exact nxt
      · have hge2 : ¬ s_kb L p (s_cur L) i < 0 := by rw [hb]; exact nI_pos (by omega)
        have hne : s_kb L p (s_cur L) i ≠ -1 := by rw [hb]; exact nI_ne_m1 (by omega)
        have ecl : (s_kb L p (s_cur L) i).toNatClampNeg = l := by rw [hb]; exact nI_clamp (by omega)
        refine bX11_select_91 (f6 := b2 (decide (s_bad L i p < s_bad L l p))) (g6 := oput I L) hK hwo ho (rea i (by omega)) (fun _ _ z => absurd z hge2) (fun _ _ _ => ?_) (fun z _ _ z2 => ?_) (fun z _ _ z2 => ?_) (fun _ z => absurd z n4) (fun z => ?_)
        · rw [hb]; exact e_isAhead hx hs ho hL hf hm hS hu h4 (by omega) hl
        · have h7 : ¬ s_bad L i p < s_bad L (s_kb L p (s_cur L) i).toNatClampNeg p := by rw [ecl]; exact of_decide_eq_false (b2_0.mp z2)
          rw [kb_keep (by omega) (b2_n0.mp z) hne h7] at nxt
          rw [e2]; exact nxt
        · have h7 : s_bad L i p < s_bad L (s_kb L p (s_cur L) i).toNatClampNeg p := by rw [ecl]; exact of_decide_eq_true (b2_n0.mp z2)
          rw [kb_yes (by omega) (b2_n0.mp z) (Or.inr h7)] at nxt
          rw [e2]; exact nxt
        · rw [kb_no (b2_0.mp z)] at nxt
          rw [e2]; exact nxt
  -- in turn
  have ea : ∀ s : Nat, s < 100 → L 11 + nI (s + 1) = nI (s_last1 L + s) := fun s hs => by
    unfold s_last1
    rcases hf.2.2.2.2.2.1 with h | ⟨l, hl, h, -⟩
    · rw [h]
      show -1 + nI (s + 1) = nI (((-1 : Int32) + 1).toNatClampNeg + s)
      rw [Int32.add_comm, pk_m1, show ((-1 : Int32) + 1).toNatClampNeg = 0 by decide, Nat.zero_add]
    · rw [h, nI_1, nI_clamp (by omega), nI_add]
      congr 1; omega
  have l1 : s_last1 L ≤ 12 := by
    unfold s_last1
    rcases hf.2.2.2.2.2.1 with h | ⟨l, hl, h, -⟩
    · rw [h]; decide
    · rw [h, nI_1, nI_clamp (by omega)]; omega
  have turn : p = 4 → ∀ (v2 : Int32) (d s : Nat), s + d = n → ZZ K (0, 0) 58 [(0, .ref 312), (1, .int (nI p)), (2, .int v2), (3, .int (-1)), (4, .int (nI (s + 1)))] [] (oput I L) → True := fun _ _ _ _ _ _ => trivial
  have turn2 : p = 4 → ∀ (v2 r : Int32), (∀ d s : Nat, s + d = n → s_turn L (s_last1 L) n s d = r → ZZ K (0, 0) 58 [(0, .ref 312), (1, .int (nI p)), (2, .int v2), (3, .int (-1)), (4, .int (nI (s + 1)))] [] (oput I L)) ∨ r ≠ s_select L n p := fun h4 v2 r => by
    by_cases hr : r = s_select L n p
    · refine Or.inl (fun d => ?_)
      have p4 : nI p = 4 := (e4 4 (by omega)).mpr h4
      induction d with
      | zero =>
        intro s hs ht
        have hlt : (oput I L) 312 5 < nI (s + 1) := by rw [h8]; exact nI_lt (by omega) (by omega)
        exact bX11_select_58 hK hwo ho (fun _ => qE_i (by rw [← hr, ← ht]; rfl) rfl) (fun z => absurd hlt z) (fun z => absurd hlt z) (fun z => absurd hlt z)
      | succ d ih =>
        intro s hs ht
        have hge : ¬ (oput I L) 312 5 < nI (s + 1) := by rw [h8]; exact nI_nlt (by omega) (by omega)
        have e2 : nI (s + 1) + 1 = nI (s + 1 + 1) := nI_1 (s + 1)
        have hm0 : (s_last1 L + s) % n < n := Nat.mod_lt _ (by omega)
        refine bX11_select_58 hK hwo ho (fun z => absurd z hge) (fun _ z => absurd p4 z) (fun _ _ => by rw [h8]; exact nI_ne0 (by omega) (by omega)) (fun _ _ => ?_)
        rw [h8, op8, ea s (by omega), pk_rem (by omega) (by omega) (by omega)]
        have hlt : (-1 : Int32) < 0 := m1_lt
        unfold s_turn at ht
        refine bX11_select_91 (f6 := 0) (g6 := I) hK hwo ho (rea _ hm0) (fun _ z _ => absurd p4 z) (fun _ z _ => absurd p4 z) (fun _ z _ => absurd p4 z) (fun _ z _ => absurd p4 z) (fun z _ => ?_) (fun z => ?_)
        · rw [if_pos (b2_n0.mp z)] at ht
          exact qE_i (by rw [← hr, ← ht]) rfl
        · rw [if_neg (by rw [b2_0.mp z]; exact Bool.false_ne_true)] at ht
          rw [e2]
          exact ih (s + 1) (by omega) ht
    · exact Or.inr hr
  have go39 : (p < 4 → s_cur L = -1 ∨ p = 1 ∨ p = 2) → (p = 4 → s_cur L = -1 ∨ L 4 ≤ L 12) → ZZ K (0, 0) 39 [(0, .ref 312), (1, .int (nI p)), (2, .int (s_cur L))] [] (oput I L) := fun h4 h5 => by
    have k0 : p < 4 → ZZ K (0, 0) 58 [(0, .ref 312), (1, .int (nI p)), (2, .int (s_cur L)), (3, .int (s_cur L)), (4, .int (1 : Int32))] [] (oput I L) := fun h => by
      have z := loop h (h4 h) (s_cur L) n 0 (by omega)
      rw [kb_0] at z
      exact z
    refine bX11_select_39 hK hwo ho (fun z => k0 (by have := (e4 1 (by omega)).mp z; omega)) (fun z z2 => ?_) (fun _ z => k0 (by have := (e4 2 (by omega)).mp z; omega))
    have q1 : p ≠ 1 := fun q => z ((e4 1 (by omega)).mpr q)
    have q2 : p ≠ 2 := fun q => z2 ((e4 2 (by omega)).mpr q)
    by_cases q4 : p = 4
    · have h9 : s_turn L (s_last1 L) n 0 n = s_select L n p := by
        unfold s_select
        rw [if_neg (by omega), if_pos q4, if_pos (h5 q4)]
      exact ((turn2 q4 (s_cur L) (s_select L n p)).resolve_right (fun q => q rfl)) n 0 (by omega) h9
    · have hc : s_cur L = -1 := (h4 (by omega)).resolve_right (by omega)
      have z := k0 (by omega)
      rw [hc] at z ⊢
      exact z
  refine bX11_select_0 hK hwo ho (e_current ho hf) (fun z => ?_) (fun z z2 => ?_) (fun z _ z2 => ?_) (fun z a b d => ?_) (fun _ _ _ _ => by rw [show CT (kG K) (kw K) (kl K) (yL_quantum, cL_quantum, 1, some .int) 1 (0, 0) [.ref 1400] (oput I L) (qE (L 4) (oput I L)) nX ↔ CT (kG K) (kw K) (kl K) (yL_quantum, cL_quantum, 1, some .int) 1 (0, 0) [.ref 1400] (oput I L) (qE (nI (stg (kG K) 4)) (oput I L)) nX by rw [hS 4 (by omega) (by omega)]]; exact e_quantum hL) (fun z a b d f => ?_) (fun z a b d f => ?_)
  · have h1 := (cur_m1 hf).mp z
    exact go39 (fun _ => Or.inl h1) (fun _ => Or.inl h1)
  · have h1 : ¬ s_cur L = -1 := fun q => z ((cur_m1 hf).mpr q)
    have e : p = 0 := (e4 0 (by omega)).mp z2
    refine qE_i ?_ rfl
    unfold s_select
    rw [if_pos (Or.inl e), if_neg h1]
  · have h1 : ¬ s_cur L = -1 := fun q => z ((cur_m1 hf).mpr q)
    have e : p = 3 := (e4 3 (by omega)).mp z2
    refine qE_i ?_ rfl
    unfold s_select
    rw [if_pos (Or.inr e), if_neg h1]
  · have q0 : p ≠ 0 := fun q => a ((e4 0 (by omega)).mpr q)
    have q3 : p ≠ 3 := fun q => b ((e4 3 (by omega)).mpr q)
    have q4 : p ≠ 4 := fun q => d ((e4 4 (by omega)).mpr q)
    exact go39 (fun _ => Or.inr (by omega)) (fun q => absurd q q4)
  · rw [op9] at f
    have q4 : p = 4 := (e4 4 (by omega)).mp d
    exact go39 (fun _ => by omega) (fun _ => Or.inr f)
  · rw [op9] at f
    have q4 : p = 4 := (e4 4 (by omega)).mp d
    have h1 : ¬ s_cur L = -1 := fun q => z ((cur_m1 hf).mpr q)
    refine qE_i ?_ rfl
    unfold s_select
    rw [if_neg (by omega), if_pos q4, if_neg (by rintro (q | q); exact h1 q; exact f q)]
end LAWB
