/-! fewestLate: the best of all choices is what giving up the longest keeps -/
def o_O (B : zBk) (o : Nat → Int32) (k : Nat) : Int × Int := ((s_of B (o_L o k) 5).toInt, (s_of B (o_L o k) 3).toInt)
section FWO
variable {B : zBk} {n c t m : Nat} {o : Nat → Int32}
theorem rem_30 (hf : s_wf B n c t) {l : Nat} (hl : l < n) : ∃ x, x ≤ 30 ∧ s_of B l 5 = nI x := by
  obtain ⟨-, h1, h2⟩ := hf.2.2.2.2.2.2.2.2.2.1 l hl
  exact i_of (M := 30) (n := 30) (by decide) h2.1 (Int32.le_trans h2.2 h1.2)
theorem tm_o (hf : s_wf B n c t) (ho : o_ok B n m o) (s : Nat) : ∀ k, k ≤ m → ∃ E : Nat, E ≤ t + 30 * k ∧ m_tm B (o_L o) s k = nI E ∧ (E : Int) = (t : Int) + mSum ((mSel (o_O B o) s k).map Prod.fst)
  | 0, _ => ⟨t, Nat.le_add_right _ _, hf.2.2.2.2.2.2.2.2.2.2.1, by simp [mSel, mSum]⟩
  | k + 1, hk => by
    obtain ⟨E, h1, h2, h3⟩ := tm_o hf ho s k (by omega)
    rw [m_tm, mSel_succ, h2]
    by_cases hb : s.testBit k = true
    · rw [if_pos hb, if_pos hb]
      obtain ⟨x, hx, ex⟩ := rem_30 hf (ho.1 k (by omega)).2.1
      refine ⟨E + x, by omega, by rw [ex, nI_add], ?_⟩
      have e0 : (o_O B o k).1 = x := by unfold o_O; rw [ex]; exact nI_toInt (by omega)
      rw [List.map_append, mSum_app]
      simp only [List.map_cons, List.map_nil, mSum, e0]
      omega
    · rw [if_neg hb, if_neg hb, List.append_nil]
      exact ⟨E, by omega, rfl, h3⟩
theorem it_o (hf : s_wf B n c t) (ho : o_ok B n m o) (hm : m ≤ 12) (s : Nat) : ∀ k, k ≤ m → (m_it B (o_L o) s k = true ↔ mFe t (mSel (o_O B o) s k))
  | 0, _ => by simp [m_it, mSel, mFe]
  | k + 1, hk => by
    have ih := it_o hf ho hm s k (by omega)
    obtain ⟨E, h1, h2, h3⟩ := tm_o hf ho s (k + 1) hk
    have ht := hf.2.2.2.2.2.2.2.2.2.2.2
    rw [m_it, h2, mSel_succ]
    rw [mSel_succ] at h3
    by_cases hb : s.testBit k = true
    · rw [if_pos hb] at h3 ⊢
      rw [List.map_append, mSum_app] at h3
      simp only [List.map_cons, List.map_nil, mSum] at h3
      rw [mFe_snoc, ← ih, hb]
      have e2 : nI E ≤ s_of B (o_L o k) 3 ↔ (t : Int) + mSum ((mSel (o_O B o) s k).map Prod.fst) + (o_O B o k).1 ≤ (o_O B o k).2 := by
        rw [Int32.le_iff_toInt_le, nI_toInt (by omega), h3]
        show _ ≤ (o_O B o k).2 ↔ _
        omega
      rw [← e2]
      simp
    · have hb' : s.testBit k = false := by simpa using hb
      rw [if_neg hb, List.append_nil, ← ih, hb']
      simp
theorem most_o (S : Nat) (it : Nat → Bool) {o' : Nat → Nat} (hit : ∀ s, it s = m_it B o' s m) : (∀ s, 1 ≤ s → s ≤ S → it s = true → mPop 12 s ≤ m_most B o' m S) ∧ (m_most B o' m S = 0 ∨ ∃ s, s ≤ S ∧ it s = true ∧ mPop 12 s = m_most B o' m S) := by
  induction S with
  | zero => exact ⟨fun s h1 h2 => by omega, Or.inl rfl⟩
  | succ S ih =>
    obtain ⟨i1, i2⟩ := ih
    unfold m_most
    by_cases h : m_most B o' m S < mPop 12 (S + 1) ∧ m_it B o' (S + 1) m = true
    · rw [if_pos h]
      refine ⟨fun s h1 h2 h3 => ?_, Or.inr ⟨S + 1, Nat.le_refl _, by rw [hit]; exact h.2, rfl⟩⟩
      by_cases e : s = S + 1
      · rw [e]; exact Nat.le_refl _
      · have := i1 s h1 (by omega) h3; omega
    · rw [if_neg h]
      refine ⟨fun s h1 h2 h3 => ?_, ?_⟩
      · by_cases e : s = S + 1
        · subst e
          rw [hit] at h3
          exact Nat.not_lt.mp (fun z => h ⟨z, h3⟩)
        · exact i1 s h1 (by omega) h3
      · rcases i2 with i2 | ⟨s, h1, h2⟩
        · exact Or.inl i2
        · exact Or.inr ⟨s, by omega, h2⟩
theorem few_o (hf : s_wf B n c t) (ho : o_ok B n m o) (hm : m ≤ 12) {A : List Int} (h : mInv t ((List.range m).map (o_O B o)) A) : m_most B (o_L o) m (2 ^ m - 1) = A.length := by
  obtain ⟨⟨S, s1, s2, s3⟩, hb⟩ := mInv_best h
  obtain ⟨i1, i2⟩ := most_o (B := B) (m := m) (2 ^ m - 1) (fun s => m_it B (o_L o) s m) (o' := o_L o) (fun _ => rfl)
  have h2p : 0 < 2 ^ m := Nat.pow_pos (by omega)
  have pop : ∀ s, s < 2 ^ m → mPop 12 s = (mSel (o_O B o) s m).length := fun s hs => by
    rw [mPop_sel, ← mPop_le (12 - m) hs, show m + (12 - m) = 12 by omega]
  apply Nat.le_antisymm
  · rcases i2 with i2 | ⟨s, h1, h2, h3⟩
    · omega
    · rw [← h3, pop s (by omega)]
      exact hb _ (mSel_sub _ _ _) ((it_o hf ho hm s m (Nat.le_refl _)).mp h2)
  · obtain ⟨s, hs, rfl⟩ := mSel_all s1
    rw [← s3]
    by_cases e : s = 0
    · subst e
      rw [← pop 0 hs, mPop_0]
      exact Nat.zero_le _
    · rw [← pop s hs]
      exact i1 s (by omega) (by omega) ((it_o hf ho hm s m (Nat.le_refl _)).mpr s2)
theorem mAl_30 {f : Nat → Int32} : ∀ {k : Nat}, (∀ i, i < k → ∃ x, x ≤ 30 ∧ f i = nI x) → 0 ≤ mSum (mAl k (fun i => (f i).toInt)) ∧ mSum (mAl k (fun i => (f i).toInt)) ≤ 30 * k := by
  intro k
  induction k with
  | zero => intro _; simp [mAl, mSum]
  | succ k ih =>
    intro h
    have i1 := ih (fun i hi => h i (by omega))
    obtain ⟨x, hx, ex⟩ := h k (by omega)
    rw [mAl_succ, mSum_app]
    simp only [mSum]
    rw [ex, nI_toInt (by omega)]
    omega
end FWO
theorem mAl_one {f : Nat → Int} {j : Nat} : ∀ {k : Nat}, (∀ i, i < k → 0 ≤ f i) → j < k → f j ≤ mSum (mAl k f) := by
  intro k
  induction k with
  | zero => intro _ h; omega
  | succ k ih =>
    intro h hj
    rw [mAl_succ, mSum_app]
    simp only [mSum]
    have hk := h k (by omega)
    by_cases e : j = k
    · subst e
      have : 0 ≤ mSum (mAl j f) := by
        clear ih hj
        have : ∀ k, k ≤ j → 0 ≤ mSum (mAl k f) := by
          intro k
          induction k with
          | zero => intro _; simp [mAl, mSum]
          | succ k ih =>
            intro hk
            rw [mAl_succ, mSum_app]
            simp only [mSum]
            have := ih (by omega)
            have := h k (by omega)
            omega
        exact this j (Nat.le_refl _)
      omega
    · have := ih (fun i hi => h i (by omega)) (by omega)
      omega
section CFY
variable {G : zG} {gl : Launch} {I : zM} {n c t : Nat} {B : zBk}
theorem few_le {B : zBk} {q : Nat → Int32} {n : Nat} (hn : n ≤ 12) : (m_or B q n).1 ≤ 12 := Nat.le_trans (or_le n) hn
theorem c_fewestLate (hB : lB I 288 B) (hf : s_wf B n c t) (h3 : I 288 3 = nI n) (h4 : I 288 4 = nI t) (q : Nat → Int32) : CT G (0, 320) gl (yX10_fewestLate, cX10_fewestLate, 8, some .int) 2 (1, 12) [.ref 0] I (qE (m_few B q n) I) nX := by
  refine ct_of (by decide) [(0, .ref 0)] rfl rfl (fun K hG hw hgl hwo hK => ?_)
  subst hG; subst hgl
  have hn := hf.2.1
  have ht := hf.2.2.2.2.2.2.2.2.2.2.2
  rw [← hw] at hwo
  have hx : isT (kw K) 10 0 := by rw [hw]; exact ⟨by decide, by decide⟩
  have hK0 := hK
  obtain ⟨hb, ho9, hnl, hR, hE⟩ := hK
  refine bX10_fewestLate_0 hK0 hwo hx ?_
  refine zz_newI (f0 := I 320) hb hw hR hE (z_dec dX10_fewestLate 1 rfl) ⟨Nat.le_refl _, Nat.le_refl _⟩ (fun h => ?_)
  unfold m_few
  have ho := or_ok (B := B) (q := q) n hn
  have hm := few_le (B := B) (q := q) hn
  generalize hr : m_or B q n = r at ho hm ⊢
  generalize hK1 : ((gN (kG K) h, (0, 321), kown K, kcc K, knL K, kl K, kR K, phS (gN (kG K) h) (0, 321) (some .int) (1, 12) (fun v J => (∃ x, v = some (.int x)) ∧ qE (nI r.1 - nI (m_most B (fun k => (r.2 k).toNatClampNeg) r.1 (2 ^ r.1 - 1))) I v (ups J 320 (I 320))) nX) : zK) = K1
  have hIs : zIs K1 RX10 cX10_fewestLate 8 (some .int) 2 (1, 12) (fun v J => (∃ x, v = some (.int x)) ∧ qE (nI r.1 - nI (m_most B (fun k => (r.2 k).toNatClampNeg) r.1 (2 ^ r.1 - 1))) I v (ups J 320 (I 320))) nX := by
    rw [← hK1]; exact ⟨hb, ho9, hnl, hR, rfl⟩
  have hw1 : kw K1 = (0, 321) := by rw [← hK1]
  have hwo1 : wOK (kw K1) := by
    rw [hw1]
    exact ⟨Nat.le_refl _, fun r _ hr k hk h0 => ⟨Nat.zero_le _, Nat.lt_succ_of_lt (zLR_lt r k)⟩⟩
  have hx1 : isT (kw K1) 10 0 := by rw [hw1]; exact ⟨by decide, by decide⟩
  have hs1 : isT (kw K1) 9 288 := by rw [hw1]; exact ⟨by decide, by decide⟩
  have ha1 : isT (kw K1) 20 320 := by rw [hw1]; exact ⟨by decide, by decide⟩
  have hBM : ∀ f, lB (ups I 320 f) 288 B := fun f l hl x hx => by rw [ups_ne _ _ (by omega)]; exact hB l hl x hx
  have h3M : ∀ f, ups I 320 f 288 3 = nI n := fun f => by rw [ups_ne _ _ (by decide)]; exact h3
  have h5 : ∀ l, l < n → 0 ≤ s_of B l 5 := fun l hl => (wf_rem hf l hl).1
  have hlr : ∀ a, a < 12 → LR 299 (nI a).toNatClampNeg = 300 + a := fun a ha => by
    have := k_lr (s := 288) hwo1 hs1 ha
    exact this
  have eup : ∀ (f : Nat → Int32) (k : Nat) (x : Int32), up (ups I 320 f) 320 k x = ups I 320 (upd f k x) := fun f k x => by rw [up_def, ups_same, ups_ups]
  have key : ∀ d k, k + d = r.1 → ∀ (cc E : Nat) (f : Nat → Int32), cc ≤ k → (∀ i, i < cc → ∃ x, x ≤ 30 ∧ f i = nI x) → (E : Int) = (t : Int) + mSum (mAl cc (fun i => (f i).toInt)) → mInv t ((List.range k).map (o_O B r.2)) (mAl cc (fun i => (f i).toInt)) → ZZ K1 (1, 12) 31 [(0, .ref 0), (1, .ref 320), (2, .int (nI cc)), (3, .int (nI (k - cc))), (4, .int (nI E)), (5, .int (o_v r.1 r.2 k)), (6, .int (nI k))] [] (ups I 320 f) := by
    intro d
    induction d with
    | zero =>
      intro k hk cc E f hc h30 hE0 hI
      have ek : k = r.1 := by omega
      subst ek
      have hv : o_v r.1 r.2 r.1 = -1 := if_neg (Nat.lt_irrefl _)
      have fin : (∃ x, some (Value.int (nI (r.1 - cc))) = some (.int x)) ∧ qE (nI r.1 - nI (m_most B (fun k => (r.2 k).toNatClampNeg) r.1 (2 ^ r.1 - 1))) I (some (.int (nI (r.1 - cc)))) (ups (ups I 320 f) 320 (I 320)) := by
        refine ⟨⟨_, rfl⟩, qE_i ?_ (by rw [ups_ups, ups_id])⟩
        have e1 : m_most B (fun k => (r.2 k).toNatClampNeg) r.1 (2 ^ r.1 - 1) = cc := by
          have := few_o hf ho hm hI
          rw [show (mAl cc (fun i => (f i).toInt)).length = cc by unfold mAl; simp] at this
          exact this
        rw [e1, nI_sub hc]
      exact bX10_fewestLate_31 (f13 := 0) (g13 := I) hIs hwo1 hx1 ha1 ⟨Nat.le_refl _, Nat.le_refl _⟩ (fun _ => fin) ⟨Nat.le_refl _, Nat.le_refl _⟩ (fun _ _ => fin) (fun _ z => absurd hv z) (fun _ z => absurd hv z) (fun _ z => absurd hv z) (fun _ z => absurd hv z) (fun _ z => absurd hv z) ⟨Nat.le_refl _, Nat.le_refl _⟩ (fun _ z => absurd hv z) (fun _ z => absurd hv z) (fun _ z => absurd hv z) (fun _ z => absurd hv z) (fun _ z => absurd hv z)
    | succ d ih =>
      intro k hk cc E f hc h30 hE0 hI
      have hkm : k < r.1 := by omega
      have hv : o_v r.1 r.2 k = r.2 k := if_pos hkm
      obtain ⟨eo, hon, hod⟩ := ho.1 k hkm
      have ha12 : o_L r.2 k < 12 := by omega
      obtain ⟨x, hx30, ex⟩ := rem_30 hf hon
      have hb30 := mAl_30 h30
      have e12 : (12 : Int32) = nI 12 := rfl
      have hne12 : ¬ (12 : Int32) ≤ nI k := by rw [e12]; exact nI_ge (by omega) (by omega)
      have hvne : ¬ o_v r.1 r.2 k = -1 := by rw [hv, eo]; exact nI_ne_m1 (by omega)
      have hcc : (nI cc).toNatClampNeg = cc := nI_clamp (by omega)
      have el : ∀ g y, y < 8 → ups I 320 g (300 + o_L r.2 k) y = s_of B (o_L r.2 k) y := fun g y hy => hBM g _ ha12 y hy
      have hnx : CT (kG K1) (kw K1) (kl K1) (yX9_nextByDeadline, cX9_nextByDeadline, 4, (some .int)) 1 (0, 0) [.ref 288, .int (r.2 k)] (ups I 320 f) (qE (o_v r.1 r.2 (k + 1)) (ups I 320 f)) nX := by
        have h1 := k_next (G := kG K1) (gl := kl K1) (M := ups I 320 f) (s := 288) (B := B) (n := n) hs1 (hBM f) hn (h3M f) (p := r.2 k) (Or.inr ⟨o_L r.2 k, ha12, eo⟩)
        rw [nx_o ho hn h5 (k := k + 1) (Or.inr ⟨k, rfl, hkm, rfl⟩)] at h1
        exact h1
      have nxt : ∀ g, CT (kG K1) (kw K1) (kl K1) (yX9_nextByDeadline, cX9_nextByDeadline, 4, (some .int)) 1 (0, 0) [.ref 288, .int (r.2 k)] (ups I 320 g) (qE (o_v r.1 r.2 (k + 1)) (ups I 320 g)) nX := fun g => by
        have h1 := k_next (G := kG K1) (gl := kl K1) (M := ups I 320 g) (s := 288) (B := B) (n := n) hs1 (hBM g) hn (h3M g) (p := r.2 k) (Or.inr ⟨o_L r.2 k, ha12, eo⟩)
        rw [nx_o ho hn h5 (k := k + 1) (Or.inr ⟨k, rfl, hkm, rfl⟩)] at h1
        exact h1
      have hO : o_O B r.2 k = ((x : Int), (s_of B (o_L r.2 k) 3).toInt) := by unfold o_O; rw [ex, nI_toInt (by omega)]
      have epsl : (List.range (k + 1)).map (o_O B r.2) = (List.range k).map (o_O B r.2) ++ [((x : Int), (s_of B (o_L r.2 k) 3).toInt)] := by
        rw [List.range_succ, List.map_append]
        show _ ++ [o_O B r.2 k] = _
        rw [hO]
      have f1 : ∀ i, i < cc → upd f cc (nI x) i = f i := fun i hi => upd_ne _ _ (by omega)
      have eA : mAl cc (fun i => (upd f cc (nI x) i).toInt) = mAl cc (fun i => (f i).toInt) := mAl_congr (fun i hi => by rw [f1 i hi])
      have eA1 : mAl (cc + 1) (fun i => (upd f cc (nI x) i).toInt) = mAl cc (fun i => (f i).toInt) ++ [(x : Int)] := by
        rw [mAl_succ, eA]
        show _ ++ [(upd f cc (nI x) cc).toInt] = _
        rw [upd_same, nI_toInt (by omega)]
      have pA1 : (mAl (cc + 1) (fun i => (upd f cc (nI x) i).toInt)).Perm ((x : Int) :: mAl cc (fun i => (f i).toInt)) := by
        rw [eA1]; exact List.perm_append_comm (l₁ := mAl cc (fun i => (f i).toInt)) (l₂ := [(x : Int)])
      have h31 : ∀ i, i < cc + 1 → ∃ y, y ≤ 30 ∧ upd f cc (nI x) i = nI y := fun i hi => by
        by_cases e : i = cc
        · exact ⟨x, hx30, by rw [e, upd_same]⟩
        · rw [f1 i (by omega)]; exact h30 i (by omega)
      have hle : nI E + nI x ≤ s_of B (o_L r.2 k) 3 ↔ (t : Int) + mSum (mAl cc (fun i => (f i).toInt)) + x ≤ (s_of B (o_L r.2 k) 3).toInt := by
        rw [nI_add, Int32.le_iff_toInt_le, nI_toInt (by omega), ← hE0]
        omega
      rw [hv]
      rw [hv] at hvne
      have hup : up (ups I 320 f) 320 (nI cc).toNatClampNeg (ups I 320 f (LR 299 (r.2 k).toNatClampNeg) 5) = ups I 320 (upd f cc (nI x)) := by
        rw [hcc, eo, hlr _ ha12, el f 5 (by omega), ex, eup]
      have hdl : ups I 320 (upd f cc (nI x)) (LR 299 (r.2 k).toNatClampNeg) 3 = s_of B (o_L r.2 k) 3 := by
        rw [eo, hlr _ ha12, el _ 3 (by omega)]
      have hrd : ups I 320 (upd f cc (nI x)) 320 (nI cc).toNatClampNeg = nI x := by rw [hcc, ups_same, upd_same]
      have ecm : nI cc + 1 + -1 = nI cc := by rw [nI_1, ← Int32.sub_eq_add_neg]; exact nI_pred cc
      have hg := gr_le (f := upd f cc (nI x)) cc
      obtain ⟨y, hy30, ey⟩ := h31 (d_gr (upd f cc (nI x)) cc) (by omega)
      have hgc : (nI (d_gr (upd f cc (nI x)) cc)).toNatClampNeg = d_gr (upd f cc (nI x)) cc := nI_clamp (by omega)
      have hk1 : k + 1 ≤ r.1 := hkm
      refine bX10_fewestLate_31 (f13 := nI (d_gr (upd f cc (nI x)) cc)) (g13 := ups I 320 (upd f cc (nI x))) hIs hwo1 hx1 ha1 ⟨Nat.le_refl _, Nat.le_refl _⟩ (fun z => absurd z hne12) ⟨Nat.le_refl _, Nat.le_refl _⟩ (fun _ z => absurd z hvne) (fun _ _ => by rw [eo]; exact vp_in_nI ha12 (by omega)) (fun _ _ => vp_in_nI (by omega) (by omega)) (fun _ _ => vp_in_nI (by omega) (by omega)) (fun _ _ => by rw [eo]; exact vp_in_nI ha12 (by omega)) (fun _ _ z => ?_) ⟨Nat.le_refl _, Nat.le_refl _⟩ (fun _ _ _ => ?_) (fun _ _ _ => vp_in_nI (by omega) (by omega)) (fun _ _ _ => by rw [ecm]; exact vp_in_nI (by omega) (by omega)) (fun _ _ _ => vp_in_nI (by omega) (by omega)) (fun _ _ z => ?_)
      · rw [hup, hdl, hrd] at z
        rw [hup, hrd]
        refine bX10_fewestLate_118 hIs hwo1 hx1 ha1 ⟨Nat.le_refl _, Nat.le_refl _⟩ (nxt _) ?_
        rw [nI_1, nI_1, nI_add, show k - cc = k + 1 - (cc + 1) by omega]
        refine ih (k + 1) (by omega) (cc + 1) (E + x) (upd f cc (nI x)) (by omega) h31 ?_ ?_
        · rw [mSum_perm pA1]
          simp only [mSum]
          omega
        · rw [epsl]
          exact mInv_add hI (hle.mp z) pA1
      · rw [hup, nI_1]
        have h9 := k_greatest (G := kG K1) (gl := kl K1) (M := ups I 320 (upd f cc (nI x))) (r := 320) ha1 (by decide) (k := cc) (by omega)
        rw [ups_same] at h9
        exact h9
      · rw [hup, hdl, hrd] at z
        rw [hup, hrd, hgc, ecm, hcc, ups_same, upd_same, ey, eup]
        refine bX10_fewestLate_118 hIs hwo1 hx1 ha1 ⟨Nat.le_refl _, Nat.le_refl _⟩ (nxt _) ?_
        have hxy : x ≤ y := by
          have h9 := hg.2 cc (Nat.le_refl _)
          rw [upd_same, ey] at h9
          exact (nI_leI (by omega) (by omega)).mp h9
        rw [nI_1, nI_1, nI_add, nI_sub (show y ≤ E + x by
          have h9 := (nI_leI (a := y) (b := 30) (by omega) (by omega))
          by_cases hgc2 : d_gr (upd f cc (nI x)) cc = cc
          · rw [hgc2, upd_same] at ey
            have := (nI_eq (by omega) (by omega)).mp ey
            omega
          · have h8 : (y : Int) ≤ mSum (mAl cc (fun i => (f i).toInt)) := by
              have h7 := mAl_one (f := fun i => (f i).toInt) (k := cc) (fun i hi => by obtain ⟨u, hu, eu⟩ := h30 i hi; show 0 ≤ (f i).toInt; rw [eu, nI_toInt (by omega)]; omega) (show d_gr (upd f cc (nI x)) cc < cc by omega)
              have h6 : (f (d_gr (upd f cc (nI x)) cc)).toInt = y := by
                rw [← f1 _ (by omega), ey, nI_toInt (by omega)]
              rw [← h6]
              exact h7
            omega), show k - cc + 1 = k + 1 - cc by omega]
        have eA2 : mAl cc (fun i => (upd (upd f cc (nI x)) (d_gr (upd f cc (nI x)) cc) (nI x) i).toInt) = mAl cc (fun j => if j = d_gr (upd f cc (nI x)) cc then (upd f cc (nI x) cc).toInt else (upd f cc (nI x) j).toInt) := mAl_congr (fun i hi => by
          by_cases e : i = d_gr (upd f cc (nI x)) cc
          · rw [if_pos e, e, upd_same, upd_same]
          · rw [if_neg e, upd_ne _ _ e])
        have pA2 : (((y : Nat) : Int) :: mAl cc (fun i => (upd (upd f cc (nI x)) (d_gr (upd f cc (nI x)) cc) (nI x) i).toInt)).Perm ((x : Int) :: mAl cc (fun i => (f i).toInt)) := by
          have h9 := mAl_out (c := cc) (g := d_gr (upd f cc (nI x)) cc) (fun i => (upd f cc (nI x) i).toInt) hg.1
          rw [← eA2] at h9
          have e9 : (upd f cc (nI x) (d_gr (upd f cc (nI x)) cc)).toInt = y := by rw [ey, nI_toInt (by omega)]
          rw [← e9]
          exact h9.trans pA1
        refine ih (k + 1) (by omega) cc (E + x - y) (upd (upd f cc (nI x)) (d_gr (upd f cc (nI x)) cc) (nI x)) (by omega) (fun i hi => ?_) ?_ ?_
        · by_cases e : i = d_gr (upd f cc (nI x)) cc
          · rw [e, upd_same]; exact ⟨x, hx30, rfl⟩
          · rw [upd_ne _ _ e, f1 i hi]; exact h30 i hi
        · have h9 := mSum_perm pA2
          simp only [mSum] at h9
          have h8 := mAl_30 (f := upd (upd f cc (nI x)) (d_gr (upd f cc (nI x)) cc) (nI x)) (k := cc) (fun i hi => by
            by_cases e : i = d_gr (upd f cc (nI x)) cc
            · rw [e, upd_same]; exact ⟨x, hx30, rfl⟩
            · rw [upd_ne _ _ e, f1 i hi]; exact h30 i hi)
          omega
        · rw [epsl]
          refine mInv_drop hI (fun p hp => ?_) (fun p hp => ?_) (fun w => z (hle.mpr w)) pA2 (fun w hw => ?_)
          · obtain ⟨j, hj, rfl⟩ := List.mem_map.mp hp
            have hj := List.mem_range.mp hj
            have h9 := ho.2.1 j k hj hkm
            unfold d_L at h9
            show (s_of B (o_L r.2 j) 3).toInt ≤ (s_of B (o_L r.2 k) 3).toInt
            omega
          · obtain ⟨j, hj, rfl⟩ := List.mem_map.mp hp
            have hj := List.mem_range.mp hj
            obtain ⟨u, hu, eu⟩ := rem_30 hf (ho.1 j (by omega)).2.1
            show 0 ≤ (s_of B (o_L r.2 j) 5).toInt
            rw [eu, nI_toInt (by omega)]
            omega
          · have h9 := pA1.mem_iff.mpr hw
            obtain ⟨i, hi, ei⟩ := mAl_mem h9
            have h8 := Int32.le_iff_toInt_le.mp (hg.2 i (by omega))
            rw [ey, nI_toInt (by omega)] at h8
            rw [← ei]
            exact h8
  have hm0 := k_next (G := kG K1) (gl := kl K1) (M := ups I 320 (fun _ => 0)) (s := 288) (B := B) (n := n) hs1 (hBM _) hn (h3M _) (p := -1) (Or.inl rfl)
  rw [nx_o ho hn h5 (k := 0) (Or.inl ⟨rfl, rfl⟩)] at hm0
  have h40 : ups I 320 (fun _ => 0) 288 4 = nI t := by rw [ups_ne _ _ (by decide)]; exact h4
  refine bX10_fewestLate_4 hIs hwo1 hx1 ha1 ⟨Nat.le_refl _, Nat.le_refl _⟩ hm0 ?_
  rw [h40]
  exact key r.1 0 (by omega) 0 t (fun _ => 0) (Nat.le_refl _) (fun i hi => absurd hi (Nat.not_lt_zero i)) (by simp [mAl, mSum]) (mInv_0 _)
end CFY
