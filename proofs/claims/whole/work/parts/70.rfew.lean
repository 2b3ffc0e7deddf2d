/-! THE REFERENCE: fewestLate -/
def m_tm (B : zBk) (o : Nat → Nat) (s : Nat) : Nat → Int32
  | 0 => B 9
  | k + 1 => if s.testBit k = true then m_tm B o s k + s_of B (o k) 5 else m_tm B o s k
def m_it (B : zBk) (o : Nat → Nat) (s : Nat) : Nat → Bool
  | 0 => true
  | k + 1 => m_it B o s k && (!s.testBit k || decide (m_tm B o s (k + 1) ≤ s_of B (o k) 3))
def m_most (B : zBk) (o : Nat → Nat) (m : Nat) : Nat → Nat
  | 0 => 0
  | s + 1 => if m_most B o m s < mPop 12 (s + 1) ∧ m_it B o (s + 1) m = true then mPop 12 (s + 1) else m_most B o m s
/-- the shifting for letter l, from place a down -/
def m_sh (B : zBk) (l : Nat) : Nat → (Nat → Int32) → Nat × (Nat → Int32)
  | 0, q => (0, q)
  | a + 1, q => if s_of B (q a).toNatClampNeg 3 ≤ s_of B l 3 then (a + 1, q) else m_sh B l a (upd q (a + 1) (q a))
def m_or (B : zBk) (q : Nat → Int32) : Nat → Nat × (Nat → Int32)
  | 0 => (0, q)
  | l + 1 => if s_done B l = true then m_or B q l else ((m_or B q l).1 + 1, upd (m_sh B l (m_or B q l).1 (m_or B q l).2).2 (m_sh B l (m_or B q l).1 (m_or B q l).2).1 (nI l))
theorem bit_s0 : ∀ a, a < 64 → ∀ b, b < 64 → ∀ k, k < 12 → (nI (a * 64 + b) >>> (nI k &&& 31)) &&& 1 = b2 ((a * 64 + b).testBit k) := by decide +kernel
theorem bit_s {s k : Nat} (hs : s < 4096) (hk : k < 12) : (nI s >>> (nI k &&& 31)) &&& 1 = b2 (s.testBit k) := by
  have h := bit_s0 (s / 64) (by omega) (s % 64) (by omega) k hk
  rw [show s / 64 * 64 + s % 64 = s by omega] at h
  exact h
theorem bit_c0 : ∀ a, a < 64 → ∀ b, b < 64 → nI (a * 64 + b) &&& 1 = nI ((a * 64 + b) % 2) ∧ nI (a * 64 + b) >>> ((1 : Int32) &&& 31) = nI ((a * 64 + b) / 2) := by decide +kernel
theorem bit_c {s : Nat} (hs : s < 4096) : nI s &&& 1 = nI (s % 2) ∧ nI s >>> ((1 : Int32) &&& 31) = nI (s / 2) := by
  have h := bit_c0 (s / 64) (by omega) (s % 64) (by omega)
  rw [show s / 64 * 64 + s % 64 = s by omega] at h
  exact h
theorem shl_1 : ∀ m, m < 13 → (1 : Int32) <<< (nI m &&& 31) = nI (2 ^ m) := by decide +kernel
theorem sh_le {B : zBk} {l : Nat} : ∀ (a : Nat) (q : Nat → Int32), (m_sh B l a q).1 ≤ a
  | 0, _ => Nat.le_refl _
  | a + 1, q => by
    unfold m_sh
    split
    · exact Nat.le_refl _
    · exact Nat.le_succ_of_le (sh_le a _)
theorem or_le {B : zBk} {q : Nat → Int32} : ∀ l, (m_or B q l).1 ≤ l
  | 0 => Nat.le_refl _
  | l + 1 => by
    unfold m_or
    have := or_le (B := B) (q := q) l
    split
    · omega
    · exact Nat.succ_le_succ this
/-- what the shifting leaves: below the place as before, above it moved by one -/
theorem sh_at {B : zBk} {l : Nat} : ∀ (a : Nat) (q : Nat → Int32), (∀ k, k < (m_sh B l a q).1 → (m_sh B l a q).2 k = q k) ∧ (∀ k, (m_sh B l a q).1 ≤ k → k < a → (m_sh B l a q).2 (k + 1) = q k) ∧ (∀ k, a < k → (m_sh B l a q).2 k = q k) ∧ (∀ k, (m_sh B l a q).1 ≤ k → k < a → ¬ s_of B (q k).toNatClampNeg 3 ≤ s_of B l 3) ∧ ((m_sh B l a q).1 = 0 ∨ ∃ k, (m_sh B l a q).1 = k + 1 ∧ s_of B (q k).toNatClampNeg 3 ≤ s_of B l 3)
  | 0, q => ⟨fun _ _ => rfl, fun k _ h => absurd h (Nat.not_lt_zero k), fun _ _ => rfl, fun k _ h => absurd h (Nat.not_lt_zero k), Or.inl rfl⟩
  | a + 1, q => by
    unfold m_sh
    by_cases hc : s_of B (q a).toNatClampNeg 3 ≤ s_of B l 3
    · rw [if_pos hc]
      exact ⟨fun _ _ => rfl, fun k h1 h2 => absurd h2 (Nat.not_lt.mpr h1), fun _ _ => rfl, fun k h1 h2 => absurd h2 (Nat.not_lt.mpr h1), Or.inr ⟨a, rfl, hc⟩⟩
    · rw [if_neg hc]
      obtain ⟨h1, h2, h3, h4, h5⟩ := sh_at (B := B) (l := l) a (upd q (a + 1) (q a))
      have hle := sh_le (B := B) (l := l) a (upd q (a + 1) (q a))
      have e : ∀ k, k < a + 1 → upd q (a + 1) (q a) k = q k := fun k hk => upd_ne _ _ (by omega)
      refine ⟨fun k hk => (h1 k hk).trans (e k (by omega)), fun k hk hk2 => ?_, fun k hk => (h3 k (by omega)).trans (upd_ne _ _ (by omega)), fun k hk hk2 => ?_, ?_⟩
      · by_cases hka : k = a
        · rw [hka, h3 (a + 1) (by omega), upd_same]
        · exact (h2 k hk (by omega)).trans (e k (by omega))
      · by_cases hka : k = a
        · rw [hka]; exact hc
        · have := h4 k hk (by omega)
          rw [e k (by omega)] at this
          exact this
      · rcases h5 with h5 | ⟨k, hk, h5⟩
        · exact Or.inl h5
        · exact Or.inr ⟨k, hk, by rw [e k (by omega)] at h5; exact h5⟩
theorem or_in {B : zBk} {q : Nat → Int32} : ∀ l k, k < (m_or B q l).1 → ∃ a, a < l ∧ (m_or B q l).2 k = nI a
  | 0, k, h => absurd h (Nat.not_lt_zero k)
  | l + 1, k, h => by
    have ih := or_in (B := B) (q := q) l
    unfold m_or at h ⊢
    split at h
    · next hd =>
      rw [if_pos hd]
      obtain ⟨a, ha, e⟩ := ih k h
      exact ⟨a, by omega, e⟩
    · next hd =>
      rw [if_neg hd]
      obtain ⟨h1, h2, h3, -, -⟩ := sh_at (B := B) (l := l) (m_or B q l).1 (m_or B q l).2
      have hle := sh_le (B := B) (l := l) (m_or B q l).1 (m_or B q l).2
      dsimp only at h ⊢
      by_cases e : k = (m_sh B l (m_or B q l).1 (m_or B q l).2).1
      · rw [e, upd_same]; exact ⟨l, by omega, rfl⟩
      · rw [upd_ne _ _ e]
        by_cases e2 : k < (m_sh B l (m_or B q l).1 (m_or B q l).2).1
        · rw [h1 k e2]
          obtain ⟨a, ha, e⟩ := ih k (by omega)
          exact ⟨a, by omega, e⟩
        · obtain ⟨j, rfl⟩ : ∃ j, k = j + 1 := ⟨k - 1, by omega⟩
          rw [h2 j (by omega) (by omega)]
          obtain ⟨a, ha, e⟩ := ih j (by omega)
          exact ⟨a, by omega, e⟩
section RFW
variable {G : zG} {w : Nat × Nat} {gl : Launch} {I : zM}
theorem m_count {s : Nat} (hs : s < 4096) : CT G w gl (yX11_count, cX11_count, 3, some .int) 0 (0, 0) [.int (nI s)] I (qE (nI (mPop 12 s)) I) nX := by
  refine ct_of (by decide) [(0, .int (nI s))] rfl rfl (fun K hG hw hgl hwo hK => ?_)
  subst hG; subst hw; subst hgl
  have key : ∀ d r c, r < 2 ^ d → r < 4096 → c + mPop d r = mPop 12 s → ZZ K (0, 0) 4 [(0, .int (nI s)), (1, .int (nI c)), (2, .int (nI r))] [] I := by
    intro d
    induction d with
    | zero =>
      intro r c hr h4 hc
      have r0 : r = 0 := by simpa using hr
      subst r0
      exact bX11_count_4 hK hwo (fun _ => qE_i (by rw [← hc]; rfl) rfl) (fun h => absurd (by decide) h)
    | succ d ih =>
      intro r c hr h4 hc
      by_cases r0 : r = 0
      · subst r0
        rw [mPop_0] at hc
        exact bX11_count_4 hK hwo (fun _ => qE_i (by rw [← hc]; rfl) rfl) (fun h => absurd (by decide) h)
      · have hne : ¬ nI r ≤ 0 := nI_nle (by omega) (by omega)
        refine bX11_count_4 hK hwo (fun h => absurd h hne) (fun _ => ?_)
        rw [(bit_c h4).1, (bit_c h4).2, nI_add]
        rw [mPop] at hc
        exact ih (r / 2) (c + r % 2) (by rw [Nat.pow_succ] at hr; omega) (by omega) (by omega)
  exact bX11_count_0 hK hwo (key 12 s 0 hs hs (by omega))
theorem m_isInTime (hm : isT w 11 312) {s m : Nat} (hs : s < 4096) (h12 : m ≤ 12) (hq : ∀ k, k < m → ∃ a, a < 12 ∧ I 318 k = nI a) : CT G w gl (yX11_isInTime, cX11_isInTime, 5, some .boolean) 1 (0, 0) [.ref 312, .int (nI s), .int (nI m)] I (qE (b2 (m_it (I 313) (fun k => (I 318 k).toNatClampNeg) s m)) I) nX := by
  refine ct_of (by decide) [(0, .ref 312), (1, .int (nI s)), (2, .int (nI m))] rfl rfl (fun K hG hw hgl hwo hK => ?_)
  subst hG; subst hw; subst hgl
  have stop : ∀ d k, k + d = m → m_it (I 313) (fun k => (I 318 k).toNatClampNeg) s k = false → m_it (I 313) (fun k => (I 318 k).toNatClampNeg) s m = false := by
    intro d
    induction d with
    | zero => intro k hk h; rw [← hk]; exact h
    | succ d ih => intro k hk h; exact ih (k + 1) (by omega) (by unfold m_it; rw [h]; rfl)
  have key : ∀ d k, k + d = m → m_it (I 313) (fun k => (I 318 k).toNatClampNeg) s k = true → ZZ K (0, 0) 11 [(0, .ref 312), (1, .int (nI s)), (2, .int (nI m)), (3, .int (m_tm (I 313) (fun k => (I 318 k).toNatClampNeg) s k)), (4, .int (nI k))] [] I := by
    intro d
    induction d with
    | zero =>
      intro k hk ht
      have e : k = m := by omega
      subst e
      have h : nI k ≤ nI k := Int32.le_refl _
      exact bX11_isInTime_11 (f5 := 0) (g5 := I) (f7 := 0) (g7 := I) hK hwo hm (fun _ => qE_i (by rw [ht]; rfl) rfl) (fun c => absurd h c) (fun c => absurd h c) (fun c => absurd h c) (fun c => absurd h c) (fun c => absurd h c) (fun c => absurd h c) (fun c => absurd h c)
    | succ d ih =>
      intro k hk ht
      have h : ¬ nI m ≤ nI k := nI_ge (by omega) (by omega)
      obtain ⟨a, ha, ea⟩ := hq k (by omega)
      have ecl : (nI k).toNatClampNeg = k := nI_clamp (by omega)
      have eo : (I 318 k).toNatClampNeg = a := by rw [ea]; exact nI_clamp (by omega)
      have hx := ih (k + 1) (by omega)
      have ebit := bit_s (k := k) hs (by omega)
      by_cases hb : s.testBit k = true
      · have e1 : m_tm (I 313) (fun k => (I 318 k).toNatClampNeg) s (k + 1) = m_tm (I 313) (fun k => (I 318 k).toNatClampNeg) s k + s_of (I 313) a 5 := by
          rw [m_tm, if_pos hb]
          show _ + s_of (I 313) (I 318 k).toNatClampNeg 5 = _
          rw [eo]
        have e2 : m_it (I 313) (fun k => (I 318 k).toNatClampNeg) s (k + 1) = decide (m_tm (I 313) (fun k => (I 318 k).toNatClampNeg) s k + s_of (I 313) a 5 ≤ s_of (I 313) a 3) := by
          rw [m_it, ht, hb, e1]
          show (true && (false || decide (_ ≤ s_of (I 313) (I 318 k).toNatClampNeg 3))) = _
          rw [eo]
          simp
        have hne : ¬ (nI s >>> (nI k &&& 31)) &&& 1 = 0 := by rw [ebit, hb]; decide
        refine bX11_isInTime_11 (f5 := s_of (I 313) a 5) (g5 := I) (f7 := s_of (I 313) a 3) (g7 := I) hK hwo hm (fun c => absurd c h) (fun _ _ => vp_in_nI (by omega) (by omega)) (fun _ _ => by rw [ecl, ea]; exact m_of (f := 5) hm ha (by omega)) (fun _ _ => vp_in_nI (by omega) (by omega)) (fun _ _ => by rw [ecl, ea]; exact m_of (f := 3) hm ha (by omega)) (fun _ _ c => ?_) (fun _ _ c => ?_) (fun _ c => absurd c hne)
        · rw [nI_1, ← e1]
          exact hx (by rw [e2]; exact decide_eq_true c)
        · refine qE_i ?_ rfl
          rw [stop d (k + 1) (by omega) (by rw [e2]; exact decide_eq_false c)]
          rfl
      · have hb' : s.testBit k = false := by simpa using hb
        have he : (nI s >>> (nI k &&& 31)) &&& 1 = 0 := by rw [ebit, hb']; decide
        have e1 : m_tm (I 313) (fun k => (I 318 k).toNatClampNeg) s (k + 1) = m_tm (I 313) (fun k => (I 318 k).toNatClampNeg) s k := by rw [m_tm, if_neg hb]
        refine bX11_isInTime_11 (f5 := 0) (g5 := I) (f7 := 0) (g7 := I) hK hwo hm (fun c => absurd c h) (fun _ c => absurd he c) (fun _ c => absurd he c) (fun _ c => absurd he c) (fun _ c => absurd he c) (fun _ c => absurd he c) (fun _ c => absurd he c) (fun _ _ => ?_)
        rw [nI_1, ← e1]
        exact hx (by rw [m_it, ht, hb']; rfl)
  exact bX11_isInTime_0 hK hwo hm (key m 0 (by omega) rfl)
theorem up_318 {q : Nat → Int32} {k : Nat} {x : Int32} : up (ups I 318 q) 318 k x = ups I 318 (upd q k x) := by rw [up_def, ups_same, ups_ups]
theorem m_orderByDeadline (hm : isT w 11 312) {n : Nat} (hn : n ≤ 12) (h8 : I 313 8 = nI n) : CT G w gl (yX11_orderByDeadline, cX11_orderByDeadline, 4, some .int) 2 (0, 0) [.ref 312] I (qE (nI (m_or (I 313) (I 318) n).1) (ups I 318 (m_or (I 313) (I 318) n).2)) nX := by
  refine ct_of (by decide) [(0, .ref 312)] rfl rfl (fun K hG hw hgl hwo hK => ?_)
  subst hG; subst hw; subst hgl
  have e13 : ∀ q, ups I 318 q 313 = I 313 := fun q => ups_ne _ _ (by decide)
  have of13 : ∀ q l f, l < 12 → f < 8 → CT (kG K) (kw K) (kl K) (yX11_of, cX11_of, 3, some .int) 0 (0, 0) [.ref 312, .int (nI l), .int (nI f)] (ups I 318 q) (qE (s_of (I 313) l f) (ups I 318 q)) nX := fun q l f hl hf => by
    have h := m_of (G := kG K) (w := kw K) (gl := kl K) (I := ups I 318 q) hm hl hf
    rw [e13] at h
    exact h
  have key28 : ∀ (l m : Nat), l < 12 → m ≤ l → ∀ a q, a ≤ m → (∀ k, k < a → ∃ b, b < 12 ∧ q k = nI b) → ZZ K (0, 0) 74 [(0, .ref 312), (1, .int (nI m)), (2, .int (nI l)), (3, .int (nI (m_sh (I 313) l a q).1))] [] (ups I 318 (m_sh (I 313) l a q).2) → ZZ K (0, 0) 28 [(0, .ref 312), (1, .int (nI m)), (2, .int (nI l)), (3, .int (nI a))] [] (ups I 318 q) := by
    intro l m hl hml a
    induction a with
    | zero =>
      intro q _ _ kk
      have h : nI 0 ≤ (0 : Int32) := by decide
      exact bX11_orderByDeadline_28 (f4 := 0) (g4 := I) (f5 := 0) (g5 := I) hK hwo hm (fun _ => kk) (fun c => absurd h c) (fun c => absurd h c) (fun c => absurd h c) (fun c => absurd h c) (fun c => absurd h c) (fun c => absurd h c) (fun c => absurd h c)
    | succ a ih =>
      intro q ha hq kk
      have h : ¬ nI (a + 1) ≤ (0 : Int32) := nI_nle (by omega) (by omega)
      have e1 : nI (a + 1) - 1 = nI a := nI_pred a
      have e2 : nI (a + 1) + -1 = nI a := by rw [← Int32.sub_eq_add_neg]; exact e1
      have ecl : (nI a).toNatClampNeg = a := nI_clamp (by omega)
      have ecl1 : (nI (a + 1)).toNatClampNeg = a + 1 := nI_clamp (by omega)
      obtain ⟨b, hb, eb⟩ := hq a (by omega)
      have ebc : (q a).toNatClampNeg = b := by rw [eb]; exact nI_clamp (by omega)
      unfold m_sh at kk
      rw [ebc] at kk
      refine bX11_orderByDeadline_28 (f4 := s_of (I 313) b 3) (g4 := ups I 318 q) (f5 := s_of (I 313) l 3) (g5 := ups I 318 q) hK hwo hm (fun c => absurd c h) (fun _ => by rw [e1]; exact vp_in_nI (by omega) (by omega)) (fun _ => by rw [e1, ecl, ups_same, eb]; exact of13 q b 3 hb (by omega)) (fun _ => of13 q l 3 hl (by omega)) (fun _ c => ?_) (fun _ _ => by rw [e1]; exact vp_in_nI (by omega) (by omega)) (fun _ _ => vp_in_nI (by omega) (by omega)) (fun _ c => ?_)
      · rw [if_pos c] at kk
        exact kk
      · rw [if_neg c] at kk
        rw [e1, e2, ecl, ecl1, ups_same, up_318]
        refine ih (upd q (a + 1) (q a)) (by omega) (fun k hk => ?_) kk
        rw [upd_ne _ _ (by omega)]
        exact hq k (by omega)
  have key : ∀ d l, l + d = n → ZZ K (0, 0) 4 [(0, .ref 312), (1, .int (nI (m_or (I 313) (I 318) l).1)), (2, .int (nI l))] [] (ups I 318 (m_or (I 313) (I 318) l).2) := by
    intro d
    induction d with
    | zero =>
      intro l hl
      have e : l = n := by omega
      subst e
      have h : ups I 318 (m_or (I 313) (I 318) l).2 313 8 ≤ nI l := by rw [e13, h8]; exact Int32.le_refl _
      exact bX11_orderByDeadline_4 (f3 := 0) (g3 := I) hK hwo hm (fun _ => qE_i rfl rfl) (fun c => absurd h c) (fun c => absurd h c) (fun c => absurd h c)
    | succ d ih =>
      intro l hl
      have h : ¬ ups I 318 (m_or (I 313) (I 318) l).2 313 8 ≤ nI l := by rw [e13, h8]; exact nI_ge (by omega) (by omega)
      have hx := ih (l + 1) (by omega)
      have hdn := m_isDone (G := kG K) (w := kw K) (gl := kl K) (I := ups I 318 (m_or (I 313) (I 318) l).2) (l := l) hm (by omega)
      rw [e13] at hdn
      refine bX11_orderByDeadline_4 hK hwo hm (fun c => absurd c h) (fun _ => hdn) (fun _ c => ?_) (fun _ c => ?_)
      · have hd : ¬ s_done (I 313) l = true := by rw [b2_0.mp c]; decide
        have hle := or_le (B := I 313) (q := I 318) l
        unfold m_or at hx
        rw [if_neg hd] at hx
        dsimp only at hx
        have hsl := sh_le (B := I 313) (l := l) (m_or (I 313) (I 318) l).1 (m_or (I 313) (I 318) l).2
        refine key28 l _ (by omega) hle _ _ (Nat.le_refl _) (fun k hk => ?_) ?_
        · obtain ⟨a, ha, ea⟩ := or_in l k hk
          exact ⟨a, by omega, ea⟩
        · refine bX11_orderByDeadline_74 hK hwo hm (vp_in_nI (by omega) (by omega)) ?_
          rw [nI_1, nI_1, nI_clamp (by omega), up_318]
          exact hx
      · have hd : s_done (I 313) l = true := b2_n0.mp c
        unfold m_or at hx
        rw [if_pos hd] at hx
        rw [nI_1]
        exact hx
  have h0 := key n 0 (by omega)
  have e0 : ups I 318 (m_or (I 313) (I 318) 0).2 = I := ups_id I 318
  rw [e0] at h0
  exact bX11_orderByDeadline_0 hK hwo hm h0
def m_few (B : zBk) (q : Nat → Int32) (n : Nat) : Int32 := nI (m_or B q n).1 - nI (m_most B (fun k => ((m_or B q n).2 k).toNatClampNeg) (m_or B q n).1 (2 ^ (m_or B q n).1 - 1))
theorem pop_12 : ∀ {n s : Nat}, mPop n s ≤ n := by
  intro n
  induction n with
  | zero => intro s; exact Nat.le_refl _
  | succ n ih => intro s; have := ih (s := s / 2); rw [mPop]; omega
theorem most_12 {B : zBk} {o : Nat → Nat} {m : Nat} : ∀ s, m_most B o m s ≤ 12
  | 0 => Nat.zero_le _
  | s + 1 => by
    unfold m_most
    have := most_12 (B := B) (o := o) (m := m) s
    split
    · exact pop_12
    · exact this
theorem r_fewestLate (hm : isT w 11 312) {n : Nat} (hn : n ≤ 12) (h8 : I 313 8 = nI n) : CT G w gl (yX11_fewestLate, cX11_fewestLate, 4, some .int) 3 (0, 0) [.ref 312] I (qE (m_few (I 313) (I 318) n) (ups (mT I 0) 318 (m_or (I 313) (I 318) n).2)) nX := by
  refine ct_of (by decide) [(0, .ref 312)] rfl rfl (fun K hG hw hgl hwo hK => ?_)
  subst hG; subst hw; subst hgl
  have e13 : ∀ q, ups (mT I 0) 318 q 313 = I 313 := fun q => (ups_ne _ _ (by decide)).trans mT_313
  have hO := m_orderByDeadline (G := kG K) (w := kw K) (gl := kl K) (I := mT I 0) hm hn (by rw [mT_313]; exact h8)
  have e18 : mT I 0 318 = I 318 := ups_ne _ _ (by decide)
  rw [mT_313, e18] at hO
  unfold m_few at hK
  have hmn := or_le (B := I 313) (q := I 318) n
  have hin := or_in (B := I 313) (q := I 318) n
  generalize hr : m_or (I 313) (I 318) n = r at hK hO hmn hin
  have h2m : 2 ^ r.1 ≤ 4096 := Nat.pow_le_pow_right (n := 2) (by omega) (show r.1 ≤ 12 by omega)
  have h2p : 0 < 2 ^ r.1 := Nat.pow_pos (by omega)
  have hsh : (1 : Int32) <<< (nI r.1 &&& 31) = nI (2 ^ r.1) := shl_1 r.1 (by omega)
  have key : ∀ d s, s + 1 + d = 2 ^ r.1 → ZZ K (0, 0) 14 [(0, .ref 312), (1, .int (nI r.1)), (2, .int (nI (m_most (I 313) (fun k => (r.2 k).toNatClampNeg) r.1 s))), (3, .int (nI (s + 1)))] [] (ups (mT I 0) 318 r.2) := by
    intro d
    induction d with
    | zero =>
      intro s hs
      have h : (1 : Int32) <<< (nI r.1 &&& 31) ≤ nI (s + 1) := by rw [hsh]; exact nI_le (by omega) (by omega)
      refine bX11_fewestLate_14 (f3 := 0) (g3 := I) (f6 := 0) (g6 := I) (f9 := 0) (g9 := I) hK hwo hm (fun _ => qE_i ?_ rfl) (fun c => absurd h c) (fun c => absurd h c) (fun c => absurd h c) (fun c => absurd h c) (fun c => absurd h c) (fun c => absurd h c)
      rw [show 2 ^ r.1 - 1 = s by omega]
    | succ d ih =>
      intro s hs
      have h : ¬ (1 : Int32) <<< (nI r.1 &&& 31) ≤ nI (s + 1) := by rw [hsh]; exact nI_ge (by omega) (by omega)
      have hx := ih (s + 1) (by omega)
      have hp := pop_12 (n := 12) (s := s + 1)
      have hmo := most_12 (B := I 313) (o := fun k => (r.2 k).toNatClampNeg) (m := r.1) s
      have hit := m_isInTime (G := kG K) (w := kw K) (gl := kl K) (I := ups (mT I 0) 318 r.2) (s := s + 1) (m := r.1) hm (by omega) (by omega) (fun k hk => by
        obtain ⟨a, ha, ea⟩ := hin k hk
        exact ⟨a, by omega, by rw [ups_same]; exact ea⟩)
      rw [e13, ups_same] at hit
      unfold m_most at hx
      refine bX11_fewestLate_14 hK hwo hm (fun c => absurd c h) (fun _ => m_count (by omega)) (fun _ c => ?_) (fun _ _ => hit) (fun _ _ c => ?_) (fun _ _ _ => m_count (by omega)) (fun _ c c2 => ?_) <;> rw [nI_1]
      · rw [if_neg (fun q => absurd ((nI_leI (by omega) (by omega)).mp c) (by omega))] at hx
        exact hx
      · rw [if_neg (fun q => absurd (q.2.symm.trans (b2_0.mp c)) (by decide))] at hx
        exact hx
      · have c3 := b2_n0.mp c2
        have c4 : ¬ mPop 12 (s + 1) ≤ m_most (I 313) (fun k => (r.2 k).toNatClampNeg) r.1 s := fun q => c ((nI_leI (by omega) (by omega)).mpr q)
        rw [if_pos ⟨by omega, c3⟩] at hx
        exact hx
  exact bX11_fewestLate_0 hK hwo hm hO (key (2 ^ r.1 - 1) 0 (by omega))
end RFW
