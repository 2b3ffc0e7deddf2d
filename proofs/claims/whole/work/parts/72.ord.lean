/-! both sides of fewestLate: the letters by deadline -/
def d_L (B : zBk) (a b : Nat) : Prop := (s_of B a 3).toInt < (s_of B b 3).toInt ∨ ((s_of B a 3).toInt = (s_of B b 3).toInt ∧ a < b)
theorem d_L_irr {B : zBk} {a : Nat} : ¬ d_L B a a := fun h => by unfold d_L at h; omega
theorem d_L_tr {B : zBk} {a b c : Nat} (h : d_L B a b) (h2 : d_L B b c) : d_L B a c := by unfold d_L at h h2 ⊢; omega
theorem d_L_as {B : zBk} {a b : Nat} (h : d_L B a b) : ¬ d_L B b a := fun h2 => d_L_irr (d_L_tr h h2)
/-- the letter at a place of an order -/
def o_L (q : Nat → Int32) (k : Nat) : Nat := (q k).toNatClampNeg
/-- q holds the letters below l that are not done, by deadline, m of them -/
def o_ok (B : zBk) (l m : Nat) (q : Nat → Int32) : Prop :=
  (∀ k, k < m → q k = nI (o_L q k) ∧ o_L q k < l ∧ s_done B (o_L q k) = false) ∧ (∀ j k, j < k → k < m → d_L B (o_L q j) (o_L q k)) ∧ (∀ a, a < l → s_done B a = false → ∃ k, k < m ∧ o_L q k = a)
theorem o_ok.ins {B : zBk} {l m p : Nat} {q q' : Nat → Int32} (h : o_ok B l m q) (hl : l < 12) (hd : s_done B l = false) (hp : p ≤ m) (h1 : ∀ k, k < p → q' k = q k) (h2 : q' p = nI l) (h3 : ∀ k, p ≤ k → k < m → q' (k + 1) = q k) (h4 : ∀ k, p ≤ k → k < m → ¬ s_of B (o_L q k) 3 ≤ s_of B l 3) (h5 : p = 0 ∨ ∃ k, p = k + 1 ∧ s_of B (o_L q k) 3 ≤ s_of B l 3) : o_ok B (l + 1) (m + 1) q' := by
  obtain ⟨a1, a2, a3⟩ := h
  have o1 : ∀ k, k < p → o_L q' k = o_L q k := fun k hk => by unfold o_L; rw [h1 k hk]
  have o2 : o_L q' p = l := by unfold o_L; rw [h2]; exact nI_clamp (by omega)
  have o3 : ∀ k, p ≤ k → k < m → o_L q' (k + 1) = o_L q k := fun k hk hk2 => by unfold o_L; rw [h3 k hk hk2]
  have lo : ∀ k, k < p → d_L B (o_L q k) l := fun k hk => by
    rcases h5 with h5 | ⟨j, hj, h5⟩
    · omega
    · have h6 := Int32.le_iff_toInt_le.mp h5
      have h7 := (a1 k (by omega)).2.1
      by_cases e : k = j
      · subst e; unfold d_L; omega
      · have h8 := a2 k j (by omega) (by omega)
        unfold d_L at h8 ⊢
        omega
  have hi : ∀ k, p ≤ k → k < m → d_L B l (o_L q k) := fun k hk hk2 => by
    have h6 := h4 k hk hk2
    rw [Int32.le_iff_toInt_le] at h6
    unfold d_L
    omega
  refine ⟨fun k hk => ?_, fun j k hjk hk => ?_, fun a ha had => ?_⟩
  · by_cases e1 : k < p
    · rw [o1 k e1, h1 k e1]
      have := a1 k (by omega)
      exact ⟨this.1, by omega, this.2.2⟩
    · by_cases e2 : k = p
      · subst e2; rw [o2, h2]; exact ⟨rfl, by omega, hd⟩
      · obtain ⟨i, rfl⟩ : ∃ i, k = i + 1 := ⟨k - 1, by omega⟩
        rw [o3 i (by omega) (by omega), h3 i (by omega) (by omega)]
        have := a1 i (by omega)
        exact ⟨this.1, by omega, this.2.2⟩
  · by_cases k1 : k < p
    · rw [o1 k k1, o1 j (by omega)]
      exact a2 j k hjk (by omega)
    · by_cases k2 : k = p
      · subst k2
        rw [o2, o1 j hjk]
        exact lo j hjk
      · obtain ⟨i, rfl⟩ : ∃ i, k = i + 1 := ⟨k - 1, by omega⟩
        rw [o3 i (by omega) (by omega)]
        by_cases j1 : j < p
        · rw [o1 j j1]; exact a2 j i (by omega) (by omega)
        · by_cases j2 : j = p
          · subst j2; rw [o2]; exact hi i (by omega) (by omega)
          · obtain ⟨h, rfl⟩ : ∃ h, j = h + 1 := ⟨j - 1, by omega⟩
            rw [o3 h (by omega) (by omega)]
            exact a2 h i (by omega) (by omega)
  · by_cases e : a = l
    · exact ⟨p, by omega, by rw [o2, e]⟩
    · obtain ⟨k, hk, ek⟩ := a3 a (by omega) had
      by_cases e1 : k < p
      · exact ⟨k, by omega, by rw [o1 k e1]; exact ek⟩
      · exact ⟨k + 1, by omega, by rw [o3 k (by omega) hk]; exact ek⟩
theorem or_ok {B : zBk} {q : Nat → Int32} : ∀ l, l ≤ 12 → o_ok B l (m_or B q l).1 (m_or B q l).2
  | 0, _ => ⟨fun k h => absurd h (Nat.not_lt_zero k), fun j k _ h => absurd h (Nat.not_lt_zero k), fun a h => absurd h (Nat.not_lt_zero a)⟩
  | l + 1, hl => by
    have ih := or_ok (B := B) (q := q) l (by omega)
    unfold m_or
    by_cases hd : s_done B l = true
    · rw [if_pos hd]
      obtain ⟨a1, a2, a3⟩ := ih
      refine ⟨fun k hk => ?_, a2, fun a ha had => ?_⟩
      · have := a1 k hk
        exact ⟨this.1, by omega, this.2.2⟩
      · by_cases e : a = l
        · rw [e, hd] at had; cases had
        · exact a3 a (by omega) had
    · rw [if_neg hd]
      dsimp only
      obtain ⟨h1, h2, h3, h4, h5⟩ := sh_at (B := B) (l := l) (m_or B q l).1 (m_or B q l).2
      have hle := sh_le (B := B) (l := l) (m_or B q l).1 (m_or B q l).2
      refine ih.ins (p := (m_sh B l (m_or B q l).1 (m_or B q l).2).1) (by omega) (by simpa using hd) hle (fun k hk => ?_) (upd_same _ _ _) (fun k hk hk2 => ?_) h4 h5
      · rw [upd_ne _ _ (by omega)]; exact h1 k hk
      · rw [upd_ne _ _ (by omega)]; exact h2 k hk hk2
/-! the next letter by deadline -/
def d_lt (B : zBk) (a b : Nat) : Bool := if s_of B a 3 = s_of B b 3 then decide (a < b) else decide (s_of B a 3 < s_of B b 3)
theorem d_lt_L {B : zBk} {a b : Nat} : d_lt B a b = true ↔ d_L B a b := by
  unfold d_lt d_L
  by_cases h : s_of B a 3 = s_of B b 3
  · rw [if_pos h, h]
    simp
  · rw [if_neg h, decide_eq_true_iff, Int32.lt_iff_toInt_lt]
    have : ¬ (s_of B a 3).toInt = (s_of B b 3).toInt := fun e => h (Int32.toInt_inj.mp e)
    omega
def d_ca (B : zBk) (p : Int32) (i : Nat) : Prop := ¬ s_of B i 5 ≤ 0 ∧ (p = -1 ∨ d_lt B p.toNatClampNeg i = true)
def d_nx (B : zBk) (p : Int32) : Nat → Int32
  | 0 => -1
  | i + 1 => if ¬ s_of B i 5 ≤ 0 ∧ (p = -1 ∨ d_lt B p.toNatClampNeg i = true) ∧ (d_nx B p i = -1 ∨ d_lt B i (d_nx B p i).toNatClampNeg = true) then nI i else d_nx B p i
theorem nx_in {B : zBk} {p : Int32} : ∀ n, n ≤ 12 → (d_nx B p n = -1 ∧ ∀ i, i < n → ¬ d_ca B p i) ∨ ∃ x, x < n ∧ d_nx B p n = nI x ∧ d_ca B p x ∧ ∀ i, i < n → d_ca B p i → i ≠ x → d_L B x i
  | 0, _ => Or.inl ⟨rfl, fun i h => absurd h (Nat.not_lt_zero i)⟩
  | n + 1, hn => by
    have ih := nx_in (B := B) (p := p) n (by omega)
    unfold d_nx
    by_cases hc : d_ca B p n
    · rcases ih with ⟨e, h⟩ | ⟨x, hx, e, hcx, h⟩
      · rw [if_pos ⟨hc.1, hc.2, Or.inl e⟩]
        exact Or.inr ⟨n, by omega, rfl, hc, fun i hi hci hne => absurd hci (h i (by omega))⟩
      · have ecl : (d_nx B p n).toNatClampNeg = x := by rw [e]; exact nI_clamp (by omega)
        by_cases hl : d_lt B n x = true
        · rw [if_pos ⟨hc.1, hc.2, Or.inr (by rw [ecl]; exact hl)⟩]
          refine Or.inr ⟨n, by omega, rfl, hc, fun i hi hci hne => ?_⟩
          by_cases e2 : i = x
          · subst e2; exact d_lt_L.mp hl
          · exact d_L_tr (d_lt_L.mp hl) (h i (by omega) hci e2)
        · rw [if_neg (fun q => by
            rcases q.2.2 with z | z
            · rw [e] at z; exact nI_ne_m1 (by omega) z
            · rw [ecl] at z; exact hl z)]
          refine Or.inr ⟨x, by omega, e, hcx, fun i hi hci hne => ?_⟩
          by_cases e2 : i = n
          · subst e2
            have h0 : ¬ d_L B i x := fun z => hl (d_lt_L.mpr z)
            unfold d_L at h0 ⊢
            omega
          · exact h i (by omega) hci hne
    · rw [if_neg (fun q => hc ⟨q.1, q.2.1⟩)]
      rcases ih with ⟨e, h⟩ | ⟨x, hx, e, hcx, h⟩
      · refine Or.inl ⟨e, fun i hi => ?_⟩
        by_cases e2 : i = n
        · rw [e2]; exact hc
        · exact h i (by omega)
      · refine Or.inr ⟨x, by omega, e, hcx, fun i hi hci hne => ?_⟩
        by_cases e2 : i = n
        · rw [e2] at hci; exact absurd hci hc
        · exact h i (by omega) hci hne
/-- what stands at a place of the order, -1 behind it -/
def o_v (m : Nat) (q : Nat → Int32) (k : Nat) : Int32 := if k < m then q k else -1
theorem nx_o {B : zBk} {n m k : Nat} {q : Nat → Int32} {p : Int32} (h : o_ok B n m q) (hn : n ≤ 12) (h5 : ∀ l, l < n → 0 ≤ s_of B l 5) (hp : (p = -1 ∧ k = 0) ∨ ∃ j, k = j + 1 ∧ j < m ∧ p = q j) : d_nx B p n = o_v m q k := by
  obtain ⟨a1, a2, a3⟩ := h
  have rem : ∀ i, i < n → (¬ s_of B i 5 ≤ 0 ↔ s_done B i = false) := fun i hi => by
    unfold s_done
    rw [decide_eq_false_iff_not]
    exact ⟨fun z e => z (by rw [e]; exact Int32.le_refl _), fun z e => z (Int32.le_antisymm e (h5 i hi))⟩
  have ca : ∀ j, j < m → (d_ca B p (o_L q j) ↔ k ≤ j) := fun j hj => by
    obtain ⟨b1, b2, b3⟩ := a1 j hj
    unfold d_ca
    rw [rem _ b2]
    rcases hp with ⟨hp, hk⟩ | ⟨i, hk, hi, hp⟩
    · exact ⟨fun _ => by omega, fun _ => ⟨b3, Or.inl hp⟩⟩
    · have epc : p.toNatClampNeg = o_L q i := by rw [hp]; rfl
      have epm : ¬ p = -1 := by
        rw [hp, (a1 i hi).1]
        exact nI_ne_m1 (by have := (a1 i hi).2.1; omega)
      rw [epc, d_lt_L]
      constructor
      · rintro ⟨-, z | z⟩
        · exact absurd z epm
        · by_cases e : j = i
          · subst e; exact absurd z d_L_irr
          · by_cases e2 : j < i
            · exact absurd (a2 j i e2 hi) (d_L_as z)
            · omega
      · intro z
        exact ⟨b3, Or.inr (a2 i j (by omega) hj)⟩
  unfold o_v
  rcases nx_in (B := B) (p := p) n hn with ⟨e, hno⟩ | ⟨x, hx, e, hcx, hmin⟩
  · rw [e]
    by_cases hk : k < m
    · exact absurd ((ca k hk).mpr (Nat.le_refl _)) (hno _ (a1 k hk).2.1)
    · rw [if_neg hk]
  · have hxd : s_done B x = false := (rem x hx).mp hcx.1
    obtain ⟨j, hj, ej⟩ := a3 x hx hxd
    have hkj : k ≤ j := (ca j hj).mp (by rw [ej]; exact hcx)
    have hk : k < m := by omega
    rw [if_pos hk, e, (a1 k hk).1]
    by_cases ek : k = j
    · rw [ek, ej]
    · have h1 := a2 k j (by omega) hj
      rw [ej] at h1
      have h2 := hmin (o_L q k) (a1 k hk).2.1 ((ca k hk).mpr (Nat.le_refl _)) (fun z => by rw [z] at h1; exact d_L_irr h1)
      exact absurd h1 (d_L_as h2)
