/-! THE REFERENCE: scripts -/
/-- what a command may do, and does: row j of C on the block B -/
def s_can (B : zBk) (C : Nat → Int32) (j : Nat) : Bool :=
  if C (j * 6) = 0 then s_data (C (j * 6 + 2)) (C (j * 6 + 3)) (C (j * 6 + 4)) (C (j * 6 + 5)) && s_canAdd B (C (j * 6 + 3))
  else if C (j * 6) = 1 then s_in (C (j * 6 + 1)) 1 300 && decide (B 9 + C (j * 6 + 1) ≤ 2000)
  else if C (j * 6) = 2 then decide (C (j * 6 + 1) ≤ 4)
  else if C (j * 6) = 3 then s_has (C (j * 6 + 1)) (B 8) && s_in (C (j * 6 + 2)) 1 999
  else if C (j * 6) = 4 then s_has (C (j * 6 + 1)) (B 8) && decide (C (j * 6 + 2) ≤ 9)
  else s_has (C (j * 6 + 1)) (B 8) && s_open B (C (j * 6 + 1)).toNatClampNeg
def s_doit (B : zBk) (C : Nat → Int32) (j : Nat) : zBk :=
  if C (j * 6) = 0 then s_add B (B 8).toNatClampNeg (C (j * 6 + 1)) (C (j * 6 + 2)) (B 9 + C (j * 6 + 3)) (C (j * 6 + 4)) (C (j * 6 + 5))
  else if C (j * 6) = 1 then s_mins B (B 8).toNatClampNeg (C (j * 6 + 1)).toNatClampNeg
  else if C (j * 6) = 2 then upd B 0 (C (j * 6 + 1))
  else if C (j * 6) = 3 then s_set B (C (j * 6 + 1)).toNatClampNeg 3 (C (j * 6 + 2))
  else if C (j * 6) = 4 then s_set B (C (j * 6 + 1)).toNatClampNeg 4 (C (j * 6 + 2))
  else s_drop B (C (j * 6 + 1)).toNatClampNeg
def s_run (C : Nat → Int32) : Nat → Nat → zBk → Nat × zBk
  | 0, j, B => (j, B)
  | k + 1, j, B => if s_can B C j = true then s_run C k (j + 1) (s_doit B C j) else (j, B)
/-- a row of commands that the parser has made, for c clerks -/
def rw_ok (C : Nat → Int32) (c j : Nat) : Prop := ∃ cmd, cmd ≤ 5 ∧ C (j * 6) = nI cmd ∧ (cmd = 0 → (∃ a, a < c ∧ C (j * 6 + 1) = nI a) ∧ ∀ i, 2 ≤ i → i ≤ 5 → ∃ v, v ≤ 999 ∧ C (j * 6 + i) = nI v) ∧ (cmd ≠ 0 → ∃ v, v ≤ 999 ∧ C (j * 6 + 1) = nI v) ∧ (cmd = 3 ∨ cmd = 4 → ∃ v, v ≤ 999 ∧ C (j * 6 + 2) = nI v)
theorem wf_let {B C : zBk} {n c t : Nat} (hf : s_wf B n c t) (h : ∀ k, k < 22 → C k = B k) (h2 : ∀ l, l < n → ∀ f, (f = 0 ∨ f = 1 ∨ f = 2 ∨ f = 5) → s_of C l f = s_of B l f) : s_wf C n c t := by
  obtain ⟨f1, f2, f3, f4, f5, f6, f7, f8, f9, f10, f11, f12⟩ := hf
  refine ⟨by rw [h 8 (by omega)]; exact f1, f2, by rw [h 7 (by omega)]; exact f3, f4, f5, ?_, by rw [h 5 (by omega)]; exact f7, by rw [h 6 (by omega)]; exact f8, by rw [h 0 (by omega)]; exact f9, fun l hl => ?_, by rw [h 9 (by omega)]; exact f11, f12⟩
  · rw [h 11 (by omega)]
    rcases f6 with e | ⟨l, hl, e, ha⟩
    · exact Or.inl e
    · exact Or.inr ⟨l, hl, e, by rw [arr_eq (h2 l hl 2 (by omega)) (h 9 (by omega))]; exact ha⟩
  · unfold s_let
    rw [h2 l hl 0 (by omega), h2 l hl 1 (by omega), h2 l hl 5 (by omega)]
    exact f10 l hl
theorem add_of {B : zBk} {n l f : Nat} {x1 x2 x3 x4 x5 : Int32} (hf : f < 8) (hl : l ≠ n) : s_of (s_add B n x1 x2 x3 x4 x5) l f = s_of B l f := by
  unfold s_add
  rw [of_upd (by omega)]
  repeat rw [of_set hf (by omega), if_neg (by omega)]
theorem add_at {B : zBk} {n f : Nat} {x1 x2 x3 x4 x5 : Int32} (hf : f < 8) : s_of (s_add B n x1 x2 x3 x4 x5) n f = if f = 0 then x1 else if f = 1 then x2 else if f = 2 then x3 else if f = 3 then x4 else if f = 4 then x5 else if f = 5 then x2 else if f = 6 then -1 else 0 := by
  unfold s_add
  rw [of_upd (by omega)]
  rcases (show f = 0 ∨ f = 1 ∨ f = 2 ∨ f = 3 ∨ f = 4 ∨ f = 5 ∨ f = 6 ∨ f = 7 by omega) with rfl | rfl | rfl | rfl | rfl | rfl | rfl | rfl <;> simp [of_set]
theorem wf_add {B : zBk} {n c t a : Nat} {x1 x2 x3 x4 x5 : Int32} (hf : s_wf B n c t) (hn : n < 12) (ha : a < c) (e1 : x1 = nI a) (h1 : 1 ≤ x2) (h2 : x2 ≤ 30) : s_wf (s_add B n x1 x2 x3 x4 x5) (n + 1) c t := by
  obtain ⟨f1, f2, f3, f4, f5, f6, f7, f8, f9, f10, f11, f12⟩ := hf
  have lo : ∀ k, k < 64 → k ≠ 8 → s_add B n x1 x2 x3 x4 x5 k = B k := fun k hk h8 => add_lo hk h8
  refine ⟨by rw [add_8, f1, nI_1], by omega, by rw [lo 7 (by omega) (by omega)]; exact f3, f4, f5, ?_, by rw [lo 5 (by omega) (by omega)]; exact f7, by rw [lo 6 (by omega) (by omega)]; exact f8, by rw [lo 0 (by omega) (by omega)]; exact f9, fun l hl => ?_, by rw [lo 9 (by omega) (by omega)]; exact f11, f12⟩
  · rw [lo 11 (by omega) (by omega)]
    rcases f6 with e | ⟨l, hl, e, har⟩
    · exact Or.inl e
    · exact Or.inr ⟨l, by omega, e, by rw [arr_eq (add_of (by omega) (by omega)) (lo 9 (by omega) (by omega))]; exact har⟩
  · unfold s_let
    by_cases e : l = n
    · subst e
      rw [add_at (by omega), add_at (by omega), add_at (by omega)]
      exact ⟨⟨a, ha, e1⟩, ⟨h1, h2⟩, ⟨Int32.le_trans (by decide) h1, Int32.le_refl _⟩⟩
    · rw [add_of (by omega) e, add_of (by omega) e, add_of (by omega) e]
      exact f10 l (by omega)
theorem wf_drop {B : zBk} {n c t l : Nat} (hf : s_wf B n c t) (hl : l < n) : s_wf (s_drop B l) n c t := by
  unfold s_drop
  refine wf_set (wf_set hf (by omega) (by omega) (fun _ => ⟨Int32.le_refl _, ?_⟩)) (by omega) (by omega) (fun z => by omega)
  exact Int32.le_trans (by decide) (hf.2.2.2.2.2.2.2.2.2.1 l hl).2.1.1
theorem wf_set34 {B : zBk} {n c t l g : Nat} {x : Int32} (hf : s_wf B n c t) (hg : g = 3 ∨ g = 4) : s_wf (s_set B l g x) n c t :=
  wf_let hf (fun k hk => set_lo (by omega)) (fun a ha f hf => by rw [of_set (by omega) (by omega), if_neg (by omega)])
theorem wf_8 {B : zBk} {n c t : Nat} (hf : s_wf B n c t) : (B 8).toNatClampNeg = n := by rw [hf.1]; exact nI_clamp (by have := hf.2.1; omega)
/-- a command that may be done leaves an office -/
theorem wf_doit {B : zBk} {C : Nat → Int32} {n c t j : Nat} (hf : s_wf B n c t) (ht : t ≤ 2000) (hr : rw_ok C c j) (hc : s_can B C j = true) : ∃ n' t', s_wf (s_doit B C j) n' c t' ∧ t' ≤ 2000 := by
  obtain ⟨cmd, h5, ec, r0, r1, r3⟩ := hr
  have e8 := wf_8 hf
  have hn := hf.2.1
  unfold s_can at hc
  unfold s_doit
  by_cases c0 : C (j * 6) = 0
  · rw [if_pos c0] at hc ⊢
    have hz : cmd = 0 := (nI_eq (a := cmd) (b := 0) (by omega) (by omega)).mp (ec.symm.trans c0)
    obtain ⟨⟨a, ha, ea⟩, -⟩ := r0 hz
    rw [Bool.and_eq_true] at hc
    have hd := hc.1
    have hk := hc.2
    unfold s_data s_in at hd
    unfold s_canAdd at hk
    simp only [Bool.and_eq_true, decide_eq_true_eq] at hd hk
    rw [e8]
    have hlt : n < 12 := by
      have h := hk.1
      rw [hf.1] at h
      exact (nI_ltI (a := n) (b := 12) (by omega) (by omega)).mp h
    exact ⟨n + 1, t, wf_add hf hlt ha ea hd.1.1 hd.1.2, ht⟩
  rw [if_neg c0] at hc ⊢
  by_cases c1 : C (j * 6) = 1
  · rw [if_pos c1] at hc ⊢
    obtain ⟨v, hv, ev⟩ := r1 (fun z => c0 (by rw [ec, z]; rfl))
    rw [Bool.and_eq_true] at hc
    have h9 := of_decide_eq_true hc.2
    rw [hf.2.2.2.2.2.2.2.2.2.2.1, ev, nI_add] at h9
    have h9' := (nI_leI (a := t + v) (b := 2000) (by omega) (by omega)).mp h9
    rw [e8, ev, nI_clamp (by omega)]
    exact ⟨n, t + v, wf_mins hf v (by omega), h9'⟩
  rw [if_neg c1] at hc ⊢
  by_cases c2 : C (j * 6) = 2
  · rw [if_pos c2] at hc ⊢
    obtain ⟨v, hv, ev⟩ := r1 (fun z => c0 (by rw [ec, z]; rfl))
    have h9 := of_decide_eq_true hc
    rw [ev] at h9 ⊢
    have h9' := (nI_leI (a := v) (b := 4) (by omega) (by omega)).mp h9
    exact ⟨n, t, wf_pol hf (by omega), ht⟩
  rw [if_neg c2] at hc ⊢
  by_cases c3 : C (j * 6) = 3
  · rw [if_pos c3]; exact ⟨n, t, wf_set34 hf (Or.inl rfl), ht⟩
  rw [if_neg c3] at hc ⊢
  by_cases c4 : C (j * 6) = 4
  · rw [if_pos c4]; exact ⟨n, t, wf_set34 hf (Or.inr rfl), ht⟩
  rw [if_neg c4] at hc ⊢
  rw [Bool.and_eq_true] at hc
  obtain ⟨l, hl, el⟩ := has_nat hf.1 (by omega) hc.1
  rw [el, nI_clamp (by omega)]
  exact ⟨n, t, wf_drop hf hl, ht⟩
theorem i_toInt {x : Int32} {k : Nat} (hk : k < 2 ^ 31) : x.toInt = k ↔ x = nI k := by
  constructor
  · intro h
    exact Int32.toInt_inj.mp (by rw [h, nI_toInt hk])
  · intro h; rw [h, nI_toInt hk]
section RRU
variable {G : zG} {w : Nat × Nat} {gl : Launch} {I : zM} {N : Nat}
end RRU
