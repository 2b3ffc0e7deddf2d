/-! THE REFERENCE: scripts -/
/-- what a command may do, and does: row j of C on the block B -/
def s_can (B : zBk) (C : Nat → Int32) (j : Nat) : Bool :=
  if C (j * 6) = 0 then s_data (C (j * 6 + 2)) (C (j * 6 + 3)) (C (j * 6 + 4)) (C (j * 6 + 5)) && s_canAdd B (C (j * 6 + 3))
  else if C (j * 6) = 1 then s_in (C (j * 6 + 1)) 1 300 && decide (B 9 + C (j * 6 + 1) ≤ 2000)
  else if C (j * 6) = 2 then decide (C (j * 6 + 1) ≤ 4)
  else if C (j * 6) = 3 then s_has (C (j * 6 + 1)) (B 8) && s_in (C (j * 6 + 2)) 1 999
  else if C (j * 6) = 4 then s_has (C (j * 6 + 1)) (B 8) && decide (C (j * 6 + 2) ≤ 9)
  else s_has (C (j * 6 + 1)) (B 8) && s_open B (C (j * 6 + 1)).toNatClampNeg
def s_doit (B : zBk) (C : Nat → Int32) (j : Nat) : zBk :=
  if C (j * 6) = 0 then s_add B (B 8).toNatClampNeg (C (j * 6 + 1)) (C (j * 6 + 2)) (B 9 + C (j * 6 + 3)) (C (j * 6 + 4)) (C (j * 6 + 5))
  else if C (j * 6) = 1 then s_mins B (B 8).toNatClampNeg (C (j * 6 + 1)).toNatClampNeg
  else if C (j * 6) = 2 then upd B 0 (C (j * 6 + 1))
  else if C (j * 6) = 3 then s_set B (C (j * 6 + 1)).toNatClampNeg 3 (C (j * 6 + 2))
  else if C (j * 6) = 4 then s_set B (C (j * 6 + 1)).toNatClampNeg 4 (C (j * 6 + 2))
  else s_drop B (C (j * 6 + 1)).toNatClampNeg
def s_run (C : Nat → Int32) : Nat → Nat → zBk → Nat × zBk
  | 0, j, B => (j, B)
  | k + 1, j, B => if s_can B C j = true then s_run C k (j + 1) (s_doit B C j) else (j, B)
/-- a row of commands that the parser has made, for c clerks -/
def rw_ok (C : Nat → Int32) (c j : Nat) : Prop := ∃ cmd, cmd ≤ 5 ∧ C (j * 6) = nI cmd ∧ (cmd = 0 → (∃ a, a < c ∧ C (j * 6 + 1) = nI a) ∧ ∀ i, 2 ≤ i → i ≤ 5 → ∃ v, v ≤ 999 ∧ C (j * 6 + i) = nI v) ∧ (cmd ≠ 0 → ∃ v, v ≤ 999 ∧ C (j * 6 + 1) = nI v) ∧ (cmd = 3 ∨ cmd = 4 → ∃ v, v ≤ 999 ∧ C (j * 6 + 2) = nI v)
theorem wf_let {B C : zBk} {n c t : Nat} (hf : s_wf B n c t) (h : ∀ k, k < 22 → C k = B k) (h2 : ∀ l, l < n → ∀ f, (f = 0 ∨ f = 1 ∨ f = 2 ∨ f = 5) → s_of C l f = s_of B l f) : s_wf C n c t := by
  obtain ⟨f1, f2, f3, f4, f5, f6, f7, f8, f9, f10, f11, f12⟩ := hf
  refine ⟨by rw [h 8 (by omega)]; exact f1, f2, by rw [h 7 (by omega)]; exact f3, f4, f5, ?_, by rw [h 5 (by omega)]; exact f7, by rw [h 6 (by omega)]; exact f8, by rw [h 0 (by omega)]; exact f9, fun l hl => ?_, by rw [h 9 (by omega)]; exact f11, f12⟩
  · rw [h 11 (by omega)]
    rcases f6 with e | ⟨l, hl, e, ha⟩
    · exact Or.inl e
    · exact Or.inr ⟨l, hl, e, by rw [arr_eq (h2 l hl 2 (by omega)) (h 9 (by omega))]; exact ha⟩
  · unfold s_let
    rw [h2 l hl 0 (by omega), h2 l hl 1 (by omega), h2 l hl 5 (by omega)]
    exact f10 l hl
theorem add_of {B : zBk} {n l f : Nat} {x1 x2 x3 x4 x5 : Int32} (hf : f < 8) (hl : l ≠ n) : s_of (s_add B n x1 x2 x3 x4 x5) l f = s_of B l f := by
  unfold s_add
  rw [of_upd (by omega)]
  repeat rw [of_set hf (by omega), if_neg (by omega)]
theorem add_at {B : zBk} {n f : Nat} {x1 x2 x3 x4 x5 : Int32} (hf : f < 8) : s_of (s_add B n x1 x2 x3 x4 x5) n f = if f = 0 then x1 else if f = 1 then x2 else if f = 2 then x3 else if f = 3 then x4 else if f = 4 then x5 else if f = 5 then x2 else if f = 6 then -1 else 0 := by
  unfold s_add
  rw [of_upd (by omega)]
  rcases (show f = 0 ∨ f = 1 ∨ f = 2 ∨ f = 3 ∨ f = 4 ∨ f = 5 ∨ f = 6 ∨ f = 7 by omega) with rfl | rfl | rfl | rfl | rfl | rfl | rfl | rfl <;> simp [of_set]
theorem wf_add {B : zBk} {n c t a : Nat} {x1 x2 x3 x4 x5 : Int32} (hf : s_wf B n c t) (hn : n < 12) (ha : a < c) (e1 : x1 = nI a) (h1 : 1 ≤ x2) (h2 : x2 ≤ 30) : s_wf (s_add B n x1 x2 x3 x4 x5) (n + 1) c t := by
  obtain ⟨f1, f2, f3, f4, f5, f6, f7, f8, f9, f10, f11, f12⟩ := hf
  have lo : ∀ k, k < 64 → k ≠ 8 → s_add B n x1 x2 x3 x4 x5 k = B k := fun k hk h8 => add_lo hk h8
  refine ⟨by rw [add_8, f1, nI_1], by omega, by rw [lo 7 (by omega) (by omega)]; exact f3, f4, f5, ?_, by rw [lo 5 (by omega) (by omega)]; exact f7, by rw [lo 6 (by omega) (by omega)]; exact f8, by rw [lo 0 (by omega) (by omega)]; exact f9, fun l hl => ?_, by rw [lo 9 (by omega) (by omega)]; exact f11, f12⟩
  · rw [lo 11 (by omega) (by omega)]
    rcases f6 with e | ⟨l, hl, e, har⟩
    · exact Or.inl e
    · exact Or.inr ⟨l, by omega, e, by rw [arr_eq (add_of (by omega) (by omega)) (lo 9 (by omega) (by omega))]; exact har⟩
  · unfold s_let
    by_cases e : l = n
    · subst e
      rw [add_at (by omega), add_at (by omega), add_at (by omega)]
      exact ⟨⟨a, ha, e1⟩, ⟨h1, h2⟩, ⟨Int32.le_trans (by decide) h1, Int32.le_refl _⟩⟩
    · rw [add_of (by omega) e, add_of (by omega) e, add_of (by omega) e]
      exact f10 l (by omega)
theorem wf_drop {B : zBk} {n c t l : Nat} (hf : s_wf B n c t) (hl : l < n) : s_wf (s_drop B l) n c t := by
  unfold s_drop
  refine wf_set (wf_set hf (by omega) (by omega) (fun _ => ⟨Int32.le_refl _, ?_⟩)) (by omega) (by omega) (fun z => by omega)
  exact Int32.le_trans (by decide) (hf.2.2.2.2.2.2.2.2.2.1 l hl).2.1.1
theorem wf_set34 {B : zBk} {n c t l g : Nat} {x : Int32} (hf : s_wf B n c t) (hg : g = 3 ∨ g = 4) : s_wf (s_set B l g x) n c t :=
  wf_let hf (fun k hk => set_lo (by omega)) (fun a ha f hf => by rw [of_set (by omega) (by omega), if_neg (by omega)])
theorem wf_8 {B : zBk} {n c t : Nat} (hf : s_wf B n c t) : (B 8).toNatClampNeg = n := by rw [hf.1]; exact nI_clamp (by have := hf.2.1; omega)
/-- a command that may be done leaves an office -/
theorem wf_doit {B : zBk} {C : Nat → Int32} {n c t j : Nat} (hf : s_wf B n c t) (ht : t ≤ 2000) (hr : rw_ok C c j) (hc : s_can B C j = true) : ∃ n' t', s_wf (s_doit B C j) n' c t' ∧ t' ≤ 2000 := by
  obtain ⟨cmd, h5, ec, r0, r1, r3⟩ := hr
  have e8 := wf_8 hf
  have hn := hf.2.1
  unfold s_can at hc
  unfold s_doit
  by_cases c0 : C (j * 6) = 0
  · rw [if_pos c0] at hc ⊢
    have hz : cmd = 0 := (nI_eq (a := cmd) (b := 0) (by omega) (by omega)).mp (ec.symm.trans c0)
    obtain ⟨⟨a, ha, ea⟩, -⟩ := r0 hz
    rw [Bool.and_eq_true] at hc
    have hd := hc.1
    have hk := hc.2
    unfold s_data s_in at hd
    unfold s_canAdd at hk
    simp only [Bool.and_eq_true, decide_eq_true_eq] at hd hk
    rw [e8]
    have hlt : n < 12 := by
      have h := hk.1
      rw [hf.1] at h
      exact (nI_ltI (a := n) (b := 12) (by omega) (by omega)).mp h
    exact ⟨n + 1, t, wf_add hf hlt ha ea hd.1.1 hd.1.2, ht⟩
  rw [if_neg c0] at hc ⊢
  by_cases c1 : C (j * 6) = 1
  · rw [if_pos c1] at hc ⊢
    obtain ⟨v, hv, ev⟩ := r1 (fun z => c0 (by rw [ec, z]; rfl))
    rw [Bool.and_eq_true] at hc
    have h9 := of_decide_eq_true hc.2
    rw [hf.2.2.2.2.2.2.2.2.2.2.1, ev, nI_add] at h9
    have h9' := (nI_leI (a := t + v) (b := 2000) (by omega) (by omega)).mp h9
    rw [e8, ev, nI_clamp (by omega)]
    exact ⟨n, t + v, wf_mins hf v (by omega), h9'⟩
  rw [if_neg c1] at hc ⊢
  by_cases c2 : C (j * 6) = 2
  · rw [if_pos c2] at hc ⊢
    obtain ⟨v, hv, ev⟩ := r1 (fun z => c0 (by rw [ec, z]; rfl))
    have h9 := of_decide_eq_true hc
    rw [ev] at h9 ⊢
    have h9' := (nI_leI (a := v) (b := 4) (by omega) (by omega)).mp h9
    exact ⟨n, t, wf_pol hf (by omega), ht⟩
  rw [if_neg c2] at hc ⊢
  by_cases c3 : C (j * 6) = 3
  · rw [if_pos c3]; exact ⟨n, t, wf_set34 hf (Or.inl rfl), ht⟩
  rw [if_neg c3] at hc ⊢
  by_cases c4 : C (j * 6) = 4
  · rw [if_pos c4]; exact ⟨n, t, wf_set34 hf (Or.inr rfl), ht⟩
  rw [if_neg c4] at hc ⊢
  rw [Bool.and_eq_true] at hc
  obtain ⟨l, hl, el⟩ := has_nat hf.1 (by omega) hc.1
  rw [el, nI_clamp (by omega)]
  exact ⟨n, t, wf_drop hf hl, ht⟩
theorem i_toInt {x : Int32} {k : Nat} (hk : k < 2 ^ 31) : x.toInt = k ↔ x = nI k := by
  constructor
  · intro h
    exact Int32.toInt_inj.mp (by rw [h, nI_toInt hk])
  · intro h; rw [h, nI_toInt hk]
section RRU
variable {G : zG} {w : Nat × Nat} {gl : Launch} {I : zM} {N : Nat}
theorem m_nameOf {k : Nat} (hk : k ≤ 5) : CT G w gl (yX11_nameOf, cX11_nameOf, 1, some (.object "java/lang/String")) 0 (0, 0) [.int (nI k)] I (qEr (1100 + (2 + k)) I) nX := by
  refine ct_of (by decide) [(0, .int (nI k))] rfl rfl (fun K hG hw hgl hwo hK => ?_)
  subst hG; subst hw; subst hgl
  have hi : (nI k).toInt = k := nI_toInt (by omega)
  refine bX11_nameOf_0 hK hwo ?_ ?_ ?_ ?_ ?_ ?_ <;> intro c
  · exact ⟨1107, rfl, by omega, rfl⟩
  · exact ⟨1102, rfl, by omega, rfl⟩
  · exact ⟨1103, rfl, by omega, rfl⟩
  · exact ⟨1104, rfl, by omega, rfl⟩
  · exact ⟨1105, rfl, by omega, rfl⟩
  · exact ⟨1106, rfl, by omega, rfl⟩
theorem m_cmd (hm : isT w 11 312) (h4 : I 312 4 = nI N) (hN : N ≤ 600) {r : zSs} (h0 : r.1 = 0) (hok : tOK (I 315) N r.2.1) : CT G w gl (yX11_commandHere, cX11_commandHere, 2, some .int) 5 (0, 0) [.ref 312] (mS I r) (qE (sp_cmd (I 315) r.2.1 6 0) (mS I r)) nX := by
  refine ct_of (by decide) [(0, .ref 312)] rfl rfl (fun K hG hw hgl hwo hK => ?_)
  subst hG; subst hw; subst hgl
  have z0 : (0, 0).1 ≤ ((0, 0) : Nat × Nat).1 ∧ (0, 0).2 ≤ ((0, 0) : Nat × Nat).2 := ⟨Nat.le_refl _, Nat.le_refl _⟩
  refine bX11_commandHere_0 (u := (0, 0)) (mc := (0, 0)) hK hwo hm ?_
  generalize hR : sp_cmd (I 315) r.2.1 6 0 = R at hK
  have key : ∀ k i, i + k = 6 → sp_cmd (I 315) r.2.1 k i = R → ZZ K (0, 0) 2 [(0, .ref 312), (1, .int (nI i))] [] (mS I r) := by
    intro k
    induction k with
    | zero =>
      intro i hi he
      have ei : i = 6 := by omega
      subst ei
      have le : (5 : Int32) < nI 6 := by decide
      exact bX11_commandHere_2 (u := (0, 0)) (mc := (0, 0)) (mc5 := (0, 0)) (x5 := nX) (f4 := 0) (g4 := I) (f5 := 0) (g5 := I) hK hwo hm z0 (fun _ => qE_i he rfl) z0 (fun q => absurd le q) z0 (fun q => absurd le q) (fun q => absurd le q) (fun q => absurd le q) z0 (fun q => absurd le q)
    | succ k ih =>
      intro i hi he
      have nle : ¬ (5 : Int32) < nI i := nI_nlt (a := 5) (b := i) (by omega) (by omega)
      unfold sp_cmd at he
      have mw := m_isWord (G := kG K) (w := kw K) (gl := kl K) (I := bI (ups I 317 r.2.2)) (N := N) (r := (r.1, r.2.1, I 313)) (j := 2 + i) hm (mS_B h4 hN) h0 (by rw [mS_315]; exact hok) (by omega)
      rw [mS_315] at mw
      refine bX11_commandHere_2 (u := (0, 0)) (mc := (0, 0)) (mc5 := (0, 0)) (x5 := nX) hK hwo hm z0 (fun q => absurd q nle) z0 (fun _ => m_nameOf (by omega)) z0 (fun _ _ _ h => h) (fun _ => mw) (fun _ d => ?_) z0 (fun _ d => ?_)
      · rw [if_neg (by rw [b2_0.mp d]; decide)] at he
        rw [nI_1]
        exact ih (i + 1) (by omega) he
      · rw [if_pos (b2_n0.mp d)] at he
        exact qE_i he rfl
  exact key 6 0 (by omega) hR
theorem m_scr (hm : isT w 11 312) (h4 : I 312 4 = nI N) (hN : N ≤ 600) {c : Nat} (h7 : I 313 7 = nI c) (hL : nmL (I 313) c) {r : zSs} (h0 : r.1 = 0) (hok : tOK (I 315) N r.2.1) {R : zSs × Nat} (hR : R = sp_scr (I 315) N (I 313) c 31 0 r.2.1 r.2.2) : CT G w gl (yX11_parseScript, cX11_parseScript, 4, some .int) 6 (0, 0) [.ref 312] (mS I r) (qE (if R.1.1 = 0 then nI R.2 else -1) (mS I R.1)) nX := by
  refine ct_of (by decide) [(0, .ref 312)] rfl rfl (fun K hG hw hgl hwo hK => ?_)
  subst hG; subst hw; subst hgl
  have z0 : (0, 0).1 ≤ ((0, 0) : Nat × Nat).1 ∧ (0, 0).2 ≤ ((0, 0) : Nat × Nat).2 := ⟨Nat.le_refl _, Nat.le_refl _⟩
  refine bX11_parseScript_0 (u := (0, 0)) (mc := (0, 0)) hK hwo hm ?_
  have bad : ∀ (s : zSs) (m : Nat), s.1 ≠ 0 → (s, m) = R → qE (if R.1.1 = 0 then nI R.2 else -1) (mS I R.1) (some (.int (-1))) (mS I s) := fun s m hs e => by
    rw [← e]; exact qE_i (by rw [if_neg hs]) rfl
  have key : ∀ k m (t : zTk) (C : Nat → Int32), m + k = 31 → m ≤ 30 → tOK (I 315) N t → sp_scr (I 315) N (I 313) c k m t C = R → ZZ K (0, 0) 2 [(0, .ref 312), (1, .int (nI m))] [] (mS I (0, t, C)) := by
    intro k
    induction k with
    | zero => intro m t C h1 h2; omega
    | succ k ih =>
      intro m t C h1 h2 ht he
      have e0 := mS_11 (r := (0, t, C)) (a := 0) h4 hN rfl ht (by omega)
      unfold sp_scr at he
      by_cases t0 : t.1 = 0
      · rw [if_pos t0] at he
        refine bX11_parseScript_2 (u := (0, 0)) (mc := (0, 0)) (mc4 := (0, 0)) (x4 := nX) (f4 := 0) (g4 := I) (f6 := 0) (g6 := I) (f10 := 0) (g10 := I) hK hwo hm z0 (fun _ => ?_) z0 (fun q => absurd (e0.mpr t0) q) (fun q => absurd (e0.mpr t0) q) z0 (fun q => absurd (e0.mpr t0) q) (fun q => absurd (e0.mpr t0) q) (fun q => absurd (e0.mpr t0) q) z0 (fun q => absurd (e0.mpr t0) q) (fun q => absurd (e0.mpr t0) q) (fun q => absurd (e0.mpr t0) q)
        rw [← he]; exact qE_i (by rw [if_pos rfl]) rfl
      · rw [if_neg t0] at he
        have nt0 : ¬ mS I (0, t, C) 312 11 = 0 := fun z => t0 (e0.mp z)
        have mcm := m_cmd (G := kG K) (w := kw K) (gl := kl K) (I := I) (N := N) (r := (0, t, C)) hm h4 hN rfl ht
        dsimp only at mcm
        by_cases cm : sp_cmd (I 315) t 6 0 = -1
        · rw [if_pos cm] at he
          refine bX11_parseScript_2 (u := (0, 0)) (mc := (0, 0)) (mc4 := (0, 0)) (x4 := nX) (f6 := 0) (g6 := mS I (1, t, C)) (f10 := 0) (g10 := I) hK hwo hm z0 (fun q => absurd q nt0) z0 (fun _ _ _ h => h) (fun _ => mcm) z0 (fun _ _ => mS_wrong (r := (0, t, C)) (c := 1) hm rfl (by decide)) (fun _ _ => ?_) (fun _ q => absurd cm q) z0 (fun _ q => absurd cm q) (fun _ q => absurd cm q) (fun _ q => absurd cm q)
          exact bX11_parseScript_46 (u := (0, 0)) (mc := (0, 0)) (g2 := I) (f4 := 0) (g4 := I) (f8 := 0) (g8 := I) hK hwo hm z0 (fun q => absurd rfl q) (fun q => absurd rfl q) z0 (fun q => absurd rfl q) z0 (fun q => absurd rfl q) z0 (fun q => absurd rfl q) (fun q => absurd rfl q) z0 (fun q => absurd rfl q) z0 (fun _ => bad (1, t, C) m (show (1 : Nat) ≠ 0 by decide) he)
        · rw [if_neg cm] at he
          obtain ⟨cd, -, hcd, ecd⟩ := (cmd_in (b := I 315) (t := t) 6 0).resolve_left cm
          by_cases m30 : m < 30
          · rw [if_pos m30] at he
            have lt30 : nI m < 30 := nI_lt (a := m) (b := 30) m30 (by omega)
            rw [ecd, nI_clamp (by omega)] at he
            have k1 : tOK (I 315) N (tq_nx (I 315) N t) := kT_nx ht
            have ma := m_args (G := kG K) (w := kw K) (gl := kl K) (I := I) (N := N) (c := c) (r := (0, tq_nx (I 315) N t, upd C (m * 6) (nI cd))) (to := m * 6 + 1) (cmd := cd) hm h4 hN h7 hL rfl k1 (by omega) (by omega)
            dsimp only at ma
            have kok := args_ok (c := c) (cmd := cd) (to := m * 6 + 1) (B := I 313) (C := upd C (m * 6) (nI cd)) k1
            generalize hA : sp_args (I 315) N (I 313) c cd (m * 6 + 1) (tq_nx (I 315) N t) (upd C (m * 6) (nI cd)) = A at ma he kok
            have e6 : nI m * 6 = nI (m * 6) := by rw [show (6 : Int32) = nI 6 from rfl, pk_mul]
            have a46 : ZZ K (0, 0) 46 [(0, .ref 312), (1, .int (nI m)), (2, .int (nI cd))] [.int 1] (mS I (0, t, C)) := by
              refine bX11_parseScript_46 (u := (0, 0)) (mc := (0, 0)) (g2 := mS I (0, tq_nx (I 315) N t, C)) (f4 := b2 (decide (A.1 = 0))) (g4 := mS I A) (f8 := b2 (decide (A.2.1.1 = 3))) (g8 := if A.2.1.1 = 3 then mS I (0, tq_nx (I 315) N A.2.1, A.2.2) else mS I (1, A.2)) hK hwo hm z0 (fun _ => mS_tok (r := (0, t, C)) hm h4 hN rfl ht) (fun _ => by rw [e6]; exact vp_in_nI (by omega) (by omega)) z0 (fun _ => ?_) z0 (fun _ q => ?_) z0 (fun _ q => ?_) (fun _ q d => ?_) z0 (fun _ q d => ?_) z0 (fun q => absurd q (by decide))
              · rw [e6, nI_1, nI_clamp (by omega), mS_up]; exact ma
              · have q1 := d10 q
                rw [if_neg q1] at he
                exact bad A m q1 he
              · have q1 := d01 q
                have ms := m_semi (G := kG K) (w := kw K) (gl := kl K) (I := bI (ups I 317 A.2.2)) (N := N) (r := (A.1, A.2.1, I 313)) hm (mS_B h4 hN) q1 (by rw [mS_315]; exact kok)
                rw [mS_315] at ms
                dsimp only at ms
                by_cases z3 : A.2.1.1 = 3
                · have e9 : rp_semi (I 315) N A.2.1 (I 313) = (0, tq_nx (I 315) N A.2.1, I 313) := by unfold rp_semi; rw [if_pos z3]
                  rw [e9] at ms
                  rw [if_pos z3, decide_eq_true z3]
                  exact ms
                · have e9 : rp_semi (I 315) N A.2.1 (I 313) = (1, A.2.1, I 313) := by unfold rp_semi; rw [if_neg z3]
                  rw [e9] at ms
                  rw [if_neg z3, decide_eq_false z3]
                  exact ms
              · have q1 := d01 q
                have z3 : A.2.1.1 = 3 := by have := b2_n0.mp d; simpa using this
                rw [if_pos q1, if_pos z3] at he
                rw [if_pos z3, nI_1]
                exact ih (m + 1) _ _ (by omega) (by omega) (kT_nx kok) he
              · have q1 := d01 q
                have z3 : ¬ A.2.1.1 = 3 := by have := b2_0.mp d; simpa using this
                rw [if_pos q1, if_neg z3] at he
                rw [if_neg z3]
                exact bad (1, A.2) m (show (1 : Nat) ≠ 0 by decide) he
            rw [ecd] at mcm cm
            refine bX11_parseScript_2 (u := (0, 0)) (mc := (0, 0)) (mc4 := (0, 0)) (x4 := nX) (f6 := 0) (g6 := I) (f10 := 0) (g10 := I) hK hwo hm z0 (fun q => absurd q nt0) z0 (fun _ _ _ h => h) (fun _ => mcm) z0 (fun _ q => absurd q cm) (fun _ q => absurd q cm) (fun _ _ _ => a46) z0 (fun _ _ q => absurd lt30 q) (fun _ _ q => absurd lt30 q) (fun _ _ q => absurd lt30 q)
          · rw [if_neg m30] at he
            have nlt30 : ¬ nI m < 30 := nI_nlt (a := m) (b := 30) (by omega) (by omega)
            refine bX11_parseScript_2 (u := (0, 0)) (mc := (0, 0)) (mc4 := (0, 0)) (x4 := nX) (f6 := 0) (g6 := I) (f10 := 0) (g10 := mS I (4, t, C)) hK hwo hm z0 (fun q => absurd q nt0) z0 (fun _ _ _ h => h) (fun _ => mcm) z0 (fun _ q => absurd q cm) (fun _ q => absurd q cm) (fun _ _ q => absurd q nlt30) z0 (fun _ _ _ => mS_wrong (r := (0, t, C)) (c := 4) hm rfl (by decide)) (fun _ _ _ _ => ?_) (fun _ _ _ q => absurd rfl q)
            exact bX11_parseScript_46 (u := (0, 0)) (mc := (0, 0)) (g2 := I) (f4 := 0) (g4 := I) (f8 := 0) (g8 := I) hK hwo hm z0 (fun q => absurd rfl q) (fun q => absurd rfl q) z0 (fun q => absurd rfl q) z0 (fun q => absurd rfl q) z0 (fun q => absurd rfl q) (fun q => absurd rfl q) z0 (fun q => absurd rfl q) z0 (fun _ => bad (4, t, C) m (show (4 : Nat) ≠ 0 by decide) he)
  have h9 := key 31 0 r.2.1 r.2.2 (by omega) (by omega) hok hR.symm
  rw [show (0, r.2.1, r.2.2) = r by rw [← h0]] at h9
  exact h9
theorem m_canDo (hm : isT w 11 312) {n c t j : Nat} (hf : s_wf (I 313) n c t) (hj : j < 30) (hr : rw_ok (I 317) c j) : CT G w gl (yX11_canDo, cX11_canDo, 4, some .boolean) 3 (0, 0) [.ref 312, .int (nI (j * 6))] I (qE (b2 (s_can (I 313) (I 317) j)) I) nX := by
  refine ct_of (by decide) [(0, .ref 312), (1, .int (nI (j * 6)))] rfl rfl (fun K hG hw hgl hwo hK => ?_)
  subst hG; subst hw; subst hgl
  have hn := hf.2.1
  obtain ⟨cmd, h5, ec, -, -, -⟩ := hr
  have ei : ∀ i : Nat, nI (j * 6) + nI i = nI (j * 6 + i) := fun i => nI_add _ _
  have e1 := ei 1
  have e2 := ei 2
  have e3 := ei 3
  have e4 := ei 4
  have e5 := ei 5
  have hv : ∀ i, i ≤ 5 → vp_in (nI (j * 6 + i)) 180 := fun i hi => vp_in_nI (by omega) (by omega)
  have cl : ∀ i, i ≤ 5 → (nI (j * 6 + i)).toNatClampNeg = j * 6 + i := fun i hi => nI_clamp (by omega)
  have cl0 : (nI (j * 6)).toNatClampNeg = j * 6 := nI_clamp (by omega)
  have ex : ∀ k : Nat, k < 6 → ((I 317 (j * 6)).toInt = k ↔ I 317 (j * 6) = nI k) := fun k hk => i_toInt (by omega)
  have x0 : (I 317 (j * 6)).toInt = 0 ↔ I 317 (j * 6) = 0 := ex 0 (by omega)
  have x1 : (I 317 (j * 6)).toInt = 1 ↔ I 317 (j * 6) = 1 := ex 1 (by omega)
  have x2 : (I 317 (j * 6)).toInt = 2 ↔ I 317 (j * 6) = 2 := ex 2 (by omega)
  have x3 : (I 317 (j * 6)).toInt = 3 ↔ I 317 (j * 6) = 3 := ex 3 (by omega)
  have x4 : (I 317 (j * 6)).toInt = 4 ↔ I 317 (j * 6) = 4 := ex 4 (by omega)
  have hcm : (I 317 (j * 6)).toInt = cmd := by rw [ec]; exact nI_toInt (by omega)
  have nz : ∀ (k : Nat), k < 6 → cmd ≠ k → ¬ I 317 (j * 6) = nI k := fun k hk h z => h ((nI_eq (by omega) (by omega)).mp (ec.symm.trans z))
  have nz0 : cmd ≠ 0 → ¬ I 317 (j * 6) = 0 := nz 0 (by omega)
  have nz1 : cmd ≠ 1 → ¬ I 317 (j * 6) = 1 := nz 1 (by omega)
  have nz2 : cmd ≠ 2 → ¬ I 317 (j * 6) = 2 := nz 2 (by omega)
  have nz3 : cmd ≠ 3 → ¬ I 317 (j * 6) = 3 := nz 3 (by omega)
  have nz4 : cmd ≠ 4 → ¬ I 317 (j * 6) = 4 := nz 4 (by omega)
  refine bX11_canDo_0 (f5 := b2 (s_has (I 317 (j * 6 + 1)) (I 313 8))) (g5 := I) (f8 := b2 (s_open (I 313) (I 317 (j * 6 + 1)).toNatClampNeg)) (g8 := I) (f15 := b2 (s_data (I 317 (j * 6 + 2)) (I 317 (j * 6 + 3)) (I 317 (j * 6 + 4)) (I 317 (j * 6 + 5)))) (g15 := I) (f19 := b2 (s_canAdd (I 313) (I 317 (j * 6 + 3)))) (g19 := I) (f23 := b2 (s_in (I 317 (j * 6 + 1)) 1 300)) (g23 := I) (f32 := b2 (s_has (I 317 (j * 6 + 1)) (I 313 8))) (g32 := I) (f35 := b2 (s_in (I 317 (j * 6 + 2)) 1 999)) (g35 := I) (f39 := b2 (s_has (I 317 (j * 6 + 1)) (I 313 8))) (g39 := I) hK hwo hm ?_ ?_ ?_ ?_ ?_ ?_ ?_ ?_ ?_ ?_ ?_ ?_ ?_ ?_ ?_ ?_ ?_ ?_ ?_ ?_ ?_ ?_ ?_ ?_ ?_ ?_ ?_ ?_ ?_ ?_ ?_ ?_ <;> (try rw [show (nI (j * 6) + 1 : Int32) = nI (j * 6 + 1) from e1]) <;> (try rw [show (nI (j * 6) + 2 : Int32) = nI (j * 6 + 2) from e2]) <;> (try rw [show (nI (j * 6) + 3 : Int32) = nI (j * 6 + 3) from e3]) <;> (try rw [show (nI (j * 6) + 4 : Int32) = nI (j * 6 + 4) from e4]) <;> (try rw [show (nI (j * 6) + 5 : Int32) = nI (j * 6 + 5) from e5]) <;> (try rw [cl0]) <;> (try rw [cl 1 (by omega)]) <;> (try rw [cl 2 (by omega)]) <;> (try rw [cl 3 (by omega)]) <;> (try rw [cl 4 (by omega)]) <;> (try rw [cl 5 (by omega)])
  · exact hv 1 (by omega)
  · exact hv 2 (by omega)
  · exact vp_in_nI (by omega) (by omega)
  · exact fun _ => m_isLetter hm hf.1 hn
  · intro q d
    refine qE_i ?_ rfl
    have : cmd = 5 := by omega
    unfold s_can
    rw [if_neg (nz0 (by omega)), if_neg (nz1 (by omega)), if_neg (nz2 (by omega)), if_neg (nz3 (by omega)), if_neg (nz4 (by omega)), b2_0.mp d]; rfl
  · intro q d
    obtain ⟨l, hl, el⟩ := has_nat hf.1 (by omega) (b2_n0.mp d)
    rw [el, nI_clamp (by omega)]; exact m_isOpen hm (by omega)
  · intro q d e
    refine qE_i ?_ rfl
    have : cmd = 5 := by omega
    unfold s_can
    rw [if_neg (nz0 (by omega)), if_neg (nz1 (by omega)), if_neg (nz2 (by omega)), if_neg (nz3 (by omega)), if_neg (nz4 (by omega)), b2_n0.mp d, b2_0.mp e]; rfl
  · intro q d e
    refine qE_i ?_ rfl
    have : cmd = 5 := by omega
    unfold s_can
    rw [if_neg (nz0 (by omega)), if_neg (nz1 (by omega)), if_neg (nz2 (by omega)), if_neg (nz3 (by omega)), if_neg (nz4 (by omega)), b2_n0.mp d, b2_n0.mp e]; rfl
  · exact fun _ => hv 3 (by omega)
  · exact fun _ => hv 4 (by omega)
  · exact fun _ => hv 5 (by omega)
  · exact fun _ => m_isData hm
  · intro q d
    refine qE_i ?_ rfl
    unfold s_can
    rw [if_pos (x0.mp q), b2_0.mp d]; rfl
  · exact fun _ _ => hv 3 (by omega)
  · exact fun _ _ => m_canAdd hm
  · intro q d e
    refine qE_i ?_ rfl
    unfold s_can
    rw [if_pos (x0.mp q), b2_n0.mp d, b2_0.mp e]; rfl
  · intro q d e
    refine qE_i ?_ rfl
    unfold s_can
    rw [if_pos (x0.mp q), b2_n0.mp d, b2_n0.mp e]; rfl
  · exact fun _ => m_in
  · intro q d
    refine qE_i ?_ rfl
    have : cmd = 1 := by omega
    unfold s_can
    rw [if_neg (nz0 (by omega)), if_pos (x1.mp q), b2_0.mp d]; rfl
  · intro q d e
    refine qE_i ?_ rfl
    have : cmd = 1 := by omega
    unfold s_can
    rw [if_neg (nz0 (by omega)), if_pos (x1.mp q), b2_n0.mp d, decide_eq_false (Int32.not_le.mpr e)]; rfl
  · intro q d e
    refine qE_i ?_ rfl
    have : cmd = 1 := by omega
    unfold s_can
    rw [if_neg (nz0 (by omega)), if_pos (x1.mp q), b2_n0.mp d, decide_eq_true (Int32.not_lt.mp e)]; rfl
  · intro q e
    refine qE_i ?_ rfl
    have : cmd = 2 := by omega
    unfold s_can
    rw [if_neg (nz0 (by omega)), if_neg (nz1 (by omega)), if_pos (x2.mp q), decide_eq_false (Int32.not_le.mpr e)]; rfl
  · intro q e
    refine qE_i ?_ rfl
    have : cmd = 2 := by omega
    unfold s_can
    rw [if_neg (nz0 (by omega)), if_neg (nz1 (by omega)), if_pos (x2.mp q), decide_eq_true (Int32.not_lt.mp e)]; rfl
  · exact fun _ => m_isLetter hm hf.1 hn
  · intro q d
    refine qE_i ?_ rfl
    have : cmd = 3 := by omega
    unfold s_can
    rw [if_neg (nz0 (by omega)), if_neg (nz1 (by omega)), if_neg (nz2 (by omega)), if_pos (x3.mp q), b2_0.mp d]; rfl
  · exact fun _ _ => m_in
  · intro q d e
    refine qE_i ?_ rfl
    have : cmd = 3 := by omega
    unfold s_can
    rw [if_neg (nz0 (by omega)), if_neg (nz1 (by omega)), if_neg (nz2 (by omega)), if_pos (x3.mp q), b2_n0.mp d, b2_0.mp e]; rfl
  · intro q d e
    refine qE_i ?_ rfl
    have : cmd = 3 := by omega
    unfold s_can
    rw [if_neg (nz0 (by omega)), if_neg (nz1 (by omega)), if_neg (nz2 (by omega)), if_pos (x3.mp q), b2_n0.mp d, b2_n0.mp e]; rfl
  · exact fun _ => m_isLetter hm hf.1 hn
  · intro q d
    refine qE_i ?_ rfl
    have : cmd = 4 := by omega
    unfold s_can
    rw [if_neg (nz0 (by omega)), if_neg (nz1 (by omega)), if_neg (nz2 (by omega)), if_neg (nz3 (by omega)), if_pos (x4.mp q), b2_0.mp d]; rfl
  · intro q d e
    refine qE_i ?_ rfl
    have : cmd = 4 := by omega
    unfold s_can
    rw [if_neg (nz0 (by omega)), if_neg (nz1 (by omega)), if_neg (nz2 (by omega)), if_neg (nz3 (by omega)), if_pos (x4.mp q), b2_n0.mp d, decide_eq_false (Int32.not_le.mpr e)]; rfl
  · intro q d e
    refine qE_i ?_ rfl
    have : cmd = 4 := by omega
    unfold s_can
    rw [if_neg (nz0 (by omega)), if_neg (nz1 (by omega)), if_neg (nz2 (by omega)), if_neg (nz3 (by omega)), if_pos (x4.mp q), b2_n0.mp d, decide_eq_true (Int32.not_lt.mp e)]; rfl
theorem m_doIt (hm : isT w 11 312) {n c t j : Nat} (hf : s_wf (I 313) n c t) (ht : t ≤ 2000) (hj : j < 30) (hr : rw_ok (I 317) c j) (hc : s_can (I 313) (I 317) j = true) : CT G w gl (yX11_doIt, cX11_doIt, 4, none) 9 (0, 0) [.ref 312, .int (nI (j * 6))] I (qV (fun J => J = ups I 313 (s_doit (I 313) (I 317) j))) nX := by
  refine ct_of (by decide) [(0, .ref 312), (1, .int (nI (j * 6)))] rfl rfl (fun K hG hw hgl hwo hK => ?_)
  subst hG; subst hw; subst hgl
  have hn := hf.2.1
  have e8 := wf_8 hf
  obtain ⟨cmd, h5, ec, r0, r1, r3⟩ := hr
  have ei : ∀ i : Nat, nI (j * 6) + nI i = nI (j * 6 + i) := fun i => nI_add _ _
  have e1 := ei 1
  have e2 := ei 2
  have e3 := ei 3
  have e4 := ei 4
  have e5 := ei 5
  have hv : ∀ i, i ≤ 5 → vp_in (nI (j * 6 + i)) 180 := fun i hi => vp_in_nI (by omega) (by omega)
  have cl : ∀ i, i ≤ 5 → (nI (j * 6 + i)).toNatClampNeg = j * 6 + i := fun i hi => nI_clamp (by omega)
  have cl0 : (nI (j * 6)).toNatClampNeg = j * 6 := nI_clamp (by omega)
  have ex : ∀ k : Nat, k < 6 → ((I 317 (j * 6)).toInt = k ↔ I 317 (j * 6) = nI k) := fun k hk => i_toInt (by omega)
  have x0 : (I 317 (j * 6)).toInt = 0 ↔ I 317 (j * 6) = 0 := ex 0 (by omega)
  have x1 : (I 317 (j * 6)).toInt = 1 ↔ I 317 (j * 6) = 1 := ex 1 (by omega)
  have x2 : (I 317 (j * 6)).toInt = 2 ↔ I 317 (j * 6) = 2 := ex 2 (by omega)
  have x3 : (I 317 (j * 6)).toInt = 3 ↔ I 317 (j * 6) = 3 := ex 3 (by omega)
  have x4 : (I 317 (j * 6)).toInt = 4 ↔ I 317 (j * 6) = 4 := ex 4 (by omega)
  have hcm : (I 317 (j * 6)).toInt = cmd := by rw [ec]; exact nI_toInt (by omega)
  have nz : ∀ (k : Nat), k < 6 → cmd ≠ k → ¬ I 317 (j * 6) = nI k := fun k hk h z => h ((nI_eq (by omega) (by omega)).mp (ec.symm.trans z))
  have nz0 : cmd ≠ 0 → ¬ I 317 (j * 6) = 0 := nz 0 (by omega)
  have nz1 : cmd ≠ 1 → ¬ I 317 (j * 6) = 1 := nz 1 (by omega)
  have nz2 : cmd ≠ 2 → ¬ I 317 (j * 6) = 2 := nz 2 (by omega)
  have nz3 : cmd ≠ 3 → ¬ I 317 (j * 6) = 3 := nz 3 (by omega)
  have nz4 : cmd ≠ 4 → ¬ I 317 (j * 6) = 4 := nz 4 (by omega)
  have fin : ∀ B, s_doit (I 313) (I 317) j = B → qV (fun J => J = ups I 313 (s_doit (I 313) (I 317) j)) none (ups I 313 B) := fun B e => by rw [e]; exact qV_i rfl
  have hlet : cmd = 3 ∨ cmd = 4 ∨ cmd = 5 → ∃ l, l < n ∧ I 317 (j * 6 + 1) = nI l := fun h => by
    have hx : s_has (I 317 (j * 6 + 1)) (I 313 8) = true := by
      unfold s_can at hc
      rw [if_neg (nz0 (by omega)), if_neg (nz1 (by omega)), if_neg (nz2 (by omega))] at hc
      by_cases z3 : I 317 (j * 6) = 3
      · rw [if_pos z3, Bool.and_eq_true] at hc; exact hc.1
      rw [if_neg z3] at hc
      by_cases z4 : I 317 (j * 6) = 4
      · rw [if_pos z4, Bool.and_eq_true] at hc; exact hc.1
      rw [if_neg z4, Bool.and_eq_true] at hc; exact hc.1
    exact has_nat hf.1 (by omega) hx
  refine bX11_doIt_0 (f5 := s_of (I 313) (I 317 (j * 6 + 1)).toNatClampNeg 5) (g5 := ups I 313 (s_drop (I 313) (I 317 (j * 6 + 1)).toNatClampNeg)) (f10 := nI n) (g10 := ups I 313 (s_add (I 313) n (I 317 (j * 6 + 1)) (I 317 (j * 6 + 2)) (I 313 9 + I 317 (j * 6 + 3)) (I 317 (j * 6 + 4)) (I 317 (j * 6 + 5)))) (f12 := nI (s_cnt (s_done (s_mins (I 313) n (I 317 (j * 6 + 1)).toNatClampNeg)) n) - nI (s_cnt (s_done (I 313)) n)) (g12 := ups I 313 (s_mins (I 313) n (I 317 (j * 6 + 1)).toNatClampNeg)) (g15 := ups I 313 (s_set (I 313) (I 317 (j * 6 + 1)).toNatClampNeg 3 (I 317 (j * 6 + 2)))) (g17 := ups I 313 (s_set (I 313) (I 317 (j * 6 + 1)).toNatClampNeg 4 (I 317 (j * 6 + 2)))) hK hwo hm ?_ ?_ ?_ ?_ ?_ ?_ ?_ ?_ ?_ ?_ ?_ ?_ ?_ ?_ ?_ ?_ ?_ <;> (try rw [show (nI (j * 6) + 1 : Int32) = nI (j * 6 + 1) from e1]) <;> (try rw [show (nI (j * 6) + 2 : Int32) = nI (j * 6 + 2) from e2]) <;> (try rw [show (nI (j * 6) + 3 : Int32) = nI (j * 6 + 3) from e3]) <;> (try rw [show (nI (j * 6) + 4 : Int32) = nI (j * 6 + 4) from e4]) <;> (try rw [show (nI (j * 6) + 5 : Int32) = nI (j * 6 + 5) from e5]) <;> (try rw [cl0]) <;> (try rw [cl 1 (by omega)]) <;> (try rw [cl 2 (by omega)]) <;> (try rw [cl 3 (by omega)]) <;> (try rw [cl 4 (by omega)]) <;> (try rw [cl 5 (by omega)])
  · exact hv 1 (by omega)
  · exact hv 2 (by omega)
  · exact vp_in_nI (by omega) (by omega)
  · intro q
    obtain ⟨l, hl, el⟩ := hlet (by omega)
    rw [el, nI_clamp (by omega)]; exact m_throwAway hm (by omega)
  · intro q
    refine fin _ ?_
    unfold s_doit
    rw [if_neg (nz0 (by omega)), if_neg (nz1 (by omega)), if_neg (nz2 (by omega)), if_neg (nz3 (by omega)), if_neg (nz4 (by omega))]
  · exact fun _ => hv 3 (by omega)
  · exact fun _ => hv 4 (by omega)
  · exact fun _ => hv 5 (by omega)
  · intro q
    have hlt : n < 12 := by
      unfold s_can at hc
      rw [if_pos (x0.mp q), Bool.and_eq_true] at hc
      have h := hc.2
      unfold s_canAdd at h
      rw [Bool.and_eq_true, hf.1] at h
      exact (nI_ltI (a := n) (b := 12) (by omega) (by omega)).mp (of_decide_eq_true h.1)
    exact m_add hm hf.1 hlt
  · intro q
    refine fin _ ?_
    unfold s_doit
    rw [if_pos (x0.mp q), e8]
  · intro q
    obtain ⟨v, hv, ev⟩ := r1 (by omega)
    rw [ev, nI_clamp (by omega)]
    exact m_passMinutes hm hf (by omega)
  · intro q
    refine fin _ ?_
    unfold s_doit
    rw [if_neg (nz0 (by omega)), if_pos (x1.mp q), e8]
  · intro q
    rw [up_def]
    refine fin _ ?_
    unfold s_doit
    rw [if_neg (nz0 (by omega)), if_neg (nz1 (by omega)), if_pos (x2.mp q)]
  · intro q
    obtain ⟨l, hl, el⟩ := hlet (by omega)
    rw [el, nI_clamp (by omega)]; exact m_set (f := 3) hm (by omega) (by omega)
  · intro q
    refine fin _ ?_
    unfold s_doit
    rw [if_neg (nz0 (by omega)), if_neg (nz1 (by omega)), if_neg (nz2 (by omega)), if_pos (x3.mp q)]
  · intro q
    obtain ⟨l, hl, el⟩ := hlet (by omega)
    rw [el, nI_clamp (by omega)]; exact m_set (f := 4) hm (by omega) (by omega)
  · intro q
    refine fin _ ?_
    unfold s_doit
    rw [if_neg (nz0 (by omega)), if_neg (nz1 (by omega)), if_neg (nz2 (by omega)), if_neg (nz3 (by omega)), if_pos (x4.mp q)]
end RRU
