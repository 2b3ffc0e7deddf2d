/-! THE LAW'S CASES: changes (written by wip/gen) -/
theorem add_hi {B : zBk} {n k : Nat} {x1 x2 x3 x4 x5 : Int32} (hn : n < 12) (h : 160 ≤ k) : s_add B n x1 x2 x3 x4 x5 k = B k := by
  unfold s_add s_set
  rw [upd_ne _ _ (by omega), upd_ne _ _ (by omega), upd_ne _ _ (by omega), upd_ne _ _ (by omega), upd_ne _ _ (by omega), upd_ne _ _ (by omega), upd_ne _ _ (by omega), upd_ne _ _ (by omega), upd_ne _ _ (by omega)]
theorem s1 : ¬ sA = sI := by decide +kernel
theorem s2 : ¬ sS = sI := by decide +kernel
theorem s3 : ¬ sS = sA := by decide +kernel
theorem cX_of {f : Nat} {I : zM} {E : String} {J : zM} (h : cX f I E J) (hf : f ≠ 1003 → f = 1000 ∨ f = 1001 ∨ f = 1002) : (f = 1000 ∧ E = sI) ∨ (f = 1001 ∧ E = sA) ∨ (f = 1002 ∧ E = sS) := by
  obtain ⟨h1, h2, -⟩ := h
  rcases hf h1 with rfl | rfl | rfl
  · exact Or.inl ⟨rfl, h2⟩
  · exact Or.inr (Or.inl ⟨rfl, h2⟩)
  · exact Or.inr (Or.inr ⟨rfl, h2⟩)
/-- the number of a refusal on both sides -/
theorem k_add {B : zBk} {x1 x2 x3 x4 x5 : Int32} {k : Nat} (hk : k = if s_has x1 (B 7) = true then (if s_data x2 x3 x4 x5 = true then (if s_canAdd B x3 = true then 0 else 3) else 2) else 1) : (ff_add B x1 x2 x3 x4 x5 = 1003 → k = 0) ∧ (ff_add B x1 x2 x3 x4 x5 ≠ 1003 → (if fE (ff_add B x1 x2 x3 x4 x5) = sI then (1 : Int32) else if fE (ff_add B x1 x2 x3 x4 x5) = sA then 2 else if fE (ff_add B x1 x2 x3 x4 x5) = sS then 3 else 0) = nI k ∧ k ≠ 0 ∧ k ≤ 3) := by
  subst hk
  unfold ff_add
  by_cases a : s_has x1 (B 7) = true
  · rw [if_pos a, if_pos a]
    by_cases b : s_data x2 x3 x4 x5 = true
    · rw [if_pos b, if_pos b]
      by_cases d : s_canAdd B x3 = true
      · rw [if_pos d, if_pos d]; exact ⟨fun _ => rfl, fun z => absurd rfl z⟩
      · rw [if_neg d, if_neg d]
        refine ⟨fun z => absurd z (by decide), fun _ => ⟨?_, by decide, by decide⟩⟩
        rw [show fE 1002 = sS from rfl, if_neg s2, if_neg s3, if_pos rfl]; rfl
    · rw [if_neg b, if_neg b]
      refine ⟨fun z => absurd z (by decide), fun _ => ⟨?_, by decide, by decide⟩⟩
      rw [show fE 1001 = sA from rfl, if_neg s1, if_pos rfl]; rfl
  · rw [if_neg a, if_neg a]
    refine ⟨fun z => absurd z (by decide), fun _ => ⟨?_, by decide, by decide⟩⟩
    rw [show fE 1000 = sI from rfl, if_pos rfl]; rfl
theorem k_pass {B : zBk} {x : Int32} {k : Nat} (hk : k = if s_in x 1 300 = true then (if B 9 + x ≤ 2000 then 0 else 2) else 1) : (ff_pass B x = 1003 → k = 0) ∧ (ff_pass B x ≠ 1003 → (if fE (ff_pass B x) = sA then (1 : Int32) else if fE (ff_pass B x) = sS then 2 else 0) = nI k ∧ k ≠ 0 ∧ k ≤ 3) := by
  subst hk
  unfold ff_pass
  by_cases a : s_in x 1 300 = true
  · rw [if_pos a, if_pos a]
    by_cases b : B 9 + x ≤ 2000
    · rw [if_pos b, if_pos b]; exact ⟨fun _ => rfl, fun z => absurd rfl z⟩
    · rw [if_neg b, if_neg b]
      refine ⟨fun z => absurd z (by decide), fun _ => ⟨?_, by decide, by decide⟩⟩
      rw [show fE 1002 = sS from rfl, if_neg s3, if_pos rfl]; rfl
  · rw [if_neg a, if_neg a]
    refine ⟨fun z => absurd z (by decide), fun _ => ⟨?_, by decide, by decide⟩⟩
    rw [show fE 1001 = sA from rfl, if_pos rfl]; rfl
theorem k_pol {x : Int32} {k : Nat} (hk : k = if s_in x 0 4 = true then 0 else 1) : (ff_pol x = 1003 → k = 0) ∧ (ff_pol x ≠ 1003 → (if fE (ff_pol x) = sA then (1 : Int32) else 0) = nI k ∧ k ≠ 0 ∧ k ≤ 3) := by
  subst hk
  unfold ff_pol
  by_cases a : s_in x 0 4 = true
  · rw [if_pos a, if_pos a]; exact ⟨fun _ => rfl, fun z => absurd rfl z⟩
  · rw [if_neg a, if_neg a]
    refine ⟨fun z => absurd z (by decide), fun _ => ⟨?_, by decide, by decide⟩⟩
    rw [show fE 1001 = sA from rfl, if_pos rfl]; rfl
theorem k_num {B : zBk} {x y lo hi : Int32} {k : Nat} (hk : k = if s_has x (B 8) = true then (if s_in y lo hi = true then 0 else 2) else 1) : (ff_num B x y lo hi = 1003 → k = 0) ∧ (ff_num B x y lo hi ≠ 1003 → (if fE (ff_num B x y lo hi) = sI then (1 : Int32) else if fE (ff_num B x y lo hi) = sA then 2 else 0) = nI k ∧ k ≠ 0 ∧ k ≤ 3) := by
  subst hk
  unfold ff_num
  by_cases a : s_has x (B 8) = true
  · rw [if_pos a, if_pos a]
    by_cases b : s_in y lo hi = true
    · rw [if_pos b, if_pos b]; exact ⟨fun _ => rfl, fun z => absurd rfl z⟩
    · rw [if_neg b, if_neg b]
      refine ⟨fun z => absurd z (by decide), fun _ => ⟨?_, by decide, by decide⟩⟩
      rw [show fE 1001 = sA from rfl, if_neg s1, if_pos rfl]; rfl
  · rw [if_neg a, if_neg a]
    refine ⟨fun z => absurd z (by decide), fun _ => ⟨?_, by decide, by decide⟩⟩
    rw [show fE 1000 = sI from rfl, if_pos rfl]; rfl
theorem k_ext {B : zBk} {x y : Int32} {k : Nat} (hk : k = if s_has x (B 8) = true then (if s_in y 1 29 = true then (if s_done B x.toNatClampNeg = true ∨ ¬ s_of B x.toNatClampNeg 1 + y ≤ 30 then 3 else 0) else 2) else 1) : (ff_ext B x y = 1003 → k = 0) ∧ (ff_ext B x y ≠ 1003 → (if fE (ff_ext B x y) = sI then (1 : Int32) else if fE (ff_ext B x y) = sA then 2 else if fE (ff_ext B x y) = sS then 3 else 0) = nI k ∧ k ≠ 0 ∧ k ≤ 3) := by
  subst hk
  unfold ff_ext
  by_cases a : s_has x (B 8) = true
  · rw [if_pos a, if_pos a]
    by_cases b : s_in y 1 29 = true
    · rw [if_pos b, if_pos b]
      by_cases d : s_done B x.toNatClampNeg = true ∨ ¬ s_of B x.toNatClampNeg 1 + y ≤ 30
      · rw [if_pos d, if_pos d]
        refine ⟨fun z => absurd z (by decide), fun _ => ⟨?_, by decide, by decide⟩⟩
        rw [show fE 1002 = sS from rfl, if_neg s2, if_neg s3, if_pos rfl]; rfl
      · rw [if_neg d, if_neg d]; exact ⟨fun _ => rfl, fun z => absurd rfl z⟩
    · rw [if_neg b, if_neg b]
      refine ⟨fun z => absurd z (by decide), fun _ => ⟨?_, by decide, by decide⟩⟩
      rw [show fE 1001 = sA from rfl, if_neg s1, if_pos rfl]; rfl
  · rw [if_neg a, if_neg a]
    refine ⟨fun z => absurd z (by decide), fun _ => ⟨?_, by decide, by decide⟩⟩
    rw [show fE 1000 = sI from rfl, if_pos rfl]; rfl
theorem k_dis {B : zBk} {x : Int32} {k : Nat} (hk : k = if s_has x (B 8) = true then (if s_open B x.toNatClampNeg = true then 0 else 2) else 1) : (ff_dis B x = 1003 → k = 0) ∧ (ff_dis B x ≠ 1003 → (if fE (ff_dis B x) = sI then (1 : Int32) else if fE (ff_dis B x) = sS then 2 else 0) = nI k ∧ k ≠ 0 ∧ k ≤ 3) := by
  subst hk
  unfold ff_dis
  by_cases a : s_has x (B 8) = true
  · rw [if_pos a, if_pos a]
    by_cases b : s_open B x.toNatClampNeg = true
    · rw [if_pos b, if_pos b]; exact ⟨fun _ => rfl, fun z => absurd rfl z⟩
    · rw [if_neg b, if_neg b]
      refine ⟨fun z => absurd z (by decide), fun _ => ⟨?_, by decide, by decide⟩⟩
      rw [show fE 1002 = sS from rfl, if_neg s2, if_pos rfl]; rfl
  · rw [if_neg a, if_neg a]
    refine ⟨fun z => absurd z (by decide), fun _ => ⟨?_, by decide, by decide⟩⟩
    rw [show fE 1000 = sI from rfl, if_pos rfl]; rfl
/-- the faults of like offices -/
theorem ff_eq {B C : zBk} {n c t : Nat} (hf : s_wf B n c t) (h : s_eq n B C) : (∀ x1 x2 x3 x4 x5, ff_add C x1 x2 x3 x4 x5 = ff_add B x1 x2 x3 x4 x5) ∧ (∀ x, ff_pass C x = ff_pass B x) ∧ (∀ x y lo hi, ff_num C x y lo hi = ff_num B x y lo hi) ∧ (∀ x y, ff_ext C x y = ff_ext B x y) ∧ ∀ x, ff_dis C x = ff_dis B x := by
  have hn := hf.2.1
  refine ⟨fun x1 x2 x3 x4 x5 => ?_, fun x => ?_, fun x y lo hi => ?_, fun x y => ?_, fun x => ?_⟩
  · unfold ff_add s_canAdd
    rw [h.1 7 (by omega), h.1 8 (by omega), h.1 9 (by omega)]
  · unfold ff_pass
    rw [h.1 9 (by omega)]
  · unfold ff_num
    rw [h.1 8 (by omega)]
  · unfold ff_ext
    rw [h.1 8 (by omega)]
    by_cases q : s_has x (B 8) = true
    · obtain ⟨l, hl, ex⟩ := has_nat hf.1 (by omega) q
      rw [if_pos q, if_pos q, ex, nI_clamp (by omega), eq_done h hl, h.2 l hl 1 (by omega)]
    · rw [if_neg q, if_neg q]
  · unfold ff_dis
    rw [h.1 8 (by omega)]
    by_cases q : s_has x (B 8) = true
    · obtain ⟨l, hl, ex⟩ := has_nat hf.1 (by omega) q
      rw [if_pos q, if_pos q, ex, nI_clamp (by omega), eq_open h hl]
    · rw [if_neg q, if_neg q]
theorem pass_nat {B : zBk} {n c t : Nat} {x : Int32} (hf : s_wf B n c t) (q : ff_pass B x = 1003) : ∃ v, v ≤ 300 ∧ x = nI v ∧ t + v ≤ 2000 := by
  have ht := hf.2.2.2.2.2.2.2.2.2.2.2
  unfold ff_pass at q
  by_cases a : s_in x 1 300 = true
  · rw [if_pos a] at q
    by_cases b : B 9 + x ≤ 2000
    · obtain ⟨p1, p2⟩ := in_le a
      obtain ⟨v, hv, ev⟩ := i_of (M := 300) (n := 300) (by decide) (Int32.le_trans (by decide) p1) p2
      rw [wf_9 hf, ev, nI_add] at b
      exact ⟨v, hv, ev, (nI_leI (a := t + v) (b := 2000) (by omega) (by omega)).mp b⟩
    · rw [if_neg b] at q; exact absurd q (by decide)
  · rw [if_neg a] at q; exact absurd q (by decide)
theorem num_nat {B : zBk} {n c t : Nat} {x y lo hi : Int32} (hf : s_wf B n c t) (q : ff_num B x y lo hi = 1003) : ∃ l, l < n ∧ x = nI l ∧ s_in y lo hi = true := by
  have hn := hf.2.1
  unfold ff_num at q
  by_cases a : s_has x (B 8) = true
  · rw [if_pos a] at q
    by_cases b : s_in y lo hi = true
    · obtain ⟨l, hl, ex⟩ := has_nat hf.1 (by omega) a
      exact ⟨l, hl, ex, b⟩
    · rw [if_neg b] at q; exact absurd q (by decide)
  · rw [if_neg a] at q; exact absurd q (by decide)
theorem ext_nat {B : zBk} {n c t : Nat} {x y : Int32} (hf : s_wf B n c t) (q : ff_ext B x y = 1003) : ∃ l, l < n ∧ x = nI l ∧ s_in y 1 29 = true ∧ s_done B l = false ∧ s_of B l 1 + y ≤ 30 := by
  have hn := hf.2.1
  unfold ff_ext at q
  by_cases a : s_has x (B 8) = true
  · rw [if_pos a] at q
    by_cases b : s_in y 1 29 = true
    · rw [if_pos b] at q
      obtain ⟨l, hl, ex⟩ := has_nat hf.1 (by omega) a
      rw [ex, nI_clamp (by omega)] at q
      by_cases d : s_done B l = true ∨ ¬ s_of B l 1 + y ≤ 30
      · rw [if_pos d] at q; exact absurd q (by decide)
      · refine ⟨l, hl, ex, b, ?_, Decidable.not_not.mp (fun z => d (Or.inr z))⟩
        cases e : s_done B l with
        | false => rfl
        | true => exact absurd (Or.inl e) d
    · rw [if_neg b] at q; exact absurd q (by decide)
  · rw [if_neg a] at q; exact absurd q (by decide)
theorem dis_nat {B : zBk} {n c t : Nat} {x : Int32} (hf : s_wf B n c t) (q : ff_dis B x = 1003) : ∃ l, l < n ∧ x = nI l ∧ s_open B l = true := by
  have hn := hf.2.1
  unfold ff_dis at q
  by_cases a : s_has x (B 8) = true
  · rw [if_pos a] at q
    obtain ⟨l, hl, ex⟩ := has_nat hf.1 (by omega) a
    rw [ex, nI_clamp (by omega)] at q
    by_cases d : s_open B l = true
    · exact ⟨l, hl, ex, d⟩
    · rw [if_neg d] at q; exact absurd q (by decide)
  · rw [if_neg a] at q; exact absurd q (by decide)
section CSC
variable {K : zK} {b L : Nat} {xs : Nat → Int32} {Z : lZ} {u : Nat × Nat} {I : zM} {i : Int32}

/-- addLetter -/
theorem st_51 (hK : zKl K b L xs Z) (hw : kw K = (0, 320)) (v1 : vp_in (i + 1) L) (v2 : vp_in (i + 2) L) (v3 : vp_in (i + 3) L) (v4 : vp_in (i + 4) L) (v5 : vp_in (i + 5) L) (hu : u.1 + 2 ≤ 601024 ∧ u.2 + 12 ≤ 7293034) (h : Rel I) (kN : ∀ (mc : Nat × Nat) (J : zM), mc.1 ≤ 2 → mc.2 ≤ 12 → Rel J → ZZ K (u.1 + mc.1, u.2 + mc.2) 2798 (lLc i) [] J) : ZZ K u 2053 (lLc i) [] I := by
  obtain ⟨hx, hm, ho, hs⟩ := rl hw
  obtain ⟨n, c, t, hO⟩ := Rel_O h
  have hn := hO.1.2.1
  have eq := hO.2.2.2.2.2.1
  obtain ⟨a, m, hH⟩ := Rel_H h
  have h2 : I 312 2 = nI m := hH.2.2.1
  have hm6 : m ≤ 6 := hH.2.1.2
  have hc6 := hO.1.2.2.2.2.1
  have hO2 : oR (s_rem (I 313) m) (vB I 288) (I 288 7) n c t := hO.cgB (fun k hk => rem_lo hk)
  have eq2 := hO2.2.2.2.2.2.1
  obtain ⟨f1, f2, f3, f4, f5⟩ := ff_eq hO.1 eq
  have hc := c_addLetter (G := kG K) (w := kw K) (gl := kl K) (x1 := (xs (i + 1).toNatClampNeg)) (x2 := (xs (i + 2).toNatClampNeg)) (x3 := (xs (i + 3).toNatClampNeg)) (x4 := (xs (i + 4).toNatClampNeg)) (x5 := (xs (i + 5).toNatClampNeg)) hx (kq_of hO hH) rfl
  rw [f1, eq.1 9 (by omega)] at hc
  generalize hk : (if s_has (xs (i + 1).toNatClampNeg) (I 313 7) = true then (if s_data (xs (i + 2).toNatClampNeg) (xs (i + 3).toNatClampNeg) (xs (i + 4).toNatClampNeg) (xs (i + 5).toNatClampNeg) = true then (if s_canAdd (I 313) (xs (i + 3).toNatClampNeg) = true then 0 else 3) else 2) else 1 : Nat) = k
  obtain ⟨k1, k2⟩ := k_add hk.symm
  exact lc_51 hK hx hm ho v1 rfl v2 rfl v3 rfl v4 rfl v5 rfl (wL_addLetter hx ho hc (fun _ _ z => qP_ex z) (fun _ _ z => by
      rcases cX_of z ff_add_in with ⟨q, e⟩ | ⟨q, e⟩ | ⟨q, e⟩
      · exact Or.inl e
      · exact Or.inr (Or.inl e)
      · exact Or.inr (Or.inr e))) (g_chg (k := k) (Q := fun J => ZZ K (u.1 + 1, u.2 + 6) 2798 (lLc i) [] J) h (fun J hJ => by
    have r := r_addLetter (G := kG K) (w := kw K) (gl := kl K) (I := J) (m := m) (x1 := (xs (i + 1).toNatClampNeg)) (x2 := (xs (i + 2).toNatClampNeg)) (x3 := (xs (i + 3).toNatClampNeg)) (x4 := (xs (i + 4).toNatClampNeg)) (x5 := (xs (i + 5).toNatClampNeg)) hm hn (by rw [hJ.2]; exact hO.1.1) (by rw [hJ.2]; exact hO.1.2.2.1) hc6 (by rw [hJ.1]; exact h2) hm6 (k := k) (by rw [hJ.2]; exact hk.symm)
    rw [hJ.2] at r
    exact r) (fun q => ⟨k1 q, rfl⟩) k2 (fun q z => by
    unfold ff_add at q
    by_cases a1 : s_has (xs (i + 1).toNatClampNeg) (I 313 7) = true
    · rw [if_pos a1] at q
      by_cases a2 : s_data (xs (i + 2).toNatClampNeg) (xs (i + 3).toNatClampNeg) (xs (i + 4).toNatClampNeg) (xs (i + 5).toNatClampNeg) = true
      · rw [if_pos a2] at q
        by_cases a3 : s_canAdd (I 313) (xs (i + 3).toNatClampNeg) = true
        · obtain ⟨x, hx9, ex⟩ := has_nat hO.1.2.2.1 (by omega) a1
          unfold s_data at a2
          unfold s_canAdd at a3
          rw [Bool.and_eq_true, Bool.and_eq_true, Bool.and_eq_true] at a2
          rw [Bool.and_eq_true, hO.1.1] at a3
          have hn12 : n < 12 := (nI_ltI (a := n) (b := 12) (by omega) (by omega)).mp (of_decide_eq_true a3.1)
          exact Rel_ch h hO hH (oR_add hO2 hn12 hx9 ex a2.1 a2.2.2.1) (fun k hk => add_hi hn12 hk)
        · rw [if_neg a3] at q; exact absurd q (by decide)
      · rw [if_neg a2] at q; exact absurd q (by decide)
    · rw [if_neg a1] at q; exact absurd q (by decide)) (fun J hJ => kN (1, 6) J (by decide) (by decide) hJ)) ⟨by show u.1 + 1 ≤ _; omega, by show u.2 + 6 ≤ _; omega⟩

/-- pass -/
theorem st_52 (hK : zKl K b L xs Z) (hw : kw K = (0, 320)) (v1 : vp_in (i + 1) L) (v2 : vp_in (i + 2) L) (v3 : vp_in (i + 3) L) (v4 : vp_in (i + 4) L) (v5 : vp_in (i + 5) L) (hu : u.1 + 2 ≤ 601024 ∧ u.2 + 12 ≤ 7293034) (h : Rel I) (kN : ∀ (mc : Nat × Nat) (J : zM), mc.1 ≤ 2 → mc.2 ≤ 12 → Rel J → ZZ K (u.1 + mc.1, u.2 + mc.2) 2798 (lLc i) [] J) : ZZ K u 2157 (lLc i) [] I := by
  obtain ⟨hx, hm, ho, hs⟩ := rl hw
  obtain ⟨n, c, t, hO⟩ := Rel_O h
  have hn := hO.1.2.1
  have eq := hO.2.2.2.2.2.1
  obtain ⟨a, m, hH⟩ := Rel_H h
  have h2 : I 312 2 = nI m := hH.2.2.1
  have hm6 : m ≤ 6 := hH.2.1.2
  have hc6 := hO.1.2.2.2.2.1
  have hO2 : oR (s_rem (I 313) m) (vB I 288) (I 288 7) n c t := hO.cgB (fun k hk => rem_lo hk)
  have eq2 := hO2.2.2.2.2.2.1
  obtain ⟨f1, f2, f3, f4, f5⟩ := ff_eq hO.1 eq
  have hc := c_pass (G := kG K) (w := kw K) (gl := kl K) (x := (xs (i + 1).toNatClampNeg)) hx (kq_of hO hH) rfl
  rw [f2] at hc
  generalize hk : (if s_in (xs (i + 1).toNatClampNeg) 1 300 = true then (if I 313 9 + (xs (i + 1).toNatClampNeg) ≤ 2000 then 0 else 2) else 1 : Nat) = k
  obtain ⟨k1, k2⟩ := k_pass hk.symm
  exact lc_52 hK hx hm ho v1 rfl (wL_pass hx ho hc (fun _ _ z => qP_ex z) (fun _ _ z => by
      rcases cX_of z ff_pass_in with ⟨q, e⟩ | ⟨q, e⟩ | ⟨q, e⟩
      · exact absurd q (fun q9 => by unfold ff_pass at q9; split at q9 <;> (try split at q9) <;> exact absurd q9 (by decide))
      · exact Or.inl e
      · exact Or.inr e)) (g_chg (k := k) (Q := fun J => ZZ K (u.1 + 1, u.2 + 6) 2798 (lLc i) [] J) h (fun J hJ => by
    have r := r_pass (G := kG K) (w := kw K) (gl := kl K) (I := J) (m := m) (x := (xs (i + 1).toNatClampNeg)) (n := n) (c := c) (t := t) hm (by rw [hJ.2]; exact hO.1) (by rw [hJ.2]; exact hO2.1) hO.2.1 (by rw [hJ.1]; exact h2) hm6 (k := k) (by rw [hJ.2]; exact hk.symm)
    rw [hJ.2] at r
    exact r) (fun q => ⟨k1 q, by
    have ht := hO.2.1
    obtain ⟨x, hx9, ex, -⟩ := pass_nat hO.1 q
    rw [ex, nI_clamp (by omega), cnt_eq (q := s_done) (r := s_done) (fun l hl => eq_done (eq_mins eq2 hO2.1 x (by omega)) hl), cnt_eq (q := s_done) (r := s_done) (fun l hl => eq_done eq2 hl)]⟩) k2 (fun q z => by
    obtain ⟨x, hx9, ex, ht⟩ := pass_nat hO.1 q
    rw [ex, nI_clamp (by omega)]
    exact Rel_ch h hO hH (oR_mins hO2 ht) (fun k hk => mins_far hO2.1 (Or.inr (by omega)) x (by omega))) (fun J hJ => kN (1, 6) J (by decide) (by decide) hJ)) ⟨by show u.1 + 1 ≤ _; omega, by show u.2 + 6 ≤ _; omega⟩

/-- setPolicy -/
theorem st_53 (hK : zKl K b L xs Z) (hw : kw K = (0, 320)) (v1 : vp_in (i + 1) L) (v2 : vp_in (i + 2) L) (v3 : vp_in (i + 3) L) (v4 : vp_in (i + 4) L) (v5 : vp_in (i + 5) L) (hu : u.1 + 2 ≤ 601024 ∧ u.2 + 12 ≤ 7293034) (h : Rel I) (kN : ∀ (mc : Nat × Nat) (J : zM), mc.1 ≤ 2 → mc.2 ≤ 12 → Rel J → ZZ K (u.1 + mc.1, u.2 + mc.2) 2798 (lLc i) [] J) : ZZ K u 2213 (lLc i) [] I := by
  obtain ⟨hx, hm, ho, hs⟩ := rl hw
  obtain ⟨n, c, t, hO⟩ := Rel_O h
  have hn := hO.1.2.1
  have eq := hO.2.2.2.2.2.1
  obtain ⟨a, m, hH⟩ := Rel_H h
  have h2 : I 312 2 = nI m := hH.2.2.1
  have hm6 : m ≤ 6 := hH.2.1.2
  have hc6 := hO.1.2.2.2.2.1
  have hO2 : oR (s_rem (I 313) m) (vB I 288) (I 288 7) n c t := hO.cgB (fun k hk => rem_lo hk)
  have eq2 := hO2.2.2.2.2.2.1
  obtain ⟨f1, f2, f3, f4, f5⟩ := ff_eq hO.1 eq
  have hc := c_setPolicy (G := kG K) (w := kw K) (gl := kl K) (x := (xs (i + 1).toNatClampNeg)) hx (kq_of hO hH) rfl
  generalize hk : (if s_in (xs (i + 1).toNatClampNeg) 0 4 = true then 0 else 1 : Nat) = k
  obtain ⟨k1, k2⟩ := k_pol hk.symm
  exact lc_53 hK hx hm ho v1 rfl (wL_setPolicy hx ho hc (fun _ _ z => qP_ex z) (fun _ _ z => by
      rcases cX_of z ff_pol_in with ⟨q, e⟩ | ⟨q, e⟩ | ⟨q, e⟩
      · exact absurd q (fun q9 => by unfold ff_pol at q9; split at q9 <;> exact absurd q9 (by decide))
      · exact e
      · exact absurd q (fun q9 => by unfold ff_pol at q9; split at q9 <;> exact absurd q9 (by decide)))) (g_chg (k := k) (Q := fun J => ZZ K (u.1 + 1, u.2 + 6) 2798 (lLc i) [] J) h (fun J hJ => by
    have r := r_setPolicy (G := kG K) (w := kw K) (gl := kl K) (I := J) (m := m) (x := (xs (i + 1).toNatClampNeg)) hm (by rw [hJ.1]; exact h2) hm6 (k := k) hk.symm
    rw [hJ.2] at r
    exact r) (fun q => ⟨k1 q, eq.1 0 (by omega)⟩) k2 (fun q z => by
    have a1 : s_in (xs (i + 1).toNatClampNeg) 0 4 = true := by
      unfold ff_pol at q
      by_cases a1 : s_in (xs (i + 1).toNatClampNeg) 0 4 = true
      · exact a1
      · rw [if_neg a1] at q; exact absurd q (by decide)
    exact Rel_ch h hO hH (oR_pol hO2 a1) (fun k hk => upd_ne _ _ (by omega))) (fun J hJ => kN (1, 6) J (by decide) (by decide) hJ)) ⟨by show u.1 + 1 ≤ _; omega, by show u.2 + 6 ≤ _; omega⟩

/-- setDeadline -/
theorem st_54 (hK : zKl K b L xs Z) (hw : kw K = (0, 320)) (v1 : vp_in (i + 1) L) (v2 : vp_in (i + 2) L) (v3 : vp_in (i + 3) L) (v4 : vp_in (i + 4) L) (v5 : vp_in (i + 5) L) (hu : u.1 + 2 ≤ 601024 ∧ u.2 + 12 ≤ 7293034) (h : Rel I) (kN : ∀ (mc : Nat × Nat) (J : zM), mc.1 ≤ 2 → mc.2 ≤ 12 → Rel J → ZZ K (u.1 + mc.1, u.2 + mc.2) 2798 (lLc i) [] J) : ZZ K u 2269 (lLc i) [] I := by
  obtain ⟨hx, hm, ho, hs⟩ := rl hw
  obtain ⟨n, c, t, hO⟩ := Rel_O h
  have hn := hO.1.2.1
  have eq := hO.2.2.2.2.2.1
  obtain ⟨a, m, hH⟩ := Rel_H h
  have h2 : I 312 2 = nI m := hH.2.2.1
  have hm6 : m ≤ 6 := hH.2.1.2
  have hc6 := hO.1.2.2.2.2.1
  have hO2 : oR (s_rem (I 313) m) (vB I 288) (I 288 7) n c t := hO.cgB (fun k hk => rem_lo hk)
  have eq2 := hO2.2.2.2.2.2.1
  obtain ⟨f1, f2, f3, f4, f5⟩ := ff_eq hO.1 eq
  have hc := c_setDeadline (G := kG K) (w := kw K) (gl := kl K) (x := (xs (i + 1).toNatClampNeg)) (y := (xs (i + 2).toNatClampNeg)) hx (kq_of hO hH) rfl
  rw [f3] at hc
  generalize hk : (if s_has (xs (i + 1).toNatClampNeg) (I 313 8) = true then (if s_in (xs (i + 2).toNatClampNeg) 1 999 = true then 0 else 2) else 1 : Nat) = k
  obtain ⟨k1, k2⟩ := k_num hk.symm
  exact lc_54 hK hx hm ho v1 rfl v2 rfl (wL_setDeadline hx ho hc (fun _ _ z => qP_ex z) (fun _ _ z => by
      rcases cX_of z ff_num_in with ⟨q, e⟩ | ⟨q, e⟩ | ⟨q, e⟩
      · exact Or.inl e
      · exact Or.inr e
      · exact absurd q (fun q9 => by unfold ff_num at q9; split at q9 <;> (try split at q9) <;> exact absurd q9 (by decide)))) (g_chg (k := k) (Q := fun J => ZZ K (u.1 + 1, u.2 + 6) 2798 (lLc i) [] J) h (fun J hJ => by
    have r := r_setDeadline (G := kG K) (w := kw K) (gl := kl K) (I := J) (m := m) (x := (xs (i + 1).toNatClampNeg)) (y := (xs (i + 2).toNatClampNeg)) hm hn (by rw [hJ.2]; exact hO.1.1) (by rw [hJ.1]; exact h2) hm6 (k := k) (by rw [hJ.2]; exact hk.symm)
    rw [hJ.2] at r
    exact r) (fun q => ⟨k1 q, by
    obtain ⟨l, hl, ex, -⟩ := num_nat hO.1 q
    rw [ex, nI_clamp (by omega), eq.2 l hl 3 (by omega)]⟩) k2 (fun q z => by
    obtain ⟨l, hl, ex, a2⟩ := num_nat hO.1 q
    rw [ex, nI_clamp (by omega)]
    exact Rel_ch h hO hH (oR_set34 hO2 (Or.inl ⟨rfl, a2⟩)) (fun k hk => upd_ne _ _ (by omega))) (fun J hJ => kN (1, 6) J (by decide) (by decide) hJ)) ⟨by show u.1 + 1 ≤ _; omega, by show u.2 + 6 ≤ _; omega⟩

/-- setPriority -/
theorem st_55 (hK : zKl K b L xs Z) (hw : kw K = (0, 320)) (v1 : vp_in (i + 1) L) (v2 : vp_in (i + 2) L) (v3 : vp_in (i + 3) L) (v4 : vp_in (i + 4) L) (v5 : vp_in (i + 5) L) (hu : u.1 + 2 ≤ 601024 ∧ u.2 + 12 ≤ 7293034) (h : Rel I) (kN : ∀ (mc : Nat × Nat) (J : zM), mc.1 ≤ 2 → mc.2 ≤ 12 → Rel J → ZZ K (u.1 + mc.1, u.2 + mc.2) 2798 (lLc i) [] J) : ZZ K u 2337 (lLc i) [] I := by
  obtain ⟨hx, hm, ho, hs⟩ := rl hw
  obtain ⟨n, c, t, hO⟩ := Rel_O h
  have hn := hO.1.2.1
  have eq := hO.2.2.2.2.2.1
  obtain ⟨a, m, hH⟩ := Rel_H h
  have h2 : I 312 2 = nI m := hH.2.2.1
  have hm6 : m ≤ 6 := hH.2.1.2
  have hc6 := hO.1.2.2.2.2.1
  have hO2 : oR (s_rem (I 313) m) (vB I 288) (I 288 7) n c t := hO.cgB (fun k hk => rem_lo hk)
  have eq2 := hO2.2.2.2.2.2.1
  obtain ⟨f1, f2, f3, f4, f5⟩ := ff_eq hO.1 eq
  have hc := c_setPriority (G := kG K) (w := kw K) (gl := kl K) (x := (xs (i + 1).toNatClampNeg)) (y := (xs (i + 2).toNatClampNeg)) hx (kq_of hO hH) rfl
  rw [f3] at hc
  generalize hk : (if s_has (xs (i + 1).toNatClampNeg) (I 313 8) = true then (if s_in (xs (i + 2).toNatClampNeg) 0 9 = true then 0 else 2) else 1 : Nat) = k
  obtain ⟨k1, k2⟩ := k_num hk.symm
  exact lc_55 hK hx hm ho v1 rfl v2 rfl (wL_setPriority hx ho hc (fun _ _ z => qP_ex z) (fun _ _ z => by
      rcases cX_of z ff_num_in with ⟨q, e⟩ | ⟨q, e⟩ | ⟨q, e⟩
      · exact Or.inl e
      · exact Or.inr e
      · exact absurd q (fun q9 => by unfold ff_num at q9; split at q9 <;> (try split at q9) <;> exact absurd q9 (by decide)))) (g_chg (k := k) (Q := fun J => ZZ K (u.1 + 1, u.2 + 6) 2798 (lLc i) [] J) h (fun J hJ => by
    have r := r_setPriority (G := kG K) (w := kw K) (gl := kl K) (I := J) (m := m) (x := (xs (i + 1).toNatClampNeg)) (y := (xs (i + 2).toNatClampNeg)) hm hn (by rw [hJ.2]; exact hO.1.1) (by rw [hJ.1]; exact h2) hm6 (k := k) (by rw [hJ.2]; exact hk.symm)
    rw [hJ.2] at r
    exact r) (fun q => ⟨k1 q, by
    obtain ⟨l, hl, ex, -⟩ := num_nat hO.1 q
    rw [ex, nI_clamp (by omega), eq.2 l hl 4 (by omega)]⟩) k2 (fun q z => by
    obtain ⟨l, hl, ex, a2⟩ := num_nat hO.1 q
    rw [ex, nI_clamp (by omega)]
    exact Rel_ch h hO hH (oR_set34 hO2 (Or.inr rfl)) (fun k hk => upd_ne _ _ (by omega))) (fun J hJ => kN (1, 6) J (by decide) (by decide) hJ)) ⟨by show u.1 + 1 ≤ _; omega, by show u.2 + 6 ≤ _; omega⟩

/-- extend -/
theorem st_56 (hK : zKl K b L xs Z) (hw : kw K = (0, 320)) (v1 : vp_in (i + 1) L) (v2 : vp_in (i + 2) L) (v3 : vp_in (i + 3) L) (v4 : vp_in (i + 4) L) (v5 : vp_in (i + 5) L) (hu : u.1 + 2 ≤ 601024 ∧ u.2 + 12 ≤ 7293034) (h : Rel I) (kN : ∀ (mc : Nat × Nat) (J : zM), mc.1 ≤ 2 → mc.2 ≤ 12 → Rel J → ZZ K (u.1 + mc.1, u.2 + mc.2) 2798 (lLc i) [] J) : ZZ K u 2405 (lLc i) [] I := by
  obtain ⟨hx, hm, ho, hs⟩ := rl hw
  obtain ⟨n, c, t, hO⟩ := Rel_O h
  have hn := hO.1.2.1
  have eq := hO.2.2.2.2.2.1
  obtain ⟨a, m, hH⟩ := Rel_H h
  have h2 : I 312 2 = nI m := hH.2.2.1
  have hm6 : m ≤ 6 := hH.2.1.2
  have hc6 := hO.1.2.2.2.2.1
  have hO2 : oR (s_rem (I 313) m) (vB I 288) (I 288 7) n c t := hO.cgB (fun k hk => rem_lo hk)
  have eq2 := hO2.2.2.2.2.2.1
  obtain ⟨f1, f2, f3, f4, f5⟩ := ff_eq hO.1 eq
  have hc := c_extend (G := kG K) (w := kw K) (gl := kl K) (x := (xs (i + 1).toNatClampNeg)) (y := (xs (i + 2).toNatClampNeg)) hx (kq_of hO hH) rfl
  rw [f4] at hc
  generalize hk : (if s_has (xs (i + 1).toNatClampNeg) (I 313 8) = true then (if s_in (xs (i + 2).toNatClampNeg) 1 29 = true then (if s_done (I 313) (xs (i + 1).toNatClampNeg).toNatClampNeg = true ∨ ¬ s_of (I 313) (xs (i + 1).toNatClampNeg).toNatClampNeg 1 + (xs (i + 2).toNatClampNeg) ≤ 30 then 3 else 0) else 2) else 1 : Nat) = k
  obtain ⟨k1, k2⟩ := k_ext hk.symm
  exact lc_56 hK hx hm ho v1 rfl v2 rfl (wL_extend hx ho hc (fun _ _ z => qP_ex z) (fun _ _ z => by
      rcases cX_of z ff_ext_in with ⟨q, e⟩ | ⟨q, e⟩ | ⟨q, e⟩
      · exact Or.inl e
      · exact Or.inr (Or.inl e)
      · exact Or.inr (Or.inr e))) (g_chg (k := k) (Q := fun J => ZZ K (u.1 + 1, u.2 + 6) 2798 (lLc i) [] J) h (fun J hJ => by
    have r := r_extend (G := kG K) (w := kw K) (gl := kl K) (I := J) (m := m) (x := (xs (i + 1).toNatClampNeg)) (y := (xs (i + 2).toNatClampNeg)) hm hn (by rw [hJ.2]; exact hO.1.1) (by rw [hJ.1]; exact h2) hm6 (k := k) (by rw [hJ.2]; exact hk.symm)
    rw [hJ.2] at r
    exact r) (fun q => ⟨k1 q, by
    obtain ⟨l, hl, ex, -⟩ := ext_nat hO.1 q
    rw [ex, nI_clamp (by omega), eq.2 l hl 5 (by omega)]⟩) k2 (fun q z => by
    obtain ⟨l, hl, ex, a2, a3, a4⟩ := ext_nat hO.1 q
    rw [ex, nI_clamp (by omega)]
    have w : s_eq n (s_rem (I 313) m) (I 313) := s_eq.tr eq2 eq.sy
    refine Rel_ch h hO hH (oR_ext hO2 hl ((eq_done w hl).symm.trans a3) a2 (by rw [← w.2 l hl 1 (by omega)]; exact a4)) (fun k hk => ?_)
    unfold s_ext s_set
    rw [upd_ne _ _ (by omega), upd_ne _ _ (by omega)]) (fun J hJ => kN (1, 6) J (by decide) (by decide) hJ)) ⟨by show u.1 + 1 ≤ _; omega, by show u.2 + 6 ≤ _; omega⟩

/-- discard -/
theorem st_57 (hK : zKl K b L xs Z) (hw : kw K = (0, 320)) (v1 : vp_in (i + 1) L) (v2 : vp_in (i + 2) L) (v3 : vp_in (i + 3) L) (v4 : vp_in (i + 4) L) (v5 : vp_in (i + 5) L) (hu : u.1 + 2 ≤ 601024 ∧ u.2 + 12 ≤ 7293034) (h : Rel I) (kN : ∀ (mc : Nat × Nat) (J : zM), mc.1 ≤ 2 → mc.2 ≤ 12 → Rel J → ZZ K (u.1 + mc.1, u.2 + mc.2) 2798 (lLc i) [] J) : ZZ K u 2473 (lLc i) [] I := by
  obtain ⟨hx, hm, ho, hs⟩ := rl hw
  obtain ⟨n, c, t, hO⟩ := Rel_O h
  have hn := hO.1.2.1
  have eq := hO.2.2.2.2.2.1
  obtain ⟨a, m, hH⟩ := Rel_H h
  have h2 : I 312 2 = nI m := hH.2.2.1
  have hm6 : m ≤ 6 := hH.2.1.2
  have hc6 := hO.1.2.2.2.2.1
  have hO2 : oR (s_rem (I 313) m) (vB I 288) (I 288 7) n c t := hO.cgB (fun k hk => rem_lo hk)
  have eq2 := hO2.2.2.2.2.2.1
  obtain ⟨f1, f2, f3, f4, f5⟩ := ff_eq hO.1 eq
  have hc := c_discard (G := kG K) (w := kw K) (gl := kl K) (x := (xs (i + 1).toNatClampNeg)) hx (kq_of hO hH) rfl
  rw [f5] at hc
  generalize hk : (if s_has (xs (i + 1).toNatClampNeg) (I 313 8) = true then (if s_open (I 313) (xs (i + 1).toNatClampNeg).toNatClampNeg = true then 0 else 2) else 1 : Nat) = k
  obtain ⟨k1, k2⟩ := k_dis hk.symm
  exact lc_57 hK hx hm ho v1 rfl (wL_discard hx ho hc (fun _ _ z => qP_ex z) (fun _ _ z => by
      rcases cX_of z ff_dis_in with ⟨q, e⟩ | ⟨q, e⟩ | ⟨q, e⟩
      · exact Or.inl e
      · exact absurd q (fun q9 => by unfold ff_dis at q9; split at q9 <;> (try split at q9) <;> exact absurd q9 (by decide))
      · exact Or.inr e)) (g_chg (k := k) (Q := fun J => ZZ K (u.1 + 1, u.2 + 6) 2798 (lLc i) [] J) h (fun J hJ => by
    have r := r_discard (G := kG K) (w := kw K) (gl := kl K) (I := J) (m := m) (x := (xs (i + 1).toNatClampNeg)) hm hn (by rw [hJ.2]; exact hO.1.1) (by rw [hJ.1]; exact h2) hm6 (k := k) (by rw [hJ.2]; exact hk.symm)
    rw [hJ.2] at r
    exact r) (fun q => ⟨k1 q, by
    obtain ⟨l, hl, ex, -⟩ := dis_nat hO.1 q
    rw [ex, nI_clamp (by omega), eq.2 l hl 5 (by omega)]⟩) k2 (fun q z => by
    obtain ⟨l, hl, ex, a2⟩ := dis_nat hO.1 q
    rw [ex, nI_clamp (by omega)]
    have w : s_eq n (s_rem (I 313) m) (I 313) := s_eq.tr eq2 eq.sy
    refine Rel_ch h hO hH (oR_drop hO2 hl ((eq_open w hl).symm.trans a2)) (fun k hk => ?_)
    unfold s_drop s_set
    rw [upd_ne _ _ (by omega), upd_ne _ _ (by omega)]) (fun J hJ => kN (1, 6) J (by decide) (by decide) hJ)) ⟨by show u.1 + 1 ≤ _; omega, by show u.2 + 6 ≤ _; omega⟩

end CSC
