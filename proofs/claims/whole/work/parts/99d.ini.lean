/-! BOTH AT THE START ARE RELATED -/
def tT : zTk := tq_tk (pt y0 120) 120 0 0
def rT : zRs := rp_setup (pt y0 120) 120 tT y0
def kS : zKs := kSU oA 288 120 0
set_option maxRecDepth 100000 in
theorem first_ok : decide ((rp_setup (pt y0 120) 120 (tq_tk (pt y0 120) 120 0 0) y0).1 = 0) = true := by decide +kernel
theorem rT_0 : rT.1 = 0 := of_decide_eq_true first_ok
theorem tb_pos : ∀ k, k < 120 → 0 ≤ tb k ∧ tb k ≤ 255 := by
  have h : (List.range 120).all (fun k => decide (0 ≤ tb k ∧ tb k ≤ 255)) = true := by decide +kernel
  exact fun k hk => of_decide_eq_true (p := 0 ≤ tb k ∧ tb k ≤ 255) (List.all_eq_true.mp h k (List.mem_range.mpr hk))
theorem first_bR : bR (pt y0 120) (pt y0 120) 120 := fun j hj => by
  have e : pt y0 120 j = tb j := if_pos hj
  rw [e]
  exact ⟨(tb_bt j hj).symm, tb_pos j hj⟩
theorem oA_286 : oA 286 = pt y0 120 := by
  unfold oA
  rw [pM_286]
  have e : o0 286 = y0 := by
    show ini (LT 286) = y0
    rw [show LT 286 = 21 from by decide +kernel]
    exact ini_0 (by decide)
  rw [e]
theorem kS_eq : kS = kx_setup (pt y0 120) 120 tT (vB oA 288) (oA 287) := by
  unfold kS kSU
  rw [oA_286]
  rfl
theorem first_both : kS.1 = rT.1 ∧ kS.2.1 = rT.2.1 ∧ (rT.1 = 0 → ∃ n c, oR rT.2.2 kS.2.2.1 (-1) n c 0) := by
  rw [kS_eq]
  exact setup_both first_bR (by decide) (tk_ok (Nat.zero_le _)) oA_n
theorem oA_o0 {q : Nat} (h : q ≠ 285) (h2 : q ≠ 286) : oA q = o0 q := pM_ot h h2
theorem oI_lo {q : Nat} (h : q < 285) : oI 0 q = o0 q := by
  unfold oI
  rw [up_far (by omega)]
  have e : oB 0 q = oA q := if_neg (by omega)
  rw [e, oA_o0 (by omega) (by omega)]
theorem oI_in {q : Nat} (h : 285 < q) (h2 : q < 312) : oI 0 q = kSM oA 288 120 0 q := by
  unfold oI
  rw [up_far (by omega)]
  exact if_pos ⟨by omega, h2⟩
theorem kS_285 {k : Nat} : kSM oA 288 120 0 285 k = kF (upd (upd (oA 285) 6 0) 7 (-1)) kS.1 kS.2.1 k := by
  unfold kSM kS
  rw [xR_285]
  unfold kbI
  rw [ups_same]
theorem oI_285 : oI 0 285 1 = 0 ∧ ∀ k, k ≠ 1 → oI 0 285 k = kF (upd (upd (oA 285) 6 0) 7 (-1)) kS.1 kS.2.1 k := by
  unfold oI
  refine ⟨up_at, fun k hk => ?_⟩
  rw [up_at2 hk]
  have e : oB 0 285 = kSM oA 288 120 0 285 := by
    unfold oB mrg
    rw [if_pos ⟨by decide, by decide⟩]
  rw [e, kS_285]
theorem m1_ot {i q : Nat} (h : q ≠ 315) : m1 i q = m0 q := ups_far h
theorem m0_ot {q : Nat} (h : q ≠ 312) : m0 q = ini (LT q) := if_neg h
theorem m2_ot {q : Nat} (h : q ≠ 312) (h2 : q ≠ 315) : m2 q = ini (LT q) := by
  unfold m2
  rw [up_far h, m1_ot h2, m0_ot h]
theorem m2_315 : m2 315 = pt y0 120 := by
  unfold m2
  rw [up_far (by decide)]
  have e : m0 315 = y0 := (m0_ot (by decide)).trans (by rw [lyM_p.2.2.2.1.1]; exact ini_0 (by decide))
  unfold m1
  rw [ups_same]
theorem m2_t : t_beg m2 120 = tT := by
  unfold t_beg
  rw [m2_315]
  have e : m2 312 13 = 0 := by
    unfold m2
    rw [up_at2 (by decide), m1_ot (by decide)]
    rfl
  rw [e]
  rfl
theorem m2_313 : m2 313 = y0 := (m2_ot (by decide) (by decide)).trans (by rw [lyM_p.2.1.1]; exact ini_0 (by decide))
theorem m4_eq : m4 = mR (bI m2) rT := by
  unfold m4
  rw [bI_ot (by decide), m2_315, m2_t, m2_313]
  rfl
theorem mW_312 : mW 312 4 = 0 ∧ ∀ k, k ≠ 4 → mW 312 k = rF (bF (m2 312)) rT.1 rT.2.1 k := by
  unfold mW
  rw [m4_eq]
  refine ⟨up_at, fun k hk => ?_⟩
  rw [up_at2 hk, mR_312, bI_312]
theorem mW_313 : mW 313 = rT.2.2 := by
  unfold mW
  rw [m4_eq, up_far (by decide), mR_313]
theorem mW_ot {q : Nat} (h : q ≠ 312) (h2 : q ≠ 313) (h3 : q ≠ 315) : mW q = ini (LT q) := by
  unfold mW
  rw [m4_eq, up_far h, mR_ot h h2, bI_ot h, m2_ot h h3]
/-- the memory of both at the start -/
def iW : zM := fun q => if q < 312 then oI 0 q else if q < 319 then mW q else y0
theorem iW_o {q : Nat} (h : q < 312) : iW q = oI 0 q := if_pos h
theorem iW_m {q : Nat} (h : 312 ≤ q) (h2 : q < 319) : iW q = mW q := (if_neg (by omega)).trans (if_pos h2)
theorem o0_c {q c : Nat} (h : LT q = c) (hc : c ≠ 9 ∧ c ≠ 8 ∧ c ≠ 5 ∧ c ≠ 4) : o0 q = y0 := by
  show ini (LT q) = y0
  rw [h]
  exact ini_0 hc
theorem iW_nm {s : Nat} (hs : s + 24 ≤ 285) (h : lyS s) : nmB iW s := fun a ha k hk => by
  have l := (h.2.2.1.2.2.2.1 a ha).1
  rw [show s + 2 + 2 + a = s + 4 + a by omega] at l
  rw [iW_o (by omega), oI_lo (by omega), o0_c l (by decide)]
  show fits .byte (.int 0) = true
  decide
theorem first_O : ∃ n c t, RelO iW n c t := by
  obtain ⟨n, c, h⟩ := first_both.2.2 rT_0
  refine ⟨n, c, 0, ?_⟩
  have two : (kx_two (oA 286) 120 (tq_tk (oA 286) 120 0 0) (vB oA 288) (oA 287)).1 = 0 := by
    by_cases z : (kx_two (oA 286) 120 (tq_tk (oA 286) 120 0 0) (vB oA 288) (oA 287)).1 = 0
    · exact z
    · exfalso
      have e : kS.1 = 0 := first_both.1.trans rT_0
      unfold kS kSU kx_setup at e
      rw [if_neg z] at e
      exact z e
  unfold RelO
  have e7 : iW 288 7 = -1 := by
    rw [iW_o (by decide), oI_in (by decide) (by decide)]
    unfold kSM
    rw [xR_st (Or.inr (Nat.le_refl _)) (Nat.le_refl _) (by decide), sp7, if_pos two]
  rw [iW_m (by decide) (by decide), mW_313, e7]
  refine h.cgC2 (fun k hk => ?_)
  rw [vB_k (I := kSM oA 288 120 0) (fun r h1 h2 => (iW_o (by omega)).trans (oI_in (by omega) (by omega))) hk]
  unfold kSM
  rw [xR_vB (Or.inr (Nat.le_refl _)) hk]
  rfl
theorem Rel_iW : Rel iW := by
  refine ⟨iW_nm (by decide) lyS_p.1, fun j hj => ⟨iW_nm (by omega) (lyS_p.2.2.1 j hj), ?_, fun z => absurd ?_ z⟩, first_O, ⟨0, 0, ⟨?_, by decide⟩, ⟨?_, by decide⟩, ?_, fun j hj => iW_nm (by omega) (lyS_p.2.1 j hj), fun i hi => absurd hi (Nat.not_lt_zero i)⟩, ⟨0, ?_, ?_, by decide, fun j hj => absurd hj (Nat.not_lt_zero j)⟩, ⟨?_, ?_⟩, 0, ?_, ?_, by decide, fun k hk => absurd hk (Nat.not_lt_zero k)⟩
  · rw [iW_m (by decide) (by decide), mW_ot (by decide) (by decide) (by decide), lyM_p.2.2.1.1, ini_0 (by decide), iW_o (by decide), oI_lo (by decide), o0_c lyO_p.2.2.2.2.2.2.2.2.2.2.2.2.1.1 (by decide)]
  · rw [iW_o (by decide), oI_lo (by decide), o0_c lyO_p.2.2.2.2.2.2.2.2.2.2.2.2.1.1 (by decide)]
    rfl
  · rw [iW_o (by decide), oI_lo (by decide), o0_c lyH_p.1 (by decide)]
    rfl
  · rw [iW_o (by decide), oI_lo (by decide), o0_c lyH_p.1 (by decide)]
    rfl
  · rw [iW_m (by decide) (by decide), mW_312.2 2 (by decide), rT_0]
    rfl
  · rw [iW_m (by decide) (by decide), mW_312.1]
    rfl
  · rw [iW_o (by decide), oI_285.1]
    rfl
  · rw [iW_m (by decide) (by decide), mW_312.2 5 (by decide), iW_o (by decide), oI_285.2 6 (by decide), err_r.1, err_k.1, first_both.1]
  · rw [iW_m (by decide) (by decide), mW_312.2 6 (by decide), iW_o (by decide), oI_285.2 7 (by decide), err_r.2, err_k.2, first_both.1, first_both.2.1]
  · rw [iW_m (by decide) (by decide), mW_312.2 8 (by decide), rT_0]
    rfl
  · rw [iW_o (by decide), oI_lo (by decide), o0_c lyO_p.2.2.2.2.2.2.2.2.2.1 (by decide)]
    rfl
