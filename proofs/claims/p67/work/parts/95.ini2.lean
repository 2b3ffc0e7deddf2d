/-! WHAT THE CONSTRUCTOR OF THE OFFICE LEAVES -/
theorem oA_o0 {q : Nat} (h : q ≠ 285) (h2 : q ≠ 286) : oA q = o0 q := pM_ot h h2
theorem oI_lo {q : Nat} (h : q < 285) : oI 0 q = o0 q := by
  unfold oI
  rw [up_far (by omega)]
  have e : oB 0 q = oA q := if_neg (by omega)
  rw [e, oA_o0 (by omega) (by omega)]
theorem oI_in {q : Nat} (h : 285 < q) (h2 : q < 312) : oI 0 q = kSM oA 288 120 0 q := by
  unfold oI
  rw [up_far (by omega)]
  exact if_pos ⟨by omega, h2⟩
theorem o0_c {q c : Nat} (h : LT q = c) (hc : c ≠ 9 ∧ c ≠ 8 ∧ c ≠ 5 ∧ c ≠ 4) : o0 q = y0 := by
  show ini (LT q) = y0
  rw [h]
  exact ini_0 hc
theorem oI_nm1 : nmB (oI 0) 1 := fun a ha k hk => by
  have l := (lyS_p.1.2.2.1.2.2.2.1 a ha).1
  rw [show 1 + 2 + 2 + a = 1 + 4 + a by omega] at l
  rw [oI_lo (by omega), o0_c l (by decide)]
  show fits .byte (.int 0) = true
  decide
theorem oI_nm288 : nmB (oI 0) 288 := by
  have z := (setup_ok (A := oA 287) (N := 120) (by decide) oA_b (tk_ok (v := 0) (Nat.zero_le 120)) oA_n).1
  refine nmK_B.mpr (fun a ha k hk => ?_)
  rw [vB_k (I := kSM oA 288 120 0) (fun r h1 h2 => oI_in (by omega) (by omega)) (by omega)]
  unfold kSM
  rw [xR_vB (Or.inr (Nat.le_refl _)) (by omega)]
  exact z a ha k hk
theorem oI_INM : INM (oI 0) := by
  refine ⟨⟨0, by decide, ?_⟩, oI_nm1, oI_nm288, 0, ?_, by decide⟩
  · unfold oI
    rw [up_at]
    rfl
  · rw [oI_lo (by decide)]
    have e : LT 89 = 3 := by decide +kernel
    rw [o0_c e (by decide)]
    rfl
