/-! THE LAW'S NUMBERS OUT OF ITS SCRIPT -/
/-- a number below n out of the script's place k -/
def pik (G : zG) (k n : Nat) : Nat := if k < (gs G).1 then ((gs G).2 k &&& 2147483647).toNatClampNeg % n else 0
theorem pik_lt {G : zG} {k n : Nat} (h : 0 < n) : pik G k n < n := by
  unfold pik
  split
  · exact Nat.mod_lt _ h
  · exact h
theorem and31 (x : Int32) : ∃ j : Nat, j < 2 ^ 31 ∧ x &&& 2147483647 = nI j := pk_andE x 31 (by decide)
section PICK
variable {G : zG} {w : Nat × Nat} {gl : Launch} {I : zM}
theorem e_pick (hL : (gs G).1 ≤ 260) {k n : Nat} (hk : k < 2 ^ 31) (h0 : 0 < n) (hn : n < 2 ^ 31) : CT G w gl (yL_pick, cL_pick, 3, some .int) 0 (0, 0) [.ref 1400, .int (nI k), .int (nI n)] I (qE (nI (pik G k n)) I) nX := by
  refine ct_of (by decide) [(0, .ref 1400), (1, .int (nI k)), (2, .int (nI n))] rfl rfl (fun K hG hw hgl hwo hK => ?_)
  subst hG; subst hw; subst hgl
  refine bL_pick_0 (n0 := (gs (kG K)).1) (f0 := (gs (kG K)).2) hK hwo (zoS (kG K)) (fun c => ?_) (fun c => ?_) (fun c => nI_ne0 h0 hn) (fun c => ?_)
  · have h : (gs (kG K)).1 ≤ k := (nI_leI (by omega) hk).mp c
    refine qE_i ?_ rfl
    unfold pik
    rw [if_neg (by omega)]
    rfl
  · have h : ¬ (gs (kG K)).1 ≤ k := fun z => c ((nI_leI (by omega) hk).mpr z)
    exact vp_in_nI (by omega) (by omega)
  · have h : ¬ (gs (kG K)).1 ≤ k := fun z => c ((nI_leI (by omega) hk).mpr z)
    refine qE_i ?_ rfl
    rw [nI_clamp hk]
    obtain ⟨j, hj, e⟩ := and31 ((gs (kG K)).2 k)
    rw [e, pk_rem hj h0 hn]
    unfold pik
    rw [if_pos (by omega), e, nI_clamp hj]
end PICK
/-- the settings of the law -/
def stg (G : zG) (k : Nat) : Nat := if k = 0 then pik G 1 5 else if k = 1 then pik G 2 4 else if k = 2 then 1 + pik G 3 12 else if k = 3 then pik G 4 4 else if k = 4 then 1 + pik G 5 4 else if k = 5 then 1 + pik G 6 8 else pik G 7 3
section PICKS
variable {G : zG} {w : Nat × Nat} {gl : Launch} {I : zM}
theorem e_policy (hL : (gs G).1 ≤ 260) : CT G w gl (yL_policy, cL_policy, 1, some .int) 1 (0, 0) [.ref 1400] I (qE (nI (stg G 0)) I) nX := by
  refine ct_of (by decide) [(0, .ref 1400)] rfl rfl (fun K hG hw hgl hwo hK => ?_)
  subst hG; subst hw; subst hgl
  refine bL_policy_0 (n0 := (gs (kG K)).1) (f0 := (gs (kG K)).2) (f1 := nI (pik (kG K) 1 5)) (g1 := I) hK hwo (zoS (kG K)) (e_pick hL (by decide) (by decide) (by decide)) (qE_i ?_ rfl)
  rfl
theorem e_handOver (hL : (gs G).1 ≤ 260) : CT G w gl (yL_handOver, cL_handOver, 1, some .int) 1 (0, 0) [.ref 1400] I (qE (nI (stg G 1)) I) nX := by
  refine ct_of (by decide) [(0, .ref 1400)] rfl rfl (fun K hG hw hgl hwo hK => ?_)
  subst hG; subst hw; subst hgl
  refine bL_handOver_0 (n0 := (gs (kG K)).1) (f0 := (gs (kG K)).2) (f1 := nI (pik (kG K) 2 4)) (g1 := I) hK hwo (zoS (kG K)) (e_pick hL (by decide) (by decide) (by decide)) (qE_i ?_ rfl)
  rfl
theorem e_capacity (hL : (gs G).1 ≤ 260) : CT G w gl (yL_capacity, cL_capacity, 1, some .int) 1 (0, 0) [.ref 1400] I (qE (nI (stg G 2)) I) nX := by
  refine ct_of (by decide) [(0, .ref 1400)] rfl rfl (fun K hG hw hgl hwo hK => ?_)
  subst hG; subst hw; subst hgl
  refine bL_capacity_0 (n0 := (gs (kG K)).1) (f0 := (gs (kG K)).2) (f1 := nI (pik (kG K) 3 12)) (g1 := I) hK hwo (zoS (kG K)) (e_pick hL (by decide) (by decide) (by decide)) (qE_i ?_ rfl)
  show nI 1 + nI (pik (kG K) 3 12) = nI (1 + pik (kG K) 3 12)
  exact nI_add 1 _
theorem e_refill (hL : (gs G).1 ≤ 260) : CT G w gl (yL_refill, cL_refill, 1, some .int) 1 (0, 0) [.ref 1400] I (qE (nI (stg G 3)) I) nX := by
  refine ct_of (by decide) [(0, .ref 1400)] rfl rfl (fun K hG hw hgl hwo hK => ?_)
  subst hG; subst hw; subst hgl
  refine bL_refill_0 (n0 := (gs (kG K)).1) (f0 := (gs (kG K)).2) (f1 := nI (pik (kG K) 4 4)) (g1 := I) hK hwo (zoS (kG K)) (e_pick hL (by decide) (by decide) (by decide)) (qE_i ?_ rfl)
  rfl
theorem e_quantum (hL : (gs G).1 ≤ 260) : CT G w gl (yL_quantum, cL_quantum, 1, some .int) 1 (0, 0) [.ref 1400] I (qE (nI (stg G 4)) I) nX := by
  refine ct_of (by decide) [(0, .ref 1400)] rfl rfl (fun K hG hw hgl hwo hK => ?_)
  subst hG; subst hw; subst hgl
  refine bL_quantum_0 (n0 := (gs (kG K)).1) (f0 := (gs (kG K)).2) (f1 := nI (pik (kG K) 5 4)) (g1 := I) hK hwo (zoS (kG K)) (e_pick hL (by decide) (by decide) (by decide)) (qE_i ?_ rfl)
  show nI 1 + nI (pik (kG K) 5 4) = nI (1 + pik (kG K) 5 4)
  exact nI_add 1 _
theorem e_aging (hL : (gs G).1 ≤ 260) : CT G w gl (yL_aging, cL_aging, 1, some .int) 1 (0, 0) [.ref 1400] I (qE (nI (stg G 5)) I) nX := by
  refine ct_of (by decide) [(0, .ref 1400)] rfl rfl (fun K hG hw hgl hwo hK => ?_)
  subst hG; subst hw; subst hgl
  refine bL_aging_0 (n0 := (gs (kG K)).1) (f0 := (gs (kG K)).2) (f1 := nI (pik (kG K) 6 8)) (g1 := I) hK hwo (zoS (kG K)) (e_pick hL (by decide) (by decide) (by decide)) (qE_i ?_ rfl)
  show nI 1 + nI (pik (kG K) 6 8) = nI (1 + pik (kG K) 6 8)
  exact nI_add 1 _
theorem e_blot (hL : (gs G).1 ≤ 260) : CT G w gl (yL_blot, cL_blot, 1, some .int) 1 (0, 0) [.ref 1400] I (qE (nI (stg G 6)) I) nX := by
  refine ct_of (by decide) [(0, .ref 1400)] rfl rfl (fun K hG hw hgl hwo hK => ?_)
  subst hG; subst hw; subst hgl
  refine bL_blot_0 (n0 := (gs (kG K)).1) (f0 := (gs (kG K)).2) (f1 := nI (pik (kG K) 7 3)) (g1 := I) hK hwo (zoS (kG K)) (e_pick hL (by decide) (by decide) (by decide)) (qE_i ?_ rfl)
  rfl
end PICKS
