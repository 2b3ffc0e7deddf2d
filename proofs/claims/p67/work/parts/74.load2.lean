/-! THE LAW'S TEXT IS LOADED: the memory behind it -/
/-- what the constructors leave -/
def INM (M : zM) : Prop := (∃ N, N ≤ 600 ∧ M 285 1 = nI N) ∧ nmB M 1 ∧ nmB M 288 ∧ ∃ a, M 89 2 = nI a ∧ a < 6
section LDU
variable {G : zG} {w : Nat × Nat} {gl : Launch} {I J M : zM} {b : zBk} {N n c t a m s : Nat} {v : Int32}
theorem kLM_ot {q : Nat} (h1 : q < 1 ∨ 25 ≤ q) (h2 : q ≠ 285) (h3 : q ≠ 287) : kLM I N v q = I q := by
  unfold kLM kSM
  rw [up_far h2, xR_ot (by omega) h2 h3]
  unfold kbI
  rw [ups_far h2]
theorem kLM_sp {q : Nat} (h1 : 1 ≤ q) (h2 : q < 25) : kLM I N v q = sput (kbI I) 1 (kSU I 1 N v).2.2.1 (if (kx_two (I 286) N (tq_tk (I 286) N 0 v) (vB I 1) (I 287)).1 = 0 then -1 else I 1 7) q := by
  unfold kLM kSM
  rw [up_far (by omega), xR_st (Or.inl (by omega)) h1 (by omega)]
theorem nmB_fr (h : ∀ r, s ≤ r → r < s + 24 → J r = I r) (q : nmB I s) : nmB J s := fun a ha k hk => by
  rw [h _ (by omega) (by omega)]
  exact q a ha k hk
theorem vB_k (h : ∀ r, s ≤ r → r < s + 24 → J r = I r) {k : Nat} (hk : k < 160) : vB J s k = vB I s k := by
  unfold vB
  (repeat' split) <;> exact congrFun (h _ (by omega) (by omega)) _
theorem cps_7 {s o : Nat} : cpS I s o n c s 7 = I o 7 := sp7
theorem cps_k {s o k : Nat} (hk : k < 160) : vB (cpS I s o n c) s k = cpk (vB I s) (vB I o) (q_cp n c) k := vB_sp hk
theorem cps_nm {s o : Nat} (h1 : nmB I s) (h2 : nmB I o) : nmK (vB (cpS I s o n c) s) := fun a ha k hk => by
  rw [cps_k (by omega)]
  exact nmK_cpk (nmK_B.mp h1) (nmK_B.mp h2) a ha k hk
theorem cps_oR {B : zBk} {s o : Nat} (h : oR B (vB I o) (I o 7) n c t) (h1 : nmB I s) (h2 : nmB I o) : oR B (vB (cpS I s o n c) s) (cpS I s o n c s 7) n c t := by
  rw [cps_7]
  have hn := h.1.2.1
  have hc := h.1.2.2.2.2.1
  refine h.cgC (fun k hk => ?_) (cps_nm h1 h2)
  have z := of_decide_eq_true (show decide (k < 22 ∨ (22 ≤ k ∧ k < 22 + c * 7) ∨ (64 ≤ k ∧ k < 64 + n * 8)) = true from hk)
  rw [cps_k (by omega)]
  unfold cpk
  rw [if_pos hk]
/-- the text stands in the buffer -/
theorem say_at {T : List Nat} : AtL (sayM M T 286) 0 T := AtL_of T 0 (fun j hj => by
  unfold sayM
  rw [pM_286, Nat.zero_add]
  show (if j < (T.length + 19) / 20 * 20 then nI (gch T j) else M 286 j) = _
  rw [if_pos (by omega)]
  unfold gch
  rw [if_pos hj])
theorem say_bt {T : List Nat} (hT : txOK T) : ∀ j, j < T.length → bt (sayM M T 286 j) := fun j hj => by
  have z := AtL_get _ _ (say_at (M := M) (T := T)) j hj
  rw [Nat.zero_add] at z
  rw [z]
  have hl : T.getD j 0 < 128 := by
    rw [List.getD_eq_getElem?_getD, List.getElem?_eq_getElem hj]
    exact hT _ (List.getElem_mem hj)
  have d : ∀ x, x < 128 → (nI x).toInt8.toInt32 = nI x := by decide +kernel
  exact d _ hl
theorem say_ot {T : List Nat} {q : Nat} (h : q ≠ 285) (h2 : q ≠ 286) : sayM M T q = M q := pM_ot h h2
theorem e_load (hx : isT w 10 0) (hI : INM M) {vs : List Nat} {qs : List (Nat × List Nat)} (hT : (txt vs c qs).length ≤ 560 ∧ txOK (txt vs c qs)) (hv : stOK vs) (hs : ∀ i, i < 7 → vs.getD i 0 = stg G i) (h1 : 1 ≤ vs.getD 2 0) (hc2 : 2 ≤ c) (hc : c ≤ 6) (hq : ∀ q ∈ qs, ltOK c q) (hn : qs.length ≤ 12) :
    CT G w gl (yX10_load, cX10_load, 3, some .int) 8 (1, 6) [.ref 0] (sayM M (txt vs c qs)) (fun v J => v = some (.int (nI qs.length)) ∧ ∃ L, PR G J L qs.length c 0 ∧ L 11 = -1 ∧ L 12 = 0 ∧ ∀ l f, qs.length ≤ l → l < 12 → f < 8 → s_of L l f = 0) nX := by
  obtain ⟨-, n1, n288, a, ha, ha6⟩ := hI
  have hl := hT.1
  have hb := say_bt (M := M) hT.2
  have n1' : nmB (sayM M (txt vs c qs)) 1 := nmB_fr (fun r h1 h2 => say_ot (by omega) (by omega)) n1
  have n288' : nmB (sayM M (txt vs c qs)) 288 := nmB_fr (fun r h1 h2 => say_ot (by omega) (by omega)) n288
  have e1 : sayM M (txt vs c qs) 285 1 = nI (txt vs c qs).length := by
    unfold sayM
    rw [pM_285, upd_same]
  have e89 : sayM M (txt vs c qs) 89 = M 89 := say_ot (by omega) (by omega)
  have run := txt_run (b := sayM M (txt vs c qs) 286) (X := vB (sayM M (txt vs c qs)) 1) (A := sayM M (txt vs c qs) 287) (v := 0) say_at rfl (by omega) hv h1 hc2 hc hq hn hb (nmK_B.mp n1')
  generalize sayM M (txt vs c qs) = S at *
  generalize (txt vs c qs).length = N at *
  obtain ⟨two, r0, L, hO, hi, hL, h11, h12, hz⟩ := run
  have wfC := hO.wfC
  have x8 : (kSU S 1 N 0).2.2.1 8 = nI qs.length := wfC.1
  have x7 : (kSU S 1 N 0).2.2.1 7 = nI c := wfC.2.2.1
  have z := c_load (G := G) (w := w) (gl := gl) (I := S) (N := N) hx e1 (by omega) hb n1' 0 (R := kSU S 1 N 0) rfl (n := qs.length) (c := c) (fun _ => ⟨by rw [x8, nI_clamp (by omega)], by rw [x7, nI_clamp (by omega)]⟩)
  refine z.weak (fun v J h => ?_) (fun E J h => h.1 r0)
  obtain ⟨-, r, ev, er, eJ⟩ := h
  refine ⟨by rw [ev, er, x8], L, ⟨?_, ⟨a, ?_, ha6⟩, ⟨0, ?_, by omega⟩, fun i h1 h2 => (hL i h2).trans (by rw [hs i h2]), hi⟩, h11, h12, hz⟩
  · have o1 : oR L (vB (kLM S N 0) 1) (kLM S N 0 1 7) qs.length c 0 := by
      rw [kLM_sp (q := 1) (by omega) (by omega), sp7, if_pos two]
      refine hO.cgC2 (fun k hk => ?_)
      rw [vB_k (J := kLM S N 0) (I := sput (kbI S) 1 (kSU S 1 N 0).2.2.1 (if (kx_two (S 286) N (tq_tk (S 286) N 0 0) (vB S 1) (S 287)).1 = 0 then -1 else S 1 7)) (fun q a1 a2 => kLM_sp a1 (by omega)) hk]
      exact vB_sp hk
    have m288 : nmB (kLM S N 0) 288 := nmB_fr (fun q a1 a2 => kLM_ot (by omega) (by omega) (by omega)) n288'
    have m1 : nmB (kLM S N 0) 1 := nmB_fr (I := sput (kbI S) 1 (kSU S 1 N 0).2.2.1 (if (kx_two (S 286) N (tq_tk (S 286) N 0 0) (vB S 1) (S 287)).1 = 0 then -1 else S 1 7)) (fun r a1 a2 => kLM_sp a1 (by omega)) (nmB_sp hO.2.2.2.2.2.2.2.2)
    have o := cps_oR (s := 288) o1 m288 m1
    have e : ∀ q, 288 ≤ q → q < 288 + 24 → J q = cpS (kLM S N 0) 288 1 qs.length c q := fun q a1 a2 => by
      rw [eJ]
      unfold kLD
      rw [up_far (by omega), up_far (by omega), up_far (by omega)]
    rw [e 288 (by omega) (by omega)]
    exact o.cgC2 (fun k hk => vB_k e hk)
  · rw [eJ]
    unfold kLD
    rw [up_far (by decide), up_far (by decide), up_at2 (by decide), cps_far (by omega), kLM_ot (by omega) (by decide) (by decide), e89]
    exact ha
  · rw [eJ]
    unfold kLD
    rw [up_far (by decide), up_far (by decide), up_at]
    rfl
end LDU
