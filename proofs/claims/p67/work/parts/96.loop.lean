/-! THE LAW'S LOOP -/
abbrev lZ : Type := List Frame → Array Value → State → State → Prop
def phL (G : zG) (b L : Nat) (xs : Nat → Int32) (Z : lZ) : zPh := fun below args s meth _ Q =>
  (yAO s ∧ qCl s) ∧ meth.sig.returnType = ret ∧ args = #[.ref b] ∧ va_X b L xs s s.heap ∧ b < s.heap.size ∧ gb G = s.heap.size ∧ Q = Z below args s
def zKl (K : zK) (b L : Nat) (xs : Nat → Int32) (Z : lZ) : Prop := kcc K = cL_law ∧ kown K = RL ∧ knL K = 10 ∧ kR K = room_1 ∧ kPh K = phL (kG K) b L xs Z
theorem zlroom {d nL : Nat} {mc : Nat × Nat} (hd : Nat.ble d 14 = true) (hn : Nat.ble nL 21 = true) : (zR d mc).frames + 1 ≤ room_1.frames ∧ 8 + (nL + 11) + (zR d mc).locals ≤ room_1.locals := by
  have h1 := Nat.le_of_ble_eq_true hd
  have h2 := Nat.le_of_ble_eq_true hn
  constructor
  · show d + 1 ≤ 16
    omega
  · show 8 + (nL + 11) + 40 * d ≤ 628
    omega
section ZLB
variable {K : zK} {u : Nat × Nat} {pc : Nat} {Lc Lc' : List (Nat × Value)} {S : List Value} {I : zM} {b L : Nat} {xs : Nat → Int32} {Z : lZ}
variable {y : MethodName} {bc : ByteArray} {nL n d : Nat} {ret' : Option FieldType} {mc : Nat × Nat} {as st9 : List Value} {P : Option Value → zM → Prop} {index : Nat}
theorem zl_run {p : Program} {e : Env} {s : State} {m : MethodId} {args : Array Value} {below : List Frame} {meth : Method} {c : Code} {Q : State → Prop} {H : Heap} {locs : List Loc} {ls : Array Slot} {a : Array Value} {st0 : List Value} (B : zB K p s m args meth c) (hq : kPh K below args s meth c Q) (hl : lv_has ls (knL K) (Lc.map (zl (kG K)))) (hS : va_S (gF (kG K)) s.heap H locs)
    (hr : vx_Run p (kl K) e (kR K) s m args below meth c H locs u.1 u.2 mc.1 mc.2 (F0 m pc ls st0) (S.map (zv (kG K))) (zQ (kG K) (kw K) P a) (zX (kG K) (kw K) nX) (gF (kG K)))
    (kv : ∀ v J, P v J → ZZ K (u.1 + mc.1, u.2 + mc.2) (pc + 3) Lc (v.toList ++ S) J) : W p (kl K) e (kR K) s m args below meth c H locs u.1 u.2 Q (F0 m pc ls st0) := by
  intro T hT Xs
  rcases hr T hT Xs with ⟨v, st₀, t, T', Ll, h0, X', hL, e1, e2, ⟨v', J, hv, hp, hW, hF⟩, st⟩ | ⟨q, st₀, t, T', Ll, E, ce, h0, X', hL, e1, e2, ⟨J, hx, hW, hF⟩, hce, hcv, hcl, st⟩
  · obtain ⟨-, -, hS'⟩ := vx_keep h0 e1 hS (fun _ _ h => h) (fun _ h => h) hL hF
    have hv2 : v = v'.map (zv (kG K)) := by injection hv
    subst hv2
    have hP' : va_P (gD (kG K)) vwCl (zw (kG K) (kw K) J) T'.heap := by rw [e1]; exact hW
    obtain ⟨t2, a1, b1⟩ := kv v' J hp p e s m args below meth c Q T'.heap (locs ++ Ll) ls B hq hP' hl hS' T' rfl X'
    rw [← zst] at a1
    exact ⟨t2, st t2 a1, b1⟩
  · exact hx.elim
theorem zl_inv (hK : zKl K b L xs Z) (hMk : zMk y bc nL ret' n) (hn : as.length = n) {c r : Nat} {T : u_T} {N : Nat} {ty : Nat → FieldType} (hc : cOK c y.cls T N ty) (hr : isT (kw K) c r) (hd : Nat.ble d 14 = true) (hu : u.1 + mc.1 ≤ 600086 ∧ u.2 + mc.2 ≤ 7301442) (hst : st9 = as.reverse ++ .ref r :: S)
    (hlink : Cond.methodLink RL index y ∈ TG) (hins : Cond.instanceMethod y ∈ TG) (hsel : Cond.selects y.cls y y ∈ TG) (h8 : Nat.ble (S.map fun v => v.category).sum 8 = true) (hdg : decode cL_law pc = .ok (.invokevirtual index, 3))
    (hM : CT (kG K) (kw K) (kl K) (y, bc, nL, ret') d mc (.ref r :: as) I P nX) (kv : ∀ v J, P v J → ZZ K (u.1 + mc.1, u.2 + mc.2) (pc + 3) Lc (v.toList ++ S) J) : ZZ K u pc Lc st9 I := by
  intro p e s m args below meth c0 Q H locs ls B hq hP hl hS
  have B0 := B
  obtain ⟨hb, ho, hnl, hR, -⟩ := hK
  obtain ⟨b1, b2, b3, hts, hown, b6, hKK, hO1, -, hG, hw, -⟩ := B
  rw [ho] at hown
  obtain ⟨⟨h1, h2, h3, h4⟩, h5, h6, h7, -⟩ := hc
  have hat := zw_at (G := kG K) (I := I) hr.1.1 hr.1.2
  rw [zc_obj hr h3] at hat
  have hg : ∀ x ∈ wsV RL index y.cls y (WS (y, bc, nL, ret')), x ∈ TG := fun x hx => by
    unfold wsV at hx
    rcases List.mem_append.mp hx with hx | hx
    · simp only [List.mem_cons, List.not_mem_nil, or_false] at hx
      rcases hx with rfl | rfl | rfl | rfl
      · exact hlink
      · exact hins
      · exact hsel
      · exact hMk.1.2
    · exact (zWS_good hMk x hx).1
  refine zl_run B0 hq hl hS (vx_runV (As := as.map (zv (kG K))) (C := y.cls) (n := n) ⟨b1, b2.trans hb, b3, hown, hts⟩ hM (cwV n hts (goodIn_TG hg) rfl rfl rfl ⟨rfl, hMk.2.1⟩ (by rw [hR]; exact zlroom hd hMk.2.2)) ⟨zWl_blind, va_recv (q := (y.cls, T, N)) hKK hP h1 hat, fun U hU hW => zz_callee B0 hP hS U hU hW⟩ rfl (by rw [List.length_map]; exact hn) (hl.1.trans rfl) ?_ (zroomS h8) hdg (by rw [hR]; exact hu)) kv
  rw [hst]
  show List.map (zv (kG K)) (as.reverse ++ .ref r :: S) = _
  rw [List.map_append, List.map_reverse]
  rfl
theorem zl_invS (hK : zKl K b L xs Z) (hMk : zMk y bc nL ret' n) (hn : as.length = n) (hd : Nat.ble d 14 = true) (hu : u.1 + mc.1 ≤ 600086 ∧ u.2 + mc.2 ≤ 7301442) (hst : st9 = as.reverse ++ S)
    (hlink : Cond.methodLink RL index y ∈ TG) (hstt : Cond.static y ∈ TG) (h8 : Nat.ble (S.map fun v => v.category).sum 8 = true) (hdg : decode cL_law pc = .ok (.invokestatic index, 3))
    (hM : CT (kG K) (kw K) (kl K) (y, bc, nL, ret') d mc as I P nX) (kv : ∀ v J, P v J → ZZ K (u.1 + mc.1, u.2 + mc.2) (pc + 3) Lc (v.toList ++ S) J) : ZZ K u pc Lc st9 I := by
  intro p e s m args below meth c0 Q H locs ls B hq hP hl hS
  have B0 := B
  obtain ⟨hb, ho, hnl, hR, -⟩ := hK
  obtain ⟨b1, b2, b3, hts, hown, b6, hKK, hO1, -, hG, hw, -⟩ := B
  rw [ho] at hown
  have hg : ∀ x ∈ va_wsS RL index y (WS (y, bc, nL, ret')), x ∈ TG := fun x hx => by
    unfold va_wsS at hx
    rcases List.mem_append.mp hx with hx | hx
    · simp only [List.mem_cons, List.not_mem_nil, or_false] at hx
      rcases hx with rfl | rfl | rfl
      · exact hlink
      · exact hstt
      · exact hMk.1.2
    · exact (zWS_good hMk x hx).1
  refine zl_run B0 hq hl hS (vx_runS (As := as.map (zv (kG K))) (n := n) ⟨b1, b2.trans hb, b3, hown, hts⟩ hM (va_cwS n hts (goodIn_TG hg) rfl rfl rfl hMk.2.1 (by rw [hR]; exact zlroom hd hMk.2.2)) ⟨zWl_blind, fun U hU hW => zz_callee B0 hP hS U hU hW⟩ rfl (by rw [List.length_map]; exact hn) (hl.1.trans rfl) ?_ (zroomS h8) hdg (by rw [hR]; exact hu)) kv
  rw [hst]
  show List.map (zv (kG K)) (as.reverse ++ S) = _
  rw [List.map_append, List.map_reverse]
end ZLB
section LPP
variable {G : zG} {M J : zM} {L D Lo : zBk} {n n' c t k : Nat}
theorem lo_mins (hf : s_wf L n c t) : ∀ k, t + k ≤ 10000 → ∀ i, i < 9 → s_mins L n k i = L i
  | 0, _, _, _ => rfl
  | k + 1, hk, i, hi => by
    have e : s_min (s_mins L n k) n i = s_mins L n k i := by
      unfold s_min
      rw [upd_ne _ _ (by omega)]
      unfold s_min0
      split
      · split
        · split
          · exact upd_ne _ _ (by omega)
          · unfold s_workOn
            split
            · rw [g_write (by omega) (by omega), g_give (by omega) (by omega) (by omega)]
            · rw [g_hand (by omega) (by omega), g_give (by omega) (by omega) (by omega)]
        · exact g_hand (by omega) (by omega)
      · exact g_refill (by omega) (by omega) (by omega)
    exact e.trans (lo_mins hf k (by omega) i hi)
theorem f_mins : ∀ k, ∀ l f, f < 5 → s_of (s_mins L n k) l f = s_of L l f
  | 0, _, _, _ => rfl
  | k + 1, l, f, hf => (f_min hf).trans (f_mins k l f hf)
theorem rdOK.tr (h : rdOK Lo L n) (hn : n ≤ n') (h2 : rdOK L D n') : rdOK Lo D n' := ⟨h2.1.trans h.1, h2.2.1.trans h.2.1, fun l hl => (h2.2.2.1 l hl).trans (h.2.2.1 l hl), fun l h3 h4 => ⟨(h2.2.2.2 l h3 h4).1.trans (h.2.2.2 l (by omega) h4).1, (h2.2.2.2 l h3 h4).2.trans (h.2.2.2 l (by omega) h4).2⟩⟩
theorem PR_op (h : PR G M L n c t) : PR G (oput M D) L n c t := by
  obtain ⟨h1, h2, h3, h4, h5⟩ := h
  refine ⟨?_, by rw [opO (by omega)]; exact h2, by rw [opO (by omega)]; exact h3, h4, h5⟩
  rw [opO (by omega)]
  exact h1.cgC2 (fun k hk => vB_op hk)
/-- what a run of k minutes leaves -/
theorem PR_mins (h : PR G M L n c t) (hk : t + k ≤ 900) {a m : Nat} (ha : M 89 2 = nI a) (hm : M 89 1 = nI m) (hm6 : m ≤ 6) : PR G (sput (kp M n c a) 288 (s_mins (vB M 288) n k) (s_cur (s_mins (vB M 288) n k))) (s_mins L n k) n c (t + k) :=
  PR_chg hm hm6 (oR_mins h.1 (by omega)) (setL_mins h.1.1 h.2.2.2.1 k (by omega)) (inv_mins h.1.1 h.1.2.2.1 h.2.2.2.2 k (by omega))
theorem cnt_v (h : PR G M L n c t) : (vB M 288) 8 - nI (s_cnt (fun l => !s_done (vB M 288) l) n) = nI (s_cnt (s_done (vB M 288)) n) := by
  rw [h.1.wfC.1, nI_sub (by have := cnt_not (s_done (vB M 288)) n; omega)]
  have := cnt_not (s_done (vB M 288)) n
  congr 1
  omega
theorem sub_back {x y : Int32} : y + (x - y) = x := by
  rw [Int32.add_comm, Int32.sub_eq_add_neg, Int32.add_assoc, Int32.add_comm (-y), ← Int32.sub_eq_add_neg, Int32.sub_self, Int32.add_zero]
end LPP
