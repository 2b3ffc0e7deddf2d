/-! CONTRACTS AND CALLS -/
def zIs (K : zK) (own : String) (cc : ByteArray) (nL : Nat) (ret : Option FieldType) (d : Nat) (mc : Nat × Nat) (P : Option Value → zM → Prop) (X : String → zM → Prop) : Prop := kcc K = cc ∧ kown K = own ∧ knL K = nL ∧ kR K = zR d mc ∧ zEnd K ret mc P X
/-- a method's contract out of its walk -/
theorem ct_of {G : zG} {w : Nat × Nat} {l : Launch} {y : MethodName} {cc : ByteArray} {nL : Nat} {ret : Option FieldType} {d : Nat} {mc : Nat × Nat} {as : List Value} {I : zM} {P : Option Value → zM → Prop} {X : String → zM → Prop} (hy : plainName y.cls = true) (L0 : List (Nat × Value)) (hn : Nat.ble (lg_sl (as.map (zv G))).length nL = true) (hL : lv_args 0 (as.map (zv G)) = L0.map (zl G))
    (body : ∀ K : zK, kG K = G → kw K = w → kl K = l → wOK w → zIs K y.cls cc nL ret d mc P X → ZZ K (0, 0) 0 L0 [] I) : CT G w l (y, cc, nL, ret) d mc as I P X := by
  refine vx_ofW (cc := cc) (maxL := nL) (ret := ret) hy rfl ?_
  intro p e s m args below meth c s₁ B hml hx hv
  obtain ⟨rfl, ⟨hP, hK, hO, hbl, hG, hw⟩, hst⟩ := hv
  have hts0 := atoms_spec (ws := WS (y, cc, nL, ret)) B.pre
  have hb := body (G, w, y.cls, cc, nL, l, zR d mc, phS G w ret mc P X) rfl rfl rfl hw ⟨rfl, rfl, rfl, rfl, rfl⟩
  have hl := lv_entry (as.map (zv G)) (n := nL) (Nat.le_of_ble_eq_true hn)
  rw [hL] at hl
  rw [lg_entry_eq]
  exact hb p e s m _ below meth c _ s.heap [] _ ⟨B.exec, B.bytes, hml, fun x hx => hts0 x (List.mem_cons_of_mem _ hx), findClass_of_methodNamed B.named, B.notSynchronized, hK, hO, hbl, hG, hw, hst⟩ ⟨B.returns, hx, rfl⟩ hP hl va_S.rf
/-- a contract's end may be said more weakly -/
theorem CT.weak {G : zG} {w : Nat × Nat} {l : Launch} {M : zMt} {d : Nat} {mc : Nat × Nat} {as : List Value} {I : zM} {P P' : Option Value → zM → Prop} {X X' : String → zM → Prop} (h : CT G w l M d mc as I P X) (hP : ∀ v J, P v J → P' v J) (hX : ∀ E J, X E J → X' E J) : CT G w l M d mc as I P' X' := by
  intro p e ha hc hk s m args below h1 h2 h3 h4
  obtain ⟨k, o, g1, g2, g3, g4⟩ := h p e ha hc hk s m args below h1 h2 h3 h4
  refine ⟨k, o, g1, g2, g3, ?_⟩
  rcases g4 with ⟨⟨v, J, e1, e2, e3⟩, e4⟩ | ⟨q, e1, E, ce, Ll, ⟨J, f1, f2⟩, f3⟩
  · exact Or.inl ⟨⟨v, J, e1, hP _ _ e2, e3⟩, e4⟩
  · exact Or.inr ⟨q, e1, E, ce, Ll, ⟨J, hX _ _ f1, f2⟩, f3⟩
/-- what calls need of the callee's name and code -/
def zMk (y : MethodName) (cc : ByteArray) (nL : Nat) (ret : Option FieldType) (n : Nat) : Prop :=
  (Cond.code y cc nL ret ∈ TG ∧ Cond.initialized y.cls ∈ TG) ∧ (y.cls ≠ "java/lang/invoke/MethodHandle" ∧ y.cls ≠ "java/lang/invoke/VarHandle" ∧ (parseMethodDescriptor y.desc).map (fun d => d.parameters.length) = some n) ∧ Nat.ble nL 21 = true
theorem zWS_good {y : MethodName} {cc : ByteArray} {nL n : Nat} {ret : Option FieldType} (h : zMk y cc nL ret n) : GoodIn TG (WS (y, cc, nL, ret)) := goodIn_TG (fun w hw => by
  rcases List.mem_cons.mp hw with rfl | hw
  · exact h.1.1
  · exact hw)
theorem zroom {d dK nL : Nat} {mc mcK : Nat × Nat} (hd : Nat.ble (d + 1) dK = true) (hn : Nat.ble nL 21 = true) : (zR d mc).frames + 1 ≤ (zR dK mcK).frames ∧ 8 + (nL + 11) + (zR d mc).locals ≤ (zR dK mcK).locals := by
  have h1 := Nat.le_of_ble_eq_true hd
  have h2 := Nat.le_of_ble_eq_true hn
  refine ⟨h1, ?_⟩
  show 8 + (nL + 11) + 40 * d ≤ 40 * dK
  omega
theorem zst (v : Option Value) (G : zG) (S : List Value) : (v.map (zv G)).toList ++ S.map (zv G) = (v.toList ++ S).map (zv G) := by cases v <;> rfl
theorem zroomS {G : zG} {m : MethodId} {pc : Nat} {ls : Array Slot} {st S : List Value} (h : Nat.ble (S.map fun v => v.category).sum 8 = true) : 2 * (F0 m pc ls st).monitorRoom + ((S.map (zv G)).map fun v => v.category).sum ≤ 8 := by
  have e : (S.map (zv G)).map (fun v => v.category) = S.map fun v => v.category := by
    rw [List.map_map]
    apply List.map_congr_left
    intro v _
    exact zv_cat v
  rw [e]
  exact lv_room (rest := st) (Nat.le_of_ble_eq_true h)
section ZZC
variable {K : zK} {u : Nat × Nat} {pc : Nat} {L : List (Nat × Value)} {S : List Value} {I : zM} {cc : ByteArray} {own : String} {nK : Nat} {rK : Option FieldType} {dK : Nat} {mcK : Nat × Nat} {PK : Option Value → zM → Prop} {XK : String → zM → Prop}
variable {y : MethodName} {bc : ByteArray} {nL n d : Nat} {ret : Option FieldType} {mc : Nat × Nat} {as st9 : List Value} {P : Option Value → zM → Prop} {X : String → zM → Prop} {index : Nat}
/-- behind a call: the callee has returned, or has thrown and nobody here catches it -/
theorem zz_run {p : Program} {e : Env} {s : State} {m : MethodId} {args : Array Value} {below : List Frame} {meth : Method} {c : Code} {Q : State → Prop} {H : Heap} {locs : List Loc} {ls : Array Slot} {a : Array Value} {st0 : List Value} (B : zB K p s m args meth c) (hE : zEnd K rK mcK PK XK) (hq : kPh K below args s meth c Q) (hl : lv_has ls (knL K) (L.map (zl (kG K)))) (hS : va_S (gF (kG K)) s.heap H locs) (hu : u.1 + mc.1 ≤ mcK.1 ∧ u.2 + mc.2 ≤ mcK.2)
    (hr : vx_Run p (kl K) e (kR K) s m args below meth c H locs u.1 u.2 mc.1 mc.2 (F0 m pc ls st0) (S.map (zv (kG K))) (zQ (kG K) (kw K) P a) (zX (kG K) (kw K) X) (gF (kG K)))
    (kv : ∀ v J, P v J → ZZ K (u.1 + mc.1, u.2 + mc.2) (pc + 3) L (v.toList ++ S) J) (kx : ∀ E J, X E J → XK E J) : W p (kl K) e (kR K) s m args below meth c H locs u.1 u.2 Q (F0 m pc ls st0) := by
  intro T hT Xs
  rcases hr T hT Xs with ⟨v, st₀, t, T', Ll, h0, X', hL, e1, e2, ⟨v', J, hv, hp, hW, hF⟩, st⟩ | ⟨q, st₀, t, T', Ll, E, ce, h0, X', hL, e1, e2, ⟨J, hx, hW, hF⟩, hce, hcv, hcl, st⟩
  · obtain ⟨-, -, hS'⟩ := vx_keep h0 e1 hS (fun _ _ h => h) (fun _ h => h) hL hF
    have hv2 : v = v'.map (zv (kG K)) := by injection hv
    subst hv2
    have hP' : va_P (gD (kG K)) vwCl (zw (kG K) (kw K) J) T'.heap := by rw [e1]; exact hW
    obtain ⟨t2, a1, b1⟩ := kv v' J hp p e s m args below meth c Q T'.heap (locs ++ Ll) ls B hq hP' hl hS' T' rfl X'
    rw [← zst] at a1
    exact ⟨t2, st t2 a1, b1⟩
  · obtain ⟨-, -, hS'⟩ := vx_keep h0 e1 hS (fun _ _ h => h) (fun _ h => h) hL hF
    rw [hE] at hq
    obtain ⟨hr9, ht9, rfl⟩ := hq
    have hP' : va_P (gD (kG K)) vwCl (zw (kG K) (kw K) J) T'.heap := by rw [e1]; exact hW
    have ho := vx_out (p := p) (l := kl K) (e := e) (R := kR K) (s := s) (m := m) (args := args) (below := below) (meth := meth) (c := c) (H := T'.heap) (locs := locs ++ Ll) (cells := u.1 + mc.1) (slots := u.2 + mc.2) (Qc := zQ (kG K) (kw K) PK) (XC := zX (kG K) (kw K) XK) (ls := ls) (rest := S.map (zv (kG K))) (pc := pc) (E := E) (ce := ce) (q := q) (mc := mcK.1) (ms := mcK.2) (free := gF (kG K)) (fun x hx => (ht9 x hx).elim) B.2.2.2.2.2.1 (by rw [e1]; exact hce) hcv hcl
      (fun t9 ht hA => ⟨J, kx E J hx, by rw [ht]; exact hP', hS'.F ht⟩) (fun z hz => hS'.2.2 z hz) hu.1 hu.2
    obtain ⟨t2, a1, b1⟩ := ho T' rfl X'
    exact ⟨t2, st.trans a1, b1⟩
theorem zz_callee {s : State} {H : Heap} {locs : List Loc} {av : List Value} {p : Program} {m : MethodId} {args : Array Value} {meth : Method} {c : Code} (B : zB K p s m args meth c) (hP : va_P (gD (kG K)) vwCl (zw (kG K) (kw K) I) H) (hS : va_S (gF (kG K)) s.heap H locs) : ∀ U : State, U.heap = H → s.WarmedH U.vm → va_Pc av (fun U => zWl (kG K) (kw K) I U ∧ (kl K).stackTraces = false) av.toArray U :=
  fun U hU hW => ⟨rfl, zWl_end B hP hS hU hW, B.2.2.2.2.2.2.2.2.2.2.2⟩
theorem zz_inv (hb : kcc K = cc) (ho : kown K = own) (hnl : knL K = nK) (hR : kR K = zR dK mcK) (hE : zEnd K rK mcK PK XK) (hMk : zMk y bc nL ret n) (hn : as.length = n) {c r : Nat} {T : u_T} {N : Nat} {ty : Nat → FieldType} (hc : cOK c y.cls T N ty) (hr : isT (kw K) c r) (hd : Nat.ble (d + 1) dK = true) (hu : u.1 + mc.1 ≤ mcK.1 ∧ u.2 + mc.2 ≤ mcK.2) (hst : st9 = as.reverse ++ .ref r :: S)
    (hlink : Cond.methodLink own index y ∈ TG) (hins : Cond.instanceMethod y ∈ TG) (hsel : Cond.selects y.cls y y ∈ TG) (h8 : Nat.ble (S.map fun v => v.category).sum 8 = true) (hdg : decode cc pc = .ok (.invokevirtual index, 3))
    (hM : CT (kG K) (kw K) (kl K) (y, bc, nL, ret) d mc (.ref r :: as) I P X) (kv : ∀ v J, P v J → ZZ K (u.1 + mc.1, u.2 + mc.2) (pc + 3) L (v.toList ++ S) J) (kx : ∀ E J, X E J → XK E J) : ZZ K u pc L st9 I := by
  intro p e s m args below meth c0 Q H locs ls B hq hP hl hS
  have B0 := B
  obtain ⟨b1, b2, b3, hts, hown, b6, hK, hO1, -, hG, hw, -⟩ := B
  rw [ho] at hown
  obtain ⟨⟨h1, h2, h3, h4⟩, h5, h6, h7, -⟩ := hc
  have hat := zw_at (G := kG K) (I := I) hr.1.1 hr.1.2
  rw [zc_obj hr h3] at hat
  have hg : ∀ x ∈ wsV own index y.cls y (WS (y, bc, nL, ret)), x ∈ TG := fun x hx => by
    unfold wsV at hx
    rcases List.mem_append.mp hx with hx | hx
    · simp only [List.mem_cons, List.not_mem_nil, or_false] at hx
      rcases hx with rfl | rfl | rfl | rfl
      · exact hlink
      · exact hins
      · exact hsel
      · exact hMk.1.2
    · exact (zWS_good hMk x hx).1
  refine zz_run B0 hE hq hl hS hu (vx_runV (As := as.map (zv (kG K))) (C := y.cls) (n := n) ⟨b1, b2.trans hb, b3, hown, hts⟩ hM (cwV n hts (goodIn_TG hg) rfl rfl rfl ⟨rfl, hMk.2.1⟩ (by rw [hR]; exact zroom hd hMk.2.2)) ⟨zWl_blind, va_recv (q := (y.cls, T, N)) hK hP h1 hat, fun U hU hW => zz_callee B0 hP hS U hU hW⟩ rfl (by rw [List.length_map]; exact hn) (hl.1.trans rfl) ?_ (zroomS h8) hdg (by rw [hR]; exact hu)) kv kx
  rw [hst]
  show List.map (zv (kG K)) (as.reverse ++ .ref r :: S) = _
  rw [List.map_append, List.map_reverse]
  rfl
theorem zz_invS (hb : kcc K = cc) (ho : kown K = own) (hnl : knL K = nK) (hR : kR K = zR dK mcK) (hE : zEnd K rK mcK PK XK) (hMk : zMk y bc nL ret n) (hn : as.length = n) (hd : Nat.ble (d + 1) dK = true) (hu : u.1 + mc.1 ≤ mcK.1 ∧ u.2 + mc.2 ≤ mcK.2) (hst : st9 = as.reverse ++ S)
    (hlink : Cond.methodLink own index y ∈ TG) (hstt : Cond.static y ∈ TG) (h8 : Nat.ble (S.map fun v => v.category).sum 8 = true) (hdg : decode cc pc = .ok (.invokestatic index, 3))
    (hM : CT (kG K) (kw K) (kl K) (y, bc, nL, ret) d mc as I P X) (kv : ∀ v J, P v J → ZZ K (u.1 + mc.1, u.2 + mc.2) (pc + 3) L (v.toList ++ S) J) (kx : ∀ E J, X E J → XK E J) : ZZ K u pc L st9 I := by
  intro p e s m args below meth c0 Q H locs ls B hq hP hl hS
  have B0 := B
  obtain ⟨b1, b2, b3, hts, hown, b6, hK, hO1, -, hG, hw, -⟩ := B
  rw [ho] at hown
  have hg : ∀ x ∈ va_wsS own index y (WS (y, bc, nL, ret)), x ∈ TG := fun x hx => by
    unfold va_wsS at hx
    rcases List.mem_append.mp hx with hx | hx
    · simp only [List.mem_cons, List.not_mem_nil, or_false] at hx
      rcases hx with rfl | rfl | rfl
      · exact hlink
      · exact hstt
      · exact hMk.1.2
    · exact (zWS_good hMk x hx).1
  refine zz_run B0 hE hq hl hS hu (vx_runS (As := as.map (zv (kG K))) (n := n) ⟨b1, b2.trans hb, b3, hown, hts⟩ hM (va_cwS n hts (goodIn_TG hg) rfl rfl rfl hMk.2.1 (by rw [hR]; exact zroom hd hMk.2.2)) ⟨zWl_blind, fun U hU hW => zz_callee B0 hP hS U hU hW⟩ rfl (by rw [List.length_map]; exact hn) (hl.1.trans rfl) ?_ (zroomS h8) hdg (by rw [hR]; exact hu)) kv kx
  rw [hst]
  show List.map (zv (kG K)) (as.reverse ++ S) = _
  rw [List.map_append, List.map_reverse]
theorem zz_invSN (hb : kcc K = cc) (ho : kown K = own) (hnl : knL K = nK) (hR : kR K = zR dK mcK) (hE : zEnd K rK mcK PK XK) (hMk : zMk y bc nL ret n) (hn : as.length = n) (hd : Nat.ble (d + 1) dK = true) (hu : u.1 + mc.1 ≤ mcK.1 ∧ u.2 + mc.2 ≤ mcK.2) (hst : st9 = as.reverse ++ S) {host : String}
    (hlink : Cond.methodLinkNest own index y host ∈ zNst) (hstt : Cond.static y ∈ TG) (h8 : Nat.ble (S.map fun v => v.category).sum 8 = true) (hdg : decode cc pc = .ok (.invokestatic index, 3))
    (hM : CT (kG K) (kw K) (kl K) (y, bc, nL, ret) d mc as I P X) (kv : ∀ v J, P v J → ZZ K (u.1 + mc.1, u.2 + mc.2) (pc + 3) L (v.toList ++ S) J) (kx : ∀ E J, X E J → XK E J) : ZZ K u pc L st9 I := by
  intro p e s m args below meth c0 Q H locs ls B hq hP hl hS
  have B0 := B
  obtain ⟨b1, b2, b3, hts, hown, b6, hK, hO1, -, hG, hw, -⟩ := B
  rw [ho] at hown
  have hN := hO1.2.2.2.2.1 _ hlink
  refine zz_run B0 hE hq hl hS hu (vx_runSN (As := as.map (zv (kG K))) (n := n) ⟨b1, b2.trans hb, b3, hown, hts⟩ hM ⟨va_cnB n hts (zWS_good hMk) rfl rfl rfl hN (hts _ hMk.1.2) hMk.2.1 (by rw [hR]; exact zroom hd hMk.2.2), hts _ hstt, trivial⟩ ⟨zWl_blind, fun U hU hW => zz_callee B0 hP hS U hU hW⟩ rfl (by rw [List.length_map]; exact hn) (hl.1.trans rfl) ?_ (zroomS h8) hdg (by rw [hR]; exact hu)) kv kx
  rw [hst]
  show List.map (zv (kG K)) (as.reverse ++ S) = _
  rw [List.map_append, List.map_reverse]
end ZZC
/-- ends: a number, nothing, a reference -/
def qI (p : Int32 → zM → Prop) : Option Value → zM → Prop := fun v J => ∃ r : Int32, v = some (.int r) ∧ p r J
def qV (p : zM → Prop) : Option Value → zM → Prop := fun v J => v = none ∧ p J
def qR (p : Nat → zM → Prop) : Option Value → zM → Prop := fun v J => ∃ r : Nat, v = some (.ref r) ∧ p r J
abbrev nX : String → zM → Prop := fun _ _ => False
def zSA (G : zG) (r N : Nat) (f : Nat → Int32) : Prop := ∀ s : State, zOld G s → va_T .int (gad G r) N (fun j => .int (f j)) (gF G) s s.heap
