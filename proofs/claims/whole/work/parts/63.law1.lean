/-! THE LAW: ends and calls of its methods -/
abbrev sN : String := "java/util/NoSuchElementException"
def zNcP : List (String × String) := [(sA, sI), (sS, sI), (sS, sA)]
/-- which of the exceptions are none of the others -/
def zNc (s : State) : Prop := (∀ q ∈ zNcP, va_Nc q.1 q.2 s) ∧ ∀ E ∈ [sS, sA, sI, sN], va_Nw (.castable E E) s
theorem zNc.warm {u U : State} (hW : u.WarmedH U.vm) (h : zNc u) : zNc U := ⟨fun q hq => va_Nc.moved hW.alike (h.1 q hq), fun E hE => va_Nw.warmC hW (h.2 E hE)⟩
theorem lwd : ([.classLink RL 13 sS, .classLink RL 19 sA, .classLink RL 29 sI, .classLink RL 34 sN] : List Cond) = ([840, 920, 952, 985] : List Nat).filterMap (fun i => lw_tbl[i]?) := by decide +kernel
theorem lw_in (i : Nat) {w : Cond} (hi : ([.classLink RL 13 sS, .classLink RL 19 sA, .classLink RL 29 sI, .classLink RL 34 sN] : List Cond)[i]? = some w) : w ∈ TG := tg_r _ _ lwd (by decide +kernel) i hi
def WSH (M : zMt) (hh : List (Nat × Nat × Nat × Nat)) : List Cond := .codeWith M.1 M.2.1 M.2.2.1 M.2.2.2 hh :: TG
/-- a wrapper's contract: it returns -/
def CTW (G : zG) (w : Nat × Nat) (l : Launch) (M : zMt) (hh : List (Nat × Nat × Nat × Nat)) (d : Nat) (mc : Nat × Nat) (as : List Value) (I : zM) (P : Option Value → zM → Prop) : Prop :=
  vx_Met l M.1 (WSH M hh) (zR d mc) (va_Pc (as.map (zv G)) (fun U => (zWl G w I U ∧ l.stackTraces = false) ∧ zNc U)) (zQ G w P) (zX G w nX) mc.1 mc.2 (fun q => gb G ≤ q)
def phW (G : zG) (w : Nat × Nat) (hh : List (Nat × Nat × Nat × Nat)) (mc : Nat × Nat) (P : Option Value → zM → Prop) : zPh := fun below args s meth c Q =>
  meth.sig.returnType = some .int ∧ c.exceptionTable.toList = tableOf hh ∧ zNc s ∧ Q = vx_MQ below (zQ G w P) (zX G w nX) args s mc.1 mc.2 (fun q => gb G ≤ q)
def zWs (K : zK) (cc : ByteArray) (nL d : Nat) (mc : Nat × Nat) (P : Option Value → zM → Prop) (hh : List (Nat × Nat × Nat × Nat)) : Prop := kcc K = cc ∧ kown K = RL ∧ knL K = nL ∧ kR K = zR d mc ∧ kPh K = phW (kG K) (kw K) hh mc P
theorem ctw_of {G : zG} {w : Nat × Nat} {l : Launch} {y : MethodName} {cc : ByteArray} {nL : Nat} {hh : List (Nat × Nat × Nat × Nat)} {d : Nat} {mc : Nat × Nat} {as : List Value} {I : zM} {P : Option Value → zM → Prop} (hy : plainName y.cls = true) (ho : y.cls = RL) (L0 : List (Nat × Value)) (hn : Nat.ble (lg_sl (as.map (zv G))).length nL = true) (hL : lv_args 0 (as.map (zv G)) = L0.map (zl G))
    (body : ∀ K : zK, kG K = G → kw K = w → kl K = l → wOK w → zWs K cc nL d mc P hh → ZZ K (0, 0) 0 L0 [] I) : CTW G w l (y, cc, nL, some .int) hh d mc as I P := by
  refine vx_ofWH (cc := cc) (maxL := nL) (ret := some .int) (hh := hh) hy rfl ?_
  intro p e s m args below meth c s₁ B hml hv
  obtain ⟨rfl, ⟨⟨hP, hK, hO, hbl, hG, hw⟩, hst⟩, hnc⟩ := hv
  have hts0 := atoms_spec (ws := WSH (y, cc, nL, some .int) hh) B.pre
  have hb := body (G, w, y.cls, cc, nL, l, zR d mc, phW G w hh mc P) rfl rfl rfl hw ⟨rfl, ho, rfl, rfl, rfl⟩
  have hl := lv_entry (as.map (zv G)) (n := nL) (Nat.le_of_ble_eq_true hn)
  rw [hL] at hl
  rw [lg_entry_eq]
  exact hb p e s m _ below meth c _ s.heap [] _ ⟨B.exec, B.bytes, hml, fun x hx => hts0 x (List.mem_cons_of_mem _ hx), findClass_of_methodNamed B.named, B.notSynchronized, hK, hO, hbl, hG, hw, hst⟩ ⟨B.returns, vx_table (x := y) B (hts0 _ List.mem_cons_self), hnc, rfl⟩ hP hl va_S.rf
section ZLW
variable {K : zK} {u mc : Nat × Nat} {pc : Nat} {L : List (Nat × Value)} {S : List Value} {I : zM} {cc : ByteArray} {P : Option Value → zM → Prop} {hh : List (Nat × Nat × Nat × Nat)} {nK dK : Nat} {mcK : Nat × Nat} {PK : Option Value → zM → Prop}
theorem zw_iret (hK : zWs K cc nK dK mcK PK hh) (hu : u.1 ≤ mcK.1 ∧ u.2 ≤ mcK.2) {v : Int32} (hdg : decode cc pc = .ok (.ireturn, 1)) (h : PK (some (.int v)) I) : ZZ K u pc L [.int v] I := by
  intro p e s m args below meth c Q H locs ls B hq hP hl hS
  obtain ⟨hb, ho, hnl, hR, hE⟩ := hK
  rw [hE] at hq
  obtain ⟨hr, ht, hnc, rfl⟩ := hq
  refine W.widen hu.1 hu.2 (vx_ret ?_)
  exact W.iret B.1 (B.2.1.trans hb) hr (fun t ht hW => ⟨some (.int v), I, rfl, h, by rw [ht]; exact hP, hS.F ht⟩) (fun q hq => hS.2.2 q hq) hdg B.2.2.2.2.2.1
/-- a handler's rest: the exception is put away, k is answered -/
def zTW (cc : ByteArray) (nL h : Nat) (k : Int) : Prop := ∃ i len : Nat, (decode cc h = .ok (.astore i, 2) ∧ len = 2 ∨ (∃ f : Fin 4, decode cc h = .ok (.astore_n f, 1) ∧ (f : Nat) = i) ∧ len = 1) ∧ i < nL ∧ decode cc (h + len) = .ok (.iconst k, 1) ∧ decode cc (h + len + 1) = .ok (.ireturn, 1)
/-- the exception E is caught at pc: by the handler at h -/
def zHd (hh : List (Nat × Nat × Nat × Nat)) (pc : Nat) (E : String) (h : Nat) : Prop := ∃ (pre : List ExceptionTableEntry) (x : ExceptionTableEntry) (suf : List ExceptionTableEntry), tableOf hh = pre ++ x :: suf ∧ (∀ z ∈ pre, z.catchType ≠ 0 ∧ ∃ nm : String, Cond.classLink RL z.catchType nm ∈ TG ∧ (E, nm) ∈ zNcP) ∧ covers x pc = true ∧ x.catchType ≠ 0 ∧ Cond.classLink RL x.catchType E ∈ TG ∧ E ∈ [sS, sA, sI, sN] ∧ x.handlerPc = h
theorem zw_tail {p : Program} {e : Env} {s : State} {m : MethodId} {args : Array Value} {below : List Frame} {meth : Method} {c : Code} {H : Heap} {locs : List Loc} {ls : Array Slot} {lv : List (Nat × Value)} {nL h : Nat} {k : Int} {q : Nat} {Q : State → Prop} {l : Launch} {R : Room} {v : Int32} (b1 : p.tables.exec = Jvm.exec) (b2 : c.code = cc) (ht : zTW cc nL h k) (hl : lv_has ls nL lv) (hv : Int32.ofInt k = v)
    (kk : ∀ (ls' : Array Slot) (pc : Nat), decode cc pc = .ok (.ireturn, 1) → W p l e R s m args below meth c H locs u.1 u.2 Q (F0 m pc ls' [.int v])) : W p l e R s m args below meth c H locs u.1 u.2 Q (F0 m h ls [.ref q]) := by
  obtain ⟨i, len, h1, hi, h2, h3⟩ := ht
  rcases h1 with ⟨h1, rfl⟩ | ⟨⟨f, h1, hf⟩, rfl⟩
  · exact lv_astore b1 b2 h1 hl hi rfl (fun ls' hl' => lv_iconst b1 b2 h2 hv (kk ls' _ h3))
  · exact lv_astore_n b1 b2 h1 hf hl hi rfl (fun ls' hl' => lv_iconst b1 b2 h2 hv (kk ls' _ h3))
variable {y : MethodName} {bc : ByteArray} {nL n d : Nat} {ret : Option FieldType} {as st9 : List Value} {X : String → zM → Prop} {index : Nat}
/-- a call within a try: it returns, or a handler answers -/
theorem zw_try (hK : zWs K cc nK dK mcK PK hh) (hMk : zMk y bc nL ret n) (hn : as.length = n) {c r : Nat} {T : u_T} {N : Nat} {ty : Nat → FieldType} (hc : cOK c y.cls T N ty) (hr : isT (kw K) c r) (hd : Nat.ble (d + 1) dK = true) (hu : u.1 + mc.1 ≤ mcK.1 ∧ u.2 + mc.2 ≤ mcK.2) (hst : st9 = as.reverse ++ .ref r :: S)
    (hlink : Cond.methodLink RL index y ∈ TG) (hins : Cond.instanceMethod y ∈ TG) (hsel : Cond.selects y.cls y y ∈ TG) (h8 : Nat.ble (S.map fun v => v.category).sum 8 = true) (hdg : decode cc pc = .ok (.invokevirtual index, 3))
    (hM : CT (kG K) (kw K) (kl K) (y, bc, nL, ret) d mc (.ref r :: as) I P X) (kv : ∀ v J, P v J → ZZ K (u.1 + mc.1, u.2 + mc.2) (pc + 3) L (v.toList ++ S) J)
    (kx : ∀ E J, X E J → ∃ (h : Nat) (k : Int) (v : Int32), zHd hh pc E h ∧ zTW cc nK h k ∧ Int32.ofInt k = v ∧ PK (some (.int v)) J) : ZZ K u pc L st9 I := by
  intro p e s m args below meth c0 Q H locs ls B hq hP hl hS
  have B0 := B
  obtain ⟨hb, ho, hnl, hR, hE⟩ := hK
  obtain ⟨b1, b2, b3, hts, hown, b6, hKK, hO1, -, hG, hw, -⟩ := B
  rw [ho] at hown
  obtain ⟨⟨h1, h2, h3, h4⟩, h5, h6, h7, -⟩ := hc
  have hat := zw_at (G := kG K) (I := I) hr.1.1 hr.1.2
  rw [zc_obj hr h3] at hat
  have hg : ∀ x ∈ wsV RL index y.cls y (WS (y, bc, nL, ret)), x ∈ TG := fun x hx => by
    unfold wsV at hx
    rcases List.mem_append.mp hx with hx | hx
    · simp only [List.mem_cons, List.not_mem_nil, or_false] at hx
      rcases hx with rfl | rfl | rfl | rfl
      · exact hlink
      · exact hins
      · exact hsel
      · exact hMk.1.2
    · exact (zWS_good hMk x hx).1
  have hstk : st9.map (zv (kG K)) = (as.map (zv (kG K))).reverse ++ .ref (gad (kG K) r) :: S.map (zv (kG K)) := by
    rw [hst, List.map_append, List.map_reverse]; rfl
  have hrun : vx_Run p (kl K) e (kR K) s m args below meth c0 H locs u.1 u.2 mc.1 mc.2 (F0 m pc ls (st9.map (zv (kG K)))) (S.map (zv (kG K))) (zQ (kG K) (kw K) P _) (zX (kG K) (kw K) X) (fun q => gb (kG K) ≤ q) :=
    vx_runV (As := as.map (zv (kG K))) (C := y.cls) (n := n) ⟨b1, b2.trans hb, b3, hown, hts⟩ hM (cwV n hts (goodIn_TG hg) rfl rfl rfl ⟨rfl, hMk.2.1⟩ (by rw [hR]; exact zroom hd hMk.2.2)) ⟨zWl_blind, va_recv (q := (y.cls, T, N)) hKK hP h1 hat, fun U hU hW => zz_callee B0 hP hS U hU hW⟩ rfl (by rw [List.length_map]; exact hn) (hl.1.trans rfl) hstk (zroomS h8) hdg (by rw [hR]; exact hu)
  intro T9 hT Xs
  rcases hrun T9 hT Xs with ⟨v, st₀, t, T', Ll, h0, X', hL9, e1, e2, ⟨v', J, hv, hp, hW, hF⟩, st⟩ | ⟨q, st₀, t, T', Ll, E, ce, h0, X', hL9, e1, e2, ⟨J, hx, hW, hF⟩, hce, hcv, hcl, st⟩
  · obtain ⟨-, -, hS'⟩ := vx_keep h0 e1 hS (fun _ _ h => h) (fun _ h => h) hL9 hF
    have hv2 : v = v'.map (zv (kG K)) := by injection hv
    subst hv2
    have hP' : va_P (gD (kG K)) vwCl (zw (kG K) (kw K) J) T'.heap := by rw [e1]; exact hW
    obtain ⟨t2, a1, b1⟩ := kv v' J hp p e s m args below meth c0 Q T'.heap (locs ++ Ll) ls B0 hq hP' hl hS' T' rfl X'
    rw [← zst] at a1
    exact ⟨t2, st t2 a1, b1⟩
  · obtain ⟨-, -, hS'⟩ := vx_keep h0 e1 hS (fun _ _ h => h) (fun _ h => h) hL9 hF
    rw [hE] at hq
    obtain ⟨hr9, ht9, hnc, rfl⟩ := hq
    have hP' : va_P (gD (kG K)) vwCl (zw (kG K) (kw K) J) T'.heap := by rw [e1]; exact hW
    obtain ⟨h, k, v, ⟨pre, x, suf, hsp, hpre, hcov, hx0, hlk, hca, rfl⟩, htl, hkv, hPk⟩ := kx E J hx
    have hwx := vx_catch (p := p) (l := kl K) (e := e) (R := kR K) (s := s) (m := m) (args := args) (below := below) (meth := meth) (c := c0) (H := T'.heap) (locs := locs ++ Ll) (cells := u.1 + mc.1) (slots := u.2 + mc.2) (ls := ls) (rest := S.map (zv (kG K))) (pc := pc) (E := E) (ce := ce) (q := q)
      (Q := vx_MQ below (zQ (kG K) (kw K) PK) (zX (kG K) (kw K) nX) args s mcK.1 mcK.2 (fun q => gb (kG K) ≤ q)) hown pre x suf (ht9.trans hsp) (fun z hz => Or.inr ⟨(hpre z hz).1, by
        obtain ⟨nm, g1, g2⟩ := (hpre z hz).2
        exact ⟨nm, hts _ g1, hnc.1 _ g2⟩⟩) hcov hx0 (hts _ hlk) (va_tabs rfl (rfl : s.vm = s.vm) (hnc.2 _ hca)) (by rw [e1]; exact hce) hcv hcl
      (zw_tail (u := (u.1 + mc.1, u.2 + mc.2)) b1 (b2.trans hb) htl (by rw [← hnl]; exact hl) hkv (fun ls' pc' hdg' => W.widen hu.1 hu.2 (vx_ret (W.iret b1 (b2.trans hb) hr9 (fun t ht hW => ⟨some (.int v), J, rfl, hPk, by rw [ht]; exact hP', hS'.F ht⟩) (fun q hq => hS'.2.2 q hq) hdg' b6))))
    obtain ⟨t2, a1, c1⟩ := hwx T' rfl X'
    exact ⟨t2, st.trans a1, c1⟩
end ZLW
