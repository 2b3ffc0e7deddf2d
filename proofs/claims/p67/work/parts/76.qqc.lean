/-! JDK's METHODS: new cells, calls, ends -/
theorem va_Pc1 {D : va_G} {cl : List vw_C} {q : Nat × va_E} {ws : va_W} {H : Heap} (h1 : va_at D cl q H) (h2 : va_P D cl ws H) : va_P D cl (q :: ws) H := fun k x hk => by
  cases k with
  | zero => cases hk; exact h1
  | succ k => exact h2 k x hk
theorem va_Dc1 {A : Nat → Prop} {D : va_G} {cl : List vw_C} {H : Heap} {q : Nat × va_E} {ws : va_W} (hP : va_P D cl ws H) (hq : H.size ≤ q.1) (hA : A q.1) (h : va_D A ws) : va_D A (q :: ws) := by
  have lt : ∀ (k : Nat) (x : Nat × va_E), ws[k]? = some x → x.1 < q.1 := fun k x hk => Nat.lt_of_lt_of_le (hP k x hk).lt hq
  refine ⟨fun i j x y hi hj he => ?_, fun k x hk => ?_⟩
  · cases i with
    | zero =>
      cases j with
      | zero => rfl
      | succ j => cases hi; have := lt j y hj; omega
    | succ i =>
      cases j with
      | zero => cases hj; have := lt i x hi; omega
      | succ j => rw [h.1 i j x y hi hj he]
  · cases k with
    | zero => cases hk; exact hA
    | succ k => exact h.2 k x hk
/-- all that lies above the frame's cells may be written -/
def qFr (G : zG) : Prop := ∀ q, gb G ≤ q → gF G q
section QQB
variable {K : zK} {u : Nat × Nat} {pc : Nat} {L L' : List (Nat × Value)} {S : List Value} {ws : va_W} {cc : ByteArray} {own nm : String} {ret : Option FieldType} {mc : Nat × Nat} {P : Option Value → va_W → Prop}
/-- fewer cells, in another order -/
theorem qq_sub (w' : va_W) (is : List Nat) (hn : va_nd is = true) (hs : is.map (fun i => ws[i]?) = w'.map some) (k : QQ K u pc L S w') : QQ K u pc L S ws := fun p e s m args below meth c Q H locs ls B hq hP hD hl hS =>
  k p e s m args below meth c Q H locs ls B hq (hP.sub is (by
    have e1 : is.filterMap (fun i => ws[i]?) = (is.map (fun i => ws[i]?)).filterMap id := by rw [List.filterMap_map]; rfl
    rw [e1, hs, List.filterMap_map]
    exact List.filterMap_some)) (hD.sub is hn hs) hl hS
/-- cells 1 and 0, then the rest behind cell 2 -/
theorem qq_swap {x y z : Nat × va_E} {R : va_W} (k : QQ K u pc L S (y :: x :: R)) : QQ K u pc L S (x :: y :: z :: R) := fun p e s m args below meth c Q H locs ls B hq hP hD hl hS => by
  have at' : ∀ (i : Nat) (q : Nat × va_E), (y :: x :: R)[i]? = some q → ∃ j, (x :: y :: z :: R)[j]? = some q ∧ (i = 0 → j = 1) ∧ (i = 1 → j = 0) ∧ (1 < i → j = i + 1) := fun i q h => by
    match i, h with
    | 0, h => exact ⟨1, h, fun _ => rfl, fun h => by omega, fun h => by omega⟩
    | 1, h => exact ⟨0, h, fun h => by omega, fun _ => rfl, fun h => by omega⟩
    | i + 2, h => exact ⟨i + 3, h, fun h => by omega, fun h => by omega, fun _ => rfl⟩
  refine k p e s m args below meth c Q H locs ls B hq (fun i q h => ?_) ⟨fun i j a b hi hj he => ?_, fun i q h => ?_⟩ hl hS
  · obtain ⟨j, hj, -⟩ := at' i q h
    exact hP j q hj
  · obtain ⟨i', h1, a1, a2, a3⟩ := at' i a hi
    obtain ⟨j', h2, b1, b2, b3⟩ := at' j b hj
    have := hD.1 i' j' a b h1 h2 he
    by_cases i0 : i = 0 <;> by_cases j0 : j = 0 <;> by_cases i1 : i = 1 <;> by_cases j1 : j = 1 <;> omega
  · obtain ⟨j, hj, -⟩ := at' i q h
    exact hD.2 j q hj
theorem qq_newb {N : Nat} (hb : kcc K = cc) {x : Int32} (hx0 : ¬ x < 0) (hxN : x.toNatClampNeg = N) (hby : N ≤ 536870912) (hR : u.1 + 1 ≤ (kR K).cells ∧ u.2 + N ≤ (kR K).slots) (hfr : qFr (kG K)) (hdg : decode cc pc = .ok (.newarray .byte, 2)) (kk : ∀ h : Nat, QQ K (u.1 + 1, u.2 + N) (pc + 2) L (.ref h :: S) ((h, .inl (gA (kG K) 21, N, .inl (fun _ => 0))) :: ws)) : QQ K u pc L (.int x :: S) ws := by
  intro p e s m args below meth c0 Q H locs ls B hq hP hD hl hS
  have B0 := B
  obtain ⟨b1, b2, b3, hts, hown, b6, hK, hO1, hb0, hG, hw, hst⟩ := B
  refine va_newaK (atype := .byte) (N := N) b1 (b2.trans hb) (hts _ (tg_of (by decide +kernel) (by decide +kernel))) rfl hdg rfl hx0 hxN (by show N * 1 ≤ _; omega) hR.1 hR.2 rfl fun H1 cA e1 z1 o1 hAr hNm => ?_
  have hcA : cA = gA (kG K) 21 := Option.some.inj (hNm.symm.trans (hK.2 1 (gA (kG K) 21, .byte) rfl).2)
  have hk : ∀ (k : Nat) (x : Nat × va_E), ws[k]? = some x → H1[x.1]? = H[x.1]? := fun k x hx => o1 x.1 (hP k x hx).lt
  refine kk H.size p e s m args below meth c0 Q H1 locs ls B0 hq (va_Pc1 ?_ (hP.kept hk)) (va_Dc1 hP (Nat.le_refl _) (hfr _ (Nat.le_trans hb0 hS.1)) hD) hl ⟨Nat.le_trans hS.1 (by rw [z1]; omega), fun x g1 g2 => (o1 x (Nat.lt_of_lt_of_le g1 hS.1)).trans (hS.2.1 x g1 g2), hS.2.2⟩
  show H1[H.size]? = some (vp_cell (gA (kG K) 21) (N, .inl (fun _ => 0)))
  rw [e1, hcA]
  rfl
theorem qq_new {C : String} {T : u_T} {N ci index : Nat} {ty : Nat → FieldType} (hb : kcc K = cc) (ho : kown K = own) (hc : qOK ci C T N ty) (hcl : Cond.classLink own index C ∈ TG) (hinst : Cond.instantiable C N ∈ TG) (hini : Cond.initialized C ∈ TG) {fs : List Value} (hfs : ∀ j, j < N → fs.getD j .null = defaultValue (ty j)) (hR : u.1 + 1 ≤ (kR K).cells ∧ u.2 + N ≤ (kR K).slots) (hfr : qFr (kG K)) (hdg : decode cc pc = .ok (.new index, 3)) (kk : ∀ h : Nat, QQ K (u.1 + 1, u.2 + N) (pc + 3) L (.ref h :: S) ((h, .inr (ci, fs)) :: ws)) : QQ K u pc L S ws := by
  intro p e s m args below meth c0 Q H locs ls B hq hP hD hl hS
  have B0 := B
  obtain ⟨b1, b2, b3, hts, hown, b6, hK, hO1, hb0, hG, hw, hst⟩ := B
  rw [ho] at hown
  have hKn := hK.1 ci _ hc.1
  refine W.newcK b1 (b2.trans hb) hown (hts _ hcl) (hts _ hinst) (hts _ hini) rfl hdg hR.1 hR.2 hKn.2.1 rfl fun H1 kC hkC e1 z1 o1 => ?_
  have hk : ∀ (k : Nat) (x : Nat × va_E), ws[k]? = some x → H1[x.1]? = H[x.1]? := fun k x hx => o1 x.1 (hP k x hx).lt
  refine kk H.size p e s m args below meth c0 Q H1 locs ls B0 hq (va_Pc1 ?_ (hP.kept hk)) (va_Dc1 hP (Nat.le_refl _) (hfr _ (Nat.le_trans hb0 hS.1)) hD) hl ⟨Nat.le_trans hS.1 (by rw [z1]; omega), fun x g1 g2 => (o1 x (Nat.lt_of_lt_of_le g1 hS.1)).trans (hS.2.1 x g1 g2), hS.2.2⟩
  refine ⟨_, hc.1, (u_born ty hts hc.2.1 hKn hkC e1 hc.2.2.1).to (fun j hj => ?_)⟩
  show defaultValue (ty j) = fs.getD j .null
  exact (hfs j hj).symm
theorem qq_obj (hb : kcc K = cc) (ho : kown K = own) {d a index : Nat} (hR : kR K = zR d mc) (hd : Nat.ble 2 d = true) (h8 : Nat.ble (S.map fun v => v.category).sum 8 = true) (hlink : Cond.methodLink own index objectInit ∈ TG) (hdg : decode cc pc = .ok (.invokespecial index, 3)) (kk : QQ K u (pc + 3) L S ws) : QQ K u pc L (.ref a :: S) ws := by
  intro p e s m args below meth c0 Q H locs ls B hq hP hD hl hS
  have z := kk p e s m args below meth c0 Q H locs ls B hq hP hD hl hS
  obtain ⟨b1, b2, b3, hts, hown, -⟩ := B
  rw [ho] at hown
  have w1 : Cond.instanceMethod objectInit ∈ TG := tg_of (by decide +kernel) (by decide +kernel)
  have w2 : Cond.code objectInit ⟨#[0xb1]⟩ 1 none ∈ TG := tg_of (by decide +kernel) (by decide +kernel)
  have hd := Nat.le_of_ble_eq_true hd
  have h9 := lv_room (m := m) (pc := pc) (ls := ls) (rest := []) (Nat.le_of_ble_eq_true h8)
  refine W.objInit b1 (b2.trans hb) hown (hts _ hlink) (hts _ w1) (hts _ w2) rfl (hl.1.trans b3.symm) rfl hdg (by rw [hR]; show 1 ≤ d; omega) ?_ z
  rw [hR]
  show 2 * (F0 m pc ls _).monitorRoom + _ + 12 ≤ 40 * d
  have h10 : 2 * (F0 m pc ls (Value.ref a :: S)).monitorRoom + (S.map fun v => v.category).sum ≤ 8 := h9
  omega
/-! ends -/
theorem qq_iret (hb : kcc K = cc) (hE : kPh K = phQ (kG K) nm (some .int) mc P) (hu : u.1 ≤ mc.1 ∧ u.2 ≤ mc.2) {v : Int32} (hdg : decode cc pc = .ok (.ireturn, 1)) (h : P (some (.int v)) ws) : QQ K u pc L [.int v] ws := by
  intro p e s m args below meth c Q H locs ls B hq hP hD hl hS
  rw [hE] at hq
  obtain ⟨⟨-, hr⟩, -, ht, rfl⟩ := hq
  refine W.widen hu.1 hu.2 (vx_ret ?_)
  exact W.iret B.1 (B.2.1.trans hb) hr (fun t ht hW => ⟨some (.int v), ws, rfl, h, by rw [ht]; exact hP, hD, hS.F ht⟩) (fun q hq => hS.2.2 q hq) hdg B.2.2.2.2.2.1
theorem qq_nret (hb : kcc K = cc) {ty : FieldType} (hE : kPh K = phQ (kG K) nm (some ty) mc P) (hu : u.1 ≤ mc.1 ∧ u.2 ≤ mc.2) {v : Int32} (hv : narrow ty (.int v) = .int v) (hdg : decode cc pc = .ok (.ireturn, 1)) (h : P (some (.int v)) ws) : QQ K u pc L [.int v] ws := by
  intro p e s m args below meth c Q H locs ls B hq hP hD hl hS
  rw [hE] at hq
  obtain ⟨⟨-, hr⟩, -, ht, rfl⟩ := hq
  refine W.widen hu.1 hu.2 (vx_ret ?_)
  exact W.zret B.1 (B.2.1.trans hb) hr hv (fun t ht hW => ⟨some (.int v), ws, rfl, h, by rw [ht]; exact hP, hD, hS.F ht⟩) (fun q hq => hS.2.2 q hq) hdg B.2.2.2.2.2.1
theorem qq_vret (hb : kcc K = cc) (hE : kPh K = phQ (kG K) nm none mc P) (hu : u.1 ≤ mc.1 ∧ u.2 ≤ mc.2) (hdg : decode cc pc = .ok (.return_, 1)) (h : P none ws) : QQ K u pc L [] ws := by
  intro p e s m args below meth c Q H locs ls B hq hP hD hl hS
  rw [hE] at hq
  obtain ⟨⟨-, hr⟩, -, ht, rfl⟩ := hq
  refine W.widen hu.1 hu.2 (vx_ret ?_)
  exact W.vret B.1 (B.2.1.trans hb) hr (fun t ht hW => ⟨none, ws, rfl, h, by rw [ht]; exact hP, hD, hS.F ht⟩) (fun q hq => hS.2.2 q hq) hdg B.2.2.2.2.2.1
theorem qq_aret (hb : kcc K = cc) {ty : FieldType} (hE : kPh K = phQ (kG K) nm (some ty) mc P) (hty : (∃ n, ty = .object n) ∨ ∃ t, ty = .array t) (hu : u.1 ≤ mc.1 ∧ u.2 ≤ mc.2) {a : Nat} (hdg : decode cc pc = .ok (.areturn, 1)) (h : P (some (.ref a)) ws) : QQ K u pc L [.ref a] ws := by
  intro p e s m args below meth c Q H locs ls B hq hP hD hl hS
  rw [hE] at hq
  obtain ⟨⟨-, hr⟩, -, ht, rfl⟩ := hq
  refine W.widen hu.1 hu.2 (vx_ret ?_)
  exact W.aret B.1 (B.2.1.trans hb) hr hty (Or.inr ⟨_, rfl⟩) (fun t ht hW => ⟨some (.ref a), ws, rfl, h, by rw [ht]; exact hP, hD, hS.F ht⟩) (fun q hq => hS.2.2 q hq) hdg B.2.2.2.2.2.1
/-! calls -/
theorem qWl_blind {G : zG} {ws : va_W} {av : List Value} {l : Launch} : FrameBlind (va_Pc av (fun U => qWl G ws U ∧ l.stackTraces = false)) := fun a U g mk q => by
  obtain ⟨q0, ⟨q1, q2, q3, q4, q5, q6, q7⟩, q8⟩ := q
  exact ⟨q0, ⟨q1, q2, va_K.moved (u := U) (U := U.calling g mk a) (Vm.Alike.refl U.vm) q3, zOld_same (s := U) (t := U.calling g mk a) rfl rfl q4, q5, q6, va_Nw.same (u := U) (U := U.calling g mk a) rfl rfl q7⟩, q8⟩
theorem qq_callee {s : State} {H : Heap} {locs : List Loc} {av : List Value} {p : Program} {m : MethodId} {args : Array Value} {meth : Method} {c : Code} (B : zB K p s m args meth c) (hC : qCl s) (hP : va_P (gD (kG K)) vwCl ws H) (hD : va_D (gF (kG K)) ws) (hS : va_S (gF (kG K)) s.heap H locs) : ∀ U : State, U.heap = H → s.WarmedH U.vm → va_Pc av (fun U => qWl (kG K) ws U ∧ (kl K).stackTraces = false) av.toArray U := fun U hU hW => by
  obtain ⟨-, -, -, -, -, -, hK, hO, hb, hG, hw, hst⟩ := B
  exact ⟨rfl, ⟨by rw [hU]; exact hP, hD, va_K.moved hW.alike hK, zOld_warm hW (by rw [hU]; exact hS.2.1) hO, Nat.le_trans hb (by rw [hU]; exact hS.1), hG, va_Nw.warmC hW hC⟩, hst⟩
theorem qq_run {mc' : Nat × Nat} {J : Option Value → va_W → Prop} {p : Program} {e : Env} {s : State} {m : MethodId} {args : Array Value} {below : List Frame} {meth : Method} {c : Code} {Q : State → Prop} {H : Heap} {locs : List Loc} {ls : Array Slot} {a9 : Array Value} {st0 : List Value} (B : zB K p s m args meth c) (hq : kPh K below args s meth c Q) (hl : lv_has ls (knL K) L) (hS : va_S (gF (kG K)) s.heap H locs)
    (hr : vx_Run p (kl K) e (kR K) s m args below meth c H locs u.1 u.2 mc'.1 mc'.2 (F0 m pc ls st0) S (qQ (kG K) J a9) yX (gF (kG K)))
    (kv : ∀ v w, J v w → QQ K (u.1 + mc'.1, u.2 + mc'.2) (pc + 3) L (v.toList ++ S) w) : W p (kl K) e (kR K) s m args below meth c H locs u.1 u.2 Q (F0 m pc ls st0) := by
  intro T hT Xs
  rcases hr T hT Xs with ⟨v, st₀, t, T', Ll, h0, X', hL, e1, e2, ⟨v', w, hv, hp, hW, hD', hF⟩, st⟩ | ⟨q, st₀, t, T', Ll, E, ce, h0, X', hL, e1, e2, hx, hce, hcv, hcl, st⟩
  · obtain ⟨-, -, hS'⟩ := vx_keep h0 e1 hS (fun _ _ h => h) (fun _ h => h) hL hF
    have hv2 : v = v' := by injection hv
    subst hv2
    obtain ⟨t2, a1, b1⟩ := kv v w hp p e s m args below meth c Q T'.heap (locs ++ Ll) ls B hq (by rw [e1]; exact hW) hD' hl hS' T' rfl X'
    exact ⟨t2, st t2 a1, b1⟩
  · exact hx.elim
variable {y x : MethodName} {bc : ByteArray} {nL n d dK index : Nat} {rt : Option FieldType} {mc' : Nat × Nat} {as st9 : List Value} {J : Option Value → va_W → Prop}
theorem qq_invS (hb : kcc K = cc) (ho : kown K = own) (hR : kR K = zR dK mc) (hE : kPh K = phQ (kG K) nm ret mc P) (hMk : zMk y bc nL rt n) (hn : as.length = n) (hd : Nat.ble (d + 1) dK = true) (hu : u.1 + mc'.1 ≤ mc.1 ∧ u.2 + mc'.2 ≤ mc.2) (hst : st9 = as.reverse ++ S)
    (hlink : Cond.methodLink own index y ∈ TG) (hstt : Cond.static y ∈ TG) (h8 : Nat.ble (S.map fun v => v.category).sum 8 = true) (hdg : decode cc pc = .ok (.invokestatic index, 3))
    (hM : QC (kG K) (kl K) (y, bc, nL, rt) d mc' as ws J) (kv : ∀ v w, J v w → QQ K (u.1 + mc'.1, u.2 + mc'.2) (pc + 3) L (v.toList ++ S) w) : QQ K u pc L st9 ws := by
  intro p e s m args below meth c0 Q H locs ls B hq hP hD hl hS
  have B0 := B
  obtain ⟨b1, b2, b3, hts, hown, b6, hK, hO1, -, hG, hw, -⟩ := B
  rw [ho] at hown
  have hq0 := hq
  rw [hE] at hq0
  have hg : ∀ x ∈ va_wsS own index y (WS (y, bc, nL, rt)), x ∈ TG := fun x hx => by
    unfold va_wsS at hx
    rcases List.mem_append.mp hx with hx | hx
    · simp only [List.mem_cons, List.not_mem_nil, or_false] at hx
      rcases hx with rfl | rfl | rfl
      · exact hlink
      · exact hstt
      · exact hMk.1.2
    · exact (zWS_good hMk x hx).1
  exact qq_run B0 hq hl hS (vx_runS (As := as) (n := n) ⟨b1, b2.trans hb, b3, hown, hts⟩ hM (va_cwS n hts (goodIn_TG hg) rfl rfl rfl hMk.2.1 (by rw [hR]; exact zroom hd hMk.2.2)) ⟨qWl_blind, qq_callee B0 hq0.2.1 hP hD hS⟩ rfl hn (hl.1.trans rfl) hst (lv_room (Nat.le_of_ble_eq_true h8)) hdg (by rw [hR]; exact hu)) kv
/-- a method of the receiver's own class -/
theorem qq_inv {C : String} {T : u_T} {N ci : Nat} {ty : Nat → FieldType} (hb : kcc K = cc) (ho : kown K = own) (hR : kR K = zR dK mc) (hE : kPh K = phQ (kG K) nm ret mc P) (hMk : zMk y bc nL rt n) (hn : as.length = n) (hc : qOK ci C T N ty) (hyC : y.cls = C) (q0 : Nat) {a : Nat} {fs : List Value} (he : ws[q0]? = some (a, .inr (ci, fs))) (hd : Nat.ble (d + 1) dK = true) (hu : u.1 + mc'.1 ≤ mc.1 ∧ u.2 + mc'.2 ≤ mc.2) (hst : st9 = as.reverse ++ .ref a :: S)
    (hlink : Cond.methodLink own index y ∈ TG) (hins : Cond.instanceMethod y ∈ TG) (hsel : Cond.selects y.cls y y ∈ TG) (h8 : Nat.ble (S.map fun v => v.category).sum 8 = true) (hdg : decode cc pc = .ok (.invokevirtual index, 3))
    (hM : QC (kG K) (kl K) (y, bc, nL, rt) d mc' (.ref a :: as) ws J) (kv : ∀ v w, J v w → QQ K (u.1 + mc'.1, u.2 + mc'.2) (pc + 3) L (v.toList ++ S) w) : QQ K u pc L st9 ws := by
  intro p e s m args below meth c0 Q H locs ls B hq hP hD hl hS
  have B0 := B
  obtain ⟨b1, b2, b3, hts, hown, b6, hK, hO1, -, hG, hw, -⟩ := B
  rw [ho] at hown
  have hq0 := hq
  rw [hE] at hq0
  have hg : ∀ x ∈ wsV own index y.cls y (WS (y, bc, nL, rt)), x ∈ TG := fun x hx => by
    unfold wsV at hx
    rcases List.mem_append.mp hx with hx | hx
    · simp only [List.mem_cons, List.not_mem_nil, or_false] at hx
      rcases hx with rfl | rfl | rfl | rfl
      · exact hlink
      · exact hins
      · exact hsel
      · exact hMk.1.2
    · exact (zWS_good hMk x hx).1
  exact qq_run B0 hq hl hS (vx_runV (As := as) (C := y.cls) (n := n) ⟨b1, b2.trans hb, b3, hown, hts⟩ hM (cwV n hts (goodIn_TG hg) rfl rfl rfl ⟨rfl, hMk.2.1⟩ (by rw [hR]; exact zroom hd hMk.2.2)) ⟨qWl_blind, by rw [hyC]; exact va_recv (q := (C, T, N)) hK hP hc.1 he, qq_callee B0 hq0.2.1 hP hD hS⟩ rfl hn (hl.1.trans rfl) hst (lv_room (Nat.le_of_ble_eq_true h8)) hdg (by rw [hR]; exact hu)) kv
/-- a method of a class above: x is named, y is found by the receiver -/
theorem qq_invU {C owner : String} {T : u_T} {N ci : Nat} {ty : Nat → FieldType} {bx : ByteArray} {nx : Nat} {rx : Option FieldType} (hb : kcc K = cc) (ho : kown K = own) (hR : kR K = zR dK mc) (hE : kPh K = phQ (kG K) nm ret mc P) (hMk : zMk y bc nL rt n) (hn : as.length = n) (hc : qOK ci C T N ty) (q0 : Nat) {a : Nat} {fs : List Value} (he : ws[q0]? = some (a, .inr (ci, fs))) (hd : Nat.ble (d + 1) dK = true) (hu : u.1 + mc'.1 ≤ mc.1 ∧ u.2 + mc'.2 ≤ mc.2) (hst : st9 = as.reverse ++ .ref a :: S)
    (hxo : x = ⟨owner, x.name, x.desc⟩) (hMx : zMk x bx nx rx n) (hinx : Cond.instanceMethod x ∈ TG) (hlink : Cond.methodLink own index x ∈ TG) (hsame : Cond.sameMethod x.cls owner x.name x.desc ∈ TG) (hsel : Cond.selects C x y ∈ TG) (hins : Cond.instanceMethod y ∈ TG) (h8 : Nat.ble (S.map fun v => v.category).sum 8 = true) (hdg : decode cc pc = .ok (.invokevirtual index, 3))
    (hM : QC (kG K) (kl K) (y, bc, nL, rt) d mc' (.ref a :: as) ws J) (kv : ∀ v w, J v w → QQ K (u.1 + mc'.1, u.2 + mc'.2) (pc + 3) L (v.toList ++ S) w) : QQ K u pc L st9 ws := by
  intro p e s m args below meth c0 Q H locs ls B hq hP hD hl hS
  have B0 := B
  obtain ⟨b1, b2, b3, hts, hown, b6, hK, hO1, -, hG, hw, -⟩ := B
  rw [ho] at hown
  have hq0 := hq
  rw [hE] at hq0
  have hG9 := zWS_good hMk
  have hR9 := zroom (mc := mc') (mcK := mc) hd hMk.2.2
  have hxc : x.cls = owner := congrArg MethodName.cls hxo
  have cw : va_CU (kR K) s args own C owner index x y bc nL rt (WS (y, bc, nL, rt)) (zR d mc') mc'.1 mc'.2 n := ⟨⟨rfl, rfl, by rw [hR]; exact hR9.1, by rw [hR]; exact hR9.2, pay_in hts hG9, List.mem_cons_self⟩, hts _ hMk.1.1, hts _ hMk.1.2, ⟨by rw [← hxc]; exact hMx.2.1.1, by rw [← hxc]; exact hMx.2.1.2.1⟩, fun sig h => by
    have h2 := hMx.2.1.2.2
    rw [h] at h2
    exact (Option.some.inj h2).symm, hts _ hlink, hts _ hsame, by rw [← hxo]; exact va_Decl.of (hts _ hinx) (hts _ hMx.1.1), hts _ hsel, hts _ hins⟩
  exact qq_run B0 hq hl hS (vx_runU (As := as) (C := C) (owner := owner) (n := n) ⟨b1, b2.trans hb, b3, hown, hts⟩ hM cw ⟨qWl_blind, va_recv (q := (C, T, N)) hK hP hc.1 he, qq_callee B0 hq0.2.1 hP hD hS⟩ rfl hn (hl.1.trans rfl) hst (lv_room (Nat.le_of_ble_eq_true h8)) hdg (by rw [hR]; exact hu)) kv
/-- super.m(..) -/
theorem qq_invSU {C : String} {T : u_T} {N ci : Nat} {ty : Nat → FieldType} (hb : kcc K = cc) (ho : kown K = own) (hR : kR K = zR dK mc) (hE : kPh K = phQ (kG K) nm ret mc P) (hMk : zMk y bc nL rt n) (hn : as.length = n) (hc : qOK ci C T N ty) (q0 : Nat) {a : Nat} {fs : List Value} (he : ws[q0]? = some (a, .inr (ci, fs))) (hd : Nat.ble (d + 1) dK = true) (hu : u.1 + mc'.1 ≤ mc.1 ∧ u.2 + mc'.2 ≤ mc.2) (hst : st9 = as.reverse ++ .ref a :: S)
    (hno : y.name ≠ "<init>") (hlink : Cond.methodLink own index y ∈ TG) (hsame : Cond.sameMethod y.cls y.cls y.name y.desc ∈ TG) (hsup : Cond.superclass own y.cls ∈ TG) (hins : Cond.instanceMethod y ∈ TG) (h8 : Nat.ble (S.map fun v => v.category).sum 8 = true) (hdg : decode cc pc = .ok (.invokespecial index, 3))
    (hM : QC (kG K) (kl K) (y, bc, nL, rt) d mc' (.ref a :: as) ws J) (kv : ∀ v w, J v w → QQ K (u.1 + mc'.1, u.2 + mc'.2) (pc + 3) L (v.toList ++ S) w) : QQ K u pc L st9 ws := by
  intro p e s m args below meth c0 Q H locs ls B hq hP hD hl hS
  have B0 := B
  obtain ⟨b1, b2, b3, hts, hown, b6, hK, hO1, -, hG, hw, -⟩ := B
  rw [ho] at hown
  have hq0 := hq
  rw [hE] at hq0
  have hG9 := zWS_good hMk
  have hR9 := zroom (mc := mc') (mcK := mc) hd hMk.2.2
  have cw : va_CS (kR K) s args own index y bc nL rt (WS (y, bc, nL, rt)) (zR d mc') mc'.1 mc'.2 n := ⟨⟨rfl, rfl, by rw [hR]; exact hR9.1, by rw [hR]; exact hR9.2, pay_in hts hG9, List.mem_cons_self⟩, hts _ hlink, hts _ hsame, hts _ hsup, hts _ hins, hts _ hMk.1.2, hts _ hMk.1.1, hno, fun sig h => by
    have h2 := hMk.2.1.2.2
    rw [h] at h2
    exact (Option.some.inj h2).symm⟩
  have hKn := hK.1 ci _ hc.1
  obtain ⟨-, hfc, kC, hkC, hkind⟩ := hKn
  exact qq_run B0 hq hl hS (vx_runSU (As := as) (C := C) (n := n) ⟨hfc, kC, hkC, hkind⟩ ⟨b1, b2.trans hb, b3, hown, hts⟩ hM cw ⟨qWl_blind, va_recv (q := (C, T, N)) hK hP hc.1 he, qq_callee B0 hq0.2.1 hP hD hS⟩ rfl hn (hl.1.trans rfl) hst (lv_room (Nat.le_of_ble_eq_true h8)) hdg (by rw [hR]; exact hu)) kv
/-- a constructor -/
theorem qq_init (hb : kcc K = cc) (ho : kown K = own) (hR : kR K = zR dK mc) (hE : kPh K = phQ (kG K) nm ret mc P) (hMk : zMk y bc nL none n) (hn : as.length = n) {a : Nat} (hd : Nat.ble (d + 1) dK = true) (hu : u.1 + mc'.1 ≤ mc.1 ∧ u.2 + mc'.2 ≤ mc.2) (hst : st9 = as.reverse ++ .ref a :: S)
    (hy : y.name = "<init>") (hlink : Cond.methodLink own index y ∈ TG) (hins : Cond.instanceMethod y ∈ TG) (h8 : Nat.ble (S.map fun v => v.category).sum 8 = true) (hdg : decode cc pc = .ok (.invokespecial index, 3))
    (hM : QC (kG K) (kl K) (y, bc, nL, none) d mc' (.ref a :: as) ws J) (kv : ∀ v w, J v w → QQ K (u.1 + mc'.1, u.2 + mc'.2) (pc + 3) L (v.toList ++ S) w) : QQ K u pc L st9 ws := by
  intro p e s m args below meth c0 Q H locs ls B hq hP hD hl hS
  have B0 := B
  obtain ⟨b1, b2, b3, hts, hown, b6, hK, hO1, -, hG, hw, -⟩ := B
  rw [ho] at hown
  have hq0 := hq
  rw [hE] at hq0
  exact qq_run B0 hq hl hS (vx_runI (As := as) (n := n) ⟨b1, b2.trans hb, b3, hown, hts⟩ hM (cwI n hts (zWS_good hMk) rfl rfl rfl (hts _ hMk.1.2) (hts _ hlink) (hts _ hins) hy hMk.2.1 (by rw [hR]; exact zroom hd hMk.2.2)) ⟨qWl_blind, qq_callee B0 hq0.2.1 hP hD hS⟩ rfl hn (hl.1.trans rfl) hst (lv_room (Nat.le_of_ble_eq_true h8)) hdg (by rw [hR]; exact hu)) kv
/-- a method of a String that is kept -/
theorem qq_invStr (hb : kcc K = cc) (ho : kown K = own) (hR : kR K = zR dK mc) (hE : kPh K = phQ (kG K) nm ret mc P) (hMk : zMk y bc nL rt n) (hn : as.length = n) {r rv N9 : Nat} {b9 : List Int32} (hr : zStr (kG K) r rv N9 b9) (hy : y.cls = "java/lang/String") (hd : Nat.ble (d + 1) dK = true) (hu : u.1 + mc'.1 ≤ mc.1 ∧ u.2 + mc'.2 ≤ mc.2) (hst : st9 = as.reverse ++ .ref (gad (kG K) r) :: S)
    (hlink : Cond.methodLink own index y ∈ TG) (hins : Cond.instanceMethod y ∈ TG) (hsel : Cond.selects y.cls y y ∈ TG) (h8 : Nat.ble (S.map fun v => v.category).sum 8 = true) (hdg : decode cc pc = .ok (.invokevirtual index, 3))
    (hM : QC (kG K) (kl K) (y, bc, nL, rt) d mc' (.ref (gad (kG K) r) :: as) ws J) (kv : ∀ v w, J v w → QQ K (u.1 + mc'.1, u.2 + mc'.2) (pc + 3) L (v.toList ++ S) w) : QQ K u pc L st9 ws := by
  intro p e s m args below meth c0 Q H locs ls B hq hP hD hl hS
  have B0 := B
  obtain ⟨b1, b2, b3, hts, hown, b6, hK, hO1, -, hG, hw, -⟩ := B
  rw [ho] at hown
  have hq0 := hq
  rw [hE] at hq0
  have hg : ∀ x ∈ wsV own index y.cls y (WS (y, bc, nL, rt)), x ∈ TG := fun x hx => by
    unfold wsV at hx
    rcases List.mem_append.mp hx with hx | hx
    · simp only [List.mem_cons, List.not_mem_nil, or_false] at hx
      rcases hx with rfl | rfl | rfl | rfl
      · exact hlink
      · exact hins
      · exact hsel
      · exact hMk.1.2
    · exact (zWS_good hMk x hx).1
  exact qq_run B0 hq hl hS (vx_runV (As := as) (C := y.cls) (n := n) ⟨b1, b2.trans hb, b3, hown, hts⟩ hM (cwV n hts (goodIn_TG hg) rfl rfl rfl ⟨rfl, hMk.2.1⟩ (by rw [hR]; exact zroom hd hMk.2.2)) ⟨qWl_blind, by rw [hy]; exact vk_recv (i := 0) (adK := fun _ => gad (kG K) r) (hr s hO1) (by decide) hS, qq_callee B0 hq0.2.1 hP hD hS⟩ rfl hn (hl.1.trans rfl) hst (lv_room (Nat.le_of_ble_eq_true h8)) hdg (by rw [hR]; exact hu)) kv
end QQB
