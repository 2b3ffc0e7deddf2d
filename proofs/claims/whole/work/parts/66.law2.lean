/-! THE LAW'S BODY: its context, rows of the script (role 2000), calls -/
abbrev lZ : Type := List Frame → Array Value → State → State → Prop
def phL (G : zG) (b L : Nat) (xs : Nat → Int32) (Z : lZ) : zPh := fun below args s meth _ Q =>
  zNc s ∧ meth.sig.returnType = ret ∧ args = #[.ref b] ∧ va_X b L xs s s.heap ∧ b < s.heap.size ∧ gb G = s.heap.size ∧ Q = Z below args s
def zKl (K : zK) (b L : Nat) (xs : Nat → Int32) (Z : lZ) : Prop := kcc K = code ∧ kown K = RL ∧ knL K = 9 ∧ kR K = room_1 ∧ kPh K = phL (kG K) b L xs Z ∧ gad (kG K) 2000 = b
theorem zNc.same {u U : State} (h : u.vm = U.vm) (z : zNc u) : zNc U := ⟨fun q hq => va_Nc.moved (by rw [h]; exact Vm.Alike.refl _) (z.1 q hq), fun E hE => va_Nw.same rfl h (z.2 E hE)⟩
theorem zlroom {d nL : Nat} {mc : Nat × Nat} (hd : Nat.ble d 12 = true) (hn : Nat.ble nL 21 = true) : (zR d mc).frames + 1 ≤ room_1.frames ∧ 8 + (nL + 11) + (zR d mc).locals ≤ room_1.locals := by
  have h1 := Nat.le_of_ble_eq_true hd
  have h2 := Nat.le_of_ble_eq_true hn
  constructor
  · show d + 1 ≤ 14
    omega
  · show 8 + (nL + 11) + 40 * d ≤ 530
    omega
section ZLB
variable {K : zK} {u : Nat × Nat} {pc : Nat} {Lc Lc' : List (Nat × Value)} {S : List Value} {I : zM} {b L : Nat} {xs : Nat → Int32} {Z : lZ}
theorem zl_sld (hK : zKl K b L xs Z) {i x : Int32} (hin : vp_in i L) (hx : xs i.toNatClampNeg = x) (hdg : decode code pc = .ok (.iaload, 1)) (kk : ZZ K u (pc + 1) Lc (.int x :: S) I) : ZZ K u pc Lc (.int i :: .ref 2000 :: S) I := by
  subst hx
  intro p e s m args below meth c0 Q H locs ls B hq hP hl hS
  have z := kk p e s m args below meth c0 Q H locs ls B hq hP hl hS
  obtain ⟨hb, -, -, -, hE, hg⟩ := hK
  rw [hE] at hq
  obtain ⟨-, -, -, hX, hbl, hgb, -⟩ := hq
  have hz : List.map (zv (kG K)) (.int i :: .ref 2000 :: S) = .int i :: .ref b :: S.map (zv (kG K)) := by rw [← hg]; rfl
  rw [hz]
  exact va_sld (A := fun q => gb (kG K) ≤ q) B.1 (B.2.1.trans hb) hX hbl (fun h => absurd hbl (by rw [← hgb]; exact Nat.not_lt.mpr h)) hS hin hdg z
theorem zl_slen (hK : zKl K b L xs Z) (hdg : decode code pc = .ok (.arraylength, 1)) (kk : ZZ K u (pc + 1) Lc (.int (Int32.ofNat L) :: S) I) : ZZ K u pc Lc (.ref 2000 :: S) I := by
  intro p e s m args below meth c0 Q H locs ls B hq hP hl hS
  have z := kk p e s m args below meth c0 Q H locs ls B hq hP hl hS
  obtain ⟨hb, -, -, -, hE, hg⟩ := hK
  rw [hE] at hq
  obtain ⟨-, -, -, hX, hbl, hgb, -⟩ := hq
  have hz : List.map (zv (kG K)) (.ref 2000 :: S) = .ref b :: S.map (zv (kG K)) := by rw [← hg]; rfl
  rw [hz]
  exact va_slen (A := fun q => gb (kG K) ≤ q) B.1 (B.2.1.trans hb) hX hbl (fun h => absurd hbl (by rw [← hgb]; exact Nat.not_lt.mpr h)) hS hdg z
theorem zl_dstore {cc : ByteArray} (hb : kcc K = cc) {i : Nat} {x : UInt64} (hdg : decode cc pc = .ok (.dstore i, 2)) {nL : Nat} (hnl : knL K = nL) (hn : Nat.blt (i + 1) nL = true) (ps : List Nat) (hL : zpk ((i, .double x) :: Lc.filter (fun q => !(q.1 == i) && (!(q.1 == i + 1) && !(q.1 + 1 == i && q.2.category == 2)))) ps = Lc') (k : ZZ K u (pc + 2) Lc' S I) : ZZ K u pc Lc (.double x :: S) I := by
  intro p e s m args below meth c Q H locs ls B hq hP hl hS
  have ef : ∀ G : zG, (Lc.map (zl G)).filter (fun q => !(q.1 == i) && (!(q.1 == i + 1) && !(q.1 + 1 == i && q.2.category == 2))) = (Lc.filter (fun q => !(q.1 == i) && (!(q.1 == i + 1) && !(q.1 + 1 == i && q.2.category == 2)))).map (zl G) := fun G => by
    rw [List.filter_map]
    congr 1
    apply List.filter_congr
    intro q _
    simp only [Function.comp, zl, zv_cat]
  exact lv_dstore B.1 (B.2.1.trans hb) hdg hl (by rw [hnl]; exact Nat.blt_eq.mp hn) (by rw [ef]; rfl) (fun ls' hl' => k p e s m args below meth c Q H locs ls' B hq hP (zpk_map (L := (i, .double x) :: Lc.filter (fun q => !(q.1 == i) && (!(q.1 == i + 1) && !(q.1 + 1 == i && q.2.category == 2)))) hL hl') hS)
theorem zl_dload {cc : ByteArray} (hb : kcc K = cc) {i : Nat} {x : UInt64} (hdg : decode cc pc = .ok (.dload i, 2)) (q : Nat) (hL : Lc[q]? = some (i, .double x)) (k : ZZ K u (pc + 2) Lc (.double x :: S) I) : ZZ K u pc Lc S I :=
  fun p e s m args below meth c Q H locs ls B hq hP hl hS => lv_dload B.1 (B.2.1.trans hb) hdg (zat hl hL) (k p e s m args below meth c Q H locs ls B hq hP hl hS)
variable {y : MethodName} {bc : ByteArray} {nL n d : Nat} {ret' : Option FieldType} {mc : Nat × Nat} {as st9 : List Value} {P : Option Value → zM → Prop} {index : Nat} {hh : List (Nat × Nat × Nat × Nat)}
theorem zl_run {p : Program} {e : Env} {s : State} {m : MethodId} {args : Array Value} {below : List Frame} {meth : Method} {c : Code} {Q : State → Prop} {H : Heap} {locs : List Loc} {ls : Array Slot} {a : Array Value} {st0 : List Value} (B : zB K p s m args meth c) (hq : kPh K below args s meth c Q) (hl : lv_has ls (knL K) (Lc.map (zl (kG K)))) (hS : va_S (fun q => gb (kG K) ≤ q) s.heap H locs)
    (hr : vx_Run p (kl K) e (kR K) s m args below meth c H locs u.1 u.2 mc.1 mc.2 (F0 m pc ls st0) (S.map (zv (kG K))) (zQ (kG K) (kw K) P a) (zX (kG K) (kw K) nX) (fun q => gb (kG K) ≤ q))
    (kv : ∀ v J, P v J → ZZ K (u.1 + mc.1, u.2 + mc.2) (pc + 3) Lc (v.toList ++ S) J) : W p (kl K) e (kR K) s m args below meth c H locs u.1 u.2 Q (F0 m pc ls st0) := by
  intro T hT Xs
  rcases hr T hT Xs with ⟨v, st₀, t, T', Ll, h0, X', hL, e1, e2, ⟨v', J, hv, hp, hW, hF⟩, st⟩ | ⟨q, st₀, t, T', Ll, E, ce, h0, X', hL, e1, e2, ⟨J, hx, hW, hF⟩, hce, hcv, hcl, st⟩
  · obtain ⟨-, -, hS'⟩ := vx_keep h0 e1 hS (fun _ _ h => h) (fun _ h => h) hL hF
    have hv2 : v = v'.map (zv (kG K)) := by injection hv
    subst hv2
    have hP' : va_P (gD (kG K)) vwCl (zw (kG K) (kw K) J) T'.heap := by rw [e1]; exact hW
    obtain ⟨t2, a1, b1⟩ := kv v' J hp p e s m args below meth c Q T'.heap (locs ++ Ll) ls B hq hP' hl hS' T' rfl X'
    rw [← zst] at a1
    exact ⟨t2, st t2 a1, b1⟩
  · exact hx.elim
theorem zl_inv (hK : zKl K b L xs Z) (hMk : zMk y bc nL ret' n) (hn : as.length = n) {c r : Nat} {T : u_T} {N : Nat} {ty : Nat → FieldType} (hc : cOK c y.cls T N ty) (hr : isT (kw K) c r) (hd : Nat.ble d 12 = true) (hu : u.1 + mc.1 ≤ 601024 ∧ u.2 + mc.2 ≤ 7293034) (hst : st9 = as.reverse ++ .ref r :: S)
    (hlink : Cond.methodLink RL index y ∈ TG) (hins : Cond.instanceMethod y ∈ TG) (hsel : Cond.selects y.cls y y ∈ TG) (h8 : Nat.ble (S.map fun v => v.category).sum 8 = true) (hdg : decode code pc = .ok (.invokevirtual index, 3))
    (hM : CT (kG K) (kw K) (kl K) (y, bc, nL, ret') d mc (.ref r :: as) I P nX) (kv : ∀ v J, P v J → ZZ K (u.1 + mc.1, u.2 + mc.2) (pc + 3) Lc (v.toList ++ S) J) : ZZ K u pc Lc st9 I := by
  intro p e s m args below meth c0 Q H locs ls B hq hP hl hS
  have B0 := B
  obtain ⟨hb, ho, hnl, hR, -, -⟩ := hK
  obtain ⟨b1, b2, b3, hts, hown, b6, hKK, hO1, -, hG, hw, -⟩ := B
  rw [ho] at hown
  obtain ⟨⟨h1, h2, h3, h4⟩, h5, h6, h7, -⟩ := hc
  have hat := zw_at (G := kG K) (I := I) hr.1.1 hr.1.2
  rw [zc_obj hr h3] at hat
  have hg : ∀ x ∈ wsV RL index y.cls y (WS (y, bc, nL, ret')), x ∈ TG := fun x hx => by
    unfold wsV at hx
    rcases List.mem_append.mp hx with hx | hx
    · simp only [List.mem_cons, List.not_mem_nil, or_false] at hx
      rcases hx with rfl | rfl | rfl | rfl
      · exact hlink
      · exact hins
      · exact hsel
      · exact hMk.1.2
    · exact (zWS_good hMk x hx).1
  refine zl_run B0 hq hl hS (vx_runV (As := as.map (zv (kG K))) (C := y.cls) (n := n) ⟨b1, b2.trans hb, b3, hown, hts⟩ hM (cwV n hts (goodIn_TG hg) rfl rfl rfl ⟨rfl, hMk.2.1⟩ (by rw [hR]; exact zlroom hd hMk.2.2)) ⟨zWl_blind, va_recv (q := (y.cls, T, N)) hKK hP h1 hat, fun U hU hW => zz_callee B0 hP hS U hU hW⟩ rfl (by rw [List.length_map]; exact hn) (hl.1.trans rfl) ?_ (zroomS h8) hdg (by rw [hR]; exact hu)) kv
  rw [hst]
  show List.map (zv (kG K)) (as.reverse ++ .ref r :: S) = _
  rw [List.map_append, List.map_reverse]
  rfl
theorem zl_blind {G : zG} {w : Nat × Nat} {I : zM} {av : List Value} {l : Launch} : FrameBlind (va_Pc av (fun U => (zWl G w I U ∧ l.stackTraces = false) ∧ zNc U)) := fun a U g mk q => by
  obtain ⟨q0, q1, q2⟩ := q
  obtain ⟨r0, r1⟩ := zWl_blind (G := G) (w := w) (I := I) (av := av) (l := l) a U g mk ⟨q0, q1⟩
  exact ⟨r0, r1, zNc.same (u := U) (U := U.calling g mk a) rfl q2⟩
theorem zl_invW (hK : zKl K b L xs Z) (hMk : zMh y bc nL ret' hh n) (hn : as.length = n) (hd : Nat.ble d 12 = true) (hu : u.1 + mc.1 ≤ 601024 ∧ u.2 + mc.2 ≤ 7293034) (hst : st9 = as.reverse ++ S) (hret : ret' = some .int)
    (hlink : Cond.methodLink RL index y ∈ TG) (h8 : Nat.ble (S.map fun v => v.category).sum 8 = true) (hdg : decode code pc = .ok (.invokestatic index, 3))
    (hM : CTW (kG K) (kw K) (kl K) (y, bc, nL, ret') hh d mc as I P) (kv : ∀ v J, P v J → ZZ K (u.1 + mc.1, u.2 + mc.2) (pc + 3) Lc (v.toList ++ S) J) : ZZ K u pc Lc st9 I := by
  intro p e s m args below meth c0 Q H locs ls B hq hP hl hS
  have B0 := B
  obtain ⟨hb, ho, hnl, hR, hE, -⟩ := hK
  obtain ⟨b1, b2, b3, hts, hown, b6, hKK, hO1, -, hG, hw, -⟩ := B
  rw [ho] at hown
  have hnc : zNc s := by rw [hE] at hq; exact hq.1
  have hg : ∀ x ∈ va_wsS RL index y (WSH (y, bc, nL, ret') hh), x ∈ TG := fun x hx => by
    unfold va_wsS at hx
    rcases List.mem_append.mp hx with hx | hx
    · simp only [List.mem_cons, List.not_mem_nil, or_false] at hx
      rcases hx with rfl | rfl | rfl
      · exact hlink
      · exact hMk.1.2.2
      · exact hMk.1.2.1
    · rcases List.mem_cons.mp hx with rfl | hx
      · exact hMk.1.1
      · exact hx
  refine zl_run B0 hq hl hS (vx_runSX (As := as.map (zv (kG K))) (n := n) ⟨b1, b2.trans hb, b3, hown, hts⟩ hM (vx_cwSW n hts (goodIn_TG hg) rfl rfl rfl hMk.2.1 (by rw [hR]; exact zlroom hd hMk.2.2)) ⟨zl_blind, fun U hU hW => ⟨rfl, (zz_callee (av := []) B0 hP hS U hU hW).2, zNc.warm hW hnc⟩⟩ rfl (by rw [List.length_map]; exact hn) (hl.1.trans rfl) ?_ (zroomS h8) hdg (by rw [hR]; exact hu)) kv
  rw [hst]
  show List.map (zv (kG K)) (as.reverse ++ S) = _
  rw [List.map_append, List.map_reverse]
end ZLB
