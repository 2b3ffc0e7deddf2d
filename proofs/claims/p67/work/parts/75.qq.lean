/-! JDK's METHODS: the walk over a list of cells with plain addresses -/
/-- what clone asks of the tables, and no table keeps -/
def qCl (s : State) : Prop := va_Nw (.castable "[B" "java/lang/Cloneable") s
abbrev yX : String → State → State → Prop := fun _ _ _ => False
def qQ (G : zG) (P : Option Value → va_W → Prop) : Array Value → State → Outcome → State → Prop := fun _ st o t => ∃ (v : Option Value) (w : va_W), o = .returned v ∧ P v w ∧ va_P (gD G) vwCl w t.heap ∧ va_D (gF G) w ∧ va_F (gF G) st t
def phQ (G : zG) (nm : String) (ret : Option FieldType) (mc : Nat × Nat) (P : Option Value → va_W → Prop) : zPh := fun below args s meth c Q =>
  (meth.name = nm ∧ meth.sig.returnType = ret) ∧ qCl s ∧ (∀ x ∈ c.exceptionTable.toList, False) ∧ Q = vx_MQ below (qQ G P) yX args s mc.1 mc.2 (gF G)
def QQ (K : zK) (u : Nat × Nat) (pc : Nat) (L : List (Nat × Value)) (S : List Value) (ws : va_W) : Prop :=
  ∀ (p : Program) (e : Env) (s : State) (m : MethodId) (args : Array Value) (below : List Frame) (meth : Method) (c : Code) (Q : State → Prop) (H : Heap) (locs : List Loc) (ls : Array Slot),
    zB K p s m args meth c → kPh K below args s meth c Q → va_P (gD (kG K)) vwCl ws H → va_D (gF (kG K)) ws → lv_has ls (knL K) L → va_S (gF (kG K)) s.heap H locs →
    W p (kl K) e (kR K) s m args below meth c H locs u.1 u.2 Q (F0 m pc ls S)
def qWl (G : zG) (ws : va_W) (U : State) : Prop := va_P (gD G) vwCl ws U.heap ∧ va_D (gF G) ws ∧ va_K (gD G) vwCl (zt G) U ∧ zOld G U ∧ gb G ≤ U.heap.size ∧ zGok G ∧ qCl U
def QC (G : zG) (l : Launch) (M : zMt) (d : Nat) (mc : Nat × Nat) (as : List Value) (ws : va_W) (P : Option Value → va_W → Prop) : Prop :=
  vx_Met l M.1 (WS M) (zR d mc) (va_Pc as (fun U => qWl G ws U ∧ l.stackTraces = false)) (qQ G P) yX mc.1 mc.2 (gF G)
def qIs (K : zK) (y : MethodName) (cc : ByteArray) (nL : Nat) (ret : Option FieldType) (d : Nat) (mc : Nat × Nat) (P : Option Value → va_W → Prop) : Prop := kcc K = cc ∧ kown K = y.cls ∧ knL K = nL ∧ kR K = zR d mc ∧ kPh K = phQ (kG K) y.name ret mc P
theorem wok00 : wOK (0, 0) := ⟨Nat.zero_le _, fun r _ h => absurd h (Nat.not_lt_zero r)⟩
theorem qc_of {G : zG} {l : Launch} {y : MethodName} {cc : ByteArray} {nL d : Nat} {ret : Option FieldType} {mc : Nat × Nat} {as : List Value} {ws : va_W} {P : Option Value → va_W → Prop} (hy : plainName y.cls = true) (hn : Nat.ble (lg_sl as).length nL = true) (L0 : List (Nat × Value)) (hL : lv_args 0 as = L0)
    (body : ∀ K : zK, kG K = G → kl K = l → qIs K y cc nL ret d mc P → QQ K (0, 0) 0 L0 [] ws) : QC G l (y, cc, nL, ret) d mc as ws P := by
  refine vx_ofW (cc := cc) (maxL := nL) (ret := ret) hy rfl ?_
  intro p e s m args below meth c s₁ B hml hx hv
  obtain ⟨rfl, ⟨hP, hD, hK, hO, hbl, hG, hC⟩, hst⟩ := hv
  have hts0 := atoms_spec (ws := WS (y, cc, nL, ret)) B.pre
  have hb := body (G, (0, 0), y.cls, cc, nL, l, zR d mc, phQ G y.name ret mc P) rfl rfl ⟨rfl, rfl, rfl, rfl, rfl⟩
  have hl := lv_entry as (n := nL) (Nat.le_of_ble_eq_true hn)
  rw [hL] at hl
  rw [lg_entry_eq]
  exact hb p e s m _ below meth c _ s.heap [] _ ⟨B.exec, B.bytes, hml, fun x hx => hts0 x (List.mem_cons_of_mem _ hx), findClass_of_methodNamed B.named, B.notSynchronized, hK, hO, hbl, hG, wok00, hst⟩ ⟨⟨(name_of_methodNamed B.named B.method).1, B.returns⟩, hC, hx, rfl⟩ hP hD hl va_S.rf
theorem QC.weak {G : zG} {l : Launch} {M : zMt} {d : Nat} {mc : Nat × Nat} {as : List Value} {ws : va_W} {P P' : Option Value → va_W → Prop} (h : QC G l M d mc as ws P) (hP : ∀ v w, P v w → P' v w) : QC G l M d mc as ws P' := by
  intro p e ha hc hk s m args below h1 h2 h3 h4
  obtain ⟨k, o, g1, g2, g3, g4⟩ := h p e ha hc hk s m args below h1 h2 h3 h4
  refine ⟨k, o, g1, g2, g3, ?_⟩
  rcases g4 with ⟨⟨v, w, e1, e2, e3⟩, e4⟩ | ⟨q, e1, E, ce, Ll, f1, f3⟩
  · exact Or.inl ⟨⟨v, w, e1, hP _ _ e2, e3⟩, e4⟩
  · exact f1.elim
section QQA
variable {K : zK} {u : Nat × Nat} {pc : Nat} {L L' : List (Nat × Value)} {S : List Value} {ws : va_W} {cc : ByteArray} {own : String}
theorem qq_iconst (hb : kcc K = cc) {n : Int} {v : Int32} (hdg : decode cc pc = .ok (.iconst n, 1)) (hv : Int32.ofInt n = v) (k : QQ K u (pc + 1) L (.int v :: S) ws) : QQ K u pc L S ws :=
  fun p e s m args below meth c Q H locs ls B hq hP hD hl hS => lv_iconst B.1 (B.2.1.trans hb) hdg hv (k p e s m args below meth c Q H locs ls B hq hP hD hl hS)
theorem qq_bipush (hb : kcc K = cc) {n : Int} {v : Int32} (hdg : decode cc pc = .ok (.bipush n, 2)) (hv : (Int8.ofInt n).toInt32 = v) (k : QQ K u (pc + 2) L (.int v :: S) ws) : QQ K u pc L S ws :=
  fun p e s m args below meth c Q H locs ls B hq hP hD hl hS => lv_bipush B.1 (B.2.1.trans hb) hdg hv (k p e s m args below meth c Q H locs ls B hq hP hD hl hS)
theorem qq_sipush (hb : kcc K = cc) {n : Int} {v : Int32} (hdg : decode cc pc = .ok (.sipush n, 3)) (hv : (Int16.ofInt n).toInt32 = v) (k : QQ K u (pc + 3) L (.int v :: S) ws) : QQ K u pc L S ws :=
  fun p e s m args below meth c Q H locs ls B hq hP hD hl hS => lv_sipush B.1 (B.2.1.trans hb) hdg hv (k p e s m args below meth c Q H locs ls B hq hP hD hl hS)
theorem qq_iload_n (hb : kcc K = cc) {f : Fin 4} {i : Nat} {x : Int32} (hdg : decode cc pc = .ok (.iload_n f, 1)) (hi : (f : Nat) = i) (q : Nat) (hL : L[q]? = some (i, .int x)) (k : QQ K u (pc + 1) L (.int x :: S) ws) : QQ K u pc L S ws :=
  fun p e s m args below meth c Q H locs ls B hq hP hD hl hS => lv_iload_n B.1 (B.2.1.trans hb) hdg hi (lv_at hl q hL) (k p e s m args below meth c Q H locs ls B hq hP hD hl hS)
theorem qq_iload (hb : kcc K = cc) {i : Nat} {x : Int32} (hdg : decode cc pc = .ok (.iload i, 2)) (q : Nat) (hL : L[q]? = some (i, .int x)) (k : QQ K u (pc + 2) L (.int x :: S) ws) : QQ K u pc L S ws :=
  fun p e s m args below meth c Q H locs ls B hq hP hD hl hS => lv_iload B.1 (B.2.1.trans hb) hdg (lv_at hl q hL) (k p e s m args below meth c Q H locs ls B hq hP hD hl hS)
theorem qq_aload_n (hb : kcc K = cc) {f : Fin 4} {i r : Nat} (hdg : decode cc pc = .ok (.aload_n f, 1)) (hi : (f : Nat) = i) (q : Nat) (hL : L[q]? = some (i, .ref r)) (k : QQ K u (pc + 1) L (.ref r :: S) ws) : QQ K u pc L S ws :=
  fun p e s m args below meth c Q H locs ls B hq hP hD hl hS => lv_aload_n B.1 (B.2.1.trans hb) hdg hi (lv_at hl q hL) (k p e s m args below meth c Q H locs ls B hq hP hD hl hS)
theorem qq_aload (hb : kcc K = cc) {i r : Nat} (hdg : decode cc pc = .ok (.aload i, 2)) (q : Nat) (hL : L[q]? = some (i, .ref r)) (k : QQ K u (pc + 2) L (.ref r :: S) ws) : QQ K u pc L S ws :=
  fun p e s m args below meth c Q H locs ls B hq hP hD hl hS => lv_aload B.1 (B.2.1.trans hb) hdg (lv_at hl q hL) (k p e s m args below meth c Q H locs ls B hq hP hD hl hS)
theorem qq_istore_n (hb : kcc K = cc) {f : Fin 4} {i : Nat} {x : Int32} (hdg : decode cc pc = .ok (.istore_n f, 1)) (hi : (f : Nat) = i) {nL : Nat} (hnl : knL K = nL) (hn : Nat.blt i nL = true) (hL : (i, .int x) :: L.filter (zcut i) = L') (k : QQ K u (pc + 1) L' S ws) : QQ K u pc L (.int x :: S) ws :=
  fun p e s m args below meth c Q H locs ls B hq hP hD hl hS => lv_istore_n B.1 (B.2.1.trans hb) hdg hi hl (by rw [hnl]; exact Nat.blt_eq.mp hn) rfl (fun ls' hl' => k p e s m args below meth c Q H locs ls' B hq hP hD (by rw [← hL]; exact hl') hS)
theorem qq_istore (hb : kcc K = cc) {i : Nat} {x : Int32} (hdg : decode cc pc = .ok (.istore i, 2)) {nL : Nat} (hnl : knL K = nL) (hn : Nat.blt i nL = true) (hL : (i, .int x) :: L.filter (zcut i) = L') (k : QQ K u (pc + 2) L' S ws) : QQ K u pc L (.int x :: S) ws :=
  fun p e s m args below meth c Q H locs ls B hq hP hD hl hS => lv_istore B.1 (B.2.1.trans hb) hdg hl (by rw [hnl]; exact Nat.blt_eq.mp hn) rfl (fun ls' hl' => k p e s m args below meth c Q H locs ls' B hq hP hD (by rw [← hL]; exact hl') hS)
theorem qq_astore_n (hb : kcc K = cc) {f : Fin 4} {i r : Nat} (hdg : decode cc pc = .ok (.astore_n f, 1)) (hi : (f : Nat) = i) {nL : Nat} (hnl : knL K = nL) (hn : Nat.blt i nL = true) (hL : (i, .ref r) :: L.filter (zcut i) = L') (k : QQ K u (pc + 1) L' S ws) : QQ K u pc L (.ref r :: S) ws :=
  fun p e s m args below meth c Q H locs ls B hq hP hD hl hS => lv_astore_n B.1 (B.2.1.trans hb) hdg hi hl (by rw [hnl]; exact Nat.blt_eq.mp hn) rfl (fun ls' hl' => k p e s m args below meth c Q H locs ls' B hq hP hD (by rw [← hL]; exact hl') hS)
theorem qq_astore (hb : kcc K = cc) {i r : Nat} (hdg : decode cc pc = .ok (.astore i, 2)) {nL : Nat} (hnl : knL K = nL) (hn : Nat.blt i nL = true) (hL : (i, .ref r) :: L.filter (zcut i) = L') (k : QQ K u (pc + 2) L' S ws) : QQ K u pc L (.ref r :: S) ws :=
  fun p e s m args below meth c Q H locs ls B hq hP hD hl hS => lv_astore B.1 (B.2.1.trans hb) hdg hl (by rw [hnl]; exact Nat.blt_eq.mp hn) rfl (fun ls' hl' => k p e s m args below meth c Q H locs ls' B hq hP hD (by rw [← hL]; exact hl') hS)
theorem qq_iinc (hb : kcc K = cc) {i : Nat} {n : Int} {x v : Int32} (hdg : decode cc pc = .ok (.iinc i n, 3)) (q : Nat) (hx : L[q]? = some (i, .int x)) (hv : x + Int32.ofInt n = v) {nL : Nat} (hnl : knL K = nL) (hn : Nat.blt i nL = true) (hL : (i, .int v) :: L.filter (zcut i) = L') (k : QQ K u (pc + 3) L' S ws) : QQ K u pc L S ws :=
  fun p e s m args below meth c Q H locs ls B hq hP hD hl hS => lv_iinc (k := q) (v := v) B.1 (B.2.1.trans hb) hdg hl hx hv (by rw [hnl]; exact Nat.blt_eq.mp hn) rfl (fun ls' hl' => k p e s m args below meth c Q H locs ls' B hq hP hD (by rw [← hL]; exact hl') hS)
theorem qq_iadd (hb : kcc K = cc) {x y : Int32} (hdg : decode cc pc = .ok (.iadd, 1)) (k : QQ K u (pc + 1) L (.int (x + y) :: S) ws) : QQ K u pc L (.int y :: .int x :: S) ws :=
  fun p e s m args below meth c Q H locs ls B hq hP hD hl hS => lv_iadd B.1 (B.2.1.trans hb) hdg (k p e s m args below meth c Q H locs ls B hq hP hD hl hS)
theorem qq_isub (hb : kcc K = cc) {x y : Int32} (hdg : decode cc pc = .ok (.isub, 1)) (k : QQ K u (pc + 1) L (.int (x - y) :: S) ws) : QQ K u pc L (.int y :: .int x :: S) ws :=
  fun p e s m args below meth c Q H locs ls B hq hP hD hl hS => lv_isub B.1 (B.2.1.trans hb) hdg (k p e s m args below meth c Q H locs ls B hq hP hD hl hS)
theorem qq_imul (hb : kcc K = cc) {x y : Int32} (hdg : decode cc pc = .ok (.imul, 1)) (k : QQ K u (pc + 1) L (.int (x * y) :: S) ws) : QQ K u pc L (.int y :: .int x :: S) ws :=
  fun p e s m args below meth c Q H locs ls B hq hP hD hl hS => lv_imul B.1 (B.2.1.trans hb) hdg (k p e s m args below meth c Q H locs ls B hq hP hD hl hS)
theorem qq_idiv (hb : kcc K = cc) {x y : Int32} (hdg : decode cc pc = .ok (.idiv, 1)) (hne : ¬ y = 0) (k : QQ K u (pc + 1) L (.int (x / y) :: S) ws) : QQ K u pc L (.int y :: .int x :: S) ws :=
  fun p e s m args below meth c Q H locs ls B hq hP hD hl hS => lv_idiv B.1 (B.2.1.trans hb) hdg hne (k p e s m args below meth c Q H locs ls B hq hP hD hl hS)
theorem qq_irem (hb : kcc K = cc) {x y : Int32} (hdg : decode cc pc = .ok (.irem, 1)) (hne : ¬ y = 0) (k : QQ K u (pc + 1) L (.int (x - x / y * y) :: S) ws) : QQ K u pc L (.int y :: .int x :: S) ws :=
  fun p e s m args below meth c Q H locs ls B hq hP hD hl hS => lv_irem B.1 (B.2.1.trans hb) hdg hne (k p e s m args below meth c Q H locs ls B hq hP hD hl hS)
theorem qq_ishl (hb : kcc K = cc) {x y : Int32} (hdg : decode cc pc = .ok (.ishl, 1)) (k : QQ K u (pc + 1) L (.int (x <<< (y &&& 31)) :: S) ws) : QQ K u pc L (.int y :: .int x :: S) ws :=
  fun p e s m args below meth c Q H locs ls B hq hP hD hl hS => lv_ishl B.1 (B.2.1.trans hb) hdg (k p e s m args below meth c Q H locs ls B hq hP hD hl hS)
theorem qq_ishr (hb : kcc K = cc) {x y : Int32} (hdg : decode cc pc = .ok (.ishr, 1)) (k : QQ K u (pc + 1) L (.int (x >>> (y &&& 31)) :: S) ws) : QQ K u pc L (.int y :: .int x :: S) ws :=
  fun p e s m args below meth c Q H locs ls B hq hP hD hl hS => lv_ishr B.1 (B.2.1.trans hb) hdg (k p e s m args below meth c Q H locs ls B hq hP hD hl hS)
theorem qq_ineg (hb : kcc K = cc) {x : Int32} (hdg : decode cc pc = .ok (.ineg, 1)) (k : QQ K u (pc + 1) L (.int (-x) :: S) ws) : QQ K u pc L (.int x :: S) ws :=
  fun p e s m args below meth c Q H locs ls B hq hP hD hl hS => lv_ineg B.1 (B.2.1.trans hb) hdg (k p e s m args below meth c Q H locs ls B hq hP hD hl hS)
theorem qq_i2b (hb : kcc K = cc) {x : Int32} (hdg : decode cc pc = .ok (.i2b, 1)) (k : QQ K u (pc + 1) L (.int x.toInt8.toInt32 :: S) ws) : QQ K u pc L (.int x :: S) ws :=
  fun p e s m args below meth c Q H locs ls B hq hP hD hl hS => lv_i2b B.1 (B.2.1.trans hb) hdg rfl (k p e s m args below meth c Q H locs ls B hq hP hD hl hS)
theorem qq_dup (hb : kcc K = cc) {v : Value} (hdg : decode cc pc = .ok (.dup, 1)) (hv : v.category = 1) (k : QQ K u (pc + 1) L (v :: v :: S) ws) : QQ K u pc L (v :: S) ws :=
  fun p e s m args below meth c Q H locs ls B hq hP hD hl hS => lv_dup B.1 (B.2.1.trans hb) hdg hv (k p e s m args below meth c Q H locs ls B hq hP hD hl hS)
theorem qq_pop (hb : kcc K = cc) {v : Value} (hdg : decode cc pc = .ok (.pop, 1)) (hv : v.category = 1) (k : QQ K u (pc + 1) L S ws) : QQ K u pc L (v :: S) ws :=
  fun p e s m args below meth c Q H locs ls B hq hP hD hl hS => lv_pop B.1 (B.2.1.trans hb) hdg hv (k p e s m args below meth c Q H locs ls B hq hP hD hl hS)
theorem qq_goto (hb : kcc K = cc) {off : Int} {tgt : Nat} (hdg : decode cc pc = .ok (.goto off, 3)) (ht : (pc : Int) + off = (tgt : Int)) (k : QQ K u tgt L S ws) : QQ K u pc L S ws :=
  fun p e s m args below meth c Q H locs ls B hq hP hD hl hS => lv_goto B.1 (B.2.1.trans hb) hdg ht (k p e s m args below meth c Q H locs ls B hq hP hD hl hS)
theorem qq_if_eq (hb : kcc K = cc) {x : Int32} {off : Int} {tgt : Nat} (hdg : decode cc pc = .ok (.ifCond .eq off, 3)) (ht : (pc : Int) + off = (tgt : Int)) (kt : x = 0 → QQ K u tgt L S ws) (kf : ¬ x = 0 → QQ K u (pc + 3) L S ws) : QQ K u pc L (.int x :: S) ws :=
  fun p e s m args below meth c Q H locs ls B hq hP hD hl hS => lv_if_eq B.1 (B.2.1.trans hb) hdg ht (fun z => kt z p e s m args below meth c Q H locs ls B hq hP hD hl hS) (fun z => kf z p e s m args below meth c Q H locs ls B hq hP hD hl hS)
theorem qq_if_ne (hb : kcc K = cc) {x : Int32} {off : Int} {tgt : Nat} (hdg : decode cc pc = .ok (.ifCond .ne off, 3)) (ht : (pc : Int) + off = (tgt : Int)) (kt : ¬ x = 0 → QQ K u tgt L S ws) (kf : x = 0 → QQ K u (pc + 3) L S ws) : QQ K u pc L (.int x :: S) ws :=
  fun p e s m args below meth c Q H locs ls B hq hP hD hl hS => lv_if_ne B.1 (B.2.1.trans hb) hdg ht (fun z => kt z p e s m args below meth c Q H locs ls B hq hP hD hl hS) (fun z => kf z p e s m args below meth c Q H locs ls B hq hP hD hl hS)
theorem qq_if_lt (hb : kcc K = cc) {x : Int32} {off : Int} {tgt : Nat} (hdg : decode cc pc = .ok (.ifCond .lt off, 3)) (ht : (pc : Int) + off = (tgt : Int)) (kt : x < 0 → QQ K u tgt L S ws) (kf : ¬ x < 0 → QQ K u (pc + 3) L S ws) : QQ K u pc L (.int x :: S) ws :=
  fun p e s m args below meth c Q H locs ls B hq hP hD hl hS => lv_if_lt B.1 (B.2.1.trans hb) hdg ht (fun z => kt z p e s m args below meth c Q H locs ls B hq hP hD hl hS) (fun z => kf z p e s m args below meth c Q H locs ls B hq hP hD hl hS)
theorem qq_if_ge (hb : kcc K = cc) {x : Int32} {off : Int} {tgt : Nat} (hdg : decode cc pc = .ok (.ifCond .ge off, 3)) (ht : (pc : Int) + off = (tgt : Int)) (kt : 0 ≤ x → QQ K u tgt L S ws) (kf : ¬ 0 ≤ x → QQ K u (pc + 3) L S ws) : QQ K u pc L (.int x :: S) ws :=
  fun p e s m args below meth c Q H locs ls B hq hP hD hl hS => lv_if_ge B.1 (B.2.1.trans hb) hdg ht (fun z => kt z p e s m args below meth c Q H locs ls B hq hP hD hl hS) (fun z => kf z p e s m args below meth c Q H locs ls B hq hP hD hl hS)
theorem qq_if_gt (hb : kcc K = cc) {x : Int32} {off : Int} {tgt : Nat} (hdg : decode cc pc = .ok (.ifCond .gt off, 3)) (ht : (pc : Int) + off = (tgt : Int)) (kt : 0 < x → QQ K u tgt L S ws) (kf : ¬ 0 < x → QQ K u (pc + 3) L S ws) : QQ K u pc L (.int x :: S) ws :=
  fun p e s m args below meth c Q H locs ls B hq hP hD hl hS => lv_if_gt B.1 (B.2.1.trans hb) hdg ht (fun z => kt z p e s m args below meth c Q H locs ls B hq hP hD hl hS) (fun z => kf z p e s m args below meth c Q H locs ls B hq hP hD hl hS)
theorem qq_if_le (hb : kcc K = cc) {x : Int32} {off : Int} {tgt : Nat} (hdg : decode cc pc = .ok (.ifCond .le off, 3)) (ht : (pc : Int) + off = (tgt : Int)) (kt : x ≤ 0 → QQ K u tgt L S ws) (kf : ¬ x ≤ 0 → QQ K u (pc + 3) L S ws) : QQ K u pc L (.int x :: S) ws :=
  fun p e s m args below meth c Q H locs ls B hq hP hD hl hS => lv_if_le B.1 (B.2.1.trans hb) hdg ht (fun z => kt z p e s m args below meth c Q H locs ls B hq hP hD hl hS) (fun z => kf z p e s m args below meth c Q H locs ls B hq hP hD hl hS)
theorem qq_icmp_eq (hb : kcc K = cc) {x y : Int32} {off : Int} {tgt : Nat} (hdg : decode cc pc = .ok (.if_icmp .eq off, 3)) (ht : (pc : Int) + off = (tgt : Int)) (kt : x = y → QQ K u tgt L S ws) (kf : ¬ x = y → QQ K u (pc + 3) L S ws) : QQ K u pc L (.int y :: .int x :: S) ws :=
  fun p e s m args below meth c Q H locs ls B hq hP hD hl hS => lv_icmp_eq B.1 (B.2.1.trans hb) hdg ht (fun z => kt z p e s m args below meth c Q H locs ls B hq hP hD hl hS) (fun z => kf z p e s m args below meth c Q H locs ls B hq hP hD hl hS)
theorem qq_icmp_ne (hb : kcc K = cc) {x y : Int32} {off : Int} {tgt : Nat} (hdg : decode cc pc = .ok (.if_icmp .ne off, 3)) (ht : (pc : Int) + off = (tgt : Int)) (kt : ¬ x = y → QQ K u tgt L S ws) (kf : x = y → QQ K u (pc + 3) L S ws) : QQ K u pc L (.int y :: .int x :: S) ws :=
  fun p e s m args below meth c Q H locs ls B hq hP hD hl hS => lv_icmp_ne B.1 (B.2.1.trans hb) hdg ht (fun z => kt z p e s m args below meth c Q H locs ls B hq hP hD hl hS) (fun z => kf z p e s m args below meth c Q H locs ls B hq hP hD hl hS)
theorem qq_icmp_lt (hb : kcc K = cc) {x y : Int32} {off : Int} {tgt : Nat} (hdg : decode cc pc = .ok (.if_icmp .lt off, 3)) (ht : (pc : Int) + off = (tgt : Int)) (kt : x < y → QQ K u tgt L S ws) (kf : ¬ x < y → QQ K u (pc + 3) L S ws) : QQ K u pc L (.int y :: .int x :: S) ws :=
  fun p e s m args below meth c Q H locs ls B hq hP hD hl hS => lv_icmp_lt B.1 (B.2.1.trans hb) hdg ht (fun z => kt z p e s m args below meth c Q H locs ls B hq hP hD hl hS) (fun z => kf z p e s m args below meth c Q H locs ls B hq hP hD hl hS)
theorem qq_icmp_ge (hb : kcc K = cc) {x y : Int32} {off : Int} {tgt : Nat} (hdg : decode cc pc = .ok (.if_icmp .ge off, 3)) (ht : (pc : Int) + off = (tgt : Int)) (kt : y ≤ x → QQ K u tgt L S ws) (kf : ¬ y ≤ x → QQ K u (pc + 3) L S ws) : QQ K u pc L (.int y :: .int x :: S) ws :=
  fun p e s m args below meth c Q H locs ls B hq hP hD hl hS => lv_icmp_ge B.1 (B.2.1.trans hb) hdg ht (fun z => kt z p e s m args below meth c Q H locs ls B hq hP hD hl hS) (fun z => kf z p e s m args below meth c Q H locs ls B hq hP hD hl hS)
theorem qq_icmp_gt (hb : kcc K = cc) {x y : Int32} {off : Int} {tgt : Nat} (hdg : decode cc pc = .ok (.if_icmp .gt off, 3)) (ht : (pc : Int) + off = (tgt : Int)) (kt : y < x → QQ K u tgt L S ws) (kf : ¬ y < x → QQ K u (pc + 3) L S ws) : QQ K u pc L (.int y :: .int x :: S) ws :=
  fun p e s m args below meth c Q H locs ls B hq hP hD hl hS => lv_icmp_gt B.1 (B.2.1.trans hb) hdg ht (fun z => kt z p e s m args below meth c Q H locs ls B hq hP hD hl hS) (fun z => kf z p e s m args below meth c Q H locs ls B hq hP hD hl hS)
theorem qq_icmp_le (hb : kcc K = cc) {x y : Int32} {off : Int} {tgt : Nat} (hdg : decode cc pc = .ok (.if_icmp .le off, 3)) (ht : (pc : Int) + off = (tgt : Int)) (kt : x ≤ y → QQ K u tgt L S ws) (kf : ¬ x ≤ y → QQ K u (pc + 3) L S ws) : QQ K u pc L (.int y :: .int x :: S) ws :=
  fun p e s m args below meth c Q H locs ls B hq hP hD hl hS => lv_icmp_le B.1 (B.2.1.trans hb) hdg ht (fun z => kt z p e s m args below meth c Q H locs ls B hq hP hD hl hS) (fun z => kf z p e s m args below meth c Q H locs ls B hq hP hD hl hS)
theorem qq_i2c (hb : kcc K = cc) {x : Int32} (hdg : decode cc pc = .ok (.i2c, 1)) (k : QQ K u (pc + 1) L (.int (x.toUInt32 % 65536).toInt32 :: S) ws) : QQ K u pc L (.int x :: S) ws :=
  fun p e s m args below meth c Q H locs ls B hq hP hD hl hS => lv_i2c B.1 (B.2.1.trans hb) hdg rfl (k p e s m args below meth c Q H locs ls B hq hP hD hl hS)
theorem qq_dup_x1 (hb : kcc K = cc) {va vb : Value} (hdg : decode cc pc = .ok (.dup_x1, 1)) (hva : va.category = 1) (hvb : vb.category = 1) (k : QQ K u (pc + 1) L (va :: vb :: va :: S) ws) : QQ K u pc L (va :: vb :: S) ws :=
  fun p e s m args below meth c Q H locs ls B hq hP hD hl hS => lv_dup_x1 B.1 (B.2.1.trans hb) hdg hva hvb (k p e s m args below meth c Q H locs ls B hq hP hD hl hS)
theorem qq_ifnonnull (hb : kcc K = cc) {x : Nat} {off : Int} {tgt : Nat} (hdg : decode cc pc = .ok (.ifnonnull off, 3)) (ht : (pc : Int) + off = (tgt : Int)) (k : QQ K u tgt L S ws) : QQ K u pc L (.ref x :: S) ws :=
  fun p e s m args below meth c Q H locs ls B hq hP hD hl hS => lv_ifnonnull B.1 (B.2.1.trans hb) hdg ht (k p e s m args below meth c Q H locs ls B hq hP hD hl hS)
theorem qq_ldci (hb : kcc K = cc) (ho : kown K = own) {index : Nat} {v : Int32} (hw : Cond.constant own index v ∈ TG) (hdg : decode cc pc = .ok (.ldc index, 2)) (kk : QQ K u (pc + 2) L (.int v :: S) ws) : QQ K u pc L S ws := by
  intro p e s m args below meth c0 Q H locs ls B hq hP hD hl hS
  have z := kk p e s m args below meth c0 Q H locs ls B hq hP hD hl hS
  obtain ⟨b1, b2, -, hts, hown, -⟩ := B
  rw [ho] at hown
  exact lv_ldc b1 (b2.trans hb) hown (hts _ hw) hdg z
theorem qq_ldcS (hb : kcc K = cc) (ho : kown K = own) (i : Nat) {index r : Nat} {tx : String} (hi : zLdc[i]? = some (own, index, tx, r)) (hdg : decode cc pc = .ok (.ldc index, 2)) (kk : QQ K u (pc + 2) L (.ref (gad (kG K) r) :: S) ws) : QQ K u pc L S ws := by
  intro p e s m args below meth c0 Q H locs ls B hq hP hD hl hS
  have z := kk p e s m args below meth c0 Q H locs ls B hq hP hD hl hS
  obtain ⟨b1, b2, -, hts, hown, -, hK, hO1, -⟩ := B
  rw [ho] at hown
  exact va_ldcS b1 (b2.trans hb) hown (hO1.2.2.2.1 _ (List.mem_of_getElem? hi)) hdg z
theorem qq_compact (hb : kcc K = cc) (ho : kown K = own) {index : Nat} (hlink : Cond.fieldLink own index "java/lang/String" "COMPACT_STRINGS" "Z" ∈ TG) (hdg : decode cc pc = .ok (.getstatic index, 3)) (kk : QQ K u (pc + 3) L (.int 1 :: S) ws) : QQ K u pc L S ws := by
  intro p e s m args below meth c0 Q H locs ls B hq hP hD hl hS
  have z := kk p e s m args below meth c0 Q H locs ls B hq hP hD hl hS
  obtain ⟨b1, b2, -, hts, hown, -, hK, hO1, -⟩ := B
  rw [ho] at hown
  exact va_gets b1 (b2.trans hb) hO1.2.2.2.2.2.2.1 hS hown (hts _ hlink) (fun _ h => h) hdg z
theorem qq_gets (hb : kcc K = cc) (ho : kown K = own) {C n d : String} {r index : Nat} (hO : ∀ s : State, zOld (kG K) s → va_Z C n d (.ref (gad (kG K) r)) (gF (kG K)) s s.heap) (hlink : Cond.fieldLink own index C n d ∈ TG) (hdg : decode cc pc = .ok (.getstatic index, 3)) (kk : QQ K u (pc + 3) L (.ref (gad (kG K) r) :: S) ws) : QQ K u pc L S ws := by
  intro p e s m args below meth c0 Q H locs ls B hq hP hD hl hS
  have z := kk p e s m args below meth c0 Q H locs ls B hq hP hD hl hS
  obtain ⟨b1, b2, -, hts, hown, -, hK, hO1, -⟩ := B
  rw [ho] at hown
  exact va_gets b1 (b2.trans hb) (hO s hO1) hS hown (hts _ hlink) (fun _ h => h) hdg z
/-- a byte of an array that is kept -/
theorem qq_baldT (hb : kcc K = cc) {a N : Nat} {f : Nat → Int32} (hO : ∀ s : State, zOld (kG K) s → va_T .byte a N (fun j => .int (f j)) (gF (kG K)) s s.heap) {i : Int32} (hin : vp_in i N) (hdg : decode cc pc = .ok (.baload, 1)) (kk : QQ K u (pc + 1) L (.int (f i.toNatClampNeg) :: S) ws) : QQ K u pc L (.int i :: .ref a :: S) ws := by
  intro p e s m args below meth c0 Q H locs ls B hq hP hD hl hS
  have z := kk p e s m args below meth c0 Q H locs ls B hq hP hD hl hS
  obtain ⟨b1, b2, -, hts, hown, -, hK, hO1, -⟩ := B
  obtain ⟨cell, h1, h2, h3, h4, h5, h6, h7⟩ := (hO s hO1).kept hS.2.1
  have hlt : i.toNatClampNeg < N := Nat.not_le.mp fun q => hin (Or.inr q)
  exact W.bald (v := .int (f i.toNatClampNeg)) b1 (b2.trans hb) h1 h2 h3 (fun q => hin (q.elim Or.inl (fun q => Or.inr (Nat.le_trans h4 q)))) (h6 _ hlt) rfl rfl hdg z
theorem qq_strVal (hb : kcc K = cc) (ho : kown K = own) {k v N index : Nat} {b : List Int32} (hs : zStr (kG K) k v N b) (hlink : Cond.fieldLink own index "java/lang/String" "value" "[B" ∈ TG) (hdg : decode cc pc = .ok (.getfield index, 3)) (kk : QQ K u (pc + 3) L (.ref (gad (kG K) v) :: S) ws) : QQ K u pc L (.ref (gad (kG K) k) :: S) ws := by
  intro p e s m args below meth c0 Q H locs ls B hq hP hD hl hS
  have z := kk p e s m args below meth c0 Q H locs ls B hq hP hD hl hS
  obtain ⟨b1, b2, -, hts, hown, -, hK, hO1, -⟩ := B
  rw [ho] at hown
  exact vk_getf b1 (b2.trans hb) ((hs s hO1).1 0 (by decide)).2.2.1 hS hown (hts _ hlink) (fun _ h => h) hdg z
theorem qq_strCod (hb : kcc K = cc) (ho : kown K = own) {k v N index : Nat} {b : List Int32} (hs : zStr (kG K) k v N b) (hlink : Cond.fieldLink own index "java/lang/String" "coder" "B" ∈ TG) (hdg : decode cc pc = .ok (.getfield index, 3)) (kk : QQ K u (pc + 3) L (.int 0 :: S) ws) : QQ K u pc L (.ref (gad (kG K) k) :: S) ws := by
  intro p e s m args below meth c0 Q H locs ls B hq hP hD hl hS
  have z := kk p e s m args below meth c0 Q H locs ls B hq hP hD hl hS
  obtain ⟨b1, b2, -, hts, hown, -, hK, hO1, -⟩ := B
  rw [ho] at hown
  exact vk_getf b1 (b2.trans hb) ((hs s hO1).1 0 (by decide)).2.1 hS hown (hts _ hlink) (fun _ h => h) hdg z
theorem qq_strLen (hb : kcc K = cc) {k v N : Nat} {b : List Int32} (hs : zStr (kG K) k v N b) (hdg : decode cc pc = .ok (.arraylength, 1)) (kk : QQ K u (pc + 1) L (.int (Int32.ofNat N) :: S) ws) : QQ K u pc L (.ref (gad (kG K) v) :: S) ws := by
  intro p e s m args below meth c0 Q H locs ls B hq hP hD hl hS
  have z := kk p e s m args below meth c0 Q H locs ls B hq hP hD hl hS
  obtain ⟨b1, b2, -, hts, hown, -, hK, hO1, -⟩ := B
  obtain ⟨cell, h1, h2, h3, h4, h5, h6, h7⟩ := ((hs s hO1).1 0 (by decide)).2.2.2.kept hS.2.1
  exact W.alen (n := Int32.ofNat N) b1 (b2.trans hb) h1 h2 h5 rfl rfl hdg z
/-! fields, arrays -/
def qOK (ci : Nat) (C : String) (T : u_T) (N : Nat) (ty : Nat → FieldType) : Prop := vwCl[ci]? = some (C, T, N) ∧ (∀ w ∈ u_ws C T N, w ∈ TG) ∧ (∀ k, k < N → parseFieldDescriptor (T k).2.2.1 = some (ty k)) ∧ ∀ a, a < N → ∀ b, b < N → a ≠ b → (T a).2.1 ≠ (T b).2.1
theorem qq_get {C ref : String} {T : u_T} {N ci index : Nat} {ty : Nat → FieldType} (hb : kcc K = cc) (ho : kown K = own) (hc : qOK ci C T N ty) (q0 : Nat) {a : Nat} {fs : List Value} (he : ws[q0]? = some (a, .inr (ci, fs))) (k : Nat) (hk : Nat.blt k N = true) (hlink : Cond.fieldLink own index ref (T k).2.1 (T k).2.2.1 ∈ TG) (href : (T k).1 = ref) {v : Value} (hv : fs[k]? = some v) (hdg : decode cc pc = .ok (.getfield index, 3)) (kk : QQ K u (pc + 3) L (v :: S) ws) : QQ K u pc L (.ref a :: S) ws := by
  intro p e s m args below meth c0 Q H locs ls B hq hP hD hl hS
  have z := kk p e s m args below meth c0 Q H locs ls B hq hP hD hl hS
  obtain ⟨b1, b2, -, hts, hown, -, hK, -⟩ := B
  rw [ho] at hown
  exact va_get (ref := ref) b1 (b2.trans hb) hts hc.2.1 hown hK hP q0 he hc.1 k (Nat.blt_eq.mp hk) (hts _ hlink) (by rw [href]; exact fun _ h => h) hv hdg z
theorem qq_put {C ref : String} {T : u_T} {N ci index : Nat} {ty : Nat → FieldType} (hb : kcc K = cc) (ho : kown K = own) (hc : qOK ci C T N ty) (q0 : Nat) {a : Nat} {fs : List Value} (he : ws[q0]? = some (a, .inr (ci, fs))) (k : Nat) (hk : Nat.blt k N = true) (hlink : Cond.fieldLink own index ref (T k).2.1 (T k).2.2.1 ∈ TG) (href : (T k).1 = ref) (hfin : (T k).2.2.2 = false) {v : Value} (hn : narrow (ty k) v = v) (hfit : fits (ty k) v = true) (hlen : k < fs.length) (hdg : decode cc pc = .ok (.putfield index, 3)) {w' : va_W} (hw : ws.set q0 (a, .inr (ci, fs.set k v)) = w') (kk : QQ K u (pc + 3) L S w') : QQ K u pc L (v :: .ref a :: S) ws := by
  intro p e s m args below meth c0 Q H locs ls B hq hP hD hl hS
  have B0 := B
  obtain ⟨b1, b2, -, hts, hown, -, hK, -⟩ := B
  rw [ho] at hown
  refine va_put (ref := ref) b1 (b2.trans hb) hts hc.2.1 ty hc.2.2.1 hc.2.2.2 hown hK hP hD hS q0 he hc.1 k (Nat.blt_eq.mp hk) (hts _ hlink) (by rw [href]; exact fun _ h => h) hfin (hc.2.2.1 k (Nat.blt_eq.mp hk)) hn hfit hlen hdg (fun H1 locs1 hP1 hD1 hS1 => ?_)
  rw [hw] at hP1 hD1
  exact kk p e s m args below meth c0 Q H1 locs1 ls B0 hq hP1 hD1 hl hS1
theorem qq_putF {C ref : String} {T : u_T} {N ci index : Nat} {ty : Nat → FieldType} {ret : Option FieldType} {mc : Nat × Nat} {P : Option Value → va_W → Prop} (hb : kcc K = cc) (ho : kown K = own) (hE : kPh K = phQ (kG K) "<init>" ret mc P) (hc : qOK ci C T N ty) (q0 : Nat) {a : Nat} {fs : List Value} (he : ws[q0]? = some (a, .inr (ci, fs))) (k : Nat) (hk : Nat.blt k N = true) (hlink : Cond.fieldLink own index ref (T k).2.1 (T k).2.2.1 ∈ TG) (href : (T k).1 = ref) (hfin : (T k).2.2.2 = true) (hdecl : (T k).1 = own) {v : Value} (hn : narrow (ty k) v = v) (hfit : fits (ty k) v = true) (hlen : k < fs.length) (hdg : decode cc pc = .ok (.putfield index, 3)) {w' : va_W} (hw : ws.set q0 (a, .inr (ci, fs.set k v)) = w') (kk : QQ K u (pc + 3) L S w') : QQ K u pc L (v :: .ref a :: S) ws := by
  intro p e s m args below meth c0 Q H locs ls B hq hP hD hl hS
  have B0 := B
  obtain ⟨b1, b2, -, hts, hown, -, hK, -⟩ := B
  rw [ho] at hown
  have hq0 := hq
  rw [hE] at hq0
  refine va_putF (ref := ref) b1 (b2.trans hb) hts hc.2.1 ty hc.2.2.1 hc.2.2.2 hown hK hP hD hS q0 he hc.1 k (Nat.blt_eq.mp hk) (hts _ hlink) (by rw [href]; exact fun _ h => h) hfin hq0.1.1 hdecl (hc.2.2.1 k (Nat.blt_eq.mp hk)) hn hfit hlen hdg (fun H1 locs1 hP1 hD1 hS1 => ?_)
  rw [hw] at hP1 hD1
  exact kk p e s m args below meth c0 Q H1 locs1 ls B0 hq hP1 hD1 hl hS1
theorem qq_bast (hb : kcc K = cc) (q0 : Nat) {a n : Nat} {f : Nat → Int32} (he : ws[q0]? = some (a, .inl (gA (kG K) 21, n, .inl f))) {i x : Int32} (hin : vp_in i n) (hdg : decode cc pc = .ok (.bastore, 1)) {w' : va_W} (hw : ws.set q0 (a, .inl (gA (kG K) 21, n, .inl (upd f i.toNatClampNeg x.toInt8.toInt32))) = w') (kk : QQ K u (pc + 1) L S w') : QQ K u pc L (.int x :: .int i :: .ref a :: S) ws := by
  intro p e s m args below meth c0 Q H locs ls B hq hP hD hl hS
  have B0 := B
  obtain ⟨b1, b2, -, hts, hown, -, hK, -⟩ := B
  refine va_bast b1 (b2.trans hb) hK hP hD hS q0 1 he rfl hin hdg (fun H1 locs1 hP1 hD1 hS1 => ?_)
  rw [vp_nar_byte, hw] at hP1 hD1
  exact kk p e s m args below meth c0 Q H1 locs1 ls B0 hq hP1 hD1 hl hS1
theorem qq_alen (hb : kcc K = cc) (q0 : Nat) {a n : Nat} {f : Nat → Int32} (he : ws[q0]? = some (a, .inl (gA (kG K) 21, n, .inl f))) (hdg : decode cc pc = .ok (.arraylength, 1)) (kk : QQ K u (pc + 1) L (.int (Int32.ofNat n) :: S) ws) : QQ K u pc L (.ref a :: S) ws := by
  intro p e s m args below meth c0 Q H locs ls B hq hP hD hl hS
  have z := kk p e s m args below meth c0 Q H locs ls B hq hP hD hl hS
  obtain ⟨b1, b2, -, hts, hown, -, hK, -⟩ := B
  exact va_alen b1 (b2.trans hb) hK hP q0 1 he rfl rfl hdg z
end QQA
