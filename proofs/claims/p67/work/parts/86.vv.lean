/-! CONSTRUCTORS: the walk over a heap of which something holds (rows after those of ZZ) -/
def yQ (G : zG) (P : Heap → Prop) : Array Value → State → Outcome → State → Prop := fun _ st o t => o = .returned none ∧ P t.heap ∧ va_F (gF G) st t
/-- the classes of arrays over arrays and over objects: words that no table keeps -/
def yAl : List FieldType := [.array .byte, .object "PenOffice$Letter", .object "PenOffice$State", .object "PenOffice$Command"]
def yAO (s : State) : Prop := ∀ t ∈ yAl, (Cond.arrayOver t).before #[] s = true
theorem yAO.warm {u U : State} (hW : u.WarmedH U.vm) (h : yAO u) : yAO U := fun t ht => (Cond.arrayOver_setVmC (args := #[]) (s := u) hW.alike t).trans (h t ht)
theorem yAO.use {s : State} {args : Array Value} (h : yAO s) (i : Nat) {t : FieldType} (hi : yAl[i]? = some t) : (Cond.arrayOver t).before args s = true := h t (List.mem_of_getElem? hi)
/-- a constructor's end -/
def phY (G : zG) (e0 : Nat) (mc : Nat × Nat) (P : Heap → Prop) : zPh := fun below args s meth c Q =>
  (meth.name = "<init>" ∧ meth.sig.returnType = none ∧ s.heap.size = gad G e0) ∧ yAO s ∧ (∀ x ∈ c.exceptionTable.toList, False) ∧ Q = vx_MQ below (yQ G P) yX args s mc.1 mc.2 (gF G)
def VV (K : zK) (u : Nat × Nat) (pc : Nat) (L : List (Nat × Value)) (S : List Value) (I : Heap → Prop) : Prop :=
  ∀ (p : Program) (e : Env) (s : State) (m : MethodId) (args : Array Value) (below : List Frame) (meth : Method) (c : Code) (Q : State → Prop) (H : Heap) (locs : List Loc) (ls : Array Slot),
    zB K p s m args meth c → kPh K below args s meth c Q → I H → lv_has ls (knL K) (L.map (zl (kG K))) → va_S (gF (kG K)) s.heap H locs →
    W p (kl K) e (kR K) s m args below meth c H locs u.1 u.2 Q (F0 m pc ls (S.map (zv (kG K))))
section VVA
variable {K : zK} {u : Nat × Nat} {pc : Nat} {L L' : List (Nat × Value)} {S : List Value} {I : Heap → Prop} {cc : ByteArray} {own : String}
theorem vv_imp {J : Heap → Prop} (h : ∀ H, I H → J H) (k : VV K u pc L S J) : VV K u pc L S I :=
  fun p e s m args below meth c Q H locs ls B hq hP hl hS => k p e s m args below meth c Q H locs ls B hq (h H hP) hl hS
theorem vv_iconst (hb : kcc K = cc) {n : Int} {v : Int32} (hdg : decode cc pc = .ok (.iconst n, 1)) (hv : Int32.ofInt n = v) (k : VV K u (pc + 1) L (.int v :: S) I) : VV K u pc L S I :=
  fun p e s m args below meth c Q H locs ls B hq hP hl hS => lv_iconst B.1 (B.2.1.trans hb) hdg hv (k p e s m args below meth c Q H locs ls B hq hP hl hS)
theorem vv_bipush (hb : kcc K = cc) {n : Int} {v : Int32} (hdg : decode cc pc = .ok (.bipush n, 2)) (hv : (Int8.ofInt n).toInt32 = v) (k : VV K u (pc + 2) L (.int v :: S) I) : VV K u pc L S I :=
  fun p e s m args below meth c Q H locs ls B hq hP hl hS => lv_bipush B.1 (B.2.1.trans hb) hdg hv (k p e s m args below meth c Q H locs ls B hq hP hl hS)
theorem vv_sipush (hb : kcc K = cc) {n : Int} {v : Int32} (hdg : decode cc pc = .ok (.sipush n, 3)) (hv : (Int16.ofInt n).toInt32 = v) (k : VV K u (pc + 3) L (.int v :: S) I) : VV K u pc L S I :=
  fun p e s m args below meth c Q H locs ls B hq hP hl hS => lv_sipush B.1 (B.2.1.trans hb) hdg hv (k p e s m args below meth c Q H locs ls B hq hP hl hS)
theorem vv_iload_n (hb : kcc K = cc) {f : Fin 4} {i : Nat} {x : Int32} (hdg : decode cc pc = .ok (.iload_n f, 1)) (hi : (f : Nat) = i) (q : Nat) (hL : L[q]? = some (i, .int x)) (k : VV K u (pc + 1) L (.int x :: S) I) : VV K u pc L S I :=
  fun p e s m args below meth c Q H locs ls B hq hP hl hS => lv_iload_n B.1 (B.2.1.trans hb) hdg hi (zat hl hL) (k p e s m args below meth c Q H locs ls B hq hP hl hS)
theorem vv_aload_n (hb : kcc K = cc) {f : Fin 4} {i r : Nat} (hdg : decode cc pc = .ok (.aload_n f, 1)) (hi : (f : Nat) = i) (q : Nat) (hL : L[q]? = some (i, .ref r)) (k : VV K u (pc + 1) L (.ref r :: S) I) : VV K u pc L S I :=
  fun p e s m args below meth c Q H locs ls B hq hP hl hS => lv_aload_n B.1 (B.2.1.trans hb) hdg hi (zat hl hL) (k p e s m args below meth c Q H locs ls B hq hP hl hS)
theorem vv_istore_n (hb : kcc K = cc) {f : Fin 4} {i : Nat} {x : Int32} (hdg : decode cc pc = .ok (.istore_n f, 1)) (hi : (f : Nat) = i) {nL : Nat} (hnl : knL K = nL) (hn : Nat.blt i nL = true) (ps : List Nat) (hL : zpk ((i, .int x) :: L.filter (zcut i)) ps = L') (k : VV K u (pc + 1) L' S I) : VV K u pc L (.int x :: S) I :=
  fun p e s m args below meth c Q H locs ls B hq hP hl hS => lv_istore_n B.1 (B.2.1.trans hb) hdg hi hl (by rw [hnl]; exact Nat.blt_eq.mp hn) (by rw [zcut_l]; rfl) (fun ls' hl' => k p e s m args below meth c Q H locs ls' B hq hP (zpk_map (L := (i, .int x) :: L.filter (zcut i)) hL hl') hS)
theorem vv_astore_n (hb : kcc K = cc) {f : Fin 4} {i r : Nat} (hdg : decode cc pc = .ok (.astore_n f, 1)) (hi : (f : Nat) = i) {nL : Nat} (hnl : knL K = nL) (hn : Nat.blt i nL = true) (ps : List Nat) (hL : zpk ((i, .ref r) :: L.filter (zcut i)) ps = L') (k : VV K u (pc + 1) L' S I) : VV K u pc L (.ref r :: S) I :=
  fun p e s m args below meth c Q H locs ls B hq hP hl hS => lv_astore_n B.1 (B.2.1.trans hb) hdg hi hl (by rw [hnl]; exact Nat.blt_eq.mp hn) (by rw [zcut_l]; rfl) (fun ls' hl' => k p e s m args below meth c Q H locs ls' B hq hP (zpk_map (L := (i, .ref r) :: L.filter (zcut i)) hL hl') hS)
theorem vv_iinc (hb : kcc K = cc) {i : Nat} {n : Int} {x v : Int32} (hdg : decode cc pc = .ok (.iinc i n, 3)) (q : Nat) (hx : L[q]? = some (i, .int x)) (hv : x + Int32.ofInt n = v) {nL : Nat} (hnl : knL K = nL) (hn : Nat.blt i nL = true) (ps : List Nat) (hL : zpk ((i, .int v) :: L.filter (zcut i)) ps = L') (k : VV K u (pc + 3) L' S I) : VV K u pc L S I :=
  fun p e s m args below meth c Q H locs ls B hq hP hl hS => lv_iinc (k := q) (v := v) B.1 (B.2.1.trans hb) hdg hl (by rw [List.getElem?_map, hx]; rfl) hv (by rw [hnl]; exact Nat.blt_eq.mp hn) (by rw [zcut_l]; rfl) (fun ls' hl' => k p e s m args below meth c Q H locs ls' B hq hP (zpk_map (L := (i, .int v) :: L.filter (zcut i)) hL hl') hS)
theorem vv_dup (hb : kcc K = cc) {v : Value} (hdg : decode cc pc = .ok (.dup, 1)) (hv : v.category = 1) (k : VV K u (pc + 1) L (v :: v :: S) I) : VV K u pc L (v :: S) I :=
  fun p e s m args below meth c Q H locs ls B hq hP hl hS => lv_dup B.1 (B.2.1.trans hb) hdg (by rw [zv_cat]; exact hv) (k p e s m args below meth c Q H locs ls B hq hP hl hS)
theorem vv_pop (hb : kcc K = cc) {v : Value} (hdg : decode cc pc = .ok (.pop, 1)) (hv : v.category = 1) (k : VV K u (pc + 1) L S I) : VV K u pc L (v :: S) I :=
  fun p e s m args below meth c Q H locs ls B hq hP hl hS => lv_pop B.1 (B.2.1.trans hb) hdg (by rw [zv_cat]; exact hv) (k p e s m args below meth c Q H locs ls B hq hP hl hS)
theorem vv_goto (hb : kcc K = cc) {off : Int} {tgt : Nat} (hdg : decode cc pc = .ok (.goto off, 3)) (ht : (pc : Int) + off = (tgt : Int)) (k : VV K u tgt L S I) : VV K u pc L S I :=
  fun p e s m args below meth c Q H locs ls B hq hP hl hS => lv_goto B.1 (B.2.1.trans hb) hdg ht (k p e s m args below meth c Q H locs ls B hq hP hl hS)
theorem vv_icmp_ge (hb : kcc K = cc) {x y : Int32} {off : Int} {tgt : Nat} (hdg : decode cc pc = .ok (.if_icmp .ge off, 3)) (ht : (pc : Int) + off = (tgt : Int)) (kt : y ≤ x → VV K u tgt L S I) (kf : ¬ y ≤ x → VV K u (pc + 3) L S I) : VV K u pc L (.int y :: .int x :: S) I :=
  fun p e s m args below meth c Q H locs ls B hq hP hl hS => lv_icmp_ge B.1 (B.2.1.trans hb) hdg ht (fun z => kt z p e s m args below meth c Q H locs ls B hq hP hl hS) (fun z => kf z p e s m args below meth c Q H locs ls B hq hP hl hS)
theorem vv_gets (hb : kcc K = cc) {own : String} (ho : kown K = own) {C n d : String} {r index : Nat} (hO : ∀ s : State, zOld (kG K) s → va_Z C n d (.ref (gad (kG K) r)) (gF (kG K)) s s.heap) (hlink : Cond.fieldLink own index C n d ∈ TG) (hdg : decode cc pc = .ok (.getstatic index, 3)) (kk : VV K u (pc + 3) L (.ref r :: S) I) : VV K u pc L S I := by
  intro p e s m args below meth c0 Q H locs ls B hq hP hl hS
  have z := kk p e s m args below meth c0 Q H locs ls B hq hP hl hS
  obtain ⟨b1, b2, -, hts, hown, -, hK, hO1, -⟩ := B
  rw [ho] at hown
  exact va_gets b1 (b2.trans hb) (hO s hO1) hS hown (hts _ hlink) (fun _ h => h) hdg z
theorem vv_getsN (hb : kcc K = cc) {own : String} (ho : kown K = own) {C n d host : String} {r index : Nat} (hO : ∀ s : State, zOld (kG K) s → va_Z C n d (.ref (gad (kG K) r)) (gF (kG K)) s s.heap) (hlink : Cond.fieldLinkNest own index C n d host ∈ zNst) (hdg : decode cc pc = .ok (.getstatic index, 3)) (kk : VV K u (pc + 3) L (.ref r :: S) I) : VV K u pc L S I := by
  intro p e s m args below meth c0 Q H locs ls B hq hP hl hS
  have z := kk p e s m args below meth c0 Q H locs ls B hq hP hl hS
  obtain ⟨b1, b2, -, hts, hown, -, hK, hO1, -⟩ := B
  rw [ho] at hown
  have hN := hO1.2.2.2.2.1 _ hlink
  exact va_getsN b1 (b2.trans hb) (hO s hO1) hS hown (va_Nw.use rfl hN) (fun _ h => h) hdg z
theorem vv_alenS (hb : kcc K = cc) {r N : Nat} {f : Nat → Int32} (hO : ∀ s : State, zOld (kG K) s → va_T .int (gad (kG K) r) N (fun j => .int (f j)) (gF (kG K)) s s.heap) (hdg : decode cc pc = .ok (.arraylength, 1)) (kk : VV K u (pc + 1) L (.int (Int32.ofNat N) :: S) I) : VV K u pc L (.ref r :: S) I := by
  intro p e s m args below meth c0 Q H locs ls B hq hP hl hS
  have z := kk p e s m args below meth c0 Q H locs ls B hq hP hl hS
  obtain ⟨b1, b2, -, hts, hown, -, hK, hO1, -⟩ := B
  obtain ⟨cell, h1, h2, h3, h4, h5, h6, h7⟩ := (hO s hO1).kept hS.2.1
  exact W.alen (n := Int32.ofNat N) b1 (b2.trans hb) h1 h2 h5 rfl rfl hdg z
theorem vv_ldc (hb : kcc K = cc) (ho : kown K = own) (i : Nat) {index r : Nat} {tx : String} (hi : zLdc[i]? = some (own, index, tx, r)) (hdg : decode cc pc = .ok (.ldc index, 2)) (kk : VV K u (pc + 2) L (.ref r :: S) I) : VV K u pc L S I := by
  intro p e s m args below meth c0 Q H locs ls B hq hP hl hS
  have z := kk p e s m args below meth c0 Q H locs ls B hq hP hl hS
  obtain ⟨b1, b2, -, hts, hown, -, hK, hO1, -⟩ := B
  rw [ho] at hown
  exact va_ldcS b1 (b2.trans hb) hown (hO1.2.2.2.1 _ (List.mem_of_getElem? hi)) hdg z
end VVA
