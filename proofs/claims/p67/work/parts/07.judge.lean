/-! THE JUDGEMENT ZZ: from any machine state that holds the world, at an instruction of a method, the walk comes to its end -/
abbrev zPh : Type := List Frame → Array Value → State → Method → Code → (State → Prop) → Prop
/-- a method in a context: the run's constants, the world's roles, its class, its code, its number of locals, launch, room, what its end is -/
abbrev zK : Type := zG × (Nat × Nat) × String × ByteArray × Nat × Launch × Room × zPh
abbrev kG (K : zK) : zG := K.1
abbrev kw (K : zK) : Nat × Nat := K.2.1
abbrev kown (K : zK) : String := K.2.2.1
abbrev kcc (K : zK) : ByteArray := K.2.2.2.1
abbrev knL (K : zK) : Nat := K.2.2.2.2.1
abbrev kl (K : zK) : Launch := K.2.2.2.2.2.1
abbrev kR (K : zK) : Room := K.2.2.2.2.2.2.1
abbrev kPh (K : zK) : zPh := K.2.2.2.2.2.2.2
/-- a static int array of the class, by the role that stands for it -/
def zSt (G : zG) (C n : String) (r N : Nat) (f : Nat → Int32) (s : State) : Prop := va_Z C n "[I" (.ref (gad G r)) (gF G) s s.heap ∧ va_T .int (gad G r) N (fun j => .int (f j)) (gF G) s s.heap
def zFt (G : zG) (n : String) (r : Nat) (s : State) : Prop := va_Z "PenOffice$Fault" n "LPenOffice$Fault;" (.ref (gad G r)) (gF G) s s.heap
def zS5 : Nat → Nat → Int32 := fun j => match j with
  | 0 => fun k => [(0 : Int32), 0, 1, 0, 1, 1, 0].getD k 0
  | 1 => fun k => [(4 : Int32), 5, 99, 9, 9, 20, 5].getD k 0
  | 2 => fun k => [(1 : Int32), 0, 1, 0].getD k 0
  | 3 => fun k => [(30 : Int32), 999, 999, 9].getD k 0
  | _ => fun _ => 0
/-- the strings' constants: role 1100 + j stands for the j-th of these texts -/
def zTx : List String := ["office", "clerk", "letter", "office ", "clerk c", "letter c", "the input buffer is full", "the buffer has no such length", "office 0 1 10 2 3 4 1;clerk ann;clerk bob;letter ann 5 0 9 2;letter bob 2 1 6 5;letter ann 3 2 20 1;letter bob 4 3 12 7;"]
def zTl : List Nat := [6, 5, 6, 7, 7, 8, 24, 29, 120]
def zTb : List (List Int32) := [[111, 102, 102, 105, 99, 101], [99, 108, 101, 114, 107], [108, 101, 116, 116, 101, 114], [111, 102, 102, 105, 99, 101, 32], [99, 108, 101, 114, 107, 32, 99], [108, 101, 116, 116, 101, 114, 32, 99], [116, 104, 101, 32, 105, 110, 112, 117, 116, 32, 98, 117, 102, 102, 101, 114, 32, 105, 115, 32, 102, 117, 108, 108], [116, 104, 101, 32, 98, 117, 102, 102, 101, 114, 32, 104, 97, 115, 32, 110, 111, 32, 115, 117, 99, 104, 32, 108, 101, 110, 103, 116, 104], [111, 102, 102, 105, 99, 101, 32, 48, 32, 49, 32, 49, 48, 32, 50, 32, 51, 32, 52, 32, 49, 59, 99, 108, 101, 114, 107, 32, 97, 110, 110, 59, 99, 108, 101, 114, 107, 32, 98, 111, 98, 59, 108, 101, 116, 116, 101, 114, 32, 97, 110, 110, 32, 53, 32, 48, 32, 57, 32, 50, 59, 108, 101, 116, 116, 101, 114, 32, 98, 111, 98, 32, 50, 32, 49, 32, 54, 32, 53, 59, 108, 101, 116, 116, 101, 114, 32, 97, 110, 110, 32, 51, 32, 50, 32, 50, 48, 32, 49, 59, 108, 101, 116, 116, 101, 114, 32, 98, 111, 98, 32, 52, 32, 51, 32, 49, 50, 32, 55, 59]]
/-- the String constants of the code: class, place, text, the role that stands for it -/
def zLdc : List (String × Nat × String × Nat) := [("PenOffice", 48, "office 0 1 10 2 3 4 1;clerk ann;clerk bob;letter ann 5 0 9 2;letter bob 2 1 6 5;letter ann 3 2 20 1;letter bob 4 3 12 7;", 1108), ("PenOffice", 71, "the input buffer is full", 1106), ("PenOffice", 81, "the buffer has no such length", 1107), ("PenOffice", 84, "the setup text has an error", 1109), ("PenOffice", 362, "there is no such letter", 1110), ("PenOffice", 372, "there is no such clerk or letter", 1111), ("PenOffice", 377, "a number is out of range", 1112), ("PenOffice", 382, "the office does not allow it now", 1113), ("PenOffice", 413, "office", 1100), ("PenOffice", 451, "clerk", 1101), ("PenOffice", 475, "letter", 1102), ("PenOfficeLaw", 40, "office ", 1103), ("PenOfficeLaw", 73, "clerk c", 1104), ("PenOfficeLaw", 79, "letter c", 1105)]
/-- links to a nest mate's private members: words that change with the caller's table, so they are carried by themselves -/
def zNst : List Cond := [.methodLinkNest RX9 11 yX8_init RX10, .methodLinkNest RX9 20 yX0_init RX10, .methodLinkNest RX9 41 yX5_init RX10, .methodLinkNest RX7 17 yX1_init RX10, .fieldLinkNest RX1 7 RX10 "LEAST_OF_LETTER" "[I" RX10, .methodLinkNest RX10 25 yX6_init RX10, .methodLinkNest RX10 47 yX4_init RX10, .fieldLinkNest RX4 15 RX10 "LEAST_SETTINGS" "[I" RX10, .methodLinkNest RX4 82 yX10_outside RX10, .methodLinkNest RX11 147 yL_capacity RL, .methodLinkNest RX11 118 yL_quantum RL, .methodLinkNest RX11 106 yL_aging RL, .methodLinkNest RX11 156 yL_handOver RL, .methodLinkNest RX11 132 yL_blot RL, .methodLinkNest RX11 144 yL_refill RL]
/-- the exceptions' words that change with the caller's table -/
def zNames : List String := ["java/lang/RuntimeException", "java/lang/Exception"]
def zXw : List Cond := (vx_atS RX10 147 "java/lang/IndexOutOfBoundsException" zNames ++ vx_atS RX10 73 "java/lang/IllegalStateException" zNames ++ vx_atS RX10 83 "java/lang/IllegalArgumentException" zNames).filter (fun w => !goodWord w)
/-- the digits of two places -/
def zD1 (j : Nat) : Int32 := nI (48 + j % 10)
def zD2 (j : Nat) : Int32 := nI (48 + j / 10)
def zSc (G : zG) (s : State) : Prop := va_T .int (gad G 1400) (gs G).1 (fun j => .int ((gs G).2 j)) (gF G) s s.heap
def zTt (G : zG) (s : State) : Prop := (gt G).1 = 0 ∨ vk_S 1 [(gt G).1] [(gt G).2] (fun _ => gad G 1401) (fun _ => gad G 1402) (gF G) s s.heap
def zDg (G : zG) (s : State) : Prop := (va_Z "java/lang/Integer" "DigitOnes" "[B" (.ref (gad G 1403)) (gF G) s s.heap ∧ va_T .byte (gad G 1403) 100 (fun j => .int (zD1 j)) (gF G) s s.heap) ∧ va_Z "java/lang/Integer" "DigitTens" "[B" (.ref (gad G 1404)) (gF G) s s.heap ∧ va_T .byte (gad G 1404) 100 (fun j => .int (zD2 j)) (gF G) s s.heap
/-- what lies below our cells, at a state and its own heap -/
def zOld (G : zG) (s : State) : Prop :=
  (zSt G "PenOffice" "LEAST_SETTINGS" 1010 7 (zS5 0) s ∧ zSt G "PenOffice" "MOST_SETTINGS" 1011 7 (zS5 1) s ∧ zSt G "PenOffice" "LEAST_OF_LETTER" 1012 4 (zS5 2) s ∧ zSt G "PenOffice" "MOST_OF_LETTER" 1013 4 (zS5 3) s ∧ zSc G s ∧ zTt G s ∧ zDg G s) ∧
  (zFt G "INDEX" 1000 s ∧ zFt G "ARGUMENT" 1001 s ∧ zFt G "STATE" 1002 s ∧ zFt G "NOTHING" 1003 s ∧ gad G 1000 ≠ gad G 1001 ∧ gad G 1000 ≠ gad G 1002 ∧ gad G 1000 ≠ gad G 1003 ∧ gad G 1001 ≠ gad G 1002 ∧ gad G 1001 ≠ gad G 1003 ∧ gad G 1002 ≠ gad G 1003) ∧
  vk_S 9 zTl zTb (fun j => gad G (1100 + j)) (fun j => gad G (1200 + j)) (gF G) s s.heap ∧
  (∀ q ∈ zLdc, vk_R q.1 q.2.1 q.2.2.1 (gad G q.2.2.2) s) ∧
  (∀ q ∈ zNst, va_Nw q s) ∧
  (∀ q ∈ zXw, va_Nw q s) ∧
  va_Z "java/lang/String" "COMPACT_STRINGS" "Z" (.int 1) (gF G) s s.heap ∧
  (va_Z "jdk/internal/util/Preconditions" "SIOOBE_FORMATTER" "Ljava/util/function/BiFunction;" .null (gF G) s s.heap ∨ va_Z "jdk/internal/util/Preconditions" "SIOOBE_FORMATTER" "Ljava/util/function/BiFunction;" (.ref (gad G 1300)) (gF G) s s.heap) ∧
  (vx_Zq Bundle.tN "UNASSIGNED_STACK" Bundle.steD (gF G) s s.heap ∧ vx_Zq Bundle.tN "SUPPRESSED_SENTINEL" Bundle.listD (gF G) s s.heap)
def zB (K : zK) (p : Program) (s : State) (m : MethodId) (args : Array Value) (meth : Method) (c : Code) : Prop :=
  p.tables.exec = Jvm.exec ∧ c.code = kcc K ∧ c.maxLocals = knL K ∧ (∀ x ∈ TG, x.before args s = true) ∧ s.vm.findClass (kown K) = some m.cls ∧ meth.locks = false ∧ va_K (gD (kG K)) vwCl (zt (kG K)) s ∧ zOld (kG K) s ∧ gb (kG K) ≤ s.heap.size ∧ zGok (kG K) ∧ wOK (kw K) ∧ (kl K).stackTraces = false
def ZZ (K : zK) (u : Nat × Nat) (pc : Nat) (L : List (Nat × Value)) (S : List Value) (I : zM) : Prop :=
  ∀ (p : Program) (e : Env) (s : State) (m : MethodId) (args : Array Value) (below : List Frame) (meth : Method) (c : Code) (Q : State → Prop) (H : Heap) (locs : List Loc) (ls : Array Slot),
    zB K p s m args meth c → kPh K below args s meth c Q → va_P (gD (kG K)) vwCl (zw (kG K) (kw K) I) H → lv_has ls (knL K) (L.map (zl (kG K))) → va_S (gF (kG K)) s.heap H locs →
    W p (kl K) e (kR K) s m args below meth c H locs u.1 u.2 Q (F0 m pc ls (S.map (zv (kG K))))
def zcut (i : Nat) (q : Nat × Value) : Bool := !(q.1 == i) && !(q.1 + 1 == i && q.2.category == 2)
def zpk {α : Type} (l : List α) (ps : List Nat) : List α := ps.filterMap (fun k => l[k]?)
theorem zv_cat {G : zG} (v : Value) : (zv G v).category = v.category := by cases v <;> rfl
theorem zcut_l {G : zG} (i : Nat) (L : List (Nat × Value)) : (L.map (zl G)).filter (fun q => !(q.1 == i) && !(q.1 + 1 == i && q.2.category == 2)) = (L.filter (zcut i)).map (zl G) := by
  rw [List.filter_map]
  congr 1
  apply List.filter_congr
  intro q _
  simp only [Function.comp, zl, zcut, zv_cat]
theorem zpk_map {G : zG} {L L' : List (Nat × Value)} {ps : List Nat} {ls : Array Slot} {nL : Nat} (h : zpk L ps = L') (hl : lv_has ls nL (L.map (zl G))) : lv_has ls nL (L'.map (zl G)) := by
  refine ⟨hl.1, hl.2.1, fun q hq => hl.2.2 q ?_⟩
  obtain ⟨x, hx, rfl⟩ := List.mem_map.mp hq
  rw [← h] at hx
  obtain ⟨k, -, hk⟩ := List.mem_filterMap.mp hx
  exact List.mem_map.mpr ⟨x, List.mem_of_getElem? hk, rfl⟩
theorem zat {G : zG} {L : List (Nat × Value)} {ls : Array Slot} {nL k i : Nat} {v : Value} (hl : lv_has ls nL (L.map (zl G))) (hk : L[k]? = some (i, v)) : ls[i]? = some (.val (zv G v)) :=
  hl.2.2 (i, zv G v) (List.mem_map.mpr ⟨(i, v), List.mem_of_getElem? hk, rfl⟩)
section ZZA
variable {K : zK} {u : Nat × Nat} {pc : Nat} {L L' : List (Nat × Value)} {S : List Value} {I : zM} {cc : ByteArray}
/-- fewer or reordered locals -/
theorem zz_sub (ps : List Nat) (h : zpk L ps = L') (k : ZZ K u pc L' S I) : ZZ K u pc L S I :=
  fun p e s m args below meth c Q H locs ls B hq hP hl hS => k p e s m args below meth c Q H locs ls B hq hP (zpk_map h hl) hS
theorem zz_iconst (hb : kcc K = cc) {n : Int} {v : Int32} (hdg : decode cc pc = .ok (.iconst n, 1)) (hv : Int32.ofInt n = v) (k : ZZ K u (pc + 1) L (.int v :: S) I) : ZZ K u pc L S I :=
  fun p e s m args below meth c Q H locs ls B hq hP hl hS => lv_iconst B.1 (B.2.1.trans hb) hdg hv (k p e s m args below meth c Q H locs ls B hq hP hl hS)
theorem zz_bipush (hb : kcc K = cc) {n : Int} {v : Int32} (hdg : decode cc pc = .ok (.bipush n, 2)) (hv : (Int8.ofInt n).toInt32 = v) (k : ZZ K u (pc + 2) L (.int v :: S) I) : ZZ K u pc L S I :=
  fun p e s m args below meth c Q H locs ls B hq hP hl hS => lv_bipush B.1 (B.2.1.trans hb) hdg hv (k p e s m args below meth c Q H locs ls B hq hP hl hS)
theorem zz_sipush (hb : kcc K = cc) {n : Int} {v : Int32} (hdg : decode cc pc = .ok (.sipush n, 3)) (hv : (Int16.ofInt n).toInt32 = v) (k : ZZ K u (pc + 3) L (.int v :: S) I) : ZZ K u pc L S I :=
  fun p e s m args below meth c Q H locs ls B hq hP hl hS => lv_sipush B.1 (B.2.1.trans hb) hdg hv (k p e s m args below meth c Q H locs ls B hq hP hl hS)
theorem zz_lconst (hb : kcc K = cc) {n : Fin 2} {v : Int64} (hdg : decode cc pc = .ok (.lconst n, 1)) (hv : Int64.ofNat (n : Nat) = v) (k : ZZ K u (pc + 1) L (.long v :: S) I) : ZZ K u pc L S I :=
  fun p e s m args below meth c Q H locs ls B hq hP hl hS => lv_lconst B.1 (B.2.1.trans hb) hdg hv (k p e s m args below meth c Q H locs ls B hq hP hl hS)
theorem zz_iload_n (hb : kcc K = cc) {f : Fin 4} {i : Nat} {x : Int32} (hdg : decode cc pc = .ok (.iload_n f, 1)) (hi : (f : Nat) = i) (q : Nat) (hL : L[q]? = some (i, .int x)) (k : ZZ K u (pc + 1) L (.int x :: S) I) : ZZ K u pc L S I :=
  fun p e s m args below meth c Q H locs ls B hq hP hl hS => lv_iload_n B.1 (B.2.1.trans hb) hdg hi (zat hl hL) (k p e s m args below meth c Q H locs ls B hq hP hl hS)
theorem zz_iload (hb : kcc K = cc) {i : Nat} {x : Int32} (hdg : decode cc pc = .ok (.iload i, 2)) (q : Nat) (hL : L[q]? = some (i, .int x)) (k : ZZ K u (pc + 2) L (.int x :: S) I) : ZZ K u pc L S I :=
  fun p e s m args below meth c Q H locs ls B hq hP hl hS => lv_iload B.1 (B.2.1.trans hb) hdg (zat hl hL) (k p e s m args below meth c Q H locs ls B hq hP hl hS)
theorem zz_aload_n (hb : kcc K = cc) {f : Fin 4} {i r : Nat} (hdg : decode cc pc = .ok (.aload_n f, 1)) (hi : (f : Nat) = i) (q : Nat) (hL : L[q]? = some (i, .ref r)) (k : ZZ K u (pc + 1) L (.ref r :: S) I) : ZZ K u pc L S I :=
  fun p e s m args below meth c Q H locs ls B hq hP hl hS => lv_aload_n B.1 (B.2.1.trans hb) hdg hi (zat hl hL) (k p e s m args below meth c Q H locs ls B hq hP hl hS)
theorem zz_aload (hb : kcc K = cc) {i r : Nat} (hdg : decode cc pc = .ok (.aload i, 2)) (q : Nat) (hL : L[q]? = some (i, .ref r)) (k : ZZ K u (pc + 2) L (.ref r :: S) I) : ZZ K u pc L S I :=
  fun p e s m args below meth c Q H locs ls B hq hP hl hS => lv_aload B.1 (B.2.1.trans hb) hdg (zat hl hL) (k p e s m args below meth c Q H locs ls B hq hP hl hS)
theorem zz_istore_n (hb : kcc K = cc) {f : Fin 4} {i : Nat} {x : Int32} (hdg : decode cc pc = .ok (.istore_n f, 1)) (hi : (f : Nat) = i) {nL : Nat} (hnl : knL K = nL) (hn : Nat.blt i nL = true) (ps : List Nat) (hL : zpk ((i, .int x) :: L.filter (zcut i)) ps = L') (k : ZZ K u (pc + 1) L' S I) : ZZ K u pc L (.int x :: S) I :=
  fun p e s m args below meth c Q H locs ls B hq hP hl hS => lv_istore_n B.1 (B.2.1.trans hb) hdg hi hl (by rw [hnl]; exact Nat.blt_eq.mp hn) (by rw [zcut_l]; rfl) (fun ls' hl' => k p e s m args below meth c Q H locs ls' B hq hP (zpk_map (L := (i, .int x) :: L.filter (zcut i)) hL hl') hS)
theorem zz_istore (hb : kcc K = cc) {i : Nat} {x : Int32} (hdg : decode cc pc = .ok (.istore i, 2)) {nL : Nat} (hnl : knL K = nL) (hn : Nat.blt i nL = true) (ps : List Nat) (hL : zpk ((i, .int x) :: L.filter (zcut i)) ps = L') (k : ZZ K u (pc + 2) L' S I) : ZZ K u pc L (.int x :: S) I :=
  fun p e s m args below meth c Q H locs ls B hq hP hl hS => lv_istore B.1 (B.2.1.trans hb) hdg hl (by rw [hnl]; exact Nat.blt_eq.mp hn) (by rw [zcut_l]; rfl) (fun ls' hl' => k p e s m args below meth c Q H locs ls' B hq hP (zpk_map (L := (i, .int x) :: L.filter (zcut i)) hL hl') hS)
theorem zz_astore_n (hb : kcc K = cc) {f : Fin 4} {i r : Nat} (hdg : decode cc pc = .ok (.astore_n f, 1)) (hi : (f : Nat) = i) {nL : Nat} (hnl : knL K = nL) (hn : Nat.blt i nL = true) (ps : List Nat) (hL : zpk ((i, .ref r) :: L.filter (zcut i)) ps = L') (k : ZZ K u (pc + 1) L' S I) : ZZ K u pc L (.ref r :: S) I :=
  fun p e s m args below meth c Q H locs ls B hq hP hl hS => lv_astore_n B.1 (B.2.1.trans hb) hdg hi hl (by rw [hnl]; exact Nat.blt_eq.mp hn) (by rw [zcut_l]; rfl) (fun ls' hl' => k p e s m args below meth c Q H locs ls' B hq hP (zpk_map (L := (i, .ref r) :: L.filter (zcut i)) hL hl') hS)
theorem zz_astore (hb : kcc K = cc) {i r : Nat} (hdg : decode cc pc = .ok (.astore i, 2)) {nL : Nat} (hnl : knL K = nL) (hn : Nat.blt i nL = true) (ps : List Nat) (hL : zpk ((i, .ref r) :: L.filter (zcut i)) ps = L') (k : ZZ K u (pc + 2) L' S I) : ZZ K u pc L (.ref r :: S) I :=
  fun p e s m args below meth c Q H locs ls B hq hP hl hS => lv_astore B.1 (B.2.1.trans hb) hdg hl (by rw [hnl]; exact Nat.blt_eq.mp hn) (by rw [zcut_l]; rfl) (fun ls' hl' => k p e s m args below meth c Q H locs ls' B hq hP (zpk_map (L := (i, .ref r) :: L.filter (zcut i)) hL hl') hS)
theorem zz_iinc (hb : kcc K = cc) {i : Nat} {n : Int} {x v : Int32} (hdg : decode cc pc = .ok (.iinc i n, 3)) (q : Nat) (hx : L[q]? = some (i, .int x)) (hv : x + Int32.ofInt n = v) {nL : Nat} (hnl : knL K = nL) (hn : Nat.blt i nL = true) (ps : List Nat) (hL : zpk ((i, .int v) :: L.filter (zcut i)) ps = L') (k : ZZ K u (pc + 3) L' S I) : ZZ K u pc L S I :=
  fun p e s m args below meth c Q H locs ls B hq hP hl hS => lv_iinc (k := q) (v := v) B.1 (B.2.1.trans hb) hdg hl (by rw [List.getElem?_map, hx]; rfl) hv (by rw [hnl]; exact Nat.blt_eq.mp hn) (by rw [zcut_l]; rfl) (fun ls' hl' => k p e s m args below meth c Q H locs ls' B hq hP (zpk_map (L := (i, .int v) :: L.filter (zcut i)) hL hl') hS)
theorem zz_iadd (hb : kcc K = cc) {x y : Int32} (hdg : decode cc pc = .ok (.iadd, 1)) (k : ZZ K u (pc + 1) L (.int (x + y) :: S) I) : ZZ K u pc L (.int y :: .int x :: S) I :=
  fun p e s m args below meth c Q H locs ls B hq hP hl hS => lv_iadd B.1 (B.2.1.trans hb) hdg (k p e s m args below meth c Q H locs ls B hq hP hl hS)
theorem zz_isub (hb : kcc K = cc) {x y : Int32} (hdg : decode cc pc = .ok (.isub, 1)) (k : ZZ K u (pc + 1) L (.int (x - y) :: S) I) : ZZ K u pc L (.int y :: .int x :: S) I :=
  fun p e s m args below meth c Q H locs ls B hq hP hl hS => lv_isub B.1 (B.2.1.trans hb) hdg (k p e s m args below meth c Q H locs ls B hq hP hl hS)
theorem zz_imul (hb : kcc K = cc) {x y : Int32} (hdg : decode cc pc = .ok (.imul, 1)) (k : ZZ K u (pc + 1) L (.int (x * y) :: S) I) : ZZ K u pc L (.int y :: .int x :: S) I :=
  fun p e s m args below meth c Q H locs ls B hq hP hl hS => lv_imul B.1 (B.2.1.trans hb) hdg (k p e s m args below meth c Q H locs ls B hq hP hl hS)
theorem zz_iand (hb : kcc K = cc) {x y : Int32} (hdg : decode cc pc = .ok (.iand, 1)) (k : ZZ K u (pc + 1) L (.int (x &&& y) :: S) I) : ZZ K u pc L (.int y :: .int x :: S) I :=
  fun p e s m args below meth c Q H locs ls B hq hP hl hS => lv_iand B.1 (B.2.1.trans hb) hdg (k p e s m args below meth c Q H locs ls B hq hP hl hS)
theorem zz_idiv (hb : kcc K = cc) {x y : Int32} (hdg : decode cc pc = .ok (.idiv, 1)) (hne : ¬ y = 0) (k : ZZ K u (pc + 1) L (.int (x / y) :: S) I) : ZZ K u pc L (.int y :: .int x :: S) I :=
  fun p e s m args below meth c Q H locs ls B hq hP hl hS => lv_idiv B.1 (B.2.1.trans hb) hdg hne (k p e s m args below meth c Q H locs ls B hq hP hl hS)
theorem zz_irem (hb : kcc K = cc) {x y : Int32} (hdg : decode cc pc = .ok (.irem, 1)) (hne : ¬ y = 0) (k : ZZ K u (pc + 1) L (.int (x - x / y * y) :: S) I) : ZZ K u pc L (.int y :: .int x :: S) I :=
  fun p e s m args below meth c Q H locs ls B hq hP hl hS => lv_irem B.1 (B.2.1.trans hb) hdg hne (k p e s m args below meth c Q H locs ls B hq hP hl hS)
theorem zz_ishl (hb : kcc K = cc) {x y : Int32} (hdg : decode cc pc = .ok (.ishl, 1)) (k : ZZ K u (pc + 1) L (.int (x <<< (y &&& 31)) :: S) I) : ZZ K u pc L (.int y :: .int x :: S) I :=
  fun p e s m args below meth c Q H locs ls B hq hP hl hS => lv_ishl B.1 (B.2.1.trans hb) hdg (k p e s m args below meth c Q H locs ls B hq hP hl hS)
theorem zz_ishr (hb : kcc K = cc) {x y : Int32} (hdg : decode cc pc = .ok (.ishr, 1)) (k : ZZ K u (pc + 1) L (.int (x >>> (y &&& 31)) :: S) I) : ZZ K u pc L (.int y :: .int x :: S) I :=
  fun p e s m args below meth c Q H locs ls B hq hP hl hS => lv_ishr B.1 (B.2.1.trans hb) hdg (k p e s m args below meth c Q H locs ls B hq hP hl hS)
theorem zz_iushr (hb : kcc K = cc) {x y : Int32} (hdg : decode cc pc = .ok (.iushr, 1)) (k : ZZ K u (pc + 1) L (.int ((x.toUInt32 >>> (y.toUInt32 &&& Int32.toUInt32 31)).toInt32) :: S) I) : ZZ K u pc L (.int y :: .int x :: S) I :=
  fun p e s m args below meth c Q H locs ls B hq hP hl hS => lv_iushr B.1 (B.2.1.trans hb) hdg rfl (k p e s m args below meth c Q H locs ls B hq hP hl hS)
theorem zz_ineg (hb : kcc K = cc) {x : Int32} (hdg : decode cc pc = .ok (.ineg, 1)) (k : ZZ K u (pc + 1) L (.int (-x) :: S) I) : ZZ K u pc L (.int x :: S) I :=
  fun p e s m args below meth c Q H locs ls B hq hP hl hS => lv_ineg B.1 (B.2.1.trans hb) hdg (k p e s m args below meth c Q H locs ls B hq hP hl hS)
theorem zz_i2b (hb : kcc K = cc) {x : Int32} (hdg : decode cc pc = .ok (.i2b, 1)) (k : ZZ K u (pc + 1) L (.int x.toInt8.toInt32 :: S) I) : ZZ K u pc L (.int x :: S) I :=
  fun p e s m args below meth c Q H locs ls B hq hP hl hS => lv_i2b B.1 (B.2.1.trans hb) hdg rfl (k p e s m args below meth c Q H locs ls B hq hP hl hS)
theorem zz_i2l (hb : kcc K = cc) {x : Int32} (hdg : decode cc pc = .ok (.i2l, 1)) (k : ZZ K u (pc + 1) L (.long x.toInt64 :: S) I) : ZZ K u pc L (.int x :: S) I :=
  fun p e s m args below meth c Q H locs ls B hq hP hl hS => lv_i2l B.1 (B.2.1.trans hb) hdg rfl (k p e s m args below meth c Q H locs ls B hq hP hl hS)
theorem zz_lcmp (hb : kcc K = cc) {x y : Int64} (hdg : decode cc pc = .ok (.lcmp, 1)) (k : ZZ K u (pc + 1) L (.int (lg_cmp x y) :: S) I) : ZZ K u pc L (.long y :: .long x :: S) I :=
  fun p e s m args below meth c Q H locs ls B hq hP hl hS => W.lcmp B.1 (B.2.1.trans hb) hdg (k p e s m args below meth c Q H locs ls B hq hP hl hS)
theorem zz_dup (hb : kcc K = cc) {v : Value} (hdg : decode cc pc = .ok (.dup, 1)) (hv : v.category = 1) (k : ZZ K u (pc + 1) L (v :: v :: S) I) : ZZ K u pc L (v :: S) I :=
  fun p e s m args below meth c Q H locs ls B hq hP hl hS => lv_dup B.1 (B.2.1.trans hb) hdg (by rw [zv_cat]; exact hv) (k p e s m args below meth c Q H locs ls B hq hP hl hS)
theorem zz_dup2 (hb : kcc K = cc) {v w : Value} (hdg : decode cc pc = .ok (.dup2, 1)) (hv : v.category = 1) (hw : w.category = 1) (k : ZZ K u (pc + 1) L (v :: w :: v :: w :: S) I) : ZZ K u pc L (v :: w :: S) I :=
  fun p e s m args below meth c Q H locs ls B hq hP hl hS => lv_dup2_11 B.1 (B.2.1.trans hb) hdg (by rw [zv_cat]; exact hv) (by rw [zv_cat]; exact hw) (k p e s m args below meth c Q H locs ls B hq hP hl hS)
theorem zz_pop (hb : kcc K = cc) {v : Value} (hdg : decode cc pc = .ok (.pop, 1)) (hv : v.category = 1) (k : ZZ K u (pc + 1) L S I) : ZZ K u pc L (v :: S) I :=
  fun p e s m args below meth c Q H locs ls B hq hP hl hS => lv_pop B.1 (B.2.1.trans hb) hdg (by rw [zv_cat]; exact hv) (k p e s m args below meth c Q H locs ls B hq hP hl hS)
theorem zz_goto (hb : kcc K = cc) {off : Int} {tgt : Nat} (hdg : decode cc pc = .ok (.goto off, 3)) (ht : (pc : Int) + off = (tgt : Int)) (k : ZZ K u tgt L S I) : ZZ K u pc L S I :=
  fun p e s m args below meth c Q H locs ls B hq hP hl hS => lv_goto B.1 (B.2.1.trans hb) hdg ht (k p e s m args below meth c Q H locs ls B hq hP hl hS)
theorem zz_if_eq (hb : kcc K = cc) {x : Int32} {off : Int} {tgt : Nat} (hdg : decode cc pc = .ok (.ifCond .eq off, 3)) (ht : (pc : Int) + off = (tgt : Int)) (kt : x = 0 → ZZ K u tgt L S I) (kf : ¬ x = 0 → ZZ K u (pc + 3) L S I) : ZZ K u pc L (.int x :: S) I :=
  fun p e s m args below meth c Q H locs ls B hq hP hl hS => lv_if_eq B.1 (B.2.1.trans hb) hdg ht (fun z => kt z p e s m args below meth c Q H locs ls B hq hP hl hS) (fun z => kf z p e s m args below meth c Q H locs ls B hq hP hl hS)
theorem zz_icmp_eq (hb : kcc K = cc) {x y : Int32} {off : Int} {tgt : Nat} (hdg : decode cc pc = .ok (.if_icmp .eq off, 3)) (ht : (pc : Int) + off = (tgt : Int)) (kt : x = y → ZZ K u tgt L S I) (kf : ¬ x = y → ZZ K u (pc + 3) L S I) : ZZ K u pc L (.int y :: .int x :: S) I :=
  fun p e s m args below meth c Q H locs ls B hq hP hl hS => lv_icmp_eq B.1 (B.2.1.trans hb) hdg ht (fun z => kt z p e s m args below meth c Q H locs ls B hq hP hl hS) (fun z => kf z p e s m args below meth c Q H locs ls B hq hP hl hS)
theorem zz_if_ne (hb : kcc K = cc) {x : Int32} {off : Int} {tgt : Nat} (hdg : decode cc pc = .ok (.ifCond .ne off, 3)) (ht : (pc : Int) + off = (tgt : Int)) (kt : ¬ x = 0 → ZZ K u tgt L S I) (kf : x = 0 → ZZ K u (pc + 3) L S I) : ZZ K u pc L (.int x :: S) I :=
  fun p e s m args below meth c Q H locs ls B hq hP hl hS => lv_if_ne B.1 (B.2.1.trans hb) hdg ht (fun z => kt z p e s m args below meth c Q H locs ls B hq hP hl hS) (fun z => kf z p e s m args below meth c Q H locs ls B hq hP hl hS)
theorem zz_icmp_ne (hb : kcc K = cc) {x y : Int32} {off : Int} {tgt : Nat} (hdg : decode cc pc = .ok (.if_icmp .ne off, 3)) (ht : (pc : Int) + off = (tgt : Int)) (kt : ¬ x = y → ZZ K u tgt L S I) (kf : x = y → ZZ K u (pc + 3) L S I) : ZZ K u pc L (.int y :: .int x :: S) I :=
  fun p e s m args below meth c Q H locs ls B hq hP hl hS => lv_icmp_ne B.1 (B.2.1.trans hb) hdg ht (fun z => kt z p e s m args below meth c Q H locs ls B hq hP hl hS) (fun z => kf z p e s m args below meth c Q H locs ls B hq hP hl hS)
theorem zz_if_lt (hb : kcc K = cc) {x : Int32} {off : Int} {tgt : Nat} (hdg : decode cc pc = .ok (.ifCond .lt off, 3)) (ht : (pc : Int) + off = (tgt : Int)) (kt : x < 0 → ZZ K u tgt L S I) (kf : ¬ x < 0 → ZZ K u (pc + 3) L S I) : ZZ K u pc L (.int x :: S) I :=
  fun p e s m args below meth c Q H locs ls B hq hP hl hS => lv_if_lt B.1 (B.2.1.trans hb) hdg ht (fun z => kt z p e s m args below meth c Q H locs ls B hq hP hl hS) (fun z => kf z p e s m args below meth c Q H locs ls B hq hP hl hS)
theorem zz_icmp_lt (hb : kcc K = cc) {x y : Int32} {off : Int} {tgt : Nat} (hdg : decode cc pc = .ok (.if_icmp .lt off, 3)) (ht : (pc : Int) + off = (tgt : Int)) (kt : x < y → ZZ K u tgt L S I) (kf : ¬ x < y → ZZ K u (pc + 3) L S I) : ZZ K u pc L (.int y :: .int x :: S) I :=
  fun p e s m args below meth c Q H locs ls B hq hP hl hS => lv_icmp_lt B.1 (B.2.1.trans hb) hdg ht (fun z => kt z p e s m args below meth c Q H locs ls B hq hP hl hS) (fun z => kf z p e s m args below meth c Q H locs ls B hq hP hl hS)
theorem zz_if_ge (hb : kcc K = cc) {x : Int32} {off : Int} {tgt : Nat} (hdg : decode cc pc = .ok (.ifCond .ge off, 3)) (ht : (pc : Int) + off = (tgt : Int)) (kt : 0 ≤ x → ZZ K u tgt L S I) (kf : ¬ 0 ≤ x → ZZ K u (pc + 3) L S I) : ZZ K u pc L (.int x :: S) I :=
  fun p e s m args below meth c Q H locs ls B hq hP hl hS => lv_if_ge B.1 (B.2.1.trans hb) hdg ht (fun z => kt z p e s m args below meth c Q H locs ls B hq hP hl hS) (fun z => kf z p e s m args below meth c Q H locs ls B hq hP hl hS)
theorem zz_icmp_ge (hb : kcc K = cc) {x y : Int32} {off : Int} {tgt : Nat} (hdg : decode cc pc = .ok (.if_icmp .ge off, 3)) (ht : (pc : Int) + off = (tgt : Int)) (kt : y ≤ x → ZZ K u tgt L S I) (kf : ¬ y ≤ x → ZZ K u (pc + 3) L S I) : ZZ K u pc L (.int y :: .int x :: S) I :=
  fun p e s m args below meth c Q H locs ls B hq hP hl hS => lv_icmp_ge B.1 (B.2.1.trans hb) hdg ht (fun z => kt z p e s m args below meth c Q H locs ls B hq hP hl hS) (fun z => kf z p e s m args below meth c Q H locs ls B hq hP hl hS)
theorem zz_if_gt (hb : kcc K = cc) {x : Int32} {off : Int} {tgt : Nat} (hdg : decode cc pc = .ok (.ifCond .gt off, 3)) (ht : (pc : Int) + off = (tgt : Int)) (kt : 0 < x → ZZ K u tgt L S I) (kf : ¬ 0 < x → ZZ K u (pc + 3) L S I) : ZZ K u pc L (.int x :: S) I :=
  fun p e s m args below meth c Q H locs ls B hq hP hl hS => lv_if_gt B.1 (B.2.1.trans hb) hdg ht (fun z => kt z p e s m args below meth c Q H locs ls B hq hP hl hS) (fun z => kf z p e s m args below meth c Q H locs ls B hq hP hl hS)
theorem zz_icmp_gt (hb : kcc K = cc) {x y : Int32} {off : Int} {tgt : Nat} (hdg : decode cc pc = .ok (.if_icmp .gt off, 3)) (ht : (pc : Int) + off = (tgt : Int)) (kt : y < x → ZZ K u tgt L S I) (kf : ¬ y < x → ZZ K u (pc + 3) L S I) : ZZ K u pc L (.int y :: .int x :: S) I :=
  fun p e s m args below meth c Q H locs ls B hq hP hl hS => lv_icmp_gt B.1 (B.2.1.trans hb) hdg ht (fun z => kt z p e s m args below meth c Q H locs ls B hq hP hl hS) (fun z => kf z p e s m args below meth c Q H locs ls B hq hP hl hS)
theorem zz_if_le (hb : kcc K = cc) {x : Int32} {off : Int} {tgt : Nat} (hdg : decode cc pc = .ok (.ifCond .le off, 3)) (ht : (pc : Int) + off = (tgt : Int)) (kt : x ≤ 0 → ZZ K u tgt L S I) (kf : ¬ x ≤ 0 → ZZ K u (pc + 3) L S I) : ZZ K u pc L (.int x :: S) I :=
  fun p e s m args below meth c Q H locs ls B hq hP hl hS => lv_if_le B.1 (B.2.1.trans hb) hdg ht (fun z => kt z p e s m args below meth c Q H locs ls B hq hP hl hS) (fun z => kf z p e s m args below meth c Q H locs ls B hq hP hl hS)
theorem zz_icmp_le (hb : kcc K = cc) {x y : Int32} {off : Int} {tgt : Nat} (hdg : decode cc pc = .ok (.if_icmp .le off, 3)) (ht : (pc : Int) + off = (tgt : Int)) (kt : x ≤ y → ZZ K u tgt L S I) (kf : ¬ x ≤ y → ZZ K u (pc + 3) L S I) : ZZ K u pc L (.int y :: .int x :: S) I :=
  fun p e s m args below meth c Q H locs ls B hq hP hl hS => lv_icmp_le B.1 (B.2.1.trans hb) hdg ht (fun z => kt z p e s m args below meth c Q H locs ls B hq hP hl hS) (fun z => kf z p e s m args below meth c Q H locs ls B hq hP hl hS)
theorem zz_tableIn (hb : kcc K = cc) {dflt lo hi : Int} {offs : Array Int} {len : Nat} {x : Int32} {off : Int} {tgt : Nat} (hdg : decode cc pc = .ok (.tableswitch dflt lo hi offs, len)) (h1 : ¬ x.toInt < lo) (h2 : ¬ hi < x.toInt) (ho : offs[(x.toInt - lo).toNat]? = some off) (ht : (pc : Int) + off = (tgt : Int)) (k : ZZ K u tgt L S I) : ZZ K u pc L (.int x :: S) I :=
  fun p e s m args below meth c Q H locs ls B hq hP hl hS => lv_tableIn B.1 (B.2.1.trans hb) hdg h1 h2 ho ht (k p e s m args below meth c Q H locs ls B hq hP hl hS)
theorem zz_tableOut (hb : kcc K = cc) {dflt lo hi : Int} {offs : Array Int} {len : Nat} {x : Int32} {tgt : Nat} (hdg : decode cc pc = .ok (.tableswitch dflt lo hi offs, len)) (h : x.toInt < lo ∨ hi < x.toInt) (ht : (pc : Int) + dflt = (tgt : Int)) (k : ZZ K u tgt L S I) : ZZ K u pc L (.int x :: S) I :=
  fun p e s m args below meth c Q H locs ls B hq hP hl hS => lv_tableOut B.1 (B.2.1.trans hb) hdg h ht (k p e s m args below meth c Q H locs ls B hq hP hl hS)
end ZZA
