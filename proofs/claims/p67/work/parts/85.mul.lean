/-! multianewarray: six arrays of six bytes and the array of them -/
section MUL
variable {E : CtlPost} {e : Env} {d : Bool} {acts : List Action} {S : State}
theorem mul_new {c comp : ClassId} {k : Class} {t : FieldType} {n : Nat} {v : Value} (hk : S.vm.classes[c]? = some k) (hkind : k.kind = .array comp t) (hlim : ¬ n > e.platform.arrayLengthLimit) (hheap : ¬ n * componentBytes t > e.platform.maxHeapBytes) (hfit0 : fits t v = true) (hdef0 : v.isDefault = true) (h1 : S.heap.size < e.platform.maxCells) (h2 : S.slotsUsed + n ≤ e.platform.maxSlots) {Q : Addr → Pre}
    (hq : Q S.heap.size d acts (S.pushCell { cls := c, slots := Array.replicate n v, vm := .none })) : wp (Jvm.newArray c n v) Q E e d acts S := by
  have hfit : ∀ i w, (Array.replicate n v)[i]? = some w → S.fitsSlot c .none i w = true := by
    intro i w hv
    simp only [Array.getElem?_replicate] at hv
    split at hv
    · cases hv; simp [State.fitsSlot, State.slotType?, hk, hkind, hfit0]
    · cases hv
  have hdef : allocActs (Array.replicate n v) S.heap.size acts = acts := by
    have hall : ((Array.replicate n v).all (·.isDefault)) = true := by
      rw [Array.all_replicate]; split <;> simp [hdef0]
    unfold allocActs; rw [if_pos hall]
  have hms : ¬ n > e.platform.maxSlots := by omega
  simp only [Jvm.newArray, Jvm.arrayFits, wp_bind', W.ite, if_false, wp_pure', W.ask, hlim, W.theClass, hk, Option.some.injEq, exists_eq_left', hkind, hheap, hms, W.alloc, W.stop, Array.size_replicate, hdef]
  exact ⟨h1, h2, hfit, hq⟩
theorem mul_in {cB comp : ClassId} {kB : Class} (hk : S.vm.classes[cB]? = some kB) (hkind : kB.kind = .array comp .byte) (hlim : ¬ 6 > e.platform.arrayLengthLimit) (hheap : ¬ 6 * componentBytes .byte > e.platform.maxHeapBytes) (h1 : S.heap.size < e.platform.maxCells) (h2 : S.slotsUsed + 6 ≤ e.platform.maxSlots) {Q : Addr → Pre}
    (hq : Q S.heap.size d acts (S.pushCell { cls := cB, slots := Array.replicate 6 (.int 0), vm := .none })) : wp (Op.multianewarray.make cB [6]) Q E e d acts S := by
  have hn : ¬ (6 : Int32) < 0 := by decide
  have hc : (6 : Int32).toNatClampNeg = 6 := by decide
  rw [Op.multianewarray.make]
  simp only [wp_bind', W.ite, hn, if_false, wp_pure', W.theClass, hk, hc]
  refine ⟨kB, rfl, ?_⟩
  rw [hkind]
  exact mul_new hk hkind hlim hheap rfl rfl h1 h2 hq
theorem mul_out {cA cB : ClassId} {kA : Class} (hkA : S.vm.classes[cA]? = some kA) (hkindA : kA.kind = .array cB (.array .byte)) (hlim : ¬ 6 > e.platform.arrayLengthLimit) (hheapA : ¬ 6 * componentBytes (.array .byte) > e.platform.maxHeapBytes) (hheapB : ¬ 6 * componentBytes .byte > e.platform.maxHeapBytes) (h1 : S.heap.size < e.platform.maxCells) (h2 : S.slotsUsed + 6 ≤ e.platform.maxSlots)
    (Iv : Nat → State → Prop) (h0 : Iv 0 (S.pushCell { cls := cA, slots := Array.replicate 6 .null, vm := .none }))
    (hstep : ∀ (i : Nat) (S' : State), i < 6 → Iv i S' → (∃ (kB : Class) (compB : ClassId), S'.vm.classes[cB]? = some kB ∧ kB.kind = .array compB .byte) ∧ S'.heap.size < e.platform.maxCells ∧ S'.slotsUsed + 6 ≤ e.platform.maxSlots ∧ ∃ cell : Cell, (S'.pushCell { cls := cB, slots := Array.replicate 6 (.int 0), vm := .none }).heap[S.heap.size]? = some cell ∧ cell.vm ≠ .unknown ∧ i < cell.slots.size ∧ (S'.pushCell { cls := cB, slots := Array.replicate 6 (.int 0), vm := .none }).fitsSlot cell.cls cell.vm i (.ref S'.heap.size) = true ∧ Iv (i + 1) ((S'.pushCell { cls := cB, slots := Array.replicate 6 (.int 0), vm := .none }).setCell S.heap.size (cell.setSlot i (.ref S'.heap.size))))
    {Q : Addr → Pre} (hq : ∀ S' d acts, Iv 6 S' → Q S.heap.size d acts S') : wp (Op.multianewarray.make cA [6, 6]) Q E e d acts S := by
  have hn : ¬ (6 : Int32) < 0 := by decide
  have hc : (6 : Int32).toNatClampNeg = 6 := by decide
  have hz : ((6 : Int32) == 0) = false := by decide
  rw [Op.multianewarray.make]
  simp only [wp_bind', W.ite, hn, if_false, wp_pure', W.theClass, hkA, hc]
  refine ⟨kA, rfl, ?_⟩
  rw [hkindA]
  simp only [wp_bind', hz]
  refine mul_new hkA hkindA hlim hheapA rfl rfl h1 h2 ?_
  rw [if_neg (by decide)]
  simp only [wp_bind', wp_pure', Std.Legacy.Range.forIn_eq_forIn_range']
  refine wp_forIn_inv (fun l S' => ∃ i, i ≤ 6 ∧ l = List.range' i (6 - i) ∧ Iv i S') _ _ ⟨0, by omega, rfl, h0⟩ (fun x rest s' d' acts' Q' h hq' => ?_) (fun s' d' acts' h => ?_)
  · obtain ⟨i, hi, hl, hI⟩ := h
    have hi6 : i < 6 := by
      by_cases e : i = 6
      · subst e; simp at hl
      · omega
    rw [show 6 - i = (6 - (i + 1)) + 1 by omega, List.range'_succ] at hl
    obtain ⟨rfl, rfl⟩ := List.cons.inj hl
    obtain ⟨⟨kB, compB, g1, g2⟩, g3, g4, cell, g5, g6, g7, g8, g9⟩ := hstep x s' hi6 hI
    simp only [wp_bind', wp_pure', W.writeLoc]
    refine mul_in g1 g2 hlim hheapB g3 g4 ⟨cell, g5, g6, g7, g8, ?_⟩
    exact hq' _ _ _ ⟨x + 1, by omega, rfl, g9⟩
  · obtain ⟨i, hi, hl, hI⟩ := h
    have e6 : i = 6 := by
      by_cases e : i = 6
      · exact e
      · rw [show 6 - i = (6 - (i + 1)) + 1 by omega, List.range'_succ] at hl
        cases hl
    subst e6
    exact hq _ _ _ hI
end MUL
section MUM
variable {p : Program} {l : Launch} {e : Env} {R : Room} {s : State} {m : MethodId} {args : Array Value} {below : List Frame} {meth : Method} {c : Code} {H : Heap} {locs : List Loc} {cells slots : Nat} {Q : State → Prop}
/-- the outer array when i of its places are set -/
def mulC (cA : ClassId) (h i : Nat) : Cell := arrV cA 6 (fun j => if j < i then .ref (h + 1 + j) else .null)
def mulS (cA cB : ClassId) (h : Nat) (S : State) : Nat → State
  | 0 => S.pushCell (mulC cA h 0)
  | i + 1 => ((mulS cA cB h S i).pushCell (arrV cB 6 (fun _ => .int 0))).setCell h (mulC cA h (i + 1))
theorem mulC_next {cA : ClassId} {h i : Nat} (hi : i < 6) : (mulC cA h i).setSlot i (.ref (h + 1 + i)) = mulC cA h (i + 1) := by
  unfold mulC
  rw [arrV_store]
  congr 1
  funext j
  unfold updV
  dsimp only
  by_cases e : j = i
  · rw [if_pos e, if_pos (by omega), e]
  · rw [if_neg e]
    by_cases e2 : j < i
    · rw [if_pos e2, if_pos (by omega)]
    · rw [if_neg e2, if_neg (by omega)]
theorem mulS_at {T : State} {cA cB : ClassId} (X : Stand p l e R s m args below meth c T locs cells slots) (hge : s.heap.size ≤ T.heap.size) : ∀ i, i ≤ 6 →
    Stand p l e R s m args below meth c (mulS cA cB T.heap.size T i) locs (cells + 1 + i) (slots + 6 + 6 * i) ∧ (mulS cA cB T.heap.size T i).heap.size = T.heap.size + 1 + i ∧ (mulS cA cB T.heap.size T i).heap[T.heap.size]? = some (mulC cA T.heap.size i) ∧ (∀ j, j < i → (mulS cA cB T.heap.size T i).heap[T.heap.size + 1 + j]? = some (arrV cB 6 (fun _ => .int 0))) ∧ (∀ q : Nat, q < T.heap.size → (mulS cA cB T.heap.size T i).heap[q]? = T.heap[q]?) ∧ (mulS cA cB T.heap.size T i).vm = T.vm
  | 0, _ => by
    have hp := X.pushed (mulC cA T.heap.size 0)
    rw [show (mulC cA T.heap.size 0).slots.size = 6 by unfold mulC; exact arrV_size _ _ _] at hp
    have e9 : ∀ q : Nat, (T.pushCell (mulC cA T.heap.size 0)).heap[q]? = if q = T.heap.size then some (mulC cA T.heap.size 0) else T.heap[q]? := fun q => by
      show (T.heap.push _)[q]? = _
      rw [Array.getElem?_push]
    refine ⟨hp, ?_, ?_, fun j hj => absurd hj (Nat.not_lt_zero j), fun q hq => ?_, rfl⟩
    · show (T.heap.push _).size = _
      rw [Array.size_push]
    · show (T.pushCell (mulC cA T.heap.size 0)).heap[T.heap.size]? = _
      rw [e9, if_pos rfl]
    · show (T.pushCell (mulC cA T.heap.size 0)).heap[q]? = _
      rw [e9, if_neg (by omega)]
  | i + 1, hi => by
    obtain ⟨X1, h2, h3, h4, h5, h6⟩ := mulS_at (cA := cA) (cB := cB) X hge i (by omega)
    have X2 := X1.pushed (arrV cB 6 (fun _ => .int 0))
    rw [arrV_size] at X2
    have e9 : ∀ q : Nat, ((mulS cA cB T.heap.size T i).pushCell (arrV cB 6 (fun _ => .int 0))).heap[q]? = if q = T.heap.size + 1 + i then some (arrV cB 6 (fun _ => .int 0)) else (mulS cA cB T.heap.size T i).heap[q]? := fun q => by
      show ((mulS cA cB T.heap.size T i).heap.push _)[q]? = _
      rw [Array.getElem?_push, h2]
    have hz : ((mulS cA cB T.heap.size T i).pushCell (arrV cB 6 (fun _ => .int 0))).heap.size = T.heap.size + 1 + i + 1 := by
      show ((mulS cA cB T.heap.size T i).heap.push _).size = _
      rw [Array.size_push, h2]
    have h7 : ((mulS cA cB T.heap.size T i).pushCell (arrV cB 6 (fun _ => .int 0))).heap[T.heap.size]? = some (mulC cA T.heap.size i) := by rw [e9, if_neg (by omega)]; exact h3
    have X3 := X2.stored h7 i (.ref (T.heap.size + 1 + i))
    rw [mulC_next (by omega)] at X3
    have X4 := Stand.forget X3 (fun y hy => by rw [List.mem_singleton.mp hy]; exact hge)
    have e10 : ∀ q : Nat, q ≠ T.heap.size → (mulS cA cB T.heap.size T (i + 1)).heap[q]? = ((mulS cA cB T.heap.size T i).pushCell (arrV cB 6 (fun _ => .int 0))).heap[q]? := fun q hq => heapAt_setCell_ne _ (Ne.symm hq)
    refine ⟨X4, ?_, ?_, fun j hj => ?_, fun q hq => ?_, h6⟩
    · show (((mulS cA cB T.heap.size T i).pushCell (arrV cB 6 (fun _ => .int 0))).setCell T.heap.size _).heap.size = _
      rw [size_setCell, hz]; omega
    · have hlt : T.heap.size < ((mulS cA cB T.heap.size T i).pushCell (arrV cB 6 (fun _ => .int 0))).heap.size := by rw [hz]; omega
      exact heapAt_setCell_self _ hlt
    · rw [e10 _ (by omega), e9]
      by_cases e : j = i
      · rw [if_pos (by omega)]
      · rw [if_neg (by omega)]; exact h4 j (by omega)
    · rw [e10 _ (by omega), e9, if_neg (by omega)]; exact h5 q hq
theorem wm_multi {cc : ByteArray} (hexec : p.tables.exec = Jvm.exec) (hb : c.code = cc) {own : String} {index : Nat} (hown : s.vm.findClass own = some m.cls) (hclink : (Cond.classLink own index "[[B").before args s = true) (hover : (Cond.arrayOver (.array .byte)).before args s = true) {cB : ClassId} (hB : ArrOfT s cB .byte) (hBn : s.vm.findClass "[B" = some cB) (hge : s.heap.size ≤ H.size)
    {g : JFrame} (hg : g.method = m) {rest : List Value} (hstack : g.stack = .int 6 :: .int 6 :: rest) (hdg : decode cc g.pc = .ok (.multianewarray index 2, 4)) (hcells : cells + 7 ≤ R.cells) (hslots : slots + 42 ≤ R.slots)
    (kk : ∀ (H' : Heap) (cA : ClassId), s.vm.findClass "[[B" = some cA → H'.size = H.size + 7 → H'[H.size]? = some (arrV cA 6 (fun j => if j < 6 then .ref (H.size + 1 + j) else .null)) → (∀ j, j < 6 → H'[H.size + 1 + j]? = some (arrV cB 6 (fun _ => .int 0))) → (∀ q : Nat, q < H.size → H'[q]? = H[q]?) → W p l e R s m args below meth c H' locs (cells + 7) (slots + 42) Q { g with pc := g.pc + 4, stack := .ref H.size :: rest }) :
    W p l e R s m args below meth c H locs cells slots Q g := by
  intro T hT X
  subst hT; subst hb; subst hg
  have hpl : e.platform.magicAccessors = ({} : Platform).magicAccessors := by rw [X.admits.platform]
  obtain ⟨comp, cA, kA, hcomp, hidx, hkA, hkindA, hnameA⟩ := arrayOverA_spec hover
  have hcomp2 : s.vm.findClass "[B" = some comp := hcomp
  cases Option.some.inj (hcomp2.symm.trans hBn)
  have hnameA2 : s.vm.findClass "[[B" = some cA := hnameA
  obtain ⟨cc', hfcc, hcl⟩ := Cond.classLink_spec hown hclink e.platform hpl
  cases Option.some.inj (hfcc.symm.trans hnameA2)
  obtain ⟨hg₁, hwarm₁, hready₁⟩ := State.classEntry (e := e) X.warmed hcl
  generalize T.vm.noted g.method.cls index (.cls cA) = vm₁ at hg₁ hwarm₁ hready₁
  have hal : s.vm.Alike vm₁ := hwarm₁.alike
  obtain ⟨kA₁, hkA₁, heA⟩ := hal.2.2 _ _ hkA
  have hkindA₁ : kA₁.kind = .array cB (.array .byte) := by rw [heA]; exact hkindA
  obtain ⟨-, kB, hkB, compB, hkindB⟩ := hB 6 (fun _ => .int 0)
  obtain ⟨kB₁, hkB₁, heB⟩ := hal.2.2 _ _ hkB
  have hkindB₁ : kB₁.kind = .array compB .byte := by rw [heB]; exact hkindB
  have hlim : ¬ 6 > e.platform.arrayLengthLimit := by rw [Launch.admits_arrayLengthLimit X.admits]; omega
  have hheapA : ¬ 6 * componentBytes (.array .byte) > e.platform.maxHeapBytes := by
    rw [Launch.admits_maxHeapBytes X.admits]; show ¬ 6 * 4 > 536870912; omega
  have hheapB : ¬ 6 * componentBytes .byte > e.platform.maxHeapBytes := by
    rw [Launch.admits_maxHeapBytes X.admits]; show ¬ 6 * 1 > 536870912; omega
  have X₁ := X.noted hwarm₁
  have hA : ∀ i, i ≤ 6 → Stand p l e R s g.method args below meth c (mulS cA cB T.heap.size (T.setVm vm₁) i) locs (cells + 1 + i) (slots + 6 + 6 * i) ∧ (mulS cA cB T.heap.size (T.setVm vm₁) i).heap.size = T.heap.size + 1 + i ∧ (mulS cA cB T.heap.size (T.setVm vm₁) i).heap[T.heap.size]? = some (mulC cA T.heap.size i) ∧ (∀ j, j < i → (mulS cA cB T.heap.size (T.setVm vm₁) i).heap[T.heap.size + 1 + j]? = some (arrV cB 6 (fun _ => .int 0))) ∧ (∀ q : Nat, q < T.heap.size → (mulS cA cB T.heap.size (T.setVm vm₁) i).heap[q]? = T.heap[q]?) ∧ (mulS cA cB T.heap.size (T.setVm vm₁) i).vm = vm₁ := mulS_at (cA := cA) (cB := cB) X₁ hge
  obtain ⟨X₆, h2, h3, h4, h5, h6⟩ := hA 6 (Nat.le_refl _)
  obtain ⟨t', a1, b1⟩ := kk (mulS cA cB T.heap.size (T.setVm vm₁) 6).heap cA hnameA2 (h2.trans rfl) h3 h4 h5 (mulS cA cB T.heap.size (T.setVm vm₁) 6) rfl X₆
  refine ⟨t', ?_, b1⟩
  jvm_step X.here [hexec, hdg]
  have htop := X.here.top
  simp only [Op.multianewarray.sem, wp_bind']
  rw [W.resolveClassAt_transfer (s := T.setTop g) (State.method?_setTop g htop) hg₁ hready₁]
  rw [W.resolveClassAt_ready (s := (T.setTop g).setVm vm₁) (State.method?_setTop g htop) hready₁]
  simp only [wp_bind']
  refine (W.popN 2).mpr ?_
  rw [if_neg (by decide)]
  refine ⟨g, State.topJava?_setTop' _ htop, [.int 6, .int 6], rest, rfl, hstack, ?_⟩
  simp only [List.mapM_cons, List.mapM_nil, wp_bind', wp_pure']
  rw [show (T.setTop g).setVm vm₁ = (T.setVm vm₁).setTop g from rfl, State.setTop_setTop]
  refine mul_out (S := ((T.setVm vm₁).setTop { g with stack := rest })) hkA₁ hkindA₁ hlim hheapA hheapB ?_ ?_ (fun i S' => S' = (mulS cA cB T.heap.size (T.setVm vm₁) i).setTop { g with stack := rest }) ?_ (fun i S' hi hS => ?_) (fun S' d acts hS => ?_)
  · exact (X₁.roomAbove (a := 1) (b := 6) (by omega) (by omega)).1
  · exact (X₁.roomAbove (a := 1) (b := 6) (by omega) (by omega)).2
  · show _ = (((T.setVm vm₁).pushCell _).setTop _)
    rw [arrV_new]
    rfl
  · subst hS
    obtain ⟨Y, y2, y3, y4, y5, y6⟩ := hA i (by omega)
    refine ⟨⟨kB₁, compB, by rw [State.vm_setTop, y6]; exact hkB₁, hkindB₁⟩, (Y.roomAbove (a := 1) (b := 6) (by omega) (by omega)).1, (Y.roomAbove (a := 1) (b := 6) (by omega) (by omega)).2, mulC cA T.heap.size i, ?_, ?_, ?_, ?_, ?_⟩
    · show ((mulS cA cB T.heap.size (T.setVm vm₁) i).heap.push _)[T.heap.size]? = _
      rw [Array.getElem?_push, if_neg (by rw [y2]; omega)]
      exact y3
    · exact fun h => by cases h
    · show i < (arrV cA 6 _).slots.size
      rw [arrV_size]; exact hi
    · have hk9 : (mulS cA cB T.heap.size (T.setVm vm₁) i).vm.classes[cA]? = some kA₁ := by rw [y6]; exact hkA₁
      show State.fitsSlot (mulS cA cB T.heap.size (T.setVm vm₁) i) cA .none i _ = true
      simp [State.fitsSlot, State.slotType?, hk9, hkindA₁, fits]
    · show ((((mulS cA cB T.heap.size (T.setVm vm₁) i).pushCell _).setCell T.heap.size ((mulC cA T.heap.size i).setSlot i (.ref (mulS cA cB T.heap.size (T.setVm vm₁) i).heap.size))).setTop _) = _
      rw [y2, mulC_next hi, arrV_new]
      rfl
  · subst hS
    simp only [wp_bind', W.mark, W.pushRef]
    refine ⟨{ g with stack := rest }, State.topJava?_setTop' _ X₆.here.top, ?_⟩
    intro acts9
    rw [State.setTop_setTop, afterInstr_ok]
    exact a1
end MUM
