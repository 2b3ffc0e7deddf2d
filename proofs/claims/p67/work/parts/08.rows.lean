/-! ROWS OF THE MEMORY; ends; contracts and calls -/
theorem goodIn_TG {ws : List Cond} (h : ∀ w ∈ ws, w ∈ TG) : GoodIn TG ws := fun w hw => ⟨h w hw, good_of_word (tg_good (h w hw))⟩
theorem zOld_to {G : zG} {s t : State} (hA : s.vm.Alike t.vm) (hR : ∀ (own : String) (k : Nat) (tx : String) (a : Nat), vk_R own k tx a s → vk_R own k tx a t) (hN : ∀ q, q ∈ zNst ∨ q ∈ zXw → va_Nw q s → va_Nw q t) (hH : ∀ q : Nat, q < s.heap.size → ¬ gF G q → t.heap[q]? = s.heap[q]?) (h : zOld G s) : zOld G t := by
  obtain ⟨⟨a1, a2, a3, a4, a5⟩, ⟨b1, b2, b3, b4, b5⟩, c1, d1, n1, x1, f1, g1, e1, e2⟩ := h
  have st : ∀ {C n : String} {r N : Nat} {f : Nat → Int32}, zSt G C n r N f s → zSt G C n r N f t := fun h => ⟨va_Z.moved hA (h.1.kept hH), va_T.moved hA (h.2.kept hH)⟩
  have ft : ∀ {n : String} {r : Nat}, zFt G n r s → zFt G n r t := fun h => va_Z.moved hA (va_Z.kept h hH)
  exact ⟨⟨st a1, st a2, st a3, st a4, va_T.moved hA (a5.1.kept hH), a5.2.1.elim Or.inl (fun z => Or.inr (vk_S.moved hA (z.kept hH))), ⟨va_Z.moved hA (a5.2.2.1.1.kept hH), va_T.moved hA (a5.2.2.1.2.kept hH)⟩, va_Z.moved hA (a5.2.2.2.1.kept hH), va_T.moved hA (a5.2.2.2.2.kept hH)⟩, ⟨ft b1, ft b2, ft b3, ft b4, b5⟩, vk_S.moved hA (c1.kept hH), fun q hq => hR _ _ _ _ (d1 q hq), fun q hq => hN q (Or.inl hq) (n1 q hq), fun q hq => hN q (Or.inr hq) (x1 q hq), va_Z.moved hA (f1.kept hH), g1.elim (fun z => Or.inl (va_Z.moved hA (z.kept hH))) (fun z => Or.inr (va_Z.moved hA (z.kept hH))), vx_Zq.moved hA (e1.kept hH), vx_Zq.moved hA (e2.kept hH)⟩
theorem zNst_on : zNst.all Cond.onTables = true := by decide +kernel
theorem zNst_w {s t : State} {q : Cond} (hW : s.WarmedH t.vm) (hq : q ∈ zNst) (z : va_Nw q s) : va_Nw q t := by
  simp only [zNst, List.mem_cons, List.not_mem_nil, or_false] at hq
  rcases hq with rfl | rfl | rfl | rfl | rfl | rfl | rfl | rfl | rfl | rfl | rfl | rfl | rfl | rfl | rfl <;> first | exact va_Nw.warmM hW z | exact va_Nw.warmF hW z
theorem zXw_ok : zXw.all (fun w => w.onTables && w.keepsFace) = true := by decide +kernel
theorem zOld_warm {G : zG} {s t : State} (hW : s.WarmedH t.vm) (hH : ∀ q : Nat, q < s.heap.size → ¬ gF G q → t.heap[q]? = s.heap[q]?) (h : zOld G s) : zOld G t :=
  zOld_to hW.alike (fun _ _ _ _ r => vk_R.warm hW r) (fun q hq z => hq.elim (fun hq => zNst_w hW hq z) (fun hq => by
    have h1 := List.all_eq_true.mp zXw_ok q hq
    rw [Bool.and_eq_true] at h1
    exact va_tabs h1.1 (rfl : (s.setVm t.vm).vm = t.vm) (Cond.before_shiftedFace (State.Shifted.of_warmed hW) _ h1.2 z))) hH h
theorem zOld_same {G : zG} {s t : State} (hv : t.vm = s.vm) (hh : t.heap = s.heap) (h : zOld G s) : zOld G t :=
  zOld_to (by rw [hv]; exact Vm.Alike.refl _) (fun _ _ _ _ r => vk_R.same hv r) (fun q hq z => hq.elim (fun hq => va_Nw.same (List.all_eq_true.mp zNst_on q hq) hv.symm z) (fun hq => va_Nw.same (by have h1 := List.all_eq_true.mp zXw_ok q hq; rw [Bool.and_eq_true] at h1; exact h1.1) hv.symm z)) (fun q _ _ => by rw [hh]) h
/-- the world at a state -/
def zWl (G : zG) (w : Nat × Nat) (I : zM) (U : State) : Prop := va_P (gD G) vwCl (zw G w I) U.heap ∧ va_K (gD G) vwCl (zt G) U ∧ zOld G U ∧ gb G ≤ U.heap.size ∧ zGok G ∧ wOK w
def zQ (G : zG) (w : Nat × Nat) (P : Option Value → zM → Prop) : Array Value → State → Outcome → State → Prop := fun _ st o t => ∃ (v : Option Value) (J : zM), o = .returned (v.map (zv G)) ∧ P v J ∧ va_P (gD G) vwCl (zw G w J) t.heap ∧ va_F (gF G) st t
def zX (G : zG) (w : Nat × Nat) (X : String → zM → Prop) : String → State → State → Prop := fun E st t => ∃ J : zM, X E J ∧ va_P (gD G) vwCl (zw G w J) t.heap ∧ va_F (gF G) st t
/-- the end of an ordinary method -/
def phS (G : zG) (w : Nat × Nat) (ret : Option FieldType) (mc : Nat × Nat) (P : Option Value → zM → Prop) (X : String → zM → Prop) : zPh := fun below args s meth c Q =>
  meth.sig.returnType = ret ∧ (∀ x ∈ c.exceptionTable.toList, False) ∧ Q = vx_MQ below (zQ G w P) (zX G w X) args s mc.1 mc.2 (gF G)
def zEnd (K : zK) (ret : Option FieldType) (mc : Nat × Nat) (P : Option Value → zM → Prop) (X : String → zM → Prop) : Prop := kPh K = phS (kG K) (kw K) ret mc P X
/-- a method: its name, code, locals, answer -/
abbrev zMt : Type := MethodName × ByteArray × Nat × Option FieldType
def WS (M : zMt) : List Cond := .code M.1 M.2.1 M.2.2.1 M.2.2.2 :: TG
def zR (d : Nat) (mc : Nat × Nat) : Room := { frames := d, cells := mc.1, slots := mc.2, locals := 40 * d }
def CT (G : zG) (w : Nat × Nat) (l : Launch) (M : zMt) (d : Nat) (mc : Nat × Nat) (as : List Value) (I : zM) (P : Option Value → zM → Prop) (X : String → zM → Prop) : Prop :=
  vx_Met l M.1 (WS M) (zR d mc) (va_Pc (as.map (zv G)) (fun U => zWl G w I U ∧ l.stackTraces = false)) (zQ G w P) (zX G w X) mc.1 mc.2 (gF G)
def kOf (G : zG) (w : Nat × Nat) (l : Launch) (M : zMt) (d : Nat) (mc : Nat × Nat) (P : Option Value → zM → Prop) (X : String → zM → Prop) : zK := (G, w, M.1.cls, M.2.1, M.2.2.1, l, zR d mc, phS G w M.2.2.2 mc P X)
theorem zS_get {A : Nat → Prop} {H0 H : Heap} {locs : List Loc} (h : va_S A H0 H locs) : ∀ q : Nat, q < H0.size → ¬ A q → H[q]? = H0[q]? := h.2.1
theorem zWl_end {K : zK} {p : Program} {s : State} {m : MethodId} {args : Array Value} {meth : Method} {c : Code} {H : Heap} {locs : List Loc} {I : zM} {t : State} (B : zB K p s m args meth c) (hP : va_P (gD (kG K)) vwCl (zw (kG K) (kw K) I) H) (hS : va_S (gF (kG K)) s.heap H locs) (ht : t.heap = H) (hW : s.WarmedH t.vm) : zWl (kG K) (kw K) I t := by
  obtain ⟨-, -, -, -, -, -, hK, hO, hb, hG, hw, -⟩ := B
  refine ⟨by rw [ht]; exact hP, va_K.moved hW.alike hK, zOld_warm hW (by rw [ht]; exact hS.2.1) hO, Nat.le_trans hb (by rw [ht]; exact hS.1), hG, hw⟩
theorem zWl_blind {G : zG} {w : Nat × Nat} {I : zM} {av : List Value} {l : Launch} : FrameBlind (va_Pc av (fun U => zWl G w I U ∧ l.stackTraces = false)) := fun a U g mk q => by
  obtain ⟨q0, ⟨q1, q2, q3, q4, q5, q6⟩, q7⟩ := q
  exact ⟨q0, ⟨q1, va_K.moved (u := U) (U := U.calling g mk a) (Vm.Alike.refl U.vm) q2, zOld_same (s := U) (t := U.calling g mk a) rfl rfl q3, q4, q5, q6⟩, q7⟩
section ZZE
variable {K : zK} {u mc : Nat × Nat} {pc : Nat} {L : List (Nat × Value)} {S : List Value} {I : zM} {cc : ByteArray} {P : Option Value → zM → Prop} {X : String → zM → Prop}
theorem zz_iret (hb : kcc K = cc) (hE : zEnd K (some .int) mc P X) (hu : u.1 ≤ mc.1 ∧ u.2 ≤ mc.2) {v : Int32} (hdg : decode cc pc = .ok (.ireturn, 1)) (h : P (some (.int v)) I) : ZZ K u pc L [.int v] I := by
  intro p e s m args below meth c Q H locs ls B hq hP hl hS
  rw [hE] at hq
  obtain ⟨hr, ht, rfl⟩ := hq
  refine W.widen hu.1 hu.2 (vx_ret ?_)
  exact W.iret B.1 (B.2.1.trans hb) hr (fun t ht hW => ⟨some (.int v), I, rfl, h, by rw [ht]; exact hP, hS.F ht⟩) (fun q hq => hS.2.2 q hq) hdg B.2.2.2.2.2.1
theorem zz_zret (hb : kcc K = cc) (hE : zEnd K (some .boolean) mc P X) (hu : u.1 ≤ mc.1 ∧ u.2 ≤ mc.2) {v : Int32} (hv : v = 0 ∨ v = 1) (hdg : decode cc pc = .ok (.ireturn, 1)) (h : P (some (.int v)) I) : ZZ K u pc L [.int v] I := by
  intro p e s m args below meth c Q H locs ls B hq hP hl hS
  rw [hE] at hq
  obtain ⟨hr, ht, rfl⟩ := hq
  refine W.widen hu.1 hu.2 (vx_ret ?_)
  exact W.zret B.1 (B.2.1.trans hb) hr (by rcases hv with rfl | rfl <;> rfl) (fun t ht hW => ⟨some (.int v), I, rfl, h, by rw [ht]; exact hP, hS.F ht⟩) (fun q hq => hS.2.2 q hq) hdg B.2.2.2.2.2.1
theorem zz_vret (hb : kcc K = cc) (hE : zEnd K none mc P X) (hu : u.1 ≤ mc.1 ∧ u.2 ≤ mc.2) (hdg : decode cc pc = .ok (.return_, 1)) (h : P none I) : ZZ K u pc L [] I := by
  intro p e s m args below meth c Q H locs ls B hq hP hl hS
  rw [hE] at hq
  obtain ⟨hr, ht, rfl⟩ := hq
  refine W.widen hu.1 hu.2 (vx_ret ?_)
  exact W.vret B.1 (B.2.1.trans hb) hr (fun t ht hW => ⟨none, I, rfl, h, by rw [ht]; exact hP, hS.F ht⟩) (fun q hq => hS.2.2 q hq) hdg B.2.2.2.2.2.1
theorem zz_aret (hb : kcc K = cc) {n : String} (hE : zEnd K (some (.object n)) mc P X) (hu : u.1 ≤ mc.1 ∧ u.2 ≤ mc.2) {r : Nat} (hdg : decode cc pc = .ok (.areturn, 1)) (h : P (some (.ref r)) I) : ZZ K u pc L [.ref r] I := by
  intro p e s m args below meth c Q H locs ls B hq hP hl hS
  rw [hE] at hq
  obtain ⟨hr, ht, rfl⟩ := hq
  refine W.widen hu.1 hu.2 (vx_ret ?_)
  exact W.aret B.1 (B.2.1.trans hb) hr (Or.inl ⟨n, rfl⟩) (Or.inr ⟨_, rfl⟩) (fun t ht hW => ⟨some (.ref r), I, rfl, h, by rw [ht]; exact hP, hS.F ht⟩) (fun q hq => hS.2.2 q hq) hdg B.2.2.2.2.2.1
end ZZE
