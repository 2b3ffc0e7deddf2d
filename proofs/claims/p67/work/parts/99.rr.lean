/-! THE LAW FROM ITS ENTRY TO ITS LOOP: the walk over what holds of a heap, with plain addresses -/
def RR (K : zK) (u : Nat × Nat) (pc : Nat) (L : List (Nat × Value)) (S : List Value) (I : Heap → Prop) : Prop :=
  ∀ (p : Program) (e : Env) (s : State) (m : MethodId) (args : Array Value) (below : List Frame) (meth : Method) (c : Code) (Q : State → Prop) (H : Heap) (locs : List Loc) (ls : Array Slot),
    zB K p s m args meth c → kPh K below args s meth c Q → I H → lv_has ls (knL K) L → va_S (gF (kG K)) s.heap H locs →
    W p (kl K) e (kR K) s m args below meth c H locs u.1 u.2 Q (F0 m pc ls S)
theorem w312 : wOK (0, 312) := by
  refine ⟨by decide, fun r h1 h2 k hk hs _ => ?_⟩
  have h : (List.range 312).all (fun r => (List.range (nS r)).all (fun k => decide (sT (LT r) k ≠ 0 → LR r k < 312))) = true := by decide +kernel
  have e := List.all_eq_true.mp h r (List.mem_range.mpr h2)
  exact ⟨Nat.zero_le _, of_decide_eq_true (List.all_eq_true.mp e k (List.mem_range.mpr hk)) hs⟩
theorem w316 : wOK (0, 316) := by
  refine ⟨by decide, fun r h1 h2 k hk hs h40 => ?_⟩
  have h : (List.range 316).all (fun r => (List.range (nS r)).all (fun k => decide (sT (LT r) k ≠ 0 → sT (LT r) k ≠ 40 → LR r k < 316))) = true := by decide +kernel
  have e := List.all_eq_true.mp h r (List.mem_range.mpr h2)
  exact ⟨Nat.zero_le _, of_decide_eq_true (List.all_eq_true.mp e k (List.mem_range.mpr hk)) hs h40⟩
/-- the office's cells under other constants that name its roles alike -/
theorem zP_cg {G G' : zG} {w : Nat × Nat} {M : zM} {D : va_G} {H : Heap} (hw : wOK w) (hA : gA G' = gA G) (h1 : ∀ r, w.1 ≤ r → r < w.2 → gad G' r = gad G r) (h40 : ∀ r, w.1 ≤ r → r < w.2 → ∀ k, k < nS r → sT (LT r) k = 40 → gad G' (LR r k) = gad G (LR r k)) (h : va_P D vwCl (zw G w M) H) : va_P D vwCl (zw G' w M) H := by
  intro k q hk
  have hl : k < w.2 - w.1 := by
    have := (List.getElem?_eq_some_iff.mp hk).1
    unfold zw at this
    simpa using this
  have hz := zw_at (G := G') (w := w) (I := M) (r := w.1 + k) (by omega) (by omega)
  rw [show w.1 + k - w.1 = k by omega, hk] at hz
  have hz := Option.some.inj hz
  rw [hz, h1 _ (by omega) (by omega)]
  have h9 : w.2 ≤ 321 := hw.1
  refine yc_G (G := G) (by omega) hA (fun j g1 g2 => ?_) (h _ _ (zw_at (r := w.1 + k) (by omega) (by omega)))
  by_cases e40 : sT (LT (w.1 + k)) j = 40
  · exact h40 _ (by omega) (by omega) j g1 e40
  · obtain ⟨z1, z2⟩ := hw.2 (w.1 + k) (by omega) (by omega) j g1 g2 e40
    exact h1 _ z1 z2
theorem sT_40b : ∀ r, r < 321 → ∀ k, k < nS r → sT (LT r) k = 40 → LR r k = 1400 ∧ 312 ≤ r := by decide +kernel
section RRA
variable {K : zK} {u : Nat × Nat} {pc : Nat} {L L' : List (Nat × Value)} {S : List Value} {I : Heap → Prop} {cc : ByteArray} {own : String}
theorem rr_imp {J : Heap → Prop} (h : ∀ H, I H → J H) (k : RR K u pc L S J) : RR K u pc L S I :=
  fun p e s m args below meth c Q H locs ls B hq hP hl hS => k p e s m args below meth c Q H locs ls B hq (h H hP) hl hS
theorem rr_iconst (hb : kcc K = cc) {n : Int} {v : Int32} (hdg : decode cc pc = .ok (.iconst n, 1)) (hv : Int32.ofInt n = v) (k : RR K u (pc + 1) L (.int v :: S) I) : RR K u pc L S I :=
  fun p e s m args below meth c Q H locs ls B hq hP hl hS => lv_iconst B.1 (B.2.1.trans hb) hdg hv (k p e s m args below meth c Q H locs ls B hq hP hl hS)
theorem rr_bipush (hb : kcc K = cc) {n : Int} {v : Int32} (hdg : decode cc pc = .ok (.bipush n, 2)) (hv : (Int8.ofInt n).toInt32 = v) (k : RR K u (pc + 2) L (.int v :: S) I) : RR K u pc L S I :=
  fun p e s m args below meth c Q H locs ls B hq hP hl hS => lv_bipush B.1 (B.2.1.trans hb) hdg hv (k p e s m args below meth c Q H locs ls B hq hP hl hS)
theorem rr_iload_n (hb : kcc K = cc) {f : Fin 4} {i : Nat} {x : Int32} (hdg : decode cc pc = .ok (.iload_n f, 1)) (hi : (f : Nat) = i) (q : Nat) (hL : L[q]? = some (i, .int x)) (k : RR K u (pc + 1) L (.int x :: S) I) : RR K u pc L S I :=
  fun p e s m args below meth c Q H locs ls B hq hP hl hS => lv_iload_n B.1 (B.2.1.trans hb) hdg hi (lv_at hl q hL) (k p e s m args below meth c Q H locs ls B hq hP hl hS)
theorem rr_aload_n (hb : kcc K = cc) {f : Fin 4} {i r : Nat} (hdg : decode cc pc = .ok (.aload_n f, 1)) (hi : (f : Nat) = i) (q : Nat) (hL : L[q]? = some (i, .ref r)) (k : RR K u (pc + 1) L (.ref r :: S) I) : RR K u pc L S I :=
  fun p e s m args below meth c Q H locs ls B hq hP hl hS => lv_aload_n B.1 (B.2.1.trans hb) hdg hi (lv_at hl q hL) (k p e s m args below meth c Q H locs ls B hq hP hl hS)
theorem rr_istore_n (hb : kcc K = cc) {f : Fin 4} {i : Nat} {x : Int32} (hdg : decode cc pc = .ok (.istore_n f, 1)) (hi : (f : Nat) = i) {nL : Nat} (hnl : knL K = nL) (hn : Nat.blt i nL = true) (hL : (i, .int x) :: L.filter (zcut i) = L') (k : RR K u (pc + 1) L' S I) : RR K u pc L (.int x :: S) I :=
  fun p e s m args below meth c Q H locs ls B hq hP hl hS => lv_istore_n B.1 (B.2.1.trans hb) hdg hi hl (by rw [hnl]; exact Nat.blt_eq.mp hn) rfl (fun ls' hl' => k p e s m args below meth c Q H locs ls' B hq hP (by rw [← hL]; exact hl') hS)
theorem rr_istore (hb : kcc K = cc) {i : Nat} {x : Int32} (hdg : decode cc pc = .ok (.istore i, 2)) {nL : Nat} (hnl : knL K = nL) (hn : Nat.blt i nL = true) (hL : (i, .int x) :: L.filter (zcut i) = L') (k : RR K u (pc + 2) L' S I) : RR K u pc L (.int x :: S) I :=
  fun p e s m args below meth c Q H locs ls B hq hP hl hS => lv_istore B.1 (B.2.1.trans hb) hdg hl (by rw [hnl]; exact Nat.blt_eq.mp hn) rfl (fun ls' hl' => k p e s m args below meth c Q H locs ls' B hq hP (by rw [← hL]; exact hl') hS)
theorem rr_astore_n (hb : kcc K = cc) {f : Fin 4} {i r : Nat} (hdg : decode cc pc = .ok (.astore_n f, 1)) (hi : (f : Nat) = i) {nL : Nat} (hnl : knL K = nL) (hn : Nat.blt i nL = true) (hL : (i, .ref r) :: L.filter (zcut i) = L') (k : RR K u (pc + 1) L' S I) : RR K u pc L (.ref r :: S) I :=
  fun p e s m args below meth c Q H locs ls B hq hP hl hS => lv_astore_n B.1 (B.2.1.trans hb) hdg hi hl (by rw [hnl]; exact Nat.blt_eq.mp hn) rfl (fun ls' hl' => k p e s m args below meth c Q H locs ls' B hq hP (by rw [← hL]; exact hl') hS)
theorem rr_astore (hb : kcc K = cc) {i r : Nat} (hdg : decode cc pc = .ok (.astore i, 2)) {nL : Nat} (hnl : knL K = nL) (hn : Nat.blt i nL = true) (hL : (i, .ref r) :: L.filter (zcut i) = L') (k : RR K u (pc + 2) L' S I) : RR K u pc L (.ref r :: S) I :=
  fun p e s m args below meth c Q H locs ls B hq hP hl hS => lv_astore B.1 (B.2.1.trans hb) hdg hl (by rw [hnl]; exact Nat.blt_eq.mp hn) rfl (fun ls' hl' => k p e s m args below meth c Q H locs ls' B hq hP (by rw [← hL]; exact hl') hS)
theorem rr_iadd (hb : kcc K = cc) {x y : Int32} (hdg : decode cc pc = .ok (.iadd, 1)) (k : RR K u (pc + 1) L (.int (x + y) :: S) I) : RR K u pc L (.int y :: .int x :: S) I :=
  fun p e s m args below meth c Q H locs ls B hq hP hl hS => lv_iadd B.1 (B.2.1.trans hb) hdg (k p e s m args below meth c Q H locs ls B hq hP hl hS)
theorem rr_dup (hb : kcc K = cc) {v : Value} (hdg : decode cc pc = .ok (.dup, 1)) (hv : v.category = 1) (k : RR K u (pc + 1) L (v :: v :: S) I) : RR K u pc L (v :: S) I :=
  fun p e s m args below meth c Q H locs ls B hq hP hl hS => lv_dup B.1 (B.2.1.trans hb) hdg hv (k p e s m args below meth c Q H locs ls B hq hP hl hS)
theorem rr_if_eq (hb : kcc K = cc) {x : Int32} {off : Int} {tgt : Nat} (hdg : decode cc pc = .ok (.ifCond .eq off, 3)) (ht : (pc : Int) + off = (tgt : Int)) (kt : x = 0 → RR K u tgt L S I) (kf : ¬ x = 0 → RR K u (pc + 3) L S I) : RR K u pc L (.int x :: S) I :=
  fun p e s m args below meth c Q H locs ls B hq hP hl hS => lv_if_eq B.1 (B.2.1.trans hb) hdg ht (fun z => kt z p e s m args below meth c Q H locs ls B hq hP hl hS) (fun z => kf z p e s m args below meth c Q H locs ls B hq hP hl hS)
theorem rr_icmp_eq (hb : kcc K = cc) {x y : Int32} {off : Int} {tgt : Nat} (hdg : decode cc pc = .ok (.if_icmp .eq off, 3)) (ht : (pc : Int) + off = (tgt : Int)) (kt : x = y → RR K u tgt L S I) (kf : ¬ x = y → RR K u (pc + 3) L S I) : RR K u pc L (.int y :: .int x :: S) I :=
  fun p e s m args below meth c Q H locs ls B hq hP hl hS => lv_icmp_eq B.1 (B.2.1.trans hb) hdg ht (fun z => kt z p e s m args below meth c Q H locs ls B hq hP hl hS) (fun z => kf z p e s m args below meth c Q H locs ls B hq hP hl hS)
/-- a VV walk, its roles named -/
theorem rr_vv (k : RR K u pc (L.map (zl (kG K))) (S.map (zv (kG K))) I) : VV K u pc L S I := k
/-- behind a call: everything that was there is kept, but what the callee may write -/
theorem rr_run {mc' : Nat × Nat} {F : Addr → Prop} {Qa : State → Outcome → State → Prop} {p : Program} {e : Env} {s : State} {m : MethodId} {args : Array Value} {below : List Frame} {meth : Method} {c : Code} {Q : State → Prop} {H : Heap} {locs : List Loc} {ls : Array Slot} {st0 : List Value} {XC : String → State → State → Prop} (B : zB K p s m args meth c) (hq : kPh K below args s meth c Q) (hl : lv_has ls (knL K) L) (hS : va_S (gF (kG K)) s.heap H locs) (hF : ∀ q, F q → gF (kG K) q)
    (hX : ∀ E st t, ¬ XC E st t) (hr : vx_Run p (kl K) e (kR K) s m args below meth c H locs u.1 u.2 mc'.1 mc'.2 (F0 m pc ls st0) S Qa XC F) {J : Option Value → Heap → Prop} (hJ : ∀ st v t, st.heap = H → Qa st (.returned v) t → J v t.heap ∧ va_F F st t)
    (kv : ∀ v, RR K (u.1 + mc'.1, u.2 + mc'.2) (pc + 3) L (v.toList ++ S) (J v)) : W p (kl K) e (kR K) s m args below meth c H locs u.1 u.2 Q (F0 m pc ls st0) := by
  intro T hT Xs
  rcases hr T hT Xs with ⟨v, st₀, t, T', Ll, h0, X', hL, e1, e2, hv, st⟩ | ⟨q, st₀, t, T', Ll, E, ce, h0, X', hL, e1, e2, hx, hce, hcv, hcl, st⟩
  · obtain ⟨hj, hFr⟩ := hJ st₀ v t h0 hv
    obtain ⟨-, -, hS'⟩ := vx_keep h0 e1 hS (fun q _ h => hF q h) hF hL hFr
    obtain ⟨t2, a1, b1⟩ := kv v p e s m args below meth c Q T'.heap (locs ++ Ll) ls B hq (by rw [e1]; exact hj) hl hS' T' rfl X'
    exact ⟨t2, st t2 a1, b1⟩
  · exact absurd hx (hX _ _ _)
end RRA
