/-! WHAT HOLDS AT THE LAW'S ENTRY: the classes, the words -/
/-- a private method of a superclass, called on an object: another method of that superclass is known to be selected -/
theorem sel_priv {C : String} {y z : MethodName} {s : State} {args : Array Value} (hy : y.cls ≠ "java/lang/invoke/MethodHandle" ∧ y.cls ≠ "java/lang/invoke/VarHandle") (hz : (Cond.selects C z z).before args s = true) (hcls : z.cls = y.cls) (hpriv : (Cond.privateMethod y).before args s = true) (hinst : (Cond.instanceMethod y).before args s = true) :
    (Cond.selects C y y).before args s = true := by
  obtain ⟨c, r, m, hc, -, hmz, -, k, hk, hni⟩ := Cond.selects_spec hz
  obtain ⟨mk, methM, hnamed, hmethM, -, -⟩ := Cond.instanceMethod_spec hinst
  have hfound : s.methodFound? y.cls y.name y.desc = some mk := State.methodFound?_of_named hnamed hy
  have h1 := findClass_of_methodNamed hnamed
  have h2 := findClass_of_methodNamed hmz
  rw [hcls] at h2
  have hcl : mk.cls = m.cls := Option.some.inj (h1.symm.trans h2)
  have hsel : selectMethod {} s.vm c mk = .method mk := selectMethod_private hmethM (Cond.privateMethod_at hpriv mk methM hnamed hmethM)
  simp only [Cond.before, Cond.holds, Cond.value, hc, hfound, hnamed, hsel, hcl, hk]
  simp [hni]
def sbMs : List MethodName := [yJ5_ensureCapacityInternal_d00df, yJ5_newCapacity_0f7a4, yJ5_putStringAt_47b60, yJ5_inflateIfNeededFor_a7421]
theorem sbMs_ok : sbMs.all (fun y => decide (y.cls = RJ5) && decide (Cond.privateMethod y ∈ lw_tbl) && decide (Cond.instanceMethod y ∈ lw_tbl)) = true := by decide +kernel
theorem sbZ_ok : Cond.selects RJ4 ⟨RJ5, "isLatin1", "()Z"⟩ ⟨RJ5, "isLatin1", "()Z"⟩ ∈ lw_tbl := by decide +kernel
theorem all_start {s : State} {args : Array Value} (hts : ∀ w ∈ lw_tbl, w.before args s = true) : ∀ w ∈ lw_all, w.before args s = true := fun w hw => by
  rcases List.mem_append.mp hw with hw | hw
  · have h : ∀ y ∈ sbMs, (Cond.selects RJ4 y y).before args s = true := fun y hy => by
      have z := List.all_eq_true.mp sbMs_ok y hy
      simp only [Bool.and_eq_true, decide_eq_true_eq] at z
      exact sel_priv (by rw [z.1.1]; exact ⟨by decide, by decide⟩) (hts _ sbZ_ok) z.1.1.symm (hts _ z.1.2) (hts _ z.2)
    simp only [sbSels, List.mem_cons, List.not_mem_nil, or_false] at hw
    rcases hw with rfl | rfl | rfl | rfl <;> exact h _ (by simp [sbMs])
  · exact hts w hw
theorem k_prim {s : State} {args : Array Value} {ty : FieldType} (h : (Cond.arrayClass ty).before args s = true) : ∃ cA, s.vm.findClass ("[" ++ ty.toString) = some cA ∧ ArrOfT s cA ty := by
  obtain ⟨c, k, comp, h1, h2, h3⟩ := Cond.arrayClass_spec h
  exact ⟨c, h1, fun n z => ⟨fun k h => (by cases h), k, h2, comp, h3⟩⟩
theorem k_obj {s : State} {args : Array Value} {C : String} (h : (Cond.arrayOver (.object C)).before args s = true) : ∃ cA, ArrOfT s cA (.object C) ∧ va_RA s cA (.object C) := by
  obtain ⟨comp, c, k, h1, h2, h3, h4, h5⟩ := Cond.arrayOver_spec h
  exact ⟨c, fun n z => ⟨fun k h => (by cases h), k, h3, comp, h4⟩, k, comp, h3, h4, h1, h5⟩
theorem k_arr {s : State} {args : Array Value} (h : (Cond.arrayOver (.array .byte)).before args s = true) : ∃ cA, ArrOfT s cA (.array .byte) ∧ va_RA s cA (.array .byte) := by
  obtain ⟨comp, cA, kA, hcomp, hidx, hkA, hkindA, hnameA⟩ := arrayOverA_spec h
  exact ⟨cA, fun n z => ⟨fun k h => (by cases h), kA, hkA, comp, hkindA⟩, hnameA⟩
theorem vwCl_ws {c : Nat} {q : vw_C} (h : vwCl[c]? = some q) : (∀ w ∈ u_ws q.1 q.2.1 q.2.2, w ∈ TG) ∧ ∃ n, Cond.instantiable q.1 n ∈ TG := by
  match c, h with
  | 0, h => cases h; exact ⟨ckX0.2.1, _, in_X0⟩
  | 1, h => cases h; exact ⟨ckX1.2.1, _, in_X1⟩
  | 2, h => cases h; exact ⟨ckX3.2.1, _, in_X3⟩
  | 3, h => cases h; exact ⟨ckX4.2.1, _, in_X4⟩
  | 4, h => cases h; exact ⟨ckX5.2.1, _, in_X5⟩
  | 5, h => cases h; exact ⟨ckX6.2.1, _, in_X6⟩
  | 6, h => cases h; exact ⟨ckX7.2.1, _, in_X7⟩
  | 7, h => cases h; exact ⟨ckX8.2.1, _, in_X8⟩
  | 8, h => cases h; exact ⟨ckX9.2.1, _, in_X9⟩
  | 9, h => cases h; exact ⟨ckX10.2.1, _, in_X10⟩
  | 10, h => cases h; exact ⟨ckX11.2.1, _, in_X11⟩
  | 11, h => cases h; exact ⟨cJ4.2.1, _, sbNew.1⟩
  | 12, h => cases h; exact ⟨cJ0.2.1, _, sbNew.2.2.1⟩
  | n + 13, h => cases h
theorem yK_start {s : State} {args : Array Value} (hts : ∀ w ∈ TG, w.before args s = true) (hA : yAO s) : ∃ (D : va_G) (A : Nat → ClassId), ∀ (ad : Nat → Nat) (b : Nat) (x : Nat × Nat) (y : Nat × (Nat → Int32)) (z : Nat × List Int32), va_K D vwCl (zt (D, A, ad, b, x, y, z)) s := by
  have h : ∀ c : Nat, ∃ x : ClassId × (Nat → Nat), ∀ q, vwCl[c]? = some q → u_Kn s q.1 q.2.1 q.2.2 x.1 x.2 := fun c => by
    cases hc : vwCl[c]? with
    | none => exact ⟨(0, fun _ => 0), fun q h => by cases h⟩
    | some q =>
      obtain ⟨h1, n, h2⟩ := vwCl_ws hc
      obtain ⟨x, y, h⟩ := u_known hts h1 (hts _ h2)
      exact ⟨(x, y), fun q' h' => by cases h'; exact h⟩
  obtain ⟨c20, a20, b20⟩ := k_prim (hts _ ac_int)
  obtain ⟨c21, a21, b21⟩ := k_prim (hts _ ac_byte)
  obtain ⟨c22, a22, b22⟩ := k_prim (hts _ ac_bool)
  obtain ⟨c30, a30, b30⟩ := k_arr (hA.use (args := args) 0 rfl)
  obtain ⟨c31, a31, b31⟩ := k_obj (hA.use (args := args) 1 rfl)
  obtain ⟨c32, a32, b32⟩ := k_obj (hA.use (args := args) 2 rfl)
  obtain ⟨c33, a33, b33⟩ := k_obj (hA.use (args := args) 3 rfl)
  refine ⟨(fun c => (Classical.choose (h c)).1, fun c => (Classical.choose (h c)).2), (fun c => if c = 20 then c20 else if c = 21 then c21 else if c = 22 then c22 else if c = 30 then c30 else if c = 31 then c31 else if c = 32 then c32 else c33), fun ad b x y z => ⟨fun c q hq => Classical.choose_spec (h c) q hq, fun k q hk => ?_⟩⟩
  match k, hk with
  | 0, hk => cases hk; exact ⟨b20, a20⟩
  | 1, hk => cases hk; exact ⟨b21, a21⟩
  | 2, hk => cases hk; exact ⟨b22, a22⟩
  | 3, hk => cases hk; exact ⟨b21, a21⟩
  | 4, hk => cases hk; exact ⟨a30, b30⟩
  | 5, hk => cases hk; exact ⟨a31, b31⟩
  | 6, hk => cases hk; exact ⟨a32, b32⟩
  | 7, hk => cases hk; exact ⟨a33, b33⟩
  | n + 8, hk => cases hk
