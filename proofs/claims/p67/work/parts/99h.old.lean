/-! WHAT HOLDS AT THE LAW'S ENTRY: statics, strings, links -/
/-- what may be written: as gF, at the entry -/
abbrev yF (n : Nat) (q : Nat) : Prop := n ≤ q ∧ ¬ (0 ≤ q ∧ q < 0)
abbrev FLn : List Cond := flatC (Jvm.Cond.and given_1 narrow_1)
theorem fl_r {s : State} {args : Array Value} (hg : (Jvm.Cond.and given_1 narrow_1).before args s = true) (ws : List Cond) (ps : List Nat) (hp : ws = ps.filterMap (fun i => FLn[i]?)) : ∀ w ∈ ws, w.before args s = true := fun w hw => by
  rw [hp] at hw
  obtain ⟨i, -, hi⟩ := List.mem_filterMap.mp hw
  exact flat_of_before _ hg w (List.mem_of_getElem? hi)
theorem eq_ref {s : State} {args : Array Value} {t t' : Term} {a : Nat} (h : (Cond.eq t t').before args s = true) (h1 : t.eval args s none [] s = some (.ref a)) : t'.eval args s none [] s = some (.ref a) := by
  cases hv : t'.eval args s none [] s with
  | none => simp [Cond.before, Cond.holds, Cond.value, h1, hv] at h
  | some w =>
    cases w with
    | ref q =>
      simp [Cond.before, Cond.holds, Cond.value, h1, hv] at h
      rw [h]
    | _ => simp [Cond.before, Cond.holds, Cond.value, h1, hv] at h
def stC (C n d : String) (ty : FieldType) (N : Nat) (f : Nat → Int32) : List Cond := [.arrayOf (.static C n d) ty, .eq (.length (.static C n d)) (.int (Int32.ofNat N))] ++ (List.range N).map (fun j => .eq (.elem (.static C n d) (.int (Int32.ofNat j))) (.int (f j)))
def tmS (j : Nat) : Term := match j with
  | 0 => .string "PenOffice" 413
  | 1 => .string "PenOffice" 451
  | 2 => .string "PenOffice" 475
  | 3 => .string "PenOfficeLaw" 40
  | 4 => .string "PenOfficeLaw" 73
  | 5 => .string "PenOfficeLaw" 79
  | 6 => .string "PenOffice" 71
  | 7 => .string "PenOffice" 81
  | 8 => .string "PenOffice" 48
  | 9 => .string "PenOffice" 84
  | 10 => .string "PenOffice" 362
  | 11 => .string "PenOffice" 372
  | 12 => .string "PenOffice" 377
  | _ => .string "PenOffice" 382
def exC : List Cond := (List.range 14).map (fun j => .exactly (tmS j) "java/lang/String")
def exP : List Nat := [440, 451, 462, 743, 765, 788, 705, 663, 316, 475, 628, 510, 551, 585]
theorem exC_ok : exC = exP.filterMap (fun i => FLn[i]?) := by decide +kernel
def fvl (i : Nat) : Term := .field (tmS i) "java/lang/String" "value" "[B"
def strC (i : Nat) : List Cond := [.exactly (tmS i) "java/lang/String", .eq (.field (tmS i) "java/lang/String" "coder" "B") (.int 0), .arrayOf (fvl i) .byte, .eq (.length (fvl i)) (.int (Int32.ofNat (zTl.getD i 0)))] ++ (List.range (zTl.getD i 0)).map (fun j => .eq (.elem (fvl i) (.int (Int32.ofNat j))) (.int ((zTb.getD i []).getD j 0)))
def strP (i : Nat) : List Nat := (List.range (zTl.getD i 0 + 4)).map (fun k => exP.getD i 0 + k)
theorem strC_ok : (List.range 9).all (fun i => decide (strC i = (strP i).filterMap (fun k => FLn[k]?))) = true := by decide +kernel
theorem ldc_in : zLdc.all (fun q => decide (Cond.stringRef q.1 q.2.1 q.2.2.1 ∈ lw_tbl)) = true := by decide +kernel
theorem ldc_eq : zLdc.all (fun q => decide (q.2.2.2 - 1100 < 14 ∧ 1100 ≤ q.2.2.2) && decide (Term.string q.1 q.2.1 = tmS (q.2.2.2 - 1100))) = true := by decide +kernel
theorem nst_in : zNst.all (fun w => decide (w ∈ lw_tbl)) = true := by decide +kernel
theorem xw_in : zXw.all (fun w => decide (w ∈ lw_tbl)) = true := by decide +kernel
theorem str_ne : (List.range 9).all (fun i => (List.range 9).all (fun j => decide (zTl.getD i 0 = zTl.getD j 0 → (zTb.getD i []).getD 0 0 = (zTb.getD j []).getD 0 0 → i = j))) = true := by decide +kernel
theorem str_len : (List.range 9).all (fun i => decide (0 < zTl.getD i 0 ∧ zTl.getD i 0 < 1000)) = true := by decide +kernel
section OLDS
variable {s : State} {args : Array Value}
theorem st_start (hts : ∀ w ∈ lw_tbl, w.before args s = true) (hg : (Jvm.Cond.and given_1 narrow_1).before args s = true) {C n d : String} {ty : FieldType} {N : Nat} {f : Nat → Int32} (ps : List Nat) (hp : stC C n d ty N f = ps.filterMap (fun i => FLn[i]?)) (hN : N < 2 ^ 31) (hl : Cond.laysStatic C n d ∈ lw_tbl) (hi : Cond.initialized C ∈ lw_tbl) : ∃ t, va_Z C n d (.ref t) (yF s.heap.size) s s.heap ∧ va_T ty t N (fun j => .int (f j)) (yF s.heap.size) s s.heap := by
  have h := fl_r hg _ ps hp
  have hA : ∀ a : Nat, a < s.heap.size → ¬ yF s.heap.size a := fun a h z => Nat.not_le.mpr h z.1
  obtain ⟨t, h1, h2⟩ := va_Tof (f := fun j => .int (f j)) (A := yF s.heap.size) (tm := .static C n d) hN (h _ (List.mem_cons_self)) (va_eqt (h _ (List.mem_cons_of_mem _ List.mem_cons_self))) (fun j hj => va_eqt (h _ (List.mem_append_right _ (List.mem_map.mpr ⟨j, List.mem_range.mpr hj, rfl⟩)))) hA
  exact ⟨t, va_Zof (hts _ hl) (hts _ hi) h1 hA, h2⟩
theorem ft_start (hts : ∀ w ∈ lw_tbl, w.before args s = true) {n : String} (hx : (Cond.exactly (.static "PenOffice$Fault" n "LPenOffice$Fault;") "PenOffice$Fault").before args s = true) (hl : Cond.laysStatic "PenOffice$Fault" n "LPenOffice$Fault;" ∈ lw_tbl) : ∃ t, (Term.static "PenOffice$Fault" n "LPenOffice$Fault;").eval args s none [] s = some (.ref t) ∧ va_Z "PenOffice$Fault" n "LPenOffice$Fault;" (.ref t) (yF s.heap.size) s s.heap := by
  obtain ⟨a, c, cA, kA, q1, -⟩ := Cond.exactly_spec (args := args) (first := s) (o := none) (s := s) (idx := []) hx
  exact ⟨a, q1, va_Zof (hts _ hl) (hts (.initialized "PenOffice$Fault") (by decide +kernel)) q1 (fun a h z => Nat.not_le.mpr h z.1)⟩
theorem ks_start (hg : (Jvm.Cond.and given_1 narrow_1).before args s = true) : ∀ j, ∃ a, j < 14 → (tmS j).eval args s none [] s = some (.ref a) := fun j => by
  by_cases h : j < 14
  · obtain ⟨a, c, cA, kA, q1, -⟩ := Cond.exactly_spec (args := args) (first := s) (o := none) (s := s) (idx := []) (fl_r hg exC exP exC_ok (.exactly (tmS j) "java/lang/String") (List.mem_map.mpr ⟨j, List.mem_range.mpr h, rfl⟩))
    exact ⟨a, fun _ => q1⟩
  · exact ⟨0, fun z => absurd z h⟩
theorem str_start (hg : (Jvm.Cond.and given_1 narrow_1).before args s = true) {K : Nat → Nat} (hK : ∀ j, j < 14 → (tmS j).eval args s none [] s = some (.ref (K j))) : ∃ V : Nat → Nat, vk_S 9 zTl zTb K V (yF s.heap.size) s s.heap := by
  have hA : ∀ a : Nat, a < s.heap.size → ¬ yF s.heap.size a := fun a h z => Nat.not_le.mpr h z.1
  have h0 : ∀ i : Nat, ∃ v : Nat, i < 9 → va_O "java/lang/String" (K i) (yF s.heap.size) s s.heap ∧ va_OF "java/lang/String" "coder" "B" (.int 0) (K i) (yF s.heap.size) s s.heap ∧ va_OF "java/lang/String" "value" "[B" (.ref v) (K i) (yF s.heap.size) s s.heap ∧ va_T .byte v (zTl.getD i 0) (fun j => .int ((zTb.getD i []).getD j 0)) (yF s.heap.size) s s.heap := fun i => by
    by_cases hi : i < 9
    · have h := fl_r hg (strC i) (strP i) (of_decide_eq_true (List.all_eq_true.mp strC_ok i (List.mem_range.mpr hi)))
      have hl := of_decide_eq_true (List.all_eq_true.mp str_len i (List.mem_range.mpr hi))
      obtain ⟨adK, adV, ⟨h1, -⟩, h2⟩ := vk_Sof (args := args) (s := s) (N := 1) (tm := fun _ => tmS i) (len := [zTl.getD i 0]) (byt := [zTb.getD i []]) (A := yF s.heap.size) (fun k hk => by rw [show k = 0 by omega]; show zTl.getD i 0 < _; omega) (fun k _ => h _ List.mem_cons_self) (fun k _ => h _ (List.mem_cons_of_mem _ List.mem_cons_self)) (fun k _ => h _ (List.mem_cons_of_mem _ (List.mem_cons_of_mem _ List.mem_cons_self))) (fun k hk => by rw [show k = 0 by omega]; exact h _ (List.mem_cons_of_mem _ (List.mem_cons_of_mem _ (List.mem_cons_of_mem _ List.mem_cons_self)))) (fun k hk j hj => by
        obtain rfl : k = 0 := by omega
        exact h _ (List.mem_append_right _ (List.mem_map.mpr ⟨j, List.mem_range.mpr hj, rfl⟩))) (fun k j hk hj hne => absurd (show k = j by omega) hne) hA
      have e := h2 0 (by omega)
      have e2 : adK 0 = K i := by
        have z := e.symm.trans (hK i (by omega))
        injection z with z
        injection z
      obtain ⟨g1, g2, g3, g4⟩ := h1 0 (by omega)
      rw [e2] at g1 g2 g3
      exact ⟨adV 0, fun _ => ⟨g1, g2, g3, g4⟩⟩
    · exact ⟨0, fun z => absurd z hi⟩
  obtain ⟨V, hV⟩ := Classical.axiomOfChoice h0
  refine ⟨V, hV, fun i j hi hj e => ?_⟩
  obtain ⟨-, -, ⟨cf, k, fi, f, cell, a1, a2, a3, a4, a5, -⟩, ⟨w, b1, b2, b3, b4, b5, b6, -⟩⟩ := hV i hi
  obtain ⟨-, -, ⟨cf', k', fi', f', cell', a1', a2', a3', a4', a5', -⟩, ⟨w', b1', b2', b3', b4', b5', b6', -⟩⟩ := hV j hj
  rw [a1] at a1'
  cases a1'
  rw [e, a3'] at a3
  cases a3
  rw [a5'] at a5
  have ev : V j = V i := by
    injection a5 with z
    injection z
  rw [ev, b1] at b1'
  cases b1'
  have li := of_decide_eq_true (List.all_eq_true.mp str_len i (List.mem_range.mpr hi))
  have lj := of_decide_eq_true (List.all_eq_true.mp str_len j (List.mem_range.mpr hj))
  have el : zTl.getD i 0 = zTl.getD j 0 := (nI_eq (a := zTl.getD i 0) (b := zTl.getD j 0) (by omega) (by omega)).mp (b5.symm.trans b5')
  have e0 : (zTb.getD i []).getD 0 0 = (zTb.getD j []).getD 0 0 := by
    have z := (b6 0 li.1).symm.trans (b6' 0 lj.1)
    injection z with z
    injection z
  exact of_decide_eq_true (List.all_eq_true.mp (List.all_eq_true.mp str_ne i (List.mem_range.mpr hi)) j (List.mem_range.mpr hj)) el e0
end OLDS
