/-! WHAT HOLDS AT THE LAW'S ENTRY: all of zOld, zNc, yAO -/
theorem lw_all {ws : List Cond} (h : ws.all (fun w => decide (w ∈ lw_tbl)) = true) {w : Cond} (hw : w ∈ ws) : w ∈ lw_tbl := of_decide_eq_true (List.all_eq_true.mp h w hw)
theorem old_w : ([.laysStatic "PenOffice" "LEAST_SETTINGS" "[I", .laysStatic "PenOffice" "MOST_SETTINGS" "[I", .laysStatic "PenOffice" "LEAST_OF_LETTER" "[I", .laysStatic "PenOffice" "MOST_OF_LETTER" "[I", .laysStatic "PenOffice" "NUMBERS_OF_COMMAND" "[I", .laysStatic "PenOffice$Fault" "INDEX" "LPenOffice$Fault;", .laysStatic "PenOffice$Fault" "ARGUMENT" "LPenOffice$Fault;", .laysStatic "PenOffice$Fault" "STATE" "LPenOffice$Fault;", .laysStatic "PenOffice$Fault" "NOTHING" "LPenOffice$Fault;", .laysStatic "java/lang/String" "COMPACT_STRINGS" "Z", .initialized "java/lang/String", .laysStatic "jdk/internal/util/Preconditions" "SIOOBE_FORMATTER" "Ljava/util/function/BiFunction;", .initialized "jdk/internal/util/Preconditions", .laysStatic Bundle.tN "UNASSIGNED_STACK" Bundle.steD, .laysStatic Bundle.tN "SUPPRESSED_SENTINEL" Bundle.listD, .initialized Bundle.tN, .arrayOver (.array .byte), .arrayOver (.object "PenOffice$Letter"), .arrayOver (.object "PenOffice$State"), .arrayOver (.object "PenOffice$Command"), .castable sS sS, .castable sA sA, .castable sI sI, .castable sN sN] : List Cond).all (fun w => decide (w ∈ lw_tbl)) = true := by decide +kernel
def fixC : List Cond := [.eq (.static "java/lang/String" "COMPACT_STRINGS" "Z") (.int 1), .isRef (.static "jdk/internal/util/Preconditions" "SIOOBE_FORMATTER" "Ljava/util/function/BiFunction;"), .isRef (.static Bundle.tN "UNASSIGNED_STACK" Bundle.steD), .isRef (.static Bundle.tN "SUPPRESSED_SENTINEL" Bundle.listD), .exactly (.static "PenOffice$Fault" "INDEX" "LPenOffice$Fault;") "PenOffice$Fault", .exactly (.static "PenOffice$Fault" "ARGUMENT" "LPenOffice$Fault;") "PenOffice$Fault", .exactly (.static "PenOffice$Fault" "STATE" "LPenOffice$Fault;") "PenOffice$Fault", .exactly (.static "PenOffice$Fault" "NOTHING" "LPenOffice$Fault;") "PenOffice$Fault", .not (.eq (.static "PenOffice$Fault" "ARGUMENT" "LPenOffice$Fault;") (.static "PenOffice$Fault" "INDEX" "LPenOffice$Fault;")), .not (.eq (.static "PenOffice$Fault" "INDEX" "LPenOffice$Fault;") (.static "PenOffice$Fault" "STATE" "LPenOffice$Fault;")), .not (.eq (.static "PenOffice$Fault" "NOTHING" "LPenOffice$Fault;") (.static "PenOffice$Fault" "INDEX" "LPenOffice$Fault;")), .not (.eq (.static "PenOffice$Fault" "ARGUMENT" "LPenOffice$Fault;") (.static "PenOffice$Fault" "STATE" "LPenOffice$Fault;")), .not (.eq (.static "PenOffice$Fault" "ARGUMENT" "LPenOffice$Fault;") (.static "PenOffice$Fault" "NOTHING" "LPenOffice$Fault;")), .not (.eq (.static "PenOffice$Fault" "NOTHING" "LPenOffice$Fault;") (.static "PenOffice$Fault" "STATE" "LPenOffice$Fault;")), .not (.castable sA sI), .not (.castable sS sI), .not (.castable sS sA)]
def fixP : List Nat := [21, 22, 43, 44, 50, 45, 54, 47, 52, 58, 53, 56, 49, 57, 110, 109, 94]
theorem fixC_ok : fixC = fixP.filterMap (fun i => FLn[i]?) := by decide +kernel
section OLDT
variable {s : State} {args : Array Value}
theorem yAO_start (hts : ∀ w ∈ lw_tbl, w.before args s = true) : yAO s := fun t ht => by
  have h : (Cond.arrayOver t).before args s = true := by
    simp only [yAl, List.mem_cons, List.not_mem_nil, or_false] at ht
    rcases ht with rfl | rfl | rfl | rfl <;> exact hts _ (lw_all old_w (by simp))
  exact h
theorem zNc_start (hts : ∀ w ∈ lw_tbl, w.before args s = true) (hg : (Jvm.Cond.and given_1 narrow_1).before args s = true) : zNc s := by
  have hf := fl_r hg fixC fixP fixC_ok
  refine ⟨fun q hq => ?_, fun E hE => ?_⟩
  · simp only [zNcP, List.mem_cons, List.not_mem_nil, or_false] at hq
    rcases hq with rfl | rfl | rfl <;> exact va_Nc.of (hf _ (by simp [fixC]))
  · have h : (Cond.castable E E).before args s = true := by
      simp only [List.mem_cons, List.not_mem_nil, or_false] at hE
      rcases hE with rfl | rfl | rfl | rfl <;> exact hts _ (lw_all old_w (by simp))
    exact h
theorem yOld_start (hts : ∀ w ∈ lw_tbl, w.before args s = true) (hg : (Jvm.Cond.and given_1 narrow_1).before args s = true) : ∃ F : Nat → Nat, ∀ (D : va_G) (A : Nat → ClassId) (ad : Nat → Nat), (∀ r, 1000 ≤ r → r < 1301 → ad r = F r) → zOld (D, A, ad, s.heap.size) s := by
  have hA : ∀ a : Nat, a < s.heap.size → ¬ s.heap.size ≤ a := fun a h => Nat.not_le.mpr h
  have hf := fl_r hg fixC fixP fixC_ok
  obtain ⟨t0, h0⟩ := st_start (n := "LEAST_SETTINGS") (N := 7) (f := zS5 0) hts hg (List.range' 12 9) (by decide +kernel) (by decide) (lw_all old_w (by simp))
  obtain ⟨t1, h1⟩ := st_start (n := "MOST_SETTINGS") (N := 7) (f := zS5 1) hts hg (List.range' 27 9) (by decide +kernel) (by decide) (lw_all old_w (by simp))
  obtain ⟨t2, h2⟩ := st_start (n := "LEAST_OF_LETTER") (N := 4) (f := zS5 2) hts hg (List.range' 5 6) (by decide +kernel) (by decide) (lw_all old_w (by simp))
  obtain ⟨t3, h3⟩ := st_start (n := "MOST_OF_LETTER") (N := 4) (f := zS5 3) hts hg (List.range' 37 6) (by decide +kernel) (by decide) (lw_all old_w (by simp))
  obtain ⟨t4, h4⟩ := st_start (n := "NUMBERS_OF_COMMAND") (N := 6) (f := zS5 4) hts hg (List.range' 60 8) (by decide +kernel) (by decide) (lw_all old_w (by simp))
  obtain ⟨fI, eI, zI⟩ := ft_start (n := "INDEX") hts (hf _ (by simp [fixC])) (lw_all old_w (by simp))
  obtain ⟨fA, eA, zA⟩ := ft_start (n := "ARGUMENT") hts (hf _ (by simp [fixC])) (lw_all old_w (by simp))
  obtain ⟨fS, eS, zS⟩ := ft_start (n := "STATE") hts (hf _ (by simp [fixC])) (lw_all old_w (by simp))
  obtain ⟨fN, eN, zN⟩ := ft_start (n := "NOTHING") hts (hf _ (by simp [fixC])) (lw_all old_w (by simp))
  obtain ⟨K, hK⟩ := Classical.axiomOfChoice (ks_start (s := s) (args := args) hg)
  obtain ⟨V, hV⟩ := str_start hg hK
  obtain ⟨fm, hfm⟩ : ∃ fm : Nat, va_Z "jdk/internal/util/Preconditions" "SIOOBE_FORMATTER" "Ljava/util/function/BiFunction;" .null (fun q => s.heap.size ≤ q) s s.heap ∨ va_Z "jdk/internal/util/Preconditions" "SIOOBE_FORMATTER" "Ljava/util/function/BiFunction;" (.ref fm) (fun q => s.heap.size ≤ q) s s.heap := by
    rcases va_Zqof (s := s) (args := args) (A := fun q => s.heap.size ≤ q) (C := "jdk/internal/util/Preconditions") (n := "SIOOBE_FORMATTER") (d := "Ljava/util/function/BiFunction;") (hts _ (lw_all old_w (by simp))) (hts _ (lw_all old_w (by simp))) (hf _ (by simp [fixC])) hA with z | ⟨t, z⟩
    · exact ⟨0, Or.inl z⟩
    · exact ⟨t, Or.inr z⟩
  refine ⟨fun r => if r = 1000 then fI else if r = 1001 then fA else if r = 1002 then fS else if r = 1003 then fN else if r = 1010 then t0 else if r = 1011 then t1 else if r = 1012 then t2 else if r = 1013 then t3 else if r = 1014 then t4 else if r < 1200 then K (r - 1100) else if r < 1300 then V (r - 1200) else fm, fun D A ad hF => ?_⟩
  have st : ∀ {n : String} {r N t : Nat} {f : Nat → Int32}, ad r = t → (va_Z "PenOffice" n "[I" (.ref t) (fun q => s.heap.size ≤ q) s s.heap ∧ va_T .int t N (fun j => .int (f j)) (fun q => s.heap.size ≤ q) s s.heap) → zSt (D, A, ad, s.heap.size) "PenOffice" n r N f s := fun e h => by
    unfold zSt
    subst e
    exact h
  have ft : ∀ {n : String} {r t : Nat}, ad r = t → va_Z "PenOffice$Fault" n "LPenOffice$Fault;" (.ref t) (fun q => s.heap.size ≤ q) s s.heap → zFt (D, A, ad, s.heap.size) n r s := fun e h => by
    unfold zFt
    subst e
    exact h
  have a0 : ad 1000 = fI := hF 1000 (by decide) (by decide)
  have a1 : ad 1001 = fA := hF 1001 (by decide) (by decide)
  have a2 : ad 1002 = fS := hF 1002 (by decide) (by decide)
  have a3 : ad 1003 = fN := hF 1003 (by decide) (by decide)
  have eK : ∀ r, 1100 ≤ r → r < 1200 → ad r = K (r - 1100) := fun r h1 h2 => by
    rw [hF r (by omega) (by omega)]
    dsimp only
    rw [if_neg (by omega), if_neg (by omega), if_neg (by omega), if_neg (by omega), if_neg (by omega), if_neg (by omega), if_neg (by omega), if_neg (by omega), if_neg (by omega), if_pos h2]
  have eV : ∀ r, 1200 ≤ r → r < 1300 → ad r = V (r - 1200) := fun r h1 h2 => by
    rw [hF r (by omega) (by omega)]
    dsimp only
    rw [if_neg (by omega), if_neg (by omega), if_neg (by omega), if_neg (by omega), if_neg (by omega), if_neg (by omega), if_neg (by omega), if_neg (by omega), if_neg (by omega), if_neg (by omega), if_pos h2]
  have e13 : ad 1300 = fm := hF 1300 (by decide) (by decide)
  refine ⟨⟨st (hF 1010 (by decide) (by decide)) h0, st (hF 1011 (by decide) (by decide)) h1, st (hF 1012 (by decide) (by decide)) h2, st (hF 1013 (by decide) (by decide)) h3, st (hF 1014 (by decide) (by decide)) h4⟩, ⟨ft a0 zI, ft a1 zA, ft a2 zS, ft a3 zN, ?_⟩, ⟨fun i hi => ?_, fun i j hi hj e => ?_⟩, fun q hq => ?_, fun q hq => ?_, fun q hq => ?_, va_Zof (hts _ (lw_all old_w (by simp))) (hts _ (lw_all old_w (by simp))) (va_eqt (hf _ (by simp [fixC]))) hA, ?_, vx_Zqof (hts _ (lw_all old_w (by simp))) (hts _ (lw_all old_w (by simp))) (hf _ (by simp [fixC])) hA, vx_Zqof (hts _ (lw_all old_w (by simp))) (hts _ (lw_all old_w (by simp))) (hf _ (by simp [fixC])) hA⟩
  · show ad 1000 ≠ ad 1001 ∧ ad 1000 ≠ ad 1002 ∧ ad 1000 ≠ ad 1003 ∧ ad 1001 ≠ ad 1002 ∧ ad 1001 ≠ ad 1003 ∧ ad 1002 ≠ ad 1003
    rw [a0, a1, a2, a3]
    exact ⟨Ne.symm (va_neR (hf _ (by simp [fixC])) eA eI), va_neR (hf _ (by simp [fixC])) eI eS, Ne.symm (va_neR (hf _ (by simp [fixC])) eN eI), va_neR (hf _ (by simp [fixC])) eA eS, va_neR (hf _ (by simp [fixC])) eA eN, Ne.symm (va_neR (hf _ (by simp [fixC])) eN eS)⟩
  · have z := hV.1 i hi
    have k1 : ad (1100 + i) = K i := (eK (1100 + i) (by omega) (by omega)).trans (by rw [show 1100 + i - 1100 = i by omega])
    have k2 : ad (1200 + i) = V i := (eV (1200 + i) (by omega) (by omega)).trans (by rw [show 1200 + i - 1200 = i by omega])
    rw [← k1, ← k2] at z
    exact z
  · have e : ad (1100 + i) = ad (1100 + j) := e
    rw [eK (1100 + i) (by omega) (by omega), eK (1100 + j) (by omega) (by omega), show 1100 + i - 1100 = i by omega, show 1100 + j - 1100 = j by omega] at e
    exact hV.2 i j hi hj e
  · have w1 := hts _ (of_decide_eq_true (List.all_eq_true.mp ldc_in q hq))
    refine ⟨w1, ?_⟩
    have w2 := List.all_eq_true.mp ldc_eq q hq
    simp only [Bool.and_eq_true, Bool.or_eq_true, decide_eq_true_eq] at w2
    obtain ⟨⟨g1, g2⟩, g3⟩ := w2
    show (Term.string q.1 q.2.1).eval args s none [] s = some (.ref (ad q.2.2.2))
    rw [eK _ g2 (by omega)]
    rcases g3 with g3 | g3
    · rw [g3]
      exact hK _ g1
    · exact eq_ref (fl_r hg eqC eqP eqC_ok _ g3) (hK _ g1)
  · exact va_tabs (List.all_eq_true.mp zNst_on q hq) rfl (hts q (lw_all nst_in hq))
  · have x1 := List.all_eq_true.mp zXw_ok q hq
    rw [Bool.and_eq_true] at x1
    exact va_tabs x1.1 rfl (hts q (lw_all xw_in hq))
  · show va_Z _ _ _ .null _ s s.heap ∨ va_Z _ _ _ (.ref (ad 1300)) _ s s.heap
    rw [e13]
    exact hfm
end OLDT
