/-! WHAT HOLDS AT THE LAW'S ENTRY: all of zOld, yAO, qCl -/
theorem lw_in {ws : List Cond} (h : ws.all (fun w => decide (w ∈ lw_tbl)) = true) {w : Cond} (hw : w ∈ ws) : w ∈ lw_tbl := of_decide_eq_true (List.all_eq_true.mp h w hw)
theorem old_w : ([.laysStatic "PenOffice" "LEAST_SETTINGS" "[I", .laysStatic "PenOffice" "MOST_SETTINGS" "[I", .laysStatic "PenOffice" "LEAST_OF_LETTER" "[I", .laysStatic "PenOffice" "MOST_OF_LETTER" "[I", .laysStatic "java/lang/Integer" "DigitOnes" "[B", .laysStatic "java/lang/Integer" "DigitTens" "[B", .laysStatic "PenOffice$Fault" "INDEX" "LPenOffice$Fault;", .laysStatic "PenOffice$Fault" "ARGUMENT" "LPenOffice$Fault;", .laysStatic "PenOffice$Fault" "STATE" "LPenOffice$Fault;", .laysStatic "PenOffice$Fault" "NOTHING" "LPenOffice$Fault;", .laysStatic "java/lang/String" "COMPACT_STRINGS" "Z", .initialized "java/lang/String", .initialized "PenOffice", .initialized "java/lang/Integer", .laysStatic "jdk/internal/util/Preconditions" "SIOOBE_FORMATTER" "Ljava/util/function/BiFunction;", .initialized "jdk/internal/util/Preconditions", .laysStatic Bundle.tN "UNASSIGNED_STACK" Bundle.steD, .laysStatic Bundle.tN "SUPPRESSED_SENTINEL" Bundle.listD, .initialized Bundle.tN, .arrayOver (.array .byte), .arrayOver (.object "PenOffice$Letter"), .arrayOver (.object "PenOffice$State"), .arrayOver (.object "PenOffice$Command"), .castable "[B" "java/lang/Cloneable"] : List Cond).all (fun w => decide (w ∈ lw_tbl)) = true := by decide +kernel
def fixC : List Cond := [.eq (.static "java/lang/String" "COMPACT_STRINGS" "Z") (.int 1), .isRef (.static "jdk/internal/util/Preconditions" "SIOOBE_FORMATTER" "Ljava/util/function/BiFunction;"), .isRef (.static Bundle.tN "UNASSIGNED_STACK" Bundle.steD), .isRef (.static Bundle.tN "SUPPRESSED_SENTINEL" Bundle.listD), .exactly (.static "PenOffice$Fault" "INDEX" "LPenOffice$Fault;") "PenOffice$Fault", .exactly (.static "PenOffice$Fault" "ARGUMENT" "LPenOffice$Fault;") "PenOffice$Fault", .exactly (.static "PenOffice$Fault" "STATE" "LPenOffice$Fault;") "PenOffice$Fault", .exactly (.static "PenOffice$Fault" "NOTHING" "LPenOffice$Fault;") "PenOffice$Fault", .not (.eq (.static "PenOffice$Fault" "ARGUMENT" "LPenOffice$Fault;") (.static "PenOffice$Fault" "INDEX" "LPenOffice$Fault;")), .not (.eq (.static "PenOffice$Fault" "STATE" "LPenOffice$Fault;") (.static "PenOffice$Fault" "INDEX" "LPenOffice$Fault;")), .not (.eq (.static "PenOffice$Fault" "NOTHING" "LPenOffice$Fault;") (.static "PenOffice$Fault" "INDEX" "LPenOffice$Fault;")), .not (.eq (.static "PenOffice$Fault" "ARGUMENT" "LPenOffice$Fault;") (.static "PenOffice$Fault" "STATE" "LPenOffice$Fault;")), .not (.eq (.static "PenOffice$Fault" "ARGUMENT" "LPenOffice$Fault;") (.static "PenOffice$Fault" "NOTHING" "LPenOffice$Fault;")), .not (.eq (.static "PenOffice$Fault" "STATE" "LPenOffice$Fault;") (.static "PenOffice$Fault" "NOTHING" "LPenOffice$Fault;"))]
def fixP : List Nat := [21, 22, 43, 44, 54, 45, 47, 50, 56, 57, 58, 49, 52, 53]
theorem fixC_ok : fixC = fixP.filterMap (fun i => FLn[i]?) := by decide +kernel
section OLDT
variable {s : State} {args : Array Value}
theorem yAO_start (hts : ∀ w ∈ lw_tbl, w.before args s = true) : yAO s := fun t ht => by
  have h : (Cond.arrayOver t).before args s = true := by
    simp only [yAl, List.mem_cons, List.not_mem_nil, or_false] at ht
    rcases ht with rfl | rfl | rfl | rfl <;> exact hts _ (lw_in old_w (by simp))
  exact h
theorem qCl_start (hts : ∀ w ∈ lw_tbl, w.before args s = true) : qCl s := va_Nw.of rfl (hts (.castable "[B" "java/lang/Cloneable") (lw_in old_w (by simp)))
theorem yOld_start (hts : ∀ w ∈ lw_tbl, w.before args s = true) (hg : (Jvm.Cond.and given_1 narrow_1).before args s = true) : ∃ F : Nat → Nat, ∀ (D : va_G) (A : Nat → ClassId) (ad : Nat → Nat) (b L : Nat) (xs : Nat → Int32), (∀ r, 1000 ≤ r → r ≠ 1400 → ad r = F r) → ad 1400 = b → va_X b L xs s s.heap → b < s.heap.size → L < 2147483648 → zOld (D, A, ad, s.heap.size, (0, 0), (L, xs), (0, [])) s := by
  have hA : ∀ a : Nat, a < s.heap.size → ¬ yF s.heap.size a := fun a h z => Nat.not_le.mpr h z.1
  have hf := fl_r hg fixC fixP fixC_ok
  obtain ⟨t0, h0⟩ := st_start (C := "PenOffice") (d := "[I") (ty := .int) (n := "LEAST_SETTINGS") (N := 7) (f := zS5 0) hts hg (List.range' 12 9) (by decide +kernel) (by decide) (lw_in old_w (by simp)) (lw_in old_w (by simp))
  obtain ⟨t1, h1⟩ := st_start (C := "PenOffice") (d := "[I") (ty := .int) (n := "MOST_SETTINGS") (N := 7) (f := zS5 1) hts hg (List.range' 27 9) (by decide +kernel) (by decide) (lw_in old_w (by simp)) (lw_in old_w (by simp))
  obtain ⟨t2, h2⟩ := st_start (C := "PenOffice") (d := "[I") (ty := .int) (n := "LEAST_OF_LETTER") (N := 4) (f := zS5 2) hts hg (List.range' 5 6) (by decide +kernel) (by decide) (lw_in old_w (by simp)) (lw_in old_w (by simp))
  obtain ⟨t3, h3⟩ := st_start (C := "PenOffice") (d := "[I") (ty := .int) (n := "MOST_OF_LETTER") (N := 4) (f := zS5 3) hts hg (List.range' 37 6) (by decide +kernel) (by decide) (lw_in old_w (by simp)) (lw_in old_w (by simp))
  obtain ⟨t3', h3'⟩ := st_start (C := "java/lang/Integer") (n := "DigitOnes") (d := "[B") (ty := .byte) (N := 100) (f := zD1) hts hg (List.range' 60 102) (by decide +kernel) (by decide) (lw_in old_w (by simp)) (lw_in old_w (by simp))
  obtain ⟨t4, h4⟩ := st_start (C := "java/lang/Integer") (n := "DigitTens") (d := "[B") (ty := .byte) (N := 100) (f := zD2) hts hg (List.range' 163 102) (by decide +kernel) (by decide) (lw_in old_w (by simp)) (lw_in old_w (by simp))
  obtain ⟨fI, eI, zI⟩ := ft_start (n := "INDEX") hts (hf _ (by simp [fixC])) (lw_in old_w (by simp))
  obtain ⟨fA, eA, zA⟩ := ft_start (n := "ARGUMENT") hts (hf _ (by simp [fixC])) (lw_in old_w (by simp))
  obtain ⟨fS, eS, zS⟩ := ft_start (n := "STATE") hts (hf _ (by simp [fixC])) (lw_in old_w (by simp))
  obtain ⟨fN, eN, zN⟩ := ft_start (n := "NOTHING") hts (hf _ (by simp [fixC])) (lw_in old_w (by simp))
  obtain ⟨K, hK⟩ := Classical.axiomOfChoice (ks_start (s := s) (args := args) hg)
  obtain ⟨V, hV⟩ := str_start hg hK
  obtain ⟨fm, hfm⟩ : ∃ fm : Nat, va_Z "jdk/internal/util/Preconditions" "SIOOBE_FORMATTER" "Ljava/util/function/BiFunction;" .null (yF s.heap.size) s s.heap ∨ va_Z "jdk/internal/util/Preconditions" "SIOOBE_FORMATTER" "Ljava/util/function/BiFunction;" (.ref fm) (yF s.heap.size) s s.heap := by
    rcases va_Zqof (s := s) (args := args) (A := yF s.heap.size) (C := "jdk/internal/util/Preconditions") (n := "SIOOBE_FORMATTER") (d := "Ljava/util/function/BiFunction;") (hts _ (lw_in old_w (by simp))) (hts _ (lw_in old_w (by simp))) (hf _ (by simp [fixC])) hA with z | ⟨t, z⟩
    · exact ⟨0, Or.inl z⟩
    · exact ⟨t, Or.inr z⟩
  refine ⟨fun r => if r = 1000 then fI else if r = 1001 then fA else if r = 1002 then fS else if r = 1003 then fN else if r = 1010 then t0 else if r = 1011 then t1 else if r = 1012 then t2 else if r = 1013 then t3 else if r = 1403 then t3' else if r = 1404 then t4 else if r < 1200 then K (r - 1100) else if r < 1300 then V (r - 1200) else fm, fun D A ad b L xs hF hb hX hbl hL => ?_⟩
  have st : ∀ {n : String} {r N t : Nat} {f : Nat → Int32}, ad r = t → (va_Z "PenOffice" n "[I" (.ref t) (yF s.heap.size) s s.heap ∧ va_T .int t N (fun j => .int (f j)) (yF s.heap.size) s s.heap) → zSt (D, A, ad, s.heap.size, (0, 0), (L, xs), (0, [])) "PenOffice" n r N f s := fun e h => by
    unfold zSt
    subst e
    exact h
  have ft : ∀ {n : String} {r t : Nat}, ad r = t → va_Z "PenOffice$Fault" n "LPenOffice$Fault;" (.ref t) (yF s.heap.size) s s.heap → zFt (D, A, ad, s.heap.size, (0, 0), (L, xs), (0, [])) n r s := fun e h => by
    unfold zFt
    subst e
    exact h
  have a0 : ad 1000 = fI := hF 1000 (by decide) (by decide)
  have a1 : ad 1001 = fA := hF 1001 (by decide) (by decide)
  have a2 : ad 1002 = fS := hF 1002 (by decide) (by decide)
  have a3 : ad 1003 = fN := hF 1003 (by decide) (by decide)
  have eK : ∀ r, 1100 ≤ r → r < 1200 → ad r = K (r - 1100) := fun r h1 h2 => by
    rw [hF r (by omega) (by omega)]
    dsimp only
    rw [if_neg (by omega), if_neg (by omega), if_neg (by omega), if_neg (by omega), if_neg (by omega), if_neg (by omega), if_neg (by omega), if_neg (by omega), if_neg (by omega), if_neg (by omega), if_pos h2]
  have eV : ∀ r, 1200 ≤ r → r < 1300 → ad r = V (r - 1200) := fun r h1 h2 => by
    rw [hF r (by omega) (by omega)]
    dsimp only
    rw [if_neg (by omega), if_neg (by omega), if_neg (by omega), if_neg (by omega), if_neg (by omega), if_neg (by omega), if_neg (by omega), if_neg (by omega), if_neg (by omega), if_neg (by omega), if_neg (by omega), if_pos h2]
  have e13 : ad 1300 = fm := hF 1300 (by decide) (by decide)
  refine ⟨⟨st (hF 1010 (by decide) (by decide)) h0, st (hF 1011 (by decide) (by decide)) h1, st (hF 1012 (by decide) (by decide)) h2, st (hF 1013 (by decide) (by decide)) h3, ?_, Or.inl rfl, ?_⟩, ⟨ft a0 zI, ft a1 zA, ft a2 zS, ft a3 zN, ?_⟩, ⟨fun i hi => ?_, fun i j hi hj e => ?_⟩, fun q hq => ?_, fun q hq => ?_, fun q hq => ?_, va_Zof (hts _ (lw_in old_w (by simp))) (hts _ (lw_in old_w (by simp))) (va_eqt (hf _ (by simp [fixC]))) hA, ?_, vx_Zqof (hts _ (lw_in old_w (by simp))) (hts _ (lw_in old_w (by simp))) (hf _ (by simp [fixC])) hA, vx_Zqof (hts _ (lw_in old_w (by simp))) (hts _ (lw_in old_w (by simp))) (hf _ (by simp [fixC])) hA⟩
  · unfold zSc
    show va_T .int (ad 1400) L (fun j => .int (xs j)) (yF s.heap.size) s s.heap
    rw [hb]
    obtain ⟨scr, x1, x2, x3, x4, x5⟩ := hX
    exact ⟨scr, x1, x2, x3, Nat.le_of_eq x4.symm, by rw [x4], x5, hA b hbl⟩
  · have g3 : ad 1403 = t3' := hF 1403 (by decide) (by decide)
    have g4 : ad 1404 = t4 := hF 1404 (by decide) (by decide)
    unfold zDg
    show (va_Z _ _ _ (.ref (ad 1403)) _ s s.heap ∧ va_T .byte (ad 1403) 100 _ _ s s.heap) ∧ va_Z _ _ _ (.ref (ad 1404)) _ s s.heap ∧ va_T .byte (ad 1404) 100 _ _ s s.heap
    rw [g3, g4]
    exact ⟨h3', h4⟩
  · show ad 1000 ≠ ad 1001 ∧ ad 1000 ≠ ad 1002 ∧ ad 1000 ≠ ad 1003 ∧ ad 1001 ≠ ad 1002 ∧ ad 1001 ≠ ad 1003 ∧ ad 1002 ≠ ad 1003
    rw [a0, a1, a2, a3]
    exact ⟨Ne.symm (va_neR (hf _ (by simp [fixC])) eA eI), Ne.symm (va_neR (hf _ (by simp [fixC])) eS eI), Ne.symm (va_neR (hf _ (by simp [fixC])) eN eI), va_neR (hf _ (by simp [fixC])) eA eS, va_neR (hf _ (by simp [fixC])) eA eN, va_neR (hf _ (by simp [fixC])) eS eN⟩
  · have z := hV.1 i hi
    have k1 : ad (1100 + i) = K i := (eK (1100 + i) (by omega) (by omega)).trans (by rw [show 1100 + i - 1100 = i by omega])
    have k2 : ad (1200 + i) = V i := (eV (1200 + i) (by omega) (by omega)).trans (by rw [show 1200 + i - 1200 = i by omega])
    rw [← k1, ← k2] at z
    exact z
  · have e : ad (1100 + i) = ad (1100 + j) := e
    rw [eK (1100 + i) (by omega) (by omega), eK (1100 + j) (by omega) (by omega), show 1100 + i - 1100 = i by omega, show 1100 + j - 1100 = j by omega] at e
    exact hV.2 i j hi hj e
  · have w1 := hts _ (of_decide_eq_true (List.all_eq_true.mp ldc_in q hq))
    refine ⟨w1, ?_⟩
    have w2 := List.all_eq_true.mp ldc_eq q hq
    simp only [Bool.and_eq_true, Bool.or_eq_true, decide_eq_true_eq] at w2
    obtain ⟨⟨g1, g2⟩, g3⟩ := w2
    show (Term.string q.1 q.2.1).eval args s none [] s = some (.ref (ad q.2.2.2))
    rw [eK _ g2 (by omega), g3]
    exact hK _ g1
  · exact va_tabs (List.all_eq_true.mp zNst_on q hq) rfl (hts q (lw_in nst_in hq))
  · have x1 := List.all_eq_true.mp zXw_ok q hq
    rw [Bool.and_eq_true] at x1
    exact va_tabs x1.1 rfl (hts q (lw_in xw_in hq))
  · show va_Z _ _ _ .null _ s s.heap ∨ va_Z _ _ _ (.ref (ad 1300)) _ s s.heap
    rw [e13]
    exact hfm
end OLDT
