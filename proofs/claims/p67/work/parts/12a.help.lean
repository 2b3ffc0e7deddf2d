/-! static arrays and constants out of what lies below; a switch -/
theorem zoZ0 (G : zG) (s : State) (h : zOld G s) : va_Z "PenOffice" "LEAST_SETTINGS" "[I" (.ref (gad G 1010)) (gF G) s s.heap := h.1.1.1
theorem zoZ1 (G : zG) (s : State) (h : zOld G s) : va_Z "PenOffice" "MOST_SETTINGS" "[I" (.ref (gad G 1011)) (gF G) s s.heap := h.1.2.1.1
theorem zoZ2 (G : zG) (s : State) (h : zOld G s) : va_Z "PenOffice" "LEAST_OF_LETTER" "[I" (.ref (gad G 1012)) (gF G) s s.heap := h.1.2.2.1.1
theorem zoZ3 (G : zG) (s : State) (h : zOld G s) : va_Z "PenOffice" "MOST_OF_LETTER" "[I" (.ref (gad G 1013)) (gF G) s s.heap := h.1.2.2.2.1.1
theorem zoT0 (G : zG) : zSA G 1010 7 (zS5 0) := fun _ h => h.1.1.2
theorem zoT1 (G : zG) : zSA G 1011 7 (zS5 1) := fun _ h => h.1.2.1.2
theorem zoT2 (G : zG) : zSA G 1012 4 (zS5 2) := fun _ h => h.1.2.2.1.2
theorem zoT3 (G : zG) : zSA G 1013 4 (zS5 3) := fun _ h => h.1.2.2.2.1.2
/-- the law's script -/
theorem zoS (G : zG) : zSA G 1400 (gs G).1 (gs G).2 := fun _ h => h.1.2.2.2.2.1
theorem zoF0 (G : zG) (s : State) (h : zOld G s) : va_Z "PenOffice$Fault" "INDEX" "LPenOffice$Fault;" (.ref (gad G 1000)) (gF G) s s.heap := h.2.1.1
theorem zoF1 (G : zG) (s : State) (h : zOld G s) : va_Z "PenOffice$Fault" "ARGUMENT" "LPenOffice$Fault;" (.ref (gad G 1001)) (gF G) s s.heap := h.2.1.2.1
theorem zoF2 (G : zG) (s : State) (h : zOld G s) : va_Z "PenOffice$Fault" "STATE" "LPenOffice$Fault;" (.ref (gad G 1002)) (gF G) s s.heap := h.2.1.2.2.1
theorem zoF3 (G : zG) (s : State) (h : zOld G s) : va_Z "PenOffice$Fault" "NOTHING" "LPenOffice$Fault;" (.ref (gad G 1003)) (gF G) s s.heap := h.2.1.2.2.2.1
section TSW
variable {K : zK} {u : Nat × Nat} {pc : Nat} {L : List (Nat × Value)} {S : List Value} {I : zM} {cc : ByteArray}
theorem zz_tsw (hb : kcc K = cc) {dflt lo hi : Int} {offs : Array Int} {len td : Nat} {tg : List Nat} {x : Int32} (hdg : decode cc pc = .ok (.tableswitch dflt lo hi offs, len)) (ht : (pc : Int) + dflt = (td : Int)) (hoffs : offs.toList.map (fun o => (pc : Int) + o) = tg.map (fun t : Nat => (t : Int))) (hsz : hi = lo + tg.length - 1) (kd : x.toInt < lo ∨ hi < x.toInt → ZZ K u td L S I) (kk : ∀ (i t : Nat), tg[i]? = some t → x.toInt = lo + i → ZZ K u t L S I) : ZZ K u pc L (.int x :: S) I := by
  by_cases h : x.toInt < lo ∨ hi < x.toInt
  · exact zz_tableOut hb hdg h ht (kd h)
  · have h1 : ¬ x.toInt < lo := fun q => h (Or.inl q)
    have h2 : ¬ hi < x.toInt := fun q => h (Or.inr q)
    have hi1 : (x.toInt - lo).toNat < tg.length := by omega
    have e1 : (offs.toList.map (fun o => (pc : Int) + o))[(x.toInt - lo).toNat]? = some ((tg[(x.toInt - lo).toNat] : Nat) : Int) := by
      rw [hoffs, List.getElem?_map, List.getElem?_eq_getElem hi1]; rfl
    rw [List.getElem?_map] at e1
    cases ho : offs.toList[(x.toInt - lo).toNat]? with
    | none => rw [ho] at e1; cases e1
    | some o =>
      rw [ho] at e1
      exact zz_tableIn (off := o) hb hdg h1 h2 (by rw [← Array.getElem?_toList]; exact ho) (Option.some.inj e1) (kk _ _ (List.getElem?_eq_getElem hi1) (by omega))
end TSW
