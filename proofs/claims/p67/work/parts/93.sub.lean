/-! CALLS INTO A PART OF THE WORLD: the roles from lo to hi alone, everything below is old -/
/-- the run's constants for the roles lo .. hi-1, that lie behind each other and above all the others -/
def gS (G : zG) (lo hi : Nat) : zG := (gD G, gA G, (fun r => if lo ≤ r ∧ r < hi then gad G r else if r < 321 then gad G (hi - 1) + 1 + r else gad G r), gad G lo, gx G, gs G, gt G)
def mrg (lo hi : Nat) (M J : zM) : zM := fun q => if lo ≤ q ∧ q < hi then J q else M q
section GS
variable {G : zG} {a n lo hi : Nat} {M J : zM} {β : yB} {H H' : Heap}
theorem gS_in {r : Nat} (h1 : lo ≤ r) (h2 : r < hi) : gad (gS G lo hi) r = gad G r := if_pos ⟨h1, h2⟩
theorem gS_old {r : Nat} (h : 321 ≤ r) (h3 : hi ≤ 321) : gad (gS G lo hi) r = gad G r := by
  show (if lo ≤ r ∧ r < hi then gad G r else if r < 321 then gad G (hi - 1) + 1 + r else gad G r) = gad G r
  rw [if_neg (by omega), if_neg (by omega)]
theorem zGok_S (hsq : ySeq G lo) (h1 : lo < hi) (h2 : hi ≤ 321) (hx : (gx G).2 = 0) : zGok (gS G lo hi) := by
  have e : ∀ r, lo ≤ r → r < hi → gad G r = gad G lo + (r - lo) := fun r a b => by
    have x := seq_add hsq (Nat.le_refl lo) (r - lo) (by omega)
    rw [show lo + (r - lo) = r by omega] at x
    exact x
  have e9 := e (hi - 1) (by omega) (by omega)
  have f : ∀ r, r < 321 → (lo ≤ r ∧ r < hi ∧ gad (gS G lo hi) r = gad G lo + (r - lo)) ∨ (¬ (lo ≤ r ∧ r < hi) ∧ gad (gS G lo hi) r = gad G (hi - 1) + 1 + r) := fun r hr => by
    by_cases c : lo ≤ r ∧ r < hi
    · exact Or.inl ⟨c.1, c.2, (gS_in c.1 c.2).trans (e r c.1 c.2)⟩
    · refine Or.inr ⟨c, ?_⟩
      show (if lo ≤ r ∧ r < hi then gad G r else if r < 321 then gad G (hi - 1) + 1 + r else gad G r) = _
      rw [if_neg c, if_pos hr]
  refine ⟨fun r q hr hq h => ?_, fun r hr => ?_⟩
  · rcases f r hr with ⟨x1, x2, x3⟩ | ⟨x1, x3⟩ <;> rcases f q hq with ⟨y1, y2, y3⟩ | ⟨y1, y3⟩ <;> omega
  · have e9 : gad G lo ≤ gad (gS G lo hi) r := by rcases f r hr with ⟨x1, x2, x3⟩ | ⟨x1, x3⟩ <;> omega
    refine ⟨e9, fun h => ?_⟩
    have h3 : gad (gS G lo hi) r < (gx G).2 := h.2
    rw [hx] at h3
    omega
theorem zOld_S {s : State} (hb : gb G ≤ gad G lo) (h3 : hi ≤ 321) (h : zOld G s) : zOld (gS G lo hi) s := zOld_mono (fun r hr => gS_old (by omega) h3) (fun q h => ⟨Nat.le_trans hb h.1, h.2⟩) rfl rfl h
theorem sT_40 : ∀ r, r < 321 → ∀ k, k < nS r → sT (LT r) k = 40 → 321 ≤ LR r k := by decide +kernel
/-- the same cell, its references named otherwise -/
theorem yc_G {G' : zG} {x r : Nat} {f : Nat → Int32} {D : va_G} {cl : List vw_C} (hr : r < 321) (hA : gA G' = gA G) (h : ∀ k, k < nS r → sT (LT r) k ≠ 0 → gad G' (LR r k) = gad G (LR r k)) (hz : va_at D cl (x, zc G r f) H) : va_at D cl (x, zc G' r f) H := by
  unfold zc at hz ⊢
  unfold nS at h
  rw [hA]
  by_cases c1 : LT r < 20
  · rw [if_pos c1] at hz h ⊢
    have e : (List.range (nF (LT r))).map (zf G' r f) = (List.range (nF (LT r))).map (zf G r f) := by
      apply List.map_congr_left
      intro k hk
      have hk := List.mem_range.mp hk
      unfold zf
      by_cases z : sT (LT r) k = 0
      · rw [if_pos z, if_pos z]
      · rw [if_neg z, if_neg z, h k hk z]
    rw [e]
    exact hz
  · rw [if_neg c1] at hz h ⊢
    by_cases c2 : LT r < 23
    · rw [if_pos c2] at hz ⊢
      exact hz
    · rw [if_neg c2] at hz ⊢
      by_cases c3 : LT r = 23
      · rw [if_pos c3] at hz ⊢
        exact hz
      · rw [if_neg c3] at hz ⊢
        have y := zLT_code r hr
        have e : vp_cell (gA G (LT r)) (LL r, .inr (.inr (.inr (.inr (fun k => some (gad G' (LR r k))))))) = vp_cell (gA G (LT r)) (LL r, .inr (.inr (.inr (.inr (fun k => some (gad G (LR r k))))))) := by
          rw [vp_cell_q, vp_cell_q]
          refine arrV_cg (fun j hj => ?_)
          rw [h j hj (by unfold sT; rcases (show LT r = 30 ∨ LT r = 31 ∨ LT r = 32 ∨ LT r = 33 by omega) with e | e | e | e <;> rw [e] <;> simp)]
        show H[x]? = some (vp_cell (gA G (LT r)) (LL r, .inr (.inr (.inr (.inr (fun k => some (gad G' (LR r k))))))))
        rw [e]
        exact hz
theorem yc_z {r : Nat} {f : Nat → Int32} : yc G r f yT = zc G r f := rfl
/-- the part of a heap that is whole there -/
theorem zw_S (hw : wOK (lo, hi)) (ha : a ≤ lo) (hn : hi ≤ n) (hβ : ∀ r, lo ≤ r → r < hi → β r = yT) (hP : va_P (gD G) vwCl (yw G a n M β) H) : va_P (gD (gS G lo hi)) vwCl (zw (gS G lo hi) (lo, hi) M) H := by
  intro k q hk
  have hl : k < hi - lo := by
    have := (List.getElem?_eq_some_iff.mp hk).1
    unfold zw at this
    simpa using this
  have hz := zw_at (G := gS G lo hi) (w := (lo, hi)) (I := M) (r := lo + k) (by show lo ≤ lo + k; omega) (by show lo + k < hi; omega)
  rw [show lo + k - (lo, hi).1 = k by show lo + k - lo = k; omega, hk] at hz
  have hz := Option.some.inj hz
  rw [hz, gS_in (by omega) (by omega)]
  have hc := hP _ _ (yw_at (r := lo + k) (by omega) (by omega))
  rw [hβ _ (by omega) (by omega), yc_z] at hc
  refine yc_G (G := G) (D := gD G) (by have := hw.1; show lo + k < 321; have : hi ≤ 321 := this; omega) rfl (fun j h1 h2 => ?_) hc
  by_cases h40 : sT (LT (lo + k)) j = 40
  · exact gS_old (sT_40 (lo + k) (by have := hw.1; have : hi ≤ 321 := this; omega) j h1 h40) (by have := hw.1; exact this)
  obtain ⟨z1, z2⟩ := hw.2 (lo + k) (by show lo ≤ lo + k; omega) (by show lo + k < hi; omega) j h1 h2 h40
  exact gS_in z1 z2
/-- back into the whole -/
theorem yw_S (hsq : ySeq G a) (hw : wOK (lo, hi)) (ha : a ≤ lo) (hn : hi ≤ n) (hn0 : n ≤ 321) (hh : hi = n) (hlt : lo < hi) (hβ : ∀ r, lo ≤ r → r < hi → β r = yT) (hP : va_P (gD G) vwCl (yw G a n M β) H) (hJ : va_P (gD (gS G lo hi)) vwCl (zw (gS G lo hi) (lo, hi) J) H') (hk : ∀ q : Nat, q < H.size → ¬ gad G lo ≤ q → H'[q]? = H[q]?) : va_P (gD G) vwCl (yw G a n (mrg lo hi M J) β) H' := by
  intro k q hq
  obtain ⟨h1, h2⟩ := yw_in hq
  rw [h2]
  by_cases c : lo ≤ a + k
  · have hc : lo ≤ a + k ∧ a + k < hi := ⟨c, by omega⟩
    have e : mrg lo hi M J (a + k) = J (a + k) := if_pos hc
    rw [e, hβ _ hc.1 hc.2, yc_z]
    have hz := hJ _ _ (zw_at (r := a + k) hc.1 hc.2)
    rw [gS_in hc.1 hc.2] at hz
    refine yc_G (G := gS G lo hi) (by omega) rfl (fun j g1 g2 => ?_) hz
    by_cases h40 : sT (LT (a + k)) j = 40
    · exact (gS_old (sT_40 (a + k) (by omega) j g1 h40) (by omega)).symm
    obtain ⟨z1, z2⟩ := hw.2 (a + k) hc.1 hc.2 j g1 g2 h40
    exact (gS_in z1 z2).symm
  · have e : mrg lo hi M J (a + k) = M (a + k) := if_neg (by omega)
    rw [e]
    have hc := hP _ _ (yw_at (r := a + k) (by omega) (by omega))
    have x := seq_add hsq (Nat.le_add_right a k) (lo - (a + k)) (by omega)
    rw [show a + k + (lo - (a + k)) = lo by omega] at x
    have y := hc.lt
    have y : gad G (a + k) < H.size := y
    exact hc.kept (hk _ y (by omega))
end GS
theorem vv_size {K : zK} {u : Nat × Nat} {pc : Nat} {L : List (Nat × Value)} {S : List Value} {a n e0 : Nat} {mc : Nat × Nat} {M : zM} {β : yB} {P : Heap → Prop} (hE : kPh K = phY (kG K) e0 mc P) (hsq : ySeq (kG K) a) (ha : a ≤ e0) (hcnt : n = e0 + u.1) (hn : n ≤ 320) (han : a < n) (k : VV K u pc L S (yH (kG K) a n M β)) : VV K u pc L S (yZ false (kG K) a n M β) := by
  intro p e s m args below meth c Q H locs ls B hq hI hl hS
  have hq0 := hq
  rw [hE] at hq0
  exact w_size (fun hge => k p e s m args below meth c Q H locs ls B hq ⟨hI.1, fun _ => y_size hsq ha hq0.1.2.2 hcnt hn hge hI.1 han⟩ hl hS)
section VVE
variable {K : zK} {u : Nat × Nat} {pc : Nat} {L : List (Nat × Value)} {S : List Value} {cc : ByteArray} {own : String} {e0 index lo hi : Nat} {mcK mc' : Nat × Nat} {P0 : Heap → Prop} {P : Option Value → zM → Prop} {y : MethodName} {bc : ByteArray} {nL n d dK : Nat} {ret : Option FieldType} {as st9 : List Value} {I : zM} {J0 : Heap → Prop}
/-- what a call into a part leaves -/
abbrev yR (G : zG) (lo hi : Nat) (J0 : Heap → Prop) (J : zM) (H' : Heap) : Prop := ∃ H, J0 H ∧ H.size ≤ H'.size ∧ va_P (gD (gS G lo hi)) vwCl (zw (gS G lo hi) (lo, hi) J) H' ∧ ∀ q : Nat, q < H.size → ¬ gad G lo ≤ q → H'[q]? = H[q]?
theorem vv_runz {p : Program} {e : Env} {s : State} {m : MethodId} {args : Array Value} {below : List Frame} {meth : Method} {c : Code} {Q : State → Prop} {H : Heap} {locs : List Loc} {ls : Array Slot} {a9 : Array Value} {st0 : List Value} (B : zB K p s m args meth c) (hq : kPh K below args s meth c Q) (hl : lv_has ls (knL K) (L.map (zl (kG K)))) (hS : va_S (gF (kG K)) s.heap H locs) (hge : gb (kG K) ≤ gad (kG K) lo) (hI : J0 H)
    (hr : vx_Run p (kl K) e (kR K) s m args below meth c H locs u.1 u.2 mc'.1 mc'.2 (F0 m pc ls st0) (S.map (zv (kG K))) (zQ (gS (kG K) lo hi) (lo, hi) P a9) (zX (gS (kG K) lo hi) (lo, hi) nX) (gF (gS (kG K) lo hi))) (hv : ∀ v J, P v J → v.map (zv (gS (kG K) lo hi)) = v.map (zv (kG K)))
    (kk : ∀ v J, P v J → VV K (u.1 + mc'.1, u.2 + mc'.2) (pc + 3) L (v.toList ++ S) (yR (kG K) lo hi J0 J)) : W p (kl K) e (kR K) s m args below meth c H locs u.1 u.2 Q (F0 m pc ls st0) := by
  intro T hT Xs
  rcases hr T hT Xs with ⟨v, st₀, t, T', Ll, h0, X', hL, e1, e2, ⟨v', J, hv1, hp, hW, hF⟩, st⟩ | ⟨q, st₀, t, T', Ll, E, ce, h0, X', hL, e1, e2, ⟨J, hx, hW, hF⟩, hce, hcv, hcl, st⟩
  · obtain ⟨z1, z2, hS'⟩ := vx_keep h0 e1 hS (fun q _ h => ⟨Nat.le_trans hge h.1, h.2⟩) (fun q h => ⟨Nat.le_trans hge h.1, h.2⟩) hL hF
    have hv2 : v = v'.map (zv (gS (kG K) lo hi)) := by injection hv1
    rw [hv v' J hp] at hv2
    subst hv2
    have hP' : va_P (gD (gS (kG K) lo hi)) vwCl (zw (gS (kG K) lo hi) (lo, hi) J) T'.heap := by rw [e1]; exact hW
    obtain ⟨t2, a1, b1⟩ := kk v' J hp p e s m args below meth c Q T'.heap (locs ++ Ll) ls B hq ⟨H, hI, z1, hP', fun q h1 h2 => z2 q h1 (fun h => h2 h.1)⟩ hl hS' T' rfl X'
    rw [← zst] at a1
    exact ⟨t2, st t2 a1, b1⟩
  · exact hx.elim
theorem vv_callee {s : State} {H : Heap} {locs : List Loc} {av : List Value} {p : Program} {m : MethodId} {args : Array Value} {meth : Method} {c : Code} (B : zB K p s m args meth c) (hw : wOK (lo, hi)) (hG' : zGok (gS (kG K) lo hi)) (hge : gb (kG K) ≤ gad (kG K) lo) (hlt : lo < hi) (hP : va_P (gD (gS (kG K) lo hi)) vwCl (zw (gS (kG K) lo hi) (lo, hi) I) H) (hS : va_S (gF (kG K)) s.heap H locs) : ∀ U : State, U.heap = H → s.WarmedH U.vm → va_Pc av (fun U => zWl (gS (kG K) lo hi) (lo, hi) I U ∧ (kl K).stackTraces = false) av.toArray U := by
  intro U hU hW
  obtain ⟨-, -, -, -, -, -, hK, hO, hb, hG, -, hst⟩ := B
  have hlt2 := (hP _ _ (zw_at (w := (lo, hi)) (r := lo) (Nat.le_refl lo) hlt)).lt
  have e0 : gad (gS (kG K) lo hi) lo < H.size := hlt2
  rw [gS_in (Nat.le_refl lo) hlt] at e0
  exact ⟨rfl, ⟨by rw [hU]; exact hP, va_K.moved hW.alike hK, zOld_S hge hw.1 (zOld_warm hW (by rw [hU]; exact hS.2.1) hO), Nat.le_of_lt (by rw [hU]; exact e0), hG', hw⟩, hst⟩
theorem vv_subV (hb : kcc K = cc) (ho : kown K = own) (hR : kR K = zR dK mcK) (hw : wOK (lo, hi)) (hG' : zGok (gS (kG K) lo hi)) (hge : gb (kG K) ≤ gad (kG K) lo) (hlt : lo < hi) (hP0 : ∀ H, J0 H → va_P (gD (gS (kG K) lo hi)) vwCl (zw (gS (kG K) lo hi) (lo, hi) I) H) (hMk : zMk y bc nL ret n) (hn : as.length = n) {c r : Nat} {T : u_T} {N : Nat} {ty : Nat → FieldType} (hc : cOK c y.cls T N ty) (hr : isT (lo, hi) c r) (hd : Nat.ble (d + 1) dK = true) (hu : u.1 + mc'.1 ≤ mcK.1 ∧ u.2 + mc'.2 ≤ mcK.2) (hst : st9 = as.reverse ++ .ref r :: S) (has : as.map (zv (gS (kG K) lo hi)) = as.map (zv (kG K)))
    (hlink : Cond.methodLink own index y ∈ TG) (hins : Cond.instanceMethod y ∈ TG) (hsel : Cond.selects y.cls y y ∈ TG) (h8 : Nat.ble (S.map fun v => v.category).sum 8 = true) (hdg : decode cc pc = .ok (.invokevirtual index, 3))
    (hM : CT (gS (kG K) lo hi) (lo, hi) (kl K) (y, bc, nL, ret) d mc' (.ref r :: as) I P nX) (hv : ∀ v J, P v J → v.map (zv (gS (kG K) lo hi)) = v.map (zv (kG K))) (kv : ∀ v J, P v J → VV K (u.1 + mc'.1, u.2 + mc'.2) (pc + 3) L (v.toList ++ S) (yR (kG K) lo hi J0 J)) : VV K u pc L st9 J0 := by
  intro p e s m args below meth c0 Q H locs ls B hq hI hl hS
  have B0 := B
  obtain ⟨b1, b2, b3, hts, hown, b6, hK, hO1, -, hG, hw0, -⟩ := B
  rw [ho] at hown
  obtain ⟨⟨h1, h2, h3, h4⟩, h5, h6, h7, -⟩ := hc
  have hP := hP0 H hI
  have hat := zw_at (G := gS (kG K) lo hi) (I := I) hr.1.1 hr.1.2
  rw [zc_obj hr h3] at hat
  have hg : ∀ x ∈ wsV own index y.cls y (WS (y, bc, nL, ret)), x ∈ TG := fun x hx => by
    unfold wsV at hx
    rcases List.mem_append.mp hx with hx | hx
    · simp only [List.mem_cons, List.not_mem_nil, or_false] at hx
      rcases hx with rfl | rfl | rfl | rfl
      · exact hlink
      · exact hins
      · exact hsel
      · exact hMk.1.2
    · exact (zWS_good hMk x hx).1
  refine vv_runz B0 hq hl hS hge hI (vx_runV (As := as.map (zv (gS (kG K) lo hi))) (C := y.cls) (n := n) ⟨b1, b2.trans hb, b3, hown, hts⟩ hM (cwV n hts (goodIn_TG hg) rfl rfl rfl ⟨rfl, hMk.2.1⟩ (by rw [hR]; exact zroom hd hMk.2.2)) ⟨zWl_blind, va_recv (q := (y.cls, T, N)) hK hP h1 hat, fun U hU hW => vv_callee B0 hw hG' hge hlt hP hS U hU hW⟩ rfl (by rw [List.length_map]; exact hn) (hl.1.trans rfl) ?_ (zroomS h8) hdg (by rw [hR]; exact hu)) hv kv
  rw [hst, has]
  show List.map (zv (kG K)) (as.reverse ++ .ref r :: S) = _
  rw [List.map_append, List.map_reverse, List.map_cons]
  show _ ++ Value.ref (gad (kG K) r) :: _ = _ ++ Value.ref (gad (gS (kG K) lo hi) r) :: _
  rw [gS_in hr.1.1 hr.1.2]
theorem vv_subS (hb : kcc K = cc) (ho : kown K = own) (hR : kR K = zR dK mcK) (hw : wOK (lo, hi)) (hG' : zGok (gS (kG K) lo hi)) (hge : gb (kG K) ≤ gad (kG K) lo) (hlt : lo < hi) (hP0 : ∀ H, J0 H → va_P (gD (gS (kG K) lo hi)) vwCl (zw (gS (kG K) lo hi) (lo, hi) I) H) (hMk : zMk y bc nL ret n) (hn : as.length = n) (hd : Nat.ble (d + 1) dK = true) (hu : u.1 + mc'.1 ≤ mcK.1 ∧ u.2 + mc'.2 ≤ mcK.2) (hst : st9 = as.reverse ++ S) (has : as.map (zv (gS (kG K) lo hi)) = as.map (zv (kG K)))
    (hlink : Cond.methodLink own index y ∈ TG) (hstt : Cond.static y ∈ TG) (h8 : Nat.ble (S.map fun v => v.category).sum 8 = true) (hdg : decode cc pc = .ok (.invokestatic index, 3))
    (hM : CT (gS (kG K) lo hi) (lo, hi) (kl K) (y, bc, nL, ret) d mc' as I P nX) (hv : ∀ v J, P v J → v.map (zv (gS (kG K) lo hi)) = v.map (zv (kG K))) (kv : ∀ v J, P v J → VV K (u.1 + mc'.1, u.2 + mc'.2) (pc + 3) L (v.toList ++ S) (yR (kG K) lo hi J0 J)) : VV K u pc L st9 J0 := by
  intro p e s m args below meth c0 Q H locs ls B hq hI hl hS
  have B0 := B
  obtain ⟨b1, b2, b3, hts, hown, b6, hK, hO1, -, hG, hw0, -⟩ := B
  rw [ho] at hown
  have hP := hP0 H hI
  have hg : ∀ x ∈ va_wsS own index y (WS (y, bc, nL, ret)), x ∈ TG := fun x hx => by
    unfold va_wsS at hx
    rcases List.mem_append.mp hx with hx | hx
    · simp only [List.mem_cons, List.not_mem_nil, or_false] at hx
      rcases hx with rfl | rfl | rfl
      · exact hlink
      · exact hstt
      · exact hMk.1.2
    · exact (zWS_good hMk x hx).1
  refine vv_runz B0 hq hl hS hge hI (vx_runS (As := as.map (zv (gS (kG K) lo hi))) (n := n) ⟨b1, b2.trans hb, b3, hown, hts⟩ hM (va_cwS n hts (goodIn_TG hg) rfl rfl rfl hMk.2.1 (by rw [hR]; exact zroom hd hMk.2.2)) ⟨zWl_blind, fun U hU hW => vv_callee B0 hw hG' hge hlt hP hS U hU hW⟩ rfl (by rw [List.length_map]; exact hn) (hl.1.trans rfl) ?_ (zroomS h8) hdg (by rw [hR]; exact hu)) hv kv
  rw [hst, has]
  show List.map (zv (kG K)) (as.reverse ++ S) = _
  rw [List.map_append, List.map_reverse]
end VVE
