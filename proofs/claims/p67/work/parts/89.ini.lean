/-! CONSTRUCTORS: what they leave; the rows in that form -/
def ini (c k : Nat) : Int32 := if c = 9 ∧ (k = 6 ∨ k = 7 ∨ k = 8) then -1 else if c = 8 ∧ (k = 1 ∨ k = 3 ∨ k = 4) then 1 else if c = 5 ∧ k = 6 then -1 else if c = 4 ∧ k = 7 then -1 else 0
def mI (M : zM) (r : Nat) : zM := fun q => if r ≤ q then ini (LT q) else M q
def bJ (β : yB) (r : Nat) : yB := fun q => if r ≤ q then yT else β q
theorem ini_0 {c : Nat} (h : c ≠ 9 ∧ c ≠ 8 ∧ c ≠ 5 ∧ c ≠ 4) : ini c = y0 := by
  funext k
  unfold ini y0
  rw [if_neg (fun e => h.1 e.1), if_neg (fun e => h.2.1 e.1), if_neg (fun e => h.2.2.1 e.1), if_neg (fun e => h.2.2.2 e.1)]
theorem mI_ge {M : zM} {r q : Nat} (h : r ≤ q) : mI M r q = ini (LT q) := if_pos h
theorem mI_lt {M : zM} {r q : Nat} (h : q < r) : mI M r q = M q := if_neg (by omega)
theorem bJ_ge {β : yB} {r q : Nat} (h : r ≤ q) : bJ β r q = yT := if_pos h
theorem bJ_lt {β : yB} {r q : Nat} (h : q < r) : bJ β r q = β q := if_neg (by omega)
theorem bups_same (β : yB) (r : Nat) (b : Nat → Bool) : bups β r b r = b := if_pos rfl
theorem bups_ne (β : yB) {r q : Nat} (b : Nat → Bool) (h : q ≠ r) : bups β r b q = β q := if_neg h
theorem bups_bups (β : yB) (r : Nat) (b b' : Nat → Bool) : bups (bups β r b) r b' = bups β r b' := by
  funext q
  unfold bups
  by_cases e : q = r
  · rw [if_pos e, if_pos e]
  · rw [if_neg e, if_neg e, if_neg e]
theorem bups_sw (β : yB) {r q : Nat} (b b' : Nat → Bool) (h : r ≠ q) : bups (bups β r b) q b' = bups (bups β q b') r b := by
  funext i
  unfold bups
  by_cases e : i = q
  · rw [if_pos e, if_neg (by omega), if_pos e]
  · rw [if_neg e, if_neg e]
theorem mI_abs {M : zM} {n : Nat} (h : ∀ q, n ≤ q → M q = ini (LT q)) : mI M n = M := by
  funext q
  unfold mI
  by_cases e : n ≤ q
  · rw [if_pos e, h q e]
  · rw [if_neg e]
theorem bJ_abs {β : yB} {n : Nat} (h : ∀ q, n ≤ q → β q = yT) : bJ β n = β := by
  funext q
  unfold bJ
  by_cases e : n ≤ q
  · rw [if_pos e, h q e]
  · rw [if_neg e]
theorem nS_obj {r c : Nat} (h : LT r = c) (hc : Nat.blt c 20 = true) : nS r = nF c := by
  unfold nS
  rw [h, if_pos (Nat.blt_eq.mp hc)]
theorem nS_arr {r c : Nat} (h : LT r = c) (hc : Nat.blt c 20 = false) : nS r = LL r := by
  unfold nS
  rw [h, if_neg (fun e => by rw [Nat.blt_eq.mpr e] at hc; cases hc)]
def yLt (j : Nat) : Nat → Bool := fun k => decide (k < j)
theorem yLt_0 : yLt 0 = yN := by funext k; simp [yLt, yN]
theorem bset_lt (j : Nat) : bset (yLt j) j = yLt (j + 1) := by
  funext k
  unfold bset yLt
  by_cases e : k = j
  · rw [if_pos e]; simp [e]
  · rw [if_neg e]
    by_cases h : k < j
    · simp [h]; omega
    · simp [h]; omega
abbrev yPre (G : zG) (a r : Nat) (M : zM) (β : yB) : Heap → Prop := yH G a (r + 1) (ups M r y0) (bups β r yN)
abbrev yPost (G : zG) (a r sz : Nat) (M : zM) (β : yB) : Heap → Prop := yH G a (r + sz) (mI M r) (bJ β r)
/-- within a constructor of role r: its numbers f, its references b -/
abbrev yO (G : zG) (a r n : Nat) (M : zM) (β : yB) (f : Nat → Int32) (b : Nat → Bool) : Heap → Prop := yH G a n (ups M r f) (bups β r b)
section YO
variable {G : zG} {a n r sz : Nat} {M M' : zM} {β β' : yB} {f : Nat → Int32} {b : Nat → Bool} {H : Heap}
theorem yO_start (h : yPre G a r M β H) : yO G a r (r + 1) (mI M r) (bJ β r) y0 yN H := by
  refine ⟨?_, h.2⟩
  rw [yw_below (M := ups M r y0) (β := bups β r yN) (fun q h1 h2 => ?_)]
  · exact h.1
  · by_cases e : q = r
    · subst e
      rw [ups_same, ups_same, bups_same, bups_same]
      exact ⟨rfl, rfl⟩
    · rw [ups_ne _ _ e, ups_ne _ _ e, bups_ne _ _ e, bups_ne _ _ e, mI_lt (by omega), bJ_lt (by omega)]
      exact ⟨rfl, rfl⟩
theorem yO_endq (hf : ∀ k, k < nS r → ini (LT r) k = f k) (hb : ∀ k, k < nS r → sT (LT r) k ≠ 0 → b k = true) (hq : ∀ q, a ≤ q → q < r + sz → q ≠ r → (∀ k, k < nS q → mI M r q k = M' q k) ∧ ∀ k, k < nS q → sT (LT q) k ≠ 0 → bJ β r q k = β' q k) (h : yO G a r (r + sz) M' β' f b H) : yPost G a r sz M β H := by
  refine ⟨yP_cg (fun q h1 h2 => ?_) h.1, h.2⟩
  by_cases e : q = r
  · subst e
    rw [ups_same, bups_same, mI_ge (Nat.le_refl q), bJ_ge (Nat.le_refl q)]
    exact ⟨hf, fun k g1 g2 => (hb k g1 g2).symm⟩
  · rw [ups_ne _ _ e, bups_ne _ _ e]
    exact hq q h1 h2 e
theorem yO_end (hf : ∀ k, k < nS r → ini (LT r) k = f k) (hb : ∀ k, k < nS r → sT (LT r) k ≠ 0 → b k = true) (h : yO G a r (r + sz) (mI M r) (bJ β r) f b H) : yPost G a r sz M β H :=
  yO_endq hf hb (fun _ _ _ _ => ⟨fun _ _ => rfl, fun _ _ _ => rfl⟩) h
end YO
section VVD
variable {K : zK} {u : Nat × Nat} {pc : Nat} {L : List (Nat × Value)} {S : List Value} {cc : ByteArray} {own : String} {a n r index : Nat} {mc : Nat × Nat} {M : zM} {β : yB} {P : Heap → Prop} {f : Nat → Int32} {b : Nat → Bool}
theorem vo_put {C ref : String} {T : u_T} {N c k : Nat} {ty : Nat → FieldType} (hb : kcc K = cc) (ho : kown K = own) (hE : kPh K = phY (kG K) (r + 1) mc P) (hsq : ySeq (kG K) a) (ha : a ≤ r) (hcnt : n = r + 1 + u.1) (hn : n ≤ 320) (hc : cOK c C T N ty) (hr : LT r = c) (hk : Nat.blt k N = true) (hs : sT c k = 0) (hlink : Cond.fieldLink own index ref (T k).2.1 (T k).2.2.1 ∈ TG) (href : (T k).1 = ref) (hfin : (T k).2.2.2 = false) (hty : ty k = .int) {x : Int32} (hdg : decode cc pc = .ok (.putfield index, 3)) (kk : VV K u (pc + 3) L S (yO (kG K) a r n M β (upd f k x) b)) : VV K u pc L (.int x :: .ref r :: S) (yO (kG K) a r n M β f b) := by
  refine vv_put (z := true) hb ho hE hsq (fun _ => ⟨by omega, hcnt⟩) hn hc hr ha (by omega) hk hs hlink href hfin hty hdg ?_
  rw [ups_ups, ups_same]
  exact kk
theorem vo_putr {C ref : String} {T : u_T} {N c k v : Nat} {ty : Nat → FieldType} (hb : kcc K = cc) (ho : kown K = own) (hE : kPh K = phY (kG K) (r + 1) mc P) (hsq : ySeq (kG K) a) (ha : a ≤ r) (hcnt : n = r + 1 + u.1) (hn : n ≤ 320) (hc : cOK c C T N ty) (hr : LT r = c) (hk : Nat.blt k N = true) (hs : ¬ sT c k = 0) (hv : LR r k = v) (hlink : Cond.fieldLink own index ref (T k).2.1 (T k).2.2.1 ∈ TG) (href : (T k).1 = ref) (hdecl : (T k).1 = own) (hfin : (T k).2.2.2 = true) (hnar : ∀ q, narrow (ty k) (.ref q) = .ref q) (hfit : ∀ q, fits (ty k) (.ref q) = true) (hdg : decode cc pc = .ok (.putfield index, 3)) (kk : VV K u (pc + 3) L S (yO (kG K) a r n M β f (bset b k))) : VV K u pc L (.ref v :: .ref r :: S) (yO (kG K) a r n M β f b) := by
  refine vv_putr (z := true) hb ho hE hsq (fun _ => ⟨by omega, hcnt⟩) hn hc hr ha (by omega) hk hs hv hlink href hdecl hfin hnar hfit hdg ?_
  rw [bups_bups, bups_same]
  exact kk
theorem vv_new3 {C : String} {T : u_T} {N c i2 d d' nL e0 : Nat} {mc' : Nat × Nat} {y : MethodName} {bc : ByteArray} {ty : Nat → FieldType} (hb : kcc K = cc) (ho : kown K = own) (hE : kPh K = phY (kG K) e0 mc P) (hR : kR K = zR d' mc) (hc : cOK c C T N ty) (hn : LT n = c) (han : a ≤ n) (hsq : ySeq (kG K) a) (hn0 : n < 320) (hcl : Cond.classLink own index C ∈ TG) (hinst : Cond.instantiable C N ∈ TG) (hdf : ∀ j, j < N → defaultValue (ty j) = if sT c j = 0 then .int 0 else .null)
    (hMk : zMk y bc nL none 0) (hyc : y.cls = C) (hy : y.name = "<init>") (hlink : Cond.methodLink own i2 y ∈ TG ∨ ∃ host, Cond.methodLinkNest own i2 y host ∈ zNst) (hins : Cond.instanceMethod y ∈ TG) (hd : Nat.ble (d + 1) d' = true) (hu : u.1 + (1 + mc'.1) ≤ mc.1 ∧ u.2 + (N + mc'.2) ≤ mc.2) (h8 : Nat.ble (S.map fun v => v.category).sum 7 = true)
    (hdg : decode cc pc = .ok (.new index, 3)) (hdg2 : decode cc (pc + 3) = .ok (.dup, 1)) (hdg3 : decode cc (pc + 4) = .ok (.invokespecial i2, 3))
    (hMa : ∀ q, n ≤ q → M q = ini (LT q)) (hβa : ∀ q, n ≤ q → β q = yT) (hM : CY (kG K) (kl K) (y, bc, nL, none) d mc' n (yPre (kG K) a n M β) (yPost (kG K) a n (1 + mc'.1) M β))
    (kk : VV K (u.1 + (1 + mc'.1), u.2 + (N + mc'.2)) (pc + 7) L (.ref n :: S) (yH (kG K) a (n + (1 + mc'.1)) M β)) : VV K u pc L S (yH (kG K) a n M β) := by
  subst hyc
  have h8 := Nat.le_of_ble_eq_true h8
  refine vv_new hb ho hc hn han (hsq n han hn0) hcl hinst hMk.1.2 hdf (by rw [hR]; show u.1 + 1 ≤ mc.1 ∧ u.2 + N ≤ mc.2; omega) hdg ?_
  refine vv_dup hb hdg2 rfl ?_
  refine vv_init (mc := mc) hb ho hE hR hMk hy hlink hins hd (by show u.1 + 1 + mc'.1 ≤ mc.1 ∧ u.2 + N + mc'.2 ≤ mc.2; omega) (Nat.ble_eq_true_of_le (by show 1 + (S.map fun v => v.category).sum ≤ 8; omega)) hdg3 hM ?_
  have e := kk
  rw [← mI_abs hMa, ← bJ_abs hβa, show u.1 + (1 + mc'.1) = u.1 + 1 + mc'.1 by omega, show u.2 + (N + mc'.2) = u.2 + N + mc'.2 by omega] at e
  exact e
end VVD
/-! the constructors of Letter, Settings, Clerks, Command -/
section CYA
variable {G : zG} {l : Launch} {a r : Nat} {M : zM} {β : yB}
theorem cy_letter (hsq : ySeq G a) (ha : a ≤ r) (hr : r < 320) (h5 : LT r = 5) : CY G l (yX5_init, cX5_init, 1, none) 2 (0, 0) r (yPre G a r M β) (yPost G a r 1 M β) := by
  refine cy_of (e0 := r + 1) rfl rfl rfl (fun H h => h.2 rfl) (fun K hG hl hI => ?_)
  subst hG
  obtain ⟨hb, ho, hnl, hR, hE⟩ := hI
  refine vv_imp (fun H h => yO_start h) ?_
  refine vv_aload_n hb (z_dec dX5_init 0 rfl) rfl 0 rfl ?_
  refine vv_obj hb ho hR rfl rfl (rX5_init 0 rfl) (z_dec dX5_init 1 rfl) ?_
  refine vv_aload_n hb (z_dec dX5_init 2 rfl) rfl 0 rfl ?_
  refine vv_iconst hb (v := -1) (z_dec dX5_init 3 rfl) rfl ?_
  refine vo_put (k := 6) hb ho hE hsq ha rfl (by omega) ckX5 h5 rfl rfl (rX5_init 1 rfl) rfl rfl rfl (z_dec dX5_init 4 rfl) ?_
  refine vv_ret hb hE ⟨Nat.le_refl _, Nat.le_refl _⟩ (z_dec dX5_init 5 rfl) (fun H h => yO_end ?_ ?_ h) <;> rw [nS_obj h5 rfl, h5] <;> decide +kernel
theorem cy_settings (hsq : ySeq G a) (ha : a ≤ r) (hr : r < 320) (h8 : LT r = 8) : CY G l (yX8_init, cX8_init, 1, none) 2 (0, 0) r (yPre G a r M β) (yPost G a r 1 M β) := by
  refine cy_of (e0 := r + 1) rfl rfl rfl (fun H h => h.2 rfl) (fun K hG hl hI => ?_)
  subst hG
  obtain ⟨hb, ho, hnl, hR, hE⟩ := hI
  refine vv_imp (fun H h => yO_start h) ?_
  refine vv_aload_n hb (z_dec dX8_init 0 rfl) rfl 0 rfl ?_
  refine vv_obj hb ho hR rfl rfl (rX8_init 0 rfl) (z_dec dX8_init 1 rfl) ?_
  refine vv_aload_n hb (z_dec dX8_init 2 rfl) rfl 0 rfl ?_
  refine vv_iconst hb (v := 1) (z_dec dX8_init 3 rfl) rfl ?_
  refine vo_put (k := 1) hb ho hE hsq ha rfl (by omega) ckX8 h8 rfl rfl (rX8_init 1 rfl) rfl rfl rfl (z_dec dX8_init 4 rfl) ?_
  refine vv_aload_n hb (z_dec dX8_init 5 rfl) rfl 0 rfl ?_
  refine vv_iconst hb (v := 1) (z_dec dX8_init 6 rfl) rfl ?_
  refine vo_put (k := 3) hb ho hE hsq ha rfl (by omega) ckX8 h8 rfl rfl (rX8_init 2 rfl) rfl rfl rfl (z_dec dX8_init 7 rfl) ?_
  refine vv_aload_n hb (z_dec dX8_init 8 rfl) rfl 0 rfl ?_
  refine vv_iconst hb (v := 1) (z_dec dX8_init 9 rfl) rfl ?_
  refine vo_put (k := 4) hb ho hE hsq ha rfl (by omega) ckX8 h8 rfl rfl (rX8_init 3 rfl) rfl rfl rfl (z_dec dX8_init 10 rfl) ?_
  refine vv_ret hb hE ⟨Nat.le_refl _, Nat.le_refl _⟩ (z_dec dX8_init 11 rfl) (fun H h => yO_end ?_ ?_ h) <;> rw [nS_obj h8 rfl, h8] <;> decide +kernel
end CYA
