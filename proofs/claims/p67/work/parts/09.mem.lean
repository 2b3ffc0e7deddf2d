/-! ROWS OF FIELDS AND ARRAYS -/
/-- a class of the world: its name, fields, number of them, types -/
def cOK (c : Nat) (C : String) (T : u_T) (N : Nat) (ty : Nat → FieldType) : Prop :=
  (vwCl[c - 1]? = some (C, T, N) ∧ nF c = N ∧ Nat.blt c 20 = true ∧ 0 < c) ∧ (∀ w ∈ u_ws C T N, w ∈ TG) ∧ (∀ k, k < N → parseFieldDescriptor (T k).2.2.1 = some (ty k)) ∧ (∀ a, a < N → ∀ b, b < N → a ≠ b → (T a).2.1 ≠ (T b).2.1) ∧ ∀ k, k < N → sT c k = 0 → ty k = .int ∨ ty k = .boolean
theorem zc_obj {G : zG} {w : Nat × Nat} {c r : Nat} {f : Nat → Int32} (h : isT w c r) (hc : Nat.blt c 20 = true) : zc G r f = .inr (c - 1, (List.range (nF c)).map (zf G r f)) := by
  unfold zc
  rw [h.2, if_pos (Nat.blt_eq.mp hc)]
theorem zf_get {G : zG} {r n k : Nat} {f : Nat → Int32} (h : k < n) : ((List.range n).map (zf G r f))[k]? = some (zf G r f k) := by
  rw [List.getElem?_map, List.getElem?_range h]; rfl
theorem zf_set {G : zG} {r n k : Nat} {f : Nat → Int32} {x : Int32} (hs : sT (LT r) k = 0) : ((List.range n).map (zf G r f)).set k (.int x) = (List.range n).map (zf G r (upd f k x)) := by
  apply List.ext_getElem?
  intro i
  by_cases hi : i < n
  · by_cases he : i = k
    · subst he
      rw [List.getElem?_set_self (by simpa using hi), zf_get hi]
      simp [zf, hs, upd]
    · rw [List.getElem?_set_ne (Ne.symm he), zf_get hi, zf_get hi]
      simp [zf, upd, he]
  · rw [List.getElem?_eq_none (by simp; omega), List.getElem?_eq_none (by simp; omega)]
theorem zin {i : Int32} {n : Nat} (h : (decide (i < 0) || Nat.ble n i.toNatClampNeg) = false) : vp_in i n := by
  rw [Bool.or_eq_false_iff] at h
  rintro (q | q)
  · have := h.1; simp [q] at this
  · have := h.2; rw [Nat.ble_eq_true_of_le q] at this; cases this
theorem zvi {i : Int32} {r n : Nat} (e : LL r = n) (h : vp_in i n) : vp_in i (LL r) := by rw [e]; exact h
theorem zlen (c k n : Nat) (h : ∀ r, r < zNN → LT r = c → LL (LR r k) = n) {w : Nat × Nat} {r : Nat} (hw : wOK w) (t : isT w c r) : LL (LR r k) = n := h r (Nat.lt_of_lt_of_le t.1.2 hw.1) t.2
theorem zLn9 {w : Nat × Nat} {r : Nat} (hw : wOK w) (t : isT w 9 r) : LL (LR r 2) = 12 := zlen 9 2 12 (by decide +kernel) hw t
theorem zLn1 {w : Nat × Nat} {r : Nat} (hw : wOK w) (t : isT w 1 r) : LL (LR r 1) = 6 := zlen 1 1 6 (by decide +kernel) hw t
theorem zLn12 {w : Nat × Nat} {r : Nat} (hw : wOK w) (t : isT w 1 r) : LL (LR r 2) = 6 := zlen 1 2 6 (by decide +kernel) hw t
theorem zLn2 {w : Nat × Nat} {r : Nat} (hw : wOK w) (t : isT w 2 r) : LL (LR r 2) = 4 := zlen 2 2 4 (by decide +kernel) hw t
theorem zLn30 {w : Nat × Nat} {r : Nat} {i : Int32} (hw : wOK w) (t : isT w 30 r) (hi : vp_in i (LL r)) : LL (LR r i.toNatClampNeg) = 6 := by
  have key : ∀ r, r < zNN → LT r = 30 → ∀ k, k < LL r → LL (LR r k) = 6 := by decide +kernel
  exact key r (Nat.lt_of_lt_of_le t.1.2 hw.1) t.2 _ (Nat.not_le.mp fun q => hi (Or.inr q))
section ZZM
variable {K : zK} {u : Nat × Nat} {pc : Nat} {L : List (Nat × Value)} {S : List Value} {I : zM} {cc : ByteArray}
theorem zz_get0 (hb : kcc K = cc) {own : String} (ho : kown K = own) {c r k index : Nat} {C ref : String} {T : u_T} {N : Nat} {ty : Nat → FieldType} (hc : cOK c C T N ty) (hr : isT (kw K) c r) (hk : Nat.blt k N = true) (hlink : Cond.fieldLink own index ref (T k).2.1 (T k).2.2.1 ∈ TG) (href : (T k).1 = ref) {v : Value} (hv : zf (kG K) r (I r) k = zv (kG K) v) (hdg : decode cc pc = .ok (.getfield index, 3)) (kk : ZZ K u (pc + 3) L (v :: S) I) : ZZ K u pc L (.ref r :: S) I := by
  intro p e s m args below meth c0 Q H locs ls B hq hP hl hS
  have z := kk p e s m args below meth c0 Q H locs ls B hq hP hl hS
  obtain ⟨b1, b2, -, hts, hown, -, hK, -⟩ := B
  rw [ho] at hown
  obtain ⟨⟨h1, h2, h3, h4⟩, h5, h6, h7, -⟩ := hc
  have hk := Nat.blt_eq.mp hk
  have hat := zw_at (G := kG K) (I := I) hr.1.1 hr.1.2
  rw [zc_obj hr h3] at hat
  refine va_get (ref := ref) b1 (b2.trans hb) hts h5 hown hK hP _ hat h1 k hk (hts _ hlink) (by rw [href]; exact fun _ h => h) (v := zv (kG K) v) ?_ hdg z
  rw [h2, zf_get hk, hv]
/-- a number's field -/
theorem zz_get (hb : kcc K = cc) {own : String} (ho : kown K = own) {c r k index : Nat} {C ref : String} {T : u_T} {N : Nat} {ty : Nat → FieldType} (hc : cOK c C T N ty) (hr : isT (kw K) c r) (hk : Nat.blt k N = true) (hs : sT c k = 0) (hlink : Cond.fieldLink own index ref (T k).2.1 (T k).2.2.1 ∈ TG) (href : (T k).1 = ref) (hdg : decode cc pc = .ok (.getfield index, 3)) (kk : ZZ K u (pc + 3) L (.int (I r k) :: S) I) : ZZ K u pc L (.ref r :: S) I :=
  zz_get0 hb ho hc hr hk hlink href (by unfold zf; rw [hr.2, if_pos hs]; rfl) hdg kk
/-- a reference's field -/
theorem zz_getr (hb : kcc K = cc) {own : String} (ho : kown K = own) {c r k index q : Nat} (hq : LR r k = q) {C ref : String} {T : u_T} {N : Nat} {ty : Nat → FieldType} (hc : cOK c C T N ty) (hr : isT (kw K) c r) (hk : Nat.blt k N = true) (hs : Nat.ble 1 (sT c k) = true) (hlink : Cond.fieldLink own index ref (T k).2.1 (T k).2.2.1 ∈ TG) (href : (T k).1 = ref) (hdg : decode cc pc = .ok (.getfield index, 3)) (kk : ZZ K u (pc + 3) L (.ref q :: S) I) : ZZ K u pc L (.ref r :: S) I :=
  zz_get0 hb ho hc hr hk hlink href (by unfold zf; rw [hr.2, if_neg (by have := Nat.le_of_ble_eq_true hs; omega), hq]; rfl) hdg kk
theorem zz_getN0 (hb : kcc K = cc) {own : String} (ho : kown K = own) {c r k index : Nat} {C ref host : String} {T : u_T} {N : Nat} {ty : Nat → FieldType} (hc : cOK c C T N ty) (hr : isT (kw K) c r) (hk : Nat.blt k N = true) (hlink : Cond.fieldLinkNest own index ref (T k).2.1 (T k).2.2.1 host ∈ TG) (href : (T k).1 = ref) {v : Value} (hv : zf (kG K) r (I r) k = zv (kG K) v) (hdg : decode cc pc = .ok (.getfield index, 3)) (kk : ZZ K u (pc + 3) L (v :: S) I) : ZZ K u pc L (.ref r :: S) I := by
  intro p e s m args below meth c0 Q H locs ls B hq hP hl hS
  have z := kk p e s m args below meth c0 Q H locs ls B hq hP hl hS
  obtain ⟨b1, b2, -, hts, hown, -, hK, -⟩ := B
  rw [ho] at hown
  obtain ⟨⟨h1, h2, h3, h4⟩, h5, h6, h7, -⟩ := hc
  have hk := Nat.blt_eq.mp hk
  have hat := zw_at (G := kG K) (I := I) hr.1.1 hr.1.2
  rw [zc_obj hr h3] at hat
  refine va_getN (ref := ref) b1 (b2.trans hb) hts h5 hown hK hP _ hat h1 k hk (hts _ hlink) (by rw [href]; exact fun _ h => h) (v := zv (kG K) v) ?_ hdg z
  rw [h2, zf_get hk, hv]
theorem zz_getN (hb : kcc K = cc) {own : String} (ho : kown K = own) {c r k index : Nat} {C ref host : String} {T : u_T} {N : Nat} {ty : Nat → FieldType} (hc : cOK c C T N ty) (hr : isT (kw K) c r) (hk : Nat.blt k N = true) (hs : sT c k = 0) (hlink : Cond.fieldLinkNest own index ref (T k).2.1 (T k).2.2.1 host ∈ TG) (href : (T k).1 = ref) (hdg : decode cc pc = .ok (.getfield index, 3)) (kk : ZZ K u (pc + 3) L (.int (I r k) :: S) I) : ZZ K u pc L (.ref r :: S) I :=
  zz_getN0 hb ho hc hr hk hlink href (by unfold zf; rw [hr.2, if_pos hs]; rfl) hdg kk
/-- a number's field is written -/
theorem zz_put (hb : kcc K = cc) {own : String} (ho : kown K = own) {c r k index : Nat} {C ref : String} {T : u_T} {N : Nat} {ty : Nat → FieldType} (hc : cOK c C T N ty) (hr : isT (kw K) c r) (hk : Nat.blt k N = true) (hs : sT c k = 0) (hlink : Cond.fieldLink own index ref (T k).2.1 (T k).2.2.1 ∈ TG) (href : (T k).1 = ref) (hfin : (T k).2.2.2 = false) (hty : ty k = .int) {x : Int32} (hdg : decode cc pc = .ok (.putfield index, 3)) (kk : ZZ K u (pc + 3) L S (up I r k x)) : ZZ K u pc L (.int x :: .ref r :: S) I := by
  intro p e s m args below meth c0 Q H locs ls B hq hP hl hS
  have B0 := B
  obtain ⟨b1, b2, -, hts, hown, -, hK, -, -, hG, hw, -⟩ := B
  rw [ho] at hown
  obtain ⟨⟨h1, h2, h3, h4⟩, h5, h6, h7, -⟩ := hc
  have hk := Nat.blt_eq.mp hk
  have hat := zw_at (G := kG K) (I := I) hr.1.1 hr.1.2
  rw [zc_obj hr h3] at hat
  refine va_put (ref := ref) b1 (b2.trans hb) hts h5 ty h6 h7 hown hK hP (zw_D hG hw.1) hS _ hat h1 k hk (hts _ hlink) (by rw [href]; exact fun _ h => h) hfin (ty := .int) (v := .int x) (by rw [← hty]; exact h6 k hk) rfl rfl (by simp [h2]; exact hk) hdg (fun H1 locs1 hP1 hD1 hS1 => ?_)
  rw [zf_set (by rw [hr.2]; exact hs), ← zc_obj (G := kG K) hr h3, zw_set hr.1.1 hr.1.2] at hP1
  exact kk p e s m args below meth c0 Q H1 locs1 ls B0 hq hP1 hl hS1
theorem zz_putN (hb : kcc K = cc) {own : String} (ho : kown K = own) {c r k index : Nat} {C ref host : String} {T : u_T} {N : Nat} {ty : Nat → FieldType} (hc : cOK c C T N ty) (hr : isT (kw K) c r) (hk : Nat.blt k N = true) (hs : sT c k = 0) (hlink : Cond.fieldLinkNest own index ref (T k).2.1 (T k).2.2.1 host ∈ TG) (href : (T k).1 = ref) (hfin : (T k).2.2.2 = false) (hty : ty k = .int) {x : Int32} (hdg : decode cc pc = .ok (.putfield index, 3)) (kk : ZZ K u (pc + 3) L S (up I r k x)) : ZZ K u pc L (.int x :: .ref r :: S) I := by
  intro p e s m args below meth c0 Q H locs ls B hq hP hl hS
  have B0 := B
  obtain ⟨b1, b2, -, hts, hown, -, hK, -, -, hG, hw, -⟩ := B
  rw [ho] at hown
  obtain ⟨⟨h1, h2, h3, h4⟩, h5, h6, h7, -⟩ := hc
  have hk := Nat.blt_eq.mp hk
  have hat := zw_at (G := kG K) (I := I) hr.1.1 hr.1.2
  rw [zc_obj hr h3] at hat
  refine va_putN (ref := ref) b1 (b2.trans hb) hts h5 ty h6 h7 hown hK hP (zw_D hG hw.1) hS _ hat h1 k hk (hts _ hlink) (by rw [href]; exact fun _ h => h) hfin (ty := .int) (v := .int x) (by rw [← hty]; exact h6 k hk) rfl rfl (by simp [h2]; exact hk) hdg (fun H1 locs1 hP1 hD1 hS1 => ?_)
  rw [zf_set (by rw [hr.2]; exact hs), ← zc_obj (G := kG K) hr h3, zw_set hr.1.1 hr.1.2] at hP1
  exact kk p e s m args below meth c0 Q H1 locs1 ls B0 hq hP1 hl hS1
theorem zz_iald (hb : kcc K = cc) {r : Nat} (hr : isT (kw K) 20 r) {i : Int32} {j : Nat} (hj : i.toNatClampNeg = j) (hin : vp_in i (LL r)) (hdg : decode cc pc = .ok (.iaload, 1)) (kk : ZZ K u (pc + 1) L (.int (I r j) :: S) I) : ZZ K u pc L (.int i :: .ref r :: S) I := by
  subst hj
  intro p e s m args below meth c0 Q H locs ls B hq hP hl hS
  have z := kk p e s m args below meth c0 Q H locs ls B hq hP hl hS
  obtain ⟨b1, b2, -, hts, hown, -, hK, -⟩ := B
  have hat := zw_at (G := kG K) (I := I) hr.1.1 hr.1.2
  have hz : zc (kG K) r (I r) = .inl (gA (kG K) 20, LL r, .inl (I r)) := by
    unfold zc; rw [hr.2]; rfl
  rw [hz] at hat
  exact va_iald b1 (b2.trans hb) hK hP _ 0 hat rfl hin hdg z
theorem zz_bald (hb : kcc K = cc) {r : Nat} (hr : isT (kw K) 21 r) {i : Int32} {j : Nat} (hj : i.toNatClampNeg = j) (hin : vp_in i (LL r)) (hdg : decode cc pc = .ok (.baload, 1)) (kk : ZZ K u (pc + 1) L (.int (I r j) :: S) I) : ZZ K u pc L (.int i :: .ref r :: S) I := by
  subst hj
  intro p e s m args below meth c0 Q H locs ls B hq hP hl hS
  have z := kk p e s m args below meth c0 Q H locs ls B hq hP hl hS
  obtain ⟨b1, b2, -, hts, hown, -, hK, -⟩ := B
  have hat := zw_at (G := kG K) (I := I) hr.1.1 hr.1.2
  have hz : zc (kG K) r (I r) = .inl (gA (kG K) 21, LL r, .inl (I r)) := by
    unfold zc; rw [hr.2]; rfl
  rw [hz] at hat
  exact va_bald b1 (b2.trans hb) hK hP _ 1 hat rfl hin hdg z
theorem zz_zald (hb : kcc K = cc) {r : Nat} (hr : isT (kw K) 22 r) {i : Int32} {j : Nat} (hj : i.toNatClampNeg = j) (hin : vp_in i (LL r)) (hdg : decode cc pc = .ok (.baload, 1)) (kk : ZZ K u (pc + 1) L (.int (I r j) :: S) I) : ZZ K u pc L (.int i :: .ref r :: S) I := by
  subst hj
  intro p e s m args below meth c0 Q H locs ls B hq hP hl hS
  have z := kk p e s m args below meth c0 Q H locs ls B hq hP hl hS
  obtain ⟨b1, b2, -, hts, hown, -, hK, -⟩ := B
  have hat := zw_at (G := kG K) (I := I) hr.1.1 hr.1.2
  have hz : zc (kG K) r (I r) = .inl (gA (kG K) 22, LL r, .inl (I r)) := by
    unfold zc; rw [hr.2]; rfl
  rw [hz] at hat
  exact va_zald b1 (b2.trans hb) hK hP _ 2 hat rfl hin hdg z
theorem zz_iast (hb : kcc K = cc) {r : Nat} (hr : isT (kw K) 20 r) {i x : Int32} {j : Nat} (hj : i.toNatClampNeg = j) (hin : vp_in i (LL r)) (hdg : decode cc pc = .ok (.iastore, 1)) (kk : ZZ K u (pc + 1) L S (up I r j x)) : ZZ K u pc L (.int x :: .int i :: .ref r :: S) I := by
  subst hj
  intro p e s m args below meth c0 Q H locs ls B hq hP hl hS
  have B0 := B
  obtain ⟨b1, b2, -, hts, hown, -, hK, -, -, hG, hw, -⟩ := B
  have hat := zw_at (G := kG K) (I := I) hr.1.1 hr.1.2
  have hz : ∀ f : Nat → Int32, zc (kG K) r f = .inl (gA (kG K) 20, LL r, .inl f) := fun f => by
    unfold zc; rw [hr.2]; rfl
  rw [hz] at hat
  refine va_iast b1 (b2.trans hb) hK hP (zw_D hG hw.1) hS _ 0 hat rfl hin hdg (fun H1 locs1 hP1 hD1 hS1 => ?_)
  rw [← hz, zw_set hr.1.1 hr.1.2] at hP1
  exact kk p e s m args below meth c0 Q H1 locs1 ls B0 hq hP1 hl hS1
theorem zz_bast (hb : kcc K = cc) {r : Nat} (hr : isT (kw K) 21 r) {i x : Int32} {j : Nat} (hj : i.toNatClampNeg = j) (hin : vp_in i (LL r)) (hdg : decode cc pc = .ok (.bastore, 1)) (kk : ZZ K u (pc + 1) L S (up I r j x.toInt8.toInt32)) : ZZ K u pc L (.int x :: .int i :: .ref r :: S) I := by
  subst hj
  intro p e s m args below meth c0 Q H locs ls B hq hP hl hS
  have B0 := B
  obtain ⟨b1, b2, -, hts, hown, -, hK, -, -, hG, hw, -⟩ := B
  have hat := zw_at (G := kG K) (I := I) hr.1.1 hr.1.2
  have hz : ∀ f : Nat → Int32, zc (kG K) r f = .inl (gA (kG K) 21, LL r, .inl f) := fun f => by
    unfold zc; rw [hr.2]; rfl
  rw [hz] at hat
  refine va_bast b1 (b2.trans hb) hK hP (zw_D hG hw.1) hS _ 1 hat rfl hin hdg (fun H1 locs1 hP1 hD1 hS1 => ?_)
  rw [vp_nar_byte, ← hz, zw_set hr.1.1 hr.1.2] at hP1
  exact kk p e s m args below meth c0 Q H1 locs1 ls B0 hq hP1 hl hS1
theorem zz_zast (hb : kcc K = cc) {r : Nat} (hr : isT (kw K) 22 r) {i x : Int32} {j : Nat} (hj : i.toNatClampNeg = j) (hin : vp_in i (LL r)) (hdg : decode cc pc = .ok (.bastore, 1)) (kk : ZZ K u (pc + 1) L S (up I r j (vp_nar .boolean x))) : ZZ K u pc L (.int x :: .int i :: .ref r :: S) I := by
  subst hj
  intro p e s m args below meth c0 Q H locs ls B hq hP hl hS
  have B0 := B
  obtain ⟨b1, b2, -, hts, hown, -, hK, -, -, hG, hw, -⟩ := B
  have hat := zw_at (G := kG K) (I := I) hr.1.1 hr.1.2
  have hz : ∀ f : Nat → Int32, zc (kG K) r f = .inl (gA (kG K) 22, LL r, .inl f) := fun f => by
    unfold zc; rw [hr.2]; rfl
  rw [hz] at hat
  refine va_zast b1 (b2.trans hb) hK hP (zw_D hG hw.1) hS _ 2 hat rfl hin hdg (fun H1 locs1 hP1 hD1 hS1 => ?_)
  rw [← hz, zw_set hr.1.1 hr.1.2] at hP1
  exact kk p e s m args below meth c0 Q H1 locs1 ls B0 hq hP1 hl hS1
/-- an array of references -/
theorem zz_aald (hb : kcc K = cc) {c r : Nat} (hr : isT (kw K) c r) (hc : c = 31 ∨ c = 32 ∨ c = 33) {i : Int32} {j q : Nat} (hj : i.toNatClampNeg = j) (hq : LR r j = q) (hin : vp_in i (LL r)) (hdg : decode cc pc = .ok (.aaload, 1)) (kk : ZZ K u (pc + 1) L (.ref q :: S) I) : ZZ K u pc L (.int i :: .ref r :: S) I := by
  subst hj; subst hq
  intro p e s m args below meth c0 Q H locs ls B hq hP hl hS
  have z := kk p e s m args below meth c0 Q H locs ls B hq hP hl hS
  obtain ⟨b1, b2, -, hts, hown, -, hK, -⟩ := B
  have hat := zw_at (G := kG K) (I := I) hr.1.1 hr.1.2
  have hz : zc (kG K) r (I r) = .inl (gA (kG K) c, LL r, .inr (.inr (.inr (.inr (fun k => some (gad (kG K) (LR r k))))))) := by
    unfold zc; rw [hr.2]; rcases hc with rfl | rfl | rfl <;> rfl
  rw [hz] at hat
  rcases hc with rfl | rfl | rfl
  · exact va_aldq b1 (b2.trans hb) hK hP _ 5 hat rfl hin hdg z
  · exact va_aldq b1 (b2.trans hb) hK hP _ 6 hat rfl hin hdg z
  · exact va_aldq b1 (b2.trans hb) hK hP _ 7 hat rfl hin hdg z
theorem zz_aaldB (hb : kcc K = cc) {r : Nat} (hr : isT (kw K) 30 r) {i : Int32} {j q : Nat} (hj : i.toNatClampNeg = j) (hq : LR r j = q) (hin : vp_in i (LL r)) (hdg : decode cc pc = .ok (.aaload, 1)) (kk : ZZ K u (pc + 1) L (.ref q :: S) I) : ZZ K u pc L (.int i :: .ref r :: S) I := by
  subst hj; subst hq
  intro p e s m args below meth c0 Q H locs ls B hq hP hl hS
  have z := kk p e s m args below meth c0 Q H locs ls B hq hP hl hS
  obtain ⟨b1, b2, -, hts, hown, -, hK, -⟩ := B
  have hat := zw_at (G := kG K) (I := I) hr.1.1 hr.1.2
  have hz : zc (kG K) r (I r) = .inl (gA (kG K) 30, LL r, .inr (.inr (.inr (.inr (fun k => some (gad (kG K) (LR r k))))))) := by
    unfold zc; rw [hr.2]; rfl
  rw [hz] at hat
  have hlt : i.toNatClampNeg < LL r := Nat.not_le.mp fun q => hin (Or.inr q)
  exact W.aald (v := va_rf (some (gad (kG K) (LR r i.toNatClampNeg)))) (ty := .array .byte) b1 (b2.trans hb) (hP _ _ hat) ((hK.2 4 _ rfl).1 (LL r) (fun j => va_rf (some (gad (kG K) (LR r j))))) rfl (fun q => by cases q) (by show ¬ (i < 0 ∨ (arrV _ _ _).slots.size ≤ _); rw [arrV_size]; exact hin) (by show (arrV _ _ _).slots[_]? = _; rw [arrV_read _ _ hlt]) rfl rfl hdg z
/-- the length of an array -/
theorem zz_alen (hb : kcc K = cc) {r : Nat} (hr : isT (kw K) 20 r) (hdg : decode cc pc = .ok (.arraylength, 1)) (kk : ZZ K u (pc + 1) L (.int (Int32.ofNat (LL r)) :: S) I) : ZZ K u pc L (.ref r :: S) I := by
  intro p e s m args below meth c0 Q H locs ls B hq hP hl hS
  have z := kk p e s m args below meth c0 Q H locs ls B hq hP hl hS
  obtain ⟨b1, b2, -, hts, hown, -, hK, -⟩ := B
  have hat := zw_at (G := kG K) (I := I) hr.1.1 hr.1.2
  have hz : zc (kG K) r (I r) = .inl (gA (kG K) 20, LL r, .inl (I r)) := by
    unfold zc; rw [hr.2]; rfl
  rw [hz] at hat
  exact va_alen b1 (b2.trans hb) hK hP _ 0 hat rfl rfl hdg z
/-- a static field that nobody writes -/
theorem zz_gets (hb : kcc K = cc) {own : String} (ho : kown K = own) {C n d : String} {r index : Nat} (hO : ∀ s : State, zOld (kG K) s → va_Z C n d (.ref (gad (kG K) r)) (gF (kG K)) s s.heap) (hlink : Cond.fieldLink own index C n d ∈ TG) (hdg : decode cc pc = .ok (.getstatic index, 3)) (kk : ZZ K u (pc + 3) L (.ref r :: S) I) : ZZ K u pc L S I := by
  intro p e s m args below meth c0 Q H locs ls B hq hP hl hS
  have z := kk p e s m args below meth c0 Q H locs ls B hq hP hl hS
  obtain ⟨b1, b2, -, hts, hown, -, hK, hO1, -⟩ := B
  rw [ho] at hown
  exact va_gets b1 (b2.trans hb) (hO s hO1) hS hown (hts _ hlink) (fun _ h => h) hdg z
theorem zz_getsN (hb : kcc K = cc) {own : String} (ho : kown K = own) {C n d host : String} {r index : Nat} (hO : ∀ s : State, zOld (kG K) s → va_Z C n d (.ref (gad (kG K) r)) (gF (kG K)) s s.heap) (hlink : Cond.fieldLinkNest own index C n d host ∈ zNst) (hdg : decode cc pc = .ok (.getstatic index, 3)) (kk : ZZ K u (pc + 3) L (.ref r :: S) I) : ZZ K u pc L S I := by
  intro p e s m args below meth c0 Q H locs ls B hq hP hl hS
  have z := kk p e s m args below meth c0 Q H locs ls B hq hP hl hS
  obtain ⟨b1, b2, -, hts, hown, -, hK, hO1, -⟩ := B
  rw [ho] at hown
  have hN := hO1.2.2.2.2.1 _ hlink
  exact va_getsN b1 (b2.trans hb) (hO s hO1) hS hown (va_Nw.use rfl hN) (fun _ h => h) hdg z
/-- a number of a static array -/
theorem zz_ialdS (hb : kcc K = cc) {r N : Nat} {f : Nat → Int32} (hO : ∀ s : State, zOld (kG K) s → va_T .int (gad (kG K) r) N (fun j => .int (f j)) (gF (kG K)) s s.heap) {i : Int32} {j : Nat} (hj : i.toNatClampNeg = j) (hin : vp_in i N) (hdg : decode cc pc = .ok (.iaload, 1)) (kk : ZZ K u (pc + 1) L (.int (f j) :: S) I) : ZZ K u pc L (.int i :: .ref r :: S) I := by
  subst hj
  intro p e s m args below meth c0 Q H locs ls B hq hP hl hS
  have z := kk p e s m args below meth c0 Q H locs ls B hq hP hl hS
  obtain ⟨b1, b2, -, hts, hown, -, hK, hO1, -⟩ := B
  obtain ⟨cell, h1, h2, h3, h4, h5, h6, h7⟩ := (hO s hO1).kept hS.2.1
  have hlt : i.toNatClampNeg < N := Nat.not_le.mp fun q => hin (Or.inr q)
  exact W.iald (v := .int (f i.toNatClampNeg)) b1 (b2.trans hb) h1 h2 h3 (fun q => hin (q.elim Or.inl (fun q => Or.inr (Nat.le_trans h4 q)))) (h6 _ hlt) rfl rfl hdg z
theorem zz_alenS (hb : kcc K = cc) {r N : Nat} {f : Nat → Int32} (hO : ∀ s : State, zOld (kG K) s → va_T .int (gad (kG K) r) N (fun j => .int (f j)) (gF (kG K)) s s.heap) (hdg : decode cc pc = .ok (.arraylength, 1)) (kk : ZZ K u (pc + 1) L (.int (Int32.ofNat N) :: S) I) : ZZ K u pc L (.ref r :: S) I := by
  intro p e s m args below meth c0 Q H locs ls B hq hP hl hS
  have z := kk p e s m args below meth c0 Q H locs ls B hq hP hl hS
  obtain ⟨b1, b2, -, hts, hown, -, hK, hO1, -⟩ := B
  obtain ⟨cell, h1, h2, h3, h4, h5, h6, h7⟩ := (hO s hO1).kept hS.2.1
  exact W.alen (n := Int32.ofNat N) b1 (b2.trans hb) h1 h2 h5 rfl rfl hdg z
/-- a comparison of references that stand apart -/
theorem zz_acmp_ne (hb : kcc K = cc) {a b : Nat} {off : Int} {tgt : Nat} (hdg : decode cc pc = .ok (.if_acmp .ne off, 3)) (ht : (pc : Int) + off = (tgt : Int)) (h : a = b ∨ ∀ s : State, zOld (kG K) s → gad (kG K) a ≠ gad (kG K) b) (kt : a ≠ b → ZZ K u tgt L S I) (kf : a = b → ZZ K u (pc + 3) L S I) : ZZ K u pc L (.ref b :: .ref a :: S) I := by
  intro p e s m args below meth c0 Q H locs ls B hq hP hl hS
  refine lv_acmp_ne (rx := some (gad (kG K) a)) (ry := some (gad (kG K) b)) B.1 (B.2.1.trans hb) hdg ht (fun z => ?_) (fun z => ?_)
  · exact kt (fun e1 => z (by rw [e1])) p e s m args below meth c0 Q H locs ls B hq hP hl hS
  · rcases h with h | h
    · exact kf h p e s m args below meth c0 Q H locs ls B hq hP hl hS
    · exact absurd (Option.some.inj z) (h s B.2.2.2.2.2.2.2.1)
theorem zz_acmp_eq (hb : kcc K = cc) {a b : Nat} {off : Int} {tgt : Nat} (hdg : decode cc pc = .ok (.if_acmp .eq off, 3)) (ht : (pc : Int) + off = (tgt : Int)) (h : a = b ∨ ∀ s : State, zOld (kG K) s → gad (kG K) a ≠ gad (kG K) b) (kt : a = b → ZZ K u tgt L S I) (kf : a ≠ b → ZZ K u (pc + 3) L S I) : ZZ K u pc L (.ref b :: .ref a :: S) I := by
  intro p e s m args below meth c0 Q H locs ls B hq hP hl hS
  refine lv_acmp_eq (rx := some (gad (kG K) a)) (ry := some (gad (kG K) b)) B.1 (B.2.1.trans hb) hdg ht (fun z => ?_) (fun z => ?_)
  · rcases h with h | h
    · exact kt h p e s m args below meth c0 Q H locs ls B hq hP hl hS
    · exact absurd (Option.some.inj z) (h s B.2.2.2.2.2.2.2.1)
  · exact kf (fun e1 => z (by rw [e1])) p e s m args below meth c0 Q H locs ls B hq hP hl hS
end ZZM
