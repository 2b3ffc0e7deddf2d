/-! CONSTRUCTORS: cells in the making: M holds the numbers, β tells which references are set -/
def yf (G : zG) (r : Nat) (f : Nat → Int32) (b : Nat → Bool) (k : Nat) : Value := if sT (LT r) k = 0 then .int (f k) else if b k = true then .ref (gad G (LR r k)) else .null
def yc (G : zG) (r : Nat) (f : Nat → Int32) (b : Nat → Bool) : va_E :=
  if LT r < 20 then .inr (LT r - 1, (List.range (nF (LT r))).map (yf G r f b))
  else if LT r < 23 then .inl (gA G (LT r), LL r, .inl f)
  else if LT r = 23 then .inl (gA G 23, LL r, .inr (.inl (fun k => (f k).toInt64)))
  else .inl (gA G (LT r), LL r, .inr (.inr (.inr (.inr (fun k => if b k = true then some (gad G (LR r k)) else none)))))
abbrev yB : Type := Nat → Nat → Bool
def yT : Nat → Bool := fun _ => true
def yN : Nat → Bool := fun _ => false
def y0 : Nat → Int32 := fun _ => 0
def bset (b : Nat → Bool) (k : Nat) : Nat → Bool := fun j => if j = k then true else b j
def bups (β : yB) (r : Nat) (b : Nat → Bool) : yB := fun q => if q = r then b else β q
/-- the cells of the roles a .. n-1 -/
def yw (G : zG) (a n : Nat) (M : zM) (β : yB) : va_W := (List.range (n - a)).map (fun i => (gad G (a + i), yc G (a + i) (M (a + i)) (β (a + i))))
section YW
variable {G : zG} {a n r : Nat} {M M' : zM} {β β' : yB}
theorem yw_at (h1 : a ≤ r) (h2 : r < n) : (yw G a n M β)[r - a]? = some (gad G r, yc G r (M r) (β r)) := by
  unfold yw
  rw [List.getElem?_map, List.getElem?_range (by omega)]
  simp only [Option.map_some]
  rw [show a + (r - a) = r by omega]
theorem yw_in {k : Nat} {q : Nat × va_E} (h : (yw G a n M β)[k]? = some q) : k < n - a ∧ q = (gad G (a + k), yc G (a + k) (M (a + k)) (β (a + k))) := by
  have hl : k < (yw G a n M β).length := (List.getElem?_eq_some_iff.mp h).1
  have hl2 : k < n - a := by unfold yw at hl; simpa using hl
  have e := yw_at (G := G) (M := M) (β := β) (a := a) (n := n) (r := a + k) (by omega) (by omega)
  rw [show a + k - a = k by omega, h] at e
  exact ⟨hl2, Option.some.inj e⟩
theorem yw_set {f : Nat → Int32} {b : Nat → Bool} (h1 : a ≤ r) (h2 : r < n) : (yw G a n M β).set (r - a) (gad G r, yc G r f b) = yw G a n (ups M r f) (bups β r b) := by
  apply List.ext_getElem?
  intro i
  by_cases hi : i < n - a
  · by_cases he : i = r - a
    · subst he
      rw [List.getElem?_set_self (by unfold yw; simp; omega), yw_at h1 h2]
      simp [ups, bups]
    · rw [List.getElem?_set_ne (Ne.symm he)]
      unfold yw
      rw [List.getElem?_map, List.getElem?_map, List.getElem?_range hi]
      simp only [Option.map_some]
      unfold ups bups
      rw [if_neg (by omega), if_neg (by omega)]
  · rw [List.getElem?_set_ne (by omega)]
    unfold yw
    simp [List.getElem?_eq_none, hi]
theorem yw_D (hG : zGok G) (hn : n ≤ zNN) : va_D (gF G) (yw G a n M β) := by
  refine ⟨fun i j p q hi hj he => ?_, fun k q hk => ?_⟩
  · obtain ⟨a1, a2⟩ := yw_in hi
    obtain ⟨b1, b2⟩ := yw_in hj
    have := hG.1 (a + i) (a + j) (by omega) (by omega) (by rw [a2, b2] at he; exact he)
    omega
  · obtain ⟨a1, a2⟩ := yw_in hk
    rw [a2]
    exact hG.2 _ (by omega)
theorem yw_app {k : Nat} (h : a ≤ n) : yw G a (n + k) M β = yw G a n M β ++ (List.range k).map (fun i => (gad G (n + i), yc G (n + i) (M (n + i)) (β (n + i)))) := by
  unfold yw
  rw [show n + k - a = (n - a) + k by omega, List.range_add, List.map_append, List.map_map]
  congr 1
  apply List.map_congr_left
  intro i _
  show (gad G (a + (n - a + i)), _) = _
  rw [show a + (n - a + i) = n + i by omega]
theorem yw_snoc (h : a ≤ n) : yw G a (n + 1) M β = yw G a n M β ++ [(gad G n, yc G n (M n) (β n))] := by
  rw [yw_app h]
  rfl
theorem yw_below (h : ∀ r, a ≤ r → r < n → M' r = M r ∧ β' r = β r) : yw G a n M' β' = yw G a n M β := by
  unfold yw
  apply List.map_congr_left
  intro i hi
  have hi := List.mem_range.mp hi
  obtain ⟨e1, e2⟩ := h (a + i) (by omega) (by omega)
  rw [e1, e2]
/-- all references are set -/
theorem yw_zw (h : ∀ r, a ≤ r → r < n → β r = yT) : yw G a n M β = zw G (a, n) M := by
  unfold yw zw
  apply List.map_congr_left
  intro i hi
  have hi := List.mem_range.mp hi
  show _ = (gad G (a + i), zc G (a + i) (M (a + i)))
  rw [h (a + i) (by omega) (by omega)]
  congr 1
theorem arrV_cg {cI : ClassId} {N : Nat} {f g : Nat → Value} (h : ∀ j, j < N → f j = g j) : arrV cI N f = arrV cI N g := by
  unfold arrV
  congr 1
  congr 1
  funext j
  exact h j.val j.isLt
theorem yc_cg {x : Nat} {f f' : Nat → Int32} {b b' : Nat → Bool} {cl : List vw_C} {H : Heap} (h1 : ∀ k, k < nS r → f' k = f k) (h2 : ∀ k, k < nS r → sT (LT r) k ≠ 0 → b' k = b k) (h : va_at (gD G) cl (x, yc G r f b) H) : va_at (gD G) cl (x, yc G r f' b') H := by
  unfold yc at h ⊢
  unfold nS at h1 h2
  by_cases c1 : LT r < 20
  · rw [if_pos c1] at h h1 h2 ⊢
    have e : (List.range (nF (LT r))).map (yf G r f' b') = (List.range (nF (LT r))).map (yf G r f b) := by
      apply List.map_congr_left
      intro k hk
      have hk := List.mem_range.mp hk
      unfold yf
      by_cases z : sT (LT r) k = 0
      · rw [if_pos z, if_pos z, h1 k hk]
      · rw [if_neg z, if_neg z, h2 k hk z]
    rw [e]
    exact h
  · rw [if_neg c1] at h h1 h2 ⊢
    by_cases c2 : LT r < 23
    · rw [if_pos c2] at h ⊢
      have e : vp_cell (gA G (LT r)) (LL r, .inl f') = vp_cell (gA G (LT r)) (LL r, .inl f) := by
        rw [vp_cell_i, vp_cell_i]
        exact arrV_cg (fun j hj => by rw [h1 j hj])
      show H[x]? = some (vp_cell (gA G (LT r)) (LL r, .inl f'))
      rw [e]
      exact h
    · rw [if_neg c2] at h ⊢
      by_cases c3 : LT r = 23
      · rw [if_pos c3] at h ⊢
        have e : vp_cell (gA G 23) (LL r, .inr (.inl (fun k => (f' k).toInt64))) = vp_cell (gA G 23) (LL r, .inr (.inl (fun k => (f k).toInt64))) := by
          rw [vp_cell_l, vp_cell_l]
          exact arrV_cg (fun j hj => by rw [h1 j hj])
        show H[x]? = some (vp_cell (gA G 23) (LL r, .inr (.inl (fun k => (f' k).toInt64))))
        rw [e]
        exact h
      · rw [if_neg c3] at h ⊢
        by_cases c4 : ∀ k, k < LL r → b' k = b k
        · have e : vp_cell (gA G (LT r)) (LL r, .inr (.inr (.inr (.inr (fun k => if b' k = true then some (gad G (LR r k)) else none))))) = vp_cell (gA G (LT r)) (LL r, .inr (.inr (.inr (.inr (fun k => if b k = true then some (gad G (LR r k)) else none))))) := by
            rw [vp_cell_q, vp_cell_q]
            exact arrV_cg (fun j hj => by rw [c4 j hj])
          show H[x]? = some (vp_cell (gA G (LT r)) (LL r, .inr (.inr (.inr (.inr (fun k => if b' k = true then some (gad G (LR r k)) else none))))))
          rw [e]
          exact h
        · exfalso
          refine c4 (fun k hk => h2 k hk ?_)
          have z : ∀ c, c < 34 → ¬ c < 20 → ¬ c < 23 → ¬ c = 23 → 30 ≤ c → sT c k ≠ 0 := fun c d1 d2 d3 d4 d5 => by
            unfold sT
            rcases (show c = 30 ∨ c = 31 ∨ c = 32 ∨ c = 33 by omega) with rfl | rfl | rfl | rfl <;> simp
          by_cases hr : r < 321
          · have y := zLT_code r hr
            exact z (LT r) (by omega) c1 c2 c3 (by omega)
          · exfalso
            have e0 : LT r = 0 := by
              unfold LT
              have hl : zLT.length = 321 := by decide +kernel
              rw [List.getD_eq_getElem?_getD, List.getElem?_eq_none (by rw [hl]; omega)]
              rfl
            rw [e0] at c1
            exact c1 (by decide)
theorem yP_cg {H : Heap} (h : ∀ r, a ≤ r → r < n → (∀ k, k < nS r → M' r k = M r k) ∧ ∀ k, k < nS r → sT (LT r) k ≠ 0 → β' r k = β r k) (hP : va_P (gD G) vwCl (yw G a n M β) H) : va_P (gD G) vwCl (yw G a n M' β') H := by
  intro k q hk
  obtain ⟨h1, h2⟩ := yw_in hk
  rw [h2]
  have e := hP k _ (by rw [show k = a + k - a by omega]; exact yw_at (by omega) (by omega))
  obtain ⟨g1, g2⟩ := h (a + k) (by omega) (by omega)
  exact yc_cg g1 g2 e
end YW
/-- the heap holds the roles a .. n-1, and (z) ends there -/
def yZ (z : Bool) (G : zG) (a n : Nat) (M : zM) (β : yB) (H : Heap) : Prop := va_P (gD G) vwCl (yw G a n M β) H ∧ (z = true → H.size = gad G n)
abbrev yH (G : zG) (a n : Nat) (M : zM) (β : yB) (H : Heap) : Prop := yZ true G a n M β H
/-- the addresses follow each other from role a on -/
def ySeq (G : zG) (a : Nat) : Prop := ∀ r, a ≤ r → r < 320 → gad G (r + 1) = gad G r + 1
def yIs (K : zK) (own : String) (cc : ByteArray) (nL d : Nat) (mc : Nat × Nat) (e0 : Nat) (P : Heap → Prop) : Prop := kcc K = cc ∧ kown K = own ∧ knL K = nL ∧ kR K = zR d mc ∧ kPh K = phY (kG K) e0 mc P
def yWl (G : zG) (P : Heap → Prop) (U : State) : Prop := P U.heap ∧ va_K (gD G) vwCl (zt G) U ∧ zOld G U ∧ gb G ≤ U.heap.size ∧ zGok G ∧ yAO U
/-- a constructor's contract -/
def CY (G : zG) (l : Launch) (M : zMt) (d : Nat) (mc : Nat × Nat) (r : Nat) (P Q : Heap → Prop) : Prop :=
  vx_Met l M.1 (WS M) (zR d mc) (va_Pc [.ref (gad G r)] (fun U => yWl G P U ∧ l.stackTraces = false)) (yQ G Q) yX mc.1 mc.2 (gF G)
theorem cy_of {G : zG} {l : Launch} {y : MethodName} {cc : ByteArray} {nL d : Nat} {mc : Nat × Nat} {r : Nat} {P Q : Heap → Prop} {e0 : Nat} (hy : plainName y.cls = true) (hyn : y.name = "<init>") (hn : Nat.ble 1 nL = true) (hsz : ∀ H, P H → H.size = gad G e0)
    (body : ∀ K : zK, kG K = G → kl K = l → yIs K y.cls cc nL d mc e0 Q → VV K (0, 0) 0 [(0, .ref r)] [] P) : CY G l (y, cc, nL, none) d mc r P Q := by
  refine vx_ofW (cc := cc) (maxL := nL) (ret := none) hy rfl ?_
  intro p e s m args below meth c s₁ B hml hx hv
  obtain ⟨rfl, ⟨hP, hK, hO, hbl, hG, hA⟩, hst⟩ := hv
  have hts0 := atoms_spec (ws := WS (y, cc, nL, none)) B.pre
  have hb := body (G, (0, 0), y.cls, cc, nL, l, zR d mc, phY G e0 mc Q) rfl rfl ⟨rfl, rfl, rfl, rfl, rfl⟩
  have hl := lv_entry [.ref (gad G r)] (n := nL) (Nat.le_of_ble_eq_true hn)
  rw [lg_entry_eq]
  exact hb p e s m _ below meth c _ s.heap [] _ ⟨B.exec, B.bytes, hml, fun x hx => hts0 x (List.mem_cons_of_mem _ hx), findClass_of_methodNamed B.named, B.notSynchronized, hK, hO, hbl, hG, wok00, hst⟩ ⟨⟨(name_of_methodNamed B.named B.method).1.trans hyn, B.returns, hsz _ hP⟩, hA, hx, rfl⟩ hP hl va_S.rf
section VVB
variable {K : zK} {u : Nat × Nat} {pc : Nat} {L : List (Nat × Value)} {S : List Value} {cc : ByteArray} {own : String} {a n r index : Nat} {mc : Nat × Nat} {e0 : Nat} {M : zM} {β : yB} {P : Heap → Prop}
theorem objW : ([.instanceMethod objectInit, .code objectInit ⟨#[0xb1]⟩ 1 none] : List Cond).all (fun w => decide (w ∈ TG)) = true := by decide +kernel
theorem vv_obj (hb : kcc K = cc) (ho : kown K = own) {d : Nat} (hR : kR K = zR d mc) (hd : Nat.ble 2 d = true) (h8 : Nat.ble (S.map fun v => v.category).sum 8 = true) (hlink : Cond.methodLink own index objectInit ∈ TG) (hdg : decode cc pc = .ok (.invokespecial index, 3)) (kk : VV K u (pc + 3) L S P) : VV K u pc L (.ref r :: S) P := by
  intro p e s m args below meth c0 Q H locs ls B hq hI hl hS
  have z := kk p e s m args below meth c0 Q H locs ls B hq hI hl hS
  obtain ⟨b1, b2, b3, hts, hown, -⟩ := B
  rw [ho] at hown
  have w1 : Cond.instanceMethod objectInit ∈ TG := of_decide_eq_true (List.all_eq_true.mp objW _ (List.mem_cons_self))
  have w2 : Cond.code objectInit ⟨#[0xb1]⟩ 1 none ∈ TG := of_decide_eq_true (List.all_eq_true.mp objW _ (List.mem_cons_of_mem _ List.mem_cons_self))
  have hd := Nat.le_of_ble_eq_true hd
  have h9 := zroomS (G := kG K) (m := m) (pc := pc) (ls := ls) (st := []) h8
  refine W.objInit b1 (b2.trans hb) hown (hts _ hlink) (hts _ w1) (hts _ w2) rfl (hl.1.trans b3.symm) rfl hdg (by rw [hR]; show 1 ≤ d; omega) ?_ z
  rw [hR]
  show 2 * (F0 m pc ls _).monitorRoom + _ + 12 ≤ 40 * d
  have h10 : 2 * (F0 m pc ls (List.map (zv (kG K)) (Value.ref r :: S))).monitorRoom + ((S.map (zv (kG K))).map fun v => v.category).sum ≤ 8 := h9
  omega
theorem vv_new {C : String} {T : u_T} {N c : Nat} {ty : Nat → FieldType} (hb : kcc K = cc) (ho : kown K = own) (hc : cOK c C T N ty) (hn : LT n = c) (han : a ≤ n) (hq9 : gad (kG K) (n + 1) = gad (kG K) n + 1) (hcl : Cond.classLink own index C ∈ TG) (hinst : Cond.instantiable C N ∈ TG) (hini : Cond.initialized C ∈ TG) (hdf : ∀ j, j < N → defaultValue (ty j) = if sT c j = 0 then .int 0 else .null) (hR : u.1 + 1 ≤ (kR K).cells ∧ u.2 + N ≤ (kR K).slots) (hdg : decode cc pc = .ok (.new index, 3)) (kk : VV K (u.1 + 1, u.2 + N) (pc + 3) L (.ref n :: S) (yH (kG K) a (n + 1) (ups M n y0) (bups β n yN))) : VV K u pc L S (yH (kG K) a n M β) := by
  intro p e s m args below meth c0 Q H locs ls B hq hI hl hS
  have B0 := B
  obtain ⟨b1, b2, b3, hts, hown, b6, hK, hO1, hb0, hG, hw, hst⟩ := B
  rw [ho] at hown
  obtain ⟨⟨h1, h2, h3, h4⟩, h5, h6, h7, -⟩ := hc
  obtain ⟨hP, hz⟩ := hI
  have hz := hz rfl
  have hKn := hK.1 (c - 1) _ h1
  refine W.newcK b1 (b2.trans hb) hown (hts _ hcl) (hts _ hinst) (hts _ hini) rfl hdg hR.1 hR.2 hKn.2.1 hz fun H1 kC hkC e1 z1 o1 => ?_
  have hk : ∀ (k : Nat) (x : Nat × va_E), (yw (kG K) a n M β)[k]? = some x → H1[x.1]? = H[x.1]? := fun k x hx => o1 x.1 (by rw [← hz]; exact (hP k x hx).lt)
  refine kk p e s m args below meth c0 Q H1 locs ls B0 hq ⟨?_, fun _ => by rw [z1, hq9]⟩ hl ⟨Nat.le_trans hS.1 (by rw [z1, ← hz]; omega), fun x g1 g2 => (o1 x (by rw [← hz]; exact Nat.lt_of_lt_of_le g1 hS.1)).trans (hS.2.1 x g1 g2), hS.2.2⟩
  rw [yw_snoc han, yw_below (M := M) (β := β) (M' := ups M n y0) (β' := bups β n yN) (fun q a1 a2 => ⟨ups_ne _ _ (by omega), if_neg (by omega)⟩)]
  refine va_P.app (hP.kept hk) (fun k x hx => ?_)
  have hz9 : k < 1 := (List.getElem?_eq_some_iff.mp hx).1
  rw [show k = 0 by omega] at hx
  cases hx
  have ey : yc (kG K) n (ups M n y0 n) (bups β n yN n) = .inr (c - 1, (List.range N).map (yf (kG K) n y0 yN)) := by
    rw [ups_same, show bups β n yN n = yN from if_pos rfl]
    unfold yc
    rw [hn, if_pos (Nat.blt_eq.mp h3), h2]
  rw [ey]
  refine ⟨_, h1, (u_born ty hts h5 hKn hkC e1 h6).to (fun j hj => ?_)⟩
  show defaultValue (ty j) = ((List.range N).map (yf (kG K) n y0 yN)).getD j .null
  rw [List.getD_eq_getElem?_getD, List.getElem?_map, List.getElem?_range hj, hdf j hj]
  unfold yf
  rw [hn]
  by_cases z : sT c j = 0
  · simp only [if_pos z, Option.map_some, Option.getD_some]; rfl
  · simp only [if_neg z, Option.map_some, Option.getD_some]; rfl
theorem vv_newa {atype : ArrayType} {ty : FieldType} {t c N : Nat} (hb : kcc K = cc) (hty : newarray.typeOf atype = ty) (harr : Cond.arrayClass ty ∈ TG) (ht : ∀ G, (zt G)[t]? = some (gA G c, ty)) (hra : ∀ (s : State) (cA : ClassId), va_RA s cA ty → s.vm.findClass ("[" ++ ty.toString) = some cA) (hn : LT n = c) (hc : 20 ≤ c ∧ c < 23) (hL : LL n = N) (han : a ≤ n) (hq9 : gad (kG K) (n + 1) = gad (kG K) n + 1) (hdv : defaultValue ty = .int 0) (hM : M n = y0) {x : Int32} (hx0 : ¬ x < 0) (hxN : x.toNatClampNeg = N) (hby : N * componentBytes ty ≤ 536870912) (hR : u.1 + 1 ≤ (kR K).cells ∧ u.2 + N ≤ (kR K).slots) (hdg : decode cc pc = .ok (.newarray atype, 2)) (kk : VV K (u.1 + 1, u.2 + N) (pc + 2) L (.ref n :: S) (yH (kG K) a (n + 1) M β)) : VV K u pc L (.int x :: S) (yH (kG K) a n M β) := by
  subst hty
  intro p e s m args below meth c0 Q H locs ls B hq hI hl hS
  have B0 := B
  obtain ⟨b1, b2, b3, hts, hown, b6, hK, hO1, hb0, hG, hw, hst⟩ := B
  obtain ⟨hP, hz⟩ := hI
  have hz := hz rfl
  refine va_newaK (N := N) b1 (b2.trans hb) (hts _ harr) rfl hdg rfl hx0 hxN hby hR.1 hR.2 hz fun H1 cA e1 z1 o1 hAr hNm => ?_
  have hcA : cA = gA (kG K) c := Option.some.inj (hNm.symm.trans (hra s _ (hK.2 t _ (ht (kG K))).2))
  have hk : ∀ (k : Nat) (x : Nat × va_E), (yw (kG K) a n M β)[k]? = some x → H1[x.1]? = H[x.1]? := fun k x hx => o1 x.1 (by rw [← hz]; exact (hP k x hx).lt)
  refine kk p e s m args below meth c0 Q H1 locs ls B0 hq ⟨?_, fun _ => by rw [z1, hq9]⟩ hl ⟨Nat.le_trans hS.1 (by rw [z1, ← hz]; omega), fun x g1 g2 => (o1 x (by rw [← hz]; exact Nat.lt_of_lt_of_le g1 hS.1)).trans (hS.2.1 x g1 g2), hS.2.2⟩
  rw [yw_snoc han]
  refine va_P.app (hP.kept hk) (fun k x hx => ?_)
  have hz9 : k < 1 := (List.getElem?_eq_some_iff.mp hx).1
  rw [show k = 0 by omega] at hx
  cases hx
  have ey : yc (kG K) n (M n) (β n) = .inl (gA (kG K) c, N, .inl y0) := by
    unfold yc
    rw [hn, if_neg (by omega), if_pos (by omega), hL, hM]
  rw [ey]
  show H1[gad (kG K) n]? = some (vp_cell (gA (kG K) c) (N, .inl y0))
  rw [e1, hcA, hdv]
  rfl
theorem vv_anew {C : String} {t c N i9 : Nat} (hb : kcc K = cc) (ho : kown K = own) (hE : kPh K = phY (kG K) e0 mc P) (hcl : Cond.classLink own index C ∈ TG) (hov : yAl[i9]? = some (.object C)) (ht : ∀ G, (zt G)[t]? = some (gA G c, .object C)) (hn : LT n = c) (hc : 30 ≤ c) (hL : LL n = N) (han : a ≤ n) (hq9 : gad (kG K) (n + 1) = gad (kG K) n + 1) {x : Int32} (hx0 : ¬ x < 0) (hxN : x.toNatClampNeg = N) (hby : N * 4 ≤ 536870912) (hR : u.1 + 1 ≤ (kR K).cells ∧ u.2 + N ≤ (kR K).slots) (hdg : decode cc pc = .ok (.anewarray index, 3)) (kk : VV K (u.1 + 1, u.2 + N) (pc + 3) L (.ref n :: S) (yH (kG K) a (n + 1) M (bups β n yN))) : VV K u pc L (.int x :: S) (yH (kG K) a n M β) := by
  subst hxN
  intro p e s m args below meth c0 Q H locs ls B hq hI hl hS
  have B0 := B
  obtain ⟨b1, b2, b3, hts, hown, b6, hK, hO1, hb0, hG, hw, hst⟩ := B
  rw [ho] at hown
  obtain ⟨hP, hz⟩ := hI
  have hz := hz rfl
  have hq0 := hq
  rw [hE] at hq0
  refine W.anew b1 (b2.trans hb) hown (hts _ hcl) (hq0.2.1.use i9 hov) rfl hdg rfl hx0 hby hR.1 hR.2 fun cA kA comp f1 f2 f3 f4 => ?_
  generalize hH1 : H.push ({ cls := cA, slots := Array.replicate x.toNatClampNeg .null, vm := .none } : Cell) = H1
  have z1 : H1.size = H.size + 1 := by rw [← hH1, Array.size_push]
  have e1 : H1[H.size]? = some (arrV cA x.toNatClampNeg (fun _ => .null)) := by rw [← hH1, Array.getElem?_push_size, ← arrV_new]
  have o1 : ∀ q : Nat, q < H.size → H1[q]? = H[q]? := fun q hq => by rw [← hH1, Array.getElem?_push, if_neg (Nat.ne_of_lt hq)]
  obtain ⟨kA2, comp2, g1, g2, g3, g4⟩ := (hK.2 t _ (ht (kG K))).2
  have hcA : cA = gA (kG K) c := Option.some.inj (f1.symm.trans g4)
  have hk : ∀ (k : Nat) (x : Nat × va_E), (yw (kG K) a n M β)[k]? = some x → H1[x.1]? = H[x.1]? := fun k x hx => o1 x.1 ((hP k x hx).lt)
  have z := kk p e s m args below meth c0 Q H1 locs ls B0 hq ⟨?_, fun _ => by rw [z1, hq9, hz]⟩ hl ⟨Nat.le_trans hS.1 (by omega), fun x g1 g2 => (o1 x (Nat.lt_of_lt_of_le g1 hS.1)).trans (hS.2.1 x g1 g2), hS.2.2⟩
  · rw [hz]
    exact z
  rw [yw_snoc han, yw_below (M := M) (β := β) (M' := M) (β' := bups β n yN) (fun q a1 a2 => ⟨rfl, if_neg (by omega)⟩)]
  refine va_P.app (hP.kept hk) (fun k x9 hx => ?_)
  have hz9 : k < 1 := (List.getElem?_eq_some_iff.mp hx).1
  rw [show k = 0 by omega] at hx
  cases hx
  have ey : yc (kG K) n (M n) (bups β n yN n) = .inl (gA (kG K) c, x.toNatClampNeg, .inr (.inr (.inr (.inr (fun _ => none))))) := by
    rw [show bups β n yN n = yN from if_pos rfl]
    unfold yc
    rw [hn, if_neg (by omega), if_neg (by omega), if_neg (by omega), hL]
    rfl
  rw [ey]
  show H1[gad (kG K) n]? = some (vp_cell (gA (kG K) c) _)
  rw [← hz, e1, hcA]
  rfl
end VVB
