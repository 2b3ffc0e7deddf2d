/-! CONSTRUCTORS: fields, arrays, calls, ends -/
theorem w_size {p : Program} {l : Launch} {e : Env} {R : Room} {s : State} {m : MethodId} {args : Array Value} {below : List Frame} {meth : Method} {c : Code} {H : Heap} {locs : List Loc} {cells slots : Nat} {Q : State → Prop} {g : JFrame} (k : H.size ≤ s.heap.size + cells → W p l e R s m args below meth c H locs cells slots Q g) : W p l e R s m args below meth c H locs cells slots Q g :=
  fun T hT X => k (by rw [← hT]; exact X.heapSize) T hT X
theorem seq_add {G : zG} {a n : Nat} (h : ySeq G a) (ha : a ≤ n) : ∀ k, n + k ≤ 320 → gad G (n + k) = gad G n + k
  | 0, _ => rfl
  | k + 1, hk => by
    have z := h (n + k) (by omega) (by omega)
    have y := seq_add h ha k (by omega)
    show gad G (n + k + 1) = _
    omega
section VVC
variable {K : zK} {u : Nat × Nat} {pc : Nat} {L : List (Nat × Value)} {S : List Value} {cc : ByteArray} {own : String} {a n r e0 index : Nat} {mc : Nat × Nat} {M : zM} {β : yB} {P : Heap → Prop} {z : Bool}
theorem y_size {s : State} {H : Heap} (hq : ySeq (kG K) a) (ha : a ≤ e0) (h3 : s.heap.size = gad (kG K) e0) (hcnt : n = e0 + u.1) (hn : n ≤ 320) (hge : H.size ≤ s.heap.size + u.1) (hP : va_P (gD (kG K)) vwCl (yw (kG K) a n M β) H) (han : a < n) : H.size = gad (kG K) n := by
  have x := seq_add hq ha u.1 (by omega)
  rw [← hcnt] at x
  have y := (hP _ _ (yw_at (r := n - 1) (by omega) (by omega))).lt
  have w := hq (n - 1) (by omega) (by omega)
  rw [show n - 1 + 1 = n by omega] at w
  have y : gad (kG K) (n - 1) < H.size := y
  omega
theorem vv_put {C ref : String} {T : u_T} {N c k : Nat} {ty : Nat → FieldType} (hb : kcc K = cc) (ho : kown K = own) (hE : kPh K = phY (kG K) e0 mc P) (hsq : ySeq (kG K) a) (hcnt : z = true → a ≤ e0 ∧ n = e0 + u.1) (hn : n ≤ 320) (hc : cOK c C T N ty) (hr : LT r = c) (h1 : a ≤ r) (h2 : r < n) (hk : Nat.blt k N = true) (hs : sT c k = 0) (hlink : Cond.fieldLink own index ref (T k).2.1 (T k).2.2.1 ∈ TG) (href : (T k).1 = ref) (hfin : (T k).2.2.2 = false) (hty : ty k = .int) {x : Int32} (hdg : decode cc pc = .ok (.putfield index, 3)) (kk : VV K u (pc + 3) L S (yZ z (kG K) a n (ups M r (upd (M r) k x)) β)) : VV K u pc L (.int x :: .ref r :: S) (yZ z (kG K) a n M β) := by
  intro p e s m args below meth c0 Q H locs ls B hq hI hl hS
  have B0 := B
  obtain ⟨b1, b2, b3, hts, hown, b6, hK, hO1, hb0, hG, hw, hst⟩ := B
  rw [ho] at hown
  obtain ⟨⟨g1, g2, g3, g4⟩, g5, g6, g7, -⟩ := hc
  have hk := Nat.blt_eq.mp hk
  have hat := yw_at (G := kG K) (M := M) (β := β) h1 h2
  have ey : ∀ f b, yc (kG K) r f b = .inr (c - 1, (List.range N).map (yf (kG K) r f b)) := fun f b => by
    unfold yc
    rw [hr, if_pos (Nat.blt_eq.mp g3), g2]
  rw [ey] at hat
  have hq0 := hq
  rw [hE] at hq0
  refine va_put (ref := ref) b1 (b2.trans hb) hts g5 ty g6 g7 hown hK hI.1 (yw_D hG (by show n ≤ 321; omega)) hS _ hat g1 k hk (hts _ hlink) (by rw [href]; exact fun _ h => h) hfin (ty := .int) (v := .int x) (by rw [← hty]; exact g6 k hk) rfl rfl (by simpa using hk) hdg (fun H1 locs1 hP1 hD1 hS1 => w_size (fun hge => ?_))
  have es : ((List.range N).map (yf (kG K) r (M r) (β r))).set k (.int x) = (List.range N).map (yf (kG K) r (upd (M r) k x) (β r)) := by
    apply List.ext_getElem?
    intro i
    by_cases hi : i < N
    · by_cases he : i = k
      · subst he
        rw [List.getElem?_set_self (by simpa using hi), List.getElem?_map, List.getElem?_range hi]
        simp [yf, hr, hs, upd]
      · rw [List.getElem?_set_ne (Ne.symm he), List.getElem?_map, List.getElem?_map, List.getElem?_range hi]
        simp [yf, upd, he]
    · rw [List.getElem?_eq_none (by simp; omega), List.getElem?_eq_none (by simp; omega)]
  rw [es, ← ey, yw_set h1 h2] at hP1
  have eb : bups β r (β r) = β := by
    funext q
    unfold bups
    by_cases e : q = r
    · rw [if_pos e, e]
    · rw [if_neg e]
  rw [eb] at hP1
  exact kk p e s m args below meth c0 Q H1 locs1 ls B0 hq ⟨hP1, fun hz => y_size hsq (hcnt hz).1 hq0.1.2.2 (hcnt hz).2 hn hge hP1 (by omega)⟩ hl hS1
theorem vv_putr {C ref : String} {T : u_T} {N c k v : Nat} {ty : Nat → FieldType} (hb : kcc K = cc) (ho : kown K = own) (hE : kPh K = phY (kG K) e0 mc P) (hsq : ySeq (kG K) a) (hcnt : z = true → a ≤ e0 ∧ n = e0 + u.1) (hn : n ≤ 320) (hc : cOK c C T N ty) (hr : LT r = c) (h1 : a ≤ r) (h2 : r < n) (hk : Nat.blt k N = true) (hs : ¬ sT c k = 0) (hv : LR r k = v) (hlink : Cond.fieldLink own index ref (T k).2.1 (T k).2.2.1 ∈ TG) (href : (T k).1 = ref) (hdecl : (T k).1 = own) (hfin : (T k).2.2.2 = true) (hnar : ∀ q, narrow (ty k) (.ref q) = .ref q) (hfit : ∀ q, fits (ty k) (.ref q) = true) (hdg : decode cc pc = .ok (.putfield index, 3)) (kk : VV K u (pc + 3) L S (yZ z (kG K) a n M (bups β r (bset (β r) k)))) : VV K u pc L (.ref v :: .ref r :: S) (yZ z (kG K) a n M β) := by
  intro p e s m args below meth c0 Q H locs ls B hq hI hl hS
  have B0 := B
  obtain ⟨b1, b2, b3, hts, hown, b6, hK, hO1, hb0, hG, hw, hst⟩ := B
  rw [ho] at hown
  obtain ⟨⟨g1, g2, g3, g4⟩, g5, g6, g7, -⟩ := hc
  have hk := Nat.blt_eq.mp hk
  have hat := yw_at (G := kG K) (M := M) (β := β) h1 h2
  have ey : ∀ f b, yc (kG K) r f b = .inr (c - 1, (List.range N).map (yf (kG K) r f b)) := fun f b => by
    unfold yc
    rw [hr, if_pos (Nat.blt_eq.mp g3), g2]
  rw [ey] at hat
  have hq0 := hq
  rw [hE] at hq0
  refine va_putF (ref := ref) b1 (b2.trans hb) hts g5 ty g6 g7 hown hK hI.1 (yw_D hG (by show n ≤ 321; omega)) hS _ hat g1 k hk (hts _ hlink) (by rw [href]; exact fun _ h => h) hfin hq0.1.1 hdecl (ty := ty k) (v := .ref (gad (kG K) v)) (g6 k hk) (hnar _) (hfit _) (by simpa using hk) hdg (fun H1 locs1 hP1 hD1 hS1 => w_size (fun hge => ?_))
  have es : ((List.range N).map (yf (kG K) r (M r) (β r))).set k (.ref (gad (kG K) v)) = (List.range N).map (yf (kG K) r (M r) (bset (β r) k)) := by
    apply List.ext_getElem?
    intro i
    by_cases hi : i < N
    · by_cases he : i = k
      · subst he
        rw [List.getElem?_set_self (by simpa using hi), List.getElem?_map, List.getElem?_range hi]
        simp [yf, hr, hs, bset, hv]
      · rw [List.getElem?_set_ne (Ne.symm he), List.getElem?_map, List.getElem?_map, List.getElem?_range hi]
        simp [yf, bset, he]
    · rw [List.getElem?_eq_none (by simp; omega), List.getElem?_eq_none (by simp; omega)]
  rw [es, ← ey, yw_set h1 h2] at hP1
  have em : ups M r (M r) = M := ups_id M r
  rw [em] at hP1
  exact kk p e s m args below meth c0 Q H1 locs1 ls B0 hq ⟨hP1, fun hz => y_size hsq (hcnt hz).1 hq0.1.2.2 (hcnt hz).2 hn hge hP1 (by omega)⟩ hl hS1
theorem vv_getr {C ref : String} {T : u_T} {N c k v : Nat} {ty : Nat → FieldType} (hb : kcc K = cc) (ho : kown K = own) (hc : cOK c C T N ty) (hr : LT r = c) (h1 : a ≤ r) (h2 : r < n) (hk : Nat.blt k N = true) (hs : ¬ sT c k = 0) (hv : LR r k = v) (hβ : β r k = true) (hlink : Cond.fieldLink own index ref (T k).2.1 (T k).2.2.1 ∈ TG) (href : (T k).1 = ref) (hdg : decode cc pc = .ok (.getfield index, 3)) (kk : VV K u (pc + 3) L (.ref v :: S) (yZ z (kG K) a n M β)) : VV K u pc L (.ref r :: S) (yZ z (kG K) a n M β) := by
  intro p e s m args below meth c0 Q H locs ls B hq hI hl hS
  have z := kk p e s m args below meth c0 Q H locs ls B hq hI hl hS
  obtain ⟨b1, b2, -, hts, hown, -, hK, -⟩ := B
  rw [ho] at hown
  obtain ⟨⟨g1, g2, g3, g4⟩, g5, g6, g7, -⟩ := hc
  have hk := Nat.blt_eq.mp hk
  have hat := yw_at (G := kG K) (M := M) (β := β) h1 h2
  have ey : yc (kG K) r (M r) (β r) = .inr (c - 1, (List.range N).map (yf (kG K) r (M r) (β r))) := by
    unfold yc
    rw [hr, if_pos (Nat.blt_eq.mp g3), g2]
  rw [ey] at hat
  refine va_get (ref := ref) b1 (b2.trans hb) hts g5 hown hK hI.1 _ hat g1 k hk (hts _ hlink) (by rw [href]; exact fun _ h => h) (v := .ref (gad (kG K) v)) ?_ hdg z
  rw [List.getElem?_map, List.getElem?_range hk]
  simp [yf, hr, hs, hβ, hv]
theorem vv_aast {C : String} {T : u_T} {N c cA t v k : Nat} (hb : kcc K = cc) (hE : kPh K = phY (kG K) e0 mc P) (hsq : ySeq (kG K) a) (hcnt : z = true → a ≤ e0 ∧ n = e0 + u.1) (hn : n ≤ 320) (ht : ∀ G, (zt G)[t]? = some (gA G cA, .object C)) (hcl : vwCl[c - 1]? = some (C, T, N)) (hc20 : Nat.blt c 20 = true) (hr : LT r = cA) (hc30 : 30 ≤ cA) (h1 : a ≤ r) (h2 : r < n) (hrv : LT v = c) (v1 : a ≤ v) (v2 : v < n) (hv : LR r k = v) {i : Int32} (hi : i = nI k) (hk : k < LL r) (hk31 : LL r < 2 ^ 31) (hdg : decode cc pc = .ok (.aastore, 1)) (kk : VV K u (pc + 1) L S (yZ z (kG K) a n M (bups β r (bset (β r) k)))) : VV K u pc L (.ref v :: .int i :: .ref r :: S) (yZ z (kG K) a n M β) := by
  subst hi
  intro p e s m args below meth c0 Q H locs ls B hq hI hl hS
  have B0 := B
  obtain ⟨b1, b2, b3, hts, hown, b6, hK, hO1, hb0, hG, hw, hst⟩ := B
  have hat := yw_at (G := kG K) (M := M) (β := β) h1 h2
  have hav := yw_at (G := kG K) (M := M) (β := β) v1 v2
  have ey : ∀ f b, yc (kG K) r f b = .inl (gA (kG K) cA, LL r, .inr (.inr (.inr (.inr (fun k => if b k = true then some (gad (kG K) (LR r k)) else none))))) := fun f b => by
    unfold yc
    rw [hr, if_neg (by omega), if_neg (by omega), if_neg (by omega)]
  have ev : ∀ f b, yc (kG K) v f b = .inr (c - 1, (List.range (nF c)).map (yf (kG K) v f b)) := fun f b => by
    unfold yc
    rw [hrv, if_pos (Nat.blt_eq.mp hc20)]
  rw [ey] at hat
  rw [ev] at hav
  have hq0 := hq
  rw [hE] at hq0
  refine va_astq b1 (b2.trans hb) hK hI.1 (yw_D hG (by show n ≤ 321; omega)) hS _ t _ (c - 1) hat (ht (kG K)) hav hcl (nI_in hk hk31) hdg (fun H1 locs1 hP1 hD1 hS1 => w_size (fun hge => ?_))
  have ef : va_up (fun k => if β r k = true then some (gad (kG K) (LR r k)) else none) (nI k).toNatClampNeg (some (gad (kG K) v)) = fun q => if bset (β r) k q = true then some (gad (kG K) (LR r q)) else none := by
    rw [nI_clamp (by omega)]
    funext q
    unfold va_up bset
    by_cases e : q = k
    · subst e
      simp [hv]
    · simp [e]
  rw [ef, ← ey (M r), yw_set h1 h2] at hP1
  have em : ups M r (M r) = M := ups_id M r
  rw [em] at hP1
  exact kk p e s m args below meth c0 Q H1 locs1 ls B0 hq ⟨hP1, fun hz => y_size hsq (hcnt hz).1 hq0.1.2.2 (hcnt hz).2 hn hge hP1 (by omega)⟩ hl hS1
theorem vv_ret {I : Heap → Prop} (hb : kcc K = cc) (hE : kPh K = phY (kG K) e0 mc P) (hu : u.1 ≤ mc.1 ∧ u.2 ≤ mc.2) (hdg : decode cc pc = .ok (.return_, 1)) (h : ∀ H, I H → P H) : VV K u pc L [] I := by
  intro p e s m args below meth c Q H locs ls B hq hI hl hS
  rw [hE] at hq
  obtain ⟨⟨-, hr, -⟩, -, ht, rfl⟩ := hq
  refine W.widen hu.1 hu.2 (vx_ret ?_)
  exact W.vret B.1 (B.2.1.trans hb) hr (fun t ht hW => ⟨rfl, by rw [ht]; exact h H hI, hS.F ht⟩) (fun q hq => hS.2.2 q hq) hdg B.2.2.2.2.2.1
theorem yWl_blind {G : zG} {I : Heap → Prop} {av : List Value} {l : Launch} : FrameBlind (va_Pc av (fun U => yWl G I U ∧ l.stackTraces = false)) := fun a U g mk q => by
  obtain ⟨q0, ⟨q1, q2, q3, q4, q5, q6⟩, q7⟩ := q
  exact ⟨q0, ⟨q1, va_K.moved (u := U) (U := U.calling g mk a) (Vm.Alike.refl U.vm) q2, zOld_same (s := U) (t := U.calling g mk a) rfl rfl q3, q4, q5, q6⟩, q7⟩
theorem yWl_end {p : Program} {s : State} {m : MethodId} {args : Array Value} {meth : Method} {c : Code} {H : Heap} {locs : List Loc} {I : Heap → Prop} {t : State} (B : zB K p s m args meth c) (hA : yAO s) (hI : I H) (hS : va_S (gF (kG K)) s.heap H locs) (ht : t.heap = H) (hW : s.WarmedH t.vm) : yWl (kG K) I t := by
  obtain ⟨-, -, -, -, -, -, hK, hO, hb, hG, hw, -⟩ := B
  exact ⟨by rw [ht]; exact hI, va_K.moved hW.alike hK, zOld_warm hW (by rw [ht]; exact hS.2.1) hO, Nat.le_trans hb (by rw [ht]; exact hS.1), hG, hA.warm hW⟩
theorem vv_run {mc' : Nat × Nat} {J : Heap → Prop} {p : Program} {e : Env} {s : State} {m : MethodId} {args : Array Value} {below : List Frame} {meth : Method} {c : Code} {Q : State → Prop} {H : Heap} {locs : List Loc} {ls : Array Slot} {a9 : Array Value} {st0 : List Value} (B : zB K p s m args meth c) (hq : kPh K below args s meth c Q) (hl : lv_has ls (knL K) (L.map (zl (kG K)))) (hS : va_S (gF (kG K)) s.heap H locs)
    (hr : vx_Run p (kl K) e (kR K) s m args below meth c H locs u.1 u.2 mc'.1 mc'.2 (F0 m pc ls st0) (S.map (zv (kG K))) (yQ (kG K) J a9) yX (gF (kG K)))
    (kk : VV K (u.1 + mc'.1, u.2 + mc'.2) (pc + 3) L S J) : W p (kl K) e (kR K) s m args below meth c H locs u.1 u.2 Q (F0 m pc ls st0) := by
  intro T hT Xs
  rcases hr T hT Xs with ⟨v, st₀, t, T', Ll, h0, X', hL, e1, e2, ⟨hv, hp, hF⟩, st⟩ | ⟨q, st₀, t, T', Ll, E, ce, h0, X', hL, e1, e2, hx, hce, hcv, hcl, st⟩
  · obtain ⟨-, -, hS'⟩ := vx_keep h0 e1 hS (fun _ _ h => h) (fun _ h => h) hL hF
    have hv2 : v = none := by injection hv
    subst hv2
    obtain ⟨t2, a1, b1⟩ := kk p e s m args below meth c Q T'.heap (locs ++ Ll) ls B hq (by rw [e1]; exact hp) hl hS' T' rfl X'
    exact ⟨t2, st t2 a1, b1⟩
  · exact hx.elim
/-- a constructor is called -/
theorem vv_init {y : MethodName} {bc : ByteArray} {nL d d' : Nat} {mc' : Nat × Nat} {I J : Heap → Prop} (hb : kcc K = cc) (ho : kown K = own) (hE : kPh K = phY (kG K) e0 mc P) (hR : kR K = zR d' mc) (hMk : zMk y bc nL none 0) (hy : y.name = "<init>") (hlink : Cond.methodLink own index y ∈ TG ∨ ∃ host, Cond.methodLinkNest own index y host ∈ zNst) (hins : Cond.instanceMethod y ∈ TG) (hd : Nat.ble (d + 1) d' = true) (hu : u.1 + mc'.1 ≤ mc.1 ∧ u.2 + mc'.2 ≤ mc.2) (h8 : Nat.ble (S.map fun v => v.category).sum 8 = true) (hdg : decode cc pc = .ok (.invokespecial index, 3))
    (hM : CY (kG K) (kl K) (y, bc, nL, none) d mc' r I J) (kk : VV K (u.1 + mc'.1, u.2 + mc'.2) (pc + 3) L S J) : VV K u pc L (.ref r :: S) I := by
  intro p e s m args below meth c0 Q H locs ls B hq hI hl hS
  have B0 := B
  obtain ⟨b1, b2, b3, hts, hown, b6, hK, hO1, hb0, hG, hw, hst⟩ := B
  rw [ho] at hown
  have hq0 := hq
  rw [hE] at hq0
  have hpre : PreS s H (va_Pc [.ref (gad (kG K) r)] (fun U => yWl (kG K) I U ∧ (kl K).stackTraces = false)) (.ref (gad (kG K) r) :: []) := ⟨yWl_blind, fun U hU hW => ⟨rfl, yWl_end B0 hq0.2.1 hI hS hU hW, hst⟩⟩
  rcases hlink with hlink | ⟨host, hlink⟩
  · exact vv_run B0 hq hl hS (vx_runI (As := []) (n := 0) ⟨b1, b2.trans hb, b3, hown, hts⟩ hM (cwI 0 hts (zWS_good hMk) rfl rfl rfl (hts _ hMk.1.2) (hts _ hlink) (hts _ hins) hy hMk.2.1 (by rw [hR]; exact zroom hd hMk.2.2)) hpre rfl rfl (hl.1.trans rfl) rfl (zroomS h8) hdg (by rw [hR]; exact hu)) kk
  · have hN := hO1.2.2.2.2.1 _ hlink
    exact vv_run B0 hq hl hS (vx_runIN (As := []) (n := 0) ⟨b1, b2.trans hb, b3, hown, hts⟩ hM ⟨va_cnB 0 hts (zWS_good hMk) rfl rfl rfl hN (hts _ hMk.1.2) hMk.2.1 (by rw [hR]; exact zroom hd hMk.2.2), hy, hts _ hins⟩ hpre rfl rfl (hl.1.trans rfl) rfl (zroomS h8) hdg (by rw [hR]; exact hu)) kk
theorem vv_multi (hb : kcc K = cc) (ho : kown K = own) (hE : kPh K = phY (kG K) e0 mc P) (hcl : Cond.classLink own index "[[B" ∈ TG) (hsq : ySeq (kG K) a) (han : a ≤ n) (hn : n + 7 ≤ 320) (t30 : LT n = 30) (l30 : LL n = 6) (h21 : ∀ j, j < 6 → LT (n + 1 + j) = 21 ∧ LL (n + 1 + j) = 6 ∧ LR n j = n + 1 + j ∧ M (n + 1 + j) = y0) (hβ : β n = yT) (hR : u.1 + 7 ≤ (kR K).cells ∧ u.2 + 42 ≤ (kR K).slots) (hdg : decode cc pc = .ok (.multianewarray index 2, 4)) (kk : VV K (u.1 + 7, u.2 + 42) (pc + 4) L (.ref n :: S) (yH (kG K) a (n + 7) M β)) : VV K u pc L (.int 6 :: .int 6 :: S) (yH (kG K) a n M β) := by
  intro p e s m args below meth c0 Q H locs ls B hq hI hl hS
  have B0 := B
  obtain ⟨b1, b2, b3, hts, hown, b6, hK, hO1, hb0, hG, hw, hst⟩ := B
  rw [ho] at hown
  obtain ⟨hP, hz⟩ := hI
  have hz := hz rfl
  have k21 := hK.2 1 (gA (kG K) 21, .byte) rfl
  have n21 : s.vm.findClass "[B" = some (gA (kG K) 21) := k21.2
  have n30 : s.vm.findClass "[[B" = some (gA (kG K) 30) := (hK.2 4 (gA (kG K) 30, .array .byte) rfl).2
  have hq0 := hq
  rw [hE] at hq0
  refine wm_multi b1 (b2.trans hb) hown (hts _ hcl) (hq0.2.1.use 0 rfl) k21.1 n21 hS.1 rfl rfl hdg hR.1 hR.2 (fun H1 cA f1 z1 e1 e2 o1 => ?_)
  have hcA : cA = gA (kG K) 30 := Option.some.inj (f1.symm.trans n30)
  have hg : ∀ k, k ≤ 7 → gad (kG K) (n + k) = H.size + k := fun k hk => by rw [seq_add hsq han k (by omega), hz]
  have hk : ∀ (k : Nat) (x : Nat × va_E), (yw (kG K) a n M β)[k]? = some x → H1[x.1]? = H[x.1]? := fun k x hx => o1 x.1 ((hP k x hx).lt)
  have z := kk p e s m args below meth c0 Q H1 locs ls B0 hq ⟨?_, fun _ => by rw [z1, hg 7 (by omega)]⟩ hl ⟨Nat.le_trans hS.1 (by omega), fun x g1 g2 => (o1 x (Nat.lt_of_lt_of_le g1 hS.1)).trans (hS.2.1 x g1 g2), hS.2.2⟩
  · have hz9 := hg 0 (by omega)
    rw [Nat.add_zero] at hz9
    have ez : (List.map (zv (kG K)) (Value.ref n :: S)) = .ref H.size :: S.map (zv (kG K)) := by
      show Value.ref (gad (kG K) n) :: _ = _
      rw [hz9]
      rfl
    rw [ez] at z
    exact z
  rw [yw_app han]
  refine va_P.app (hP.kept hk) (fun k x hx => ?_)
  rw [List.getElem?_map] at hx
  by_cases h7 : k < 7
  · rw [List.getElem?_range h7] at hx
    cases hx
    cases k with
    | zero =>
      have ey : yc (kG K) (n + 0) (M (n + 0)) (β (n + 0)) = .inl (gA (kG K) 30, 6, .inr (.inr (.inr (.inr (fun k => if yT k = true then some (gad (kG K) (LR n k)) else none))))) := by
        rw [Nat.add_zero, hβ]
        unfold yc
        rw [t30, if_neg (by decide), if_neg (by decide), if_neg (by decide), l30]
      show va_at (gD (kG K)) vwCl (gad (kG K) (n + 0), yc (kG K) (n + 0) (M (n + 0)) (β (n + 0))) H1
      rw [ey, hg 0 (by omega)]
      show H1[H.size + 0]? = some (vp_cell (gA (kG K) 30) _)
      rw [vp_cell_q, Nat.add_zero, e1, hcA]
      congr 1
      refine arrV_cg (fun j hj => ?_)
      rw [if_pos hj, if_pos (show yT j = true from rfl), (h21 j hj).2.2.1, show n + 1 + j = n + (1 + j) by omega, hg (1 + j) (by omega)]
      exact congrArg Value.ref (Nat.add_assoc H.size 1 j)
    | succ j =>
      obtain ⟨q1, q2, -, q4⟩ := h21 j (by omega)
      rw [show n + 1 + j = n + (j + 1) by omega] at q1 q2 q4
      have ey : yc (kG K) (n + (j + 1)) (M (n + (j + 1))) (β (n + (j + 1))) = .inl (gA (kG K) 21, 6, .inl y0) := by
        unfold yc
        rw [q1, if_neg (by decide), if_pos (by decide), q2, q4]
      show va_at (gD (kG K)) vwCl (gad (kG K) (n + (j + 1)), yc (kG K) (n + (j + 1)) (M (n + (j + 1))) (β (n + (j + 1)))) H1
      rw [ey, hg (j + 1) (by omega)]
      show H1[H.size + (j + 1)]? = some (vp_cell (gA (kG K) 21) (6, .inl y0))
      rw [show H.size + (j + 1) = H.size + 1 + j by omega, e2 j (by omega)]
      rfl
  · rw [List.getElem?_eq_none (by simp; omega)] at hx
    cases hx
end VVC
