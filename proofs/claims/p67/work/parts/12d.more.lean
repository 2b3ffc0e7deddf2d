/-! ROWS: a number of the pool, or; a call on a text of the class -/
section MORE
variable {K : zK} {u mc : Nat × Nat} {pc : Nat} {L : List (Nat × Value)} {S : List Value} {I : zM} {cc : ByteArray} {own : String} {P : Option Value → zM → Prop} {X : String → zM → Prop}
theorem zz_ldci (hb : kcc K = cc) (ho : kown K = own) {index : Nat} {v : Int32} (hw : Cond.constant own index v ∈ TG) (hdg : decode cc pc = .ok (.ldc index, 2)) (kk : ZZ K u (pc + 2) L (.int v :: S) I) : ZZ K u pc L S I := by
  intro p e s m args below meth c0 Q H locs ls B hq hP hl hS
  have z := kk p e s m args below meth c0 Q H locs ls B hq hP hl hS
  obtain ⟨b1, b2, -, hts, hown, -⟩ := B
  rw [ho] at hown
  exact lv_ldc b1 (b2.trans hb) hown (hts _ hw) hdg z
theorem zz_ior (hb : kcc K = cc) {x y : Int32} (hdg : decode cc pc = .ok (.ior, 1)) (k : ZZ K u (pc + 1) L (.int (x ||| y) :: S) I) : ZZ K u pc L (.int y :: .int x :: S) I :=
  fun p e s m args below meth c Q H locs ls B hq hP hl hS => lv_ior B.1 (B.2.1.trans hb) hdg (k p e s m args below meth c Q H locs ls B hq hP hl hS)
variable {nK dK : Nat} {rK : Option FieldType} {mcK : Nat × Nat} {PK : Option Value → zM → Prop} {XK : String → zM → Prop}
variable {y : MethodName} {bc : ByteArray} {nL n d : Nat} {ret : Option FieldType} {as st9 : List Value} {index : Nat}
theorem zz_invStrC (hb : kcc K = cc) (ho : kown K = own) (hnl : knL K = nK) (hR : kR K = zR dK mcK) (hE : zEnd K rK mcK PK XK) (hMk : zMk y bc nL ret n) (hn : as.length = n) {r : Nat} (hr : zIsS r) (hy : y.cls = "java/lang/String") (hd : Nat.ble (d + 1) dK = true) (hu : u.1 + mc.1 ≤ mcK.1 ∧ u.2 + mc.2 ≤ mcK.2) (hst : st9 = as.reverse ++ .ref r :: S)
    (hlink : Cond.methodLink own index y ∈ TG) (hins : Cond.instanceMethod y ∈ TG) (hsel : Cond.selects y.cls y y ∈ TG) (h8 : Nat.ble (S.map fun v => v.category).sum 8 = true) (hdg : decode cc pc = .ok (.invokevirtual index, 3))
    (hM : CT (kG K) (kw K) (kl K) (y, bc, nL, ret) d mc (.ref r :: as) I P X) (kv : ∀ v J, P v J → ZZ K (u.1 + mc.1, u.2 + mc.2) (pc + 3) L (v.toList ++ S) J) (kx : ∀ E J, X E J → XK E J) : ZZ K u pc L st9 I := by
  obtain ⟨j, hj, rfl⟩ := hr
  exact zz_invStr hb ho hnl hR hE hMk hn (zs_con (kG K) hj) hy hd hu hst hlink hins hsel h8 hdg hM kv kx
end MORE
