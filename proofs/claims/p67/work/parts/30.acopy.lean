/-! ARRAYCOPY -/
theorem acw : ([.native arraycopyName, .static arraycopyName, .initialized "java/lang/System"] : List Cond) = ([611, 610, 42] : List Nat).filterMap (fun i => lw_all[i]?) := by decide +kernel
theorem ac_in (i : Nat) {w : Cond} (hi : ([.native arraycopyName, .static arraycopyName, .initialized "java/lang/System"] : List Cond)[i]? = some w) : w ∈ TG := tg_r _ _ acw (by decide +kernel) i hi
theorem zz_acopy {K : zK} {u mc : Nat × Nat} {pc d index : Nat} {L : List (Nat × Value)} {I : zM} {cc : ByteArray} {own : String} (hb : kcc K = cc) (ho : kown K = own) (hR : kR K = zR d mc) (hlink : Cond.methodLink own index arraycopyName ∈ TG) {c t r0 r1 n : Nat} {ty : FieldType} (hc : c = 20 ∨ c = 21) (ht : ∀ G, (zt G)[t]? = some (gA G c, ty)) (hp : refKind ty = false) (h0 : isT (kw K) c r0) (h1 : isT (kw K) c r1) {z0 z1 mm : Int32} (e0 : z0 = 0) (e1 : z1 = 0) (em : mm = nI n) (hn0 : n ≤ LL r0) (hn1 : n ≤ LL r1) (hn : n < 2 ^ 31) (hfit : ∀ i, i < n → fits ty (.int (I r0 i)) = true) (hd : Nat.ble 1 d = true) (hdg : decode cc pc = .ok (.invokestatic index, 3)) (kk : ZZ K u (pc + 3) L [] (ups I r1 (va_cpy (I r0) (I r1) 0 0 n))) : ZZ K u pc L [.int mm, .int z1, .ref r1, .int z0, .ref r0] I := by
  subst e0 e1 em
  intro p e s m args below meth c0 Q H locs ls B hq hP hl hS
  have B0 := B
  obtain ⟨b1, b2, b3, hts, hown, -, hK, -, -, hG, hw, -⟩ := B
  rw [ho] at hown
  have a0 := zw_at (G := kG K) (I := I) h0.1.1 h0.1.2
  have a1 := zw_at (G := kG K) (I := I) h1.1.1 h1.1.2
  have hz : ∀ (r : Nat) (f : Nat → Int32), LT r = c → zc (kG K) r f = .inl (gA (kG K) c, LL r, .inl f) := fun r f hr => by
    unfold zc; rw [hr]; rcases hc with rfl | rfl <;> rfl
  rw [hz _ _ h0.2] at a0
  rw [hz _ _ h1.2] at a1
  have hc2 : (nI n).toNatClampNeg = n := nI_clamp hn
  have hd1 := Nat.le_of_ble_eq_true hd
  refine va_copyi b1 (b2.trans hb) (b3.trans hl.1.symm) hown (hts _ hlink) (hts _ (ac_in 0 rfl)) (hts _ (ac_in 1 rfl)) (hts _ (ac_in 2 rfl)) hK hP (zw_D hG hw.1) hS _ _ t t a0 a1 (ht _) (ht _) hp (rest := []) (sp := 0) (dp := 0) (by decide) (by decide) (nI_pos hn) ?_ ?_ ?_ ?_ ?_ hdg (fun H1 locs1 hP1 hD1 hS1 => ?_)
  · rw [hc2]; show 0 + n ≤ _; omega
  · rw [hc2]; show 0 + n ≤ _; omega
  · rw [hc2]; intro i hi; show fits ty (.int (I r0 (0 + i))) = true; rw [Nat.zero_add]; exact hfit i hi
  · rw [hR]; exact hd1
  · rw [hR]
    have : (([] : List Value).map fun v => v.category).sum + (nativeFrameWords "java/lang/System" "arraycopy" 5 + 11) ≤ 40 := by decide +kernel
    show _ ≤ 40 * d
    omega
  · rw [hc2, ← hz _ _ h1.2, zw_set h1.1.1 h1.1.2] at hP1
    exact kk p e s m args below meth c0 Q H1 locs1 ls B0 hq hP1 hl hS1
