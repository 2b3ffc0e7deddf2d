/-! JDK's METHODS: Math.min, max, arraycopy, clone; the law's numbers -/
theorem qn_w : ([.static ⟨"java/lang/Math", "min", "(II)I"⟩, .static ⟨"java/lang/Math", "max", "(II)I"⟩, .initialized "java/lang/Math", .code Lib.Math.max.name Lib.Math.max.code 2 (some .int), .code Lib.Math.min.name Lib.Math.min.code 2 (some .int), .sameMethod "[B" "java/lang/Object" "clone" "()Ljava/lang/Object;", .native ⟨"java/lang/Object", "clone", "()Ljava/lang/Object;"⟩, .instanceMethod ⟨"java/lang/Object", "clone", "()Ljava/lang/Object;"⟩, .selects "[B" ⟨"[B", "clone", "()Ljava/lang/Object;"⟩ ⟨"java/lang/Object", "clone", "()Ljava/lang/Object;"⟩, .classLink "java/util/Arrays" 311 "[B"] : List Cond).all (fun w => decide (w ∈ TG)) = true := by decide +kernel
theorem qn_in {w : Cond} (h : w ∈ ([.static ⟨"java/lang/Math", "min", "(II)I"⟩, .static ⟨"java/lang/Math", "max", "(II)I"⟩, .initialized "java/lang/Math", .code Lib.Math.max.name Lib.Math.max.code 2 (some .int), .code Lib.Math.min.name Lib.Math.min.code 2 (some .int), .sameMethod "[B" "java/lang/Object" "clone" "()Ljava/lang/Object;", .native ⟨"java/lang/Object", "clone", "()Ljava/lang/Object;"⟩, .instanceMethod ⟨"java/lang/Object", "clone", "()Ljava/lang/Object;"⟩, .selects "[B" ⟨"[B", "clone", "()Ljava/lang/Object;"⟩ ⟨"java/lang/Object", "clone", "()Ljava/lang/Object;"⟩, .classLink "java/util/Arrays" 311 "[B"] : List Cond)) : w ∈ TG := of_decide_eq_true (List.all_eq_true.mp qn_w w h)
section QQN
variable {K : zK} {u : Nat × Nat} {pc : Nat} {L L' : List (Nat × Value)} {S : List Value} {ws : va_W} {cc : ByteArray} {own nm : String} {ret : Option FieldType} {mc : Nat × Nat} {P : Option Value → va_W → Prop} {d index : Nat}
theorem qq_min (hb : kcc K = cc) (ho : kown K = own) (hR : kR K = zR d mc) (hd : Nat.ble 1 d = true) (hu : u.1 ≤ mc.1 ∧ u.2 ≤ mc.2) (h8 : Nat.ble (S.map fun v => v.category).sum 8 = true) (hlink : Cond.methodLink own index Lib.Math.min.name ∈ TG) {x y : Int32} (hdg : decode cc pc = .ok (.invokestatic index, 3)) (kk : QQ K u (pc + 3) L (.int (if y < x then y else x) :: S) ws) : QQ K u pc L (.int y :: .int x :: S) ws := by
  intro p e s m args below meth c0 Q H locs ls B hq hP hD hl hS
  have z := kk p e s m args below meth c0 Q H locs ls B hq hP hD hl hS
  obtain ⟨b1, b2, b3, hts, hown, -⟩ := B
  rw [ho] at hown
  have hd := Nat.le_of_ble_eq_true hd
  have h8 := Nat.le_of_ble_eq_true h8
  exact va_mmin b1 (b2.trans hb) (b3.trans hl.1.symm) hown (hts _ hlink) (hts _ (qn_in (by simp [Lib.Math.min.name]))) (hts _ (qn_in (by simp))) (hts _ (qn_in (by simp))) (by rw [hR]; exact hd) (by rw [hR]; show _ ≤ 40 * d; omega) (by rw [hR]; exact hu.1) (by rw [hR]; exact hu.2) hdg z
theorem qq_max (hb : kcc K = cc) (ho : kown K = own) (hR : kR K = zR d mc) (hd : Nat.ble 1 d = true) (hu : u.1 ≤ mc.1 ∧ u.2 ≤ mc.2) (h8 : Nat.ble (S.map fun v => v.category).sum 8 = true) (hlink : Cond.methodLink own index Lib.Math.max.name ∈ TG) {x y : Int32} (hdg : decode cc pc = .ok (.invokestatic index, 3)) (kk : QQ K u (pc + 3) L (.int (if x < y then y else x) :: S) ws) : QQ K u pc L (.int y :: .int x :: S) ws := by
  intro p e s m args below meth c0 Q H locs ls B hq hP hD hl hS
  have z := kk p e s m args below meth c0 Q H locs ls B hq hP hD hl hS
  obtain ⟨b1, b2, b3, hts, hown, -⟩ := B
  rw [ho] at hown
  have hd := Nat.le_of_ble_eq_true hd
  have h8 := Nat.le_of_ble_eq_true h8
  exact va_mmax b1 (b2.trans hb) (b3.trans hl.1.symm) hown (hts _ hlink) (hts _ (qn_in (by simp [Lib.Math.max.name]))) (hts _ (qn_in (by simp))) (hts _ (qn_in (by simp))) (by rw [hR]; exact hd) (by rw [hR]; show _ ≤ 40 * d; omega) (by rw [hR]; exact hu.1) (by rw [hR]; exact hu.2) hdg z
theorem nfw_ac : nativeFrameWords "java/lang/System" "arraycopy" 5 + 11 ≤ 32 := by decide +kernel
/-- from an array of the world to another one -/
theorem qq_copy (hb : kcc K = cc) (ho : kown K = own) (hR : kR K = zR d mc) (hd : Nat.ble 1 d = true) (h8 : Nat.ble (S.map fun v => v.category).sum 8 = true) (hlink : Cond.methodLink own index arraycopyName ∈ TG) (q0 q1 : Nat) {a0 a n0 n1 : Nat} {f g : Nat → Int32} (ha0 : ws[q0]? = some (a0, .inl (gA (kG K) 21, n0, .inl f))) (ha1 : ws[q1]? = some (a, .inl (gA (kG K) 21, n1, .inl g))) {sp dp n : Nat} (hs : sp < 2 ^ 31) (hp : dp < 2 ^ 31) (hn : n < 2 ^ 31) (h4 : sp + n ≤ n0) (h5 : dp + n ≤ n1) (hfit : ∀ i, i < n → fits .byte (.int (f (sp + i))) = true) (hdg : decode cc pc = .ok (.invokestatic index, 3)) {w' : va_W} (hw : ws.set q1 (a, .inl (gA (kG K) 21, n1, .inl (va_cpy f g sp dp n))) = w') (kk : QQ K u (pc + 3) L S w') : QQ K u pc L (.int (nI n) :: .int (nI dp) :: .ref a :: .int (nI sp) :: .ref a0 :: S) ws := by
  intro p e s m args below meth c0 Q H locs ls B hq hP hD hl hS
  have B0 := B
  obtain ⟨b1, b2, b3, hts, hown, -, hK, -⟩ := B
  rw [ho] at hown
  have hd := Nat.le_of_ble_eq_true hd
  have h8 := Nat.le_of_ble_eq_true h8
  have c1 : (nI n).toNatClampNeg = n := nI_clamp hn
  have c2 : (nI dp).toNatClampNeg = dp := nI_clamp hp
  have c3 : (nI sp).toNatClampNeg = sp := nI_clamp hs
  refine va_copyi b1 (b2.trans hb) (b3.trans hl.1.symm) hown (hts _ hlink) (hts _ (ac_in 0 rfl)) (hts _ (ac_in 1 rfl)) (hts _ (ac_in 2 rfl)) hK hP hD hS q0 q1 1 1 ha0 ha1 rfl rfl rfl (nI_pos hs) (nI_pos hp) (nI_pos hn) (by rw [c1, c3]; exact h4) (by rw [c1, c2]; exact h5) (by rw [c1, c3]; exact hfit) (by rw [hR]; exact hd) (by rw [hR]; have := nfw_ac; show _ ≤ 40 * d; omega) hdg (fun H1 locs1 hP1 hD1 hS1 => ?_)
  rw [c1, c2, c3, hw] at hP1 hD1
  exact kk p e s m args below meth c0 Q H1 locs1 ls B0 hq hP1 hD1 hl hS1
/-- from an array that is kept -/
theorem qq_copyT (hb : kcc K = cc) (ho : kown K = own) (hR : kR K = zR d mc) (hd : Nat.ble 1 d = true) (h8 : Nat.ble (S.map fun v => v.category).sum 8 = true) (hlink : Cond.methodLink own index arraycopyName ∈ TG) {a0 n0 : Nat} {f : Nat → Int32} (hX : ∀ s : State, zOld (kG K) s → va_T .byte a0 n0 (fun j => .int (f j)) (gF (kG K)) s s.heap) (q1 : Nat) {a n1 : Nat} {g : Nat → Int32} (ha1 : ws[q1]? = some (a, .inl (gA (kG K) 21, n1, .inl g))) {sp dp n : Nat} (hs : sp < 2 ^ 31) (hp : dp < 2 ^ 31) (hn : n < 2 ^ 31) (h4 : sp + n ≤ n0) (h5 : dp + n ≤ n1) (hfit : ∀ i, i < n → fits .byte (.int (f (sp + i))) = true) (hdg : decode cc pc = .ok (.invokestatic index, 3)) {w' : va_W} (hw : ws.set q1 (a, .inl (gA (kG K) 21, n1, .inl (va_cpy f g sp dp n))) = w') (kk : QQ K u (pc + 3) L S w') : QQ K u pc L (.int (nI n) :: .int (nI dp) :: .ref a :: .int (nI sp) :: .ref a0 :: S) ws := by
  intro p e s m args below meth c0 Q H locs ls B hq hP hD hl hS
  have B0 := B
  obtain ⟨b1, b2, b3, hts, hown, -, hK, hO1, -⟩ := B
  rw [ho] at hown
  have hd := Nat.le_of_ble_eq_true hd
  have h8 := Nat.le_of_ble_eq_true h8
  have c1 : (nI n).toNatClampNeg = n := nI_clamp hn
  have c2 : (nI dp).toNatClampNeg = dp := nI_clamp hp
  have c3 : (nI sp).toNatClampNeg = sp := nI_clamp hs
  refine vk_copyt b1 (b2.trans hb) (b3.trans hl.1.symm) hown (hts _ hlink) (hts _ (ac_in 0 rfl)) (hts _ (ac_in 1 rfl)) (hts _ (ac_in 2 rfl)) hK hP hD hS (hX s hO1) q1 1 ha1 rfl (nI_pos hs) (nI_pos hp) (nI_pos hn) (by rw [c1, c3]; exact h4) (by rw [c1, c2]; exact h5) (by rw [c1, c3]; exact hfit) (by rw [hR]; exact hd) (by rw [hR]; have := nfw_ac; show _ ≤ 40 * d; omega) hdg (fun H1 locs1 hP1 hD1 hS1 => ?_)
  rw [c1, c2, c3, hw] at hP1 hD1
  exact kk p e s m args below meth c0 Q H1 locs1 ls B0 hq hP1 hD1 hl hS1
/-- clone of a byte array; the new cell comes last -/
theorem qq_clone (hb : kcc K = cc) (ho : kown K = own) (hR : kR K = zR d mc) (hE : kPh K = phQ (kG K) nm ret mc P) (hd : Nat.ble 1 d = true) (h8 : Nat.ble (S.map fun v => v.category).sum 8 = true) (hlink : Cond.methodLink own index ⟨"[B", "clone", "()Ljava/lang/Object;"⟩ ∈ TG) (hfr : qFr (kG K)) (q0 : Nat) {a n : Nat} {f : Nat → Int32} (ha : ws[q0]? = some (a, .inl (gA (kG K) 21, n, .inl f))) (hfit : ∀ i, i < n → fits .byte (.int (f i)) = true) (hu : u.1 + 1 ≤ mc.1 ∧ u.2 + n ≤ mc.2) (hdg : decode cc pc = .ok (.invokevirtual index, 3)) (kk : ∀ h : Nat, QQ K (u.1 + 1, u.2 + n) (pc + 3) L (.ref h :: S) (ws ++ [(h, .inl (gA (kG K) 21, n, .inl f))])) : QQ K u pc L (.ref a :: S) ws := by
  intro p e s m args below meth c0 Q H locs ls B hq hP hD hl hS
  have B0 := B
  obtain ⟨b1, b2, b3, hts, hown, -, hK, hO1, hbs, -⟩ := B
  rw [ho] at hown
  have hd := Nat.le_of_ble_eq_true hd
  have h8 := Nat.le_of_ble_eq_true h8
  have hq0 := hq
  rw [hE] at hq0
  refine va_clone b1 (b2.trans hb) (b3.trans hl.1.symm) hown (hts _ hlink) (hts _ (qn_in (by simp))) (hts _ (qn_in (by simp))) (hts _ (qn_in (by simp))) (hts _ (qn_in (by simp))) hq0.2.1 hK hP hD hS (fun q h => hfr q (Nat.le_trans hbs h)) q0 1 ha rfl (hK.2 1 (gA (kG K) 21, .byte) rfl).2 (fun i v hv => ?_) (by rw [hR]; exact hd) (by rw [hR]; show _ ≤ 40 * d; omega) (by rw [hR]; exact hu.1) (by rw [hR]; exact hu.2) hdg (fun q H1 hK1 hP1 hD1 hS1 => ?_)
  · by_cases hi : i < n
    · have e : (vp_cell (gA (kG K) 21) (n, .inl f)).slots[i]? = some (.int (f i)) := arrV_read _ _ hi
      rw [e] at hv
      cases hv
      exact hfit i hi
    · have hz : (vp_cell (gA (kG K) 21) (n, .inl f)).slots.size = n := arrV_size _ _ _
      rw [Array.getElem?_eq_none (by rw [hz]; omega)] at hv
      cases hv
  · exact kk q p e s m args below meth c0 Q H1 locs ls B0 hq hP1 hD1 hl hS1
theorem qq_castB (hb : kcc K = cc) (ho : kown K = own) (hlink : Cond.classLink own index "[B" ∈ TG) (q0 : Nat) {a n : Nat} {f : Nat → Int32} (ha : ws[q0]? = some (a, .inl (gA (kG K) 21, n, .inl f))) (hdg : decode cc pc = .ok (.checkcast index, 3)) (kk : QQ K u (pc + 3) L (.ref a :: S) ws) : QQ K u pc L (.ref a :: S) ws := by
  intro p e s m args below meth c0 Q H locs ls B hq hP hD hl hS
  have z := kk p e s m args below meth c0 Q H locs ls B hq hP hD hl hS
  obtain ⟨b1, b2, b3, hts, hown, -, hK, -⟩ := B
  rw [ho] at hown
  exact va_castA b1 (b2.trans hb) hown (hts _ hlink) hP q0 ha (hK.2 1 (gA (kG K) 21, .byte) rfl).2 hdg z
end QQN
