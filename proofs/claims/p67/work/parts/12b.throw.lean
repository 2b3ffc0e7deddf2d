/-! texts, throws -/
section HLP
variable {K : zK} {u : Nat × Nat} {pc : Nat} {L : List (Nat × Value)} {S : List Value} {I : zM} {cc : ByteArray} {own : String} {nK d : Nat} {rK : Option FieldType} {mcK : Nat × Nat} {PK : Option Value → zM → Prop} {XK : String → zM → Prop}
theorem zz_ldc (hb : kcc K = cc) (ho : kown K = own) (i : Nat) {index r : Nat} {tx : String} (hi : zLdc[i]? = some (own, index, tx, r)) (hdg : decode cc pc = .ok (.ldc index, 2)) (kk : ZZ K u (pc + 2) L (.ref r :: S) I) : ZZ K u pc L S I := by
  intro p e s m args below meth c0 Q H locs ls B hq hP hl hS
  have z := kk p e s m args below meth c0 Q H locs ls B hq hP hl hS
  obtain ⟨b1, b2, -, hts, hown, -, hK, hO1, -⟩ := B
  rw [ho] at hown
  exact va_ldcS b1 (b2.trans hb) hown (hO1.2.2.2.1 _ (List.mem_of_getElem? hi)) hdg z
theorem zz_ldcw (hb : kcc K = cc) (ho : kown K = own) (i : Nat) {index r : Nat} {tx : String} (hi : zLdc[i]? = some (own, index, tx, r)) (hdg : decode cc pc = .ok (.ldc_w index, 3)) (kk : ZZ K u (pc + 3) L (.ref r :: S) I) : ZZ K u pc L S I := by
  intro p e s m args below meth c0 Q H locs ls B hq hP hl hS
  have z := kk p e s m args below meth c0 Q H locs ls B hq hP hl hS
  obtain ⟨b1, b2, -, hts, hown, -, hK, hO1, -⟩ := B
  rw [ho] at hown
  have hZ := hO1.2.2.2.1 _ (List.mem_of_getElem? hi)
  intro T hT Xs
  obtain ⟨t, a1, b3⟩ := z T hT Xs
  exact ⟨t, Xs.ldcStringW b1 hown (text := tx) (a := gad (kG K) r) hZ.1 hZ.2 (g := F0 m pc ls (S.map (zv (kG K)))) rfl (by rw [b2, hb]; exact hdg) t a1, b3⟩
/-- an exception's class: its place in the pool, its constructor's -/
def zEx (cls : String) (ik ic : Nat) : Prop := (Bundle.fit cls = true ∧ ∀ n ∈ zNames, Bundle.fit n = true) ∧ Cond.classLink RX10 ik cls ∈ TG ∧ Cond.initialized cls ∈ TG ∧ (∀ w ∈ vx_atS RX10 ic cls zNames, w ∈ TG ∨ w ∈ zXw) ∧ ∀ w ∈ Cond.classLink RX10 ik cls :: Cond.initialized cls :: vx_atS RX10 ic cls zNames, vx_ot w = true
theorem zex_at {cls : String} {ik ic : Nat} {s : State} {args : Array Value} (h : zEx cls ik ic) (hts : ∀ x ∈ TG, x.before args s = true) (hX : ∀ q ∈ zXw, va_Nw q s) : ∀ w ∈ vx_atS RX10 ic cls zNames, w.before args s = true := fun w hw => by
  rcases h.2.2.2.1 w hw with h1 | h1
  · exact hts w h1
  · have h2 := List.all_eq_true.mp zXw_ok w h1
    rw [Bool.and_eq_true] at h2
    exact va_Nw.use h2.1 (hX w h1)
theorem zz_throw (hb : kcc K = cc) (ho : kown K = RX10) (hnl : knL K = nK) (hR : kR K = zR d mcK) (hE : zEnd K rK mcK PK XK) {cls : String} {ik ic is : Nat} (hx : zEx cls ik ic) (i : Nat) {tx : String} {r : Nat} (hi : zLdc[i]? = some (RX10, is, tx, r)) (hd : Nat.ble 6 d = true) (h8 : Nat.ble (S.map fun v => v.category).sum 8 = true) (hu : u.1 + 1 ≤ mcK.1 ∧ u.2 + 6 ≤ mcK.2)
    (d0 : decode cc pc = .ok (.new ik, 3)) (d3 : decode cc (pc + 3) = .ok (.dup, 1)) (d4 : decode cc (pc + 4) = .ok (.ldc is, 2)) (d6 : decode cc (pc + 6) = .ok (.invokespecial ic, 3)) (d9 : decode cc (pc + 9) = .ok (.athrow, 1)) (hX : XK cls I) : ZZ K u pc L S I := by
  intro p e s m args below meth c0 Q H locs ls B hq hP hl hS
  obtain ⟨b1, b2, b3, hts, hown, b6, hK, hO1, hb0, hG, hw, hst⟩ := B
  rw [ho] at hown
  rw [hE] at hq
  obtain ⟨hr9, ht9, rfl⟩ := hq
  have hd := Nat.le_of_ble_eq_true hd
  have h8 := Nat.le_of_ble_eq_true h8
  obtain ⟨o1, o2, o3, o4, o5, o6, o7, o8, o9, o10⟩ := hO1
  refine vx_throwS b1 (b2.trans hb) hst hown hx.1.1 hx.1.2 (hts _ hx.2.1) (hts _ hx.2.2.1) (o4 _ (List.mem_of_getElem? hi)) (zex_at hx hts o6) hx.2.2.2.2 o9 o10 hS (hl.1.trans b3.symm) d0 d3 d4 d6 d9 (fun x hx => (ht9 x hx).elim) ?_ ?_ (by rw [hR]; exact Nat.le_trans hu.1 (Nat.le_refl _)) (by rw [hR]; exact Nat.le_trans hu.2 (Nat.le_refl _)) b6 (fun t hA hz hk => ⟨I, hX, hP.kept (fun k9 q9 hq9 => hk _ (hP k9 q9 hq9).lt), ⟨Nat.le_trans hS.1 hz, fun q h1 h2 => (hk q (Nat.lt_of_lt_of_le h1 hS.1)).trans (hS.2.1 q h1 h2)⟩⟩) (fun z hz => hS.2.2 z hz) hu.1 hu.2
  · rw [hR]; show 2 + 3 < d; omega
  · rw [hR]
    have e9 : ((S.map (zv (kG K))).map fun v => v.category) = S.map fun v => v.category := by
      rw [List.map_map]; exact List.map_congr_left (fun v _ => zv_cat v)
    rw [e9]
    show _ + (13 * (2 + 1) + 43) ≤ 40 * d
    omega
theorem zz_throwW (hb : kcc K = cc) (ho : kown K = RX10) (hnl : knL K = nK) (hR : kR K = zR d mcK) (hE : zEnd K rK mcK PK XK) {cls : String} {ik ic is : Nat} (hx : zEx cls ik ic) (i : Nat) {tx : String} {r : Nat} (hi : zLdc[i]? = some (RX10, is, tx, r)) (hd : Nat.ble 6 d = true) (h8 : Nat.ble (S.map fun v => v.category).sum 8 = true) (hu : u.1 + 1 ≤ mcK.1 ∧ u.2 + 6 ≤ mcK.2)
    (d0 : decode cc pc = .ok (.new ik, 3)) (d3 : decode cc (pc + 3) = .ok (.dup, 1)) (d4 : decode cc (pc + 4) = .ok (.ldc_w is, 3)) (d6 : decode cc (pc + 7) = .ok (.invokespecial ic, 3)) (d9 : decode cc (pc + 10) = .ok (.athrow, 1)) (hX : XK cls I) : ZZ K u pc L S I := by
  intro p e s m args below meth c0 Q H locs ls B hq hP hl hS
  obtain ⟨b1, b2, b3, hts, hown, b6, hK, hO1, hb0, hG, hw, hst⟩ := B
  rw [ho] at hown
  rw [hE] at hq
  obtain ⟨hr9, ht9, rfl⟩ := hq
  have hd := Nat.le_of_ble_eq_true hd
  have h8 := Nat.le_of_ble_eq_true h8
  obtain ⟨o1, o2, o3, o4, o5, o6, o7, o8, o9, o10⟩ := hO1
  refine vx_throwSW b1 (b2.trans hb) hst hown hx.1.1 hx.1.2 (hts _ hx.2.1) (hts _ hx.2.2.1) (o4 _ (List.mem_of_getElem? hi)) (zex_at hx hts o6) hx.2.2.2.2 o9 o10 hS (hl.1.trans b3.symm) d0 d3 d4 d6 d9 (fun x hx => (ht9 x hx).elim) ?_ ?_ (by rw [hR]; exact Nat.le_trans hu.1 (Nat.le_refl _)) (by rw [hR]; exact Nat.le_trans hu.2 (Nat.le_refl _)) b6 (fun t hA hz hk => ⟨I, hX, hP.kept (fun k9 q9 hq9 => hk _ (hP k9 q9 hq9).lt), ⟨Nat.le_trans hS.1 hz, fun q h1 h2 => (hk q (Nat.lt_of_lt_of_le h1 hS.1)).trans (hS.2.1 q h1 h2)⟩⟩) (fun z hz => hS.2.2 z hz) hu.1 hu.2
  · rw [hR]; show 2 + 3 < d; omega
  · rw [hR]
    have e9 : ((S.map (zv (kG K))).map fun v => v.category) = S.map fun v => v.category := by
      rw [List.map_map]; exact List.map_congr_left (fun v _ => zv_cat v)
    rw [e9]
    show _ + (13 * (2 + 1) + 43) ≤ 40 * d
    omega
end HLP
theorem zxw_of {l : List Cond} (hl : l.all (fun w => !goodWord w || decide (w ∈ lw_all)) = true) (h2 : ∀ w ∈ l.filter (fun w => !goodWord w), w ∈ zXw) : ∀ w ∈ l, w ∈ TG ∨ w ∈ zXw := fun w hw => by
  by_cases g : goodWord w = true
  · have h1 := List.all_eq_true.mp hl w hw
    rw [g] at h1
    exact Or.inl (tg_of (of_decide_eq_true (by simpa using h1)) g)
  · exact Or.inr (h2 w (List.mem_filter.mpr ⟨hw, by simp [g]⟩))
theorem zxw_sub {a c d : List Cond} : (∀ w ∈ a.filter (fun w => !goodWord w), w ∈ (a ++ c ++ d).filter (fun w => !goodWord w)) ∧ (∀ w ∈ c.filter (fun w => !goodWord w), w ∈ (a ++ c ++ d).filter (fun w => !goodWord w)) ∧ (∀ w ∈ d.filter (fun w => !goodWord w), w ∈ (a ++ c ++ d).filter (fun w => !goodWord w)) := by
  refine ⟨fun w hw => ?_, fun w hw => ?_, fun w hw => ?_⟩ <;>
  · obtain ⟨h1, h2⟩ := List.mem_filter.mp hw
    refine List.mem_filter.mpr ⟨?_, h2⟩
    simp [h1]
theorem zex_w (i j : Nat) {a b : Cond} (ha : lw_all[i]? = some a) (hb : lw_all[j]? = some b) (h : (goodWord a && goodWord b) = true) : a ∈ TG ∧ b ∈ TG := by
  rw [Bool.and_eq_true] at h
  exact ⟨tg_of (List.mem_of_getElem? ha) h.1, tg_of (List.mem_of_getElem? hb) h.2⟩
theorem zEx0 : zEx "java/lang/IndexOutOfBoundsException" 143 147 := by
  have h := zex_w 644 53 (a := Cond.classLink RX10 143 "java/lang/IndexOutOfBoundsException") (b := Cond.initialized "java/lang/IndexOutOfBoundsException") (by decide +kernel) (by decide +kernel) (by decide +kernel)
  exact ⟨⟨by decide +kernel, by decide +kernel⟩, h.1, h.2, zxw_of (by decide +kernel) zxw_sub.1, fun w hw => List.all_eq_true.mp (show (Cond.classLink RX10 143 "java/lang/IndexOutOfBoundsException" :: Cond.initialized "java/lang/IndexOutOfBoundsException" :: vx_atS RX10 147 "java/lang/IndexOutOfBoundsException" zNames).all vx_ot = true by decide +kernel) w hw⟩
theorem zEx2 : zEx "java/lang/IllegalStateException" 69 73 := by
  have h := zex_w 661 49 (a := Cond.classLink RX10 69 "java/lang/IllegalStateException") (b := Cond.initialized "java/lang/IllegalStateException") (by decide +kernel) (by decide +kernel) (by decide +kernel)
  exact ⟨⟨by decide +kernel, by decide +kernel⟩, h.1, h.2, zxw_of (by decide +kernel) zxw_sub.2.1, fun w hw => List.all_eq_true.mp (show (Cond.classLink RX10 69 "java/lang/IllegalStateException" :: Cond.initialized "java/lang/IllegalStateException" :: vx_atS RX10 73 "java/lang/IllegalStateException" zNames).all vx_ot = true by decide +kernel) w hw⟩
theorem zEx3 : zEx "java/lang/IllegalArgumentException" 79 83 := by
  have h := zex_w 530 48 (a := Cond.classLink RX10 79 "java/lang/IllegalArgumentException") (b := Cond.initialized "java/lang/IllegalArgumentException") (by decide +kernel) (by decide +kernel) (by decide +kernel)
  exact ⟨⟨by decide +kernel, by decide +kernel⟩, h.1, h.2, zxw_of (by decide +kernel) zxw_sub.2.2, fun w hw => List.all_eq_true.mp (show (Cond.classLink RX10 79 "java/lang/IllegalArgumentException" :: Cond.initialized "java/lang/IllegalArgumentException" :: vx_atS RX10 83 "java/lang/IllegalArgumentException" zNames).all vx_ot = true by decide +kernel) w hw⟩
