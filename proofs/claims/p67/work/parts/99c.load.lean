/-! THE LAW FROM ITS ENTRY TO ITS LOOP: load -/
section RRL
variable {K : zK} {u : Nat × Nat} {pc : Nat} {L : List (Nat × Value)} {S as st9 : List Value} {b Lz : Nat} {xs : Nat → Int32} {Z : lZ} {index : Nat} {M : zM} {y : MethodName} {bc : ByteArray} {nL n d : Nat} {ret' : Option FieldType} {mc : Nat × Nat} {P : Option Value → zM → Prop}
theorem rr_inv0 {T : u_T} {N : Nat} {ty : Nat → FieldType} (hK : zKl K b Lz xs Z) (hMk : zMk y bc nL ret' n) (hn : as.length = n) (hc : cOK 10 y.cls T N ty) (h0 : LT 0 = 10) (hd : Nat.ble d 14 = true) (hu : u.1 + mc.1 ≤ 600086 ∧ u.2 + mc.2 ≤ 7301442) (hst : st9 = (as.map (zv (kG K))).reverse ++ .ref (gad (kG K) 0) :: S)
    (hlink : Cond.methodLink RL index y ∈ TG) (hins : Cond.instanceMethod y ∈ TG) (hsel : Cond.selects y.cls y y ∈ TG) (h8 : Nat.ble (S.map fun v => v.category).sum 8 = true) (hdg : decode cL_law pc = .ok (.invokevirtual index, 3))
    (hM : CT (kG K) (0, 312) (kl K) (y, bc, nL, ret') d mc (.ref 0 :: as) M P nX) (kv : ∀ v J, P v J → RR K (u.1 + mc.1, u.2 + mc.2) (pc + 3) L ((v.map (zv (kG K))).toList ++ S) (va_P (gD (kG K)) vwCl (zw (kG K) (0, 312) J))) : RR K u pc L st9 (va_P (gD (kG K)) vwCl (zw (kG K) (0, 312) M)) := by
  intro p e s m args below meth c0 Q H locs ls B hq hP hl hS
  have B0 := B
  obtain ⟨hb, ho, hnl, hR, -⟩ := hK
  obtain ⟨b1, b2, b3, hts, hown, b6, hKK, hO1, hbs, hG, hw, hst9⟩ := B
  rw [ho] at hown
  obtain ⟨⟨h1, h2, h3, h4⟩, h5, h6, h7, -⟩ := hc
  have hr : isT (0, 312) 10 0 := ⟨⟨Nat.zero_le _, by decide⟩, h0⟩
  have hat := zw_at (G := kG K) (w := (0, 312)) (I := M) hr.1.1 hr.1.2
  rw [zc_obj hr h3] at hat
  have hg : ∀ x ∈ wsV RL index y.cls y (WS (y, bc, nL, ret')), x ∈ TG := fun x hx => by
    unfold wsV at hx
    rcases List.mem_append.mp hx with hx | hx
    · simp only [List.mem_cons, List.not_mem_nil, or_false] at hx
      rcases hx with rfl | rfl | rfl | rfl
      · exact hlink
      · exact hins
      · exact hsel
      · exact hMk.1.2
    · exact (zWS_good hMk x hx).1
  have hr := vx_runV (p := p) (l := kl K) (e := e) (R := kR K) (s := s) (m := m) (args := args) (below := below) (meth := meth) (c := c0) (H := H) (locs := locs) (cells := u.1) (slots := u.2) (As := as.map (zv (kG K))) (C := y.cls) (n := n) (g := F0 m pc ls st9) (rest := S) ⟨b1, b2.trans hb, b3, hown, hts⟩ hM (cwV n hts (goodIn_TG hg) rfl rfl rfl ⟨rfl, hMk.2.1⟩ (by rw [hR]; exact zlroom hd hMk.2.2)) ⟨zWl_blind, va_recv (q := (y.cls, T, N)) hKK hP h1 hat, fun U hU hW => ⟨rfl, ⟨by rw [hU]; exact hP, va_K.moved hW.alike hKK, zOld_warm hW (by rw [hU]; exact hS.2.1) hO1, by rw [hU]; exact Nat.le_trans hbs hS.1, hG, w312⟩, hst9⟩⟩ rfl (by rw [List.length_map]; exact hn) (hl.1.trans rfl) hst (lv_room (Nat.le_of_ble_eq_true h8)) hdg (by rw [hR]; exact hu)
  refine rr_run B0 hq hl hS (fun q h => h) (fun E st t ⟨J, hx, _⟩ => hx) hr (J := fun v H' => ∃ v' J, v = v'.map (zv (kG K)) ∧ P v' J ∧ va_P (gD (kG K)) vwCl (zw (kG K) (0, 312) J) H') (fun st v t h0 h => ?_) (fun v => ?_)
  · obtain ⟨v', J, hv, hp, hPJ, hF2⟩ := h
    exact ⟨⟨v', J, by injection hv, hp, hPJ⟩, hF2⟩
  · intro p e s m args below meth c Q H locs ls B hq hP hl hS
    obtain ⟨v', J, rfl, hp, hP⟩ := hP
    exact kv v' J hp p e s m args below meth c Q H locs ls B hq hP hl hS
end RRL
