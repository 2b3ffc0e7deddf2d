/-! THE LAW FROM ITS ENTRY TO ITS LOOP: calls -/
/-- what new cells don't change -/
def kept (I : Heap → Prop) : Prop := ∀ H H' : Heap, I H → H.size ≤ H'.size → (∀ q : Nat, q < H.size → H'[q]? = H[q]?) → I H'
theorem kept_P {D : va_G} {cl : List vw_C} {ws : va_W} : kept (va_P D cl ws) := fun H H' h _ h2 => h.kept (fun k q hk => h2 q.1 (h k q hk).lt)
theorem kept_and {I J : Heap → Prop} (h1 : kept I) (h2 : kept J) : kept (fun H => I H ∧ J H) := fun H H' h a b => ⟨h1 H H' h.1 a b, h2 H H' h.2 a b⟩
theorem kept_c {p : Prop} : kept (fun _ => p) := fun _ _ h _ _ => h
/-- the run's constants for a method that makes new cells from h on -/
def gV (G : zG) (h : Nat) : zG := (gD G, gA G, (fun r => if r < 321 then h + r else gad G r), h, (0, 0), gs G, gt G)
theorem gV_F {G : zG} {h q : Nat} : gF (gV G h) q ↔ h ≤ q := ⟨fun z => z.1, fun z => ⟨z, fun y => absurd y.2 (Nat.not_lt_zero q)⟩⟩
theorem gV_fr {G : zG} {h : Nat} : qFr (gV G h) := fun _ hq => gV_F.mpr hq
theorem gV_ok {G : zG} {h : Nat} : zGok (gV G h) := by
  refine ⟨fun r q hr hq e => ?_, fun r hr => ?_⟩
  · have hr : r < 321 := hr
    have hq : q < 321 := hq
    have e : (if r < 321 then h + r else gad G r) = (if q < 321 then h + q else gad G q) := e
    rw [if_pos hr, if_pos hq] at e
    omega
  · have hr : r < 321 := hr
    have e : gad (gV G h) r = h + r := if_pos hr
    rw [e]
    exact gV_F.mpr (by omega)
theorem gV_old {G : zG} {h r : Nat} (hr : 1000 ≤ r) : gad (gV G h) r = gad G r := if_neg (by omega)
theorem lvs_cg {G G' : zG} (h : gs G' = gs G) : lvs G' = lvs G := by
  unfold lvs
  simp only [stg_cg h]
theorem lqs_cg {G G' : zG} (h : gs G' = gs G) {c n : Nat} : lqs G' c n = lqs G c n := by
  unfold lqs
  simp only [pik_cg h]
section RRC
variable {K : zK} {u : Nat × Nat} {pc : Nat} {L : List (Nat × Value)} {S st9 as : List Value} {I : Heap → Prop} {b Lz : Nat} {xs : Nat → Int32} {Z : lZ} {y : MethodName} {bc : ByteArray} {nL n d index : Nat}
theorem rr_invCT (hK : zKl K b Lz xs Z) (hfr : qFr (kG K)) (hI : kept I) (hMk : zMk y bc nL (some .int) n) (hn : as.length = n) (hd : Nat.ble d 14 = true) (hu : u.1 ≤ 600086 ∧ u.2 ≤ 7301442) (has : ∀ v ∈ as, ∀ r, v = .ref r → 1000 ≤ r) (hst : st9 = (as.map (zv (kG K))).reverse ++ S)
    (hlink : Cond.methodLink RL index y ∈ TG) (hstt : Cond.static y ∈ TG) (h8 : Nat.ble (S.map fun v => v.category).sum 8 = true) (hdg : decode cL_law pc = .ok (.invokestatic index, 3)) {x : Int32}
    (hM : ∀ G' : zG, gs G' = gs (kG K) → CT G' (0, 0) (kl K) (y, bc, nL, some .int) d (0, 0) as (fun _ _ => 0) (qE x (fun _ _ => 0)) nX) (kv : RR K u (pc + 3) L (.int x :: S) I) : RR K u pc L st9 I := by
  intro p e s m args below meth c0 Q H locs ls B hq hP hl hS
  have B0 := B
  obtain ⟨hb, ho, hnl, hR, -⟩ := hK
  obtain ⟨b1, b2, b3, hts, hown, b6, hKK, hO1, hbs, hG, hw, hst9⟩ := B
  rw [ho] at hown
  have hg : ∀ x ∈ va_wsS RL index y (WS (y, bc, nL, some .int)), x ∈ TG := fun x hx => by
    unfold va_wsS at hx
    rcases List.mem_append.mp hx with hx | hx
    · simp only [List.mem_cons, List.not_mem_nil, or_false] at hx
      rcases hx with rfl | rfl | rfl
      · exact hlink
      · exact hstt
      · exact hMk.1.2
    · exact (zWS_good hMk x hx).1
  have hb9 : gb (kG K) ≤ H.size := Nat.le_trans hbs hS.1
  have ea : as.map (zv (gV (kG K) H.size)) = as.map (zv (kG K)) := List.map_congr_left (fun v hv => by
    cases v with
    | ref r => exact congrArg Value.ref (gV_old (has _ hv r rfl))
    | _ => rfl)
  have hF : ∀ q, gF (gV (kG K) H.size) q → gF (kG K) q := fun q h => hfr q (Nat.le_trans hb9 (gV_F.mp h))
  have hpre : PreS s H (va_Pc (as.map (zv (gV (kG K) H.size))) (fun U => zWl (gV (kG K) H.size) (0, 0) (fun _ _ => 0) U ∧ (kl K).stackTraces = false)) (as.map (zv (gV (kG K) H.size))) := ⟨zWl_blind, fun U hU hW => ⟨rfl, ⟨fun k q h => absurd h (by simp [zw]), va_K.moved hW.alike hKK, zOld_mono (fun r hr => gV_old hr) hF rfl rfl (zOld_warm hW (by rw [hU]; exact hS.2.1) hO1), by rw [hU]; exact Nat.le_refl _, gV_ok, wok00⟩, hst9⟩⟩
  have hr := vx_runS (p := p) (l := kl K) (e := e) (R := kR K) (s := s) (m := m) (args := args) (below := below) (meth := meth) (c := c0) (H := H) (locs := locs) (cells := u.1) (slots := u.2) (As := as.map (zv (gV (kG K) H.size))) (n := n) (g := F0 m pc ls st9) (rest := S) ⟨b1, b2.trans hb, b3, hown, hts⟩ (hM (gV (kG K) H.size) rfl) (va_cwS n hts (goodIn_TG hg) rfl rfl rfl hMk.2.1 (by rw [hR]; exact zlroom hd hMk.2.2)) hpre rfl (by rw [List.length_map]; exact hn) (hl.1.trans rfl) (by rw [ea]; exact hst) (lv_room (Nat.le_of_ble_eq_true h8)) hdg (by rw [hR]; exact hu)
  refine rr_run B0 hq hl hS hF (fun E st t ⟨J, hx, _⟩ => hx) hr (J := fun v H' => v = some (.int x) ∧ I H') (fun st v t h0 h => ?_) (fun v => ?_)
  · obtain ⟨v', J, hv, ⟨r, hv2, rfl, -⟩, -, hF2⟩ := h
    rw [hv2] at hv
    refine ⟨⟨by injection hv, ?_⟩, hF2⟩
    obtain ⟨f1, f2⟩ := hF2
    rw [h0] at f1 f2
    exact hI H t.heap hP f1 (fun q hq => f2 q hq (fun z => absurd (gV_F.mp z) (by omega)))
  · intro p e s m args below meth c Q H locs ls B hq hP hl hS
    obtain ⟨rfl, hP⟩ := hP
    exact kv p e s m args below meth c Q H locs ls B hq hP hl hS
/-- the law's text, in the heap from lo on -/
def TX (G : zG) (lo s9 h9 N : Nat) (g : Nat → Int32) : Heap → Prop := fun H => va_P (gD G) vwCl [(s9, .inr (12, [.ref h9, .int 0, .int 0, .int 0])), (h9, .inl (gA G 21, N, .inl g))] H ∧ lo ≤ s9 ∧ lo ≤ h9
theorem kept_TX {G : zG} {lo s9 h9 N : Nat} {g : Nat → Int32} : kept (TX G lo s9 h9 N g) := kept_and kept_P kept_c
theorem rr_setup {lo c n : Nat} (hK : zKl K b Lz xs Z) (hfr : qFr (kG K)) (hI : kept I) (hlo : ∀ H, I H → lo ≤ H.size) (hL : (gs (kG K)).1 ≤ 260) (hc1 : 1 ≤ c) (hc : c ≤ 5) (hn : n ≤ 9) (hu : u.1 + 200 ≤ 600086 ∧ u.2 + 110000 ≤ 7301442)
    (hlink : Cond.methodLink RL index yL_setup ∈ TG) (hstt : Cond.static yL_setup ∈ TG) (h8 : Nat.ble (S.map fun v => v.category).sum 8 = true) (hdg : decode cL_law pc = .ok (.invokestatic index, 3))
    (kv : ∀ (s9 h9 : Nat) (g : Nat → Int32), (∀ j, j < (txt (lvs (kG K)) c (lqs (kG K) c n)).length → g j = nI ((txt (lvs (kG K)) c (lqs (kG K) c n)).getD j 0)) → RR K (u.1 + 200, u.2 + 110000) (pc + 3) L (.ref s9 :: S) (fun H => I H ∧ TX (kG K) lo s9 h9 (txt (lvs (kG K)) c (lqs (kG K) c n)).length g H)) : RR K u pc L (.int (nI n) :: .int (nI c) :: .ref (gad (kG K) 1400) :: S) I := by
  intro p e s m args below meth c0 Q H locs ls B hq hP hl hS
  have B0 := B
  obtain ⟨hb, ho, hnl, hR, hE⟩ := hK
  obtain ⟨b1, b2, b3, hts, hown, b6, hKK, hO1, hbs, hG, hw, hst9⟩ := B
  rw [ho] at hown
  have hq0 := hq
  rw [hE] at hq0
  have hg : ∀ x ∈ va_wsS RL index yL_setup (WS (yL_setup, cL_setup, 6, some (.object "java/lang/String"))), x ∈ TG := fun x hx => by
    unfold va_wsS at hx
    rcases List.mem_append.mp hx with hx | hx
    · simp only [List.mem_cons, List.not_mem_nil, or_false] at hx
      rcases hx with rfl | rfl | rfl
      · exact hlink
      · exact hstt
      · exact mkL_setup.1.2
    · exact (zWS_good mkL_setup x hx).1
  have hb9 : gb (kG K) ≤ H.size := Nat.le_trans hbs hS.1
  have hF : ∀ q, gF (gV (kG K) H.size) q → gF (kG K) q := fun q h => hfr q (Nat.le_trans hb9 (gV_F.mp h))
  have hM := e_setup (G := gV (kG K) H.size) (l := kl K) (c := c) (n := n) gV_fr hL hc1 hc hn
  have e14 : gad (gV (kG K) H.size) 1400 = gad (kG K) 1400 := gV_old (by decide)
  rw [e14, lvs_cg (show gs (gV (kG K) H.size) = gs (kG K) from rfl), lqs_cg (show gs (gV (kG K) H.size) = gs (kG K) from rfl)] at hM
  have hpre : PreS s H (va_Pc [.ref (gad (kG K) 1400), .int (nI c), .int (nI n)] (fun U => qWl (gV (kG K) H.size) [] U ∧ (kl K).stackTraces = false)) [.ref (gad (kG K) 1400), .int (nI c), .int (nI n)] := ⟨qWl_blind, fun U hU hW => ⟨rfl, ⟨fun k q h => (by cases h), ⟨fun i j p q h => (by cases h), fun k q h => (by cases h)⟩, va_K.moved hW.alike hKK, zOld_mono (fun r hr => gV_old hr) hF rfl rfl (zOld_warm hW (by rw [hU]; exact hS.2.1) hO1), by rw [hU]; exact Nat.le_refl _, gV_ok, va_Nw.warmC hW hq0.1.2⟩, hst9⟩⟩
  have hr := vx_runS (p := p) (l := kl K) (e := e) (R := kR K) (s := s) (m := m) (args := args) (below := below) (meth := meth) (c := c0) (H := H) (locs := locs) (cells := u.1) (slots := u.2) (As := [.ref (gad (kG K) 1400), .int (nI c), .int (nI n)]) (n := 3) (g := F0 m pc ls (.int (nI n) :: .int (nI c) :: .ref (gad (kG K) 1400) :: S)) (rest := S) ⟨b1, b2.trans hb, b3, hown, hts⟩ hM (va_cwS 3 hts (goodIn_TG hg) rfl rfl rfl mkL_setup.2.1 (by rw [hR]; exact zlroom (d := 9) rfl mkL_setup.2.2)) hpre rfl rfl (hl.1.trans rfl) rfl (lv_room (Nat.le_of_ble_eq_true h8)) hdg (by rw [hR]; exact hu)
  refine rr_run B0 hq hl hS hF (fun E st t hx => hx) hr (J := fun v H' => I H' ∧ ∃ (s9 h9 : Nat) (g : Nat → Int32), v = some (.ref s9) ∧ (∀ j, j < (txt (lvs (kG K)) c (lqs (kG K) c n)).length → g j = nI ((txt (lvs (kG K)) c (lqs (kG K) c n)).getD j 0)) ∧ TX (kG K) lo s9 h9 (txt (lvs (kG K)) c (lqs (kG K) c n)).length g H') (fun st v t h0 h => ?_) (fun v => ?_)
  · obtain ⟨v', w, hv, ⟨s9, h9, a9, b9, m9, g, f, hv2, rfl, hg9⟩, hPw, hDw, hF2⟩ := h
    rw [hv2] at hv
    refine ⟨⟨?_, s9, h9, g, by injection hv, hg9, ⟨?_, ?_, ?_⟩⟩, hF2⟩
    · obtain ⟨f1, f2⟩ := hF2
      rw [h0] at f1 f2
      exact hI H t.heap hP f1 (fun q hq => f2 q hq (fun z => absurd (gV_F.mp z) (by omega)))
    · intro k q hk
      match k, hk with
      | 0, hk => cases hk; exact hPw 1 _ rfl
      | 1, hk => cases hk; exact hPw 0 _ rfl
    · exact Nat.le_trans (hlo H hP) (gV_F.mp (hDw.2 1 _ rfl))
    · exact Nat.le_trans (hlo H hP) (gV_F.mp (hDw.2 0 _ rfl))
  · intro p e s m args below meth c Q H locs ls B hq hP hl hS
    obtain ⟨hP, s9, h9, g, rfl, hg9, hT⟩ := hP
    exact kv s9 h9 g hg9 p e s m args below meth c Q H locs ls B hq ⟨hP, hT⟩ hl hS
end RRC
