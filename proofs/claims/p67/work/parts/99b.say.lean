/-! THE LAW FROM ITS ENTRY TO ITS LOOP: say, load -/
theorem zLdc_no : ∀ q ∈ zLdc, 1000 ≤ q.2.2.2 ∧ q.2.2.2 < 1400 := by
  have h : zLdc.all (fun q => decide (1000 ≤ q.2.2.2 ∧ q.2.2.2 < 1400)) = true := by decide +kernel
  exact fun q hq => of_decide_eq_true (List.all_eq_true.mp h q hq)
/-- other constants, and another text -/
theorem zOld_text {G G' : zG} {s : State} (h1 : ∀ r, 1000 ≤ r → r ≠ 1401 → r ≠ 1402 → gad G' r = gad G r) (A : ∀ q, gF G' q → gF G q) (h3 : gs G' = gs G) (h4 : zTt G' s) (h : zOld G s) : zOld G' s := by
  obtain ⟨⟨a1, a2, a3, a4, a5, a6, a7⟩, ⟨b1, b2, b3, b4, b5⟩, c1, d1, n1, x1, f1, g1, e1, e2⟩ := h
  have st : ∀ {C n : String} {r N : Nat} {f : Nat → Int32}, 1000 ≤ r ∧ r < 1400 → zSt G C n r N f s → zSt G' C n r N f s := fun hr h => by
    unfold zSt at h ⊢
    rw [h1 _ hr.1 (by omega) (by omega)]
    exact ⟨h.1.narrow A, h.2.narrow A⟩
  have ft : ∀ {n : String} {r : Nat}, 1000 ≤ r ∧ r < 1400 → zFt G n r s → zFt G' n r s := fun hr h => by
    unfold zFt at h ⊢
    rw [h1 _ hr.1 (by omega) (by omega)]
    exact va_Z.narrow h A
  refine ⟨⟨st (by decide) a1, st (by decide) a2, st (by decide) a3, st (by decide) a4, ?_, h4, ?_⟩, ⟨ft (by decide) b1, ft (by decide) b2, ft (by decide) b3, ft (by decide) b4, ?_⟩, ⟨fun i hi => ?_, fun i j hi hj e => ?_⟩, fun q hq => ?_, n1, x1, f1.narrow A, ?_, e1.narrow A, e2.narrow A⟩
  · unfold zSc at a5 ⊢
    rw [h1 _ (by decide) (by decide) (by decide), h3]
    exact a5.narrow A
  · unfold zDg at a7 ⊢
    rw [h1 _ (by decide) (by decide) (by decide), h1 _ (by decide) (by decide) (by decide)]
    exact ⟨⟨a7.1.1.narrow A, a7.1.2.narrow A⟩, a7.2.1.narrow A, a7.2.2.narrow A⟩
  · rw [h1 _ (by decide) (by decide) (by decide), h1 _ (by decide) (by decide) (by decide), h1 _ (by decide) (by decide) (by decide), h1 _ (by decide) (by decide) (by decide)]
    exact b5
  · have z := (c1.narrow A).1 i hi
    dsimp only at z ⊢
    rw [h1 (1100 + i) (by omega) (by omega) (by omega), h1 (1200 + i) (by omega) (by omega) (by omega)]
    exact z
  · have e : gad G' (1100 + i) = gad G' (1100 + j) := e
    rw [h1 (1100 + i) (by omega) (by omega) (by omega), h1 (1100 + j) (by omega) (by omega) (by omega)] at e
    exact c1.2 i j hi hj e
  · rw [h1 _ (zLdc_no q hq).1 (by have := (zLdc_no q hq).2; omega) (by have := (zLdc_no q hq).2; omega)]
    exact d1 q hq
  · rw [h1 _ (by decide) (by decide) (by decide)]
    exact g1.elim (fun z => Or.inl (z.narrow A)) (fun z => Or.inr (z.narrow A))
/-- the text's String, as one that is kept -/
theorem tx_str {G : zG} {s : State} {args : Array Value} {H : Heap} {A : Nat → Prop} {lo s9 h9 N : Nat} {g : Nat → Int32} {T : List Nat} (hts : ∀ w ∈ TG, w.before args s = true) (hK : va_K (gD G) vwCl (zt G) s) (hN : N = T.length) (hg : ∀ j, j < N → g j = nI (T.getD j 0)) (h : TX G lo s9 h9 N g H) (h1 : ¬ A s9) (h2 : ¬ A h9) : vk_S 1 [N] [T.map nI] (fun _ => s9) (fun _ => h9) A s H := by
  obtain ⟨hP, -, -⟩ := h
  have a1 := hP 0 _ rfl
  have a2 : H[h9]? = some (vp_cell (gA G 21) (N, .inl g)) := hP 1 _ rfl
  obtain ⟨r, c1, cell, q1, q2, q3, q4⟩ := a1
  have hr : r = (RJ0, TJ0, 4) := Option.some.inj (c1.symm.trans cJ0.1)
  subst hr
  obtain ⟨hS, hfc, kC, hkC, hkind⟩ := hK.1 12 _ cJ0.1
  have fld : ∀ k v, k < 4 → vp_V [.ref h9, .int 0, .int 0, .int 0] k = v → va_OF (TJ0 k).1 (TJ0 k).2.1 (TJ0 k).2.2.1 v s9 A s H := fun k v hk hv => by
    obtain ⟨cf, kf, fi, f, hi, hsl⟩ := hS k hk
    refine ⟨cf, kf, fi, f, cell, hi, (u_facts hfc hkC (u_lays hts cJ0.2.1 hk) hi).1, q1, by rw [q3]; exact fun h => (by cases h), ?_, h1⟩
    rw [hsl, q4 k hk]
    exact congrArg some hv
  refine ⟨fun i hi => ?_, fun i j hi hj _ => by omega⟩
  obtain rfl : i = 0 := by omega
  refine ⟨⟨cell, q1, by rw [q3]; rfl, by rw [q2]; exact hfc, h1⟩, fld 1 _ (by decide) rfl, fld 0 _ (by decide) rfl, ?_⟩
  have hAr := (hK.2 1 (gA G 21, .byte) rfl).1 N (fun j => .int (g j))
  refine ⟨_, a2, hAr, fun h => (by cases h), Nat.le_of_eq ?_, ?_, fun j hj => ?_, h2⟩
  · exact (arrV_size _ _ _).symm
  · show (arrV (gA G 21) N (fun j => .int (g j))).slots.size.toInt32 = Int32.ofNat N
    rw [arrV_size]
  · have hj : j < N := hj
    have e : (arrV (gA G 21) N (fun j => .int (g j))).slots[j]? = some (.int (g j)) := arrV_read _ _ hj
    show (arrV (gA G 21) N (fun j => .int (g j))).slots[j]? = _
    rw [e, hg j hj]
    have hl : j < T.length := by omega
    show some (Value.int (nI (T.getD j 0))) = some (.int ((T.map nI).getD j 0))
    rw [mapD hl, List.getD_eq_getElem?_getD, List.getElem?_eq_getElem hl]
    rfl
/-- the run's constants while the text is read -/
def gT (G : zG) (s9 h9 lo h : Nat) (T : List Nat) : zG := (gD G, gA G, (fun r => if r = 1401 then s9 else if r = 1402 then h9 else if r < 312 then gad G r else if r < 321 then h + r else gad G r), gb G, (lo, h), gs G, (T.length, T.map nI))
section GT
variable {G : zG} {s9 h9 lo h : Nat} {T : List Nat}
theorem gT_lo {r : Nat} (hr : r < 312) : gad (gT G s9 h9 lo h T) r = gad G r := by
  show (if r = 1401 then s9 else if r = 1402 then h9 else if r < 312 then gad G r else _) = _
  rw [if_neg (by omega), if_neg (by omega), if_pos hr]
theorem gT_mid {r : Nat} (h1 : 312 ≤ r) (hr : r < 321) : gad (gT G s9 h9 lo h T) r = h + r := by
  show (if r = 1401 then s9 else if r = 1402 then h9 else if r < 312 then gad G r else if r < 321 then h + r else gad G r) = _
  rw [if_neg (by omega), if_neg (by omega), if_neg (by omega), if_pos hr]
theorem gT_hi {r : Nat} (h1 : 1000 ≤ r) (h2 : r ≠ 1401) (h3 : r ≠ 1402) : gad (gT G s9 h9 lo h T) r = gad G r := by
  show (if r = 1401 then s9 else if r = 1402 then h9 else if r < 312 then gad G r else if r < 321 then h + r else gad G r) = _
  rw [if_neg h2, if_neg h3, if_neg (by omega), if_neg (by omega)]
theorem gT_ok (h1 : ∀ r, r < 312 → gb G ≤ gad G r ∧ gad G r < lo) (hi : ∀ r q, r < 312 → q < 312 → gad G r = gad G q → r = q) (hl : lo ≤ h) (hb : gb G ≤ h) : zGok (gT G s9 h9 lo h T) := by
  refine ⟨fun r q hr hq e => ?_, fun r hr => ?_⟩
  · have hr : r < 321 := hr
    have hq : q < 321 := hq
    by_cases a : r < 312 <;> by_cases c : q < 312
    · rw [gT_lo a, gT_lo c] at e
      exact hi r q a c e
    · rw [gT_lo a, gT_mid (by omega) hq] at e
      have := (h1 r a).2
      omega
    · rw [gT_mid (by omega) hr, gT_lo c] at e
      have := (h1 q c).2
      omega
    · rw [gT_mid (by omega) hr, gT_mid (by omega) hq] at e
      omega
  · have hr : r < 321 := hr
    by_cases a : r < 312
    · rw [gT_lo a]
      refine ⟨(h1 r a).1, fun z => ?_⟩
      have z1 : lo ≤ gad G r := z.1
      have := (h1 r a).2
      omega
    · rw [gT_mid (by omega) hr]
      refine ⟨?_, fun z => ?_⟩
      · show gb G ≤ h + r; omega
      · have z2 : h + r < h := z.2
        omega
end GT
section RRS
variable {K : zK} {u : Nat × Nat} {pc : Nat} {L : List (Nat × Value)} {S : List Value} {b Lz : Nat} {xs : Nat → Int32} {Z : lZ} {index : Nat} {M : zM}
/-- where the office's cells lie -/
def lowOK (G : zG) (lo : Nat) : Prop := (∀ r, r < 312 → gb G ≤ gad G r ∧ gad G r < lo) ∧ ∀ r q, r < 312 → q < 312 → gad G r = gad G q → r = q
theorem rr_say {lo s9 h9 : Nat} {g : Nat → Int32} {T : List Nat} (hK : zKl K b Lz xs Z) (hfr : qFr (kG K)) (hlow : lowOK (kG K) lo) (h0 : LT 0 = 10) (hT : T.length ≠ 0 ∧ T.length ≤ 560 ∧ txOK T) (hg : ∀ j, j < T.length → g j = nI (T.getD j 0)) (hM : ∃ N, N ≤ 600 ∧ M 285 1 = nI N) (hu : u.1 ≤ 600086 ∧ u.2 ≤ 7301442)
    (hlink : Cond.methodLink RL index yL_say ∈ TG) (hstt : Cond.static yL_say ∈ TG) (h8 : Nat.ble (S.map fun v => v.category).sum 8 = true) (hdg : decode cL_law pc = .ok (.invokestatic index, 3))
    (kv : RR K u (pc + 3) L (.int 1 :: S) (va_P (gD (kG K)) vwCl (zw (kG K) (0, 312) (sayM M T)))) : RR K u pc L (.ref s9 :: .ref (gad (kG K) 0) :: S) (fun H => va_P (gD (kG K)) vwCl (zw (kG K) (0, 312) M) H ∧ TX (kG K) lo s9 h9 T.length g H) := by
  intro p e s m args below meth c0 Q H locs ls B hq hP hl hS
  have B0 := B
  obtain ⟨hb, ho, hnl, hR, -⟩ := hK
  obtain ⟨b1, b2, b3, hts, hown, b6, hKK, hO1, hbs, hG, hw, hst9⟩ := B
  rw [ho] at hown
  have hg9 : ∀ x ∈ va_wsS RL index yL_say (WS (yL_say, cL_say, 3, some .boolean)), x ∈ TG := fun x hx => by
    unfold va_wsS at hx
    rcases List.mem_append.mp hx with hx | hx
    · simp only [List.mem_cons, List.not_mem_nil, or_false] at hx
      rcases hx with rfl | rfl | rfl
      · exact hlink
      · exact hstt
      · exact mkL_say.1.2
    · exact (zWS_good mkL_say x hx).1
  obtain ⟨hP1, hTX⟩ := hP
  have hTX0 := hTX
  obtain ⟨hPt, hs9, hh9⟩ := hTX
  have l1 : s9 < H.size := (hPt 0 _ rfl).lt
  have l2 : h9 < H.size := (hPt 1 _ rfl).lt
  have hb9 : gb (kG K) ≤ H.size := Nat.le_trans hbs hS.1
  have hF : ∀ q, gF (gT (kG K) s9 h9 lo H.size T) q → gF (kG K) q := fun q h => hfr q h.1
  have eF : ∀ q, lo ≤ q → q < H.size → ¬ gF (gT (kG K) s9 h9 lo H.size T) q := fun q z1 z2 z => z.2 ⟨z1, z2⟩
  have hok : zGok (gT (kG K) s9 h9 lo H.size T) := gT_ok hlow.1 hlow.2 (by omega) hb9
  have isx : isTx (gT (kG K) s9 h9 lo H.size T) T := ⟨rfl, hT.1, hT.2.1, hT.2.2⟩
  obtain ⟨N, hN, eN⟩ := hM
  have hx : isT (0, 312) 10 0 := ⟨⟨Nat.zero_le _, by decide⟩, h0⟩
  have hM9 := e_say (G := gT (kG K) s9 h9 lo H.size T) (w := (0, 312)) (gl := kl K) (M := M) hx isx eN hN
  have ea : ([.ref 0, .ref 1401] : List Value).map (zv (gT (kG K) s9 h9 lo H.size T)) = [.ref (gad (kG K) 0), .ref s9] := by
    show [Value.ref (gad (gT (kG K) s9 h9 lo H.size T) 0), Value.ref (gad (gT (kG K) s9 h9 lo H.size T) 1401)] = _
    rw [gT_lo (by decide)]
    rfl
  have hcg : ∀ M9, va_P (gD (kG K)) vwCl (zw (kG K) (0, 312) M9) H → va_P (gD (kG K)) vwCl (zw (gT (kG K) s9 h9 lo H.size T) (0, 312) M9) H := fun M9 h => zP_cg (G := kG K) w312 rfl (fun r _ z => gT_lo z) (fun r _ z k hk h4 => absurd (sT_40b r (by have : r < 312 := z; omega) k hk h4).2 (by have : r < 312 := z; omega)) h
  have hpre : PreS s H (va_Pc (([.ref 0, .ref 1401] : List Value).map (zv (gT (kG K) s9 h9 lo H.size T))) (fun U => zWl (gT (kG K) s9 h9 lo H.size T) (0, 312) M U ∧ (kl K).stackTraces = false)) (([.ref 0, .ref 1401] : List Value).map (zv (gT (kG K) s9 h9 lo H.size T))) := ⟨zWl_blind, fun U hU hW => ⟨rfl, ⟨by rw [hU]; exact hcg M hP1, va_K.moved hW.alike hKK, zOld_text (fun r z1 z2 z3 => gT_hi z1 z2 z3) hF rfl (Or.inr ?_) (zOld_warm hW (by rw [hU]; exact hS.2.1) hO1), by rw [hU]; exact hb9, hok, w312⟩, hst9⟩⟩
  · have hr := vx_runS (p := p) (l := kl K) (e := e) (R := kR K) (s := s) (m := m) (args := args) (below := below) (meth := meth) (c := c0) (H := H) (locs := locs) (cells := u.1) (slots := u.2) (As := ([.ref 0, .ref 1401] : List Value).map (zv (gT (kG K) s9 h9 lo H.size T))) (n := 2) (g := F0 m pc ls (.ref s9 :: .ref (gad (kG K) 0) :: S)) (rest := S) ⟨b1, b2.trans hb, b3, hown, hts⟩ hM9 (va_cwS 2 hts (goodIn_TG hg9) rfl rfl rfl mkL_say.2.1 (by rw [hR]; exact zlroom (d := 7) rfl mkL_say.2.2)) hpre rfl rfl (hl.1.trans rfl) (by rw [ea]; rfl) (lv_room (Nat.le_of_ble_eq_true h8)) hdg (by rw [hR]; exact hu)
    refine rr_run B0 hq hl hS hF (fun E st t ⟨J, hx, _⟩ => hx) hr (J := fun v H' => v = some (.int 1) ∧ va_P (gD (kG K)) vwCl (zw (kG K) (0, 312) (sayM M T)) H') (fun st v t h0 h => ?_) (fun v => ?_)
    · obtain ⟨v', J, hv, ⟨r, hv2, er, eJ⟩, hPJ, hF2⟩ := h
      rw [hv2, er] at hv
      rw [eJ] at hPJ
      exact ⟨⟨by injection hv, zP_cg (G := gT (kG K) s9 h9 lo H.size T) w312 rfl (fun r _ z => (gT_lo z).symm) (fun r _ z k hk h4 => absurd (sT_40b r (by have : r < 312 := z; omega) k hk h4).2 (by have : r < 312 := z; omega)) hPJ⟩, hF2⟩
    · intro p e s m args below meth c Q H locs ls B hq hP hl hS
      obtain ⟨rfl, hP⟩ := hP
      exact kv p e s m args below meth c Q H locs ls B hq hP hl hS
  · have z := tx_str (T := T) (A := gF (gT (kG K) s9 h9 lo H.size T)) hts hKK rfl hg hTX0 (eF s9 hs9 l1) (eF h9 hh9 l2)
    rw [hU]
    exact z.moved hW.alike
end RRS
