/-! THE LAW'S TEXT IS BUILT: the calls of the law's numbers, the text's parts -/
theorem zLdc_ge : ∀ q ∈ zLdc, 1000 ≤ q.2.2.2 := by
  have h : zLdc.all (fun q => decide (1000 ≤ q.2.2.2)) = true := by decide +kernel
  exact fun q hq => of_decide_eq_true (List.all_eq_true.mp h q hq)
theorem zOld_mono {G G' : zG} {s : State} (h1 : ∀ r, 1000 ≤ r → gad G' r = gad G r) (A : ∀ q, gF G' q → gF G q) (h3 : gs G' = gs G) (h4 : gt G' = gt G) (h : zOld G s) : zOld G' s := by
  obtain ⟨⟨a1, a2, a3, a4, a5, a6, a7⟩, ⟨b1, b2, b3, b4, b5⟩, c1, d1, n1, x1, f1, g1, e1, e2⟩ := h
  have st : ∀ {C n : String} {r N : Nat} {f : Nat → Int32}, 1000 ≤ r → zSt G C n r N f s → zSt G' C n r N f s := fun hr h => by
    unfold zSt at h ⊢
    rw [h1 _ hr]
    exact ⟨h.1.narrow A, h.2.narrow A⟩
  have ft : ∀ {n : String} {r : Nat}, 1000 ≤ r → zFt G n r s → zFt G' n r s := fun hr h => by
    unfold zFt at h ⊢
    rw [h1 _ hr]
    exact va_Z.narrow h A
  have fn : ∀ k, 1000 ≤ k → (fun j => gad G' (k + j)) = fun j => gad G (k + j) := fun k hk => funext fun j => h1 _ (by omega)
  refine ⟨⟨st (by decide) a1, st (by decide) a2, st (by decide) a3, st (by decide) a4, ?_, ?_, ?_⟩, ⟨ft (by decide) b1, ft (by decide) b2, ft (by decide) b3, ft (by decide) b4, ?_⟩, ?_, fun q hq => ?_, n1, x1, f1.narrow A, ?_, e1.narrow A, e2.narrow A⟩
  · unfold zSc at a5 ⊢
    rw [h1 _ (by decide), h3]
    exact a5.narrow A
  · unfold zTt at a6 ⊢
    rw [h1 _ (by decide), h1 _ (by decide), h4]
    exact a6.imp id (fun z => z.narrow A)
  · unfold zDg at a7 ⊢
    rw [h1 _ (by decide), h1 _ (by decide)]
    exact ⟨⟨a7.1.1.narrow A, a7.1.2.narrow A⟩, a7.2.1.narrow A, a7.2.2.narrow A⟩
  · rw [h1 _ (by decide), h1 _ (by decide), h1 _ (by decide), h1 _ (by decide)]
    exact b5
  · rw [fn 1100 (by decide), fn 1200 (by decide)]
    exact c1.narrow A
  · rw [h1 _ (zLdc_ge q hq)]
    exact d1 q hq
  · rw [h1 _ (by decide)]
    exact g1.elim (fun z => Or.inl (z.narrow A)) (fun z => Or.inr (z.narrow A))
/-- the run's constants with new roles from h on, all below kept -/
def gU (G : zG) (h : Nat) : zG := (gD G, gA G, (fun r => if r < 321 then h + r else gad G r), gb G, (0, h), gs G, gt G)
theorem gU_ok {G : zG} {h : Nat} (hb : gb G ≤ h) : zGok (gU G h) := by
  refine ⟨fun r q hr hq e => ?_, fun r hr => ?_⟩
  · have hr : r < 321 := hr
    have hq : q < 321 := hq
    have e : (if r < 321 then h + r else gad G r) = (if q < 321 then h + q else gad G q) := e
    rw [if_pos hr, if_pos hq] at e
    omega
  · have hr : r < 321 := hr
    have e : gad (gU G h) r = h + r := if_pos hr
    rw [e]
    refine ⟨?_, ?_⟩
    · show gb G ≤ h + r
      omega
    · show ¬ (0 ≤ h + r ∧ h + r < h)
      omega
theorem gU_old {G : zG} {h r : Nat} (hr : 1000 ≤ r) : gad (gU G h) r = gad G r := if_neg (by omega)
theorem gU_F {G : zG} {h q : Nat} (hq : gF (gU G h) q) : gb G ≤ q ∧ h ≤ q := by
  obtain ⟨h1, h2⟩ := hq
  have h2 : ¬ (0 ≤ q ∧ q < h) := h2
  exact ⟨h1, by omega⟩
section QQT
variable {K : zK} {u : Nat × Nat} {pc : Nat} {L : List (Nat × Value)} {S st9 as : List Value} {ws : va_W} {cc : ByteArray} {own nm : String} {mc : Nat × Nat} {y : MethodName} {bc : ByteArray} {nL n d dK index : Nat}
theorem qq_widen {u' : Nat × Nat} (h : u.1 ≤ u'.1 ∧ u.2 ≤ u'.2) (k : QQ K u' pc L S ws) : QQ K u pc L S ws := fun p e s m args below meth c Q H locs ls B hq hP hD hl hS => W.widen h.1 h.2 (k p e s m args below meth c Q H locs ls B hq hP hD hl hS)
/-- a static method of the law that only reads the script -/
theorem qq_invCT (hb : kcc K = cc) (ho : kown K = own) (hR : kR K = zR dK mc) (hMk : zMk y bc nL (some .int) n) (hn : as.length = n) (hd : Nat.ble (d + 1) dK = true) (hu : u.1 ≤ mc.1 ∧ u.2 ≤ mc.2) (has : ∀ v ∈ as, ∀ r, v = .ref r → 1000 ≤ r) (hst : st9 = (as.map (zv (kG K))).reverse ++ S)
    (hlink : Cond.methodLink own index y ∈ TG) (hstt : Cond.static y ∈ TG) (h8 : Nat.ble (S.map fun v => v.category).sum 8 = true) (hfr : qFr (kG K)) (hdg : decode cc pc = .ok (.invokestatic index, 3)) {x : Int32}
    (hM : ∀ G' : zG, gs G' = gs (kG K) → CT G' (0, 0) (kl K) (y, bc, nL, some .int) d (0, 0) as (fun _ _ => 0) (qE x (fun _ _ => 0)) nX) (kv : QQ K u (pc + 3) L (.int x :: S) ws) : QQ K u pc L st9 ws := by
  intro p e s m args below meth c0 Q H locs ls B hq hP hD hl hS
  have B0 := B
  obtain ⟨b1, b2, b3, hts, hown, b6, hK, hO1, hbs, hG, hw, hst9⟩ := B
  rw [ho] at hown
  have hg : ∀ x ∈ va_wsS own index y (WS (y, bc, nL, some .int)), x ∈ TG := fun x hx => by
    unfold va_wsS at hx
    rcases List.mem_append.mp hx with hx | hx
    · simp only [List.mem_cons, List.not_mem_nil, or_false] at hx
      rcases hx with rfl | rfl | rfl
      · exact hlink
      · exact hstt
      · exact hMk.1.2
    · exact (zWS_good hMk x hx).1
  have hb9 : gb (kG K) ≤ H.size := Nat.le_trans hbs hS.1
  have ea : as.map (zv (gU (kG K) H.size)) = as.map (zv (kG K)) := List.map_congr_left (fun v hv => by
    cases v with
    | ref r => exact congrArg Value.ref (gU_old (has _ hv r rfl))
    | _ => rfl)
  have hpre : PreS s H (va_Pc (as.map (zv (gU (kG K) H.size))) (fun U => zWl (gU (kG K) H.size) (0, 0) (fun _ _ => 0) U ∧ (kl K).stackTraces = false)) (as.map (zv (gU (kG K) H.size))) := ⟨zWl_blind, fun U hU hW => ⟨rfl, ⟨fun k q h => absurd h (by simp [zw]), va_K.moved hW.alike hK, zOld_mono (fun r hr => gU_old hr) (fun q h => hfr q (gU_F h).1) rfl rfl (zOld_warm hW (by rw [hU]; exact hS.2.1) hO1), by rw [hU]; exact hb9, gU_ok hb9, wok00⟩, hst9⟩⟩
  have hr := vx_runS (p := p) (l := kl K) (e := e) (R := kR K) (s := s) (m := m) (args := args) (below := below) (meth := meth) (c := c0) (H := H) (locs := locs) (cells := u.1) (slots := u.2) (As := as.map (zv (gU (kG K) H.size))) (n := n) (g := F0 m pc ls st9) (rest := S) ⟨b1, b2.trans hb, b3, hown, hts⟩ (hM (gU (kG K) H.size) rfl) (va_cwS n hts (goodIn_TG hg) rfl rfl rfl hMk.2.1 (by rw [hR]; exact zroom hd hMk.2.2)) hpre rfl (by rw [List.length_map]; exact hn) (hl.1.trans rfl) (by rw [ea]; exact hst) (lv_room (Nat.le_of_ble_eq_true h8)) hdg (by rw [hR]; exact hu)
  intro T hT Xs
  rcases hr T hT Xs with ⟨v, st₀, t, T', Ll, h0, X', hL, e1, e2, ⟨v', J, hv, ⟨r, hv2, rfl, hJ⟩, hW, hF⟩, st⟩ | ⟨q, st₀, t, T', Ll, E, ce, h0, X', hL, e1, e2, ⟨J, hx, hW, hF⟩, hce, hcv, hcl, st⟩
  · have hA : ∀ q, q < H.size → gF (gU (kG K) H.size) q → gF (kG K) q := fun q h1 h2 => absurd (gU_F h2).2 (by omega)
    obtain ⟨z1, z2, hS'⟩ := vx_keep h0 e1 hS hA (fun q h => hfr q (gU_F h).1) hL hF
    have hv3 : v = some (.int r) := by
      rw [hv2] at hv
      injection hv
    subst hv3
    have hP' : va_P (gD (kG K)) vwCl ws T'.heap := hP.kept (fun k q hk => z2 q.1 (hP k q hk).lt (fun h => absurd (gU_F h).2 (by have := (hP k q hk).lt; omega)))
    obtain ⟨t2, a1, b1⟩ := kv p e s m args below meth c0 Q T'.heap (locs ++ Ll) ls B0 hq hP' hD hl hS' T' rfl X'
    exact ⟨t2, st t2 a1, b1⟩
  · exact hx.elim
end QQT
/-! the text's parts -/
def xOff : List Nat := [111, 102, 102, 105, 99, 101, 32]
def xClk : List Nat := [99, 108, 101, 114, 107, 32, 99]
def xLet : List Nat := [108, 101, 116, 116, 101, 114, 32, 99]
theorem zs_off (G : zG) : zStr G 1103 1203 xOff.length (xOff.map nI) := zs_con G (j := 3) (by decide)
theorem zs_clk (G : zG) : zStr G 1104 1204 xClk.length (xClk.map nI) := zs_con G (j := 4) (by decide)
theorem zs_let (G : zG) : zStr G 1105 1205 xLet.length (xLet.map nI) := zs_con G (j := 5) (by decide)
theorem tx_off : txOK xOff := by unfold txOK; decide
theorem tx_clk : txOK xClk := by unfold txOK; decide
theorem tx_let : txOK xLet := by unfold txOK; decide
theorem clksT_snoc : ∀ k c, clksT c (k + 1) = clksT c k ++ clkT (c + k)
  | 0, c => by simp [clksT]
  | k + 1, c => by
    show clkT c ++ clksT (c + 1) (k + 1) = (clkT c ++ clksT (c + 1) k) ++ clkT (c + (k + 1))
    rw [clksT_snoc k (c + 1), List.append_assoc, show c + 1 + k = c + (k + 1) by omega]
theorem clksT_len : ∀ k c, (clksT c k).length = 9 * k
  | 0, _ => rfl
  | k + 1, c => by
    show (clkT c ++ clksT (c + 1) k).length = _
    rw [List.length_append, clksT_len k (c + 1)]
    show 9 + 9 * k = _
    omega
theorem letsT_app : ∀ (qs rs : List (Nat × List Nat)), letsT (qs ++ rs) = letsT qs ++ letsT rs
  | [], _ => rfl
  | q :: qs, rs => by
    show letT q ++ letsT (qs ++ rs) = (letT q ++ letsT qs) ++ letsT rs
    rw [letsT_app qs rs, List.append_assoc]
section PRT
variable {G : zG} {c k n : Nat}
/-- the law's letters: clerk, length, arrival, deadline, priority -/
def lqz (z c : Nat) : Nat × List Nat := (z % c, [1 + z / 8 % 9, z / 128 % 16, 1 + z / 4096 % 60, z / 262144 % 10])
def lqs (G : zG) (c n : Nat) : List (Nat × List Nat) := (List.range n).map (fun k => lqz (pik G (8 + k) 268435456) c)
def lvs (G : zG) : List Nat := [stg G 0, stg G 1, stg G 2, stg G 3, stg G 4, stg G 5, stg G 6]
theorem lqs_len : (lqs G c n).length = n := by unfold lqs; simp
theorem lqs_snoc : lqs G c (n + 1) = lqs G c n ++ [lqz (pik G (8 + n) 268435456) c] := by
  unfold lqs
  rw [List.range_succ, List.map_append]
  rfl
theorem dgt_1 {v : Nat} (h : v < 10) : (dgt v).length = 1 := by rw [dgt_len, if_pos h]
theorem dgt_2 (v : Nat) : (dgt v).length ≤ 2 := by rw [dgt_len]; split <;> omega
theorem stg_lt (G : zG) : stg G 0 < 5 ∧ stg G 1 < 4 ∧ (1 ≤ stg G 2 ∧ stg G 2 < 13) ∧ stg G 3 < 4 ∧ (1 ≤ stg G 4 ∧ stg G 4 < 5) ∧ (1 ≤ stg G 5 ∧ stg G 5 < 9) ∧ stg G 6 < 3 := by
  have p1 := pik_lt (G := G) (k := 1) (n := 5) (by omega)
  have p2 := pik_lt (G := G) (k := 2) (n := 4) (by omega)
  have p3 := pik_lt (G := G) (k := 3) (n := 12) (by omega)
  have p4 := pik_lt (G := G) (k := 4) (n := 4) (by omega)
  have p5 := pik_lt (G := G) (k := 5) (n := 4) (by omega)
  have p6 := pik_lt (G := G) (k := 6) (n := 8) (by omega)
  have p7 := pik_lt (G := G) (k := 7) (n := 3) (by omega)
  refine ⟨p1, p2, ⟨?_, ?_⟩, p4, ⟨?_, ?_⟩, ⟨?_, ?_⟩, p7⟩
  · show 1 ≤ 1 + _; omega
  · show 1 + pik G 3 12 < 13; omega
  · show 1 ≤ 1 + _; omega
  · show 1 + pik G 5 4 < 5; omega
  · show 1 ≤ 1 + _; omega
  · show 1 + pik G 6 8 < 9; omega
theorem hd_eq : hdT (lvs G) = (((((((((((((xOff ++ dgt (stg G 0)) ++ [32]) ++ dgt (stg G 1)) ++ [32]) ++ dgt (stg G 2)) ++ [32]) ++ dgt (stg G 3)) ++ [32]) ++ dgt (stg G 4)) ++ [32]) ++ dgt (stg G 5)) ++ [32]) ++ dgt (stg G 6)) ++ [59] := by
  unfold hdT lvs
  simp [spns, spn, wOff, xOff]
theorem hd_len : (hdT (lvs G)).length ≤ 22 := by
  obtain ⟨h0, h1, h2, h3, h4, h5, h6⟩ := stg_lt G
  have d := dgt_2 (stg G 2)
  rw [hd_eq]
  simp only [List.length_append, List.length_cons, List.length_nil, dgt_1 (show stg G 0 < 10 by omega), dgt_1 (show stg G 1 < 10 by omega), dgt_1 (show stg G 3 < 10 by omega), dgt_1 (show stg G 4 < 10 by omega), dgt_1 (show stg G 5 < 10 by omega), dgt_1 (show stg G 6 < 10 by omega), show xOff.length = 7 from rfl]
  omega
theorem let_eq {T : List Nat} {a x1 x2 x3 x4 : Nat} : T ++ letT (a, [x1, x2, x3, x4]) = ((((((((((T ++ xLet) ++ [97 + a]) ++ [32]) ++ dgt x1) ++ [32]) ++ dgt x2) ++ [32]) ++ dgt x3) ++ [32]) ++ dgt x4) ++ [59] := by
  unfold letT
  simp [spns, spn, wLet, xLet]
theorem clk_eq {T : List Nat} : T ++ clkT k = ((T ++ xClk) ++ [97 + k]) ++ [59] := by
  unfold clkT
  simp [wClk, xClk]
theorem lets_len (c : Nat) : ∀ n, (letsT (lqs G c n)).length ≤ 20 * n
  | 0 => by simp [lqs, letsT]
  | n + 1 => by
    have h := lets_len c n
    rw [lqs_snoc, letsT_app, List.length_append]
    have e : (letsT [lqz (pik G (8 + n) 268435456) c]).length ≤ 20 := by
      have d2 := dgt_2 (pik G (8 + n) 268435456 / 128 % 16)
      have d3 := dgt_2 (1 + pik G (8 + n) 268435456 / 4096 % 60)
      show (letT (lqz _ c) ++ []).length ≤ 20
      unfold lqz letT
      simp only [spns, spn, wLet, List.length_append, List.length_cons, List.length_nil, dgt_1 (show 1 + pik G (8 + n) 268435456 / 8 % 9 < 10 by omega), dgt_1 (show pik G (8 + n) 268435456 / 262144 % 10 < 10 by omega)]
      omega
    omega
end PRT
