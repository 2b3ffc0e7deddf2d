/-! THE LAW FROM ITS ENTRY TO ITS END -/
theorem vv_initL {K : zK} {u : Nat × Nat} {pc : Nat} {L : List (Nat × Value)} {S : List Value} {b Lz r index nL d : Nat} {xs : Nat → Int32} {Z : lZ} {y : MethodName} {bc : ByteArray} {mc' : Nat × Nat} {I J : Heap → Prop} (hK : zKl K b Lz xs Z) (hMk : zMk y bc nL none 0) (hy : y.name = "<init>") (hlink : Cond.methodLink RL index y ∈ TG) (hins : Cond.instanceMethod y ∈ TG) (hd : Nat.ble d 14 = true) (hu : u.1 + mc'.1 ≤ 600086 ∧ u.2 + mc'.2 ≤ 7301442) (h8 : Nat.ble (S.map fun v => v.category).sum 8 = true) (hdg : decode cL_law pc = .ok (.invokespecial index, 3))
    (hM : CY (kG K) (kl K) (y, bc, nL, none) d mc' r I J) (kk : VV K (u.1 + mc'.1, u.2 + mc'.2) (pc + 3) L S J) : VV K u pc L (.ref r :: S) I := by
  intro p e s m args below meth c0 Q H locs ls B hq hI hl hS
  have B0 := B
  obtain ⟨hb, ho, hnl, hR, hE⟩ := hK
  obtain ⟨b1, b2, b3, hts, hown, b6, hKK, hO1, hb0, hG, hw, hst⟩ := B
  rw [ho] at hown
  have hq0 := hq
  rw [hE] at hq0
  have hA := hq0.1.1
  have hpre : PreS s H (va_Pc [.ref (gad (kG K) r)] (fun U => yWl (kG K) I U ∧ (kl K).stackTraces = false)) (.ref (gad (kG K) r) :: []) := ⟨yWl_blind, fun U hU hW => ⟨rfl, ⟨by rw [hU]; exact hI, va_K.moved hW.alike hKK, zOld_warm hW (by rw [hU]; exact hS.2.1) hO1, by rw [hU]; exact Nat.le_trans hb0 hS.1, hG, hA.warm hW⟩, hst⟩⟩
  have hr := vx_runI (p := p) (l := kl K) (e := e) (R := kR K) (s := s) (m := m) (args := args) (below := below) (meth := meth) (c := c0) (H := H) (locs := locs) (cells := u.1) (slots := u.2) (As := []) (n := 0) (g := F0 m pc ls ((Value.ref r :: S).map (zv (kG K)))) (rest := S.map (zv (kG K))) ⟨b1, b2.trans hb, b3, hown, hts⟩ hM (cwI 0 hts (zWS_good hMk) rfl rfl rfl (hts _ hMk.1.2) (hts _ hlink) (hts _ hins) hy hMk.2.1 (by rw [hR]; exact zlroom hd hMk.2.2)) hpre rfl rfl (hl.1.trans rfl) rfl (zroomS h8) hdg (by rw [hR]; exact hu)
  refine rr_run B0 hq hl hS (fun q h => h) (fun E st t hx => hx) hr (J := fun v H' => v = none ∧ J H') (fun st v t h0 h => ?_) (fun v => ?_)
  · obtain ⟨hv, hp, hF⟩ := h
    exact ⟨⟨by injection hv, hp⟩, hF⟩
  · intro p e s m args below meth c Q H locs ls B hq hP hl hS
    obtain ⟨rfl, hP⟩ := hP
    exact kk p e s m args below meth c Q H locs ls B hq hP hl hS
theorem law_vv {G : zG} {l : Launch} {b Lz : Nat} {xs : Nat → Int32} {Z : lZ} (hsq : ySeq G 0) (hgk : zGok G) (hgx : (gx G).2 = 0) (hL : (gs G).1 ≤ 260)
    (hend : ∀ (G' : zG) (u : Nat × Nat) (I : zM) (Lc : List (Nat × Value)), (∀ q, gF G' q → gb G ≤ q) → u.1 ≤ 600086 ∧ u.2 ≤ 7301442 → ZZ (G', (0, 316), RL, code, 10, l, room_1, phL G' b Lz xs Z) u 189 Lc [.int 1] I) : VV (G, (0, 0), RL, code, 10, l, room_1, phL G b Lz xs Z) (0, 0) 0 [(0, .ref 1400)] [] (yH G 0 0 o0 (fun _ => yT)) := by
  have hfr : qFr G := fun q hq => ⟨hq, fun z => by have z2 := z.2; omega⟩
  have hKL : zKl (G, (0, 0), RL, code, 10, l, room_1, phL G b Lz xs Z) b Lz xs Z := ⟨rfl, rfl, rfl, rfl, rfl⟩
  have h0 : LT 0 = 10 := lyO_p.1
  have ha : ∀ r, r < 312 → gad G r < gad G 312 := fun r h => by
    have x := seq_add hsq (Nat.zero_le r) (312 - r) (by omega)
    rw [show r + (312 - r) = 312 by omega] at x
    omega
  have hlow : ∀ o, gad G 312 ≤ o → lowOK G o := fun o ho => ⟨fun r hr => ⟨(hgk.2 r (by show r < 321; omega)).1, Nat.lt_of_lt_of_le (ha r hr) ho⟩, fun r q hr hq e => hgk.1 r q (by show r < 321; omega) (by show q < 321; omega) e⟩
  have hg12 : gb G ≤ gad G 312 := (hgk.2 312 (by decide)).1
  have hsz : ∀ M H, va_P (gD G) vwCl (zw G (0, 312) M) H → gad G 312 ≤ H.size := fun M H h => by
    have z := (h 311 _ (zw_at (w := (0, 312)) (r := 311) (Nat.zero_le _) (by decide))).lt
    have e := hsq 311 (by omega) (by omega)
    have z : gad G 311 < H.size := z
    have e : gad G 312 = gad G 311 + 1 := e
    omega
  have kpt : ∀ M o, gad G 312 ≤ o → ∀ H H' : Heap, va_P (gD G) vwCl (zw G (0, 312) M) H → H.size ≤ H'.size → (∀ q : Nat, q < o → H'[q]? = H[q]?) → va_P (gD G) vwCl (zw G (0, 312) M) H' := fun M o ho H H' h _ h2 => h.kept (fun k q hk => h2 q.1 (by
    have hl : k < 312 := by
      have := (List.getElem?_eq_some_iff.mp hk).1
      unfold zw at this
      simpa using this
    have hz := zw_at (G := G) (w := (0, 312)) (I := M) (r := k) (Nat.zero_le _) hl
    rw [Nat.sub_zero, hk] at hz
    rw [Option.some.inj hz]
    exact Nat.lt_of_lt_of_le (ha k hl) ho))
  refine vv_new (K := (G, (0, 0), RL, code, 10, l, room_1, phL G b Lz xs Z)) (n := 0) (c := 10) (own := RL) (cc := code) (a := 0) rfl rfl ckX10 h0 (Nat.le_refl _) (hsq 0 (by omega) (by omega)) (rL_law 0 rfl) in_X10 mkX10_init.1.2 (df_of (by decide +kernel)) (by show 0 + 1 ≤ 600086 ∧ 0 + 8 ≤ 7301442; decide) (z_dec dL_law 0 rfl) ?_
  refine vv_dup rfl (z_dec dL_law 1 rfl) rfl ?_
  refine vv_initL (d := 8) (mc' := (311, 2843)) hKL mkX10_init rfl (rL_law 1 rfl) (rL_law 2 rfl) rfl (by show 0 + 1 + 311 ≤ 600086 ∧ 0 + 8 + 2843 ≤ 7301442; decide) rfl (z_dec dL_law 2 rfl) (cy_office (v := 0) hsq hgk hgx) ?_
  refine rr_vv ?_
  refine rr_imp (J := va_P (gD G) vwCl (zw G (0, 312) (oI 0))) (fun H h => by
    rw [← yw_zw (β := fun _ => yT) (fun _ _ _ => rfl)]
    exact h.1) ?_
  have hI := oI_INM
  show RR (G, (0, 0), RL, code, 10, l, room_1, phL G b Lz xs Z) (312, 2851) 7 [(0, .ref (gad G 1400))] [.ref (gad G 0)] _
  refine rr_astore_n (L' := [(1, .ref (gad G 0)), (0, .ref (gad G 1400))]) rfl (z_dec dL_law 3 rfl) rfl rfl rfl rfl ?_
  refine rr_iconst (v := 2) rfl (z_dec dL_law 4 rfl) rfl ?_
  refine rr_aload_n rfl (z_dec dL_law 5 rfl) rfl 1 rfl ?_
  refine rr_iconst (v := nI 0) rfl (z_dec dL_law 6 rfl) rfl ?_
  refine rr_iconst (v := nI 4) rfl (z_dec dL_law 7 rfl) rfl ?_
  refine rr_invCT (S := [.int 2]) (as := [.ref 1400, .int (nI 0), .int (nI 4)]) (d := 0) (x := nI (pik G 0 4)) hKL hfr kept_P mkL_pick rfl rfl (by show 312 ≤ 600086 ∧ 2851 ≤ 7301442; decide) (fun v hv r hr => ?_) rfl (rL_law 3 rfl) (rL_law 4 rfl) rfl (z_dec dL_law 8 rfl) (fun G' hg => ?_) ?_
  · simp only [List.mem_cons, List.not_mem_nil, or_false] at hv
    rcases hv with rfl | rfl | rfl
    · cases hr; decide
    · cases hr
    · cases hr
  · rw [← pik_cg (G := G) (G' := G') hg]
    exact e_pick (by rw [hg]; exact hL) (by decide) (by decide) (by decide)
  refine rr_iadd rfl (z_dec dL_law 9 rfl) ?_
  have hc4 := pik_lt (G := G) (k := 0) (n := 4) (by decide)
  rw [show (2 : Int32) + nI (pik G 0 4) = nI (2 + pik G 0 4) from nI_add 2 _]
  have hc2 : 2 ≤ 2 + pik G 0 4 := by omega
  have hc5 : 2 + pik G 0 4 ≤ 5 := by omega
  generalize 2 + pik G 0 4 = c at *
  refine rr_istore_n (L' := [(2, .int (nI c)), (1, .ref (gad G 0)), (0, .ref (gad G 1400))]) rfl (z_dec dL_law 10 rfl) rfl rfl rfl rfl ?_
  refine rr_aload_n rfl (z_dec dL_law 11 rfl) rfl 2 rfl ?_
  refine rr_bipush (v := nI 20) rfl (z_dec dL_law 12 rfl) (by decide) ?_
  refine rr_bipush (v := nI 10) rfl (z_dec dL_law 13 rfl) (by decide) ?_
  refine rr_invCT (S := []) (as := [.ref 1400, .int (nI 20), .int (nI 10)]) (d := 0) (x := nI (pik G 20 10)) hKL hfr kept_P mkL_pick rfl rfl (by show 312 ≤ 600086 ∧ 2851 ≤ 7301442; decide) (fun v hv r hr => ?_) rfl (rL_law 3 rfl) (rL_law 4 rfl) rfl (z_dec dL_law 14 rfl) (fun G' hg => ?_) ?_
  · simp only [List.mem_cons, List.not_mem_nil, or_false] at hv
    rcases hv with rfl | rfl | rfl
    · cases hr; decide
    · cases hr
    · cases hr
  · rw [← pik_cg (G := G) (G' := G') hg]
    exact e_pick (by rw [hg]; exact hL) (by decide) (by decide) (by decide)
  have hn9 : pik G 20 10 ≤ 9 := by
    have := pik_lt (G := G) (k := 20) (n := 10) (by decide)
    omega
  generalize pik G 20 10 = n at *
  refine rr_istore_n (L' := [(3, .int (nI n)), (2, .int (nI c)), (1, .ref (gad G 0)), (0, .ref (gad G 1400))]) rfl (z_dec dL_law 15 rfl) rfl rfl rfl rfl ?_
  refine rr_aload_n rfl (z_dec dL_law 16 rfl) rfl 2 rfl ?_
  refine rr_aload_n rfl (z_dec dL_law 17 rfl) rfl 3 rfl ?_
  refine rr_iload_n rfl (z_dec dL_law 18 rfl) rfl 1 rfl ?_
  refine rr_iload_n rfl (z_dec dL_law 19 rfl) rfl 0 rfl ?_
  refine rr_setup (lo := gad G 312) hKL hfr kept_P (fun H h => hsz _ H h) hL (by omega) hc5 hn9 (by show 312 + 200 ≤ 600086 ∧ 2851 + 110000 ≤ 7301442; decide) (rL_law 5 rfl) (rL_law 6 rfl) rfl (z_dec dL_law 20 rfl) (fun s9 h9 g hg => ?_)
  have hl := txt_len (G := G) (c := c) (n := n) hc5 hn9
  have hx := tx_txt (G := G) (c := c) (n := n) (by omega) (by omega)
  refine rr_say (lo := gad G 312) (M := oI 0) (T := txt (lvs G) c (lqs G c n)) hKL hfr (hlow _ (Nat.le_refl _)) h0 ⟨hl.2, by omega, hx⟩ hg hI.1 (by show 312 + 200 ≤ 600086 ∧ 2851 + 110000 ≤ 7301442; decide) (rL_law 7 rfl) (rL_law 8 rfl) rfl (z_dec dL_law 21 rfl) ?_
  refine rr_if_eq (tgt := 47) rfl (z_dec dL_law 22 rfl) (by decide) (fun q => absurd q (by decide)) (fun _ => ?_)
  refine rr_aload_n rfl (z_dec dL_law 23 rfl) rfl 2 rfl ?_
  have hs2 : 1 ≤ (lvs G).getD 2 0 := by
    show 1 ≤ 1 + pik G 3 12
    omega
  refine rr_inv0 (as := []) (S := []) (d := 8) (mc := (1, 6)) hKL mkX10_load rfl ckX10 h0 rfl (by show 312 + 200 + 1 ≤ 600086 ∧ 2851 + 110000 + 6 ≤ 7301442; decide) rfl (rL_law 9 rfl) (rL_law 10 rfl) (rL_law 11 rfl) rfl (z_dec dL_law 24 rfl) (e_load (c := c) ⟨⟨Nat.zero_le _, by decide⟩, h0⟩ hI ⟨by omega, hx⟩ lvs_ok lvs_at hs2 hc2 (by omega) (lqs_ok (by omega)) (by rw [lqs_len]; omega)) (fun v J hp => ?_)
  obtain ⟨rfl, L, hPR, h11, h12, hz⟩ := hp
  rw [lqs_len] at hPR hz ⊢
  refine rr_iload_n rfl (z_dec dL_law 25 rfl) rfl 0 rfl ?_
  refine rr_icmp_eq (tgt := 49) rfl (z_dec dL_law 26 rfl) (by decide) (fun _ => ?_) (fun q => absurd rfl q)
  refine rr_new (C := RX11) (T := TX11) (ty := tyX11) (fs := ofF0) (lo := gad G 312) (own := RL) rfl rfl cX11q (rL_law 12 rfl) in_X11 mkX11_init.1.2 (by decide) (by show 312 + 200 + 1 + 1 ≤ 600086 ∧ 2851 + 110000 + 6 + 17 ≤ 7301442; decide) kept_P (fun H h => hsz _ H h) (z_dec dL_law 29 rfl) (fun o ho hob => ?_)
  refine rr_dup rfl (z_dec dL_law 30 rfl) rfl ?_
  refine rr_aload_n rfl (z_dec dL_law 31 rfl) rfl 2 rfl ?_
  refine rr_aload_n rfl (z_dec dL_law 32 rfl) rfl 3 rfl ?_
  refine rr_office hKL hfr hob (kpt J o ho) (by show 312 + 200 + 1 + 1 + 3 ≤ 600086 ∧ 2851 + 110000 + 6 + 17 + 36 ≤ 7301442; decide) (rL_law 13 rfl) (rL_law 14 rfl) rfl (z_dec dL_law 33 rfl) (fun r1 r2 r3 hd => ?_)
  refine rr_astore (L' := [(4, .ref o), (3, .int (nI n)), (2, .int (nI c)), (1, .ref (gad G 0)), (0, .ref (gad G 1400))]) rfl (z_dec dL_law 34 rfl) rfl rfl rfl ?_
  refine rr_iconst (v := 0) rfl (z_dec dL_law 35 rfl) rfl ?_
  refine rr_istore (L' := [(5, .int 0), (4, .ref o), (3, .int (nI n)), (2, .int (nI c)), (1, .ref (gad G 0)), (0, .ref (gad G 1400))]) rfl (z_dec dL_law 36 rfl) rfl rfl rfl ?_
  exact rr_loop hfr (hlow o ho) hob hd hL (by show 312 + 200 + 1 + 1 + 3 ≤ 600086 ∧ 2851 + 110000 + 6 + 17 + 36 ≤ 7301442; decide) hPR h11 h12 hz (fun G' I Lc hg => hend G' _ I Lc hg (by show 312 + 200 + 1 + 1 + 3 ≤ 600086 ∧ 2851 + 110000 + 6 + 17 + 36 ≤ 7301442; decide))
