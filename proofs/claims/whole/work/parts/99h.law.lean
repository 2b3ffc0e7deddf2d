/-! THE LAW FROM ITS ENTRY TO ITS LOOP -/
def phA (G : zG) (b L : Nat) (xs : Nat → Int32) (Z : lZ) : zPh := fun below args s meth c Q => yAO s ∧ phL G b L xs Z below args s meth c Q
theorem w320 : wOK (0, 320) := by
  refine ⟨by decide, fun r h1 h2 k hk hs => ?_⟩
  have h : (List.range 320).all (fun r => (List.range (nS r)).all (fun k => decide (sT (LT r) k ≠ 0 → LR r k < 320))) = true := by decide +kernel
  have e := List.all_eq_true.mp h r (List.mem_range.mpr h2)
  exact ⟨Nat.zero_le _, of_decide_eq_true (List.all_eq_true.mp e k (List.mem_range.mpr hk)) hs⟩
section LWR
variable {K : zK} {u : Nat × Nat} {pc : Nat} {L L' : List (Nat × Value)} {S : List Value} {cc : ByteArray} {own : String} {a n r index : Nat} {M : zM} {β : yB}
theorem vv_istore {I : Heap → Prop} (hb : kcc K = cc) {i : Nat} {x : Int32} (hdg : decode cc pc = .ok (.istore i, 2)) {nL : Nat} (hnl : knL K = nL) (hn : Nat.blt i nL = true) (ps : List Nat) (hL : zpk ((i, .int x) :: L.filter (zcut i)) ps = L') (k : VV K u (pc + 2) L' S I) : VV K u pc L (.int x :: S) I :=
  fun p e s m args below meth c Q H locs ls B hq hP hl hS => lv_istore B.1 (B.2.1.trans hb) hdg hl (by rw [hnl]; exact Nat.blt_eq.mp hn) (by rw [zcut_l]; rfl) (fun ls' hl' => k p e s m args below meth c Q H locs ls' B hq hP (zpk_map (L := (i, .int x) :: L.filter (zcut i)) hL hl') hS)
theorem vv_newl {N : Nat} (hb : kcc K = cc) (hn : LT n = 23) (hL : LL n = N) (han : a ≤ n) (hq9 : gad (kG K) (n + 1) = gad (kG K) n + 1) (hM : M n = y0) {x : Int32} (hx0 : ¬ x < 0) (hxN : x.toNatClampNeg = N) (hby : N * componentBytes .long ≤ 536870912) (hR : u.1 + 1 ≤ (kR K).cells ∧ u.2 + N ≤ (kR K).slots) (hdg : decode cc pc = .ok (.newarray .long, 2)) (kk : VV K (u.1 + 1, u.2 + N) (pc + 2) L (.ref n :: S) (yH (kG K) a (n + 1) M β)) : VV K u pc L (.int x :: S) (yH (kG K) a n M β) := by
  intro p e s m args below meth c0 Q H locs ls B hq hI hl hS
  have B0 := B
  obtain ⟨b1, b2, b3, hts, hown, b6, hK, hO1, hb0, hG, hw, hst⟩ := B
  obtain ⟨hP, hz⟩ := hI
  have hz := hz rfl
  refine va_newaK (atype := .long) (N := N) b1 (b2.trans hb) (hts _ ac_long) rfl hdg rfl hx0 hxN hby hR.1 hR.2 hz fun H1 cA e1 z1 o1 hAr hNm => ?_
  have hcA : cA = gA (kG K) 23 := Option.some.inj (hNm.symm.trans (hK.2 3 (gA (kG K) 23, .long) rfl).2)
  have hk : ∀ (k : Nat) (x : Nat × va_E), (yw (kG K) a n M β)[k]? = some x → H1[x.1]? = H[x.1]? := fun k x hx => o1 x.1 (by rw [← hz]; exact (hP k x hx).lt)
  refine kk p e s m args below meth c0 Q H1 locs ls B0 hq ⟨?_, fun _ => by rw [z1, hq9]⟩ hl ⟨Nat.le_trans hS.1 (by rw [z1, ← hz]; omega), fun x g1 g2 => (o1 x (by rw [← hz]; exact Nat.lt_of_lt_of_le g1 hS.1)).trans (hS.2.1 x g1 g2), hS.2.2⟩
  rw [yw_snoc han]
  refine va_P.app (hP.kept hk) (fun k x hx => ?_)
  have hz9 : k < 1 := (List.getElem?_eq_some_iff.mp hx).1
  rw [show k = 0 by omega] at hx
  cases hx
  have ey : yc (kG K) n (M n) (β n) = .inl (gA (kG K) 23, N, .inr (.inl (fun k => (y0 k).toInt64))) := by
    unfold yc
    rw [hn, if_neg (by omega), if_neg (by omega), if_pos rfl, hL, hM]
  rw [ey]
  show H1[gad (kG K) n]? = some (vp_cell (gA (kG K) 23) (N, .inr (.inl (fun k => (y0 k).toInt64))))
  rw [e1, hcA, vp_cell_l]
  congr 1
theorem vv_initG {G' : zG} {y : MethodName} {bc : ByteArray} {nL d : Nat} {mc' : Nat × Nat} {J0 I J : Heap → Prop} (hb : kcc K = cc) (ho : kown K = own) (hR : kR K = room_1) (hY : ∀ below args s meth c Q, kPh K below args s meth c Q → yAO s) (hG' : zGok G') (hgD : gD G' = gD (kG K)) (hgA : gA G' = gA (kG K)) (hold : ∀ s, zOld (kG K) s → zOld G' s) (hge : gb (kG K) ≤ gb G') (hgr : gad G' r = gad (kG K) r) (hI0 : ∀ H, J0 H → I H ∧ gb G' ≤ H.size) (hMk : zMk y bc nL none 0) (hy : y.name = "<init>") (hlink : Cond.methodLink own index y ∈ TG) (hins : Cond.instanceMethod y ∈ TG) (hd : Nat.ble d 12 = true) (hu : u.1 + mc'.1 ≤ room_1.cells ∧ u.2 + mc'.2 ≤ room_1.slots) (h8 : Nat.ble (S.map fun v => v.category).sum 8 = true) (hdg : decode cc pc = .ok (.invokespecial index, 3))
    (hM : CY G' (kl K) (y, bc, nL, none) d mc' r I J) (kk : VV K (u.1 + mc'.1, u.2 + mc'.2) (pc + 3) L S (fun H' => J H' ∧ ∃ H, J0 H ∧ H.size ≤ H'.size ∧ ∀ q : Nat, q < H.size → ¬ gb G' ≤ q → H'[q]? = H[q]?)) : VV K u pc L (.ref r :: S) J0 := by
  intro p e s m args below meth c0 Q H locs ls B hq hI hl hS
  have B0 := B
  obtain ⟨b1, b2, b3, hts, hown, b6, hK, hO1, hb0, hG, hw, hst⟩ := B
  rw [ho] at hown
  have hA := hY _ _ _ _ _ _ hq
  obtain ⟨i1, i2⟩ := hI0 H hI
  have hzt : zt G' = zt (kG K) := by unfold zt; rw [hgA]
  have hpre : PreS s H (va_Pc [.ref (gad G' r)] (fun U => yWl G' I U ∧ (kl K).stackTraces = false)) (.ref (gad G' r) :: []) := ⟨yWl_blind, fun U hU hW => ⟨rfl, ⟨by rw [hU]; exact i1, by rw [hgD, hzt]; exact va_K.moved hW.alike hK, hold _ (zOld_warm hW (by rw [hU]; exact hS.2.1) hO1), by rw [hU]; exact i2, hG', hA.warm hW⟩, hst⟩⟩
  have hr := vx_runI (p := p) (l := kl K) (e := e) (R := kR K) (s := s) (m := m) (args := args) (below := below) (meth := meth) (c := c0) (H := H) (locs := locs) (cells := u.1) (slots := u.2) (As := []) (n := 0) (g := F0 m pc ls ((Value.ref r :: S).map (zv (kG K)))) (rest := S.map (zv (kG K))) ⟨b1, b2.trans hb, b3, hown, hts⟩ hM (cwI 0 hts (zWS_good hMk) rfl rfl rfl (hts _ hMk.1.2) (hts _ hlink) (hts _ hins) hy hMk.2.1 (by rw [hR]; exact zlroom hd hMk.2.2)) hpre rfl rfl (hl.1.trans rfl) (by show Value.ref (gad (kG K) r) :: _ = Value.ref (gad G' r) :: _; rw [hgr]) (zroomS h8) hdg (by rw [hR]; exact hu)
  intro T hT Xs
  rcases hr T hT Xs with ⟨v, st₀, t, T', Ll, h0, X', hL, e1, e2, ⟨hv, hp, hF⟩, st⟩ | ⟨q, st₀, t, T', Ll, E, ce, h0, X', hL, e1, e2, hx, hce, hcv, hcl, st⟩
  · obtain ⟨z1, z2, hS'⟩ := vx_keep h0 e1 hS (fun q _ h => Nat.le_trans hge h) (fun q h => Nat.le_trans hge h) hL hF
    have hv2 : v = none := by injection hv
    subst hv2
    obtain ⟨t2, a1, b1⟩ := kk p e s m args below meth c0 Q T'.heap (locs ++ Ll) ls B0 hq ⟨by rw [e1]; exact hp, H, hI, z1, z2⟩ hl hS' T' rfl X'
    exact ⟨t2, st t2 a1, b1⟩
  · exact hx.elim
end LWR
theorem yc_N {G G' : zG} {r : Nat} {f : Nat → Int32} (h : LT r < 20) : yc G' r f yN = yc G r f yN := by
  unfold yc
  rw [if_pos h, if_pos h]
  congr 2
theorem ld_ms : ([.classLink RL 8 RX10, .methodLink RL 127 yX10_init, .instanceMethod yX10_init, .classLink RL 128 RX11, .methodLink RL 130 yX11_init, .instanceMethod yX11_init] : List Cond).all (fun w => decide (w ∈ lw_tbl) && goodWord w) = true := by decide +kernel
theorem ld_tg {w : Cond} (hw : w ∈ ([.classLink RL 8 RX10, .methodLink RL 127 yX10_init, .instanceMethod yX10_init, .classLink RL 128 RX11, .methodLink RL 130 yX11_init, .instanceMethod yX11_init] : List Cond)) : w ∈ TG := by
  have h := List.all_eq_true.mp ld_ms w hw
  rw [Bool.and_eq_true, decide_eq_true_eq] at h
  exact tg_of h.1 h.2
theorem law_vv {G : zG} {l : Launch} {b L : Nat} {xs : Nat → Int32} {Z : lZ} (hsq : ySeq G 0) (hgk : zGok G) (h2000 : gad G 2000 = b) (hL : L ≤ 3072) (hend : ∀ (u : Nat × Nat) (I : zM) (i : Int32), u.1 ≤ 1424 ∧ u.2 ≤ 106144 → ZZ (G, (0, 320), RL, code, 9, l, room_1, phL G b L xs Z) u 2805 (lLc i) [.int 1] I) : VV (G, (0, 0), RL, code, 9, l, room_1, phA G b L xs Z) (0, 0) 0 [(0, .ref 2000)] [] (yH G 0 0 o0 (fun _ => yT)) := by
  have hY : ∀ below args s meth c Q, phA G b L xs Z below args s meth c Q → yAO s := fun _ _ _ _ _ _ h => h.1
  have hsq' : ySeq (gS G 312 321) 312 := fun r h1 h2 => by
    rw [gS_in (by omega) (by omega), gS_in (by omega) (by omega)]
    exact hsq r (Nat.zero_le _) h2
  have hG' : zGok (gS G 312 321) := zGok_S (fun r h1 h2 => hsq r (Nat.zero_le _) h2) (by decide) (by decide)
  have g312 : gb G ≤ gad G 312 := hgk.2 312 (by decide)
  have ha : ∀ r, r < 312 → gad G r < gad G 312 := fun r h => by
    have x := seq_add hsq (Nat.zero_le r) (312 - r) (by omega)
    rw [show r + (312 - r) = 312 by omega] at x
    omega
  refine vv_new (K := (G, (0, 0), RL, code, 9, l, room_1, phA G b L xs Z)) (n := 0) (c := 10) (own := RL) (cc := code) (a := 0) rfl rfl ckX10 lyO_p.1 (Nat.le_refl _) (hsq 0 (by omega) (by omega)) (ld_tg (by simp)) in_X10 mkX10_init.1.2 (df_of (by decide +kernel)) (by show 0 + 1 ≤ 601024 ∧ 0 + 8 ≤ 7293034; decide) (z_dec dL_law0 0 rfl) ?_
  refine vv_dup rfl (z_dec dL_law0 1 rfl) rfl ?_
  refine vv_initG (G' := G) (d := 8) (mc' := (311, 2843)) (own := RL) (cc := code) rfl rfl rfl hY hgk rfl rfl (fun _ h => h) (Nat.le_refl _) rfl (fun H h => ⟨h, by
    have e := h.2 rfl
    have e2 := hsq 0 (by omega) (by omega)
    have e3 := hgk.2 0 (by decide)
    have e : H.size = gad G 1 := e
    have e2 : gad G 1 = gad G 0 + 1 := e2
    omega⟩) mkX10_init rfl (ld_tg (by simp)) (ld_tg (by simp)) rfl (by decide) rfl (z_dec dL_law0 2 rfl) (cy_office (v := 0) hsq hgk) ?_
  refine vv_imp (J := yH G 0 312 (oI 0) (fun _ => yT)) (fun H h => h.1) ?_
  refine vv_astore_n (L' := [(1, .ref 0), (0, .ref 2000)]) rfl (z_dec dL_law0 3 rfl) rfl rfl rfl [0, 1] rfl ?_
  refine vv_new (n := 312) (c := 11) (own := RL) (cc := code) (a := 0) rfl rfl ckX11 lyM_p.1 (Nat.zero_le _) (hsq 312 (by omega) (by omega)) (ld_tg (by simp)) in_X11 mkX11_init.1.2 (df_of (by decide +kernel)) (by show 312 + 1 ≤ 601024 ∧ 2851 + 16 ≤ 7293034; decide) (z_dec dL_law0 4 rfl) ?_
  refine vv_dup rfl (z_dec dL_law0 5 rfl) rfl ?_
  refine vv_initG (G' := gS G 312 321) (d := 6) (mc' := (6, 2544)) (own := RL) (cc := code) (I := yPre (gS G 312 321) 312 312 o0 (fun _ => yT)) (J := yH (gS G 312 321) 312 319 mW (fun _ => yT)) rfl rfl rfl hY hG' rfl rfl (fun s h => zOld_S g312 (by decide) h) g312 (gS_in (by decide) (by decide)) (fun H h => ?_) mkX11_init rfl (ld_tg (by simp)) (ld_tg (by simp)) rfl (by decide) rfl (z_dec dL_law0 6 rfl) (cy_model hsq' hG') ?_
  · have e : H.size = gad G 313 := h.2 rfl
    have e2 : gad G 313 = gad G 312 + 1 := hsq 312 (by omega) (by omega)
    refine ⟨⟨fun k x hk => ?_, fun _ => by rw [e]; exact (gS_in (by decide) (by decide)).symm⟩, by show gad G 312 ≤ _; omega⟩
    obtain ⟨h1, h2⟩ := yw_in hk
    obtain rfl : k = 0 := by omega
    rw [h2]
    have z := h.1 _ _ (yw_at (r := 312) (by omega) (by omega))
    rw [ups_same, bups_same] at z
    show va_at _ _ (gad (gS G 312 321) 312, yc (gS G 312 321) 312 (ups o0 312 y0 312) (bups (fun _ => yT) 312 yN 312)) H
    rw [ups_same, bups_same, gS_in (by decide) (by decide), yc_N (G := G) (by rw [lyM_p.1]; decide)]
    exact z
  refine vv_imp (J := yH G 0 319 iW (fun _ => yT)) (fun H' h => ?_) ?_
  · obtain ⟨⟨j1, j2⟩, H, ⟨p1, p2⟩, z1, z2⟩ := h
    refine ⟨fun k x hk => ?_, fun _ => (j2 rfl).trans (gS_in (by decide) (by decide))⟩
    obtain ⟨h1, h2⟩ := yw_in hk
    rw [Nat.zero_add] at h2
    rw [h2]
    by_cases c : k < 312
    · have z := p1 _ _ (yw_at (r := k) (Nat.zero_le _) (by omega))
      rw [ups_ne _ _ (by omega), bups_ne _ _ (by omega)] at z
      rw [iW_o c]
      have y : gad G k < H.size := z.lt
      exact z.kept (z2 _ y (by show ¬ gad G 312 ≤ gad G k; have := ha k c; omega))
    · have z := j1 _ _ (yw_at (r := k) (by omega) (by omega))
      rw [gS_in (by omega) (by omega), yc_z] at z
      rw [iW_m (by omega) (by omega), yc_z]
      refine yc_G (G := gS G 312 321) (by omega) rfl (fun j g1 g2 => ?_) z
      obtain ⟨q1, q2⟩ := w312.2 k (by show 312 ≤ k; omega) (by show k < 319; omega) j g1 g2
      exact (gS_in (lo := 312) (hi := 321) q1 (by have : LR k j < 319 := q2; omega)).symm
  refine vv_astore_n (L' := [(2, .ref 312), (1, .ref 0), (0, .ref 2000)]) rfl (z_dec dL_law0 7 rfl) rfl rfl rfl [0, 1, 2] rfl ?_
  refine vv_iconst (v := 1) rfl (z_dec dL_law0 8 rfl) rfl ?_
  refine vv_newl (N := 1) (n := 319) rfl (by decide +kernel) (by decide +kernel) (Nat.zero_le _) (hsq 319 (by omega) (by omega)) rfl (by decide) (by decide) (by decide) (by show 319 + 1 ≤ 601024 ∧ 5411 + 1 ≤ 7293034; decide) (z_dec dL_law0 9 rfl) ?_
  refine vv_astore_n (L' := [(3, .ref 319), (2, .ref 312), (1, .ref 0), (0, .ref 2000)]) rfl (z_dec dL_law0 10 rfl) rfl rfl rfl [0, 1, 2, 3] rfl ?_
  refine vv_iconst (v := 0) rfl (z_dec dL_law0 11 rfl) rfl ?_
  refine vv_istore (L' := lLc 0) rfl (z_dec dL_law0 12 rfl) rfl rfl [4, 3, 2, 1, 0] rfl ?_
  intro p e s m args below meth c Q H locs ls B hq hI hl hS
  have hP : va_P (gD G) vwCl (zw G (0, 320) iW) H := by
    rw [← yw_zw (β := fun _ => yT) (fun _ _ _ => rfl)]
    exact hI.1
  obtain ⟨b1, b2, b3, b4, b5, b6, b7, b8, b9, b10, b11, b12⟩ := B
  exact l_all (K := (G, (0, 320), RL, code, 9, l, room_1, phL G b L xs Z)) ⟨rfl, rfl, rfl, rfl, rfl, h2000⟩ rfl hL Rel_iW (by decide) hend p e s m args below meth c Q H locs ls ⟨b1, b2, b3, b4, b5, b6, b7, b8, b9, b10, w320, b12⟩ hq.2 hP hl hS
