/-! TEXTS: String.length and charAt on the constants and on the law's text -/
/-- a String that is kept: its role, its bytes' role, its length, its bytes -/
def zStr (G : zG) (k v N : Nat) (b : List Int32) : Prop := ∀ s : State, zOld G s → vk_S 1 [N] [b] (fun _ => gad G k) (fun _ => gad G v) (gF G) s s.heap
def zIsS (r : Nat) : Prop := ∃ j, j < 9 ∧ r = 1100 + j
theorem zs_con (G : zG) {j : Nat} (hj : j < 9) : zStr G (1100 + j) (1200 + j) (zTl.getD j 0) (zTb.getD j []) := fun s h => ⟨fun i hi => by
  obtain rfl : i = 0 := by omega
  exact h.2.2.1.1 j hj, fun i k hi hk _ => by omega⟩
theorem zs_txt (G : zG) (h0 : (gt G).1 ≠ 0) : zStr G 1401 1402 (gt G).1 (gt G).2 := fun s h => h.1.2.2.2.2.2.1.resolve_left h0
section STRR
variable {K : zK} {u mc : Nat × Nat} {pc : Nat} {L : List (Nat × Value)} {S : List Value} {I : zM} {cc : ByteArray} {own : String} {P : Option Value → zM → Prop} {X : String → zM → Prop}
theorem zz_strVal (hb : kcc K = cc) (ho : kown K = own) {k v N index : Nat} {b : List Int32} (hs : zStr (kG K) k v N b) (hlink : Cond.fieldLink own index "java/lang/String" "value" "[B" ∈ TG) (hdg : decode cc pc = .ok (.getfield index, 3)) (kk : ZZ K u (pc + 3) L (.ref v :: S) I) : ZZ K u pc L (.ref k :: S) I := by
  intro p e s m args below meth c0 Q H locs ls B hq hP hl hS
  have z := kk p e s m args below meth c0 Q H locs ls B hq hP hl hS
  obtain ⟨b1, b2, -, hts, hown, -, hK, hO1, -⟩ := B
  rw [ho] at hown
  exact vk_getf b1 (b2.trans hb) ((hs s hO1).1 0 (by decide)).2.2.1 hS hown (hts _ hlink) (fun _ h => h) hdg z
theorem zz_strCod (hb : kcc K = cc) (ho : kown K = own) {k v N index : Nat} {b : List Int32} (hs : zStr (kG K) k v N b) (hlink : Cond.fieldLink own index "java/lang/String" "coder" "B" ∈ TG) (hdg : decode cc pc = .ok (.getfield index, 3)) (kk : ZZ K u (pc + 3) L (.int 0 :: S) I) : ZZ K u pc L (.ref k :: S) I := by
  intro p e s m args below meth c0 Q H locs ls B hq hP hl hS
  have z := kk p e s m args below meth c0 Q H locs ls B hq hP hl hS
  obtain ⟨b1, b2, -, hts, hown, -, hK, hO1, -⟩ := B
  rw [ho] at hown
  exact vk_getf b1 (b2.trans hb) ((hs s hO1).1 0 (by decide)).2.1 hS hown (hts _ hlink) (fun _ h => h) hdg z
theorem zz_strLen (hb : kcc K = cc) {k v N : Nat} {b : List Int32} (hs : zStr (kG K) k v N b) (hdg : decode cc pc = .ok (.arraylength, 1)) (kk : ZZ K u (pc + 1) L (.int (Int32.ofNat N) :: S) I) : ZZ K u pc L (.ref v :: S) I := by
  intro p e s m args below meth c0 Q H locs ls B hq hP hl hS
  have z := kk p e s m args below meth c0 Q H locs ls B hq hP hl hS
  obtain ⟨b1, b2, -, hts, hown, -, hK, hO1, -⟩ := B
  obtain ⟨cell, h1, h2, h3, h4, h5, h6, h7⟩ := ((hs s hO1).1 0 (by decide)).2.2.2.kept hS.2.1
  exact W.alen (n := Int32.ofNat N) b1 (b2.trans hb) h1 h2 h5 rfl rfl hdg z
theorem zz_strAt (hb : kcc K = cc) {k v N : Nat} {b : List Int32} (hs : zStr (kG K) k v N b) {i : Int32} (hin : vp_in i N) (hdg : decode cc pc = .ok (.baload, 1)) (kk : ZZ K u (pc + 1) L (.int (b.getD i.toNatClampNeg 0) :: S) I) : ZZ K u pc L (.int i :: .ref v :: S) I := by
  intro p e s m args below meth c0 Q H locs ls B hq hP hl hS
  have z := kk p e s m args below meth c0 Q H locs ls B hq hP hl hS
  obtain ⟨b1, b2, -, hts, hown, -, hK, hO1, -⟩ := B
  obtain ⟨cell, h1, h2, h3, h4, h5, h6, h7⟩ := ((hs s hO1).1 0 (by decide)).2.2.2.kept hS.2.1
  have hlt : i.toNatClampNeg < N := Nat.not_le.mp fun q => hin (Or.inr q)
  exact W.bald (v := .int (b.getD i.toNatClampNeg 0)) b1 (b2.trans hb) h1 h2 h3 (fun q => hin (q.elim Or.inl (fun q => Or.inr (Nat.le_trans h4 q)))) (h6 _ hlt) rfl rfl hdg z
theorem zz_compact (hb : kcc K = cc) (ho : kown K = own) {index : Nat} (hlink : Cond.fieldLink own index "java/lang/String" "COMPACT_STRINGS" "Z" ∈ TG) (hdg : decode cc pc = .ok (.getstatic index, 3)) (kk : ZZ K u (pc + 3) L (.int 1 :: S) I) : ZZ K u pc L S I := by
  intro p e s m args below meth c0 Q H locs ls B hq hP hl hS
  have z := kk p e s m args below meth c0 Q H locs ls B hq hP hl hS
  obtain ⟨b1, b2, -, hts, hown, -, hK, hO1, -⟩ := B
  rw [ho] at hown
  exact va_gets b1 (b2.trans hb) hO1.2.2.2.2.2.2.1 hS hown (hts _ hlink) (fun _ h => h) hdg z
theorem zz_sioobe (hb : kcc K = cc) (ho : kown K = own) {index : Nat} (hlink : Cond.fieldLink own index "jdk/internal/util/Preconditions" "SIOOBE_FORMATTER" "Ljava/util/function/BiFunction;" ∈ TG) (hdg : decode cc pc = .ok (.getstatic index, 3)) (kn : ZZ K u (pc + 3) L (.null :: S) I) (kk : ZZ K u (pc + 3) L (.ref 1300 :: S) I) : ZZ K u pc L S I := by
  intro p e s m args below meth c0 Q H locs ls B hq hP hl hS
  have zn := kn p e s m args below meth c0 Q H locs ls B hq hP hl hS
  have z := kk p e s m args below meth c0 Q H locs ls B hq hP hl hS
  obtain ⟨b1, b2, -, hts, hown, -, hK, hO1, -⟩ := B
  rw [ho] at hown
  rcases hO1.2.2.2.2.2.2.2.1 with h | h
  · exact va_gets b1 (b2.trans hb) h hS hown (hts _ hlink) (fun _ h => h) hdg zn
  · exact va_gets b1 (b2.trans hb) h hS hown (hts _ hlink) (fun _ h => h) hdg z
theorem zz_i2c (hb : kcc K = cc) {x : Int32} (hdg : decode cc pc = .ok (.i2c, 1)) (k : ZZ K u (pc + 1) L (.int (x.toUInt32 % 65536).toInt32 :: S) I) : ZZ K u pc L (.int x :: S) I :=
  fun p e s m args below meth c Q H locs ls B hq hP hl hS => lv_i2c B.1 (B.2.1.trans hb) hdg rfl (k p e s m args below meth c Q H locs ls B hq hP hl hS)
/-- the end with a small number -/
theorem zz_nret (hb : kcc K = cc) {ty : FieldType} (hE : zEnd K (some ty) mc P X) (hu : u.1 ≤ mc.1 ∧ u.2 ≤ mc.2) {v : Int32} (hv : narrow ty (.int v) = .int v) (hdg : decode cc pc = .ok (.ireturn, 1)) (h : P (some (.int v)) I) : ZZ K u pc L [.int v] I := by
  intro p e s m args below meth c Q H locs ls B hq hP hl hS
  rw [hE] at hq
  obtain ⟨hr, ht, rfl⟩ := hq
  refine W.widen hu.1 hu.2 (vx_ret ?_)
  exact W.zret B.1 (B.2.1.trans hb) hr hv (fun t ht hW => ⟨some (.int v), I, rfl, h, by rw [ht]; exact hP, hS.F ht⟩) (fun q hq => hS.2.2 q hq) hdg B.2.2.2.2.2.1
variable {nK dK : Nat} {rK : Option FieldType} {mcK : Nat × Nat} {PK : Option Value → zM → Prop} {XK : String → zM → Prop}
variable {y : MethodName} {bc : ByteArray} {nL n d : Nat} {ret : Option FieldType} {as st9 : List Value} {index : Nat}
theorem zz_invStr (hb : kcc K = cc) (ho : kown K = own) (hnl : knL K = nK) (hR : kR K = zR dK mcK) (hE : zEnd K rK mcK PK XK) (hMk : zMk y bc nL ret n) (hn : as.length = n) {r rv N9 : Nat} {b9 : List Int32} (hr : zStr (kG K) r rv N9 b9) (hy : y.cls = "java/lang/String") (hd : Nat.ble (d + 1) dK = true) (hu : u.1 + mc.1 ≤ mcK.1 ∧ u.2 + mc.2 ≤ mcK.2) (hst : st9 = as.reverse ++ .ref r :: S)
    (hlink : Cond.methodLink own index y ∈ TG) (hins : Cond.instanceMethod y ∈ TG) (hsel : Cond.selects y.cls y y ∈ TG) (h8 : Nat.ble (S.map fun v => v.category).sum 8 = true) (hdg : decode cc pc = .ok (.invokevirtual index, 3))
    (hM : CT (kG K) (kw K) (kl K) (y, bc, nL, ret) d mc (.ref r :: as) I P X) (kv : ∀ v J, P v J → ZZ K (u.1 + mc.1, u.2 + mc.2) (pc + 3) L (v.toList ++ S) J) (kx : ∀ E J, X E J → XK E J) : ZZ K u pc L st9 I := by
  intro p e s m args below meth c0 Q H locs ls B hq hP hl hS
  have B0 := B
  obtain ⟨b1, b2, b3, hts, hown, b6, hK, hO1, -, hG, hw, -⟩ := B
  rw [ho] at hown
  have hg : ∀ x ∈ wsV own index y.cls y (WS (y, bc, nL, ret)), x ∈ TG := fun x hx => by
    unfold wsV at hx
    rcases List.mem_append.mp hx with hx | hx
    · simp only [List.mem_cons, List.not_mem_nil, or_false] at hx
      rcases hx with rfl | rfl | rfl | rfl
      · exact hlink
      · exact hins
      · exact hsel
      · exact hMk.1.2
    · exact (zWS_good hMk x hx).1
  refine zz_run B0 hE hq hl hS hu (vx_runV (As := as.map (zv (kG K))) (C := y.cls) (n := n) ⟨b1, b2.trans hb, b3, hown, hts⟩ hM (cwV n hts (goodIn_TG hg) rfl rfl rfl ⟨rfl, hMk.2.1⟩ (by rw [hR]; exact zroom hd hMk.2.2)) ⟨zWl_blind, by rw [hy]; exact vk_recv (i := 0) (adK := fun _ => gad (kG K) r) (hr s hO1) (by decide) hS, fun U hU hW => zz_callee B0 hP hS U hU hW⟩ rfl (by rw [List.length_map]; exact hn) (hl.1.trans rfl) ?_ (zroomS h8) hdg (by rw [hR]; exact hu)) kv kx
  rw [hst]
  show List.map (zv (kG K)) (as.reverse ++ .ref r :: S) = _
  rw [List.map_append, List.map_reverse]
  rfl
end STRR
/-- the answer of a method that changes nothing -/
abbrev qE (x : Int32) (I : zM) : Option Value → zM → Prop := qI (fun r J => r = x ∧ J = I)
abbrev qEr (x : Nat) (I : zM) : Option Value → zM → Prop := qR (fun r J => r = x ∧ J = I)
section STRC
variable {G : zG} {w : Nat × Nat} {l : Launch} {I : zM} {k v9 N : Nat} {b : List Int32}
theorem cS_coder (hs : zStr G k v9 N b) : CT G w l (yJ0_coder_7d493, cJ0_coder_7d493, 1, some .byte) 0 (0, 0) [.ref k] I (qE 0 I) nX := by
  refine ct_of (by decide) [(0, .ref k)] rfl rfl (fun K hG hw hl hwo hK => ?_)
  subst hG; subst hw; subst hl
  obtain ⟨hb, ho, hnl, hR, hE⟩ := hK
  refine zz_compact hb ho (rJ0_coder_7d493 0 rfl) (z_dec dJ0_coder_7d493 0 rfl) ?_
  refine zz_if_eq (tgt := 13) hb (z_dec dJ0_coder_7d493 1 rfl) (by decide) (fun c => absurd c (by decide)) (fun _ => ?_)
  refine zz_aload_n hb (z_dec dJ0_coder_7d493 2 rfl) rfl 0 rfl ?_
  refine zz_strCod hb ho hs (rJ0_coder_7d493 1 rfl) (z_dec dJ0_coder_7d493 3 rfl) ?_
  refine zz_goto (tgt := 14) hb (z_dec dJ0_coder_7d493 4 rfl) (by decide) ?_
  exact zz_nret hb hE ⟨Nat.le_refl 0, Nat.le_refl 0⟩ rfl (z_dec dJ0_coder_7d493 6 rfl) ⟨0, rfl, rfl, rfl⟩
theorem cS_isLatin1 (hs : zStr G k v9 N b) : CT G w l (yJ0_isLatin1_aae02, cJ0_isLatin1_aae02, 1, some .boolean) 0 (0, 0) [.ref k] I (qE 1 I) nX := by
  refine ct_of (by decide) [(0, .ref k)] rfl rfl (fun K hG hw hl hwo hK => ?_)
  subst hG; subst hw; subst hl
  obtain ⟨hb, ho, hnl, hR, hE⟩ := hK
  refine zz_compact hb ho (rJ0_isLatin1_aae02 0 rfl) (z_dec dJ0_isLatin1_aae02 0 rfl) ?_
  refine zz_if_eq (tgt := 17) hb (z_dec dJ0_isLatin1_aae02 1 rfl) (by decide) (fun c => absurd c (by decide)) (fun _ => ?_)
  refine zz_aload_n hb (z_dec dJ0_isLatin1_aae02 2 rfl) rfl 0 rfl ?_
  refine zz_strCod hb ho hs (rJ0_isLatin1_aae02 1 rfl) (z_dec dJ0_isLatin1_aae02 3 rfl) ?_
  refine zz_if_ne (tgt := 17) hb (z_dec dJ0_isLatin1_aae02 4 rfl) (by decide) (fun c => absurd rfl c) (fun _ => ?_)
  refine zz_iconst (v := 1) hb (z_dec dJ0_isLatin1_aae02 5 rfl) (by decide) ?_
  refine zz_goto (tgt := 18) hb (z_dec dJ0_isLatin1_aae02 6 rfl) (by decide) ?_
  exact zz_nret hb hE ⟨Nat.le_refl 0, Nat.le_refl 0⟩ rfl (z_dec dJ0_isLatin1_aae02 8 rfl) ⟨1, rfl, rfl, rfl⟩
theorem cS_length (hs : zStr G k v9 N b) (hN : N < 2 ^ 31) : CT G w l (yJ0_length_8abf5, cJ0_length_8abf5, 1, some .int) 1 (0, 0) [.ref k] I (qE (Int32.ofNat N) I) nX := by
  refine ct_of (by decide) [(0, .ref k)] rfl rfl (fun K hG hw hl hwo hK => ?_)
  subst hG; subst hw; subst hl
  obtain ⟨hb, ho, hnl, hR, hE⟩ := hK
  refine zz_aload_n hb (z_dec dJ0_length_8abf5 0 rfl) rfl 0 rfl ?_
  refine zz_strVal hb ho hs (rJ0_length_8abf5 0 rfl) (z_dec dJ0_length_8abf5 1 rfl) ?_
  refine zz_strLen hb hs (z_dec dJ0_length_8abf5 2 rfl) ?_
  refine zz_aload_n hb (z_dec dJ0_length_8abf5 3 rfl) rfl 0 rfl ?_
  refine zz_invStr (as := []) (d := 0) (mc := (0, 0)) hb ho hnl hR hE mkJ0_coder_7d493 rfl hs rfl rfl ⟨Nat.le_refl 0, Nat.le_refl 0⟩ rfl (rJ0_length_8abf5 1 rfl) (rJ0_length_8abf5 2 rfl) (rJ0_length_8abf5 3 rfl) rfl (z_dec dJ0_length_8abf5 4 rfl) (cS_coder hs) (fun v J hp => ?_) (fun _ _ h => h.elim)
  obtain ⟨r, rfl, rfl, rfl⟩ := hp
  refine zz_ishr hb (z_dec dJ0_length_8abf5 5 rfl) ?_
  refine zz_iret hb hE ⟨Nat.le_refl 0, Nat.le_refl 0⟩ (z_dec dJ0_length_8abf5 6 rfl) ⟨_, rfl, ?_, rfl⟩
  exact sb_shr0 _
theorem cJ_check3 {i n : Int32} {v : Value} (hv : v = .null ∨ v = .ref 1300) (hin : 0 ≤ i) (hlt : i < n) : CT G w l (yJ3_checkIndex_8e157, cJ3_checkIndex_8e157, 3, some .int) 0 (0, 0) [.int i, .int n, v] I (qE i I) nX := by
  refine ct_of (by decide) [(0, .int i), (1, .int n), (2, v)] (by rcases hv with rfl | rfl <;> rfl) (by rcases hv with rfl | rfl <;> rfl) (fun K hG hw hl hwo hK => ?_)
  obtain ⟨hb, ho, hnl, hR, hE⟩ := hK
  refine zz_iload_n hb (z_dec dJ3_checkIndex_8e157 0 rfl) rfl 0 rfl ?_
  refine zz_if_lt (tgt := 9) hb (z_dec dJ3_checkIndex_8e157 1 rfl) (by decide) (fun c => absurd c (Int32.not_lt.mpr hin)) (fun _ => ?_)
  refine zz_iload_n hb (z_dec dJ3_checkIndex_8e157 2 rfl) rfl 0 rfl ?_
  refine zz_iload_n hb (z_dec dJ3_checkIndex_8e157 3 rfl) rfl 1 rfl ?_
  refine zz_icmp_lt (tgt := 16) hb (z_dec dJ3_checkIndex_8e157 4 rfl) (by decide) (fun _ => ?_) (fun c => absurd hlt c)
  refine zz_iload_n hb (z_dec dJ3_checkIndex_8e157 10 rfl) rfl 0 rfl ?_
  exact zz_iret hb hE ⟨Nat.le_refl 0, Nat.le_refl 0⟩ (z_dec dJ3_checkIndex_8e157 11 rfl) ⟨_, rfl, rfl, rfl⟩
theorem cJ_check {i n : Int32} (hin : 0 ≤ i) (hlt : i < n) : CT G w l (yJ0_checkIndex_df160, cJ0_checkIndex_df160, 2, none) 1 (0, 0) [.int i, .int n] I (qV (fun J => J = I)) nX := by
  refine ct_of (by decide) [(0, .int i), (1, .int n)] rfl rfl (fun K hG hw hl hwo hK => ?_)
  subst hG; subst hw; subst hl
  obtain ⟨hb, ho, hnl, hR, hE⟩ := hK
  refine zz_iload_n hb (z_dec dJ0_checkIndex_df160 0 rfl) rfl 0 rfl ?_
  refine zz_iload_n hb (z_dec dJ0_checkIndex_df160 1 rfl) rfl 1 rfl ?_
  have key : ∀ v : Value, v = .null ∨ v = .ref 1300 → ZZ K (0, 0) 5 [(0, .int i), (1, .int n)] [v, .int n, .int i] I := fun v hv => by
    refine zz_invS (as := [.int i, .int n, v]) (d := 0) (mc := (0, 0)) (S := []) hb ho hnl hR hE mkJ3_checkIndex_8e157 rfl rfl ⟨Nat.le_refl 0, Nat.le_refl 0⟩ rfl (rJ0_checkIndex_df160 1 rfl) (rJ0_checkIndex_df160 2 rfl) rfl (z_dec dJ0_checkIndex_df160 3 rfl) (cJ_check3 hv hin hlt) (fun v J hp => ?_) (fun _ _ h => h.elim)
    obtain ⟨r, rfl, rfl, rfl⟩ := hp
    refine zz_pop hb (z_dec dJ0_checkIndex_df160 4 rfl) rfl ?_
    exact zz_vret hb hE ⟨Nat.le_refl 0, Nat.le_refl 0⟩ (z_dec dJ0_checkIndex_df160 5 rfl) ⟨rfl, rfl⟩
  exact zz_sioobe hb ho (rJ0_checkIndex_df160 0 rfl) (z_dec dJ0_checkIndex_df160 2 rfl) (key _ (Or.inl rfl)) (key _ (Or.inr rfl))
theorem zT_ok : ∀ j, j < 9 → zTl.getD j 0 < 2 ^ 31 ∧ (zTb.getD j []).length = zTl.getD j 0 ∧ ∀ i, i < zTl.getD j 0 → ((((zTb.getD j []).getD i 0) &&& 255).toUInt32 % 65536).toInt32 = (zTb.getD j []).getD i 0 ∧ narrow .char (.int ((zTb.getD j []).getD i 0)) = .int ((zTb.getD j []).getD i 0) := by decide +kernel
theorem vp_in_n {i : Int32} {n : Nat} (h : vp_in i n) (hn : n < 2 ^ 31) : 0 ≤ i ∧ i < Int32.ofNat n := by
  obtain ⟨k, hk, rfl⟩ := vp_in_of h hn
  exact ⟨nI_pos' (Nat.lt_trans hk hn), nI_lt hk hn⟩
/-- a text of bytes from 0 to 127 -/
def zTx1 (N : Nat) (b : List Int32) : Prop := N < 2 ^ 31 ∧ ∀ i, i < N → (((b.getD i 0) &&& 255).toUInt32 % 65536).toInt32 = b.getD i 0 ∧ narrow .char (.int (b.getD i 0)) = .int (b.getD i 0)
theorem cS_charAt1 {i : Int32} (hs : zStr G k v9 N b) (hok : zTx1 N b) (hin : vp_in i N) : CT G w l (yJ1_charAt_3b067, cJ1_charAt_3b067, 2, some .char) 2 (0, 0) [.ref v9, .int i] I (qE (b.getD i.toNatClampNeg 0) I) nX := by
  refine ct_of (by decide) [(0, .ref v9), (1, .int i)] rfl rfl (fun K hG hw hl hwo hK => ?_)
  subst hG; subst hw; subst hl
  obtain ⟨hb, ho, hnl, hR, hE⟩ := hK
  obtain ⟨t1, t3⟩ := id hok
  obtain ⟨n1, n2⟩ := vp_in_n hin t1
  refine zz_iload_n hb (z_dec dJ1_charAt_3b067 0 rfl) rfl 1 rfl ?_
  refine zz_aload_n hb (z_dec dJ1_charAt_3b067 1 rfl) rfl 0 rfl ?_
  refine zz_strLen hb hs (z_dec dJ1_charAt_3b067 2 rfl) ?_
  refine zz_invS (as := [.int i, .int _]) (d := 1) (mc := (0, 0)) (S := []) hb ho hnl hR hE mkJ0_checkIndex_df160 rfl rfl ⟨Nat.le_refl 0, Nat.le_refl 0⟩ rfl (rJ1_charAt_3b067 0 rfl) (rJ1_charAt_3b067 1 rfl) rfl (z_dec dJ1_charAt_3b067 3 rfl) (cJ_check n1 n2) (fun v J hp => ?_) (fun _ _ h => h.elim)
  obtain ⟨rfl, rfl⟩ := hp
  refine zz_aload_n hb (z_dec dJ1_charAt_3b067 4 rfl) rfl 0 rfl ?_
  refine zz_iload_n hb (z_dec dJ1_charAt_3b067 5 rfl) rfl 1 rfl ?_
  refine zz_strAt hb hs hin (z_dec dJ1_charAt_3b067 6 rfl) ?_
  refine zz_sipush (v := 255) hb (z_dec dJ1_charAt_3b067 7 rfl) (by decide) ?_
  refine zz_iand hb (z_dec dJ1_charAt_3b067 8 rfl) ?_
  refine zz_i2c hb (z_dec dJ1_charAt_3b067 9 rfl) ?_
  obtain ⟨e1, e2⟩ := t3 i.toNatClampNeg (Nat.not_le.mp fun q => hin (Or.inr q))
  rw [e1]
  exact zz_nret hb hE ⟨Nat.le_refl 0, Nat.le_refl 0⟩ e2 (z_dec dJ1_charAt_3b067 10 rfl) ⟨_, rfl, rfl, rfl⟩
theorem cS_charAt {i : Int32} (hs : zStr G k v9 N b) (hok : zTx1 N b) (hin : vp_in i N) : CT G w l (yJ0_charAt_5068e, cJ0_charAt_5068e, 2, some .char) 3 (0, 0) [.ref k, .int i] I (qE (b.getD i.toNatClampNeg 0) I) nX := by
  refine ct_of (by decide) [(0, .ref k), (1, .int i)] rfl rfl (fun K hG hw hl hwo hK => ?_)
  subst hG; subst hw; subst hl
  obtain ⟨hb, ho, hnl, hR, hE⟩ := hK
  obtain ⟨t1, t3⟩ := id hok
  refine zz_aload_n hb (z_dec dJ0_charAt_5068e 0 rfl) rfl 0 rfl ?_
  refine zz_invStr (as := []) (d := 0) (mc := (0, 0)) (S := []) hb ho hnl hR hE mkJ0_isLatin1_aae02 rfl hs rfl rfl ⟨Nat.le_refl 0, Nat.le_refl 0⟩ rfl (rJ0_charAt_5068e 0 rfl) (rJ0_charAt_5068e 1 rfl) (rJ0_charAt_5068e 2 rfl) rfl (z_dec dJ0_charAt_5068e 1 rfl) (cS_isLatin1 hs) (fun v J hp => ?_) (fun _ _ h => h.elim)
  obtain ⟨r, rfl, rfl, rfl⟩ := hp
  refine zz_if_eq (tgt := 16) hb (z_dec dJ0_charAt_5068e 2 rfl) (by decide) (fun c => absurd c (by decide)) (fun _ => ?_)
  refine zz_aload_n hb (z_dec dJ0_charAt_5068e 3 rfl) rfl 0 rfl ?_
  refine zz_strVal hb ho hs (rJ0_charAt_5068e 3 rfl) (z_dec dJ0_charAt_5068e 4 rfl) ?_
  refine zz_iload_n hb (z_dec dJ0_charAt_5068e 5 rfl) rfl 1 rfl ?_
  refine zz_invS (as := [.ref v9, .int i]) (d := 2) (mc := (0, 0)) (S := []) hb ho hnl hR hE mkJ1_charAt_3b067 rfl rfl ⟨Nat.le_refl 0, Nat.le_refl 0⟩ rfl (rJ0_charAt_5068e 4 rfl) (rJ0_charAt_5068e 5 rfl) rfl (z_dec dJ0_charAt_5068e 6 rfl) (cS_charAt1 hs hok hin) (fun v J hp => ?_) (fun _ _ h => h.elim)
  obtain ⟨r, rfl, rfl, rfl⟩ := hp
  obtain ⟨e1, e2⟩ := t3 i.toNatClampNeg (Nat.not_le.mp fun q => hin (Or.inr q))
  exact zz_nret hb hE ⟨Nat.le_refl 0, Nat.le_refl 0⟩ e2 (z_dec dJ0_charAt_5068e 7 rfl) ⟨_, rfl, rfl, rfl⟩
theorem cJ_length {j : Nat} (hj : j < 9) : CT G w l (yJ0_length_8abf5, cJ0_length_8abf5, 1, some .int) 1 (0, 0) [.ref (1100 + j)] I (qE (Int32.ofNat (zTl.getD j 0)) I) nX := cS_length (zs_con G hj) (zT_ok j hj).1
theorem cJ_charAt {i : Int32} {j : Nat} (hj : j < 9) (hin : vp_in i (zTl.getD j 0)) : CT G w l (yJ0_charAt_5068e, cJ0_charAt_5068e, 2, some .char) 3 (0, 0) [.ref (1100 + j), .int i] I (qE ((zTb.getD j []).getD i.toNatClampNeg 0) I) nX := cS_charAt (zs_con G hj) ⟨(zT_ok j hj).1, (zT_ok j hj).2.2⟩ hin
end STRC
