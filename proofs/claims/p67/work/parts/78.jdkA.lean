/-! JDK's METHODS: String.coder, length; the builder's small methods, newCapacity, copyOf -/
def qK (v0 : Option Value) (w0 : va_W) : Option Value → va_W → Prop := fun v w => v = v0 ∧ w = w0
theorem cJ4 : qOK 11 RJ4 TJ4 4 tyJ4 := ⟨rfl, fun w hw => by
  have h : (u_ws RJ4 TJ4 4).all (fun w => decide (w ∈ TG)) = true := by decide +kernel
  exact of_decide_eq_true (List.all_eq_true.mp h w hw), tyJ4_ok, nmJ4⟩
theorem cJ0 : qOK 12 RJ0 TJ0 4 tyJ0 := ⟨rfl, fun w hw => by
  have h : (u_ws RJ0 TJ0 4).all (fun w => decide (w ∈ TG)) = true := by decide +kernel
  exact of_decide_eq_true (List.all_eq_true.mp h w hw), tyJ0_ok, nmJ0⟩
/-- a builder at a, its bytes at b -/
abbrev sbO (b : Nat) (n : Int32) : List Value := [.ref b, .int 0, .int 0, .int n]
abbrev sbW (G : zG) (a b m : Nat) (f : Nat → Int32) (n : Int32) (R : va_W) : va_W := (a, .inr (11, sbO b n)) :: (b, .inl (gA G 21, m, .inl f)) :: R
theorem sbSup : Cond.superclass RJ4 RJ5 ∈ TG := tg_of (by decide +kernel) (by decide +kernel)
section QQN0
variable {K : zK} {u : Nat × Nat} {pc : Nat} {L : List (Nat × Value)} {S : List Value} {ws : va_W} {cc : ByteArray}
theorem qq_null (hb : kcc K = cc) (hdg : decode cc pc = .ok (.aconst_null, 1)) (k : QQ K u (pc + 1) L (.null :: S) ws) : QQ K u pc L S ws :=
  fun p e s m args below meth c Q H locs ls B hq hP hD hl hS => lv_null B.1 (B.2.1.trans hb) hdg (k p e s m args below meth c Q H locs ls B hq hP hD hl hS)
end QQN0
section J78
variable {G : zG} {l : Launch} {ws R : va_W} {k v9 N a b m : Nat} {bs : List Int32} {f : Nat → Int32} {n : Int32}
theorem u00 : ((0, 0) : Nat × Nat).1 ≤ ((0, 0) : Nat × Nat).1 ∧ ((0, 0) : Nat × Nat).2 ≤ ((0, 0) : Nat × Nat).2 := ⟨Nat.le_refl 0, Nat.le_refl 0⟩
theorem jS_coder (hs : zStr G k v9 N bs) : QC G l (yJ0_coder_7d493, cJ0_coder_7d493, 1, some .byte) 0 (0, 0) [.ref (gad G k)] ws (qK (some (.int 0)) ws) := by
  refine qc_of (by decide) rfl [(0, .ref (gad G k))] rfl (fun K hG hl hK => ?_)
  subst hG; subst hl
  obtain ⟨hb, ho, hnl, hR, hE⟩ := hK
  refine qq_compact hb ho (rJ0_coder_7d493 0 rfl) (z_dec dJ0_coder_7d493 0 rfl) ?_
  refine qq_if_eq (tgt := 13) hb (z_dec dJ0_coder_7d493 1 rfl) (by decide) (fun c => absurd c (by decide)) (fun _ => ?_)
  refine qq_aload_n hb (z_dec dJ0_coder_7d493 2 rfl) rfl 0 rfl ?_
  refine qq_strCod hb ho hs (rJ0_coder_7d493 1 rfl) (z_dec dJ0_coder_7d493 3 rfl) ?_
  refine qq_goto (tgt := 14) hb (z_dec dJ0_coder_7d493 4 rfl) (by decide) ?_
  exact qq_nret hb hE u00 rfl (z_dec dJ0_coder_7d493 6 rfl) ⟨rfl, rfl⟩
theorem jS_length (hs : zStr G k v9 N bs) : QC G l (yJ0_length_8abf5, cJ0_length_8abf5, 1, some .int) 1 (0, 0) [.ref (gad G k)] ws (qK (some (.int (Int32.ofNat N))) ws) := by
  refine qc_of (by decide) rfl [(0, .ref (gad G k))] rfl (fun K hG hl hK => ?_)
  subst hG; subst hl
  obtain ⟨hb, ho, hnl, hR, hE⟩ := hK
  refine qq_aload_n hb (z_dec dJ0_length_8abf5 0 rfl) rfl 0 rfl ?_
  refine qq_strVal hb ho hs (rJ0_length_8abf5 0 rfl) (z_dec dJ0_length_8abf5 1 rfl) ?_
  refine qq_strLen hb hs (z_dec dJ0_length_8abf5 2 rfl) ?_
  refine qq_aload_n hb (z_dec dJ0_length_8abf5 3 rfl) rfl 0 rfl ?_
  refine qq_invStr (d := 0) (mc' := (0, 0)) (as := []) hb ho hR hE mkJ0_coder_7d493 rfl hs rfl rfl u00 rfl (rJ0_length_8abf5 1 rfl) (rJ0_length_8abf5 2 rfl) (rJ0_length_8abf5 3 rfl) rfl (z_dec dJ0_length_8abf5 4 rfl) (jS_coder hs) (fun v w hp => ?_)
  obtain ⟨rfl, rfl⟩ := hp
  refine qq_ishr hb (z_dec dJ0_length_8abf5 5 rfl) ?_
  exact qq_iret hb hE u00 (z_dec dJ0_length_8abf5 6 rfl) ⟨congrArg (fun x => some (Value.int x)) (sb_shr0 _), rfl⟩
theorem j_isLatin1  : QC G l (yJ5_isLatin1_aae02, cJ5_isLatin1_aae02, 1, some .boolean) 0 (0, 0) [.ref a] (sbW G a b m f n R) (qK (some (.int 1)) (sbW G a b m f n R)) := by
  refine qc_of (by decide) rfl [(0, .ref a)] rfl (fun K hG hl hK => ?_)
  subst hG; subst hl
  obtain ⟨hb, ho, hnl, hR, hE⟩ := hK
  refine qq_compact hb ho (rJ5_isLatin1_aae02 0 rfl) (z_dec dJ5_isLatin1_aae02 0 rfl) ?_
  refine qq_if_eq (tgt := 17) hb (z_dec dJ5_isLatin1_aae02 1 rfl) (by decide) (fun c => absurd c (by decide)) (fun _ => ?_)
  refine qq_aload_n hb (z_dec dJ5_isLatin1_aae02 2 rfl) rfl 0 rfl ?_
  refine qq_get (ty := tyJ4) hb ho cJ4 0 rfl 1 rfl (rJ5_isLatin1_aae02 1 rfl) rfl rfl (z_dec dJ5_isLatin1_aae02 3 rfl) ?_
  refine qq_if_ne (tgt := 17) hb (z_dec dJ5_isLatin1_aae02 4 rfl) (by decide) (fun c => absurd rfl c) (fun _ => ?_)
  refine qq_iconst (v := 1) hb (z_dec dJ5_isLatin1_aae02 5 rfl) (by decide) ?_
  refine qq_goto (tgt := 18) hb (z_dec dJ5_isLatin1_aae02 6 rfl) (by decide) ?_
  exact qq_nret hb hE u00 rfl (z_dec dJ5_isLatin1_aae02 8 rfl) ⟨rfl, rfl⟩
theorem j_getValue  : QC G l (yJ5_getValue_6d5f1, cJ5_getValue_6d5f1, 1, some (.array .byte)) 0 (0, 0) [.ref a] (sbW G a b m f n R) (qK (some (.ref b)) (sbW G a b m f n R)) := by
  refine qc_of (by decide) rfl [(0, .ref a)] rfl (fun K hG hl hK => ?_)
  subst hG; subst hl
  obtain ⟨hb, ho, hnl, hR, hE⟩ := hK
  refine qq_aload_n hb (z_dec dJ5_getValue_6d5f1 0 rfl) rfl 0 rfl ?_
  refine qq_get (ty := tyJ4) hb ho cJ4 0 rfl 0 rfl (rJ5_getValue_6d5f1 0 rfl) rfl rfl (z_dec dJ5_getValue_6d5f1 1 rfl) ?_
  exact qq_aret hb hE (Or.inr ⟨_, rfl⟩) u00 (z_dec dJ5_getValue_6d5f1 2 rfl) ⟨rfl, rfl⟩
theorem j_len5  : QC G l (yJ5_length_8abf5, cJ5_length_8abf5, 1, some .int) 0 (0, 0) [.ref a] (sbW G a b m f n R) (qK (some (.int n)) (sbW G a b m f n R)) := by
  refine qc_of (by decide) rfl [(0, .ref a)] rfl (fun K hG hl hK => ?_)
  subst hG; subst hl
  obtain ⟨hb, ho, hnl, hR, hE⟩ := hK
  refine qq_aload_n hb (z_dec dJ5_length_8abf5 0 rfl) rfl 0 rfl ?_
  refine qq_get (ty := tyJ4) hb ho cJ4 0 rfl 3 rfl (rJ5_length_8abf5 0 rfl) rfl rfl (z_dec dJ5_length_8abf5 1 rfl) ?_
  exact qq_iret hb hE u00 (z_dec dJ5_length_8abf5 2 rfl) ⟨rfl, rfl⟩
theorem j_len4  : QC G l (yJ4_length_8abf5, cJ4_length_8abf5, 1, some .int) 1 (0, 0) [.ref a] (sbW G a b m f n R) (qK (some (.int n)) (sbW G a b m f n R)) := by
  refine qc_of (by decide) rfl [(0, .ref a)] rfl (fun K hG hl hK => ?_)
  subst hG; subst hl
  obtain ⟨hb, ho, hnl, hR, hE⟩ := hK
  refine qq_aload_n hb (z_dec dJ4_length_8abf5 0 rfl) rfl 0 rfl ?_
  refine qq_invSU (d := 0) (mc' := (0, 0)) (as := []) hb ho hR hE mkJ5_length_8abf5 rfl cJ4 0 rfl rfl u00 rfl (by decide) (rJ4_length_8abf5 0 rfl) (rJ4_length_8abf5 2 rfl) sbSup (rJ4_length_8abf5 1 rfl) rfl (z_dec dJ4_length_8abf5 1 rfl) j_len5 (fun v w hp => ?_)
  obtain ⟨rfl, rfl⟩ := hp
  exact qq_iret hb hE u00 (z_dec dJ4_length_8abf5 2 rfl) ⟨rfl, rfl⟩
theorem j_canEncode {c : Nat} (hc : c < 128) : QC G l (yJ1_canEncode_fc78d, cJ1_canEncode_fc78d, 1, some .boolean) 0 (0, 0) [.int (nI c)] ws (qK (some (.int 1)) ws) := by
  refine qc_of (by decide) rfl [(0, .int (nI c))] rfl (fun K hG hl hK => ?_)
  subst hG; subst hl
  obtain ⟨hb, ho, hnl, hR, hE⟩ := hK
  refine qq_iload_n hb (z_dec dJ1_canEncode_fc78d 0 rfl) rfl 0 rfl ?_
  refine qq_sipush (v := 255) hb (z_dec dJ1_canEncode_fc78d 1 rfl) (by decide) ?_
  refine qq_icmp_gt (tgt := 11) hb (z_dec dJ1_canEncode_fc78d 2 rfl) (by decide) (fun c => absurd c (Int32.not_lt.mpr (nI_le (b := 255) (by omega) (by omega)))) (fun _ => ?_)
  refine qq_iconst (v := 1) hb (z_dec dJ1_canEncode_fc78d 3 rfl) (by decide) ?_
  refine qq_goto (tgt := 12) hb (z_dec dJ1_canEncode_fc78d 4 rfl) (by decide) ?_
  exact qq_nret hb hE u00 rfl (z_dec dJ1_canEncode_fc78d 6 rfl) ⟨rfl, rfl⟩
theorem j_checkLength {c : Nat} (hc : c < 2 ^ 31) : QC G l (yJ7_checkLength_df160, cJ7_checkLength_df160, 2, none) 0 (0, 0) [.int 0, .int (nI c)] ws (qK none ws) := by
  refine qc_of (by decide) rfl [(0, .int 0), (1, .int (nI c))] rfl (fun K hG hl hK => ?_)
  subst hG; subst hl
  obtain ⟨hb, ho, hnl, hR, hE⟩ := hK
  refine qq_iload_n hb (z_dec dJ7_checkLength_df160 0 rfl) rfl 1 rfl ?_
  refine qq_iload_n hb (z_dec dJ7_checkLength_df160 1 rfl) rfl 0 rfl ?_
  refine qq_icmp_ge (tgt := 37) hb (z_dec dJ7_checkLength_df160 2 rfl) (by decide) (fun _ => ?_) (fun c => absurd (nI_pos' hc) c)
  exact qq_vret hb hE u00 (z_dec dJ7_checkLength_df160 17 rfl) ⟨rfl, rfl⟩
theorem j_newLength {x y : Int32} (h1 : 0 < N) (h2 : N ≤ 65536) (he : nI m + (if x < y then y else x) = nI N) : QC G l (yJ8_newLength_cabcc, cJ8_newLength_cabcc, 4, some .int) 1 (0, 0) [.int (nI m), .int x, .int y] ws (qK (some (.int (nI N))) ws) := by
  refine qc_of (by decide) rfl [(0, .int (nI m)), (1, .int x), (2, .int y)] rfl (fun K hG hl hK => ?_)
  subst hG; subst hl
  obtain ⟨hb, ho, hnl, hR, hE⟩ := hK
  refine qq_iload_n hb (z_dec dJ8_newLength_cabcc 0 rfl) rfl 0 rfl ?_
  refine qq_iload_n hb (z_dec dJ8_newLength_cabcc 1 rfl) rfl 1 rfl ?_
  refine qq_iload_n hb (z_dec dJ8_newLength_cabcc 2 rfl) rfl 2 rfl ?_
  refine qq_max hb ho hR rfl u00 rfl (rJ8_newLength_cabcc 0 rfl) (z_dec dJ8_newLength_cabcc 3 rfl) ?_
  refine qq_iadd hb (z_dec dJ8_newLength_cabcc 4 rfl) ?_
  rw [he]
  refine qq_istore_n hb (z_dec dJ8_newLength_cabcc 5 rfl) rfl hnl rfl rfl ?_
  refine qq_iconst (v := 0) hb (z_dec dJ8_newLength_cabcc 6 rfl) (by decide) ?_
  refine qq_iload_n hb (z_dec dJ8_newLength_cabcc 7 rfl) rfl 0 rfl ?_
  refine qq_icmp_ge (tgt := 21) hb (z_dec dJ8_newLength_cabcc 8 rfl) (by decide) (fun c => absurd c (Int32.not_le.mpr (nI_lt (a := 0) h1 (by omega)))) (fun _ => ?_)
  refine qq_iload_n hb (z_dec dJ8_newLength_cabcc 9 rfl) rfl 0 rfl ?_
  refine qq_ldci hb ho (rJ8_newLength_cabcc 2 rfl) (z_dec dJ8_newLength_cabcc 10 rfl) ?_
  refine qq_icmp_gt (tgt := 21) hb (z_dec dJ8_newLength_cabcc 11 rfl) (by decide) (fun c => absurd c (Int32.not_lt.mpr (nI_le (b := 2147483639) (by omega) (by decide)))) (fun _ => ?_)
  refine qq_iload_n hb (z_dec dJ8_newLength_cabcc 12 rfl) rfl 0 rfl ?_
  exact qq_iret hb hE u00 (z_dec dJ8_newLength_cabcc 13 rfl) ⟨rfl, rfl⟩
theorem sb_capD {q m : Nat} (hq : m < q) : sb_cap q m = m + (if q - m < m + 2 then m + 2 else q - m) := by
  unfold sb_cap
  rw [if_neg (by omega)]
  split <;> split <;> omega
theorem sb_capB {q m : Nat} (hq : m < q) (hq2 : q ≤ 600) : sb_cap q m ≤ 65536 := by
  rw [sb_capD hq]
  split <;> omega
theorem sb_capE {q m : Nat} (hq : m < q) (hq2 : q ≤ 600) : nI m + (if nI (q - m) < nI (m + 2) then nI (m + 2) else nI (q - m)) = nI (sb_cap q m) := by
  rw [sb_capD hq]
  by_cases h2 : q - m < m + 2
  · rw [if_pos h2, if_pos (nI_lt h2 (by omega))]
    exact nI_add m (m + 2)
  · rw [if_neg h2, if_neg (nI_nlt (by omega) (by omega))]
    exact nI_add m (q - m)
theorem j_newCapacity {q : Nat} (hq : m < q) (hq2 : q ≤ 600) : QC G l (yJ5_newCapacity_0f7a4, cJ5_newCapacity_0f7a4, 6, some .int) 2 (0, 0) [.ref a, .int (nI q)] (sbW G a b m f n R) (qK (some (.int (nI (sb_cap q m)))) (sbW G a b m f n R)) := by
  refine qc_of (by decide) rfl [(0, .ref a), (1, .int (nI q))] rfl (fun K hG hl hK => ?_)
  subst hG; subst hl
  obtain ⟨hb, ho, hnl, hR, hE⟩ := hK
  refine qq_aload_n hb (z_dec dJ5_newCapacity_0f7a4 0 rfl) rfl 0 rfl ?_
  refine qq_get (ty := tyJ4) hb ho cJ4 0 rfl 0 rfl (rJ5_newCapacity_0f7a4 0 rfl) rfl rfl (z_dec dJ5_newCapacity_0f7a4 1 rfl) ?_
  refine qq_alen hb 1 rfl (z_dec dJ5_newCapacity_0f7a4 2 rfl) ?_
  refine qq_istore_n hb (z_dec dJ5_newCapacity_0f7a4 3 rfl) rfl hnl rfl rfl ?_
  refine qq_iload_n hb (z_dec dJ5_newCapacity_0f7a4 4 rfl) rfl 2 rfl ?_
  refine qq_aload_n hb (z_dec dJ5_newCapacity_0f7a4 5 rfl) rfl 1 rfl ?_
  refine qq_get (ty := tyJ4) hb ho cJ4 0 rfl 1 rfl (rJ5_newCapacity_0f7a4 1 rfl) rfl rfl (z_dec dJ5_newCapacity_0f7a4 6 rfl) ?_
  refine qq_ishl hb (z_dec dJ5_newCapacity_0f7a4 7 rfl) ?_
  rw [sb_shl0]
  refine qq_istore_n hb (z_dec dJ5_newCapacity_0f7a4 8 rfl) rfl hnl rfl rfl ?_
  refine qq_iload_n hb (z_dec dJ5_newCapacity_0f7a4 9 rfl) rfl 0 rfl ?_
  refine qq_iload_n hb (z_dec dJ5_newCapacity_0f7a4 10 rfl) rfl 1 rfl ?_
  refine qq_isub hb (z_dec dJ5_newCapacity_0f7a4 11 rfl) ?_
  rw [show nI q - Int32.ofNat m = nI (q - m) from pk_sub (by omega)]
  refine qq_istore hb (z_dec dJ5_newCapacity_0f7a4 12 rfl) hnl rfl rfl ?_
  refine qq_iload_n hb (z_dec dJ5_newCapacity_0f7a4 13 rfl) rfl 2 rfl ?_
  refine qq_iload hb (z_dec dJ5_newCapacity_0f7a4 14 rfl) 0 rfl ?_
  refine qq_iload_n hb (z_dec dJ5_newCapacity_0f7a4 15 rfl) rfl 2 rfl ?_
  refine qq_iconst (v := 2) hb (z_dec dJ5_newCapacity_0f7a4 16 rfl) (by decide) ?_
  refine qq_aload_n hb (z_dec dJ5_newCapacity_0f7a4 17 rfl) rfl 3 rfl ?_
  refine qq_get (ty := tyJ4) hb ho cJ4 0 rfl 1 rfl (rJ5_newCapacity_0f7a4 1 rfl) rfl rfl (z_dec dJ5_newCapacity_0f7a4 18 rfl) ?_
  refine qq_ishl hb (z_dec dJ5_newCapacity_0f7a4 19 rfl) ?_
  rw [sb_shl0]
  refine qq_iadd hb (z_dec dJ5_newCapacity_0f7a4 20 rfl) ?_
  rw [show Int32.ofNat m + (2 : Int32) = nI (m + 2) from nI_add m 2]
  refine qq_invS (d := 1) (mc' := (0, 0)) (as := [.int (nI m), .int (nI (q - m)), .int (nI (m + 2))]) hb ho hR hE mkJ8_newLength_cabcc rfl rfl u00 rfl (rJ5_newCapacity_0f7a4 2 rfl) (rJ5_newCapacity_0f7a4 3 rfl) rfl (z_dec dJ5_newCapacity_0f7a4 21 rfl) (j_newLength (N := sb_cap q m) (by have := sb_cap_ge q m; omega) (sb_capB hq hq2) (sb_capE hq hq2)) (fun v w hp => ?_)
  obtain ⟨rfl, rfl⟩ := hp
  refine qq_istore hb (z_dec dJ5_newCapacity_0f7a4 22 rfl) hnl rfl rfl ?_
  refine qq_iload hb (z_dec dJ5_newCapacity_0f7a4 23 rfl) 0 rfl ?_
  refine qq_ldci hb ho (rJ5_newCapacity_0f7a4 4 rfl) (z_dec dJ5_newCapacity_0f7a4 24 rfl) ?_
  refine qq_icmp_ne (tgt := 51) hb (z_dec dJ5_newCapacity_0f7a4 25 rfl) (by decide) (fun _ => ?_) (fun c => absurd (show nI (sb_cap q m) = nI 2147483647 from c) (fun z => by have := (nI_eq (by have := sb_capB hq hq2; omega) (by decide)).mp z; have := sb_capB hq hq2; omega))
  refine qq_iload hb (z_dec dJ5_newCapacity_0f7a4 31 rfl) 0 rfl ?_
  refine qq_aload_n hb (z_dec dJ5_newCapacity_0f7a4 32 rfl) rfl 4 rfl ?_
  refine qq_get (ty := tyJ4) hb ho cJ4 0 rfl 1 rfl (rJ5_newCapacity_0f7a4 1 rfl) rfl rfl (z_dec dJ5_newCapacity_0f7a4 33 rfl) ?_
  refine qq_ishr hb (z_dec dJ5_newCapacity_0f7a4 34 rfl) ?_
  rw [sb_shr0]
  exact qq_iret hb hE u00 (z_dec dJ5_newCapacity_0f7a4 35 rfl) ⟨rfl, rfl⟩
theorem j_copyOf {q : Nat} (hfr : qFr G) (hq : m < q) (hq2 : q ≤ 65536) (hf : ∀ j, fits .byte (.int (f j)) = true) : QC G l (yJ7_copyOf_9075b, cJ7_copyOf_9075b, 3, some (.array .byte)) 1 (1, q) [.ref b, .int (nI q)] (sbW G a b m f n R) (fun v w => ∃ h : Nat, v = some (.ref h) ∧ w = ((h, .inl (gA G 21, q, .inl (va_cpy f (fun _ => 0) 0 0 m))) :: sbW G a b m f n R)) := by
  refine qc_of (by decide) rfl [(0, .ref b), (1, .int (nI q))] rfl (fun K hG hl hK => ?_)
  subst hG; subst hl
  obtain ⟨hb, ho, hnl, hR, hE⟩ := hK
  refine qq_iload_n hb (z_dec dJ7_copyOf_9075b 0 rfl) rfl 1 rfl ?_
  refine qq_aload_n hb (z_dec dJ7_copyOf_9075b 1 rfl) rfl 0 rfl ?_
  refine qq_alen hb 1 rfl (z_dec dJ7_copyOf_9075b 2 rfl) ?_
  refine qq_icmp_ne (tgt := 14) hb (z_dec dJ7_copyOf_9075b 3 rfl) (by decide) (fun _ => ?_) (fun c => absurd c (fun z => by have := (nI_eq (b := m) (by omega) (by omega)).mp z; omega))
  refine qq_iload_n hb (z_dec dJ7_copyOf_9075b 8 rfl) rfl 1 rfl ?_
  refine qq_newb (N := q) hb (nI_pos (by omega)) (nI_clamp (by omega)) (by omega) (by rw [hR]; exact ⟨Nat.le_refl _, by show 0 + q ≤ q; omega⟩) hfr (z_dec dJ7_copyOf_9075b 9 rfl) (fun h => ?_)
  refine qq_astore_n hb (z_dec dJ7_copyOf_9075b 10 rfl) rfl hnl rfl rfl ?_
  refine qq_aload_n hb (z_dec dJ7_copyOf_9075b 11 rfl) rfl 1 rfl ?_
  refine qq_iconst (v := 0) hb (z_dec dJ7_copyOf_9075b 12 rfl) (by decide) ?_
  refine qq_aload_n hb (z_dec dJ7_copyOf_9075b 13 rfl) rfl 0 rfl ?_
  refine qq_iconst (v := 0) hb (z_dec dJ7_copyOf_9075b 14 rfl) (by decide) ?_
  refine qq_aload_n hb (z_dec dJ7_copyOf_9075b 15 rfl) rfl 1 rfl ?_
  refine qq_alen hb 2 rfl (z_dec dJ7_copyOf_9075b 16 rfl) ?_
  refine qq_iload_n hb (z_dec dJ7_copyOf_9075b 17 rfl) rfl 2 rfl ?_
  refine qq_min hb ho hR rfl ⟨by simp, by simp⟩ rfl (rJ7_copyOf_9075b 1 rfl) (z_dec dJ7_copyOf_9075b 18 rfl) ?_
  rw [show (if nI q < Int32.ofNat m then nI q else Int32.ofNat m) = nI m from if_neg (nI_nlt (by omega) (by omega))]
  refine qq_copy (sp := 0) (dp := 0) (n := m) hb ho hR rfl rfl (rJ7_copyOf_9075b 3 rfl) 2 0 rfl rfl (by omega) (by omega) (by omega) (by omega) (by omega) (fun i _ => hf _) (z_dec dJ7_copyOf_9075b 19 rfl) rfl ?_
  refine qq_aload_n hb (z_dec dJ7_copyOf_9075b 20 rfl) rfl 0 rfl ?_
  exact qq_aret hb hE (Or.inr ⟨_, rfl⟩) ⟨by simp, by simp⟩ (z_dec dJ7_copyOf_9075b 21 rfl) ⟨h, rfl, rfl⟩
end J78
