/-! JDK's METHODS: append of a character, of a number -/
/-- the bytes behind a number's digits, which end at p -/
def gcF (f : Nat → Int32) (p v : Nat) : Nat → Int32 := if v < 10 then upd f (p - 1) (nI (48 + v % 10)) else upd (upd f (p - 1) (nI (48 + v % 10))) (p - 2) (nI (48 + v / 10))
theorem dgt_len (v : Nat) : (dgt v).length = if v < 10 then 1 else 2 := by unfold dgt; split <;> rfl
theorem sbI_1 {T : List Nat} {m m9 c : Nat} {f f9 : Nat → Int32} (hI : sbI T m f) (e1 : T.length + 1 ≤ m9) (e2 : m9 ≤ 600) (e3 : m ≤ m9) (e4 : ∀ j, j < m → f9 j = f j) (e5 : ∀ j, fits .byte (.int (f9 j)) = true) (hc : c < 128) : sbI (T ++ [c]) m9 (upd f9 T.length (nI c)) := by
  refine ⟨by rw [List.length_append]; exact e1, e2, fun j hj => ?_, fun j => ?_⟩
  · rw [List.length_append] at hj
    have hj : j < T.length + 1 := hj
    by_cases h : j = T.length
    · have e := appD_hi (T := T) (X := [c]) (j := 0)
      rw [h, upd_same]
      rw [Nat.add_zero] at e
      rw [e]; rfl
    · rw [upd_ne _ _ h, appD_lo (by omega), e4 j (Nat.lt_of_lt_of_le (show j < T.length by omega) hI.1)]
      exact hI.2.2.1 j (by omega)
  · by_cases h : j = T.length
    · rw [h, upd_same]; exact fit_nI hc
    · rw [upd_ne _ _ h]; exact e5 j
theorem sbI_dg {T : List Nat} {m m9 v : Nat} {f f9 : Nat → Int32} (hI : sbI T m f) (hv : v < 100) (e1 : T.length + (dgt v).length ≤ m9) (e2 : m9 ≤ 600) (e3 : m ≤ m9) (e4 : ∀ j, j < m → f9 j = f j) (e5 : ∀ j, fits .byte (.int (f9 j)) = true) : sbI (T ++ dgt v) m9 (gcF f9 (T.length + (dgt v).length) v) := by
  by_cases h : v < 10
  · have ed : dgt v = [48 + v] := if_pos h
    rw [ed] at e1 ⊢
    have z := sbI_1 (c := 48 + v) hI e1 e2 e3 e4 e5 (by omega)
    have ef : gcF f9 (T.length + [48 + v].length) v = upd f9 T.length (nI (48 + v)) := by
      unfold gcF
      rw [if_pos h, Nat.mod_eq_of_lt h]
      rfl
    rw [ef]
    exact z
  · have ed : dgt v = [48 + v / 10, 48 + v % 10] := if_neg h
    rw [ed] at e1 ⊢
    have e1 : T.length + 2 ≤ m9 := e1
    have z1 := sbI_1 (c := 48 + v / 10) hI (by omega) e2 e3 e4 e5 (by omega)
    have z2 := sbI_1 (T := T ++ [48 + v / 10]) (c := 48 + v % 10) z1 (by rw [List.length_append]; exact e1) e2 (Nat.le_refl _) (fun _ _ => rfl) z1.2.2.2 (by omega)
    have ef : gcF f9 (T.length + [48 + v / 10, 48 + v % 10].length) v = upd (upd f9 T.length (nI (48 + v / 10))) (T ++ [48 + v / 10]).length (nI (48 + v % 10)) := by
      unfold gcF
      rw [if_neg h, List.length_append]
      show upd (upd f9 (T.length + 2 - 1) _) (T.length + 2 - 2) _ = upd (upd f9 T.length _) (T.length + 1) _
      rw [show T.length + 2 - 1 = T.length + 1 by omega, show T.length + 2 - 2 = T.length by omega]
      funext j
      by_cases j0 : j = T.length
      · rw [j0, upd_same, upd_ne _ _ (by omega), upd_same]
      · by_cases j1 : j = T.length + 1
        · rw [j1, upd_ne _ _ (by omega), upd_same, upd_same]
        · rw [upd_ne _ _ j0, upd_ne _ _ j1, upd_ne _ _ j1, upd_ne _ _ j0]
    rw [ef]
    rw [List.append_assoc] at z2
    exact z2
section J80
variable {G : zG} {l : Launch} {ws R : va_W} {k v9 N a b m : Nat} {bs : List Int32} {f : Nat → Int32} {n : Int32} {T : List Nat}
theorem zd_1 (s : State) (h : zOld G s) : va_Z "java/lang/Integer" "DigitOnes" "[B" (.ref (gad G 1403)) (gF G) s s.heap := h.1.2.2.2.2.2.2.1.1
theorem zd_2 (s : State) (h : zOld G s) : va_T .byte (gad G 1403) 100 (fun j => .int (zD1 j)) (gF G) s s.heap := h.1.2.2.2.2.2.2.1.2
theorem zd_3 (s : State) (h : zOld G s) : va_Z "java/lang/Integer" "DigitTens" "[B" (.ref (gad G 1404)) (gF G) s s.heap := h.1.2.2.2.2.2.2.2.1
theorem zd_4 (s : State) (h : zOld G s) : va_T .byte (gad G 1404) 100 (fun j => .int (zD2 j)) (gF G) s s.heap := h.1.2.2.2.2.2.2.2.2
theorem j_appendC {c : Nat} (hfr : qFr G) (hI : sbI T m f) (hc : c < 128) (hlen : T.length + 1 ≤ 260) : QC G l (yJ5_append_3fe6f, cJ5_append_3fe6f, 2, some (.object "java/lang/AbstractStringBuilder")) 4 (1, 600) [.ref a, .int (nI c)] (sbW G a b m f (nI T.length) R) (sbP G a (T ++ [c]) R) := by
  refine qc_of (by decide) rfl [(0, .ref a), (1, .int (nI c))] rfl (fun K hG hl hK => ?_)
  subst hG; subst hl
  obtain ⟨hb, ho, hnl, hR, hE⟩ := hK
  refine qq_aload_n hb (z_dec dJ5_append_3fe6f 0 rfl) rfl 0 rfl ?_
  refine qq_aload_n hb (z_dec dJ5_append_3fe6f 1 rfl) rfl 0 rfl ?_
  refine qq_get (ty := tyJ4) hb ho cJ4 0 rfl 3 rfl (rJ5_append_3fe6f 0 rfl) rfl rfl (z_dec dJ5_append_3fe6f 2 rfl) ?_
  refine qq_iconst (v := 1) hb (z_dec dJ5_append_3fe6f 3 rfl) (by decide) ?_
  refine qq_iadd hb (z_dec dJ5_append_3fe6f 4 rfl) ?_
  rw [show nI T.length + (1 : Int32) = nI (T.length + 1) from nI_1 _]
  refine qq_invU (d := 3) (mc' := (1, 600)) (as := [.int (nI (T.length + 1))]) (x := yJ5_ensureCapacityInternal_d00df) (owner := RJ5) hb ho hR hE mkJ5_ensureCapacityInternal_d00df rfl cJ4 0 rfl rfl ⟨by simp, by simp⟩ rfl rfl mkJ5_ensureCapacityInternal_d00df (rJ5_append_3fe6f 2 rfl) (rJ5_append_3fe6f 1 rfl) (rJ5_append_3fe6f 3 rfl) (rJ5_append_3fe6f 4 rfl) (rJ5_append_3fe6f 2 rfl) rfl (z_dec dJ5_append_3fe6f 5 rfl) (j_ensure hfr hI.2.1 (by omega) hI.2.2.2) (fun v w hp9 => ?_)
  obtain ⟨rfl, b9, m9, f9, rfl, e1, e2, e3, e4, e5⟩ := hp9
  refine qq_aload_n hb (z_dec dJ5_append_3fe6f 6 rfl) rfl 0 rfl ?_
  refine qq_invU (d := 0) (mc' := (0, 0)) (as := []) (x := yJ5_isLatin1_aae02) (owner := RJ5) hb ho hR hE mkJ5_isLatin1_aae02 rfl cJ4 0 rfl rfl ⟨by simp, by simp⟩ rfl rfl mkJ5_isLatin1_aae02 (rJ5_append_3fe6f 6 rfl) (rJ5_append_3fe6f 5 rfl) (rJ5_append_3fe6f 7 rfl) (rJ5_append_3fe6f 8 rfl) (rJ5_append_3fe6f 6 rfl) rfl (z_dec dJ5_append_3fe6f 7 rfl) j_isLatin1 (fun v w hp9 => ?_)
  obtain ⟨rfl, rfl⟩ := hp9
  refine qq_if_eq (tgt := 45) hb (z_dec dJ5_append_3fe6f 8 rfl) (by decide) (fun c => absurd c (by decide)) (fun _ => ?_)
  refine qq_iload_n hb (z_dec dJ5_append_3fe6f 9 rfl) rfl 1 rfl ?_
  refine qq_invS (d := 0) (mc' := (0, 0)) (as := [.int (nI c)]) hb ho hR hE mkJ1_canEncode_fc78d rfl rfl ⟨by simp, by simp⟩ rfl (rJ5_append_3fe6f 9 rfl) (rJ5_append_3fe6f 10 rfl) rfl (z_dec dJ5_append_3fe6f 10 rfl) (j_canEncode hc) (fun v w hp9 => ?_)
  obtain ⟨rfl, rfl⟩ := hp9
  refine qq_if_eq (tgt := 45) hb (z_dec dJ5_append_3fe6f 11 rfl) (by decide) (fun c => absurd c (by decide)) (fun _ => ?_)
  refine qq_aload_n hb (z_dec dJ5_append_3fe6f 12 rfl) rfl 0 rfl ?_
  refine qq_get (ty := tyJ4) hb ho cJ4 0 rfl 0 rfl (rJ5_append_3fe6f 11 rfl) rfl rfl (z_dec dJ5_append_3fe6f 13 rfl) ?_
  refine qq_aload_n hb (z_dec dJ5_append_3fe6f 14 rfl) rfl 0 rfl ?_
  refine qq_dup hb (z_dec dJ5_append_3fe6f 15 rfl) rfl ?_
  refine qq_get (ty := tyJ4) hb ho cJ4 0 rfl 3 rfl (rJ5_append_3fe6f 0 rfl) rfl rfl (z_dec dJ5_append_3fe6f 16 rfl) ?_
  refine qq_dup_x1 hb (z_dec dJ5_append_3fe6f 17 rfl) rfl rfl ?_
  refine qq_iconst (v := 1) hb (z_dec dJ5_append_3fe6f 18 rfl) (by decide) ?_
  refine qq_iadd hb (z_dec dJ5_append_3fe6f 19 rfl) ?_
  rw [show nI T.length + (1 : Int32) = nI (T.length + 1) from nI_1 _]
  refine qq_put (ty := tyJ4) (fs := sbO b9 (nI T.length)) hb ho cJ4 0 rfl 3 rfl (rJ5_append_3fe6f 0 rfl) rfl rfl rfl rfl (show 3 < 4 by decide) (z_dec dJ5_append_3fe6f 20 rfl) rfl ?_
  refine qq_iload_n hb (z_dec dJ5_append_3fe6f 21 rfl) rfl 1 rfl ?_
  refine qq_i2b hb (z_dec dJ5_append_3fe6f 22 rfl) ?_
  refine qq_bast hb 1 rfl (vp_in_nI (by omega) (by omega)) (z_dec dJ5_append_3fe6f 23 rfl) rfl ?_
  rw [nI_clamp (by omega), Int8.toInt8_toInt32, i8s hc]
  refine qq_goto (tgt := 75) hb (z_dec dJ5_append_3fe6f 24 rfl) (by decide) ?_
  refine qq_aload_n hb (z_dec dJ5_append_3fe6f 41 rfl) rfl 0 rfl ?_
  exact qq_aret hb hE (Or.inl ⟨_, rfl⟩) ⟨by simp, by simp⟩ (z_dec dJ5_append_3fe6f 42 rfl) ⟨rfl, b9, m9, _, by rw [List.length_append]; rfl, sbI_1 hI e1 e2 e3 e4 e5 hc⟩
theorem j_stringSize {v : Nat} (hv : v < 100) : QC G l (yJ6_stringSize_0f7a4, cJ6_stringSize_0f7a4, 4, some .int) 0 (0, 0) [.int (nI v)] ws (qK (some (.int (nI (dgt v).length))) ws) := by
  refine qc_of (by decide) rfl [(0, .int (nI v))] rfl (fun K hG hl hK => ?_)
  subst hG; subst hl
  obtain ⟨hb, ho, hnl, hR, hE⟩ := hK
  refine qq_iconst (v := 1) hb (z_dec dJ6_stringSize_0f7a4 0 rfl) (by decide) ?_
  refine qq_istore_n hb (z_dec dJ6_stringSize_0f7a4 1 rfl) rfl hnl rfl rfl ?_
  refine qq_iload_n hb (z_dec dJ6_stringSize_0f7a4 2 rfl) rfl 1 rfl ?_
  refine qq_if_lt (tgt := 11) hb (z_dec dJ6_stringSize_0f7a4 3 rfl) (by decide) (fun c => absurd c (Int32.not_lt.mpr (nI_pos' (by omega)))) (fun _ => ?_)
  refine qq_iconst (v := 0) hb (z_dec dJ6_stringSize_0f7a4 4 rfl) (by decide) ?_
  refine qq_istore_n hb (z_dec dJ6_stringSize_0f7a4 5 rfl) rfl hnl rfl rfl ?_
  refine qq_iload_n hb (z_dec dJ6_stringSize_0f7a4 6 rfl) rfl 1 rfl ?_
  refine qq_ineg hb (z_dec dJ6_stringSize_0f7a4 7 rfl) ?_
  refine qq_istore_n hb (z_dec dJ6_stringSize_0f7a4 8 rfl) rfl hnl rfl rfl ?_
  refine qq_bipush (v := -10) hb (z_dec dJ6_stringSize_0f7a4 9 rfl) (by decide) ?_
  refine qq_istore_n hb (z_dec dJ6_stringSize_0f7a4 10 rfl) rfl hnl rfl rfl ?_
  refine qq_iconst (v := 1) hb (z_dec dJ6_stringSize_0f7a4 11 rfl) (by decide) ?_
  refine qq_istore_n hb (z_dec dJ6_stringSize_0f7a4 12 rfl) rfl hnl rfl rfl ?_
  refine qq_iload_n hb (z_dec dJ6_stringSize_0f7a4 13 rfl) rfl 0 rfl ?_
  refine qq_bipush (v := 10) hb (z_dec dJ6_stringSize_0f7a4 14 rfl) (by decide) ?_
  refine qq_icmp_ge (tgt := 42) hb (z_dec dJ6_stringSize_0f7a4 15 rfl) (by decide) (fun c => absurd c (by decide)) (fun _ => ?_)
  refine qq_iload_n hb (z_dec dJ6_stringSize_0f7a4 16 rfl) rfl 2 rfl ?_
  refine qq_iload_n hb (z_dec dJ6_stringSize_0f7a4 17 rfl) rfl 1 rfl ?_
  by_cases h : v < 10
  · refine qq_icmp_le (tgt := 31) hb (z_dec dJ6_stringSize_0f7a4 18 rfl) (by decide) (fun c => absurd ((sb_nle (a := v) (b := 10) (by omega) (by decide)).mp c) (by omega)) (fun _ => ?_)
    refine qq_iload_n hb (z_dec dJ6_stringSize_0f7a4 19 rfl) rfl 0 rfl ?_
    refine qq_iload_n hb (z_dec dJ6_stringSize_0f7a4 20 rfl) rfl 3 rfl ?_
    refine qq_iadd hb (z_dec dJ6_stringSize_0f7a4 21 rfl) ?_
    exact qq_iret hb hE u00 (z_dec dJ6_stringSize_0f7a4 22 rfl) ⟨by rw [dgt_len, if_pos h]; rfl, rfl⟩
  · refine qq_icmp_le (tgt := 31) hb (z_dec dJ6_stringSize_0f7a4 18 rfl) (by decide) (fun _ => ?_) (fun c => absurd ((sb_nle (a := v) (b := 10) (by omega) (by decide)).mpr (by omega)) c)
    refine qq_bipush (v := 10) hb (z_dec dJ6_stringSize_0f7a4 23 rfl) (by decide) ?_
    refine qq_iload_n hb (z_dec dJ6_stringSize_0f7a4 24 rfl) rfl 1 rfl ?_
    refine qq_imul hb (z_dec dJ6_stringSize_0f7a4 25 rfl) ?_
    refine qq_istore_n hb (z_dec dJ6_stringSize_0f7a4 26 rfl) rfl hnl rfl rfl ?_
    refine qq_iinc hb (z_dec dJ6_stringSize_0f7a4 27 rfl) 1 rfl rfl hnl rfl rfl ?_
    refine qq_goto (tgt := 16) hb (z_dec dJ6_stringSize_0f7a4 28 rfl) (by decide) ?_
    refine qq_iload_n hb (z_dec dJ6_stringSize_0f7a4 13 rfl) rfl 0 rfl ?_
    refine qq_bipush (v := 10) hb (z_dec dJ6_stringSize_0f7a4 14 rfl) (by decide) ?_
    refine qq_icmp_ge (tgt := 42) hb (z_dec dJ6_stringSize_0f7a4 15 rfl) (by decide) (fun c => absurd c (by decide)) (fun _ => ?_)
    refine qq_iload_n hb (z_dec dJ6_stringSize_0f7a4 16 rfl) rfl 2 rfl ?_
    refine qq_iload_n hb (z_dec dJ6_stringSize_0f7a4 17 rfl) rfl 1 rfl ?_
    refine qq_icmp_le (tgt := 31) hb (z_dec dJ6_stringSize_0f7a4 18 rfl) (by decide) (fun c => absurd ((sb_nle (a := v) (b := 100) (by omega) (by decide)).mp c) (by omega)) (fun _ => ?_)
    refine qq_iload_n hb (z_dec dJ6_stringSize_0f7a4 19 rfl) rfl 0 rfl ?_
    refine qq_iload_n hb (z_dec dJ6_stringSize_0f7a4 20 rfl) rfl 3 rfl ?_
    refine qq_iadd hb (z_dec dJ6_stringSize_0f7a4 21 rfl) ?_
    exact qq_iret hb hE u00 (z_dec dJ6_stringSize_0f7a4 22 rfl) ⟨by rw [dgt_len, if_neg h]; rfl, rfl⟩
theorem j_getChars {v p : Nat} (hv : v < 100) (hp : (dgt v).length ≤ p) (hpm : p ≤ m) (hm : m ≤ 600) : QC G l (yJ6_getChars_ba4f3, cJ6_getChars_ba4f3, 7, some .int) 0 (0, 0) [.int (nI v), .int (nI p), .ref b] (sbW G a b m f n R) (qK (some (.int (nI (p - (dgt v).length)))) (sbW G a b m (gcF f p v) n R)) := by
  refine qc_of (by decide) rfl [(0, .int (nI v)), (1, .int (nI p)), (2, .ref b)] rfl (fun K hG hl hK => ?_)
  subst hG; subst hl
  obtain ⟨hb, ho, hnl, hR, hE⟩ := hK
  have hl := dgt_len v
  have hp1 : 1 ≤ p := by
    rw [hl] at hp
    split at hp <;> omega
  refine qq_iload_n hb (z_dec dJ6_getChars_ba4f3 0 rfl) rfl 1 rfl ?_
  refine qq_istore hb (z_dec dJ6_getChars_ba4f3 1 rfl) hnl rfl rfl ?_
  refine qq_iload_n hb (z_dec dJ6_getChars_ba4f3 2 rfl) rfl 1 rfl ?_
  refine qq_if_ge (tgt := 11) hb (z_dec dJ6_getChars_ba4f3 3 rfl) (by decide) (fun _ => ?_) (fun c => absurd (nI_pos' (by omega)) c)
  refine qq_iconst (v := 0) hb (z_dec dJ6_getChars_ba4f3 6 rfl) (by decide) ?_
  refine qq_istore hb (z_dec dJ6_getChars_ba4f3 7 rfl) hnl rfl rfl ?_
  refine qq_iload hb (z_dec dJ6_getChars_ba4f3 8 rfl) 0 rfl ?_
  refine qq_if_ne (tgt := 22) hb (z_dec dJ6_getChars_ba4f3 9 rfl) (by decide) (fun c => absurd rfl c) (fun _ => ?_)
  refine qq_iload_n hb (z_dec dJ6_getChars_ba4f3 10 rfl) rfl 2 rfl ?_
  refine qq_ineg hb (z_dec dJ6_getChars_ba4f3 11 rfl) ?_
  refine qq_istore_n hb (z_dec dJ6_getChars_ba4f3 12 rfl) rfl hnl rfl rfl ?_
  refine qq_iload_n hb (z_dec dJ6_getChars_ba4f3 13 rfl) rfl 0 rfl ?_
  refine qq_bipush (v := -100) hb (z_dec dJ6_getChars_ba4f3 14 rfl) (by decide) ?_
  refine qq_icmp_gt (tgt := 72) hb (z_dec dJ6_getChars_ba4f3 15 rfl) (by decide) (fun _ => ?_) (fun c => absurd (show -nI 100 < -nI v from (sb_nlt (by decide) (by omega)).mpr hv) c)
  refine qq_aload_n hb (z_dec dJ6_getChars_ba4f3 43 rfl) rfl 4 rfl ?_
  refine qq_iinc hb (z_dec dJ6_getChars_ba4f3 44 rfl) 2 rfl (show nI p + Int32.ofInt (-1) = nI (p - 1) from sb_m1 (by omega)) hnl rfl rfl ?_
  refine qq_iload hb (z_dec dJ6_getChars_ba4f3 45 rfl) 0 rfl ?_
  refine qq_gets hb ho zd_1 (rJ6_getChars_ba4f3 0 rfl) (z_dec dJ6_getChars_ba4f3 46 rfl) ?_
  refine qq_iload_n hb (z_dec dJ6_getChars_ba4f3 47 rfl) rfl 1 rfl ?_
  refine qq_ineg hb (z_dec dJ6_getChars_ba4f3 48 rfl) ?_
  rw [Int32.neg_neg]
  refine qq_baldT hb zd_2 (vp_in_nI (by omega) (by omega)) (z_dec dJ6_getChars_ba4f3 49 rfl) ?_
  rw [nI_clamp (by omega)]
  refine qq_bast hb 1 rfl (vp_in_nI (by omega) (by omega)) (z_dec dJ6_getChars_ba4f3 50 rfl) rfl ?_
  rw [nI_clamp (by omega), show zD1 v = nI (48 + v % 10) from rfl, i8s (show 48 + v % 10 < 128 by omega)]
  refine qq_iload_n hb (z_dec dJ6_getChars_ba4f3 51 rfl) rfl 1 rfl ?_
  refine qq_bipush (v := -9) hb (z_dec dJ6_getChars_ba4f3 52 rfl) (by decide) ?_
  by_cases h : v < 10
  · refine qq_icmp_ge (tgt := 104) hb (z_dec dJ6_getChars_ba4f3 53 rfl) (by decide) (fun _ => ?_) (fun c => absurd (show -nI 9 ≤ -nI v from (sb_nle (by decide) (by omega)).mpr (by omega)) c)
    refine qq_iload hb (z_dec dJ6_getChars_ba4f3 62 rfl) 2 rfl ?_
    refine qq_if_eq (tgt := 118) hb (z_dec dJ6_getChars_ba4f3 63 rfl) (by decide) (fun _ => ?_) (fun c => absurd rfl c)
    refine qq_iload hb (z_dec dJ6_getChars_ba4f3 69 rfl) 0 rfl ?_
    exact qq_iret hb hE u00 (z_dec dJ6_getChars_ba4f3 70 rfl) ⟨by rw [dgt_len, if_pos h], by unfold gcF; rw [if_pos h]; rfl⟩
  · have hp2 : 2 ≤ p := by
      rw [hl, if_neg h] at hp
      omega
    refine qq_icmp_ge (tgt := 104) hb (z_dec dJ6_getChars_ba4f3 53 rfl) (by decide) (fun c => absurd ((sb_nle (a := 9) (b := v) (by decide) (by omega)).mp c) (by omega)) (fun _ => ?_)
    refine qq_aload_n hb (z_dec dJ6_getChars_ba4f3 54 rfl) rfl 4 rfl ?_
    refine qq_iinc hb (z_dec dJ6_getChars_ba4f3 55 rfl) 0 rfl (show nI (p - 1) + Int32.ofInt (-1) = nI (p - 2) from sb_m1 (by omega)) hnl rfl rfl ?_
    refine qq_iload hb (z_dec dJ6_getChars_ba4f3 56 rfl) 0 rfl ?_
    refine qq_gets hb ho zd_3 (rJ6_getChars_ba4f3 1 rfl) (z_dec dJ6_getChars_ba4f3 57 rfl) ?_
    refine qq_iload_n hb (z_dec dJ6_getChars_ba4f3 58 rfl) rfl 1 rfl ?_
    refine qq_ineg hb (z_dec dJ6_getChars_ba4f3 59 rfl) ?_
    rw [Int32.neg_neg]
    refine qq_baldT hb zd_4 (vp_in_nI (by omega) (by omega)) (z_dec dJ6_getChars_ba4f3 60 rfl) ?_
    rw [nI_clamp (by omega)]
    refine qq_bast hb 1 rfl (vp_in_nI (by omega) (by omega)) (z_dec dJ6_getChars_ba4f3 61 rfl) rfl ?_
    rw [nI_clamp (by omega), show zD2 v = nI (48 + v / 10) from rfl, i8s (show 48 + v / 10 < 128 by omega)]
    refine qq_iload hb (z_dec dJ6_getChars_ba4f3 62 rfl) 2 rfl ?_
    refine qq_if_eq (tgt := 118) hb (z_dec dJ6_getChars_ba4f3 63 rfl) (by decide) (fun _ => ?_) (fun c => absurd rfl c)
    refine qq_iload hb (z_dec dJ6_getChars_ba4f3 69 rfl) 0 rfl ?_
    exact qq_iret hb hE u00 (z_dec dJ6_getChars_ba4f3 70 rfl) ⟨by rw [dgt_len, if_neg h], by unfold gcF; rw [if_neg h]; rfl⟩
theorem j_appendI {v : Nat} (hfr : qFr G) (hI : sbI T m f) (hv : v < 100) (hlen : T.length + (dgt v).length ≤ 260) : QC G l (yJ5_append_c97b9, cJ5_append_c97b9, 4, some (.object "java/lang/AbstractStringBuilder")) 4 (1, 600) [.ref a, .int (nI v)] (sbW G a b m f (nI T.length) R) (sbP G a (T ++ dgt v) R) := by
  refine qc_of (by decide) rfl [(0, .ref a), (1, .int (nI v))] rfl (fun K hG hl hK => ?_)
  subst hG; subst hl
  obtain ⟨hb, ho, hnl, hR, hE⟩ := hK
  refine qq_aload_n hb (z_dec dJ5_append_c97b9 0 rfl) rfl 0 rfl ?_
  refine qq_get (ty := tyJ4) hb ho cJ4 0 rfl 3 rfl (rJ5_append_c97b9 0 rfl) rfl rfl (z_dec dJ5_append_c97b9 1 rfl) ?_
  refine qq_istore_n hb (z_dec dJ5_append_c97b9 2 rfl) rfl hnl rfl rfl ?_
  refine qq_iload_n hb (z_dec dJ5_append_c97b9 3 rfl) rfl 0 rfl ?_
  refine qq_iload_n hb (z_dec dJ5_append_c97b9 4 rfl) rfl 2 rfl ?_
  refine qq_invS (d := 0) (mc' := (0, 0)) (as := [.int (nI v)]) hb ho hR hE mkJ6_stringSize_0f7a4 rfl rfl ⟨by simp, by simp⟩ rfl (rJ5_append_c97b9 1 rfl) (rJ5_append_c97b9 2 rfl) rfl (z_dec dJ5_append_c97b9 5 rfl) (j_stringSize hv) (fun v8 w hp9 => ?_)
  obtain ⟨rfl, rfl⟩ := hp9
  refine qq_iadd hb (z_dec dJ5_append_c97b9 6 rfl) ?_
  rw [show nI T.length + nI (dgt v).length = nI (T.length + (dgt v).length) from nI_add _ _]
  refine qq_istore_n hb (z_dec dJ5_append_c97b9 7 rfl) rfl hnl rfl rfl ?_
  refine qq_aload_n hb (z_dec dJ5_append_c97b9 8 rfl) rfl 2 rfl ?_
  refine qq_iload_n hb (z_dec dJ5_append_c97b9 9 rfl) rfl 0 rfl ?_
  refine qq_invU (d := 3) (mc' := (1, 600)) (as := [.int (nI (T.length + (dgt v).length))]) (x := yJ5_ensureCapacityInternal_d00df) (owner := RJ5) hb ho hR hE mkJ5_ensureCapacityInternal_d00df rfl cJ4 0 rfl rfl ⟨by simp, by simp⟩ rfl rfl mkJ5_ensureCapacityInternal_d00df (rJ5_append_c97b9 4 rfl) (rJ5_append_c97b9 3 rfl) (rJ5_append_c97b9 5 rfl) (rJ5_append_c97b9 6 rfl) (rJ5_append_c97b9 4 rfl) rfl (z_dec dJ5_append_c97b9 10 rfl) (j_ensure hfr hI.2.1 (by omega) hI.2.2.2) (fun v w hp9 => ?_)
  obtain ⟨rfl, b9, m9, f9, rfl, e1, e2, e3, e4, e5⟩ := hp9
  refine qq_aload_n hb (z_dec dJ5_append_c97b9 11 rfl) rfl 2 rfl ?_
  refine qq_invU (d := 0) (mc' := (0, 0)) (as := []) (x := yJ5_isLatin1_aae02) (owner := RJ5) hb ho hR hE mkJ5_isLatin1_aae02 rfl cJ4 0 rfl rfl ⟨by simp, by simp⟩ rfl rfl mkJ5_isLatin1_aae02 (rJ5_append_c97b9 8 rfl) (rJ5_append_c97b9 7 rfl) (rJ5_append_c97b9 9 rfl) (rJ5_append_c97b9 10 rfl) (rJ5_append_c97b9 8 rfl) rfl (z_dec dJ5_append_c97b9 12 rfl) j_isLatin1 (fun v w hp9 => ?_)
  obtain ⟨rfl, rfl⟩ := hp9
  refine qq_if_eq (tgt := 37) hb (z_dec dJ5_append_c97b9 13 rfl) (by decide) (fun c => absurd c (by decide)) (fun _ => ?_)
  refine qq_iload_n hb (z_dec dJ5_append_c97b9 14 rfl) rfl 3 rfl ?_
  refine qq_iload_n hb (z_dec dJ5_append_c97b9 15 rfl) rfl 0 rfl ?_
  refine qq_aload_n hb (z_dec dJ5_append_c97b9 16 rfl) rfl 2 rfl ?_
  refine qq_get (ty := tyJ4) hb ho cJ4 0 rfl 0 rfl (rJ5_append_c97b9 11 rfl) rfl rfl (z_dec dJ5_append_c97b9 17 rfl) ?_
  refine qq_invS (d := 0) (mc' := (0, 0)) (as := [.int (nI v), .int (nI (T.length + (dgt v).length)), .ref b9]) hb ho hR hE mkJ6_getChars_ba4f3 rfl rfl ⟨by simp, by simp⟩ rfl (rJ5_append_c97b9 12 rfl) (rJ5_append_c97b9 13 rfl) rfl (z_dec dJ5_append_c97b9 18 rfl) (j_getChars hv (by omega) e1 e2) (fun v8 w hp9 => ?_)
  obtain ⟨rfl, rfl⟩ := hp9
  refine qq_pop hb (z_dec dJ5_append_c97b9 19 rfl) rfl ?_
  refine qq_goto (tgt := 48) hb (z_dec dJ5_append_c97b9 20 rfl) (by decide) ?_
  refine qq_aload_n hb (z_dec dJ5_append_c97b9 28 rfl) rfl 2 rfl ?_
  refine qq_iload_n hb (z_dec dJ5_append_c97b9 29 rfl) rfl 0 rfl ?_
  refine qq_put (ty := tyJ4) (fs := sbO b9 (nI T.length)) hb ho cJ4 0 rfl 3 rfl (rJ5_append_c97b9 0 rfl) rfl rfl rfl rfl (show 3 < 4 by decide) (z_dec dJ5_append_c97b9 30 rfl) rfl ?_
  refine qq_aload_n hb (z_dec dJ5_append_c97b9 31 rfl) rfl 2 rfl ?_
  exact qq_aret hb hE (Or.inl ⟨_, rfl⟩) ⟨by simp, by simp⟩ (z_dec dJ5_append_c97b9 32 rfl) ⟨rfl, b9, m9, _, by rw [List.length_append]; rfl, sbI_dg hI hv e1 e2 e3 e4 e5⟩
theorem j4_appendC {c : Nat} (hfr : qFr G) (hI : sbI T m f) (hc : c < 128) (hlen : T.length + 1 ≤ 260) : QC G l (yJ4_append_cf468, cJ4_append_cf468, 2, some (.object "java/lang/StringBuilder")) 5 (1, 600) [.ref a, .int (nI c)] (sbW G a b m f (nI T.length) R) (sbP G a (T ++ [c]) R) := by
  refine qc_of (by decide) rfl [(0, .ref a), (1, .int (nI c))] rfl (fun K hG hl hK => ?_)
  subst hG; subst hl
  obtain ⟨hb, ho, hnl, hR, hE⟩ := hK
  refine qq_aload_n hb (z_dec dJ4_append_cf468 0 rfl) rfl 0 rfl ?_
  refine qq_iload_n hb (z_dec dJ4_append_cf468 1 rfl) rfl 1 rfl ?_
  refine qq_invSU (d := 4) (mc' := (1, 600)) (as := [.int (nI c)]) hb ho hR hE mkJ5_append_3fe6f rfl cJ4 0 rfl rfl ⟨by simp, by simp⟩ rfl (by decide) (rJ4_append_cf468 0 rfl) (rJ4_append_cf468 2 rfl) sbSup (rJ4_append_cf468 1 rfl) rfl (z_dec dJ4_append_cf468 2 rfl) (j_appendC hfr hI hc hlen) (fun v8 w hp9 => ?_)
  obtain ⟨rfl, b9, m9, f9, rfl, e1⟩ := hp9
  refine qq_pop hb (z_dec dJ4_append_cf468 3 rfl) rfl ?_
  refine qq_aload_n hb (z_dec dJ4_append_cf468 4 rfl) rfl 0 rfl ?_
  exact qq_aret hb hE (Or.inl ⟨_, rfl⟩) ⟨by simp, by simp⟩ (z_dec dJ4_append_cf468 5 rfl) ⟨rfl, b9, m9, f9, rfl, e1⟩
theorem j4_appendI {v : Nat} (hfr : qFr G) (hI : sbI T m f) (hv : v < 100) (hlen : T.length + (dgt v).length ≤ 260) : QC G l (yJ4_append_bf812, cJ4_append_bf812, 2, some (.object "java/lang/StringBuilder")) 5 (1, 600) [.ref a, .int (nI v)] (sbW G a b m f (nI T.length) R) (sbP G a (T ++ dgt v) R) := by
  refine qc_of (by decide) rfl [(0, .ref a), (1, .int (nI v))] rfl (fun K hG hl hK => ?_)
  subst hG; subst hl
  obtain ⟨hb, ho, hnl, hR, hE⟩ := hK
  refine qq_aload_n hb (z_dec dJ4_append_bf812 0 rfl) rfl 0 rfl ?_
  refine qq_iload_n hb (z_dec dJ4_append_bf812 1 rfl) rfl 1 rfl ?_
  refine qq_invSU (d := 4) (mc' := (1, 600)) (as := [.int (nI v)]) hb ho hR hE mkJ5_append_c97b9 rfl cJ4 0 rfl rfl ⟨by simp, by simp⟩ rfl (by decide) (rJ4_append_bf812 0 rfl) (rJ4_append_bf812 2 rfl) sbSup (rJ4_append_bf812 1 rfl) rfl (z_dec dJ4_append_bf812 2 rfl) (j_appendI hfr hI hv hlen) (fun v8 w hp9 => ?_)
  obtain ⟨rfl, b9, m9, f9, rfl, e1⟩ := hp9
  refine qq_pop hb (z_dec dJ4_append_bf812 3 rfl) rfl ?_
  refine qq_aload_n hb (z_dec dJ4_append_bf812 4 rfl) rfl 0 rfl ?_
  exact qq_aret hb hE (Or.inl ⟨_, rfl⟩) ⟨by simp, by simp⟩ (z_dec dJ4_append_bf812 5 rfl) ⟨rfl, b9, m9, f9, rfl, e1⟩
end J80
