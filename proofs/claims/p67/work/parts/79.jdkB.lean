/-! JDK's METHODS: ensureCapacityInternal, a text put at a place, append of a text -/
/-- the builder holds the text T -/
def sbI (T : List Nat) (m : Nat) (f : Nat → Int32) : Prop := T.length ≤ m ∧ m ≤ 600 ∧ (∀ j, j < T.length → f j = nI (T.getD j 0)) ∧ ∀ j, fits .byte (.int (f j)) = true
def sbP (G : zG) (a : Nat) (T : List Nat) (R : va_W) : Option Value → va_W → Prop := fun v w => v = some (.ref a) ∧ ∃ (b m : Nat) (f : Nat → Int32), w = sbW G a b m f (nI T.length) R ∧ sbI T m f
theorem fit_i8 (x : Int32) : fits .byte (.int x.toInt8.toInt32) = true := bt_fits (x := x.toInt8.toInt32) (by unfold bt; rw [Int8.toInt8_toInt32])
theorem fit_nI {c : Nat} (h : c < 128) : fits .byte (.int (nI c)) = true := by
  have d : ∀ c, c < 128 → fits .byte (.int (nI c)) = true := by decide +kernel
  exact d c h
theorem i8s {c : Nat} (h : c < 128) : (nI c).toInt8.toInt32 = nI c := by
  have d : ∀ c, c < 128 → (nI c).toInt8.toInt32 = nI c := by decide +kernel
  exact d c h
section J79
variable {G : zG} {l : Launch} {ws R : va_W} {k v9 N a b m : Nat} {bs : List Int32} {f : Nat → Int32} {n : Int32} {T : List Nat}
theorem j_ensure {q : Nat} (hfr : qFr G) (hm : m ≤ 600) (hq : q ≤ 260) (hf : ∀ j, fits .byte (.int (f j)) = true) : QC G l (yJ5_ensureCapacityInternal_d00df, cJ5_ensureCapacityInternal_d00df, 3, none) 3 (1, 600) [.ref a, .int (nI q)] (sbW G a b m f n R) (fun v w => v = none ∧ ∃ (b9 m9 : Nat) (f9 : Nat → Int32), w = sbW G a b9 m9 f9 n R ∧ q ≤ m9 ∧ m9 ≤ 600 ∧ m ≤ m9 ∧ (∀ j, j < m → f9 j = f j) ∧ ∀ j, fits .byte (.int (f9 j)) = true) := by
  refine qc_of (by decide) rfl [(0, .ref a), (1, .int (nI q))] rfl (fun K hG hl hK => ?_)
  subst hG; subst hl
  obtain ⟨hb, ho, hnl, hR, hE⟩ := hK
  refine qq_aload_n hb (z_dec dJ5_ensureCapacityInternal_d00df 0 rfl) rfl 0 rfl ?_
  refine qq_get (ty := tyJ4) hb ho cJ4 0 rfl 0 rfl (rJ5_ensureCapacityInternal_d00df 0 rfl) rfl rfl (z_dec dJ5_ensureCapacityInternal_d00df 1 rfl) ?_
  refine qq_alen hb 1 rfl (z_dec dJ5_ensureCapacityInternal_d00df 2 rfl) ?_
  refine qq_aload_n hb (z_dec dJ5_ensureCapacityInternal_d00df 3 rfl) rfl 0 rfl ?_
  refine qq_get (ty := tyJ4) hb ho cJ4 0 rfl 1 rfl (rJ5_ensureCapacityInternal_d00df 1 rfl) rfl rfl (z_dec dJ5_ensureCapacityInternal_d00df 4 rfl) ?_
  refine qq_ishr hb (z_dec dJ5_ensureCapacityInternal_d00df 5 rfl) ?_
  rw [sb_shr0]
  refine qq_istore_n hb (z_dec dJ5_ensureCapacityInternal_d00df 6 rfl) rfl hnl rfl rfl ?_
  refine qq_iload_n hb (z_dec dJ5_ensureCapacityInternal_d00df 7 rfl) rfl 2 rfl ?_
  refine qq_iload_n hb (z_dec dJ5_ensureCapacityInternal_d00df 8 rfl) rfl 0 rfl ?_
  refine qq_isub hb (z_dec dJ5_ensureCapacityInternal_d00df 9 rfl) ?_
  have e1 : (nI q - Int32.ofNat m).toInt = (q : Int) - m := pk_sub_toInt (by omega) (by omega)
  by_cases h : q ≤ m
  · refine qq_if_le (tgt := 38) hb (z_dec dJ5_ensureCapacityInternal_d00df 10 rfl) (by decide) (fun _ => ?_) (fun c => absurd (by rw [Int32.le_iff_toInt_le, e1, Int32.toInt_zero]; omega) c)
    exact qq_vret hb hE ⟨by simp, by simp⟩ (z_dec dJ5_ensureCapacityInternal_d00df 22 rfl) ⟨rfl, b, m, f, rfl, h, hm, Nat.le_refl m, fun _ _ => rfl, hf⟩
  · have hg := sb_cap_ge q m
    have hcap := sb_capD (q := q) (m := m) (by omega)
    have hc6 : sb_cap q m ≤ 600 := by
      rw [hcap]
      split <;> omega
    have hcm : m ≤ sb_cap q m := by omega
    refine qq_if_le (tgt := 38) hb (z_dec dJ5_ensureCapacityInternal_d00df 10 rfl) (by decide) (fun c => absurd c (fun hc => h (by rw [Int32.le_iff_toInt_le, e1, Int32.toInt_zero] at hc; omega))) (fun _ => ?_)
    refine qq_aload_n hb (z_dec dJ5_ensureCapacityInternal_d00df 11 rfl) rfl 1 rfl ?_
    refine qq_aload_n hb (z_dec dJ5_ensureCapacityInternal_d00df 12 rfl) rfl 1 rfl ?_
    refine qq_get (ty := tyJ4) hb ho cJ4 0 rfl 0 rfl (rJ5_ensureCapacityInternal_d00df 0 rfl) rfl rfl (z_dec dJ5_ensureCapacityInternal_d00df 13 rfl) ?_
    refine qq_aload_n hb (z_dec dJ5_ensureCapacityInternal_d00df 14 rfl) rfl 1 rfl ?_
    refine qq_iload_n hb (z_dec dJ5_ensureCapacityInternal_d00df 15 rfl) rfl 2 rfl ?_
    refine qq_invU (d := 2) (mc' := (0, 0)) (as := [.int (nI q)]) (x := yJ5_newCapacity_0f7a4) (owner := RJ5) hb ho hR hE mkJ5_newCapacity_0f7a4 rfl cJ4 0 rfl rfl ⟨by simp, by simp⟩ rfl rfl mkJ5_newCapacity_0f7a4 (rJ5_ensureCapacityInternal_d00df 3 rfl) (rJ5_ensureCapacityInternal_d00df 2 rfl) (rJ5_ensureCapacityInternal_d00df 4 rfl) (rJ5_ensureCapacityInternal_d00df 5 rfl) (rJ5_ensureCapacityInternal_d00df 3 rfl) rfl (z_dec dJ5_ensureCapacityInternal_d00df 16 rfl) (j_newCapacity (by omega) (by omega)) (fun v w hp => ?_)
    obtain ⟨rfl, rfl⟩ := hp
    refine qq_aload_n hb (z_dec dJ5_ensureCapacityInternal_d00df 17 rfl) rfl 1 rfl ?_
    refine qq_get (ty := tyJ4) hb ho cJ4 0 rfl 1 rfl (rJ5_ensureCapacityInternal_d00df 1 rfl) rfl rfl (z_dec dJ5_ensureCapacityInternal_d00df 18 rfl) ?_
    refine qq_ishl hb (z_dec dJ5_ensureCapacityInternal_d00df 19 rfl) ?_
    rw [sb_shl0]
    refine qq_invS (d := 1) (mc' := (1, sb_cap q m)) (as := [.ref b, .int (nI (sb_cap q m))]) hb ho hR hE mkJ7_copyOf_9075b rfl rfl ⟨by simp, by simp; omega⟩ rfl (rJ5_ensureCapacityInternal_d00df 6 rfl) (rJ5_ensureCapacityInternal_d00df 7 rfl) rfl (z_dec dJ5_ensureCapacityInternal_d00df 20 rfl) (j_copyOf hfr (by omega) (by omega) hf) (fun v w hp => ?_)
    obtain ⟨h, rfl, rfl⟩ := hp
    refine qq_put (ty := tyJ4) (fs := sbO b n) hb ho cJ4 1 rfl 0 rfl (rJ5_ensureCapacityInternal_d00df 0 rfl) rfl rfl rfl rfl (show 0 < 4 by decide) (z_dec dJ5_ensureCapacityInternal_d00df 21 rfl) rfl ?_
    refine qq_swap (x := (h, .inl (gA (kG K) 21, sb_cap q m, .inl (va_cpy f (fun _ => 0) 0 0 m)))) (y := (a, .inr (11, sbO h n))) (z := (b, .inl (gA (kG K) 21, m, .inl f))) ?_
    exact qq_vret hb hE ⟨by simp, by simp; omega⟩ (z_dec dJ5_ensureCapacityInternal_d00df 22 rfl) ⟨rfl, h, sb_cap q m, _, rfl, by omega, by omega, by omega, fun j hj => sb_cpy0 hj, sb_fitC hf sb_fit0⟩
theorem j_inflate (hs : zStr G k v9 N bs) : QC G l (yJ5_inflateIfNeededFor_a7421, cJ5_inflateIfNeededFor_a7421, 2, none) 1 (0, 0) [.ref a, .ref (gad G k)] (sbW G a b m f n R) (qK none (sbW G a b m f n R)) := by
  refine qc_of (by decide) rfl [(0, .ref a), (1, .ref (gad G k))] rfl (fun K hG hl hK => ?_)
  subst hG; subst hl
  obtain ⟨hb, ho, hnl, hR, hE⟩ := hK
  refine qq_compact hb ho (rJ5_inflateIfNeededFor_a7421 0 rfl) (z_dec dJ5_inflateIfNeededFor_a7421 0 rfl) ?_
  refine qq_if_eq (tgt := 21) hb (z_dec dJ5_inflateIfNeededFor_a7421 1 rfl) (by decide) (fun c => absurd c (by decide)) (fun _ => ?_)
  refine qq_aload_n hb (z_dec dJ5_inflateIfNeededFor_a7421 2 rfl) rfl 0 rfl ?_
  refine qq_get (ty := tyJ4) hb ho cJ4 0 rfl 1 rfl (rJ5_inflateIfNeededFor_a7421 1 rfl) rfl rfl (z_dec dJ5_inflateIfNeededFor_a7421 3 rfl) ?_
  refine qq_aload_n hb (z_dec dJ5_inflateIfNeededFor_a7421 4 rfl) rfl 1 rfl ?_
  refine qq_invStr (d := 0) (mc' := (0, 0)) (as := []) hb ho hR hE mkJ0_coder_7d493 rfl hs rfl rfl u00 rfl (rJ5_inflateIfNeededFor_a7421 2 rfl) (rJ5_inflateIfNeededFor_a7421 3 rfl) (rJ5_inflateIfNeededFor_a7421 4 rfl) rfl (z_dec dJ5_inflateIfNeededFor_a7421 5 rfl) (jS_coder hs) (fun v w hp => ?_)
  obtain ⟨rfl, rfl⟩ := hp
  refine qq_icmp_eq (tgt := 21) hb (z_dec dJ5_inflateIfNeededFor_a7421 6 rfl) (by decide) (fun _ => ?_) (fun c => absurd rfl c)
  exact qq_vret hb hE u00 (z_dec dJ5_inflateIfNeededFor_a7421 9 rfl) ⟨rfl, rfl⟩
theorem jS_getBytes {p : Nat} (hs : zStr G k v9 N bs) (hp : p + N ≤ m) (hm : m ≤ 600) (hf : ∀ j, j < N → fits .byte (.int (bs.getD j 0)) = true) : QC G l (yJ0_getBytes_840e7, cJ0_getBytes_840e7, 4, none) 1 (0, 0) [.ref (gad G k), .ref b, .int (nI p), .int 0] (sbW G a b m f n R) (qK none (sbW G a b m (va_cpy (fun j => bs.getD j 0) f 0 p N) n R)) := by
  refine qc_of (by decide) rfl [(0, .ref (gad G k)), (1, .ref b), (2, .int (nI p)), (3, .int 0)] rfl (fun K hG hl hK => ?_)
  subst hG; subst hl
  obtain ⟨hb, ho, hnl, hR, hE⟩ := hK
  refine qq_aload_n hb (z_dec dJ0_getBytes_840e7 0 rfl) rfl 0 rfl ?_
  refine qq_invStr (d := 0) (mc' := (0, 0)) (as := []) hb ho hR hE mkJ0_coder_7d493 rfl hs rfl rfl u00 rfl (rJ0_getBytes_840e7 0 rfl) (rJ0_getBytes_840e7 1 rfl) (rJ0_getBytes_840e7 2 rfl) rfl (z_dec dJ0_getBytes_840e7 1 rfl) (jS_coder hs) (fun v w hp9 => ?_)
  obtain ⟨rfl, rfl⟩ := hp9
  refine qq_iload_n hb (z_dec dJ0_getBytes_840e7 2 rfl) rfl 3 rfl ?_
  refine qq_icmp_ne (tgt := 28) hb (z_dec dJ0_getBytes_840e7 3 rfl) (by decide) (fun c => absurd rfl c) (fun _ => ?_)
  refine qq_aload_n hb (z_dec dJ0_getBytes_840e7 4 rfl) rfl 0 rfl ?_
  refine qq_strVal hb ho hs (rJ0_getBytes_840e7 3 rfl) (z_dec dJ0_getBytes_840e7 5 rfl) ?_
  refine qq_iconst (v := 0) hb (z_dec dJ0_getBytes_840e7 6 rfl) (by decide) ?_
  refine qq_aload_n hb (z_dec dJ0_getBytes_840e7 7 rfl) rfl 1 rfl ?_
  refine qq_iload_n hb (z_dec dJ0_getBytes_840e7 8 rfl) rfl 2 rfl ?_
  refine qq_iload_n hb (z_dec dJ0_getBytes_840e7 9 rfl) rfl 3 rfl ?_
  refine qq_ishl hb (z_dec dJ0_getBytes_840e7 10 rfl) ?_
  rw [sb_shl0]
  refine qq_aload_n hb (z_dec dJ0_getBytes_840e7 11 rfl) rfl 0 rfl ?_
  refine qq_strVal hb ho hs (rJ0_getBytes_840e7 3 rfl) (z_dec dJ0_getBytes_840e7 12 rfl) ?_
  refine qq_strLen hb hs (z_dec dJ0_getBytes_840e7 13 rfl) ?_
  refine qq_copyT (sp := 0) (dp := p) (n := N) (f := fun j => bs.getD j 0) (n0 := N) hb ho hR rfl rfl (rJ0_getBytes_840e7 4 rfl) (fun s h => ((hs s h).1 0 (by decide)).2.2.2) 1 rfl (by omega) (by omega) (by omega) (by omega) (by omega) (fun i hi => by rw [Nat.zero_add]; exact hf i hi) (z_dec dJ0_getBytes_840e7 14 rfl) rfl ?_
  refine qq_goto (tgt := 43) hb (z_dec dJ0_getBytes_840e7 15 rfl) (by decide) ?_
  exact qq_vret hb hE u00 (z_dec dJ0_getBytes_840e7 25 rfl) ⟨rfl, rfl⟩
theorem j_putStringAt {p : Nat} (hs : zStr G k v9 N bs) (hp : p + N ≤ m) (hm : m ≤ 600) (hf : ∀ j, j < N → fits .byte (.int (bs.getD j 0)) = true) : QC G l (yJ5_putStringAt_47b60, cJ5_putStringAt_47b60, 3, none) 2 (0, 0) [.ref a, .int (nI p), .ref (gad G k)] (sbW G a b m f n R) (qK none (sbW G a b m (va_cpy (fun j => bs.getD j 0) f 0 p N) n R)) := by
  refine qc_of (by decide) rfl [(0, .ref a), (1, .int (nI p)), (2, .ref (gad G k))] rfl (fun K hG hl hK => ?_)
  subst hG; subst hl
  obtain ⟨hb, ho, hnl, hR, hE⟩ := hK
  refine qq_aload_n hb (z_dec dJ5_putStringAt_47b60 0 rfl) rfl 0 rfl ?_
  refine qq_aload_n hb (z_dec dJ5_putStringAt_47b60 1 rfl) rfl 2 rfl ?_
  refine qq_invU (d := 1) (mc' := (0, 0)) (as := [.ref (gad (kG K) k)]) (x := yJ5_inflateIfNeededFor_a7421) (owner := RJ5) hb ho hR hE mkJ5_inflateIfNeededFor_a7421 rfl cJ4 0 rfl rfl u00 rfl rfl mkJ5_inflateIfNeededFor_a7421 (rJ5_putStringAt_47b60 1 rfl) (rJ5_putStringAt_47b60 0 rfl) (rJ5_putStringAt_47b60 2 rfl) (rJ5_putStringAt_47b60 3 rfl) (rJ5_putStringAt_47b60 1 rfl) rfl (z_dec dJ5_putStringAt_47b60 2 rfl) (j_inflate hs) (fun v w hp9 => ?_)
  obtain ⟨rfl, rfl⟩ := hp9
  refine qq_aload_n hb (z_dec dJ5_putStringAt_47b60 3 rfl) rfl 2 rfl ?_
  refine qq_aload_n hb (z_dec dJ5_putStringAt_47b60 4 rfl) rfl 0 rfl ?_
  refine qq_get (ty := tyJ4) hb ho cJ4 0 rfl 0 rfl (rJ5_putStringAt_47b60 4 rfl) rfl rfl (z_dec dJ5_putStringAt_47b60 5 rfl) ?_
  refine qq_iload_n hb (z_dec dJ5_putStringAt_47b60 6 rfl) rfl 1 rfl ?_
  refine qq_aload_n hb (z_dec dJ5_putStringAt_47b60 7 rfl) rfl 0 rfl ?_
  refine qq_get (ty := tyJ4) hb ho cJ4 0 rfl 1 rfl (rJ5_putStringAt_47b60 5 rfl) rfl rfl (z_dec dJ5_putStringAt_47b60 8 rfl) ?_
  refine qq_invStr (d := 1) (mc' := (0, 0)) (as := [.ref b, .int (nI p), .int 0]) hb ho hR hE mkJ0_getBytes_840e7 rfl hs rfl rfl u00 rfl (rJ5_putStringAt_47b60 6 rfl) (rJ5_putStringAt_47b60 7 rfl) (rJ5_putStringAt_47b60 8 rfl) rfl (z_dec dJ5_putStringAt_47b60 9 rfl) (jS_getBytes hs hp hm hf) (fun v w hp9 => ?_)
  obtain ⟨rfl, rfl⟩ := hp9
  exact qq_vret hb hE u00 (z_dec dJ5_putStringAt_47b60 10 rfl) ⟨rfl, rfl⟩
theorem mapD {X : List Nat} {j : Nat} (hj : j < X.length) : (X.map nI).getD j 0 = nI X[j] := by
  rw [List.getD_eq_getElem?_getD, List.getElem?_map, List.getElem?_eq_getElem hj]; rfl
theorem appD_lo {T X : List Nat} {j : Nat} (h : j < T.length) : (T ++ X).getD j 0 = T.getD j 0 := by
  rw [List.getD_eq_getElem?_getD, List.getD_eq_getElem?_getD, List.getElem?_append_left h]
theorem appD_hi {T X : List Nat} {j : Nat} : (T ++ X).getD (T.length + j) 0 = X.getD j 0 := by
  rw [List.getD_eq_getElem?_getD, List.getD_eq_getElem?_getD, List.getElem?_append_right (by omega), Nat.add_sub_cancel_left]
theorem sbI_app {X : List Nat} {m9 : Nat} {f9 : Nat → Int32} (hI : sbI T m f) (e1 : T.length + X.length ≤ m9) (e2 : m9 ≤ 600) (e3 : m ≤ m9) (e4 : ∀ j, j < m → f9 j = f j) (e5 : ∀ j, fits .byte (.int (f9 j)) = true) (hX : txOK X) : sbI (T ++ X) m9 (va_cpy (fun j => (X.map nI).getD j 0) f9 0 T.length X.length) := by
  refine ⟨by rw [List.length_append]; exact e1, e2, fun j hj => ?_, fun j => ?_⟩
  · rw [List.length_append] at hj
    by_cases h : j < T.length
    · rw [appD_lo h, pk_cpy_out (by omega), e4 j (Nat.lt_of_lt_of_le h hI.1)]
      exact hI.2.2.1 j h
    · obtain ⟨i, rfl⟩ : ∃ i, j = T.length + i := ⟨j - T.length, by omega⟩
      rw [appD_hi, pk_cpy_in (by omega) (by omega), show 0 + (T.length + i - T.length) = i by omega, mapD (by omega), List.getD_eq_getElem?_getD, List.getElem?_eq_getElem (by omega)]
      rfl
  · by_cases h : T.length ≤ j ∧ j < T.length + X.length
    · obtain ⟨i, rfl⟩ : ∃ i, j = T.length + i := ⟨j - T.length, by omega⟩
      rw [pk_cpy_in (by omega) (by omega), show 0 + (T.length + i - T.length) = i by omega, mapD (by omega)]
      exact fit_nI (hX _ (List.getElem_mem _))
    · rw [pk_cpy_out (by omega)]
      exact e5 j
theorem j_append {X : List Nat} (hfr : qFr G) (hs : zStr G k v9 X.length (X.map nI)) (hI : sbI T m f) (hX : txOK X) (hlen : T.length + X.length ≤ 260) : QC G l (yJ5_append_cf1ce, cJ5_append_cf1ce, 3, some (.object "java/lang/AbstractStringBuilder")) 4 (1, 600) [.ref a, .ref (gad G k)] (sbW G a b m f (nI T.length) R) (sbP G a (T ++ X) R) := by
  refine qc_of (by decide) rfl [(0, .ref a), (1, .ref (gad G k))] rfl (fun K hG hl hK => ?_)
  subst hG; subst hl
  obtain ⟨hb, ho, hnl, hR, hE⟩ := hK
  refine qq_aload_n hb (z_dec dJ5_append_cf1ce 0 rfl) rfl 1 rfl ?_
  refine qq_ifnonnull (tgt := 9) hb (z_dec dJ5_append_cf1ce 1 rfl) (by decide) ?_
  refine qq_aload_n hb (z_dec dJ5_append_cf1ce 5 rfl) rfl 1 rfl ?_
  refine qq_invStr (d := 1) (mc' := (0, 0)) (as := []) hb ho hR hE mkJ0_length_8abf5 rfl hs rfl rfl ⟨by simp, by simp⟩ rfl (rJ5_append_cf1ce 3 rfl) (rJ5_append_cf1ce 4 rfl) (rJ5_append_cf1ce 5 rfl) rfl (z_dec dJ5_append_cf1ce 6 rfl) (jS_length hs) (fun v w hp9 => ?_)
  obtain ⟨rfl, rfl⟩ := hp9
  refine qq_istore_n hb (z_dec dJ5_append_cf1ce 7 rfl) rfl hnl rfl rfl ?_
  refine qq_aload_n hb (z_dec dJ5_append_cf1ce 8 rfl) rfl 1 rfl ?_
  refine qq_aload_n hb (z_dec dJ5_append_cf1ce 9 rfl) rfl 1 rfl ?_
  refine qq_get (ty := tyJ4) hb ho cJ4 0 rfl 3 rfl (rJ5_append_cf1ce 6 rfl) rfl rfl (z_dec dJ5_append_cf1ce 10 rfl) ?_
  refine qq_iload_n hb (z_dec dJ5_append_cf1ce 11 rfl) rfl 0 rfl ?_
  refine qq_iadd hb (z_dec dJ5_append_cf1ce 12 rfl) ?_
  rw [show nI T.length + Int32.ofNat X.length = nI (T.length + X.length) from nI_add _ _]
  refine qq_invU (d := 3) (mc' := (1, 600)) (as := [.int (nI (T.length + X.length))]) (x := yJ5_ensureCapacityInternal_d00df) (owner := RJ5) hb ho hR hE mkJ5_ensureCapacityInternal_d00df rfl cJ4 0 rfl rfl ⟨by simp, by simp⟩ rfl rfl mkJ5_ensureCapacityInternal_d00df (rJ5_append_cf1ce 8 rfl) (rJ5_append_cf1ce 7 rfl) (rJ5_append_cf1ce 9 rfl) (rJ5_append_cf1ce 10 rfl) (rJ5_append_cf1ce 8 rfl) rfl (z_dec dJ5_append_cf1ce 13 rfl) (j_ensure hfr hI.2.1 (by omega) hI.2.2.2) (fun v w hp9 => ?_)
  obtain ⟨rfl, b9, m9, f9, rfl, e1, e2, e3, e4, e5⟩ := hp9
  refine qq_aload_n hb (z_dec dJ5_append_cf1ce 14 rfl) rfl 1 rfl ?_
  refine qq_aload_n hb (z_dec dJ5_append_cf1ce 15 rfl) rfl 1 rfl ?_
  refine qq_get (ty := tyJ4) hb ho cJ4 0 rfl 3 rfl (rJ5_append_cf1ce 6 rfl) rfl rfl (z_dec dJ5_append_cf1ce 16 rfl) ?_
  refine qq_aload_n hb (z_dec dJ5_append_cf1ce 17 rfl) rfl 2 rfl ?_
  refine qq_invU (d := 2) (mc' := (0, 0)) (as := [.int (nI T.length), .ref (gad (kG K) k)]) (x := yJ5_putStringAt_47b60) (owner := RJ5) hb ho hR hE mkJ5_putStringAt_47b60 rfl cJ4 0 rfl rfl ⟨by simp, by simp⟩ rfl rfl mkJ5_putStringAt_47b60 (rJ5_append_cf1ce 12 rfl) (rJ5_append_cf1ce 11 rfl) (rJ5_append_cf1ce 13 rfl) (rJ5_append_cf1ce 14 rfl) (rJ5_append_cf1ce 12 rfl) rfl (z_dec dJ5_append_cf1ce 18 rfl) (j_putStringAt hs (by omega) e2 (fun j hj => by rw [mapD hj]; exact fit_nI (hX _ (List.getElem_mem hj)))) (fun v w hp9 => ?_)
  obtain ⟨rfl, rfl⟩ := hp9
  refine qq_aload_n hb (z_dec dJ5_append_cf1ce 19 rfl) rfl 1 rfl ?_
  refine qq_dup hb (z_dec dJ5_append_cf1ce 20 rfl) rfl ?_
  refine qq_get (ty := tyJ4) hb ho cJ4 0 rfl 3 rfl (rJ5_append_cf1ce 6 rfl) rfl rfl (z_dec dJ5_append_cf1ce 21 rfl) ?_
  refine qq_iload_n hb (z_dec dJ5_append_cf1ce 22 rfl) rfl 0 rfl ?_
  refine qq_iadd hb (z_dec dJ5_append_cf1ce 23 rfl) ?_
  rw [show nI T.length + Int32.ofNat X.length = nI (T.length + X.length) from nI_add _ _]
  refine qq_put (ty := tyJ4) (fs := sbO b9 (nI T.length)) hb ho cJ4 0 rfl 3 rfl (rJ5_append_cf1ce 6 rfl) rfl rfl rfl rfl (show 3 < 4 by decide) (z_dec dJ5_append_cf1ce 24 rfl) rfl ?_
  refine qq_aload_n hb (z_dec dJ5_append_cf1ce 25 rfl) rfl 1 rfl ?_
  exact qq_aret hb hE (Or.inl ⟨_, rfl⟩) ⟨by simp, by simp⟩ (z_dec dJ5_append_cf1ce 26 rfl) ⟨rfl, b9, m9, _, by rw [List.length_append]; rfl, sbI_app hI e1 e2 e3 e4 e5 hX⟩
theorem j4_append {X : List Nat} (hfr : qFr G) (hs : zStr G k v9 X.length (X.map nI)) (hI : sbI T m f) (hX : txOK X) (hlen : T.length + X.length ≤ 260) : QC G l (yJ4_append_15ec4, cJ4_append_15ec4, 2, some (.object "java/lang/StringBuilder")) 5 (1, 600) [.ref a, .ref (gad G k)] (sbW G a b m f (nI T.length) R) (sbP G a (T ++ X) R) := by
  refine qc_of (by decide) rfl [(0, .ref a), (1, .ref (gad G k))] rfl (fun K hG hl hK => ?_)
  subst hG; subst hl
  obtain ⟨hb, ho, hnl, hR, hE⟩ := hK
  refine qq_aload_n hb (z_dec dJ4_append_15ec4 0 rfl) rfl 0 rfl ?_
  refine qq_aload_n hb (z_dec dJ4_append_15ec4 1 rfl) rfl 1 rfl ?_
  refine qq_invSU (d := 4) (mc' := (1, 600)) (as := [.ref (gad (kG K) k)]) hb ho hR hE mkJ5_append_cf1ce rfl cJ4 0 rfl rfl ⟨by simp, by simp⟩ rfl (by decide) (rJ4_append_15ec4 0 rfl) (rJ4_append_15ec4 2 rfl) sbSup (rJ4_append_15ec4 1 rfl) rfl (z_dec dJ4_append_15ec4 2 rfl) (j_append hfr hs hI hX hlen) (fun v w hp9 => ?_)
  obtain ⟨rfl, b9, m9, f9, rfl, e1⟩ := hp9
  refine qq_pop hb (z_dec dJ4_append_15ec4 3 rfl) rfl ?_
  refine qq_aload_n hb (z_dec dJ4_append_15ec4 4 rfl) rfl 0 rfl ?_
  exact qq_aret hb hE (Or.inl ⟨_, rfl⟩) ⟨by simp, by simp⟩ (z_dec dJ4_append_15ec4 5 rfl) ⟨rfl, b9, m9, f9, rfl, e1⟩
theorem j4_bridge {X : List Nat} (hfr : qFr G) (hs : zStr G k v9 X.length (X.map nI)) (hI : sbI T m f) (hX : txOK X) (hlen : T.length + X.length ≤ 260) : QC G l (yJ4_append_cf1ce, cJ4_append_cf1ce, 2, some (.object "java/lang/AbstractStringBuilder")) 6 (1, 600) [.ref a, .ref (gad G k)] (sbW G a b m f (nI T.length) R) (sbP G a (T ++ X) R) := by
  refine qc_of (by decide) rfl [(0, .ref a), (1, .ref (gad G k))] rfl (fun K hG hl hK => ?_)
  subst hG; subst hl
  obtain ⟨hb, ho, hnl, hR, hE⟩ := hK
  refine qq_aload_n hb (z_dec dJ4_append_cf1ce 0 rfl) rfl 0 rfl ?_
  refine qq_aload_n hb (z_dec dJ4_append_cf1ce 1 rfl) rfl 1 rfl ?_
  refine qq_inv (d := 5) (mc' := (1, 600)) (as := [.ref (gad (kG K) k)]) hb ho hR hE mkJ4_append_15ec4 rfl cJ4 rfl 0 rfl rfl ⟨by simp, by simp⟩ rfl (rJ4_append_cf1ce 0 rfl) (rJ4_append_cf1ce 1 rfl) (rJ4_append_cf1ce 2 rfl) rfl (z_dec dJ4_append_cf1ce 2 rfl) (j4_append hfr hs hI hX hlen) (fun v w hp9 => ?_)
  obtain ⟨rfl, b9, m9, f9, rfl, e1⟩ := hp9
  exact qq_aret hb hE (Or.inl ⟨_, rfl⟩) ⟨by simp, by simp⟩ (z_dec dJ4_append_cf1ce 3 rfl) ⟨rfl, b9, m9, f9, rfl, e1⟩
end J79
