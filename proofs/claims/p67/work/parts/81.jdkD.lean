/-! JDK's METHODS: the builder's constructor, toString -/
section QQR
variable {K : zK} {u : Nat × Nat} {pc : Nat} {L : List (Nat × Value)} {S : List Value} {ws R : va_W}
theorem qq_swap2 {x y : Nat × va_E} (k : QQ K u pc L S (y :: x :: R)) : QQ K u pc L S (x :: y :: R) := fun p e s m args below meth c Q H locs ls B hq hP hD hl hS => by
  have at' : ∀ (i : Nat) (q : Nat × va_E), (y :: x :: R)[i]? = some q → ∃ j, (x :: y :: R)[j]? = some q ∧ (i = 0 → j = 1) ∧ (i = 1 → j = 0) ∧ (1 < i → j = i) := fun i q h => by
    match i, h with
    | 0, h => exact ⟨1, h, fun _ => rfl, fun h => by omega, fun h => by omega⟩
    | 1, h => exact ⟨0, h, fun h => by omega, fun _ => rfl, fun h => by omega⟩
    | i + 2, h => exact ⟨i + 2, h, fun h => by omega, fun h => by omega, fun _ => rfl⟩
  refine k p e s m args below meth c Q H locs ls B hq (fun i q h => ?_) ⟨fun i j a b hi hj he => ?_, fun i q h => ?_⟩ hl hS
  · obtain ⟨j, hj, -⟩ := at' i q h
    exact hP j q hj
  · obtain ⟨i', h1, a1, a2, a3⟩ := at' i a hi
    obtain ⟨j', h2, b1, b2, b3⟩ := at' j b hj
    have := hD.1 i' j' a b h1 h2 he
    by_cases i0 : i = 0 <;> by_cases j0 : j = 0 <;> by_cases i1 : i = 1 <;> by_cases j1 : j = 1 <;> omega
  · obtain ⟨j, hj, -⟩ := at' i q h
    exact hD.2 j q hj
/-- the last cell first -/
theorem qq_rot {x : Nat × va_E} (k : QQ K u pc L S (x :: ws)) : QQ K u pc L S (ws ++ [x]) := fun p e s m args below meth c Q H locs ls B hq hP hD hl hS => by
  have at' : ∀ (i : Nat) (q : Nat × va_E), (x :: ws)[i]? = some q → ∃ j, (ws ++ [x])[j]? = some q ∧ (i = 0 → j = ws.length) ∧ (0 < i → j + 1 = i ∧ j < ws.length) := fun i q h => by
    cases i with
    | zero =>
      refine ⟨ws.length, ?_, fun _ => rfl, fun h => by omega⟩
      rw [List.getElem?_append_right (Nat.le_refl _), Nat.sub_self]
      exact h
    | succ i =>
      have h : ws[i]? = some q := h
      have hl : i < ws.length := (List.getElem?_eq_some_iff.mp h).1
      refine ⟨i, ?_, fun h => by omega, fun _ => ⟨rfl, hl⟩⟩
      rw [List.getElem?_append_left hl]
      exact h
  refine k p e s m args below meth c Q H locs ls B hq (fun i q h => ?_) ⟨fun i j a b hi hj he => ?_, fun i q h => ?_⟩ hl hS
  · obtain ⟨j, hj, -⟩ := at' i q h
    exact hP j q hj
  · obtain ⟨i', h1, a1, a2⟩ := at' i a hi
    obtain ⟨j', h2, b1, b2⟩ := at' j b hj
    have := hD.1 i' j' a b h1 h2 he
    by_cases i0 : i = 0 <;> by_cases j0 : j = 0 <;> omega
  · obtain ⟨j, hj, -⟩ := at' i q h
    exact hD.2 j q hj
end QQR
theorem sbNew : Cond.instantiable RJ4 4 ∈ TG ∧ Cond.initialized RJ4 ∈ TG ∧ Cond.instantiable RJ0 4 ∈ TG ∧ Cond.initialized RJ0 ∈ TG := ⟨tg_of (by decide +kernel) (by decide +kernel), tg_of (by decide +kernel) (by decide +kernel), tg_of (by decide +kernel) (by decide +kernel), tg_of (by decide +kernel) (by decide +kernel)⟩
section J81
variable {G : zG} {l : Launch} {ws R : va_W} {k v9 N a b m s : Nat} {bs : List Int32} {f : Nat → Int32} {n : Int32} {T : List Nat}
theorem g_isLatin1 (q0 : Nat) (he : ws[q0]? = some (a, .inr (11, sbO b n))) : QC G l (yJ5_isLatin1_aae02, cJ5_isLatin1_aae02, 1, some .boolean) 0 (0, 0) [.ref a] ws (qK (some (.int 1)) ws) := by
  refine qc_of (by decide) rfl [(0, .ref a)] rfl (fun K hG hl hK => ?_)
  subst hG; subst hl
  obtain ⟨hb, ho, hnl, hR, hE⟩ := hK
  refine qq_compact hb ho (rJ5_isLatin1_aae02 0 rfl) (z_dec dJ5_isLatin1_aae02 0 rfl) ?_
  refine qq_if_eq (tgt := 17) hb (z_dec dJ5_isLatin1_aae02 1 rfl) (by decide) (fun c => absurd c (by decide)) (fun _ => ?_)
  refine qq_aload_n hb (z_dec dJ5_isLatin1_aae02 2 rfl) rfl 0 rfl ?_
  refine qq_get (ty := tyJ4) hb ho cJ4 q0 he 1 rfl (rJ5_isLatin1_aae02 1 rfl) rfl rfl (z_dec dJ5_isLatin1_aae02 3 rfl) ?_
  refine qq_if_ne (tgt := 17) hb (z_dec dJ5_isLatin1_aae02 4 rfl) (by decide) (fun c => absurd rfl c) (fun _ => ?_)
  refine qq_iconst (v := 1) hb (z_dec dJ5_isLatin1_aae02 5 rfl) (by decide) ?_
  refine qq_goto (tgt := 18) hb (z_dec dJ5_isLatin1_aae02 6 rfl) (by decide) ?_
  exact qq_nret hb hE u00 rfl (z_dec dJ5_isLatin1_aae02 8 rfl) ⟨rfl, rfl⟩
theorem g_getValue (q0 : Nat) (he : ws[q0]? = some (a, .inr (11, sbO b n))) : QC G l (yJ5_getValue_6d5f1, cJ5_getValue_6d5f1, 1, some (.array .byte)) 0 (0, 0) [.ref a] ws (qK (some (.ref b)) ws) := by
  refine qc_of (by decide) rfl [(0, .ref a)] rfl (fun K hG hl hK => ?_)
  subst hG; subst hl
  obtain ⟨hb, ho, hnl, hR, hE⟩ := hK
  refine qq_aload_n hb (z_dec dJ5_getValue_6d5f1 0 rfl) rfl 0 rfl ?_
  refine qq_get (ty := tyJ4) hb ho cJ4 q0 he 0 rfl (rJ5_getValue_6d5f1 0 rfl) rfl rfl (z_dec dJ5_getValue_6d5f1 1 rfl) ?_
  exact qq_aret hb hE (Or.inr ⟨_, rfl⟩) u00 (z_dec dJ5_getValue_6d5f1 2 rfl) ⟨rfl, rfl⟩
theorem g_len5 (q0 : Nat) (he : ws[q0]? = some (a, .inr (11, sbO b n))) : QC G l (yJ5_length_8abf5, cJ5_length_8abf5, 1, some .int) 0 (0, 0) [.ref a] ws (qK (some (.int n)) ws) := by
  refine qc_of (by decide) rfl [(0, .ref a)] rfl (fun K hG hl hK => ?_)
  subst hG; subst hl
  obtain ⟨hb, ho, hnl, hR, hE⟩ := hK
  refine qq_aload_n hb (z_dec dJ5_length_8abf5 0 rfl) rfl 0 rfl ?_
  refine qq_get (ty := tyJ4) hb ho cJ4 q0 he 3 rfl (rJ5_length_8abf5 0 rfl) rfl rfl (z_dec dJ5_length_8abf5 1 rfl) ?_
  exact qq_iret hb hE u00 (z_dec dJ5_length_8abf5 2 rfl) ⟨rfl, rfl⟩
theorem g_len4 (q0 : Nat) (he : ws[q0]? = some (a, .inr (11, sbO b n))) : QC G l (yJ4_length_8abf5, cJ4_length_8abf5, 1, some .int) 1 (0, 0) [.ref a] ws (qK (some (.int n)) ws) := by
  refine qc_of (by decide) rfl [(0, .ref a)] rfl (fun K hG hl hK => ?_)
  subst hG; subst hl
  obtain ⟨hb, ho, hnl, hR, hE⟩ := hK
  refine qq_aload_n hb (z_dec dJ4_length_8abf5 0 rfl) rfl 0 rfl ?_
  refine qq_invSU (d := 0) (mc' := (0, 0)) (as := []) hb ho hR hE mkJ5_length_8abf5 rfl cJ4 q0 he rfl u00 rfl (by decide) (rJ4_length_8abf5 0 rfl) (rJ4_length_8abf5 2 rfl) sbSup (rJ4_length_8abf5 1 rfl) rfl (z_dec dJ4_length_8abf5 1 rfl) (g_len5 q0 he) (fun v w hp => ?_)
  obtain ⟨rfl, rfl⟩ := hp
  exact qq_iret hb hE u00 (z_dec dJ4_length_8abf5 2 rfl) ⟨rfl, rfl⟩
theorem j_init {X : List Nat} (hfr : qFr G) (hs : zStr G k v9 X.length (X.map nI)) (hX : txOK X) (hlen : X.length ≤ 20) : QC G l (yJ5_init_a7421, cJ5_init_a7421, 5, none) 7 (2, 700) [.ref a, .ref (gad G k)] ((a, .inr (11, [.null, .int 0, .int 0, .int 0])) :: R) (fun v w => v = none ∧ ∃ (b m : Nat) (f : Nat → Int32), w = sbW G a b m f (nI X.length) R ∧ sbI X m f) := by
  refine qc_of (by decide) rfl [(0, .ref a), (1, .ref (gad G k))] rfl (fun K hG hl hK => ?_)
  subst hG; subst hl
  obtain ⟨hb, ho, hnl, hR, hE⟩ := hK
  refine qq_aload_n hb (z_dec dJ5_init_a7421 0 rfl) rfl 0 rfl ?_
  refine qq_obj hb ho hR rfl rfl (rJ5_init_a7421 0 rfl) (z_dec dJ5_init_a7421 1 rfl) ?_
  refine qq_aload_n hb (z_dec dJ5_init_a7421 2 rfl) rfl 1 rfl ?_
  refine qq_invStr (d := 1) (mc' := (0, 0)) (as := []) hb ho hR hE mkJ0_length_8abf5 rfl hs rfl rfl ⟨by simp, by simp⟩ rfl (rJ5_init_a7421 1 rfl) (rJ5_init_a7421 2 rfl) (rJ5_init_a7421 3 rfl) rfl (z_dec dJ5_init_a7421 3 rfl) (jS_length hs) (fun v w hp9 => ?_)
  obtain ⟨rfl, rfl⟩ := hp9
  refine qq_istore_n hb (z_dec dJ5_init_a7421 4 rfl) rfl hnl rfl rfl ?_
  refine qq_iload_n hb (z_dec dJ5_init_a7421 5 rfl) rfl 0 rfl ?_
  refine qq_ldci hb ho (rJ5_init_a7421 4 rfl) (z_dec dJ5_init_a7421 6 rfl) ?_
  refine qq_icmp_ge (tgt := 22) hb (z_dec dJ5_init_a7421 7 rfl) (by decide) (fun c => absurd c (Int32.not_le.mpr (nI_lt (b := 2147483631) (by omega) (by decide)))) (fun _ => ?_)
  refine qq_iload_n hb (z_dec dJ5_init_a7421 8 rfl) rfl 0 rfl ?_
  refine qq_bipush (v := 16) hb (z_dec dJ5_init_a7421 9 rfl) (by decide) ?_
  refine qq_iadd hb (z_dec dJ5_init_a7421 10 rfl) ?_
  rw [show Int32.ofNat X.length + (16 : Int32) = nI (X.length + 16) from nI_add _ 16]
  refine qq_goto (tgt := 24) hb (z_dec dJ5_init_a7421 11 rfl) (by decide) ?_
  refine qq_istore_n hb (z_dec dJ5_init_a7421 13 rfl) rfl hnl rfl rfl ?_
  refine qq_aload_n hb (z_dec dJ5_init_a7421 14 rfl) rfl 3 rfl ?_
  refine qq_invStr (d := 0) (mc' := (0, 0)) (as := []) hb ho hR hE mkJ0_coder_7d493 rfl hs rfl rfl ⟨by simp, by simp⟩ rfl (rJ5_init_a7421 6 rfl) (rJ5_init_a7421 7 rfl) (rJ5_init_a7421 8 rfl) rfl (z_dec dJ5_init_a7421 15 rfl) (jS_coder hs) (fun v w hp9 => ?_)
  obtain ⟨rfl, rfl⟩ := hp9
  refine qq_istore hb (z_dec dJ5_init_a7421 16 rfl) hnl rfl rfl ?_
  refine qq_aload_n hb (z_dec dJ5_init_a7421 17 rfl) rfl 3 rfl ?_
  refine qq_iload hb (z_dec dJ5_init_a7421 18 rfl) 0 rfl ?_
  refine qq_put (ty := tyJ4) (fs := [.null, .int 0, .int 0, .int 0]) hb ho cJ4 0 rfl 1 rfl (rJ5_init_a7421 9 rfl) rfl rfl rfl rfl (show 1 < 4 by decide) (z_dec dJ5_init_a7421 19 rfl) rfl ?_
  refine qq_aload_n hb (z_dec dJ5_init_a7421 20 rfl) rfl 3 rfl ?_
  refine qq_iload hb (z_dec dJ5_init_a7421 21 rfl) 0 rfl ?_
  refine qq_if_ne (tgt := 49) hb (z_dec dJ5_init_a7421 22 rfl) (by decide) (fun c => absurd rfl c) (fun _ => ?_)
  refine qq_iload_n hb (z_dec dJ5_init_a7421 23 rfl) rfl 1 rfl ?_
  refine qq_newb (N := X.length + 16) hb (nI_pos (by omega)) (nI_clamp (by omega)) (by omega) (by rw [hR]; exact ⟨by show _ ≤ 2; simp, by show _ ≤ 700; simp; omega⟩) hfr (z_dec dJ5_init_a7421 24 rfl) (fun h => ?_)
  refine qq_goto (tgt := 53) hb (z_dec dJ5_init_a7421 25 rfl) (by decide) ?_
  refine qq_put (ty := tyJ4) (fs := [.null, .int 0, .int 0, .int 0]) hb ho cJ4 1 rfl 0 rfl (rJ5_init_a7421 12 rfl) rfl rfl rfl rfl (show 0 < 4 by decide) (z_dec dJ5_init_a7421 28 rfl) rfl ?_
  refine qq_swap2 (x := (h, .inl (gA (kG K) 21, X.length + 16, .inl (fun _ => 0)))) (y := (a, .inr (11, sbO h (nI ([] : List Nat).length)))) ?_
  refine qq_aload_n hb (z_dec dJ5_init_a7421 29 rfl) rfl 3 rfl ?_
  refine qq_aload_n hb (z_dec dJ5_init_a7421 30 rfl) rfl 4 rfl ?_
  refine qq_invU (d := 6) (mc' := (1, 600)) (as := [.ref (gad (kG K) k)]) (x := yJ5_append_cf1ce) (owner := RJ5) hb ho hR hE mkJ4_append_cf1ce rfl cJ4 0 rfl rfl ⟨by simp, by simp; omega⟩ rfl rfl mkJ5_append_cf1ce (rJ5_init_a7421 14 rfl) (rJ5_init_a7421 13 rfl) (rJ5_init_a7421 15 rfl) (rJ5_init_a7421 16 rfl) (rJ5_init_a7421 17 rfl) rfl (z_dec dJ5_init_a7421 31 rfl) (j4_bridge (T := []) hfr hs ⟨Nat.zero_le _, by omega, fun j hj => absurd hj (Nat.not_lt_zero j), fun _ => rfl⟩ hX (by simp; omega)) (fun v w hp9 => ?_)
  obtain ⟨rfl, b9, m9, f9, rfl, e1⟩ := hp9
  refine qq_pop hb (z_dec dJ5_init_a7421 32 rfl) rfl ?_
  exact qq_vret hb hE ⟨by simp, by simp; omega⟩ (z_dec dJ5_init_a7421 33 rfl) ⟨rfl, b9, m9, f9, rfl, e1⟩
theorem j4_init {X : List Nat} (hfr : qFr G) (hs : zStr G k v9 X.length (X.map nI)) (hX : txOK X) (hlen : X.length ≤ 20) : QC G l (yJ4_init_a7421, cJ4_init_a7421, 2, none) 8 (2, 700) [.ref a, .ref (gad G k)] ((a, .inr (11, [.null, .int 0, .int 0, .int 0])) :: R) (fun v w => v = none ∧ ∃ (b m : Nat) (f : Nat → Int32), w = sbW G a b m f (nI X.length) R ∧ sbI X m f) := by
  refine qc_of (by decide) rfl [(0, .ref a), (1, .ref (gad G k))] rfl (fun K hG hl hK => ?_)
  subst hG; subst hl
  obtain ⟨hb, ho, hnl, hR, hE⟩ := hK
  refine qq_aload_n hb (z_dec dJ4_init_a7421 0 rfl) rfl 0 rfl ?_
  refine qq_aload_n hb (z_dec dJ4_init_a7421 1 rfl) rfl 1 rfl ?_
  refine qq_init (d := 7) (mc' := (2, 700)) (as := [.ref (gad (kG K) k)]) hb ho hR hE mkJ5_init_a7421 rfl rfl ⟨by simp, by simp⟩ rfl rfl (rJ4_init_a7421 0 rfl) (rJ4_init_a7421 1 rfl) rfl (z_dec dJ4_init_a7421 2 rfl) (j_init hfr hs hX hlen) (fun v w hp9 => ?_)
  obtain ⟨rfl, b9, m9, f9, rfl, e1⟩ := hp9
  exact qq_vret hb hE ⟨by simp, by simp⟩ (z_dec dJ4_init_a7421 3 rfl) ⟨rfl, b9, m9, f9, rfl, e1⟩
theorem j_copyRB {x : Nat × va_E} (hfr : qFr G) (hf : ∀ j, fits .byte (.int (f j)) = true) (hm : m ≤ 600) (hN : N < m) : QC G l (yJ7_copyOfRangeByte_39247, cJ7_copyOfRangeByte_39247, 5, some (.array .byte)) 1 (1, 600) [.ref b, .int 0, .int (nI N)] (x :: sbW G a b m f n R) (fun v w => ∃ (h : Nat) (g : Nat → Int32), v = some (.ref h) ∧ w = (h, .inl (gA G 21, N, .inl g)) :: x :: sbW G a b m f n R ∧ ∀ j, j < N → g j = f j) := by
  refine qc_of (by decide) rfl [(0, .ref b), (1, .int 0), (2, .int (nI N))] rfl (fun K hG hl hK => ?_)
  subst hG; subst hl
  obtain ⟨hb, ho, hnl, hR, hE⟩ := hK
  refine qq_iload_n hb (z_dec dJ7_copyOfRangeByte_39247 0 rfl) rfl 1 rfl ?_
  refine qq_iload_n hb (z_dec dJ7_copyOfRangeByte_39247 1 rfl) rfl 2 rfl ?_
  refine qq_invS (d := 0) (mc' := (0, 0)) (as := [.int 0, .int (nI N)]) hb ho hR hE mkJ7_checkLength_df160 rfl rfl ⟨by simp, by simp⟩ rfl (rJ7_copyOfRangeByte_39247 0 rfl) (rJ7_copyOfRangeByte_39247 1 rfl) rfl (z_dec dJ7_copyOfRangeByte_39247 2 rfl) (j_checkLength (by omega)) (fun v w hp9 => ?_)
  obtain ⟨rfl, rfl⟩ := hp9
  refine qq_iload_n hb (z_dec dJ7_copyOfRangeByte_39247 3 rfl) rfl 2 rfl ?_
  refine qq_iload_n hb (z_dec dJ7_copyOfRangeByte_39247 4 rfl) rfl 1 rfl ?_
  refine qq_isub hb (z_dec dJ7_copyOfRangeByte_39247 5 rfl) ?_
  rw [show nI N - (0 : Int32) = nI N from pk_sub (a := N) (b := 0) (by omega)]
  refine qq_istore_n hb (z_dec dJ7_copyOfRangeByte_39247 6 rfl) rfl hnl rfl rfl ?_
  refine qq_iload_n hb (z_dec dJ7_copyOfRangeByte_39247 7 rfl) rfl 0 rfl ?_
  refine qq_newb (N := N) hb (nI_pos (by omega)) (nI_clamp (by omega)) (by omega) (by rw [hR]; exact ⟨by show _ ≤ 1; simp, by show _ ≤ 600; simp; omega⟩) hfr (z_dec dJ7_copyOfRangeByte_39247 8 rfl) (fun h => ?_)
  refine qq_astore hb (z_dec dJ7_copyOfRangeByte_39247 9 rfl) hnl rfl rfl ?_
  refine qq_aload_n hb (z_dec dJ7_copyOfRangeByte_39247 10 rfl) rfl 2 rfl ?_
  refine qq_iload_n hb (z_dec dJ7_copyOfRangeByte_39247 11 rfl) rfl 3 rfl ?_
  refine qq_aload hb (z_dec dJ7_copyOfRangeByte_39247 12 rfl) 0 rfl ?_
  refine qq_iconst (v := 0) hb (z_dec dJ7_copyOfRangeByte_39247 13 rfl) (by decide) ?_
  refine qq_aload_n hb (z_dec dJ7_copyOfRangeByte_39247 14 rfl) rfl 2 rfl ?_
  refine qq_alen hb 3 rfl (z_dec dJ7_copyOfRangeByte_39247 15 rfl) ?_
  refine qq_iload_n hb (z_dec dJ7_copyOfRangeByte_39247 16 rfl) rfl 3 rfl ?_
  refine qq_isub hb (z_dec dJ7_copyOfRangeByte_39247 17 rfl) ?_
  rw [show Int32.ofNat m - (0 : Int32) = nI m from pk_sub (a := m) (b := 0) (by omega)]
  refine qq_iload_n hb (z_dec dJ7_copyOfRangeByte_39247 18 rfl) rfl 1 rfl ?_
  refine qq_min hb ho hR rfl ⟨by simp, by simp; omega⟩ rfl (rJ7_copyOfRangeByte_39247 2 rfl) (z_dec dJ7_copyOfRangeByte_39247 19 rfl) ?_
  rw [show (if nI N < nI m then nI N else nI m) = nI N from if_pos (nI_lt hN (by omega))]
  refine qq_copy (sp := 0) (dp := 0) (n := N) hb ho hR rfl rfl (rJ7_copyOfRangeByte_39247 4 rfl) 3 0 rfl rfl (by omega) (by omega) (by omega) (by omega) (by omega) (fun i _ => hf _) (z_dec dJ7_copyOfRangeByte_39247 20 rfl) rfl ?_
  refine qq_aload hb (z_dec dJ7_copyOfRangeByte_39247 21 rfl) 0 rfl ?_
  exact qq_aret hb hE (Or.inr ⟨_, rfl⟩) ⟨by simp, by simp; omega⟩ (z_dec dJ7_copyOfRangeByte_39247 22 rfl) ⟨h, _, rfl, rfl, fun j hj => sb_cpy0 hj⟩
theorem j_copyR {x : Nat × va_E} (hfr : qFr G) (hf : ∀ j, fits .byte (.int (f j)) = true) (hm : m ≤ 600) (hN : N ≤ m) : QC G l (yJ7_copyOfRange_39247, cJ7_copyOfRange_39247, 3, some (.array .byte)) 2 (1, 600) [.ref b, .int 0, .int (nI N)] (x :: sbW G a b m f n R) (fun v w => ∃ (h : Nat) (g : Nat → Int32), v = some (.ref h) ∧ w = (h, .inl (gA G 21, N, .inl g)) :: x :: sbW G a b m f n R ∧ ∀ j, j < N → g j = f j) := by
  refine qc_of (by decide) rfl [(0, .ref b), (1, .int 0), (2, .int (nI N))] rfl (fun K hG hl hK => ?_)
  subst hG; subst hl
  obtain ⟨hb, ho, hnl, hR, hE⟩ := hK
  refine qq_iload_n hb (z_dec dJ7_copyOfRange_39247 0 rfl) rfl 1 rfl ?_
  refine qq_if_ne (tgt := 10) hb (z_dec dJ7_copyOfRange_39247 1 rfl) (by decide) (fun c => absurd rfl c) (fun _ => ?_)
  refine qq_iload_n hb (z_dec dJ7_copyOfRange_39247 2 rfl) rfl 2 rfl ?_
  refine qq_aload_n hb (z_dec dJ7_copyOfRange_39247 3 rfl) rfl 0 rfl ?_
  refine qq_alen hb 2 rfl (z_dec dJ7_copyOfRange_39247 4 rfl) ?_
  by_cases h : N = m
  · subst h
    refine qq_icmp_eq (tgt := 17) hb (z_dec dJ7_copyOfRange_39247 5 rfl) (by decide) (fun _ => ?_) (fun c => absurd rfl c)
    refine qq_aload_n hb (z_dec dJ7_copyOfRange_39247 11 rfl) rfl 0 rfl ?_
    refine qq_clone hb ho hR hE rfl rfl (rJ7_copyOfRange_39247 2 rfl) hfr 2 rfl (fun j _ => hf j) ⟨by simp, by simp; omega⟩ (z_dec dJ7_copyOfRange_39247 12 rfl) (fun h => ?_)
    refine qq_rot ?_
    refine qq_castB hb ho (show Cond.classLink "java/util/Arrays" 311 "[B" ∈ TG from qn_in (by simp)) 0 rfl (z_dec dJ7_copyOfRange_39247 13 rfl) ?_
    exact qq_aret hb hE (Or.inr ⟨_, rfl⟩) ⟨by simp, by simp; omega⟩ (z_dec dJ7_copyOfRange_39247 14 rfl) ⟨h, f, rfl, rfl, fun _ _ => rfl⟩
  · refine qq_icmp_eq (tgt := 17) hb (z_dec dJ7_copyOfRange_39247 5 rfl) (by decide) (fun c => absurd ((nI_eq (a := N) (b := m) (by omega) (by omega)).mp c) h) (fun _ => ?_)
    refine qq_aload_n hb (z_dec dJ7_copyOfRange_39247 6 rfl) rfl 0 rfl ?_
    refine qq_iload_n hb (z_dec dJ7_copyOfRange_39247 7 rfl) rfl 1 rfl ?_
    refine qq_iload_n hb (z_dec dJ7_copyOfRange_39247 8 rfl) rfl 2 rfl ?_
    refine qq_invS (d := 1) (mc' := (1, 600)) (as := [.ref b, .int 0, .int (nI N)]) hb ho hR hE mkJ7_copyOfRangeByte_39247 rfl rfl ⟨by simp, by simp⟩ rfl (rJ7_copyOfRange_39247 0 rfl) (rJ7_copyOfRange_39247 1 rfl) rfl (z_dec dJ7_copyOfRange_39247 9 rfl) (j_copyRB hfr hf hm (by omega)) (fun v w hp9 => ?_)
    obtain ⟨h, g, rfl, rfl, e9⟩ := hp9
    exact qq_aret hb hE (Or.inr ⟨_, rfl⟩) ⟨by simp, by simp⟩ (z_dec dJ7_copyOfRange_39247 10 rfl) ⟨h, g, rfl, rfl, e9⟩
theorem jS_init (hfr : qFr G) (hf : ∀ j, fits .byte (.int (f j)) = true) (hm : m ≤ 600) (hN : N ≤ m) : QC G l (yJ0_init_db425, cJ0_init_db425, 5, none) 3 (1, 600) [.ref s, .ref a, .null] ((s, .inr (12, [.null, .int 0, .int 0, .int 0])) :: sbW G a b m f (nI N) R) (fun v w => v = none ∧ ∃ (h : Nat) (g : Nat → Int32), w = (h, .inl (gA G 21, N, .inl g)) :: (s, .inr (12, [.ref h, .int 0, .int 0, .int 0])) :: sbW G a b m f (nI N) R ∧ ∀ j, j < N → g j = f j) := by
  refine qc_of (by decide) rfl [(0, .ref s), (1, .ref a), (2, .null)] rfl (fun K hG hl hK => ?_)
  subst hG; subst hl
  obtain ⟨hb, ho, hnl, hR, hE⟩ := hK
  refine qq_aload_n hb (z_dec dJ0_init_db425 0 rfl) rfl 0 rfl ?_
  refine qq_obj hb ho hR rfl rfl (rJ0_init_db425 0 rfl) (z_dec dJ0_init_db425 1 rfl) ?_
  refine qq_aload_n hb (z_dec dJ0_init_db425 2 rfl) rfl 1 rfl ?_
  refine qq_invU (d := 0) (mc' := (0, 0)) (as := []) (x := yJ5_getValue_6d5f1) (owner := RJ5) hb ho hR hE mkJ5_getValue_6d5f1 rfl cJ4 1 rfl rfl ⟨by simp, by simp⟩ rfl rfl mkJ5_getValue_6d5f1 (rJ0_init_db425 2 rfl) (rJ0_init_db425 1 rfl) (rJ0_init_db425 3 rfl) (rJ0_init_db425 4 rfl) (rJ0_init_db425 2 rfl) rfl (z_dec dJ0_init_db425 3 rfl) (g_getValue 1 rfl) (fun v w hp9 => ?_)
  obtain ⟨rfl, rfl⟩ := hp9
  refine qq_astore_n hb (z_dec dJ0_init_db425 4 rfl) rfl hnl rfl rfl ?_
  refine qq_aload_n hb (z_dec dJ0_init_db425 5 rfl) rfl 2 rfl ?_
  refine qq_invU (d := 1) (mc' := (0, 0)) (as := []) (x := yJ5_length_8abf5) (owner := RJ5) hb ho hR hE mkJ4_length_8abf5 rfl cJ4 1 rfl rfl ⟨by simp, by simp⟩ rfl rfl mkJ5_length_8abf5 (rJ0_init_db425 6 rfl) (rJ0_init_db425 5 rfl) (rJ0_init_db425 7 rfl) (rJ0_init_db425 8 rfl) (rJ0_init_db425 9 rfl) rfl (z_dec dJ0_init_db425 6 rfl) (g_len4 1 rfl) (fun v w hp9 => ?_)
  obtain ⟨rfl, rfl⟩ := hp9
  refine qq_istore hb (z_dec dJ0_init_db425 7 rfl) hnl rfl rfl ?_
  refine qq_aload_n hb (z_dec dJ0_init_db425 8 rfl) rfl 3 rfl ?_
  refine qq_invU (d := 0) (mc' := (0, 0)) (as := []) (x := yJ5_isLatin1_aae02) (owner := RJ5) hb ho hR hE mkJ5_isLatin1_aae02 rfl cJ4 1 rfl rfl ⟨by simp, by simp⟩ rfl rfl mkJ5_isLatin1_aae02 (rJ0_init_db425 11 rfl) (rJ0_init_db425 10 rfl) (rJ0_init_db425 12 rfl) (rJ0_init_db425 13 rfl) (rJ0_init_db425 11 rfl) rfl (z_dec dJ0_init_db425 9 rfl) (g_isLatin1 1 rfl) (fun v w hp9 => ?_)
  obtain ⟨rfl, rfl⟩ := hp9
  refine qq_if_eq (tgt := 41) hb (z_dec dJ0_init_db425 10 rfl) (by decide) (fun c => absurd c (by decide)) (fun _ => ?_)
  refine qq_aload_n hb (z_dec dJ0_init_db425 11 rfl) rfl 2 rfl ?_
  refine qq_iconst (v := 0) hb (z_dec dJ0_init_db425 12 rfl) (by decide) ?_
  refine qq_putF (ty := tyJ0) (fs := [.null, .int 0, .int 0, .int 0]) hb ho hE cJ0 0 rfl 1 rfl (rJ0_init_db425 14 rfl) rfl rfl rfl rfl rfl (show 1 < 4 by decide) (z_dec dJ0_init_db425 13 rfl) rfl ?_
  refine qq_aload_n hb (z_dec dJ0_init_db425 14 rfl) rfl 2 rfl ?_
  refine qq_aload_n hb (z_dec dJ0_init_db425 15 rfl) rfl 1 rfl ?_
  refine qq_iconst (v := 0) hb (z_dec dJ0_init_db425 16 rfl) (by decide) ?_
  refine qq_iload hb (z_dec dJ0_init_db425 17 rfl) 0 rfl ?_
  refine qq_invS (d := 2) (mc' := (1, 600)) (as := [.ref b, .int 0, .int (nI N)]) hb ho hR hE mkJ7_copyOfRange_39247 rfl rfl ⟨by simp, by simp⟩ rfl (rJ0_init_db425 15 rfl) (rJ0_init_db425 16 rfl) rfl (z_dec dJ0_init_db425 18 rfl) (j_copyR (x := (s, .inr (12, [.null, .int 0, .int 0, .int 0]))) hfr hf hm hN) (fun v w hp9 => ?_)
  obtain ⟨h, g, rfl, rfl, e9⟩ := hp9
  refine qq_putF (ty := tyJ0) (fs := [.null, .int 0, .int 0, .int 0]) hb ho hE cJ0 1 rfl 0 rfl (rJ0_init_db425 17 rfl) rfl rfl rfl rfl rfl (show 0 < 4 by decide) (z_dec dJ0_init_db425 19 rfl) rfl ?_
  refine qq_goto (tgt := 97) hb (z_dec dJ0_init_db425 20 rfl) (by decide) ?_
  exact qq_vret hb hE ⟨by simp, by simp⟩ (z_dec dJ0_init_db425 50 rfl) ⟨rfl, h, g, rfl, e9⟩
theorem jS_init2 (hfr : qFr G) (hf : ∀ j, fits .byte (.int (f j)) = true) (hm : m ≤ 600) (hN : N ≤ m) : QC G l (yJ0_init_81219, cJ0_init_81219, 2, none) 4 (1, 600) [.ref s, .ref a] ((s, .inr (12, [.null, .int 0, .int 0, .int 0])) :: sbW G a b m f (nI N) R) (fun v w => v = none ∧ ∃ (h : Nat) (g : Nat → Int32), w = (h, .inl (gA G 21, N, .inl g)) :: (s, .inr (12, [.ref h, .int 0, .int 0, .int 0])) :: sbW G a b m f (nI N) R ∧ ∀ j, j < N → g j = f j) := by
  refine qc_of (by decide) rfl [(0, .ref s), (1, .ref a)] rfl (fun K hG hl hK => ?_)
  subst hG; subst hl
  obtain ⟨hb, ho, hnl, hR, hE⟩ := hK
  refine qq_aload_n hb (z_dec dJ0_init_81219 0 rfl) rfl 0 rfl ?_
  refine qq_aload_n hb (z_dec dJ0_init_81219 1 rfl) rfl 1 rfl ?_
  refine qq_null hb (z_dec dJ0_init_81219 2 rfl) ?_
  refine qq_init (d := 3) (mc' := (1, 600)) (as := [.ref a, .null]) hb ho hR hE mkJ0_init_db425 rfl rfl ⟨by simp, by simp⟩ rfl rfl (rJ0_init_81219 0 rfl) (rJ0_init_81219 1 rfl) rfl (z_dec dJ0_init_81219 3 rfl) (jS_init hfr hf hm hN) (fun v w hp9 => ?_)
  obtain ⟨rfl, h, g, rfl, e9⟩ := hp9
  exact qq_vret hb hE ⟨by simp, by simp⟩ (z_dec dJ0_init_81219 4 rfl) ⟨rfl, h, g, rfl, e9⟩
theorem j_toString (hfr : qFr G) (hf : ∀ j, fits .byte (.int (f j)) = true) (hm : m ≤ 600) (hN : N ≤ m) : QC G l (yJ4_toString_0e30d, cJ4_toString_0e30d, 1, some (.object "java/lang/String")) 5 (2, 604) [.ref a] (sbW G a b m f (nI N) R) (fun v w => ∃ (s h : Nat) (g : Nat → Int32), v = some (.ref s) ∧ w = (h, .inl (gA G 21, N, .inl g)) :: (s, .inr (12, [.ref h, .int 0, .int 0, .int 0])) :: sbW G a b m f (nI N) R ∧ ∀ j, j < N → g j = f j) := by
  refine qc_of (by decide) rfl [(0, .ref a)] rfl (fun K hG hl hK => ?_)
  subst hG; subst hl
  obtain ⟨hb, ho, hnl, hR, hE⟩ := hK
  refine qq_new (ty := tyJ0) (fs := [.null, .int 0, .int 0, .int 0]) hb ho cJ0 (rJ4_toString_0e30d 0 rfl) sbNew.2.2.1 sbNew.2.2.2 (by decide) (by rw [hR]; exact ⟨by show _ ≤ 2; simp, by show _ ≤ 604; simp⟩) hfr (z_dec dJ4_toString_0e30d 0 rfl) (fun s => ?_)
  refine qq_dup hb (z_dec dJ4_toString_0e30d 1 rfl) rfl ?_
  refine qq_aload_n hb (z_dec dJ4_toString_0e30d 2 rfl) rfl 0 rfl ?_
  refine qq_init (d := 4) (mc' := (1, 600)) (as := [.ref a]) hb ho hR hE mkJ0_init_81219 rfl rfl ⟨by simp, by simp⟩ rfl rfl (rJ4_toString_0e30d 1 rfl) (rJ4_toString_0e30d 2 rfl) rfl (z_dec dJ4_toString_0e30d 3 rfl) (jS_init2 hfr hf hm hN) (fun v w hp9 => ?_)
  obtain ⟨rfl, h, g, rfl, e9⟩ := hp9
  exact qq_aret hb hE (Or.inl ⟨_, rfl⟩) ⟨by simp, by simp⟩ (z_dec dJ4_toString_0e30d 4 rfl) ⟨s, h, g, rfl, rfl, e9⟩
end J81
