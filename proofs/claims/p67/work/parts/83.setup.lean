/-! THE LAW'S TEXT IS BUILT -/
theorem stg_cg {G G' : zG} (h : gs G' = gs G) {k : Nat} : stg G' k = stg G k := by
  unfold stg pik
  rw [h]
theorem pik_cg {G G' : zG} (h : gs G' = gs G) {k n : Nat} : pik G' k n = pik G k n := by
  unfold pik
  rw [h]
theorem i2cs {c : Nat} (h : c < 128) : ((nI c).toUInt32 % 65536).toInt32 = nI c := by
  have d : ∀ c, c < 128 → ((nI c).toUInt32 % 65536).toInt32 = nI c := by decide +kernel
  exact d c h
theorem qq_loc {K : zK} {u : Nat × Nat} {pc : Nat} {L L' : List (Nat × Value)} {S : List Value} {ws : va_W} (ps : List Nat) (h : zpk L ps = L') (k : QQ K u pc L' S ws) : QQ K u pc L S ws :=
  fun p e s m args below meth c Q H locs ls B hq hP hD hl hS => k p e s m args below meth c Q H locs ls B hq hP hD (by
    refine ⟨hl.1, hl.2.1, fun q hq => hl.2.2 q ?_⟩
    rw [← h] at hq
    obtain ⟨k, -, hk⟩ := List.mem_filterMap.mp hq
    exact List.mem_of_getElem? hk) hS
def setP (G : zG) (T : List Nat) : Option Value → va_W → Prop := fun v w => ∃ (s h a b m : Nat) (g f : Nat → Int32), v = some (.ref s) ∧ w = (h, .inl (gA G 21, T.length, .inl g)) :: (s, .inr (12, [.ref h, .int 0, .int 0, .int 0])) :: sbW G a b m f (nI T.length) [] ∧ ∀ j, j < T.length → g j = nI (T.getD j 0)
theorem has_1400 : ∀ v ∈ ([.ref 1400] : List Value), ∀ r, v = .ref r → 1000 ≤ r := fun v hv r e => by
  simp at hv
  subst hv
  cases e
  decide
theorem has_pick {i x : Int32} : ∀ v ∈ ([.ref 1400, .int i, .int x] : List Value), ∀ r, v = .ref r → 1000 ≤ r := fun v hv r e => by
  rcases List.mem_cons.mp hv with h | h
  · subst h
    cases e
    decide
  · subst e
    simp at h
theorem e_setup {G : zG} {l : Launch} {c n : Nat} (hfr : qFr G) (hL : (gs G).1 ≤ 260) (hc1 : 1 ≤ c) (hc : c ≤ 5) (hn : n ≤ 9) : QC G l (yL_setup, cL_setup, 6, some (.object "java/lang/String")) 9 (200, 110000) [.ref (gad G 1400), .int (nI c), .int (nI n)] [] (setP G (txt (lvs G) c (lqs G c n))) := by
  refine qc_of (by decide) rfl [(0, .ref (gad G 1400)), (1, .int (nI c)), (2, .int (nI n))] rfl (fun K hG hl hK => ?_)
  subst hG; subst hl
  obtain ⟨hb, ho, hnl, hR, hE⟩ := hK
  have d0 := dgt_2 (stg (kG K) 0)
  have d1 := dgt_2 (stg (kG K) 1)
  have d2 := dgt_2 (stg (kG K) 2)
  have d3 := dgt_2 (stg (kG K) 3)
  have d4 := dgt_2 (stg (kG K) 4)
  have d5 := dgt_2 (stg (kG K) 5)
  have d6 := dgt_2 (stg (kG K) 6)
  obtain ⟨s0, s1, s2, s3, s4, s5, s6⟩ := stg_lt (kG K)
  have lp2 : ∀ (a d i b9 m9 : Nat) (f9 : Nat → Int32), i + d = n → sbI ((hdT (lvs (kG K))) ++ (clksT 0 c ++ letsT (lqs (kG K) c i))) m9 f9 → QQ K (80 + 11 * i, 40000 + 6600 * i) 135 [(4, .int (nI i)), (3, .ref a), (0, .ref (gad (kG K) 1400)), (1, .int (nI c)), (2, .int (nI n))] [] (sbW (kG K) a b9 m9 f9 (nI ((hdT (lvs (kG K))) ++ (clksT 0 c ++ letsT (lqs (kG K) c i))).length) []) := by
    intro a d
    induction d with
    | zero =>
      intro i b9 m9 f9 hi hI
      obtain rfl : i = n := by omega
      refine qq_iload hb (z_dec dL_setup 62 rfl) 0 rfl ?_
      refine qq_iload_n hb (z_dec dL_setup 63 rfl) rfl 4 rfl ?_
      refine qq_icmp_ge (tgt := 253) hb (z_dec dL_setup 64 rfl) (by decide) (fun _ => ?_) (fun c => absurd (Int32.le_refl _) c)
      refine qq_aload_n hb (z_dec dL_setup 123 rfl) rfl 1 rfl ?_
      refine qq_inv (d := 5) (mc' := (2, 604)) (as := []) hb ho hR hE mkJ4_toString_0e30d rfl cJ4 rfl 0 rfl rfl ⟨by show 80 + 11 * i + 2 ≤ 200; omega, by show 40000 + 6600 * i + 604 ≤ 110000; omega⟩ rfl (rL_setup 30 rfl) (rL_setup 31 rfl) (rL_setup 32 rfl) rfl (z_dec dL_setup 124 rfl) (j_toString hfr hI.2.2.2 hI.2.1 hI.1) (fun v w hp9 => ?_)
      obtain ⟨s, h, g, rfl, rfl, e9⟩ := hp9
      exact qq_aret hb hE (Or.inl ⟨_, rfl⟩) ⟨by show 80 + 11 * i + 2 ≤ 200; omega, by show 40000 + 6600 * i + 604 ≤ 110000; omega⟩ (z_dec dL_setup 125 rfl) ⟨s, h, a, b9, m9, g, f9, rfl, rfl, fun j hj => (e9 j hj).trans (hI.2.2.1 j hj)⟩
    | succ d ih =>
      intro i b9 m9 f9 hi hI
      have hl : ((hdT (lvs (kG K))) ++ (clksT 0 c ++ letsT (lqs (kG K) c i))).length ≤ 22 + 9 * c + 20 * i := by
        have h1 := hd_len (G := kG K)
        have h2 := lets_len (G := kG K) c i
        have h3 := clksT_len c 0
        rw [List.length_append, List.length_append]
        omega
      have eT : (hdT (lvs (kG K))) ++ (clksT 0 c ++ letsT (lqs (kG K) c (i + 1))) = ((hdT (lvs (kG K))) ++ (clksT 0 c ++ letsT (lqs (kG K) c i))) ++ letT (lqz (pik (kG K) (8 + i) 268435456) c) := by
        rw [lqs_snoc, letsT_app, List.append_assoc, List.append_assoc]
        congr 3
        exact List.append_nil _
      unfold lqz at eT
      rw [let_eq] at eT
      have hih := ih (i + 1)
      rw [eT] at hih
      have hzl := pik_lt (G := kG K) (k := 8 + i) (n := 268435456) (by decide)
      have hzc := Nat.mod_lt (pik (kG K) (8 + i) 268435456) (show 0 < c by omega)
      have dz2 := dgt_2 (pik (kG K) (8 + i) 268435456 / 128 % 16)
      have dz3 := dgt_2 (1 + pik (kG K) (8 + i) 268435456 / 4096 % 60)
      have dz1 := dgt_1 (show 1 + pik (kG K) (8 + i) 268435456 / 8 % 9 < 10 by omega)
      have dz4 := dgt_1 (show pik (kG K) (8 + i) 268435456 / 262144 % 10 < 10 by omega)
      clear eT ih
      generalize (hdT (lvs (kG K))) ++ (clksT 0 c ++ letsT (lqs (kG K) c i)) = T at *
      refine qq_iload hb (z_dec dL_setup 62 rfl) 0 rfl ?_
      refine qq_iload_n hb (z_dec dL_setup 63 rfl) rfl 4 rfl ?_
      refine qq_icmp_ge (tgt := 253) hb (z_dec dL_setup 64 rfl) (by decide) (fun c => absurd c (Int32.not_le.mpr (nI_lt (by omega) (by omega)))) (fun _ => ?_)
      refine qq_aload_n hb (z_dec dL_setup 65 rfl) rfl 2 rfl ?_
      refine qq_bipush (v := 8) hb (z_dec dL_setup 66 rfl) (by decide) ?_
      refine qq_iload hb (z_dec dL_setup 67 rfl) 0 rfl ?_
      refine qq_iadd hb (z_dec dL_setup 68 rfl) ?_
      rw [show (8 : Int32) + nI i = nI (8 + i) from nI_add 8 i]
      refine qq_ldci hb ho (rL_setup 26 rfl) (z_dec dL_setup 69 rfl) ?_
      refine qq_invCT (d := 0) (as := [.ref 1400, .int (nI (8 + i)), .int (nI 268435456)]) (x := nI (pik (kG K) (8 + i) 268435456)) hb ho hR mkL_pick rfl rfl ⟨(by first | (simp; done) | (simp; omega)), (by first | (simp; done) | (simp; omega))⟩ has_pick rfl (rL_setup 27 rfl) (rL_setup 28 rfl) rfl hfr (z_dec dL_setup 70 rfl) (fun G' hG' => by rw [← pik_cg hG']; exact e_pick (by rw [hG']; exact hL) (by omega) (by decide) (by decide)) ?_
      generalize hz : pik (kG K) (8 + i) 268435456 = z at *
      refine qq_istore hb (z_dec dL_setup 71 rfl) hnl rfl rfl ?_
      refine qq_aload_n hb (z_dec dL_setup 72 rfl) rfl 2 rfl ?_
      refine qq_ldcS hb ho 13 rfl (z_dec dL_setup 73 rfl) ?_
      refine qq_inv (d := 5) (mc' := (1, 600)) (as := [.ref (gad (kG K) 1105)]) hb ho hR hE mkJ4_append_15ec4 rfl cJ4 rfl 0 rfl rfl ⟨(by first | (simp; done) | (simp; omega)), (by first | (simp; done) | (simp; omega))⟩ rfl (rL_setup 23 rfl) (rL_setup 24 rfl) (rL_setup 25 rfl) rfl (z_dec dL_setup 74 rfl) (j4_append hfr (zs_let _) hI tx_let (by simp only [List.length_append, List.length_cons, List.length_nil, show xOff.length = 7 from rfl, show xClk.length = 7 from rfl, show xLet.length = 8 from rfl]; omega)) (fun v w hp9 => ?_)
      obtain ⟨rfl, b9, m9, f9, rfl, hI⟩ := hp9
      refine qq_bipush (v := 97) hb (z_dec dL_setup 75 rfl) (by decide) ?_
      refine qq_iload hb (z_dec dL_setup 76 rfl) 0 rfl ?_
      refine qq_iload_n hb (z_dec dL_setup 77 rfl) rfl 4 rfl ?_
      refine qq_irem hb (z_dec dL_setup 78 rfl) (nI_ne0 (by omega) (by omega)) ?_
      rw [pk_rem (by omega) (by omega) (by omega)]
      refine qq_iadd hb (z_dec dL_setup 79 rfl) ?_
      rw [show (97 : Int32) + nI (z % c) = nI (97 + z % c) from nI_add 97 _]
      refine qq_i2c hb (z_dec dL_setup 80 rfl) ?_
      rw [i2cs (by omega)]
      refine qq_inv (d := 5) (mc' := (1, 600)) (as := [.int (nI (97 + z % c))]) hb ho hR hE mkJ4_append_cf468 rfl cJ4 rfl 0 rfl rfl ⟨(by first | (simp; done) | (simp; omega)), (by first | (simp; done) | (simp; omega))⟩ rfl (rL_setup 8 rfl) (rL_setup 9 rfl) (rL_setup 10 rfl) rfl (z_dec dL_setup 81 rfl) (j4_appendC (c := 97 + z % c) hfr hI (by omega) (by simp only [List.length_append, List.length_cons, List.length_nil, show xOff.length = 7 from rfl, show xClk.length = 7 from rfl, show xLet.length = 8 from rfl]; omega)) (fun v w hp9 => ?_)
      obtain ⟨rfl, b9, m9, f9, rfl, hI⟩ := hp9
      refine qq_bipush (v := 32) hb (z_dec dL_setup 82 rfl) (by decide) ?_
      refine qq_inv (d := 5) (mc' := (1, 600)) (as := [.int (nI (32))]) hb ho hR hE mkJ4_append_cf468 rfl cJ4 rfl 0 rfl rfl ⟨(by first | (simp; done) | (simp; omega)), (by first | (simp; done) | (simp; omega))⟩ rfl (rL_setup 8 rfl) (rL_setup 9 rfl) (rL_setup 10 rfl) rfl (z_dec dL_setup 83 rfl) (j4_appendC (c := 32) hfr hI (by omega) (by simp only [List.length_append, List.length_cons, List.length_nil, show xOff.length = 7 from rfl, show xClk.length = 7 from rfl, show xLet.length = 8 from rfl]; omega)) (fun v w hp9 => ?_)
      obtain ⟨rfl, b9, m9, f9, rfl, hI⟩ := hp9
      refine qq_iconst (v := 1) hb (z_dec dL_setup 84 rfl) (by decide) ?_
      refine qq_iload hb (z_dec dL_setup 85 rfl) 0 rfl ?_
      refine qq_bipush (v := 8) hb (z_dec dL_setup 86 rfl) (by decide) ?_
      refine qq_idiv hb (z_dec dL_setup 87 rfl) (by decide) ?_
      rw [show nI z / (8 : Int32) = nI (z / 8) from pk_div (by omega) (by decide) (by decide)]
      refine qq_bipush (v := 9) hb (z_dec dL_setup 88 rfl) (by decide) ?_
      refine qq_irem hb (z_dec dL_setup 89 rfl) (by decide) ?_
      rw [show nI (z / 8) - nI (z / 8) / (9 : Int32) * (9 : Int32) = nI (z / 8 % 9) from pk_rem (by omega) (by decide) (by decide)]
      refine qq_iadd hb (z_dec dL_setup 90 rfl) ?_
      rw [show (1 : Int32) + nI (z / 8 % 9) = nI (1 + z / 8 % 9) from nI_add 1 _]
      refine qq_inv (d := 5) (mc' := (1, 600)) (as := [.int (nI (1 + z / 8 % 9))]) hb ho hR hE mkJ4_append_bf812 rfl cJ4 rfl 0 rfl rfl ⟨(by first | (simp; done) | (simp; omega)), (by first | (simp; done) | (simp; omega))⟩ rfl (rL_setup 5 rfl) (rL_setup 6 rfl) (rL_setup 7 rfl) rfl (z_dec dL_setup 91 rfl) (j4_appendI (v := 1 + z / 8 % 9) hfr hI (by omega) (by simp only [List.length_append, List.length_cons, List.length_nil, show xOff.length = 7 from rfl, show xClk.length = 7 from rfl, show xLet.length = 8 from rfl]; omega)) (fun v w hp9 => ?_)
      obtain ⟨rfl, b9, m9, f9, rfl, hI⟩ := hp9
      refine qq_bipush (v := 32) hb (z_dec dL_setup 92 rfl) (by decide) ?_
      refine qq_inv (d := 5) (mc' := (1, 600)) (as := [.int (nI (32))]) hb ho hR hE mkJ4_append_cf468 rfl cJ4 rfl 0 rfl rfl ⟨(by first | (simp; done) | (simp; omega)), (by first | (simp; done) | (simp; omega))⟩ rfl (rL_setup 8 rfl) (rL_setup 9 rfl) (rL_setup 10 rfl) rfl (z_dec dL_setup 93 rfl) (j4_appendC (c := 32) hfr hI (by omega) (by simp only [List.length_append, List.length_cons, List.length_nil, show xOff.length = 7 from rfl, show xClk.length = 7 from rfl, show xLet.length = 8 from rfl]; omega)) (fun v w hp9 => ?_)
      obtain ⟨rfl, b9, m9, f9, rfl, hI⟩ := hp9
      refine qq_iload hb (z_dec dL_setup 94 rfl) 0 rfl ?_
      refine qq_sipush (v := 128) hb (z_dec dL_setup 95 rfl) (by decide) ?_
      refine qq_idiv hb (z_dec dL_setup 96 rfl) (by decide) ?_
      rw [show nI z / (128 : Int32) = nI (z / 128) from pk_div (by omega) (by decide) (by decide)]
      refine qq_bipush (v := 16) hb (z_dec dL_setup 97 rfl) (by decide) ?_
      refine qq_irem hb (z_dec dL_setup 98 rfl) (by decide) ?_
      rw [show nI (z / 128) - nI (z / 128) / (16 : Int32) * (16 : Int32) = nI (z / 128 % 16) from pk_rem (by omega) (by decide) (by decide)]
      refine qq_inv (d := 5) (mc' := (1, 600)) (as := [.int (nI (z / 128 % 16))]) hb ho hR hE mkJ4_append_bf812 rfl cJ4 rfl 0 rfl rfl ⟨(by first | (simp; done) | (simp; omega)), (by first | (simp; done) | (simp; omega))⟩ rfl (rL_setup 5 rfl) (rL_setup 6 rfl) (rL_setup 7 rfl) rfl (z_dec dL_setup 99 rfl) (j4_appendI (v := z / 128 % 16) hfr hI (by omega) (by simp only [List.length_append, List.length_cons, List.length_nil, show xOff.length = 7 from rfl, show xClk.length = 7 from rfl, show xLet.length = 8 from rfl]; omega)) (fun v w hp9 => ?_)
      obtain ⟨rfl, b9, m9, f9, rfl, hI⟩ := hp9
      refine qq_bipush (v := 32) hb (z_dec dL_setup 100 rfl) (by decide) ?_
      refine qq_inv (d := 5) (mc' := (1, 600)) (as := [.int (nI (32))]) hb ho hR hE mkJ4_append_cf468 rfl cJ4 rfl 0 rfl rfl ⟨(by first | (simp; done) | (simp; omega)), (by first | (simp; done) | (simp; omega))⟩ rfl (rL_setup 8 rfl) (rL_setup 9 rfl) (rL_setup 10 rfl) rfl (z_dec dL_setup 101 rfl) (j4_appendC (c := 32) hfr hI (by omega) (by simp only [List.length_append, List.length_cons, List.length_nil, show xOff.length = 7 from rfl, show xClk.length = 7 from rfl, show xLet.length = 8 from rfl]; omega)) (fun v w hp9 => ?_)
      obtain ⟨rfl, b9, m9, f9, rfl, hI⟩ := hp9
      refine qq_iconst (v := 1) hb (z_dec dL_setup 102 rfl) (by decide) ?_
      refine qq_iload hb (z_dec dL_setup 103 rfl) 0 rfl ?_
      refine qq_sipush (v := 4096) hb (z_dec dL_setup 104 rfl) (by decide) ?_
      refine qq_idiv hb (z_dec dL_setup 105 rfl) (by decide) ?_
      rw [show nI z / (4096 : Int32) = nI (z / 4096) from pk_div (by omega) (by decide) (by decide)]
      refine qq_bipush (v := 60) hb (z_dec dL_setup 106 rfl) (by decide) ?_
      refine qq_irem hb (z_dec dL_setup 107 rfl) (by decide) ?_
      rw [show nI (z / 4096) - nI (z / 4096) / (60 : Int32) * (60 : Int32) = nI (z / 4096 % 60) from pk_rem (by omega) (by decide) (by decide)]
      refine qq_iadd hb (z_dec dL_setup 108 rfl) ?_
      rw [show (1 : Int32) + nI (z / 4096 % 60) = nI (1 + z / 4096 % 60) from nI_add 1 _]
      refine qq_inv (d := 5) (mc' := (1, 600)) (as := [.int (nI (1 + z / 4096 % 60))]) hb ho hR hE mkJ4_append_bf812 rfl cJ4 rfl 0 rfl rfl ⟨(by first | (simp; done) | (simp; omega)), (by first | (simp; done) | (simp; omega))⟩ rfl (rL_setup 5 rfl) (rL_setup 6 rfl) (rL_setup 7 rfl) rfl (z_dec dL_setup 109 rfl) (j4_appendI (v := 1 + z / 4096 % 60) hfr hI (by omega) (by simp only [List.length_append, List.length_cons, List.length_nil, show xOff.length = 7 from rfl, show xClk.length = 7 from rfl, show xLet.length = 8 from rfl]; omega)) (fun v w hp9 => ?_)
      obtain ⟨rfl, b9, m9, f9, rfl, hI⟩ := hp9
      refine qq_bipush (v := 32) hb (z_dec dL_setup 110 rfl) (by decide) ?_
      refine qq_inv (d := 5) (mc' := (1, 600)) (as := [.int (nI (32))]) hb ho hR hE mkJ4_append_cf468 rfl cJ4 rfl 0 rfl rfl ⟨(by first | (simp; done) | (simp; omega)), (by first | (simp; done) | (simp; omega))⟩ rfl (rL_setup 8 rfl) (rL_setup 9 rfl) (rL_setup 10 rfl) rfl (z_dec dL_setup 111 rfl) (j4_appendC (c := 32) hfr hI (by omega) (by simp only [List.length_append, List.length_cons, List.length_nil, show xOff.length = 7 from rfl, show xClk.length = 7 from rfl, show xLet.length = 8 from rfl]; omega)) (fun v w hp9 => ?_)
      obtain ⟨rfl, b9, m9, f9, rfl, hI⟩ := hp9
      refine qq_iload hb (z_dec dL_setup 112 rfl) 0 rfl ?_
      refine qq_ldci hb ho (rL_setup 29 rfl) (z_dec dL_setup 113 rfl) ?_
      refine qq_idiv hb (z_dec dL_setup 114 rfl) (by decide) ?_
      rw [show nI z / (262144 : Int32) = nI (z / 262144) from pk_div (by omega) (by decide) (by decide)]
      refine qq_bipush (v := 10) hb (z_dec dL_setup 115 rfl) (by decide) ?_
      refine qq_irem hb (z_dec dL_setup 116 rfl) (by decide) ?_
      rw [show nI (z / 262144) - nI (z / 262144) / (10 : Int32) * (10 : Int32) = nI (z / 262144 % 10) from pk_rem (by omega) (by decide) (by decide)]
      refine qq_inv (d := 5) (mc' := (1, 600)) (as := [.int (nI (z / 262144 % 10))]) hb ho hR hE mkJ4_append_bf812 rfl cJ4 rfl 0 rfl rfl ⟨(by first | (simp; done) | (simp; omega)), (by first | (simp; done) | (simp; omega))⟩ rfl (rL_setup 5 rfl) (rL_setup 6 rfl) (rL_setup 7 rfl) rfl (z_dec dL_setup 117 rfl) (j4_appendI (v := z / 262144 % 10) hfr hI (by omega) (by simp only [List.length_append, List.length_cons, List.length_nil, show xOff.length = 7 from rfl, show xClk.length = 7 from rfl, show xLet.length = 8 from rfl]; omega)) (fun v w hp9 => ?_)
      obtain ⟨rfl, b9, m9, f9, rfl, hI⟩ := hp9
      refine qq_bipush (v := 59) hb (z_dec dL_setup 118 rfl) (by decide) ?_
      refine qq_inv (d := 5) (mc' := (1, 600)) (as := [.int (nI (59))]) hb ho hR hE mkJ4_append_cf468 rfl cJ4 rfl 0 rfl rfl ⟨(by first | (simp; done) | (simp; omega)), (by first | (simp; done) | (simp; omega))⟩ rfl (rL_setup 8 rfl) (rL_setup 9 rfl) (rL_setup 10 rfl) rfl (z_dec dL_setup 119 rfl) (j4_appendC (c := 59) hfr hI (by omega) (by simp only [List.length_append, List.length_cons, List.length_nil, show xOff.length = 7 from rfl, show xClk.length = 7 from rfl, show xLet.length = 8 from rfl]; omega)) (fun v w hp9 => ?_)
      obtain ⟨rfl, b9, m9, f9, rfl, hI⟩ := hp9
      refine qq_pop hb (z_dec dL_setup 120 rfl) rfl ?_
      refine qq_iinc hb (z_dec dL_setup 121 rfl) 1 rfl (show nI i + Int32.ofInt 1 = nI (i + 1) from nI_1 i) hnl rfl rfl ?_
      refine qq_goto (tgt := 135) hb (z_dec dL_setup 122 rfl) (by decide) ?_
      refine qq_loc [0, 2, 3, 4, 5] rfl ?_
      refine qq_widen ⟨(by first | (simp; done) | (simp; omega)), (by first | (simp; done) | (simp; omega))⟩ (hih b9 m9 f9 (by omega) hI)
  have lp1 : ∀ (a d i b9 m9 : Nat) (f9 : Nat → Int32), i + d = c → sbI ((hdT (lvs (kG K))) ++ clksT 0 i) m9 f9 → QQ K (30 + 3 * i, 20000 + 1800 * i) 99 [(4, .int (nI i)), (3, .ref a), (0, .ref (gad (kG K) 1400)), (1, .int (nI c)), (2, .int (nI n))] [] (sbW (kG K) a b9 m9 f9 (nI ((hdT (lvs (kG K))) ++ clksT 0 i).length) []) := by
    intro a d
    induction d with
    | zero =>
      intro i b9 m9 f9 hi hI
      obtain rfl : i = c := by omega
      have e0 : (hdT (lvs (kG K))) ++ (clksT 0 i ++ letsT (lqs (kG K) i 0)) = (hdT (lvs (kG K))) ++ clksT 0 i := by
        show (hdT (lvs (kG K))) ++ (clksT 0 i ++ []) = _
        rw [List.append_nil]
      have z := lp2 a n 0 b9 m9 f9 (by omega) (by rw [e0]; exact hI)
      rw [e0] at z
      refine qq_iload hb (z_dec dL_setup 44 rfl) 0 rfl ?_
      refine qq_iload_n hb (z_dec dL_setup 45 rfl) rfl 3 rfl ?_
      refine qq_icmp_ge (tgt := 132) hb (z_dec dL_setup 46 rfl) (by decide) (fun _ => ?_) (fun c => absurd (Int32.le_refl _) c)
      refine qq_iconst (v := 0) hb (z_dec dL_setup 60 rfl) (by decide) ?_
      refine qq_istore hb (z_dec dL_setup 61 rfl) hnl rfl rfl ?_
      exact qq_widen ⟨(by first | (simp; done) | (simp; omega)), (by first | (simp; done) | (simp; omega))⟩ z
    | succ d ih =>
      intro i b9 m9 f9 hi hI
      have hl : ((hdT (lvs (kG K))) ++ clksT 0 i).length ≤ 22 + 9 * i := by
        have h1 := hd_len (G := kG K)
        have h3 := clksT_len i 0
        rw [List.length_append]
        omega
      have eT : (hdT (lvs (kG K))) ++ clksT 0 (i + 1) = ((((hdT (lvs (kG K))) ++ clksT 0 i) ++ xClk) ++ [97 + i]) ++ [59] := by
        rw [clksT_snoc, Nat.zero_add, ← List.append_assoc, clk_eq]
      have hih := ih (i + 1)
      rw [eT] at hih
      clear eT ih
      generalize (hdT (lvs (kG K))) ++ clksT 0 i = T at *
      refine qq_iload hb (z_dec dL_setup 44 rfl) 0 rfl ?_
      refine qq_iload_n hb (z_dec dL_setup 45 rfl) rfl 3 rfl ?_
      refine qq_icmp_ge (tgt := 132) hb (z_dec dL_setup 46 rfl) (by decide) (fun c => absurd c (Int32.not_le.mpr (nI_lt (by omega) (by omega)))) (fun _ => ?_)
      refine qq_aload_n hb (z_dec dL_setup 47 rfl) rfl 1 rfl ?_
      refine qq_ldcS hb ho 12 rfl (z_dec dL_setup 48 rfl) ?_
      refine qq_inv (d := 5) (mc' := (1, 600)) (as := [.ref (gad (kG K) 1104)]) hb ho hR hE mkJ4_append_15ec4 rfl cJ4 rfl 0 rfl rfl ⟨(by first | (simp; done) | (simp; omega)), (by first | (simp; done) | (simp; omega))⟩ rfl (rL_setup 23 rfl) (rL_setup 24 rfl) (rL_setup 25 rfl) rfl (z_dec dL_setup 49 rfl) (j4_append hfr (zs_clk _) hI tx_clk (by simp only [List.length_append, List.length_cons, List.length_nil, show xOff.length = 7 from rfl, show xClk.length = 7 from rfl, show xLet.length = 8 from rfl]; omega)) (fun v w hp9 => ?_)
      obtain ⟨rfl, b9, m9, f9, rfl, hI⟩ := hp9
      refine qq_bipush (v := 97) hb (z_dec dL_setup 50 rfl) (by decide) ?_
      refine qq_iload hb (z_dec dL_setup 51 rfl) 0 rfl ?_
      refine qq_iadd hb (z_dec dL_setup 52 rfl) ?_
      rw [show (97 : Int32) + nI i = nI (97 + i) from nI_add 97 i]
      refine qq_i2c hb (z_dec dL_setup 53 rfl) ?_
      rw [i2cs (by omega)]
      refine qq_inv (d := 5) (mc' := (1, 600)) (as := [.int (nI (97 + i))]) hb ho hR hE mkJ4_append_cf468 rfl cJ4 rfl 0 rfl rfl ⟨(by first | (simp; done) | (simp; omega)), (by first | (simp; done) | (simp; omega))⟩ rfl (rL_setup 8 rfl) (rL_setup 9 rfl) (rL_setup 10 rfl) rfl (z_dec dL_setup 54 rfl) (j4_appendC (c := 97 + i) hfr hI (by omega) (by simp only [List.length_append, List.length_cons, List.length_nil, show xOff.length = 7 from rfl, show xClk.length = 7 from rfl, show xLet.length = 8 from rfl]; omega)) (fun v w hp9 => ?_)
      obtain ⟨rfl, b9, m9, f9, rfl, hI⟩ := hp9
      refine qq_bipush (v := 59) hb (z_dec dL_setup 55 rfl) (by decide) ?_
      refine qq_inv (d := 5) (mc' := (1, 600)) (as := [.int (nI (59))]) hb ho hR hE mkJ4_append_cf468 rfl cJ4 rfl 0 rfl rfl ⟨(by first | (simp; done) | (simp; omega)), (by first | (simp; done) | (simp; omega))⟩ rfl (rL_setup 8 rfl) (rL_setup 9 rfl) (rL_setup 10 rfl) rfl (z_dec dL_setup 56 rfl) (j4_appendC (c := 59) hfr hI (by omega) (by simp only [List.length_append, List.length_cons, List.length_nil, show xOff.length = 7 from rfl, show xClk.length = 7 from rfl, show xLet.length = 8 from rfl]; omega)) (fun v w hp9 => ?_)
      obtain ⟨rfl, b9, m9, f9, rfl, hI⟩ := hp9
      refine qq_pop hb (z_dec dL_setup 57 rfl) rfl ?_
      refine qq_iinc hb (z_dec dL_setup 58 rfl) 0 rfl (show nI i + Int32.ofInt 1 = nI (i + 1) from nI_1 i) hnl rfl rfl ?_
      refine qq_goto (tgt := 99) hb (z_dec dL_setup 59 rfl) (by decide) ?_
      exact qq_widen ⟨(by first | (simp; done) | (simp; omega)), (by first | (simp; done) | (simp; omega))⟩ (hih b9 m9 f9 (by omega) hI)
  refine qq_new (ty := tyJ4) (fs := [.null, .int 0, .int 0, .int 0]) hb ho cJ4 (rL_setup 0 rfl) sbNew.1 sbNew.2.1 (by decide) (by rw [hR]; exact ⟨by show _ ≤ 200; simp, by show _ ≤ 110000; simp⟩) hfr (z_dec dL_setup 0 rfl) (fun a => ?_)
  refine qq_dup hb (z_dec dL_setup 1 rfl) rfl ?_
  refine qq_ldcS hb ho 11 rfl (z_dec dL_setup 2 rfl) ?_
  refine qq_init (d := 8) (mc' := (2, 700)) (as := [.ref (gad (kG K) 1103)]) hb ho hR hE mkJ4_init_a7421 rfl rfl ⟨(by first | (simp; done) | (simp; omega)), (by first | (simp; done) | (simp; omega))⟩ rfl rfl (rL_setup 1 rfl) (rL_setup 2 rfl) rfl (z_dec dL_setup 3 rfl) (j4_init hfr (zs_off _) tx_off (by decide)) (fun v w hp9 => ?_)
  obtain ⟨rfl, b9, m9, f9, rfl, hI⟩ := hp9
  refine qq_aload_n hb (z_dec dL_setup 4 rfl) rfl 0 rfl ?_
  refine qq_invCT (d := 1) (as := [.ref 1400]) (x := nI (stg (kG K) 0)) hb ho hR mkL_policy rfl rfl ⟨(by first | (simp; done) | (simp; omega)), (by first | (simp; done) | (simp; omega))⟩ has_1400 rfl (rL_setup 3 rfl) (rL_setup 4 rfl) rfl hfr (z_dec dL_setup 5 rfl) (fun G' hG' => by rw [← stg_cg hG']; exact e_policy (by rw [hG']; exact hL)) ?_
  refine qq_inv (d := 5) (mc' := (1, 600)) (as := [.int (nI (stg (kG K) 0))]) hb ho hR hE mkJ4_append_bf812 rfl cJ4 rfl 0 rfl rfl ⟨(by first | (simp; done) | (simp; omega)), (by first | (simp; done) | (simp; omega))⟩ rfl (rL_setup 5 rfl) (rL_setup 6 rfl) (rL_setup 7 rfl) rfl (z_dec dL_setup 6 rfl) (j4_appendI (v := stg (kG K) 0) hfr hI (by omega) (by simp only [List.length_append, List.length_cons, List.length_nil, show xOff.length = 7 from rfl, show xClk.length = 7 from rfl, show xLet.length = 8 from rfl]; omega)) (fun v w hp9 => ?_)
  obtain ⟨rfl, b9, m9, f9, rfl, hI⟩ := hp9
  refine qq_bipush (v := 32) hb (z_dec dL_setup 7 rfl) (by decide) ?_
  refine qq_inv (d := 5) (mc' := (1, 600)) (as := [.int (nI (32))]) hb ho hR hE mkJ4_append_cf468 rfl cJ4 rfl 0 rfl rfl ⟨(by first | (simp; done) | (simp; omega)), (by first | (simp; done) | (simp; omega))⟩ rfl (rL_setup 8 rfl) (rL_setup 9 rfl) (rL_setup 10 rfl) rfl (z_dec dL_setup 8 rfl) (j4_appendC (c := 32) hfr hI (by omega) (by simp only [List.length_append, List.length_cons, List.length_nil, show xOff.length = 7 from rfl, show xClk.length = 7 from rfl, show xLet.length = 8 from rfl]; omega)) (fun v w hp9 => ?_)
  obtain ⟨rfl, b9, m9, f9, rfl, hI⟩ := hp9
  refine qq_aload_n hb (z_dec dL_setup 9 rfl) rfl 0 rfl ?_
  refine qq_invCT (d := 1) (as := [.ref 1400]) (x := nI (stg (kG K) 1)) hb ho hR mkL_handOver rfl rfl ⟨(by first | (simp; done) | (simp; omega)), (by first | (simp; done) | (simp; omega))⟩ has_1400 rfl (rL_setup 11 rfl) (rL_setup 12 rfl) rfl hfr (z_dec dL_setup 10 rfl) (fun G' hG' => by rw [← stg_cg hG']; exact e_handOver (by rw [hG']; exact hL)) ?_
  refine qq_inv (d := 5) (mc' := (1, 600)) (as := [.int (nI (stg (kG K) 1))]) hb ho hR hE mkJ4_append_bf812 rfl cJ4 rfl 0 rfl rfl ⟨(by first | (simp; done) | (simp; omega)), (by first | (simp; done) | (simp; omega))⟩ rfl (rL_setup 5 rfl) (rL_setup 6 rfl) (rL_setup 7 rfl) rfl (z_dec dL_setup 11 rfl) (j4_appendI (v := stg (kG K) 1) hfr hI (by omega) (by simp only [List.length_append, List.length_cons, List.length_nil, show xOff.length = 7 from rfl, show xClk.length = 7 from rfl, show xLet.length = 8 from rfl]; omega)) (fun v w hp9 => ?_)
  obtain ⟨rfl, b9, m9, f9, rfl, hI⟩ := hp9
  refine qq_bipush (v := 32) hb (z_dec dL_setup 12 rfl) (by decide) ?_
  refine qq_inv (d := 5) (mc' := (1, 600)) (as := [.int (nI (32))]) hb ho hR hE mkJ4_append_cf468 rfl cJ4 rfl 0 rfl rfl ⟨(by first | (simp; done) | (simp; omega)), (by first | (simp; done) | (simp; omega))⟩ rfl (rL_setup 8 rfl) (rL_setup 9 rfl) (rL_setup 10 rfl) rfl (z_dec dL_setup 13 rfl) (j4_appendC (c := 32) hfr hI (by omega) (by simp only [List.length_append, List.length_cons, List.length_nil, show xOff.length = 7 from rfl, show xClk.length = 7 from rfl, show xLet.length = 8 from rfl]; omega)) (fun v w hp9 => ?_)
  obtain ⟨rfl, b9, m9, f9, rfl, hI⟩ := hp9
  refine qq_aload_n hb (z_dec dL_setup 14 rfl) rfl 0 rfl ?_
  refine qq_invCT (d := 1) (as := [.ref 1400]) (x := nI (stg (kG K) 2)) hb ho hR mkL_capacity rfl rfl ⟨(by first | (simp; done) | (simp; omega)), (by first | (simp; done) | (simp; omega))⟩ has_1400 rfl (rL_setup 13 rfl) (rL_setup 14 rfl) rfl hfr (z_dec dL_setup 15 rfl) (fun G' hG' => by rw [← stg_cg hG']; exact e_capacity (by rw [hG']; exact hL)) ?_
  refine qq_inv (d := 5) (mc' := (1, 600)) (as := [.int (nI (stg (kG K) 2))]) hb ho hR hE mkJ4_append_bf812 rfl cJ4 rfl 0 rfl rfl ⟨(by first | (simp; done) | (simp; omega)), (by first | (simp; done) | (simp; omega))⟩ rfl (rL_setup 5 rfl) (rL_setup 6 rfl) (rL_setup 7 rfl) rfl (z_dec dL_setup 16 rfl) (j4_appendI (v := stg (kG K) 2) hfr hI (by omega) (by simp only [List.length_append, List.length_cons, List.length_nil, show xOff.length = 7 from rfl, show xClk.length = 7 from rfl, show xLet.length = 8 from rfl]; omega)) (fun v w hp9 => ?_)
  obtain ⟨rfl, b9, m9, f9, rfl, hI⟩ := hp9
  refine qq_bipush (v := 32) hb (z_dec dL_setup 17 rfl) (by decide) ?_
  refine qq_inv (d := 5) (mc' := (1, 600)) (as := [.int (nI (32))]) hb ho hR hE mkJ4_append_cf468 rfl cJ4 rfl 0 rfl rfl ⟨(by first | (simp; done) | (simp; omega)), (by first | (simp; done) | (simp; omega))⟩ rfl (rL_setup 8 rfl) (rL_setup 9 rfl) (rL_setup 10 rfl) rfl (z_dec dL_setup 18 rfl) (j4_appendC (c := 32) hfr hI (by omega) (by simp only [List.length_append, List.length_cons, List.length_nil, show xOff.length = 7 from rfl, show xClk.length = 7 from rfl, show xLet.length = 8 from rfl]; omega)) (fun v w hp9 => ?_)
  obtain ⟨rfl, b9, m9, f9, rfl, hI⟩ := hp9
  refine qq_aload_n hb (z_dec dL_setup 19 rfl) rfl 0 rfl ?_
  refine qq_invCT (d := 1) (as := [.ref 1400]) (x := nI (stg (kG K) 3)) hb ho hR mkL_refill rfl rfl ⟨(by first | (simp; done) | (simp; omega)), (by first | (simp; done) | (simp; omega))⟩ has_1400 rfl (rL_setup 15 rfl) (rL_setup 16 rfl) rfl hfr (z_dec dL_setup 20 rfl) (fun G' hG' => by rw [← stg_cg hG']; exact e_refill (by rw [hG']; exact hL)) ?_
  refine qq_inv (d := 5) (mc' := (1, 600)) (as := [.int (nI (stg (kG K) 3))]) hb ho hR hE mkJ4_append_bf812 rfl cJ4 rfl 0 rfl rfl ⟨(by first | (simp; done) | (simp; omega)), (by first | (simp; done) | (simp; omega))⟩ rfl (rL_setup 5 rfl) (rL_setup 6 rfl) (rL_setup 7 rfl) rfl (z_dec dL_setup 21 rfl) (j4_appendI (v := stg (kG K) 3) hfr hI (by omega) (by simp only [List.length_append, List.length_cons, List.length_nil, show xOff.length = 7 from rfl, show xClk.length = 7 from rfl, show xLet.length = 8 from rfl]; omega)) (fun v w hp9 => ?_)
  obtain ⟨rfl, b9, m9, f9, rfl, hI⟩ := hp9
  refine qq_bipush (v := 32) hb (z_dec dL_setup 22 rfl) (by decide) ?_
  refine qq_inv (d := 5) (mc' := (1, 600)) (as := [.int (nI (32))]) hb ho hR hE mkJ4_append_cf468 rfl cJ4 rfl 0 rfl rfl ⟨(by first | (simp; done) | (simp; omega)), (by first | (simp; done) | (simp; omega))⟩ rfl (rL_setup 8 rfl) (rL_setup 9 rfl) (rL_setup 10 rfl) rfl (z_dec dL_setup 23 rfl) (j4_appendC (c := 32) hfr hI (by omega) (by simp only [List.length_append, List.length_cons, List.length_nil, show xOff.length = 7 from rfl, show xClk.length = 7 from rfl, show xLet.length = 8 from rfl]; omega)) (fun v w hp9 => ?_)
  obtain ⟨rfl, b9, m9, f9, rfl, hI⟩ := hp9
  refine qq_astore_n hb (z_dec dL_setup 24 rfl) rfl hnl rfl rfl ?_
  refine qq_aload_n hb (z_dec dL_setup 25 rfl) rfl 0 rfl ?_
  refine qq_aload_n hb (z_dec dL_setup 26 rfl) rfl 1 rfl ?_
  refine qq_invCT (d := 1) (as := [.ref 1400]) (x := nI (stg (kG K) 4)) hb ho hR mkL_quantum rfl rfl ⟨(by first | (simp; done) | (simp; omega)), (by first | (simp; done) | (simp; omega))⟩ has_1400 rfl (rL_setup 17 rfl) (rL_setup 18 rfl) rfl hfr (z_dec dL_setup 27 rfl) (fun G' hG' => by rw [← stg_cg hG']; exact e_quantum (by rw [hG']; exact hL)) ?_
  refine qq_inv (d := 5) (mc' := (1, 600)) (as := [.int (nI (stg (kG K) 4))]) hb ho hR hE mkJ4_append_bf812 rfl cJ4 rfl 0 rfl rfl ⟨(by first | (simp; done) | (simp; omega)), (by first | (simp; done) | (simp; omega))⟩ rfl (rL_setup 5 rfl) (rL_setup 6 rfl) (rL_setup 7 rfl) rfl (z_dec dL_setup 28 rfl) (j4_appendI (v := stg (kG K) 4) hfr hI (by omega) (by simp only [List.length_append, List.length_cons, List.length_nil, show xOff.length = 7 from rfl, show xClk.length = 7 from rfl, show xLet.length = 8 from rfl]; omega)) (fun v w hp9 => ?_)
  obtain ⟨rfl, b9, m9, f9, rfl, hI⟩ := hp9
  refine qq_bipush (v := 32) hb (z_dec dL_setup 29 rfl) (by decide) ?_
  refine qq_inv (d := 5) (mc' := (1, 600)) (as := [.int (nI (32))]) hb ho hR hE mkJ4_append_cf468 rfl cJ4 rfl 0 rfl rfl ⟨(by first | (simp; done) | (simp; omega)), (by first | (simp; done) | (simp; omega))⟩ rfl (rL_setup 8 rfl) (rL_setup 9 rfl) (rL_setup 10 rfl) rfl (z_dec dL_setup 30 rfl) (j4_appendC (c := 32) hfr hI (by omega) (by simp only [List.length_append, List.length_cons, List.length_nil, show xOff.length = 7 from rfl, show xClk.length = 7 from rfl, show xLet.length = 8 from rfl]; omega)) (fun v w hp9 => ?_)
  obtain ⟨rfl, b9, m9, f9, rfl, hI⟩ := hp9
  refine qq_aload_n hb (z_dec dL_setup 31 rfl) rfl 1 rfl ?_
  refine qq_invCT (d := 1) (as := [.ref 1400]) (x := nI (stg (kG K) 5)) hb ho hR mkL_aging rfl rfl ⟨(by first | (simp; done) | (simp; omega)), (by first | (simp; done) | (simp; omega))⟩ has_1400 rfl (rL_setup 19 rfl) (rL_setup 20 rfl) rfl hfr (z_dec dL_setup 32 rfl) (fun G' hG' => by rw [← stg_cg hG']; exact e_aging (by rw [hG']; exact hL)) ?_
  refine qq_inv (d := 5) (mc' := (1, 600)) (as := [.int (nI (stg (kG K) 5))]) hb ho hR hE mkJ4_append_bf812 rfl cJ4 rfl 0 rfl rfl ⟨(by first | (simp; done) | (simp; omega)), (by first | (simp; done) | (simp; omega))⟩ rfl (rL_setup 5 rfl) (rL_setup 6 rfl) (rL_setup 7 rfl) rfl (z_dec dL_setup 33 rfl) (j4_appendI (v := stg (kG K) 5) hfr hI (by omega) (by simp only [List.length_append, List.length_cons, List.length_nil, show xOff.length = 7 from rfl, show xClk.length = 7 from rfl, show xLet.length = 8 from rfl]; omega)) (fun v w hp9 => ?_)
  obtain ⟨rfl, b9, m9, f9, rfl, hI⟩ := hp9
  refine qq_bipush (v := 32) hb (z_dec dL_setup 34 rfl) (by decide) ?_
  refine qq_inv (d := 5) (mc' := (1, 600)) (as := [.int (nI (32))]) hb ho hR hE mkJ4_append_cf468 rfl cJ4 rfl 0 rfl rfl ⟨(by first | (simp; done) | (simp; omega)), (by first | (simp; done) | (simp; omega))⟩ rfl (rL_setup 8 rfl) (rL_setup 9 rfl) (rL_setup 10 rfl) rfl (z_dec dL_setup 35 rfl) (j4_appendC (c := 32) hfr hI (by omega) (by simp only [List.length_append, List.length_cons, List.length_nil, show xOff.length = 7 from rfl, show xClk.length = 7 from rfl, show xLet.length = 8 from rfl]; omega)) (fun v w hp9 => ?_)
  obtain ⟨rfl, b9, m9, f9, rfl, hI⟩ := hp9
  refine qq_aload_n hb (z_dec dL_setup 36 rfl) rfl 1 rfl ?_
  refine qq_invCT (d := 1) (as := [.ref 1400]) (x := nI (stg (kG K) 6)) hb ho hR mkL_blot rfl rfl ⟨(by first | (simp; done) | (simp; omega)), (by first | (simp; done) | (simp; omega))⟩ has_1400 rfl (rL_setup 21 rfl) (rL_setup 22 rfl) rfl hfr (z_dec dL_setup 37 rfl) (fun G' hG' => by rw [← stg_cg hG']; exact e_blot (by rw [hG']; exact hL)) ?_
  refine qq_inv (d := 5) (mc' := (1, 600)) (as := [.int (nI (stg (kG K) 6))]) hb ho hR hE mkJ4_append_bf812 rfl cJ4 rfl 0 rfl rfl ⟨(by first | (simp; done) | (simp; omega)), (by first | (simp; done) | (simp; omega))⟩ rfl (rL_setup 5 rfl) (rL_setup 6 rfl) (rL_setup 7 rfl) rfl (z_dec dL_setup 38 rfl) (j4_appendI (v := stg (kG K) 6) hfr hI (by omega) (by simp only [List.length_append, List.length_cons, List.length_nil, show xOff.length = 7 from rfl, show xClk.length = 7 from rfl, show xLet.length = 8 from rfl]; omega)) (fun v w hp9 => ?_)
  obtain ⟨rfl, b9, m9, f9, rfl, hI⟩ := hp9
  refine qq_bipush (v := 59) hb (z_dec dL_setup 39 rfl) (by decide) ?_
  refine qq_inv (d := 5) (mc' := (1, 600)) (as := [.int (nI (59))]) hb ho hR hE mkJ4_append_cf468 rfl cJ4 rfl 0 rfl rfl ⟨(by first | (simp; done) | (simp; omega)), (by first | (simp; done) | (simp; omega))⟩ rfl (rL_setup 8 rfl) (rL_setup 9 rfl) (rL_setup 10 rfl) rfl (z_dec dL_setup 40 rfl) (j4_appendC (c := 59) hfr hI (by omega) (by simp only [List.length_append, List.length_cons, List.length_nil, show xOff.length = 7 from rfl, show xClk.length = 7 from rfl, show xLet.length = 8 from rfl]; omega)) (fun v w hp9 => ?_)
  obtain ⟨rfl, b9, m9, f9, rfl, hI⟩ := hp9
  refine qq_pop hb (z_dec dL_setup 41 rfl) rfl ?_
  refine qq_iconst (v := 0) hb (z_dec dL_setup 42 rfl) (by decide) ?_
  refine qq_istore hb (z_dec dL_setup 43 rfl) hnl rfl rfl ?_
  rw [← hd_eq (G := kG K)] at hI ⊢
  have e0 : (hdT (lvs (kG K))) ++ clksT 0 0 = (hdT (lvs (kG K))) := List.append_nil _
  have z := lp1 a c 0 b9 m9 f9 (by omega) (by rw [e0]; exact hI)
  rw [e0] at z
  exact qq_widen ⟨(by first | (simp; done) | (simp; omega)), (by first | (simp; done) | (simp; omega))⟩ z
