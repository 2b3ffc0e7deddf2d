/-! THE LAW'S OFFICE IS MADE -/
section QQI
variable {K : zK} {u : Nat × Nat} {pc : Nat} {L : List (Nat × Value)} {S : List Value} {ws : va_W} {cc : ByteArray}
theorem qq_newi {N : Nat} (hb : kcc K = cc) {x : Int32} (hx0 : ¬ x < 0) (hxN : x.toNatClampNeg = N) (hby : N * componentBytes .int ≤ 536870912) (hR : u.1 + 1 ≤ (kR K).cells ∧ u.2 + N ≤ (kR K).slots) (hfr : qFr (kG K)) (hdg : decode cc pc = .ok (.newarray .int, 2)) (kk : ∀ h : Nat, QQ K (u.1 + 1, u.2 + N) (pc + 2) L (.ref h :: S) ((h, .inl (gA (kG K) 20, N, .inl (fun _ => 0))) :: ws)) : QQ K u pc L (.int x :: S) ws := by
  intro p e s m args below meth c0 Q H locs ls B hq hP hD hl hS
  have B0 := B
  obtain ⟨b1, b2, b3, hts, hown, b6, hK, hO1, hb0, hG, hw, hst⟩ := B
  refine va_newaK (atype := .int) (N := N) b1 (b2.trans hb) (hts _ ac_int) rfl hdg rfl hx0 hxN hby hR.1 hR.2 rfl fun H1 cA e1 z1 o1 hAr hNm => ?_
  have hcA : cA = gA (kG K) 20 := Option.some.inj (hNm.symm.trans (hK.2 0 (gA (kG K) 20, .int) rfl).2)
  have hk : ∀ (k : Nat) (x : Nat × va_E), ws[k]? = some x → H1[x.1]? = H[x.1]? := fun k x hx => o1 x.1 (hP k x hx).lt
  refine kk H.size p e s m args below meth c0 Q H1 locs ls B0 hq (va_Pc1 ?_ (hP.kept hk)) (va_Dc1 hP (Nat.le_refl _) (hfr _ (Nat.le_trans hb0 hS.1)) hD) hl ⟨Nat.le_trans hS.1 (by rw [z1]; omega), fun x g1 g2 => (o1 x (Nat.lt_of_lt_of_le g1 hS.1)).trans (hS.2.1 x g1 g2), hS.2.2⟩
  show H1[H.size]? = some (vp_cell (gA (kG K) 20) (N, .inl (fun _ => 0)))
  rw [e1, hcA]
  rfl
end QQI
theorem cX11q : qOK 10 RX11 TX11 17 tyX11 := ⟨ckX11.1.1, ckX11.2.1, ckX11.2.2.1, ckX11.2.2.2.1⟩
abbrev ofF0 : List Value := [.null, .null, .null, .null, .null, .int 0, .int 0, .int 0, .int 0, .int 0, .int 0, .int 0, .int 0, .int 0, .int 0, .int 0, .int 0]
abbrev ofF (px bs r1 r2 r3 : Nat) : List Value := [.ref px, .ref bs, .ref r1, .ref r2, .ref r3, .int 0, .int 0, .int 0, .int (-1), .int 0, .int 0, .int 0, .int 0, .int 0, .int 0, .int 0, .int 0]
abbrev i12 (G : zG) : va_E := .inl (gA G 20, 12, .inl (fun _ => 0))
def offP (G : zG) (o px bs : Nat) : Option Value → va_W → Prop := fun v w => v = none ∧ ∃ r1 r2 r3 : Nat, w = [(r3, i12 G), (r2, i12 G), (r1, i12 G), (o, .inr (10, ofF px bs r1 r2 r3))]
section J98
variable {G : zG} {l : Launch} {px bs o : Nat}
theorem e_office (hfr : qFr G) : QC G l (yX11_init, cX11_init, 3, none) 2 (3, 36) [.ref o, .ref px, .ref bs] [(o, .inr (10, ofF0))] (offP G o px bs) := by
  refine qc_of (by decide) rfl [(0, .ref o), (1, .ref px), (2, .ref bs)] rfl (fun K hG hl hK => ?_)
  subst hG; subst hl
  obtain ⟨hb, ho, hnl, hR, hE⟩ := hK
  refine qq_aload_n hb (z_dec dX11_init 0 rfl) rfl 0 rfl ?_
  refine qq_obj hb ho hR rfl rfl (rX11_init 0 rfl) (z_dec dX11_init 1 rfl) ?_
  refine qq_aload_n hb (z_dec dX11_init 2 rfl) rfl 0 rfl ?_
  refine qq_bipush (v := 12) hb (z_dec dX11_init 3 rfl) (by decide) ?_
  refine qq_newi (N := 12) hb (by decide) (by decide) (by decide) (by rw [hR]; exact ⟨by show _ ≤ 3; simp, by show _ ≤ 36; simp⟩) hfr (z_dec dX11_init 4 rfl) (fun r1 => ?_)
  refine qq_putF (ty := tyX11) (fs := [.null, .null, .null, .null, .null, .int 0, .int 0, .int 0, .int 0, .int 0, .int 0, .int 0, .int 0, .int 0, .int 0, .int 0, .int 0]) hb ho hE cX11q 1 rfl 2 rfl (rX11_init 1 rfl) rfl rfl rfl rfl rfl (show 2 < 17 by decide) (z_dec dX11_init 5 rfl) rfl ?_
  refine qq_aload_n hb (z_dec dX11_init 6 rfl) rfl 0 rfl ?_
  refine qq_bipush (v := 12) hb (z_dec dX11_init 7 rfl) (by decide) ?_
  refine qq_newi (N := 12) hb (by decide) (by decide) (by decide) (by rw [hR]; exact ⟨by show _ ≤ 3; simp, by show _ ≤ 36; simp⟩) hfr (z_dec dX11_init 8 rfl) (fun r2 => ?_)
  refine qq_putF (ty := tyX11) (fs := [.null, .null, .ref r1, .null, .null, .int 0, .int 0, .int 0, .int 0, .int 0, .int 0, .int 0, .int 0, .int 0, .int 0, .int 0, .int 0]) hb ho hE cX11q 2 rfl 3 rfl (rX11_init 2 rfl) rfl rfl rfl rfl rfl (show 3 < 17 by decide) (z_dec dX11_init 9 rfl) rfl ?_
  refine qq_aload_n hb (z_dec dX11_init 10 rfl) rfl 0 rfl ?_
  refine qq_bipush (v := 12) hb (z_dec dX11_init 11 rfl) (by decide) ?_
  refine qq_newi (N := 12) hb (by decide) (by decide) (by decide) (by rw [hR]; exact ⟨by show _ ≤ 3; simp, by show _ ≤ 36; simp⟩) hfr (z_dec dX11_init 12 rfl) (fun r3 => ?_)
  refine qq_putF (ty := tyX11) (fs := [.null, .null, .ref r1, .ref r2, .null, .int 0, .int 0, .int 0, .int 0, .int 0, .int 0, .int 0, .int 0, .int 0, .int 0, .int 0, .int 0]) hb ho hE cX11q 3 rfl 4 rfl (rX11_init 3 rfl) rfl rfl rfl rfl rfl (show 4 < 17 by decide) (z_dec dX11_init 13 rfl) rfl ?_
  refine qq_aload_n hb (z_dec dX11_init 14 rfl) rfl 0 rfl ?_
  refine qq_iconst (v := -1) hb (z_dec dX11_init 15 rfl) (by decide) ?_
  refine qq_put (ty := tyX11) (fs := [.null, .null, .ref r1, .ref r2, .ref r3, .int 0, .int 0, .int 0, .int 0, .int 0, .int 0, .int 0, .int 0, .int 0, .int 0, .int 0, .int 0]) hb ho cX11q 3 rfl 8 rfl (rX11_init 4 rfl) rfl rfl rfl rfl (show 8 < 17 by decide) (z_dec dX11_init 16 rfl) rfl ?_
  refine qq_aload_n hb (z_dec dX11_init 17 rfl) rfl 0 rfl ?_
  refine qq_aload_n hb (z_dec dX11_init 18 rfl) rfl 1 rfl ?_
  refine qq_putF (ty := tyX11) (fs := [.null, .null, .ref r1, .ref r2, .ref r3, .int 0, .int 0, .int 0, .int (-1), .int 0, .int 0, .int 0, .int 0, .int 0, .int 0, .int 0, .int 0]) hb ho hE cX11q 3 rfl 0 rfl (rX11_init 5 rfl) rfl rfl rfl rfl rfl (show 0 < 17 by decide) (z_dec dX11_init 19 rfl) rfl ?_
  refine qq_aload_n hb (z_dec dX11_init 20 rfl) rfl 0 rfl ?_
  refine qq_aload_n hb (z_dec dX11_init 21 rfl) rfl 2 rfl ?_
  refine qq_putF (ty := tyX11) (fs := [.ref px, .null, .ref r1, .ref r2, .ref r3, .int 0, .int 0, .int 0, .int (-1), .int 0, .int 0, .int 0, .int 0, .int 0, .int 0, .int 0, .int 0]) hb ho hE cX11q 3 rfl 1 rfl (rX11_init 6 rfl) rfl rfl rfl rfl rfl (show 1 < 17 by decide) (z_dec dX11_init 22 rfl) rfl ?_
  exact qq_vret hb hE ⟨by simp, by simp⟩ (z_dec dX11_init 23 rfl) ⟨rfl, r1, r2, r3, rfl⟩
end J98
