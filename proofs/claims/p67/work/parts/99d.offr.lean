/-! THE LAW FROM ITS ENTRY TO ITS LOOP: its office -/
section RRO
variable {K : zK} {u : Nat × Nat} {pc : Nat} {L : List (Nat × Value)} {S : List Value} {I : Heap → Prop} {b Lz : Nat} {xs : Nat → Int32} {Z : lZ} {index : Nat} {cc : ByteArray} {own : String}
theorem rr_new {C : String} {T : u_T} {N ci lo : Nat} {ty : Nat → FieldType} (hb : kcc K = cc) (ho : kown K = own) (hc : qOK ci C T N ty) (hcl : Cond.classLink own index C ∈ TG) (hinst : Cond.instantiable C N ∈ TG) (hini : Cond.initialized C ∈ TG) {fs : List Value} (hfs : ∀ j, j < N → fs.getD j .null = defaultValue (ty j)) (hR : u.1 + 1 ≤ (kR K).cells ∧ u.2 + N ≤ (kR K).slots) (hI : kept I) (hlo : ∀ H, I H → lo ≤ H.size) (hdg : decode cc pc = .ok (.new index, 3)) (kk : ∀ h : Nat, lo ≤ h → gb (kG K) ≤ h → RR K (u.1 + 1, u.2 + N) (pc + 3) L (.ref h :: S) (fun H => I H ∧ va_P (gD (kG K)) vwCl [(h, .inr (ci, fs))] H)) : RR K u pc L S I := by
  intro p e s m args below meth c0 Q H locs ls B hq hP hl hS
  have B0 := B
  obtain ⟨b1, b2, b3, hts, hown, b6, hK, hO1, hb0, hG, hw, hst⟩ := B
  rw [ho] at hown
  have hKn := hK.1 ci _ hc.1
  refine W.newcK b1 (b2.trans hb) hown (hts _ hcl) (hts _ hinst) (hts _ hini) rfl hdg hR.1 hR.2 hKn.2.1 rfl fun H1 kC hkC e1 z1 o1 => ?_
  refine kk H.size (hlo H hP) (Nat.le_trans hb0 hS.1) p e s m args below meth c0 Q H1 locs ls B0 hq ⟨hI H H1 hP (by rw [z1]; omega) o1, va_Pc1 ?_ (fun k x hk => by cases hk)⟩ hl ⟨Nat.le_trans hS.1 (by rw [z1]; omega), fun x g1 g2 => (o1 x (Nat.lt_of_lt_of_le g1 hS.1)).trans (hS.2.1 x g1 g2), hS.2.2⟩
  refine ⟨_, hc.1, (u_born ty hts hc.2.1 hKn hkC e1 hc.2.2.1).to (fun j hj => ?_)⟩
  show defaultValue (ty j) = fs.getD j .null
  exact (hfs j hj).symm
theorem rr_office {o px bs : Nat} (hK : zKl K b Lz xs Z) (hfr : qFr (kG K)) (ho9 : gb (kG K) ≤ o) (hI : ∀ H H' : Heap, I H → H.size ≤ H'.size → (∀ q : Nat, q < o → H'[q]? = H[q]?) → I H') (hu : u.1 + 3 ≤ 600086 ∧ u.2 + 36 ≤ 7301442)
    (hlink : Cond.methodLink RL index yX11_init ∈ TG) (hins : Cond.instanceMethod yX11_init ∈ TG) (h8 : Nat.ble (S.map fun v => v.category).sum 8 = true) (hdg : decode cL_law pc = .ok (.invokespecial index, 3))
    (kv : ∀ r1 r2 r3 : Nat, o < r1 ∧ o < r2 ∧ o < r3 ∧ r1 ≠ r2 ∧ r1 ≠ r3 ∧ r2 ≠ r3 → RR K (u.1 + 3, u.2 + 36) (pc + 3) L S (fun H => I H ∧ va_P (gD (kG K)) vwCl [(r3, i12 (kG K)), (r2, i12 (kG K)), (r1, i12 (kG K)), (o, .inr (10, ofF px bs r1 r2 r3))] H)) : RR K u pc L (.ref bs :: .ref px :: .ref o :: S) (fun H => I H ∧ va_P (gD (kG K)) vwCl [(o, .inr (10, ofF0))] H) := by
  intro p e s m args below meth c0 Q H locs ls B hq hP hl hS
  have B0 := B
  obtain ⟨hb, ho, hnl, hR, hE⟩ := hK
  obtain ⟨b1, b2, b3, hts, hown, b6, hKK, hO1, hbs, hG, hw, hst9⟩ := B
  rw [ho] at hown
  have hq0 := hq
  rw [hE] at hq0
  obtain ⟨hPI, hPo⟩ := hP
  have ol : o < H.size := (hPo 0 _ rfl).lt
  have hF : ∀ q, gF (gV (kG K) o) q → gF (kG K) q := fun q h => hfr q (Nat.le_trans ho9 (gV_F.mp h))
  have hM := e_office (G := gV (kG K) o) (l := kl K) (px := px) (bs := bs) (o := o) gV_fr
  have hpre : PreS s H (va_Pc [.ref o, .ref px, .ref bs] (fun U => qWl (gV (kG K) o) [(o, .inr (10, ofF0))] U ∧ (kl K).stackTraces = false)) (.ref o :: [.ref px, .ref bs]) := ⟨qWl_blind, fun U hU hW => ⟨rfl, ⟨by rw [hU]; exact hPo, ⟨fun i j p q hi hj _ => ?_, fun k q h => ?_⟩, va_K.moved hW.alike hKK, zOld_mono (fun r hr => gV_old hr) hF rfl rfl (zOld_warm hW (by rw [hU]; exact hS.2.1) hO1), by rw [hU]; exact Nat.le_of_lt ol, gV_ok, va_Nw.warmC hW hq0.1.2⟩, hst9⟩⟩
  · have hr := vx_runI (p := p) (l := kl K) (e := e) (R := kR K) (s := s) (m := m) (args := args) (below := below) (meth := meth) (c := c0) (H := H) (locs := locs) (cells := u.1) (slots := u.2) (As := [.ref px, .ref bs]) (n := 2) (g := F0 m pc ls (.ref bs :: .ref px :: .ref o :: S)) (rest := S) ⟨b1, b2.trans hb, b3, hown, hts⟩ hM (cwI 2 hts (zWS_good mkX11_init) rfl rfl rfl (hts _ mkX11_init.1.2) (hts _ hlink) (hts _ hins) rfl mkX11_init.2.1 (by rw [hR]; exact zlroom (d := 2) rfl mkX11_init.2.2)) hpre rfl rfl (hl.1.trans rfl) rfl (lv_room (Nat.le_of_ble_eq_true h8)) hdg (by rw [hR]; exact hu)
    refine rr_run B0 hq hl hS hF (fun E st t hx => hx) hr (J := fun v H' => v = none ∧ I H' ∧ ∃ r1 r2 r3 : Nat, (o < r1 ∧ o < r2 ∧ o < r3 ∧ r1 ≠ r2 ∧ r1 ≠ r3 ∧ r2 ≠ r3) ∧ va_P (gD (kG K)) vwCl [(r3, i12 (kG K)), (r2, i12 (kG K)), (r1, i12 (kG K)), (o, .inr (10, ofF px bs r1 r2 r3))] H') (fun st v t h0 h => ?_) (fun v => ?_)
    · obtain ⟨v', w, hv, ⟨hv2, r1, r2, r3, rfl⟩, hPw, hDw, hF2⟩ := h
      rw [hv2] at hv
      refine ⟨⟨by injection hv, ?_, r1, r2, r3, ?_, hPw⟩, hF2⟩
      · obtain ⟨f1, f2⟩ := hF2
        rw [h0] at f1 f2
        exact hI H t.heap hPI f1 (fun q hq => f2 q (Nat.lt_trans hq ol) (fun z => absurd (gV_F.mp z) (by omega)))
      · have g3 : o ≤ r3 := gV_F.mp (hDw.2 0 _ rfl)
        have g2 : o ≤ r2 := gV_F.mp (hDw.2 1 _ rfl)
        have g1 : o ≤ r1 := gV_F.mp (hDw.2 2 _ rfl)
        have n3 : r3 ≠ o := fun q => absurd (hDw.1 0 3 _ _ rfl rfl q) (by decide)
        have n2 : r2 ≠ o := fun q => absurd (hDw.1 1 3 _ _ rfl rfl q) (by decide)
        have n1 : r1 ≠ o := fun q => absurd (hDw.1 2 3 _ _ rfl rfl q) (by decide)
        have n12 : r1 ≠ r2 := fun q => absurd (hDw.1 2 1 _ _ rfl rfl q) (by decide)
        have n13 : r1 ≠ r3 := fun q => absurd (hDw.1 2 0 _ _ rfl rfl q) (by decide)
        have n23 : r2 ≠ r3 := fun q => absurd (hDw.1 1 0 _ _ rfl rfl q) (by decide)
        omega
    · intro p e s m args below meth c Q H locs ls B hq hP hl hS
      obtain ⟨rfl, hPI, r1, r2, r3, hd, hP⟩ := hP
      exact kv r1 r2 r3 hd p e s m args below meth c Q H locs ls B hq ⟨hPI, hP⟩ hl hS
  · have a1 : i < 1 := (List.getElem?_eq_some_iff.mp hi).1
    have a2 : j < 1 := (List.getElem?_eq_some_iff.mp hj).1
    omega
  · have a1 : k < 1 := (List.getElem?_eq_some_iff.mp h).1
    obtain rfl : k = 0 := by omega
    cases h
    exact gV_F.mpr (Nat.le_refl _)
end RRO
