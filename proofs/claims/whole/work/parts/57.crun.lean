/-! THE OFFICE: scripts are run -/
/-- the class's rows as the reference lays them -/
def cvt (D : zM) : Nat → Int32 := fun i =>
  if i % 6 = 0 then D (27 + 2 * (i / 6)) 0
  else if D (27 + 2 * (i / 6)) 0 = 0 then (if i % 6 = 1 then D (27 + 2 * (i / 6)) 1 else D (28 + 2 * (i / 6)) (i % 6 - 2))
  else D (28 + 2 * (i / 6)) (i % 6 - 1)
theorem cvt0 {D : zM} {j : Nat} : cvt D (j * 6) = D (27 + 2 * j) 0 := by
  unfold cvt
  rw [if_pos (by omega), show j * 6 / 6 = j by omega]
theorem cvtL1 {D : zM} {j : Nat} (h : D (27 + 2 * j) 0 = 0) : cvt D (j * 6 + 1) = D (27 + 2 * j) 1 := by
  unfold cvt
  rw [if_neg (by omega), show (j * 6 + 1) / 6 = j by omega, if_pos h, if_pos (by omega)]
theorem cvtL {D : zM} {j i : Nat} (h : D (27 + 2 * j) 0 = 0) (hi : i < 4) : cvt D (j * 6 + 2 + i) = D (28 + 2 * j) i := by
  unfold cvt
  rw [if_neg (by omega), show (j * 6 + 2 + i) / 6 = j by omega, if_pos h, if_neg (by omega), show (j * 6 + 2 + i) % 6 - 2 = i by omega]
theorem cvtO {D : zM} {j i : Nat} (h : ¬ D (27 + 2 * j) 0 = 0) (hi : i < 4) : cvt D (j * 6 + 1 + i) = D (28 + 2 * j) i := by
  unfold cvt
  rw [if_neg (by omega), show (j * 6 + 1 + i) / 6 = j by omega, if_neg h, show (j * 6 + 1 + i) % 6 - 1 = i by omega]
theorem cvt_cg {D E : zM} (h : ∀ q, 27 ≤ q → q < 87 → E q = D q) {i : Nat} (hi : i < 180) : cvt E i = cvt D i := by
  unfold cvt
  rw [h (27 + 2 * (i / 6)) (by omega) (by omega), h (28 + 2 * (i / 6)) (by omega) (by omega)]
section VSP
variable {I : zM} {s : Nat} {B : zBk} {c : Int32}
theorem vB_sp {k : Nat} (hk : k < 160) : vB (sput I s B c) s k = B k := by
  unfold vB
  by_cases h0 : k = 0
  · rw [if_pos h0, sp5, h0]
  rw [if_neg h0]
  by_cases h1 : k ≤ 6
  · rw [if_pos h1, spS (by omega)]; exact congrArg B (by omega)
  rw [if_neg h1]
  by_cases h2 : k = 7
  · rw [if_pos h2, spC, h2]
  rw [if_neg h2]
  by_cases h3 : k = 8
  · rw [if_pos h3, sp3, h3]
  rw [if_neg h3]
  by_cases h4 : k = 9
  · rw [if_pos h4, sp4, h4]
  rw [if_neg h4]
  by_cases h5 : k = 10
  · rw [if_pos h5, sp6, h5]
  rw [if_neg h5]
  by_cases h6 : k ≤ 21
  · rw [if_pos h6]
    unfold sput
    rw [if_pos rfl, if_neg (by omega), if_neg (by omega), if_neg (by omega), if_neg (by omega), if_neg (by omega), if_pos (by omega)]
    exact congrArg B (by omega)
  rw [if_neg h6]
  by_cases h7 : k < 64
  · rw [if_pos h7]
    by_cases h8 : (k - 22) % 7 = 0
    · rw [if_pos h8, spW (by omega)]; exact congrArg B (by omega)
    · rw [if_neg h8, spN (by omega) (by omega)]; exact congrArg B (by omega)
  · rw [if_neg h7, spL (by omega) (by omega)]
    unfold s_of; exact congrArg B (by omega)
theorem vB_eq {n : Nat} (hn : n ≤ 12) : s_eq n B (vB (sput I s B c) s) := ⟨fun k hk => vB_sp (by omega), fun l hl f hf => vB_sp (by omega)⟩
end VSP
section CUR
variable {B : zBk} {n c t : Nat}
theorem cur_add {x1 x2 x3 x4 x5 : Int32} (hf : s_wf B n c t) : s_cur (s_add B n x1 x2 x3 x4 x5) = s_cur B := by
  have e11 : s_add B n x1 x2 x3 x4 x5 11 = B 11 := add_lo (by omega) (by omega)
  unfold s_cur
  rw [e11]
  rcases hf.2.2.2.2.2.1 with h | ⟨l, hl, h, -⟩
  · rw [if_pos h, if_pos h]
  · have hn := hf.2.1
    rw [h, nI_clamp (by omega)]
    unfold s_done
    rw [add_of (by omega) (by omega)]
theorem cur_set {l f : Nat} {x : Int32} (hf : f < 5) : s_cur (s_set B l f x) = s_cur B := by
  unfold s_cur
  rw [set_lo (by omega), done_set (by omega) (Or.inr (by omega))]
theorem cur_drop {l : Nat} (hf : s_wf B n c t) (hl : l < n) : s_cur (s_drop B l) = if s_cur B = nI l then -1 else s_cur B := by
  have hn := hf.2.1
  have e11 : s_drop B l 11 = B 11 := by unfold s_drop; rw [set_lo (by omega), set_lo (by omega)]
  have ed : ∀ j, s_done (s_drop B l) j = if j = l then true else s_done B j := fun j => by
    unfold s_drop
    rw [done_set (by omega) (Or.inr (by omega))]
    unfold s_done
    rw [of_set (by omega) (by omega)]
    by_cases e : j = l
    · rw [if_pos ⟨e, rfl⟩, if_pos e]; rfl
    · rw [if_neg (fun z => e z.1), if_neg e]
  unfold s_cur
  rw [e11, ed]
  rcases hf.2.2.2.2.2.1 with h | ⟨l', hl', h, -⟩
  · rw [if_pos h, if_pos h]; split <;> rfl
  · have hne : ¬ B 11 = -1 := by rw [h]; exact nI_ne_m1 (by omega)
    rw [if_neg hne, if_neg hne, h, nI_clamp (by omega)]
    by_cases e : l' = l
    · rw [if_pos e, if_pos rfl]
      by_cases d : s_done B l' = true
      · rw [if_pos d]; split <;> rfl
      · rw [if_neg d, if_pos (by rw [e])]
    · rw [if_neg e]
      by_cases d : s_done B l' = true
      · rw [if_pos d]; split <;> rfl
      · rw [if_neg d, if_neg (fun z => e ((nI_eq (a := l') (b := l) (by omega) (by omega)).mp z))]
theorem pos_set {l f : Nat} {x : Int32} (hp : s_pos B) : s_pos (s_set B l f x) := by
  unfold s_pos
  rw [set_lo (by omega), set_lo (by omega), set_lo (by omega), set_lo (by omega)]; exact hp
theorem pos_add {x1 x2 x3 x4 x5 : Int32} (hp : s_pos B) : s_pos (s_add B n x1 x2 x3 x4 x5) := by
  unfold s_pos
  rw [add_lo (by omega) (by omega), add_lo (by omega) (by omega), add_lo (by omega) (by omega), add_lo (by omega) (by omega)]; exact hp
theorem pos_doit {C : Nat → Int32} {j : Nat} (hp : s_pos B) : s_pos (s_doit B C j) := by
  unfold s_doit
  split
  · exact pos_add hp
  · split
    · exact pos_mins hp _ _
    · split
      · exact pos_upd hp (fun z => by omega)
      · split
        · exact pos_set hp
        · split
          · exact pos_set hp
          · unfold s_drop; exact pos_set (pos_set hp)
end CUR
theorem fz {G : zG} {f : Nat} (hf : f = 1000 ∨ f = 1001 ∨ f = 1002 ∨ f = 1003) : f = 1003 ∨ ∀ s : State, zOld G s → gad G f ≠ gad G 1003 := by
  rcases hf with rfl | rfl | rfl | rfl
  · exact Or.inr (fun s h => h.2.1.2.2.2.2.2.2.1)
  · exact Or.inr (fun s h => h.2.1.2.2.2.2.2.2.2.2.1)
  · exact Or.inr (fun s h => h.2.1.2.2.2.2.2.2.2.2.2)
  · exact Or.inl rfl
theorem in4 {f : Nat} (h : f ≠ 1003 → f = 1000 ∨ f = 1001 ∨ f = 1002) : f = 1000 ∨ f = 1001 ∨ f = 1002 ∨ f = 1003 := by
  by_cases e : f = 1003
  · omega
  · have := h e; omega
section EXE
variable {G : zG} {w : Nat × Nat} {gl : Launch} {I M : zM} {B : zBk} {n c t j : Nat}
theorem c_execute (hx : isT w 10 0) (hf : s_wf B n c t) (hp : s_pos B) (ht : t ≤ 2000) (hj : j < 30) (hr : rw_ok (cvt M) c j) : CT G w gl (yX10_execute, cX10_execute, 6, some .boolean) 5 (0, 0) [.ref 0, .ref (27 + 2 * j)] (sput M 288 B (s_cur B)) (qE (b2 (s_can B (cvt M) j)) (if s_can B (cvt M) j = true then sput M 288 (s_doit B (cvt M) j) (s_cur (s_doit B (cvt M) j)) else sput M 288 B (s_cur B))) nX := by
  refine ct_of (by decide) [(0, .ref 0), (1, .ref (27 + 2 * j))] rfl rfl (fun K hG hw hgl hwo hK => ?_)
  subst hG; subst hw; subst hgl
  obtain ⟨l1, l2, l3, l4, l5⟩ := zLR26 j hj
  have hs := hx.st hwo
  have hn := hf.2.1
  have hc6 := hf.2.2.2.2.1
  have hsc : isT (kw K) 7 25 := hx.f (k := 3) (d := 7) hwo rfl rfl rfl (by decide)
  have ha26 : isT (kw K) 33 26 := hsc.f (k := 0) (d := 33) hwo rfl rfl rfl (by decide)
  have tc : isT (kw K) 2 (27 + 2 * j) := by
    have h := ha26.a (i := nI j) (d := 2) hwo (show vp_in (nI j) 30 from vp_in_nI hj (by omega)) rfl (fun _ => rfl) (by decide)
    rw [nI_clamp (by omega), l1] at h; exact h
  have se : s_eq n B (vB (sput M 288 B (s_cur B)) 288) := vB_eq hn
  have v7 : vB (sput M 288 B (s_cur B)) 288 7 = B 7 := vB_sp (by omega)
  have v8 : vB (sput M 288 B (s_cur B)) 288 8 = B 8 := vB_sp (by omega)
  have v9 : vB (sput M 288 B (s_cur B)) 288 9 = B 9 := vB_sp (by omega)
  have c8 : (B 8).toNatClampNeg = n := wf_8 hf
  obtain ⟨cmd, hcmd, e0, hl, ho, h34⟩ := hr
  rw [cvt0] at e0
  have em : ∀ q x, 27 ≤ q → q < 87 → sput M 288 B (s_cur B) q x = M q x := fun q x a b => so (by omega)
  have ek : sput M 288 B (s_cur B) (27 + 2 * j) 0 = nI cmd := by rw [em _ _ (by omega) (by omega)]; exact e0
  have eti : (sput M 288 B (s_cur B) (27 + 2 * j) 0).toInt = cmd := by rw [ek]; exact nI_toInt (by omega)
  have ne : ∀ k : Nat, k ≠ cmd → ¬ (sput M 288 B (s_cur B) (27 + 2 * j) 0).toInt = (k : Int) := fun k h z => by rw [eti] at z; omega
  have ned : ¬ ((sput M 288 B (s_cur B) (27 + 2 * j) 0).toInt < 0 ∨ 5 < (sput M 288 B (s_cur B) (27 + 2 * j) 0).toInt) := by rw [eti]; omega
  have ci : ∀ (a b : Nat), a ≤ 5 → b ≤ 5 → (nI a = nI b ↔ a = b) := fun a b ha hb => nI_eq (by omega) (by omega)
  have cC : cvt M (j * 6) = nI cmd := by rw [cvt0]; exact e0
  rcases (show cmd = 0 ∨ cmd = 1 ∨ cmd = 2 ∨ cmd = 3 ∨ cmd = 4 ∨ cmd = 5 by omega) with rfl | rfl | rfl | rfl | rfl | rfl
  · have cC : cvt M (j * 6) = 0 := cC
    have z0 : M (27 + 2 * j) 0 = 0 := e0
    have q1 : sput M 288 B (s_cur B) (27 + 2 * j) 1 = cvt M (j * 6 + 1) := by rw [em _ _ (by omega) (by omega), cvtL1 z0]
    have b0 : sput M 288 B (s_cur B) (28 + 2 * j) 0 = cvt M (j * 6 + 2) := by rw [em _ _ (by omega) (by omega)]; exact (cvtL z0 (i := 0) (by omega)).symm
    have b1 : sput M 288 B (s_cur B) (28 + 2 * j) 1 = cvt M (j * 6 + 3) := by rw [em _ _ (by omega) (by omega)]; exact (cvtL z0 (i := 1) (by omega)).symm
    have b2 : sput M 288 B (s_cur B) (28 + 2 * j) 2 = cvt M (j * 6 + 4) := by rw [em _ _ (by omega) (by omega)]; exact (cvtL z0 (i := 2) (by omega)).symm
    have b3 : sput M 288 B (s_cur B) (28 + 2 * j) 3 = cvt M (j * 6 + 5) := by rw [em _ _ (by omega) (by omega)]; exact (cvtL z0 (i := 3) (by omega)).symm
    obtain ⟨⟨a, ha, ea⟩, -⟩ := hl rfl
    have hhas : s_has (cvt M (j * 6 + 1)) (B 7) = true := by
      rw [ea, hf.2.2.1]; unfold s_has
      rw [Bool.and_eq_true]
      exact ⟨decide_eq_true (Int32.not_lt.mp (nI_pos (by omega))), decide_eq_true ((nI_ltI (by omega) (by omega)).mpr ha)⟩
    have fa := c_addFault (G := kG K) (w := kw K) (gl := kl K) (I := sput M 288 B (s_cur B)) hx (v7.trans hf.2.2.1) (x1 := cvt M (j * 6 + 1)) (x2 := cvt M (j * 6 + 2)) (x3 := cvt M (j * 6 + 3)) (x4 := cvt M (j * 6 + 4)) (x5 := cvt M (j * 6 + 5))
    have hin := in4 (ff_add_in (B := vB (sput M 288 B (s_cur B)) 288) (x1 := cvt M (j * 6 + 1)) (x2 := cvt M (j * 6 + 2)) (x3 := cvt M (j * 6 + 3)) (x4 := cvt M (j * 6 + 4)) (x5 := cvt M (j * 6 + 5)))
    have hcan : ff_add (vB (sput M 288 B (s_cur B)) 288) (cvt M (j * 6 + 1)) (cvt M (j * 6 + 2)) (cvt M (j * 6 + 3)) (cvt M (j * 6 + 4)) (cvt M (j * 6 + 5)) = 1003 ↔ s_can B (cvt M) j = true := by
      unfold ff_add s_can
      rw [if_pos cC, v7, if_pos hhas]
      unfold s_canAdd
      rw [v8, v9]
      cases s_data (cvt M (j * 6 + 2)) (cvt M (j * 6 + 3)) (cvt M (j * 6 + 4)) (cvt M (j * 6 + 5)) <;> cases (decide (B 8 < 12) && decide (B 9 + cvt M (j * 6 + 3) ≤ 2000)) <;> simp
    have hdo : s_doit B (cvt M) j = s_add B n (cvt M (j * 6 + 1)) (cvt M (j * 6 + 2)) (B 9 + cvt M (j * 6 + 3)) (cvt M (j * 6 + 4)) (cvt M (j * 6 + 5)) := by
      unfold s_doit; rw [if_pos cC, c8]
    generalize ff_add (vB (sput M 288 B (s_cur B)) 288) (cvt M (j * 6 + 1)) (cvt M (j * 6 + 2)) (cvt M (j * 6 + 3)) (cvt M (j * 6 + 4)) (cvt M (j * 6 + 5)) = f at fa hin hcan
    refine bX10_execute_0 (f6 := nI n) (g6 := sput M 288 (s_add B n (cvt M (j * 6 + 1)) (cvt M (j * 6 + 2)) (B 9 + cvt M (j * 6 + 3)) (cvt M (j * 6 + 4)) (cvt M (j * 6 + 5))) (s_cur B)) (f9 := 0) (g9 := M) (f12 := 0) (g12 := M) (f15 := 0) (g15 := M) (f20 := 0) (g20 := M) (f26 := 0) (g26 := M) (f32 := 0) (g32 := M) (f35 := 0) (g35 := M) hK hwo hx tc (fun z => absurd z ned) (fun _ => by rw [l3, q1, b0, b1, b2, b3]; exact fa) (fun _ => fz hin) (fun _ z => ?_) (fun _ z => ?_) (fun _ z => ?_) (fun z => absurd z (ne 1 (by decide))) (fun z => absurd z (ne 1 (by decide))) (fun z => absurd z (ne 1 (by decide))) (fun z => absurd z (ne 1 (by decide))) (fun z => absurd z (ne 1 (by decide))) (fun z => absurd z (ne 2 (by decide))) (fun z => absurd z (ne 2 (by decide))) (fun z => absurd z (ne 2 (by decide))) (fun z => absurd z (ne 2 (by decide))) (fun z => absurd z (ne 3 (by decide))) (fun z => absurd z (ne 3 (by decide))) (fun z => absurd z (ne 3 (by decide))) (fun z => absurd z (ne 3 (by decide))) (fun z => absurd z (ne 3 (by decide))) (fun z => absurd z (ne 4 (by decide))) (fun z => absurd z (ne 4 (by decide))) (fun z => absurd z (ne 4 (by decide))) (fun z => absurd z (ne 4 (by decide))) (fun z => absurd z (ne 4 (by decide))) (fun z => absurd z (ne 5 (by decide))) (fun z => absurd z (ne 5 (by decide))) (fun z => absurd z (ne 5 (by decide))) (fun z => absurd z (ne 5 (by decide))) (fun z => absurd z (ne 5 (by decide)))
    · have hs1 := hcan.mp z
      have hlt : n < 12 := by
        unfold s_can at hs1
        rw [if_pos cC, Bool.and_eq_true] at hs1
        have h2 := hs1.2
        unfold s_canAdd at h2
        rw [Bool.and_eq_true, hf.1] at h2
        exact (nI_ltI (a := n) (b := 12) (by omega) (by omega)).mp (of_decide_eq_true h2.1)
      rw [l3, q1, b0, b1, b2, b3, sp4]
      exact k_putLetter hs hf.1 hlt
    · have hs1 := hcan.mp z
      refine qE_i (by rw [hs1]; rfl) ?_
      rw [if_pos hs1, hdo, cur_add hf]
    · have hs1 : ¬ s_can B (cvt M) j = true := fun h => z (hcan.mpr h)
      refine qE_i (by rw [show s_can B (cvt M) j = false by simpa using hs1]; rfl) ?_
      rw [if_neg hs1]
  · have cC : cvt M (j * 6) = 1 := cC
    have z0 : ¬ M (27 + 2 * j) 0 = 0 := by rw [e0]; exact fun z => absurd ((ci 1 0 (by omega) (by omega)).mp z) (by omega)
    have b0 : sput M 288 B (s_cur B) (28 + 2 * j) 0 = cvt M (j * 6 + 1) := by rw [em _ _ (by omega) (by omega)]; exact (cvtO z0 (i := 0) (by omega)).symm
    have n0 : ¬ cvt M (j * 6) = 0 := by rw [cC]; exact fun z => absurd ((ci 1 0 (by omega) (by omega)).mp z) (by omega)
    have fa := c_passFault (G := kG K) (w := kw K) (gl := kl K) (I := sput M 288 B (s_cur B)) hx (x := cvt M (j * 6 + 1))
    have hin := in4 (ff_pass_in (B := vB (sput M 288 B (s_cur B)) 288) (x := cvt M (j * 6 + 1)))
    have hcan : ff_pass (vB (sput M 288 B (s_cur B)) 288) (cvt M (j * 6 + 1)) = 1003 ↔ s_can B (cvt M) j = true := by
      unfold ff_pass s_can
      rw [if_neg n0, if_pos cC, v9]
      cases s_in (cvt M (j * 6 + 1)) 1 300 <;> by_cases h9 : B 9 + cvt M (j * 6 + 1) ≤ 2000 <;> simp [h9]
    have hdo : s_doit B (cvt M) j = s_mins B n (cvt M (j * 6 + 1)).toNatClampNeg := by
      unfold s_doit; rw [if_neg n0, if_pos cC, c8]
    obtain ⟨v, hv, ev⟩ := ho (by omega)
    generalize ff_pass (vB (sput M 288 B (s_cur B)) 288) (cvt M (j * 6 + 1)) = f at fa hin hcan
    refine bX10_execute_0 (f12 := nI (s_cnt (s_done (s_mins B n v)) n) - nI (s_cnt (s_done B) n)) (g12 := sput M 288 (s_mins B n v) (s_cur (s_mins B n v))) (f3 := 0) (g3 := M) (f6 := 0) (g6 := M) (f15 := 0) (g15 := M) (f20 := 0) (g20 := M) (f26 := 0) (g26 := M) (f32 := 0) (g32 := M) (f35 := 0) (g35 := M) hK hwo hx tc (fun z => absurd z ned) (fun z => absurd z (ne 0 (by decide))) (fun z => absurd z (ne 0 (by decide))) (fun z => absurd z (ne 0 (by decide))) (fun z => absurd z (ne 0 (by decide))) (fun z => absurd z (ne 0 (by decide))) (fun _ => by rw [l3, b0]; exact fa) (fun _ => fz hin) (fun _ z => ?_) (fun _ z => ?_) (fun _ z => ?_) (fun z => absurd z (ne 2 (by decide))) (fun z => absurd z (ne 2 (by decide))) (fun z => absurd z (ne 2 (by decide))) (fun z => absurd z (ne 2 (by decide))) (fun z => absurd z (ne 3 (by decide))) (fun z => absurd z (ne 3 (by decide))) (fun z => absurd z (ne 3 (by decide))) (fun z => absurd z (ne 3 (by decide))) (fun z => absurd z (ne 3 (by decide))) (fun z => absurd z (ne 4 (by decide))) (fun z => absurd z (ne 4 (by decide))) (fun z => absurd z (ne 4 (by decide))) (fun z => absurd z (ne 4 (by decide))) (fun z => absurd z (ne 4 (by decide))) (fun z => absurd z (ne 5 (by decide))) (fun z => absurd z (ne 5 (by decide))) (fun z => absurd z (ne 5 (by decide))) (fun z => absurd z (ne 5 (by decide))) (fun z => absurd z (ne 5 (by decide)))
    · rw [l3, b0, ev]
      exact k_runMinutes hs hf hp (by omega)
    · have hs1 := hcan.mp z
      refine qE_i (by rw [hs1]; rfl) ?_
      rw [if_pos hs1, hdo, ev, nI_clamp (by omega)]
    · have hs1 : ¬ s_can B (cvt M) j = true := fun h => z (hcan.mpr h)
      refine qE_i (by rw [show s_can B (cvt M) j = false by simpa using hs1]; rfl) ?_
      rw [if_neg hs1]
  · have cC : cvt M (j * 6) = 2 := cC
    have z0 : ¬ M (27 + 2 * j) 0 = 0 := by rw [e0]; exact fun z => absurd ((ci 2 0 (by omega) (by omega)).mp z) (by omega)
    have b0 : sput M 288 B (s_cur B) (28 + 2 * j) 0 = cvt M (j * 6 + 1) := by rw [em _ _ (by omega) (by omega)]; exact (cvtO z0 (i := 0) (by omega)).symm
    have n0 : ¬ cvt M (j * 6) = 0 := by rw [cC]; exact fun z => absurd ((ci 2 0 (by omega) (by omega)).mp z) (by omega)
    have n1 : ¬ cvt M (j * 6) = 1 := by rw [cC]; exact fun z => absurd ((ci 2 1 (by omega) (by omega)).mp z) (by omega)
    have fa := c_policyFault (G := kG K) (w := kw K) (gl := kl K) (I := sput M 288 B (s_cur B)) (x := cvt M (j * 6 + 1))
    rw [show (if s_in (cvt M (j * 6 + 1)) 0 4 = true then 1003 else 1001) = ff_pol (cvt M (j * 6 + 1)) from rfl] at fa
    have hin := in4 (ff_pol_in (x := cvt M (j * 6 + 1)))
    obtain ⟨v, hv, ev⟩ := ho (by omega)
    have hcan : ff_pol (cvt M (j * 6 + 1)) = 1003 ↔ s_can B (cvt M) j = true := by
      unfold ff_pol s_can
      rw [if_neg n0, if_neg n1, if_pos cC]
      have h0 : (0 : Int32) ≤ cvt M (j * 6 + 1) := by rw [ev]; exact Int32.not_lt.mp (nI_pos (by omega))
      unfold s_in
      by_cases h4 : cvt M (j * 6 + 1) ≤ 4 <;> simp [h0, h4]
    have hdo : s_doit B (cvt M) j = upd B 0 (cvt M (j * 6 + 1)) := by
      unfold s_doit; rw [if_neg n0, if_neg n1, if_pos cC]
    generalize ff_pol (cvt M (j * 6 + 1)) = f at fa hin hcan
    refine bX10_execute_0 (f3 := 0) (g3 := M) (f6 := 0) (g6 := M) (f9 := 0) (g9 := M) (f12 := 0) (g12 := M) (f20 := 0) (g20 := M) (f26 := 0) (g26 := M) (f32 := 0) (g32 := M) (f35 := 0) (g35 := M) hK hwo hx tc (fun z => absurd z ned) (fun z => absurd z (ne 0 (by decide))) (fun z => absurd z (ne 0 (by decide))) (fun z => absurd z (ne 0 (by decide))) (fun z => absurd z (ne 0 (by decide))) (fun z => absurd z (ne 0 (by decide))) (fun z => absurd z (ne 1 (by decide))) (fun z => absurd z (ne 1 (by decide))) (fun z => absurd z (ne 1 (by decide))) (fun z => absurd z (ne 1 (by decide))) (fun z => absurd z (ne 1 (by decide))) (fun _ => by rw [l3, b0]; exact fa) (fun _ => fz hin) (fun _ z => ?_) (fun _ z => ?_) (fun z => absurd z (ne 3 (by decide))) (fun z => absurd z (ne 3 (by decide))) (fun z => absurd z (ne 3 (by decide))) (fun z => absurd z (ne 3 (by decide))) (fun z => absurd z (ne 3 (by decide))) (fun z => absurd z (ne 4 (by decide))) (fun z => absurd z (ne 4 (by decide))) (fun z => absurd z (ne 4 (by decide))) (fun z => absurd z (ne 4 (by decide))) (fun z => absurd z (ne 4 (by decide))) (fun z => absurd z (ne 5 (by decide))) (fun z => absurd z (ne 5 (by decide))) (fun z => absurd z (ne 5 (by decide))) (fun z => absurd z (ne 5 (by decide))) (fun z => absurd z (ne 5 (by decide)))
    · have hs1 := hcan.mp z
      refine qE_i (by rw [hs1]; rfl) ?_
      rw [if_pos hs1, hdo, l3, b0, su5, cur_upd (by omega) (by omega)]
    · have hs1 : ¬ s_can B (cvt M) j = true := fun h => z (hcan.mpr h)
      refine qE_i (by rw [show s_can B (cvt M) j = false by simpa using hs1]; rfl) ?_
      rw [if_neg hs1]
  · have cC : cvt M (j * 6) = 3 := cC
    have z0 : ¬ M (27 + 2 * j) 0 = 0 := by rw [e0]; exact fun z => absurd ((ci 3 0 (by omega) (by omega)).mp z) (by omega)
    have b0 : sput M 288 B (s_cur B) (28 + 2 * j) 0 = cvt M (j * 6 + 1) := by rw [em _ _ (by omega) (by omega)]; exact (cvtO z0 (i := 0) (by omega)).symm
    have b1 : sput M 288 B (s_cur B) (28 + 2 * j) 1 = cvt M (j * 6 + 2) := by rw [em _ _ (by omega) (by omega)]; exact (cvtO z0 (i := 1) (by omega)).symm
    have n0 : ¬ cvt M (j * 6) = 0 := by rw [cC]; exact fun z => absurd ((ci 3 0 (by omega) (by omega)).mp z) (by omega)
    have n1 : ¬ cvt M (j * 6) = 1 := by rw [cC]; exact fun z => absurd ((ci 3 1 (by omega) (by omega)).mp z) (by omega)
    have n2 : ¬ cvt M (j * 6) = 2 := by rw [cC]; exact fun z => absurd ((ci 3 2 (by omega) (by omega)).mp z) (by omega)
    have fa := c_deadlineFault (G := kG K) (w := kw K) (gl := kl K) (I := sput M 288 B (s_cur B)) hx (x := cvt M (j * 6 + 1)) (y := cvt M (j * 6 + 2))
    have hin := in4 (ff_num_in (B := vB (sput M 288 B (s_cur B)) 288) (x := cvt M (j * 6 + 1)) (y := cvt M (j * 6 + 2)) (lo := 1) (hi := 999))
    have hcan : ff_num (vB (sput M 288 B (s_cur B)) 288) (cvt M (j * 6 + 1)) (cvt M (j * 6 + 2)) 1 999 = 1003 ↔ s_can B (cvt M) j = true := by
      unfold ff_num s_can
      rw [if_neg n0, if_neg n1, if_neg n2, if_pos cC, v8]
      cases s_has (cvt M (j * 6 + 1)) (B 8) <;> cases s_in (cvt M (j * 6 + 2)) 1 999 <;> simp
    have hdo : s_doit B (cvt M) j = s_set B (cvt M (j * 6 + 1)).toNatClampNeg 3 (cvt M (j * 6 + 2)) := by
      unfold s_doit; rw [if_neg n0, if_neg n1, if_neg n2, if_pos cC]
    have hlr : s_can B (cvt M) j = true → vp_in (cvt M (j * 6 + 1)) 12 ∧ ∃ l, l < n ∧ cvt M (j * 6 + 1) = nI l ∧ (cvt M (j * 6 + 1)).toNatClampNeg = l ∧ LR 299 l = 300 + l := fun h => by
      unfold s_can at h
      rw [if_neg n0, if_neg n1, if_neg n2, if_pos cC, Bool.and_eq_true] at h
      exact has_lr (I := sput M 288 B (s_cur B)) hs hwo hn (v8.trans hf.1) (by rw [v8]; exact h.1)
    generalize ff_num (vB (sput M 288 B (s_cur B)) 288) (cvt M (j * 6 + 1)) (cvt M (j * 6 + 2)) 1 999 = f at fa hin hcan
    refine bX10_execute_0 (f3 := 0) (g3 := M) (f6 := 0) (g6 := M) (f9 := 0) (g9 := M) (f12 := 0) (g12 := M) (f15 := 0) (g15 := M) (f26 := 0) (g26 := M) (f32 := 0) (g32 := M) (f35 := 0) (g35 := M) hK hwo hx tc (fun z => absurd z ned) (fun z => absurd z (ne 0 (by decide))) (fun z => absurd z (ne 0 (by decide))) (fun z => absurd z (ne 0 (by decide))) (fun z => absurd z (ne 0 (by decide))) (fun z => absurd z (ne 0 (by decide))) (fun z => absurd z (ne 1 (by decide))) (fun z => absurd z (ne 1 (by decide))) (fun z => absurd z (ne 1 (by decide))) (fun z => absurd z (ne 1 (by decide))) (fun z => absurd z (ne 1 (by decide))) (fun z => absurd z (ne 2 (by decide))) (fun z => absurd z (ne 2 (by decide))) (fun z => absurd z (ne 2 (by decide))) (fun z => absurd z (ne 2 (by decide))) (fun _ => by rw [l3, b0, b1]; exact fa) (fun _ => fz hin) (fun _ z => ?_) (fun _ z => ?_) (fun _ z => ?_) (fun z => absurd z (ne 4 (by decide))) (fun z => absurd z (ne 4 (by decide))) (fun z => absurd z (ne 4 (by decide))) (fun z => absurd z (ne 4 (by decide))) (fun z => absurd z (ne 4 (by decide))) (fun z => absurd z (ne 5 (by decide))) (fun z => absurd z (ne 5 (by decide))) (fun z => absurd z (ne 5 (by decide))) (fun z => absurd z (ne 5 (by decide))) (fun z => absurd z (ne 5 (by decide)))
    · rw [l3, b0]; exact (hlr (hcan.mp z)).1
    · have hs1 := hcan.mp z
      obtain ⟨-, l, hl, -, hc, hr⟩ := hlr hs1
      refine qE_i (by rw [hs1]; rfl) ?_
      rw [if_pos hs1, hdo, l3, b0, b1, hc, hr]
      rw [cur_set (by omega)]
      exact suL (s := 288) (by omega) (by omega)
    · have hs1 : ¬ s_can B (cvt M) j = true := fun h => z (hcan.mpr h)
      refine qE_i (by rw [show s_can B (cvt M) j = false by simpa using hs1]; rfl) ?_
      rw [if_neg hs1]
  · have cC : cvt M (j * 6) = 4 := cC
    have z0 : ¬ M (27 + 2 * j) 0 = 0 := by rw [e0]; exact fun z => absurd ((ci 4 0 (by omega) (by omega)).mp z) (by omega)
    have b0 : sput M 288 B (s_cur B) (28 + 2 * j) 0 = cvt M (j * 6 + 1) := by rw [em _ _ (by omega) (by omega)]; exact (cvtO z0 (i := 0) (by omega)).symm
    have b1 : sput M 288 B (s_cur B) (28 + 2 * j) 1 = cvt M (j * 6 + 2) := by rw [em _ _ (by omega) (by omega)]; exact (cvtO z0 (i := 1) (by omega)).symm
    have n0 : ¬ cvt M (j * 6) = 0 := by rw [cC]; exact fun z => absurd ((ci 4 0 (by omega) (by omega)).mp z) (by omega)
    have n1 : ¬ cvt M (j * 6) = 1 := by rw [cC]; exact fun z => absurd ((ci 4 1 (by omega) (by omega)).mp z) (by omega)
    have n2 : ¬ cvt M (j * 6) = 2 := by rw [cC]; exact fun z => absurd ((ci 4 2 (by omega) (by omega)).mp z) (by omega)
    have n3 : ¬ cvt M (j * 6) = 3 := by rw [cC]; exact fun z => absurd ((ci 4 3 (by omega) (by omega)).mp z) (by omega)
    have fa := c_priorityFault (G := kG K) (w := kw K) (gl := kl K) (I := sput M 288 B (s_cur B)) hx (x := cvt M (j * 6 + 1)) (y := cvt M (j * 6 + 2))
    have hin := in4 (ff_num_in (B := vB (sput M 288 B (s_cur B)) 288) (x := cvt M (j * 6 + 1)) (y := cvt M (j * 6 + 2)) (lo := 0) (hi := 9))
    obtain ⟨v, hv, ev⟩ := h34 (by omega)
    have hcan : ff_num (vB (sput M 288 B (s_cur B)) 288) (cvt M (j * 6 + 1)) (cvt M (j * 6 + 2)) 0 9 = 1003 ↔ s_can B (cvt M) j = true := by
      unfold ff_num s_can
      rw [if_neg n0, if_neg n1, if_neg n2, if_neg n3, if_pos cC, v8]
      have h0 : (0 : Int32) ≤ cvt M (j * 6 + 2) := by rw [ev]; exact Int32.not_lt.mp (nI_pos (by omega))
      unfold s_in
      cases s_has (cvt M (j * 6 + 1)) (B 8) <;> by_cases h4 : cvt M (j * 6 + 2) ≤ 9 <;> simp [h0, h4]
    have hdo : s_doit B (cvt M) j = s_set B (cvt M (j * 6 + 1)).toNatClampNeg 4 (cvt M (j * 6 + 2)) := by
      unfold s_doit; rw [if_neg n0, if_neg n1, if_neg n2, if_neg n3, if_pos cC]
    have hlr : s_can B (cvt M) j = true → vp_in (cvt M (j * 6 + 1)) 12 ∧ ∃ l, l < n ∧ cvt M (j * 6 + 1) = nI l ∧ (cvt M (j * 6 + 1)).toNatClampNeg = l ∧ LR 299 l = 300 + l := fun h => by
      unfold s_can at h
      rw [if_neg n0, if_neg n1, if_neg n2, if_neg n3, if_pos cC, Bool.and_eq_true] at h
      exact has_lr (I := sput M 288 B (s_cur B)) hs hwo hn (v8.trans hf.1) (by rw [v8]; exact h.1)
    generalize ff_num (vB (sput M 288 B (s_cur B)) 288) (cvt M (j * 6 + 1)) (cvt M (j * 6 + 2)) 0 9 = f at fa hin hcan
    refine bX10_execute_0 (f3 := 0) (g3 := M) (f6 := 0) (g6 := M) (f9 := 0) (g9 := M) (f12 := 0) (g12 := M) (f15 := 0) (g15 := M) (f20 := 0) (g20 := M) (f32 := 0) (g32 := M) (f35 := 0) (g35 := M) hK hwo hx tc (fun z => absurd z ned) (fun z => absurd z (ne 0 (by decide))) (fun z => absurd z (ne 0 (by decide))) (fun z => absurd z (ne 0 (by decide))) (fun z => absurd z (ne 0 (by decide))) (fun z => absurd z (ne 0 (by decide))) (fun z => absurd z (ne 1 (by decide))) (fun z => absurd z (ne 1 (by decide))) (fun z => absurd z (ne 1 (by decide))) (fun z => absurd z (ne 1 (by decide))) (fun z => absurd z (ne 1 (by decide))) (fun z => absurd z (ne 2 (by decide))) (fun z => absurd z (ne 2 (by decide))) (fun z => absurd z (ne 2 (by decide))) (fun z => absurd z (ne 2 (by decide))) (fun z => absurd z (ne 3 (by decide))) (fun z => absurd z (ne 3 (by decide))) (fun z => absurd z (ne 3 (by decide))) (fun z => absurd z (ne 3 (by decide))) (fun z => absurd z (ne 3 (by decide))) (fun _ => by rw [l3, b0, b1]; exact fa) (fun _ => fz hin) (fun _ z => ?_) (fun _ z => ?_) (fun _ z => ?_) (fun z => absurd z (ne 5 (by decide))) (fun z => absurd z (ne 5 (by decide))) (fun z => absurd z (ne 5 (by decide))) (fun z => absurd z (ne 5 (by decide))) (fun z => absurd z (ne 5 (by decide)))
    · rw [l3, b0]; exact (hlr (hcan.mp z)).1
    · have hs1 := hcan.mp z
      obtain ⟨-, l, hl, -, hc, hr⟩ := hlr hs1
      refine qE_i (by rw [hs1]; rfl) ?_
      rw [if_pos hs1, hdo, l3, b0, b1, hc, hr]
      rw [cur_set (by omega)]
      exact suL (s := 288) (by omega) (by omega)
    · have hs1 : ¬ s_can B (cvt M) j = true := fun h => z (hcan.mpr h)
      refine qE_i (by rw [show s_can B (cvt M) j = false by simpa using hs1]; rfl) ?_
      rw [if_neg hs1]
  · have cC : cvt M (j * 6) = 5 := cC
    have z0 : ¬ M (27 + 2 * j) 0 = 0 := by rw [e0]; exact fun z => absurd ((ci 5 0 (by omega) (by omega)).mp z) (by omega)
    have b0 : sput M 288 B (s_cur B) (28 + 2 * j) 0 = cvt M (j * 6 + 1) := by rw [em _ _ (by omega) (by omega)]; exact (cvtO z0 (i := 0) (by omega)).symm
    have n0 : ¬ cvt M (j * 6) = 0 := by rw [cC]; exact fun z => absurd ((ci 5 0 (by omega) (by omega)).mp z) (by omega)
    have n1 : ¬ cvt M (j * 6) = 1 := by rw [cC]; exact fun z => absurd ((ci 5 1 (by omega) (by omega)).mp z) (by omega)
    have n2 : ¬ cvt M (j * 6) = 2 := by rw [cC]; exact fun z => absurd ((ci 5 2 (by omega) (by omega)).mp z) (by omega)
    have n3 : ¬ cvt M (j * 6) = 3 := by rw [cC]; exact fun z => absurd ((ci 5 3 (by omega) (by omega)).mp z) (by omega)
    have n4 : ¬ cvt M (j * 6) = 4 := by rw [cC]; exact fun z => absurd ((ci 5 4 (by omega) (by omega)).mp z) (by omega)
    have fa := c_discardFault (G := kG K) (w := kw K) (gl := kl K) (I := sput M 288 B (s_cur B)) hx (eq_wf se hf) (x := cvt M (j * 6 + 1))
    have hin := in4 (ff_dis_in (B := vB (sput M 288 B (s_cur B)) 288) (x := cvt M (j * 6 + 1)))
    have hlr : s_has (cvt M (j * 6 + 1)) (B 8) = true → vp_in (cvt M (j * 6 + 1)) 12 ∧ ∃ l, l < n ∧ cvt M (j * 6 + 1) = nI l ∧ (cvt M (j * 6 + 1)).toNatClampNeg = l ∧ LR 299 l = 300 + l := fun h =>
      has_lr (I := sput M 288 B (s_cur B)) hs hwo hn (v8.trans hf.1) (by rw [v8]; exact h)
    have hcan : ff_dis (vB (sput M 288 B (s_cur B)) 288) (cvt M (j * 6 + 1)) = 1003 ↔ s_can B (cvt M) j = true := by
      unfold ff_dis s_can
      rw [if_neg n0, if_neg n1, if_neg n2, if_neg n3, if_neg n4, v8]
      by_cases h : s_has (cvt M (j * 6 + 1)) (B 8) = true
      · obtain ⟨-, l, hl, -, hc, -⟩ := hlr h
        rw [if_pos h, hc, eq_open se hl, h]
        cases s_open B l <;> simp
      · rw [if_neg h, show s_has (cvt M (j * 6 + 1)) (B 8) = false by simpa using h]; simp
    have hdo : s_doit B (cvt M) j = s_drop B (cvt M (j * 6 + 1)).toNatClampNeg := by
      unfold s_doit; rw [if_neg n0, if_neg n1, if_neg n2, if_neg n3, if_neg n4]
    have hcl : s_can B (cvt M) j = true → s_has (cvt M (j * 6 + 1)) (B 8) = true := fun h => by
      unfold s_can at h
      rw [if_neg n0, if_neg n1, if_neg n2, if_neg n3, if_neg n4, Bool.and_eq_true] at h
      exact h.1
    generalize ff_dis (vB (sput M 288 B (s_cur B)) 288) (cvt M (j * 6 + 1)) = f at fa hin hcan
    by_cases hhas : s_has (cvt M (j * 6 + 1)) (B 8) = true
    · obtain ⟨-, l, hl, el, hc, hr⟩ := hlr hhas
      have kd := k_dropLetter (G := kG K) (w := kw K) (gl := kl K) (I := M) (s := 288) (B := B) (cu := s_cur B) (l := l) hs (by omega)
      refine bX10_execute_0 (f35 := s_of B l 5) (g35 := sput M 288 (s_drop B l) (if s_cur B = nI l then -1 else s_cur B)) (f3 := 0) (g3 := M) (f6 := 0) (g6 := M) (f9 := 0) (g9 := M) (f12 := 0) (g12 := M) (f15 := 0) (g15 := M) (f20 := 0) (g20 := M) (f26 := 0) (g26 := M) hK hwo hx tc (fun z => absurd z ned) (fun z => absurd z (ne 0 (by decide))) (fun z => absurd z (ne 0 (by decide))) (fun z => absurd z (ne 0 (by decide))) (fun z => absurd z (ne 0 (by decide))) (fun z => absurd z (ne 0 (by decide))) (fun z => absurd z (ne 1 (by decide))) (fun z => absurd z (ne 1 (by decide))) (fun z => absurd z (ne 1 (by decide))) (fun z => absurd z (ne 1 (by decide))) (fun z => absurd z (ne 1 (by decide))) (fun z => absurd z (ne 2 (by decide))) (fun z => absurd z (ne 2 (by decide))) (fun z => absurd z (ne 2 (by decide))) (fun z => absurd z (ne 2 (by decide))) (fun z => absurd z (ne 3 (by decide))) (fun z => absurd z (ne 3 (by decide))) (fun z => absurd z (ne 3 (by decide))) (fun z => absurd z (ne 3 (by decide))) (fun z => absurd z (ne 3 (by decide))) (fun z => absurd z (ne 4 (by decide))) (fun z => absurd z (ne 4 (by decide))) (fun z => absurd z (ne 4 (by decide))) (fun z => absurd z (ne 4 (by decide))) (fun z => absurd z (ne 4 (by decide))) (fun _ => by rw [l3, b0]; exact fa) (fun _ => fz hin) (fun _ z => ?_) (fun _ z => ?_) (fun _ z => ?_)
      · rw [l3, b0, el]; exact kd
      · have hs1 := hcan.mp z
        refine qE_i (by rw [hs1]; rfl) ?_
        rw [if_pos hs1, hdo, hc, cur_drop hf hl]
      · have hs1 : ¬ s_can B (cvt M) j = true := fun h => z (hcan.mpr h)
        refine qE_i (by rw [show s_can B (cvt M) j = false by simpa using hs1]; rfl) ?_
        rw [if_neg hs1]
    · have hs0 : ¬ s_can B (cvt M) j = true := fun h => hhas (hcl h)
      refine bX10_execute_0 (f35 := 0) (g35 := M) (f3 := 0) (g3 := M) (f6 := 0) (g6 := M) (f9 := 0) (g9 := M) (f12 := 0) (g12 := M) (f15 := 0) (g15 := M) (f20 := 0) (g20 := M) (f26 := 0) (g26 := M) hK hwo hx tc (fun z => absurd z ned) (fun z => absurd z (ne 0 (by decide))) (fun z => absurd z (ne 0 (by decide))) (fun z => absurd z (ne 0 (by decide))) (fun z => absurd z (ne 0 (by decide))) (fun z => absurd z (ne 0 (by decide))) (fun z => absurd z (ne 1 (by decide))) (fun z => absurd z (ne 1 (by decide))) (fun z => absurd z (ne 1 (by decide))) (fun z => absurd z (ne 1 (by decide))) (fun z => absurd z (ne 1 (by decide))) (fun z => absurd z (ne 2 (by decide))) (fun z => absurd z (ne 2 (by decide))) (fun z => absurd z (ne 2 (by decide))) (fun z => absurd z (ne 2 (by decide))) (fun z => absurd z (ne 3 (by decide))) (fun z => absurd z (ne 3 (by decide))) (fun z => absurd z (ne 3 (by decide))) (fun z => absurd z (ne 3 (by decide))) (fun z => absurd z (ne 3 (by decide))) (fun z => absurd z (ne 4 (by decide))) (fun z => absurd z (ne 4 (by decide))) (fun z => absurd z (ne 4 (by decide))) (fun z => absurd z (ne 4 (by decide))) (fun z => absurd z (ne 4 (by decide))) (fun _ => by rw [l3, b0]; exact fa) (fun _ => fz hin) (fun _ z => ?_) (fun _ z => ?_) (fun _ z => ?_)
      · exact absurd (hcan.mp z) hs0
      · exact absurd (hcan.mp z) hs0
      · refine qE_i (by rw [show s_can B (cvt M) j = false by simpa using hs0]; rfl) ?_
        rw [if_neg hs0]
end EXE
