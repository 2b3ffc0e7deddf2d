/-! THE CLASS: letters and selection, on a state object -/
theorem isT.set {w : Nat × Nat} {s : Nat} (hw : wOK w) (t : isT w 9 s) : isT w 8 (s + 1) := by
  have h := t.f (k := 0) (d := 8) hw rfl rfl rfl (by decide)
  rwa [(t.lr hw).1] at h
theorem isT.clk {w : Nat × Nat} {s : Nat} (hw : wOK w) (t : isT w 9 s) : isT w 1 (s + 2) := by
  have h := t.f (k := 1) (d := 1) hw rfl rfl rfl (by decide)
  rwa [(t.lr hw).2.1] at h
theorem isT.lts {w : Nat × Nat} {s : Nat} (hw : wOK w) (t : isT w 9 s) : isT w 31 (s + 11) := by
  have h := t.f (k := 2) (d := 31) hw rfl rfl rfl (by decide)
  rwa [(t.lr hw).2.2.1] at h
theorem isT.let {w : Nat × Nat} {s l : Nat} (hw : wOK w) (t : isT w 9 s) (hl : l < 12) : isT w 5 (s + 12 + l) := by
  have h1 := t.lts hw
  have hn : LL (s + 11) = 12 := by rw [← (t.lr hw).2.2.1]; exact zLn9 hw t
  have h := h1.a (i := nI l) (d := 5) hw (by rw [hn]; exact vp_in_nI hl (by omega)) rfl (fun _ => rfl) (by decide)
  rwa [nI_clamp (by omega), (t.lr hw).2.2.2.2.2.1 l hl] at h
section CLA
variable {G : zG} {w : Nat × Nat} {gl : Launch} {I : zM} {s : Nat} {B : zBk} {cu : Int32}
theorem k_isReadyAt (ht : isT w 9 s) {l : Nat} (hl : l < 12) (h0 : 0 ≤ s_of B l 5) : CT G w gl (yX5_isReadyAt, cX5_isReadyAt, 2, some .boolean) 0 (0, 0) [.ref (s + 12 + l), .int (B 9)] (sput I s B cu) (qE (b2 (s_open B l)) (sput I s B cu)) nX := by
  refine ct_of (by decide) [(0, .ref (s + 12 + l)), (1, .int (B 9))] rfl rfl (fun K hG hw hgl hwo hK => ?_)
  subst hG; subst hw; subst hgl
  refine bX5_isReadyAt_0 hK hwo (ht.let hwo hl) ?_ ?_ ?_ <;> simp only [spL hl (show 2 < 8 by omega), spL hl (show 5 < 8 by omega)]
  · intro c; exact qE_i (by have h := Int32.not_le.mpr c; simp [s_open, s_arr, h, b2]) rfl
  · intro c d; exact qE_i (by have h := Int32.le_antisymm d h0; simp [s_open, s_done, h, b2]) rfl
  · intro c d
    have h1 : ¬ s_of B l 5 = 0 := fun e => d (by rw [e]; exact Int32.le_refl 0)
    exact qE_i (by simp [s_open, s_arr, s_done, Int32.not_lt.mp c, h1, b2]) rfl
theorem k_waitedAt (ht : isT w 9 s) {l : Nat} (hl : l < 12) : CT G w gl (yX5_waitedAt, cX5_waitedAt, 3, some .int) 0 (0, 0) [.ref (s + 12 + l), .int (B 9)] (sput I s B cu) (qE (s_waited B l) (sput I s B cu)) nX := by
  refine ct_of (by decide) [(0, .ref (s + 12 + l)), (1, .int (B 9))] rfl rfl (fun K hG hw hgl hwo hK => ?_)
  subst hG; subst hw; subst hgl
  have key : ∀ e : Int32, s_of B l 2 ≤ B 9 → (e = if s_done B l = true then s_of B l 6 else B 9) → ZZ K (0, 0) 25 [(0, .ref (s + 12 + l)), (1, .int (B 9))] [.int e] (sput I s B cu) := fun e ha he => by
    refine bX5_waitedAt_25 hK hwo (ht.let hwo hl) ?_
    simp only [spL hl (show 2 < 8 by omega), spL hl (show 7 < 8 by omega)]
    exact qE_i (by unfold s_waited; rw [if_pos (by simp [s_arr, ha]), he]) rfl
  refine bX5_waitedAt_0 hK hwo (ht.let hwo hl) ?_ ?_ ?_ <;> simp only [spL hl (show 2 < 8 by omega), spL hl (show 5 < 8 by omega), spL hl (show 6 < 8 by omega)]
  · intro c d; exact key _ c (by rw [if_neg (by simp [s_done, d])])
  · intro c d; exact key _ c (by rw [if_pos (by simp [s_done, d])])
  · intro c; exact qE_i (by unfold s_waited; rw [if_neg (by simp [s_arr]; exact Int32.not_le.mp c)]) rfl
theorem k_effective (ht : isT w 9 s) {p x : Int32} (h5 : 1 ≤ B 5) : CT G w gl (yX8_effective, cX8_effective, 3, some .int) 0 (0, 0) [.ref (s + 1), .int p, .int x] (sput I s B cu) (qE (p + x / B 5) (sput I s B cu)) nX := by
  refine ct_of (by decide) [(0, .ref (s + 1)), (1, .int p), (2, .int x)] rfl rfl (fun K hG hw hgl hwo hK => ?_)
  subst hG; subst hw; subst hgl
  have hp : ¬ B 5 ≤ 0 := fun h => absurd (Int32.le_trans h5 h) (by decide)
  have hz : ¬ B 5 = 0 := fun h => hp (by rw [h]; exact Int32.le_refl 0)
  refine bX8_effective_0 hK hwo (ht.set hwo) ?_ ?_ ?_ <;> simp only [spS4]
  · exact fun c => absurd c hp
  · exact fun _ => hz
  · exact fun _ => qE_i rfl rfl
theorem k_rankBy (ht : isT w 9 s) {l p : Nat} (hl : l < 12) (hp : p < 4) (h5 : 1 ≤ B 5) : CT G w gl (yX9_rankBy, cX9_rankBy, 3, some .int) 1 (0, 0) [.ref s, .int (nI p), .ref (s + 12 + l)] (sput I s B cu) (qE (s_bad B l p) (sput I s B cu)) nX := by
  refine ct_of (by decide) [(0, .ref s), (1, .int (nI p)), (2, .ref (s + 12 + l))] rfl rfl (fun K hG hw hgl hwo hK => ?_)
  subst hG; subst hw; subst hgl
  have hi : (nI p).toInt = p := nI_toInt (by omega)
  refine bX9_rankBy_0 hK hwo ht (ht.let hwo hl) (fun _ => by rw [sp4]; exact k_waitedAt ht hl) (fun _ => by rw [(ht.lr hwo).1, spL hl (show 4 < 8 by omega)]; exact k_effective ht h5) ?_ ?_ ?_ ?_ <;> try simp only [spL hl (show 2 < 8 by omega), spL hl (show 3 < 8 by omega), spL hl (show 5 < 8 by omega)]
  · intro c; exact qE_i (by unfold s_bad s_urg; rw [if_neg (by omega), if_neg (by omega), if_neg (by omega)]) rfl
  · intro c; exact qE_i (by unfold s_bad; rw [if_pos (by omega)]) rfl
  · intro c; exact qE_i (by unfold s_bad; rw [if_neg (by omega), if_pos (by omega)]) rfl
  · intro c; exact qE_i (by unfold s_bad; rw [if_neg (by omega), if_neg (by omega), if_pos (by omega)]) rfl
end CLA
