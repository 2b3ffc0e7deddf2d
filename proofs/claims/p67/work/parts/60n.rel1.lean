/-! THE TWO BUFFERS: b of the reference, b' of the class; the class's bytes are the reference's, as bytes -/
def bR (b b' : zBk) (N : Nat) : Prop := ∀ j, j < N → b' j = (b j).toInt8.toInt32 ∧ 0 ≤ b j ∧ b j ≤ 255
theorem byte_cases {x y : Int32} (h : y = x.toInt8.toInt32) (h0 : 0 ≤ x) (h1 : x ≤ 255) : y = x ∨ (128 ≤ x ∧ y < 0) := by
  have e : y.toInt = Int.bmod x.toInt 256 := by rw [h, Int8.toInt_toInt32, Int32.toInt_toInt8]
  have a0 := Int32.le_iff_toInt_le.mp h0
  have a1 := Int32.le_iff_toInt_le.mp h1
  rw [show (0 : Int32).toInt = 0 by decide] at a0
  rw [show (255 : Int32).toInt = 255 by decide] at a1
  rw [Int.bmod_def] at e
  by_cases hx : x.toInt < 128
  · left
    apply Int32.toInt_inj.mp
    rw [e]
    split <;> omega
  · right
    refine ⟨Int32.le_iff_toInt_le.mpr (by rw [show (128 : Int32).toInt = 128 by decide]; omega), Int32.lt_iff_toInt_lt.mpr ?_⟩
    rw [show (0 : Int32).toInt = 0 by decide, e]
    split <;> omega
theorem i_lt_le {a b c : Int32} (h : a < b) (h2 : b ≤ c) : ¬ c ≤ a := Int32.not_le.mpr (Int32.lt_of_lt_of_le h h2)
section BYT
variable {b b' : zBk} {N : Nat}
theorem bR_c (h : bR b b' N) {j : Nat} (hj : j < N) : b' j = b j ∨ (128 ≤ b j ∧ b' j < 0) := byte_cases (h j hj).1 (h j hj).2.1 (h j hj).2.2
theorem bR_bt (h : bR b b' N) {j : Nat} (hj : j < N) : bt (b' j) := by unfold bt; rw [(h j hj).1, i8_i8]
theorem bR_bl (h : bR b b' N) {j : Nat} (hj : j < N) : tq_bl (b' j) = tq_bl (b j) := by
  rcases bR_c h hj with e | ⟨h1, h2⟩
  · rw [e]
  · have n1 : ¬ b j = 32 := fun z => by rw [z] at h1; exact absurd h1 (by decide)
    have n2 : ¬ b j = 10 := fun z => by rw [z] at h1; exact absurd h1 (by decide)
    have n3 : ¬ b' j = 32 := fun z => by rw [z] at h2; exact absurd h2 (by decide)
    have n4 : ¬ b' j = 10 := fun z => by rw [z] at h2; exact absurd h2 (by decide)
    unfold tq_bl; simp [n1, n2, n3, n4]
theorem bR_sm (h : bR b b' N) {j : Nat} (hj : j < N) : tq_sm (b' j) = tq_sm (b j) := by
  rcases bR_c h hj with e | ⟨h1, h2⟩
  · rw [e]
  · have n1 : ¬ b j ≤ 122 := i_lt_le (a := 122) (by decide : (122 : Int32) < 128) h1 |> fun z => fun q => z q
    have n2 : ¬ 97 ≤ b' j := fun q => absurd (Int32.le_trans q (Int32.le_of_lt h2)) (by decide)
    unfold tq_sm; simp [n1, n2]
theorem bR_dg (h : bR b b' N) {j : Nat} (hj : j < N) : tq_dg (b' j) = tq_dg (b j) := by
  rcases bR_c h hj with e | ⟨h1, h2⟩
  · rw [e]
  · have n1 : ¬ b j ≤ 57 := i_lt_le (a := 57) (by decide : (57 : Int32) < 128) h1 |> fun z => fun q => z q
    have n2 : ¬ 48 ≤ b' j := fun q => absurd (Int32.le_trans q (Int32.le_of_lt h2)) (by decide)
    unfold tq_dg; simp [n1, n2]
theorem bR_59 (h : bR b b' N) {j : Nat} (hj : j < N) : b' j = 59 ↔ b j = 59 := by
  rcases bR_c h hj with e | ⟨h1, h2⟩
  · rw [e]
  · exact ⟨fun z => by rw [z] at h2; exact absurd h2 (by decide), fun z => by rw [z] at h1; exact absurd h1 (by decide)⟩
theorem sm_eq {x : Int32} (h : bR b b' N) {j : Nat} (hj : j < N) (hx : tq_sm x = true) : x = b' j ↔ x = b j := by
  unfold tq_sm at hx
  rw [Bool.and_eq_true] at hx
  have x1 := of_decide_eq_true hx.1
  have x2 := of_decide_eq_true hx.2
  rcases bR_c h hj with e | ⟨h1, h2⟩
  · rw [e]
  · exact ⟨fun z => by rw [z] at x1; exact absurd (Int32.le_trans x1 (Int32.le_of_lt h2)) (by decide), fun z => by rw [z] at x2; exact absurd (Int32.le_trans h1 x2) (by decide)⟩
theorem bR_smE (h : bR b b' N) {j : Nat} (hj : j < N) (hs : tq_sm (b j) = true) : b' j = b j := by
  have hs' : tq_sm (b' j) = true := by rw [bR_sm h hj]; exact hs
  exact (sm_eq h hj hs').mp rfl
theorem bR_dgE (h : bR b b' N) {j : Nat} (hj : j < N) (hs : tq_dg (b j) = true) : b' j = b j := by
  rcases bR_c h hj with e | ⟨h1, h2⟩
  · exact e
  · unfold tq_dg at hs
    rw [Bool.and_eq_true] at hs
    exact absurd (Int32.le_trans h1 (of_decide_eq_true hs.2)) (by decide)
theorem bR_fr (h : bR b b' N) {p : Nat} (hp : p ≤ N) : tq_fr b' N p = tq_fr b N p := by
  unfold tq_fr
  exact tq_wh_cg _ _ (fun j h1 h2 => bR_bl h (by omega))
theorem bR_tok (h : bR b b' N) {p : Nat} (hp : p ≤ N) : tq_tok b' N p = tq_tok b N p := by
  have hi := tq_fr_in (b := b) (N := N) hp
  unfold tq_tok
  rw [bR_fr h hp]
  generalize tq_fr b N p = fr at hi
  unfold tq_at
  by_cases e : fr = N
  · rw [if_pos e, if_pos e]
  · rw [if_neg e, if_neg e, bR_sm h (by omega), bR_dg h (by omega)]
    rw [tq_wh_cg (q := tq_sm) (r := tq_sm) (b := b) (b' := b') _ _ (fun j h1 h2 => bR_sm h (by omega)), tq_wh_cg (q := tq_dg) (r := tq_dg) (b := b) (b' := b') _ _ (fun j h1 h2 => bR_dg h (by omega))]
    have e59 := bR_59 h (show fr < N by omega)
    by_cases q : b fr = 59
    · rw [if_pos q, if_pos (e59.mpr q)]
    · rw [if_neg q, if_neg (fun z => q (e59.mp z))]
theorem bR_isn (h : bR b b' N) {p : Nat} (hp : p ≤ N) : tq_isn b' N p = tq_isn b N p := by
  have hi := tq_fr_in (b := b) (N := N) hp
  unfold tq_isn
  rw [bR_fr h hp]
  by_cases e : tq_fr b N p = N
  · simp [e]
  · rw [bR_sm h (by omega), bR_dg h (by omega)]
theorem val_cg {p : Nat} : ∀ k, (∀ j, j < k → b' (p + j) = b (p + j)) → tq_val b' p k = tq_val b p k
  | 0, _ => rfl
  | k + 1, h => by
    unfold tq_val
    rw [val_cg k (fun j hj => h j (by omega)), h k (by omega)]
/-- tokens are the same on both sides -/
theorem bR_tk (h : bR b b' N) {p : Nat} (hp : p ≤ N) (v : Int32) : tq_tk b' N p v = tq_tk b N p v := by
  unfold tq_tk
  rw [bR_tok h hp, bR_isn h hp, bR_fr h hp]
  by_cases e : tq_isn b N p = true
  · rw [if_pos e, if_pos e]
    have hi := tq_fr_in (b := b) (N := N) hp
    have e2 := e
    unfold tq_isn at e2
    rw [Bool.and_eq_true, Bool.and_eq_true] at e2
    have hne : ¬ tq_fr b N p = N := by simpa using e2.1.1
    have hsm : ¬ tq_sm (b (tq_fr b N p)) = true := by simpa using e2.1.2
    have hdg := e2.2
    have htok : (tq_tok b N p).2.2 = tq_wh tq_dg b (N - tq_fr b N p) (tq_fr b N p) := by
      unfold tq_tok tq_at
      rw [if_neg hne, if_neg hsm, if_pos hdg]
    have hwh := tq_wh_in tq_dg b (N - tq_fr b N p) (tq_fr b N p)
    rw [val_cg _ (fun j hj => bR_dgE h (by rw [htok] at hj; omega) (tq_wh_all tq_dg b (N - tq_fr b N p) (tq_fr b N p) _ (by omega) (by rw [htok] at hj; omega)))]
  · rw [if_neg e, if_neg e]
theorem bR_nx (h : bR b b' N) {t : zTk} (hok : tOK b N t) : tq_nx b' N t = tq_nx b N t := bR_tk h hok.2.2.1 _
theorem bR_ok (h : bR b b' N) {t : zTk} (hok : tOK b N t) : tOK b' N t := by
  obtain ⟨h1, h2, h3, h4, h5⟩ := hok
  refine ⟨h1, h2, h3, fun z => ⟨(h4 z).1, fun j a c => by rw [bR_sm h (by omega)]; exact (h4 z).2 j a c⟩, fun z => ?_⟩
  obtain ⟨a1, a2, a3⟩ := h5 z
  refine ⟨a1, ?_, fun j a c => by rw [bR_dg h (by omega)]; exact a3 j a c⟩
  rw [a2]
  exact (val_cg _ (fun j hj => bR_dgE h (by omega) (a3 _ (by omega) (by omega)))).symm
theorem bR_isw (h : bR b b' N) {t : zTk} (hok : tOK b N t) (j : Nat) : tq_isw b' t j = tq_isw b t j := by
  unfold tq_isw
  by_cases e1 : t.1 = 1
  · by_cases e2 : t.2.2.1 - t.2.1 = zTl.getD j 0
    · have hh := hok.2.2.2.1 e1
      have hle := hok.2.2.1
      rw [cm_cg (f := fun k => b (t.2.1 + k)) (f' := fun k => b' (t.2.1 + k)) (g := fun k => (zTb.getD j []).getD k 0) (g' := fun k => (zTb.getD j []).getD k 0) _ (fun k hk => by
        show b' (t.2.1 + k) = _ ↔ b (t.2.1 + k) = _
        rw [bR_smE h (by omega) (hh.2 _ (by omega) (by omega))])]
    · rw [decide_eq_false e2, Bool.false_and, Bool.false_and]
  · simp [e1]
/-- names are small letters -/
def nmZ (B : zBk) (c : Nat) : Prop := c ≤ 6 ∧ ∀ a, a < c → ∃ L, L ≤ 6 ∧ B (22 + a * 7) = nI L ∧ ∀ k, k < L → tq_sm (B (22 + a * 7 + 1 + k)) = true
theorem nmZ.L {B : zBk} {c : Nat} (h : nmZ B c) : nmL B c := ⟨h.1, fun a ha => by obtain ⟨L, h1, h2, -⟩ := h.2 a ha; exact ⟨L, h1, h2⟩⟩
theorem nmZ.cg {B C : zBk} {c : Nat} (h : nmZ B c) (e : ∀ k, 22 ≤ k → k < 22 + c * 7 → C k = B k) : nmZ C c := ⟨h.1, fun a ha => by
  obtain ⟨L, h1, h2, h3⟩ := h.2 a ha
  exact ⟨L, h1, by rw [e _ (by omega) (by omega)]; exact h2, fun k hk => by rw [e _ (by omega) (by omega)]; exact h3 k hk⟩⟩
/-- a search in both -/
theorem bR_find {B C : zBk} {c fr m : Nat} (h : bR b b' N) (hZ : nmZ B c) (hm : m ≤ 600) (hfr : fr + m ≤ N) (e : ∀ k, 22 ≤ k → k < 22 + c * 7 → C k = B k) : tq_find C b' fr m 0 c = tq_find B b fr m 0 c := by
  rw [find_cg (B := B) (C := C) hZ.L hm e c 0 (by omega)]
  have go : ∀ k a, a + k ≤ c → tq_find B b' fr m a k = tq_find B b fr m a k := by
    intro k
    induction k with
    | zero => intro a _; rfl
    | succ k ih =>
      intro a ha
      unfold tq_find
      rw [ih (a + 1) (by omega)]
      have es : tq_same B b' fr m a = tq_same B b fr m a := by
        obtain ⟨L, hL, hv, hs⟩ := hZ.2 a (by omega)
        unfold tq_same
        by_cases e1 : B (22 + a * 7) = nI m
        · have em : m = L := by rw [hv] at e1; exact ((nI_eq (a := L) (b := m) (by omega) (by omega)).mp e1).symm
          rw [cm_cg (f := fun k => B (22 + a * 7 + 1 + k)) (f' := fun k => B (22 + a * 7 + 1 + k)) (g := fun k => b (fr + k)) (g' := fun k => b' (fr + k)) m (fun k hk => sm_eq h (by omega) (hs k (by omega)))]
        · rw [decide_eq_false e1]; rfl
      rw [es]
  exact go c 0 (by omega)
end BYT
