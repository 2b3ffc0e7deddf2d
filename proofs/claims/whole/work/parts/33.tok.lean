/-! TOKENS -/
def tq_bl (x : Int32) : Bool := decide (x = 32) || decide (x = 10)
def tq_sm (x : Int32) : Bool := decide (97 ≤ x) && decide (x ≤ 122)
def tq_dg (x : Int32) : Bool := decide (48 ≤ x) && decide (x ≤ 57)
/-- the first place from p on, over k steps, where q ends -/
def tq_wh (q : Int32 → Bool) (b : zBk) : Nat → Nat → Nat
  | 0, p => p
  | k + 1, p => if q (b p) = true then tq_wh q b k (p + 1) else p
def tq_val (b : zBk) (p : Nat) : Nat → Int32
  | 0 => 0
  | k + 1 => tq_val b p k * 10 + b (p + k) - 48
theorem tq_wh_in (q : Int32 → Bool) (b : zBk) : ∀ k p, p ≤ tq_wh q b k p ∧ tq_wh q b k p ≤ p + k
  | 0, p => ⟨Nat.le_refl _, Nat.le_refl _⟩
  | k + 1, p => by
    unfold tq_wh
    split
    · have := tq_wh_in q b k (p + 1); omega
    · omega
theorem tq_wh_cg {q r : Int32 → Bool} {b b' : zBk} : ∀ k p, (∀ j, p ≤ j → j < p + k → r (b' j) = q (b j)) → tq_wh r b' k p = tq_wh q b k p
  | 0, _, _ => rfl
  | k + 1, p, h => by
    unfold tq_wh
    rw [h p (Nat.le_refl _) (by omega), tq_wh_cg k (p + 1) (fun j h1 h2 => h j (by omega) (by omega))]
theorem tq_wh_all (q : Int32 → Bool) (b : zBk) : ∀ k p j, p ≤ j → j < tq_wh q b k p → q (b j) = true
  | 0, p, j, h1, h2 => by
    unfold tq_wh at h2; omega
  | k + 1, p, j, h1, h2 => by
    unfold tq_wh at h2
    by_cases h : q (b p) = true
    · rw [if_pos h] at h2
      by_cases e : j = p
      · rw [e]; exact h
      · exact tq_wh_all q b k (p + 1) j (by omega) h2
    · rw [if_neg h] at h2; omega
theorem tq_wh_1 {q : Int32 → Bool} {b : zBk} {k p : Nat} (hk : 0 < k) (h : q (b p) = true) : p < tq_wh q b k p := by
  obtain ⟨m, rfl⟩ : ∃ m, k = m + 1 := ⟨k - 1, by omega⟩
  unfold tq_wh
  rw [if_pos h]
  have := (tq_wh_in q b m (p + 1)).1
  omega
/-- a token: its kind, its first place, the place behind it -/
def tq_fr (b : zBk) (N p : Nat) : Nat := tq_wh tq_bl b (N - p) p
def tq_at (b : zBk) (N fr : Nat) : Nat × Nat × Nat :=
  if fr = N then (0, fr, fr)
  else if tq_sm (b fr) = true then (if tq_wh tq_sm b (N - fr) fr - fr ≤ 8 then 1 else 4, fr, tq_wh tq_sm b (N - fr) fr)
  else if tq_dg (b fr) = true then (if tq_wh tq_dg b (N - fr) fr - fr ≤ 3 then 2 else 4, fr, tq_wh tq_dg b (N - fr) fr)
  else (if b fr = 59 then 3 else 4, fr, fr + 1)
def tq_tok (b : zBk) (N p : Nat) : Nat × Nat × Nat := tq_at b N (tq_fr b N p)
/-- whether the token is a run of digits -/
def tq_isn (b : zBk) (N p : Nat) : Bool := !decide (tq_fr b N p = N) && !tq_sm (b (tq_fr b N p)) && tq_dg (b (tq_fr b N p))
def tq_vv (F b : zBk) (N p : Nat) : Int32 := if tq_isn b N p = true then tq_val b (tq_fr b N p) (min ((tq_tok b N p).2.2 - tq_fr b N p) 3) else F 13
def tq_put (F b : zBk) (N p : Nat) : zBk := fun j => if j = 10 then nI (tq_tok b N p).2.2 else if j = 11 then nI (tq_tok b N p).1 else if j = 12 then nI (tq_tok b N p).2.1 else if j = 13 then tq_vv F b N p else F j
theorem tq_tok_in {b : zBk} {N p : Nat} (h : p ≤ N) : (tq_tok b N p).1 ≤ 4 ∧ p ≤ (tq_tok b N p).2.1 ∧ (tq_tok b N p).2.1 ≤ (tq_tok b N p).2.2 ∧ (tq_tok b N p).2.2 ≤ N ∧ (tq_tok b N p).2.1 = tq_fr b N p := by
  have h1 := tq_wh_in tq_bl b (N - p) p
  unfold tq_tok tq_at tq_fr
  generalize tq_wh tq_bl b (N - p) p = fr at h1 ⊢
  by_cases c1 : fr = N
  · rw [if_pos c1]; exact ⟨Nat.zero_le _, by show p ≤ fr; omega, Nat.le_refl _, by show fr ≤ N; omega, rfl⟩
  · rw [if_neg c1]
    by_cases c2 : tq_sm (b fr) = true
    · rw [if_pos c2]
      have h2 := tq_wh_in tq_sm b (N - fr) fr
      simp only
      refine ⟨?_, by omega, by omega, by omega, trivial⟩
      split <;> omega
    · rw [if_neg c2]
      by_cases c3 : tq_dg (b fr) = true
      · rw [if_pos c3]
        have h2 := tq_wh_in tq_dg b (N - fr) fr
        simp only
        refine ⟨?_, by omega, by omega, by omega, trivial⟩
        split <;> omega
      · rw [if_neg c3]
        simp only
        refine ⟨?_, by omega, by omega, by omega, trivial⟩
        split <;> omega
theorem tq_fr_in {b : zBk} {N p : Nat} (h : p ≤ N) : p ≤ tq_fr b N p ∧ tq_fr b N p ≤ N := by
  have h1 := tq_wh_in tq_bl b (N - p) p
  unfold tq_fr; omega
/-- what the kind tells -/
theorem tq_kind1 {b : zBk} {N p : Nat} (hp : p ≤ N) (h : (tq_tok b N p).1 = 1) : tq_fr b N p < N ∧ (∀ j, tq_fr b N p ≤ j → j < (tq_tok b N p).2.2 → tq_sm (b j) = true) ∧ tq_fr b N p < (tq_tok b N p).2.2 ∧ (tq_tok b N p).2.2 - tq_fr b N p ≤ 8 := by
  have h0 := (tq_fr_in (b := b) hp).2
  unfold tq_tok tq_at at h ⊢
  generalize tq_fr b N p = fr at h h0 ⊢
  by_cases c1 : fr = N
  · rw [if_pos c1] at h; simp at h
  · rw [if_neg c1] at h ⊢
    by_cases c2 : tq_sm (b fr) = true
    · rw [if_pos c2] at h ⊢
      have e : tq_wh tq_sm b (N - fr) fr - fr ≤ 8 := by
        by_cases c4 : tq_wh tq_sm b (N - fr) fr - fr ≤ 8
        · exact c4
        · simp [c4] at h
      exact ⟨by omega, fun j => tq_wh_all tq_sm b (N - fr) fr j, tq_wh_1 (by omega) c2, e⟩
    · rw [if_neg c2] at h
      by_cases c3 : tq_dg (b fr) = true
      · rw [if_pos c3] at h
        by_cases c4 : tq_wh tq_dg b (N - fr) fr - fr ≤ 3 <;> simp [c4] at h
      · rw [if_neg c3] at h
        by_cases c4 : b fr = 59 <;> simp [c4] at h
theorem tq_kind2 {b : zBk} {N p : Nat} (hp : p ≤ N) (h : (tq_tok b N p).1 = 2) : tq_isn b N p = true ∧ tq_fr b N p < N ∧ (∀ j, tq_fr b N p ≤ j → j < (tq_tok b N p).2.2 → tq_dg (b j) = true) ∧ tq_fr b N p < (tq_tok b N p).2.2 ∧ (tq_tok b N p).2.2 - tq_fr b N p ≤ 3 := by
  have h0 := (tq_fr_in (b := b) hp).2
  unfold tq_isn
  unfold tq_tok tq_at at h ⊢
  generalize tq_fr b N p = fr at h h0 ⊢
  by_cases c1 : fr = N
  · rw [if_pos c1] at h; simp at h
  · rw [if_neg c1] at h ⊢
    by_cases c2 : tq_sm (b fr) = true
    · rw [if_pos c2] at h
      by_cases c4 : tq_wh tq_sm b (N - fr) fr - fr ≤ 8 <;> simp [c4] at h
    · rw [if_neg c2] at h ⊢
      by_cases c3 : tq_dg (b fr) = true
      · rw [if_pos c3] at h ⊢
        have e : tq_wh tq_dg b (N - fr) fr - fr ≤ 3 := by
          by_cases c4 : tq_wh tq_dg b (N - fr) fr - fr ≤ 3
          · exact c4
          · simp [c4] at h
        exact ⟨by simp [c1, c2, c3], by omega, fun j => tq_wh_all tq_dg b (N - fr) fr j, tq_wh_1 (by omega) c3, e⟩
      · rw [if_neg c3] at h
        by_cases c4 : b fr = 59 <;> simp [c4] at h
theorem tq_kind0 {b : zBk} {N p : Nat} (h : (tq_tok b N p).1 = 0) : tq_fr b N p = N := by
  unfold tq_tok tq_at at h
  generalize tq_fr b N p = fr at h ⊢
  by_cases c1 : fr = N
  · exact c1
  · rw [if_neg c1] at h
    by_cases c2 : tq_sm (b fr) = true
    · rw [if_pos c2] at h
      by_cases c4 : tq_wh tq_sm b (N - fr) fr - fr ≤ 8 <;> simp [c4] at h
    · rw [if_neg c2] at h
      by_cases c3 : tq_dg (b fr) = true
      · rw [if_pos c3] at h
        by_cases c4 : tq_wh tq_dg b (N - fr) fr - fr ≤ 3 <;> simp [c4] at h
      · rw [if_neg c3] at h
        by_cases c4 : b fr = 59 <;> simp [c4] at h
section RTK
variable {G : zG} {w : Nat × Nat} {gl : Launch} {I : zM}
theorem m_isSmall {x : Int32} : CT G w gl (yX11_isSmall, cX11_isSmall, 1, some .boolean) 0 (0, 0) [.int x] I (qE (b2 (tq_sm x)) I) nX := by
  refine ct_of (by decide) [(0, .int x)] rfl rfl (fun K hG hw hgl hwo hK => ?_)
  subst hG; subst hw; subst hgl
  refine bX11_isSmall_0 hK hwo ?_ ?_ ?_
  · intro c; exact qE_i (by have h := Int32.not_le.mpr c; simp [tq_sm, h, b2]) rfl
  · intro c d; exact qE_i (by have h := Int32.not_le.mpr d; simp [tq_sm, h, b2]) rfl
  · intro c d; exact qE_i (by have h := Int32.not_lt.mp c; have h2 := Int32.not_lt.mp d; simp [tq_sm, h, h2, b2]) rfl
theorem m_isDigit {x : Int32} : CT G w gl (yX11_isDigit, cX11_isDigit, 1, some .boolean) 0 (0, 0) [.int x] I (qE (b2 (tq_dg x)) I) nX := by
  refine ct_of (by decide) [(0, .int x)] rfl rfl (fun K hG hw hgl hwo hK => ?_)
  subst hG; subst hw; subst hgl
  refine bX11_isDigit_0 hK hwo ?_ ?_ ?_
  · intro c; exact qE_i (by have h := Int32.not_le.mpr c; simp [tq_dg, h, b2]) rfl
  · intro c d; exact qE_i (by have h := Int32.not_le.mpr d; simp [tq_dg, h, b2]) rfl
  · intro c d; exact qE_i (by have h := Int32.not_lt.mp c; have h2 := Int32.not_lt.mp d; simp [tq_dg, h, h2, b2]) rfl
theorem m_in {x lo hi : Int32} : CT G w gl (yX11_in, cX11_in, 3, some .boolean) 0 (0, 0) [.int x, .int lo, .int hi] I (qE (b2 (s_in x lo hi)) I) nX := by
  refine ct_of (by decide) [(0, .int x), (1, .int lo), (2, .int hi)] rfl rfl (fun K hG hw hgl hwo hK => ?_)
  subst hG; subst hw; subst hgl
  refine bX11_in_0 hK hwo ?_ ?_ ?_
  · intro c; exact qE_i (by have h := Int32.not_le.mpr c; simp [s_in, h, b2]) rfl
  · intro c d; exact qE_i (by have h := Int32.not_le.mpr d; simp [s_in, h, b2]) rfl
  · intro c d; exact qE_i (by have h := Int32.not_lt.mp c; have h2 := Int32.not_lt.mp d; simp [s_in, h, h2, b2]) rfl
theorem nI_sub {a b : Nat} (h : b ≤ a) : nI a - nI b = nI (a - b) := by
  have e : nI (a - b) + nI b = nI a := by rw [nI_add, Nat.sub_add_cancel h]
  rw [← e]; exact i_add_sub
theorem u315 {F : Nat → Int32} : ups I 312 F 315 = I 315 := ups_ne _ _ (by decide)
theorem m_token (hm : isT w 11 312) {N p : Nat} (h4 : I 312 4 = nI N) (hN : N ≤ 600) (hp : I 312 10 = nI p) (hpN : p ≤ N) : CT G w gl (yX11_token, cX11_token, 1, none) 1 (0, 0) [.ref 312] I (qV (fun J => J = ups I 312 (tq_put (I 312) (I 315) N p))) nX := by
  refine ct_of (by decide) [(0, .ref 312)] rfl rfl (fun K hG hw hgl hwo hK => ?_)
  subst hG; subst hw; subst hgl
  have fin : ∀ (F : zBk) (ty fr ah : Nat), tq_tok (I 315) N p = (ty, fr, ah) → F 10 = nI ah → F 11 = nI ty → F 12 = nI fr → F 13 = tq_vv (I 312) (I 315) N p → (∀ j, j ≠ 10 → j ≠ 11 → j ≠ 12 → j ≠ 13 → F j = I 312 j) → qV (fun J => J = ups I 312 (tq_put (I 312) (I 315) N p)) none (ups I 312 F) := fun F ty fr ah ht a1 a2 a3 a4 a5 => by
    refine qV_i (congrArg _ (funext fun j => ?_))
    unfold tq_put
    rw [ht]
    by_cases c1 : j = 10
    · rw [if_pos c1, c1, a1]
    · rw [if_neg c1]
      by_cases c2 : j = 11
      · rw [if_pos c2, c2, a2]
      · rw [if_neg c2]
        by_cases c3 : j = 12
        · rw [if_pos c3, c3, a3]
        · rw [if_neg c3]
          by_cases c4 : j = 13
          · rw [if_pos c4, c4, a4]
          · rw [if_neg c4]; exact a5 j c1 c2 c3 c4
  have hfr := tq_fr_in (b := I 315) hpN
  have b52 : ZZ K (0, 0) 52 [(0, .ref 312)] [] (ups I 312 (upd (I 312) 10 (nI (tq_fr (I 315) N p)))) := by
    generalize hg : tq_fr (I 315) N p = fr at hfr fin ⊢
    have vn : tq_isn (I 315) N p = false → tq_vv (I 312) (I 315) N p = I 312 13 := fun h => by unfold tq_vv; rw [if_neg (by rw [h]; decide)]
    have hcl : (nI fr).toNatClampNeg = fr := nI_clamp (by omega)
    have s1 : ∀ k q, q + k = N → fr < q + 1 → tq_wh tq_sm (I 315) k q = tq_wh tq_sm (I 315) (N - fr) fr → fr < N → tq_sm (I 315 fr) = true → ZZ K (0, 0) 92 [(0, .ref 312)] [] (ups I 312 (upd (upd (I 312) 10 (nI q)) 12 (nI fr))) := by
      intro k q hq hfq hw h1 h2
      have e131 : ∀ q, q = tq_wh tq_sm (I 315) (N - fr) fr → ZZ K (0, 0) 131 [(0, .ref 312)] [] (ups I 312 (upd (upd (I 312) 10 (nI q)) 12 (nI fr))) := by
        intro q hq
        have hb := tq_wh_in tq_sm (I 315) (N - fr) fr
        have e8 : upd (upd (I 312) 10 (nI q)) 12 (nI fr) 10 - upd (upd (I 312) 10 (nI q)) 12 (nI fr) 12 = nI (q - fr) := by
          rw [upd_ne _ _ (by omega), upd_same, upd_same]; exact nI_sub (by omega)
        have ht : tq_tok (I 315) N p = (if q - fr ≤ 8 then 1 else 4, fr, q) := by
          unfold tq_tok; rw [hg]; unfold tq_at
          rw [if_neg (by omega), if_pos h2, ← hq]
        have hv := vn (by unfold tq_isn; rw [hg, h2]; simp)
        refine bX11_token_131 hK hwo hm ?_ ?_ <;> simp only [up_def, ups_same, ups_ups] <;> rw [e8] <;> intro c
        · have c' : q - fr ≤ 8 := (nI_leI (a := q - fr) (b := 8) (by omega) (by omega)).mp c
          rw [if_pos c'] at ht
          exact fin _ _ _ _ ht (by simp [upd]) (by simp [upd]; rfl) (by simp [upd]) (by rw [hv]; simp [upd]) (fun j a b c d => by simp [upd, a, b, c])
        · have c' : ¬ q - fr ≤ 8 := fun z => c ((nI_leI (a := q - fr) (b := 8) (by omega) (by omega)).mpr z)
          rw [if_neg c'] at ht
          exact fin _ _ _ _ ht (by simp [upd]) (by simp [upd]; rfl) (by simp [upd]) (by rw [hv]; simp [upd]) (fun j a b c d => by simp [upd, a, b, c])
      induction k generalizing q with
      | zero =>
        refine bX11_token_92 (f4 := 0) (g4 := I) hK hwo hm ?_ ?_ ?_ ?_ ?_ <;> simp only [up_def, ups_same, ups_ups] <;> rw [upd_ne _ _ (by decide), upd_ne _ _ (by decide), h4, upd_ne _ _ (by decide), upd_same]
        · exact fun _ => e131 q hw
        all_goals exact fun c => absurd (nI_le (by omega) (by omega)) c
      | succ k ih =>
        have hq2 : (nI q).toNatClampNeg = q := nI_clamp (by omega)
        have nle : ¬ nI N ≤ nI q := nI_ge (by omega) (by omega)
        refine bX11_token_92 (f4 := b2 (tq_sm (I 315 q))) (g4 := ups I 312 (upd (upd (I 312) 10 (nI q)) 12 (nI fr))) hK hwo hm ?_ ?_ ?_ ?_ ?_ <;> simp only [up_def, ups_same, ups_ups] <;> rw [upd_ne _ _ (by decide), upd_ne _ _ (by decide), h4, upd_ne _ _ (by decide), upd_same]
        · exact fun c => absurd c nle
        · exact fun _ => vp_in_nI (by omega) (by omega)
        · exact fun _ => by rw [u315, hq2]; exact m_isSmall
        · intro _ c
          refine e131 q ?_
          rw [← hw]; unfold tq_wh; rw [if_neg (by rw [b2_0.mp c]; decide)]
        · intro _ c
          have hx := ih (q + 1) (by omega) (by omega) (by rw [← hw]; conv => rhs; unfold tq_wh; rw [if_pos (b2_n0.mp c)])
          rw [nI_1, upd_comm _ _ _ (show 12 ≠ 10 by decide), upd_upd]
          exact hx
    have s2 : ∀ k q, q + k = N → fr < q + 1 → tq_wh tq_dg (I 315) k q = tq_wh tq_dg (I 315) (N - fr) fr → fr < N → tq_sm (I 315 fr) = false → tq_dg (I 315 fr) = true → ZZ K (0, 0) 175 [(0, .ref 312)] [] (ups I 312 (upd (upd (upd (I 312) 10 (nI q)) 12 (nI fr)) 13 (tq_val (I 315) fr (min (q - fr) 3)))) := by
      intro k q hq hfq hw h1 h2 h3
      have e251 : ∀ q, q = tq_wh tq_dg (I 315) (N - fr) fr → ZZ K (0, 0) 251 [(0, .ref 312)] [] (ups I 312 (upd (upd (upd (I 312) 10 (nI q)) 12 (nI fr)) 13 (tq_val (I 315) fr (min (q - fr) 3)))) := by
        intro q hq
        have hb := tq_wh_in tq_dg (I 315) (N - fr) fr
        have e8 : ∀ x, upd (upd (upd (I 312) 10 (nI q)) 12 (nI fr)) 13 x 10 - upd (upd (upd (I 312) 10 (nI q)) 12 (nI fr)) 13 x 12 = nI (q - fr) := fun x => by
          rw [upd_ne _ _ (by omega), upd_ne _ _ (by omega), upd_same, upd_ne _ _ (by omega), upd_same]; exact nI_sub (by omega)
        have ht : tq_tok (I 315) N p = (if q - fr ≤ 3 then 2 else 4, fr, q) := by
          unfold tq_tok; rw [hg]; unfold tq_at
          rw [if_neg (by omega), if_neg (by rw [h2]; decide), if_pos h3, ← hq]
        have hv : tq_vv (I 312) (I 315) N p = tq_val (I 315) fr (min (q - fr) 3) := by
          unfold tq_vv
          rw [if_pos (by unfold tq_isn; rw [hg, h2, h3]; simp; omega), ht, hg]
        refine bX11_token_251 hK hwo hm ?_ ?_ <;> simp only [up_def, ups_same, ups_ups] <;> rw [e8] <;> intro c
        · have c' : q - fr ≤ 3 := (nI_leI (a := q - fr) (b := 3) (by omega) (by omega)).mp c
          rw [if_pos c'] at ht
          exact fin _ _ _ _ ht (by simp [upd]) (by simp [upd]; rfl) (by simp [upd]) (by rw [hv]; simp [upd]) (fun j a b c d => by simp [upd, a, b, c, d])
        · have c' : ¬ q - fr ≤ 3 := fun z => c ((nI_leI (a := q - fr) (b := 3) (by omega) (by omega)).mpr z)
          rw [if_neg c'] at ht
          exact fin _ _ _ _ ht (by simp [upd]) (by simp [upd]; rfl) (by simp [upd]) (by rw [hv]; simp [upd]) (fun j a b c d => by simp [upd, a, b, c, d])
      induction k generalizing q with
      | zero =>
        refine bX11_token_175 (f4 := 0) (g4 := I) hK hwo hm ?_ ?_ ?_ ?_ ?_ ?_ ?_ <;> simp only [up_def, ups_same, ups_ups] <;> rw [upd_ne _ _ (by decide), upd_ne _ _ (by decide), upd_ne _ _ (by decide), h4, upd_ne _ _ (by decide), upd_ne _ _ (by decide), upd_same]
        · exact fun _ => e251 q hw
        all_goals exact fun c => absurd (nI_le (by omega) (by omega)) c
      | succ k ih =>
        have hq2 : (nI q).toNatClampNeg = q := nI_clamp (by omega)
        have nle : ¬ nI N ≤ nI q := nI_ge (by omega) (by omega)
        have go : ∀ x, x = tq_val (I 315) fr (min (q + 1 - fr) 3) → tq_dg (I 315 q) = true → ZZ K (0, 0) 238 [(0, .ref 312)] [] (ups I 312 (upd (upd (upd (I 312) 10 (nI q)) 12 (nI fr)) 13 x)) := fun x hx hd => by
          subst hx
          refine bX11_token_238 hK hwo hm ?_
          simp only [up_def, ups_same, ups_ups]
          have hx := ih (q + 1) (by omega) (by omega) (by rw [← hw]; conv => rhs; unfold tq_wh; rw [if_pos hd])
          rw [upd_ne (j := 10) _ _ (by decide), upd_ne (j := 10) _ _ (by decide), upd_same, nI_1, upd_comm _ _ _ (show 13 ≠ 10 by decide), upd_comm _ _ _ (show 12 ≠ 10 by decide), upd_upd]
          exact hx
        refine bX11_token_175 (f4 := b2 (tq_dg (I 315 q))) (g4 := ups I 312 (upd (upd (upd (I 312) 10 (nI q)) 12 (nI fr)) 13 (tq_val (I 315) fr (min (q - fr) 3)))) hK hwo hm ?_ ?_ ?_ ?_ ?_ ?_ ?_ <;> simp only [up_def, ups_same, ups_ups, u315] <;> rw [upd_ne _ _ (by decide), upd_ne _ _ (by decide), upd_ne _ _ (by decide), h4, upd_ne _ _ (by decide), upd_ne _ _ (by decide), upd_same]
        · exact fun c => absurd c nle
        · exact fun _ => vp_in_nI (by omega) (by omega)
        · exact fun _ => by rw [hq2]; exact m_isDigit
        · intro _ c
          refine e251 q ?_
          rw [← hw]; unfold tq_wh; rw [if_neg (by rw [b2_0.mp c]; decide)]
        · intro _ c d
          rw [upd_ne _ _ (by decide), upd_same, nI_sub (by omega)] at d
          have d' : 3 ≤ q - fr := (nI_leI (a := 3) (b := q - fr) (by omega) (by omega)).mp d
          exact go _ (by rw [show min (q - fr) 3 = min (q + 1 - fr) 3 by omega]) (b2_n0.mp c)
        · exact fun _ _ _ => vp_in_nI (by omega) (by omega)
        · intro _ c d
          rw [upd_ne _ _ (by decide), upd_same, nI_sub (by omega)] at d
          have d' : ¬ 3 ≤ q - fr := fun z => d ((nI_leI (a := 3) (b := q - fr) (by omega) (by omega)).mpr z)
          rw [upd_same, upd_upd, hq2]
          refine go _ ?_ (b2_n0.mp c)
          rw [show min (q + 1 - fr) 3 = (q - fr) + 1 by omega, show min (q - fr) 3 = q - fr by omega]
          show _ = tq_val (I 315) fr (q - fr) * 10 + I 315 (fr + (q - fr)) - 48
          rw [show fr + (q - fr) = q by omega]
    have e294 : ∀ (ty : Nat), fr < N → tq_sm (I 315 fr) = false → tq_dg (I 315 fr) = false → ty = (if I 315 fr = 59 then 3 else 4) → ZZ K (0, 0) 294 [(0, .ref 312)] [.int (nI ty), .ref 312] (ups I 312 (upd (upd (I 312) 10 (nI fr)) 12 (nI fr))) := fun ty h1 h2 h3 h5 => by
      refine bX11_token_294 hK hwo hm hm ?_
      simp only [up_def, ups_same, ups_ups]
      have ht : tq_tok (I 315) N p = (ty, fr, fr + 1) := by
        unfold tq_tok; rw [hg]; unfold tq_at
        rw [if_neg (by omega), if_neg (by rw [h2]; decide), if_neg (by rw [h3]; decide), h5]
      have hv := vn (by unfold tq_isn; rw [hg, h3]; simp)
      exact fin _ _ _ _ ht (by simp [upd]; exact nI_1 fr) (by simp [upd]) (by simp [upd]) (by rw [hv]; simp [upd]) (fun j a b c d => by simp [upd, a, b, c])
    by_cases hN2 : fr = N
    · refine bX11_token_52 (f3 := 0) (g3 := I) (f6 := 0) (g6 := I) hK hwo hm ?_ ?_ ?_ ?_ ?_ ?_ ?_ ?_ ?_ ?_ <;> simp only [up_def, ups_same, ups_ups] <;> rw [upd_ne _ _ (by decide), upd_same, upd_ne _ _ (by decide), upd_ne _ _ (by decide), h4]
      iterate 9 exact fun c => absurd (by rw [hN2]) c
      intro _
      have ht : tq_tok (I 315) N p = (0, fr, fr) := by
        unfold tq_tok; rw [hg]; unfold tq_at
        rw [if_pos hN2]
      have hv := vn (by unfold tq_isn; rw [hg, hN2]; simp)
      exact fin _ _ _ _ ht (by simp [upd]) (by simp [upd]; rfl) (by simp [upd]) (by rw [hv]; simp [upd]) (fun j a b c d => by simp [upd, a, b, c])
    · have hlt : fr < N := by omega
      have hne : ¬ nI fr = nI N := fun e => hN2 ((nI_eq (by omega) (by omega)).mp e)
      refine bX11_token_52 (f3 := b2 (tq_sm (I 315 fr))) (g3 := ups I 312 (upd (upd (I 312) 10 (nI fr)) 12 (nI fr))) (f6 := b2 (tq_dg (I 315 fr))) (g6 := ups I 312 (upd (upd (I 312) 10 (nI fr)) 12 (nI fr))) hK hwo hm ?_ ?_ ?_ ?_ ?_ ?_ ?_ ?_ ?_ ?_ <;> simp only [up_def, ups_same, ups_ups, u315] <;> (try rw [upd_ne _ _ (by decide), upd_same, upd_ne _ _ (by decide), upd_ne _ _ (by decide), h4])
      · exact fun _ => vp_in_nI (by omega) (by omega)
      · exact fun _ => by rw [hcl]; exact m_isSmall
      · exact fun _ _ => by rw [upd_ne _ _ (by decide), upd_same]; exact vp_in_nI (by omega) (by omega)
      · exact fun _ _ => by rw [upd_ne _ _ (by decide), upd_same, hcl]; exact m_isDigit
      · exact fun _ _ _ => by rw [upd_ne _ _ (by decide), upd_same]; exact vp_in_nI (by omega) (by omega)
      · intro _ c d e
        rw [upd_ne _ _ (by decide), upd_same, hcl] at e
        exact e294 4 hlt (b2_0.mp c) (b2_0.mp d) (by rw [if_neg e])
      · intro _ c d e
        rw [upd_ne _ _ (by decide), upd_same, hcl] at e
        exact e294 3 hlt (b2_0.mp c) (b2_0.mp d) (by rw [if_pos e])
      · intro _ c d
        have hx := s2 (N - fr) fr (by omega) (by omega) rfl hlt (b2_0.mp c) (b2_n0.mp d)
        rw [show min (fr - fr) 3 = 0 by omega] at hx
        exact hx
      · intro _ c
        exact s1 (N - fr) fr (by omega) (by omega) rfl hlt (b2_n0.mp c)
      · exact fun c => absurd c hne
  have key : ∀ k q, q + k = N → tq_wh tq_bl (I 315) k q = tq_fr (I 315) N p → ZZ K (0, 0) 0 [(0, .ref 312)] [] (ups I 312 (upd (I 312) 10 (nI q))) := by
    intro k
    induction k with
    | zero =>
      intro q hq hw
      have e : q = tq_fr (I 315) N p := hw
      refine bX11_token_0 hK hwo hm ?_ ?_ ?_ ?_ ?_ ?_ <;> simp only [up_def, ups_same, ups_ups, u315] <;> rw [upd_ne _ _ (by decide), h4, upd_same]
      · exact fun _ => by rw [e]; exact b52
      all_goals exact fun c => absurd (nI_le (by omega) (by omega)) c
    | succ k ih =>
      intro q hq hw
      have hq2 : (nI q).toNatClampNeg = q := nI_clamp (by omega)
      have nle : ¬ nI N ≤ nI q := nI_ge (by omega) (by omega)
      have go : tq_bl (I 315 q) = true → ZZ K (0, 0) 39 [(0, .ref 312)] [] (ups I 312 (upd (I 312) 10 (nI q))) := fun h => by
        refine bX11_token_39 hK hwo hm ?_
        simp only [up_def, ups_same, ups_ups]
        rw [upd_same, nI_1, upd_upd]
        exact ih (q + 1) (by omega) (by rw [← hw]; conv => rhs; unfold tq_wh; rw [if_pos h])
      refine bX11_token_0 hK hwo hm ?_ ?_ ?_ ?_ ?_ ?_ <;> simp only [up_def, ups_same, ups_ups, u315] <;> rw [upd_ne _ _ (by decide), h4, upd_same]
      · exact fun c => absurd c nle
      · exact fun _ => vp_in_nI (by omega) (by omega)
      · intro _ c
        rw [hq2] at c
        exact go (by unfold tq_bl; rw [c]; decide)
      · exact fun _ _ => vp_in_nI (by omega) (by omega)
      · intro _ c d
        rw [hq2] at c d
        have e : q = tq_fr (I 315) N p := by
          rw [← hw]; unfold tq_wh; rw [if_neg (by unfold tq_bl; simp [c, d])]
        rw [e]; exact b52
      · intro _ c d
        rw [hq2] at c d
        exact go (by unfold tq_bl; rw [d]; decide)
  have h0 := key (N - p) p (by omega) rfl
  rw [← hp, upd_id rfl, ups_id] at h0
  exact h0
end RTK
