/-! FEWEST LATE: giving up the longest keeps as many in time as any choice does -/
def mSum : List Int → Int
  | [] => 0
  | a :: l => a + mSum l
theorem mSum_app (a b : List Int) : mSum (a ++ b) = mSum a + mSum b := by
  induction a with
  | nil => simp [mSum]
  | cons x l ih => rw [List.cons_append]; simp only [mSum]; rw [ih]; omega
theorem mSum_perm {a b : List Int} (h : a.Perm b) : mSum a = mSum b := by
  induction h with
  | nil => rfl
  | cons x _ ih => simp only [mSum]; rw [ih]
  | swap x y l => simp only [mSum]; omega
  | trans _ _ i1 i2 => exact i1.trans i2
/-- written in this order from minute t, each in time -/
def mFe : Int → List (Int × Int) → Prop
  | _, [] => True
  | t, q :: r => t + q.1 ≤ q.2 ∧ mFe (t + q.1) r
theorem mFe_snoc {q : Int × Int} : ∀ {S : List (Int × Int)} {t : Int}, mFe t (S ++ [q]) ↔ mFe t S ∧ t + mSum (S.map Prod.fst) + q.1 ≤ q.2 := by
  intro S
  induction S with
  | nil => intro t; simp [mFe, mSum]
  | cons a l ih =>
    intro t
    simp only [List.cons_append, mFe, List.map_cons, mSum]
    rw [ih]
    have e : t + a.1 + mSum (l.map Prod.fst) + q.1 = t + (a.1 + mSum (l.map Prod.fst)) + q.1 := by omega
    rw [e]
    exact ⟨fun ⟨h1, h2, h3⟩ => ⟨⟨h1, h2⟩, h3⟩, fun ⟨⟨h1, h2⟩, h3⟩ => ⟨h1, h2, h3⟩⟩
theorem mFe_mono : ∀ {S : List (Int × Int)} {t u : Int}, u ≤ t → mFe t S → mFe u S := by
  intro S
  induction S with
  | nil => intro t u _ _; trivial
  | cons a l ih => intro t u hu h; exact ⟨Int.le_trans (by omega) h.1, ih (by omega) h.2⟩
theorem mFe_cut {a : Int × Int} (ha : 0 ≤ a.1) {S2 : List (Int × Int)} : ∀ {S1 : List (Int × Int)} {t : Int}, mFe t (S1 ++ a :: S2) → mFe t (S1 ++ S2) := by
  intro S1
  induction S1 with
  | nil => intro t h; exact mFe_mono (by omega) h.2
  | cons b l ih => intro t h; exact ⟨h.1, ih h.2⟩
/-- the kept times A after the letters ps -/
def mInv (t : Int) (ps : List (Int × Int)) (A : List Int) : Prop :=
  (∃ S : List (Int × Int), S.Sublist ps ∧ mFe t S ∧ A.Perm (S.map Prod.fst)) ∧
  (∀ S : List (Int × Int), S.Sublist ps → mFe t S → ∃ B C : List Int, A.Perm (B ++ C) ∧ B.length = S.length ∧ mSum B ≤ mSum (S.map Prod.fst)) ∧
  (A = [] ∨ ∃ q ∈ ps, t + mSum A ≤ q.2)
theorem mInv_0 (t : Int) : mInv t [] [] := by
  refine ⟨⟨[], List.Sublist.refl _, trivial, List.Perm.refl _⟩, fun S hs _ => ⟨[], [], List.Perm.refl _, ?_, ?_⟩, Or.inl rfl⟩
  · rw [List.sublist_nil.mp hs]; rfl
  · rw [List.sublist_nil.mp hs]; exact Int.le_refl _
theorem mInv_best {t : Int} {ps : List (Int × Int)} {A : List Int} (h : mInv t ps A) : (∃ S : List (Int × Int), S.Sublist ps ∧ mFe t S ∧ S.length = A.length) ∧ ∀ S : List (Int × Int), S.Sublist ps → mFe t S → S.length ≤ A.length := by
  obtain ⟨⟨S, s1, s2, s3⟩, h2, -⟩ := h
  refine ⟨⟨S, s1, s2, by rw [s3.length_eq, List.length_map]⟩, fun S' hs hf => ?_⟩
  obtain ⟨B, C, b1, b2, -⟩ := h2 S' hs hf
  rw [b1.length_eq, ← b2, List.length_append]
  omega
theorem mSub_snoc {S ps : List (Int × Int)} {q : Int × Int} (h : S.Sublist (ps ++ [q])) : S.Sublist ps ∨ ∃ T : List (Int × Int), S = T ++ [q] ∧ T.Sublist ps := by
  obtain ⟨l1, l2, rfl, h1, h2⟩ := List.sublist_append_iff.mp h
  have h3 : l2 = [] ∨ l2 = [q] := by
    cases h2 with
    | cons _ h => exact Or.inl (List.sublist_nil.mp h)
    | cons_cons _ h => rw [List.sublist_nil.mp h]; exact Or.inr rfl
  rcases h3 with rfl | rfl
  · rw [List.append_nil]; exact Or.inl h1
  · exact Or.inr ⟨l1, rfl, h1⟩
theorem mInv_add {t : Int} {ps : List (Int × Int)} {A A' : List Int} {q : Int × Int} (h : mInv t ps A) (hq : t + mSum A + q.1 ≤ q.2) (hA : A'.Perm (q.1 :: A)) : mInv t (ps ++ [q]) A' := by
  obtain ⟨⟨S, s1, s2, s3⟩, h2, h3⟩ := h
  have sumA := mSum_perm s3
  refine ⟨⟨S ++ [q], List.Sublist.append s1 (List.Sublist.refl _), mFe_snoc.mpr ⟨s2, by rw [← sumA]; exact hq⟩, ?_⟩, fun S' hs hf => ?_, Or.inr ⟨q, by simp, ?_⟩⟩
  · rw [List.map_append]
    exact hA.trans ((s3.cons q.1).trans (List.perm_append_comm (l₁ := [q.1]) (l₂ := S.map Prod.fst)))
  · rcases mSub_snoc hs with h1 | ⟨T, rfl, h1⟩
    · obtain ⟨B, C, b1, b2, b3⟩ := h2 S' h1 hf
      exact ⟨B, q.1 :: C, hA.trans ((b1.cons q.1).trans List.perm_middle.symm), b2, b3⟩
    · obtain ⟨hf1, -⟩ := mFe_snoc.mp hf
      obtain ⟨B, C, b1, b2, b3⟩ := h2 T h1 hf1
      refine ⟨q.1 :: B, C, hA.trans (b1.cons q.1), by simp [b2], ?_⟩
      rw [List.map_append, mSum_app]
      simp only [mSum, List.map_cons, List.map_nil]
      omega
  · rw [mSum_perm hA]
    simp only [mSum]
    omega
theorem mEx {x : Int} {A' B C : List Int} (h : (x :: A').Perm (B ++ C)) (hC : C ≠ []) (hx : ∀ y ∈ B ++ C, y ≤ x) : ∃ B' C' : List Int, A'.Perm (B' ++ C') ∧ B'.length = B.length ∧ mSum B' ≤ mSum B := by
  have hm : x ∈ B ++ C := h.mem_iff.mp List.mem_cons_self
  rcases List.mem_append.mp hm with hb | hc
  · obtain ⟨s, r, rfl⟩ := List.append_of_mem hb
    match C, hC with
    | y :: C', _ =>
      have e1 : ((s ++ x :: r) ++ y :: C').Perm (x :: (y :: (s ++ r) ++ C')) := by
        have a1 : ((s ++ x :: r) ++ y :: C').Perm ((x :: (s ++ r)) ++ y :: C') := List.Perm.append_right _ List.perm_middle
        refine a1.trans (List.Perm.cons x ?_)
        exact List.perm_middle
      refine ⟨y :: (s ++ r), C', (h.trans e1).cons_inv, by simp; omega, ?_⟩
      have hy : y ≤ x := hx y (by simp)
      rw [mSum_app]
      simp only [mSum]
      rw [mSum_app]
      omega
  · obtain ⟨s, r, rfl⟩ := List.append_of_mem hc
    refine ⟨B, s ++ r, ?_, rfl, Int.le_refl _⟩
    have e1 : (B ++ (s ++ x :: r)).Perm (x :: (B ++ (s ++ r))) := (List.Perm.append_left B List.perm_middle).trans List.perm_middle
    exact (h.trans e1).cons_inv
theorem mInv_drop {t : Int} {ps : List (Int × Int)} {A A' : List Int} {q : Int × Int} {x : Int} (h : mInv t ps A) (hd : ∀ r ∈ ps, r.2 ≤ q.2) (hp : ∀ r ∈ ps, 0 ≤ r.1) (hq : ¬ t + mSum A + q.1 ≤ q.2) (hA : (x :: A').Perm (q.1 :: A)) (hx : ∀ y ∈ q.1 :: A, y ≤ x) : mInv t (ps ++ [q]) A' := by
  obtain ⟨⟨S, s1, s2, s3⟩, h2, h3⟩ := h
  have sumA := mSum_perm s3
  have sumX := mSum_perm hA
  simp only [mSum] at sumX
  have hqx : q.1 ≤ x := hx _ List.mem_cons_self
  have eS : (q.1 :: A).Perm ((S ++ [q]).map Prod.fst) := by
    rw [List.map_append]
    exact (s3.cons q.1).trans (List.perm_append_comm (l₁ := [q.1]) (l₂ := S.map Prod.fst))
  refine ⟨?_, fun S' hs hf => ?_, ?_⟩
  · have hm : x ∈ (S ++ [q]).map Prod.fst := eS.mem_iff.mp (hA.mem_iff.mp List.mem_cons_self)
    obtain ⟨a, ha, rfl⟩ := List.mem_map.mp hm
    obtain ⟨S1, S2, e⟩ := List.append_of_mem ha
    have hsub : (S1 ++ S2).Sublist (ps ++ [q]) := by
      refine List.Sublist.trans ?_ (List.Sublist.append s1 (List.Sublist.refl [q]))
      rw [e]
      exact List.Sublist.append (List.Sublist.refl _) (List.sublist_cons_self a S2)
    have hperm : A'.Perm ((S1 ++ S2).map Prod.fst) := by
      have h9 := hA.trans eS
      rw [e, List.map_append, List.map_cons] at h9
      rw [List.map_append]
      exact (h9.trans List.perm_middle).cons_inv
    refine ⟨S1 ++ S2, hsub, ?_, hperm⟩
    have hS2 : S2 = [] ∨ ∃ L b, S2 = L ++ [b] := by
      rcases List.eq_nil_or_concat S2 with h | ⟨L, b, h⟩
      · exact Or.inl h
      · exact Or.inr ⟨L, b, by rw [h, List.concat_eq_append]⟩
    rcases hS2 with rfl | ⟨L, b, rfl⟩
    · obtain ⟨e1, -⟩ := List.append_inj' e rfl
      rw [List.append_nil, ← e1]
      exact s2
    · have e9 : S ++ [q] = (S1 ++ a :: L) ++ [b] := by rw [e]; simp
      obtain ⟨e1, e2⟩ := List.append_inj' e9 rfl
      cases e2
      have haS : a ∈ S := by rw [e1]; simp
      have ha0 : 0 ≤ a.1 := hp a (s1.subset haS)
      rw [← List.append_assoc]
      refine mFe_snoc.mpr ⟨mFe_cut ha0 (by rw [← e1]; exact s2), ?_⟩
      have hsum : mSum A = mSum ((S1 ++ L).map Prod.fst) + a.1 := by
        rw [sumA, e1, List.map_append, List.map_append, List.map_cons, mSum_app, mSum_app]
        simp only [mSum]
        omega
      rcases h3 with h3 | ⟨r, hr, hr2⟩
      · exfalso
        rw [h3] at s3
        have := s3.length_eq
        rw [e1] at this
        simp at this
      · have := hd r hr
        omega
  · have key : ∃ B C : List Int, (q.1 :: A).Perm (B ++ C) ∧ C ≠ [] ∧ B.length = S'.length ∧ mSum B ≤ mSum (S'.map Prod.fst) := by
      rcases mSub_snoc hs with h1 | ⟨T, rfl, h1⟩
      · obtain ⟨B, C, b1, b2, b3⟩ := h2 S' h1 hf
        exact ⟨B, q.1 :: C, (b1.cons q.1).trans List.perm_middle.symm, List.cons_ne_nil _ _, b2, b3⟩
      · obtain ⟨hf1, hf2⟩ := mFe_snoc.mp hf
        obtain ⟨B, C, b1, b2, b3⟩ := h2 T h1 hf1
        refine ⟨q.1 :: B, C, b1.cons q.1, fun hC => ?_, by simp [b2], ?_⟩
        · subst hC
          rw [List.append_nil] at b1
          have := mSum_perm b1
          omega
        · rw [List.map_append, mSum_app]
          simp only [mSum, List.map_cons, List.map_nil]
          omega
    obtain ⟨B, C, c1, c2, c3, c4⟩ := key
    obtain ⟨B', C', d1, d2, d3⟩ := mEx (hA.trans c1) c2 (fun y hy => hx y (c1.mem_iff.mpr hy))
    exact ⟨B', C', d1, d2.trans c3, Int.le_trans d3 c4⟩
  · rcases h3 with rfl | ⟨r, hr, hr2⟩
    · left
      have := hA.length_eq
      simp at this
      exact this
    · exact Or.inr ⟨r, List.mem_append.mpr (Or.inl hr), by omega⟩
/-! the first c entries of an array -/
def mAl (c : Nat) (f : Nat → Int) : List Int := (List.range c).map f
theorem mAl_succ (c : Nat) (f : Nat → Int) : mAl (c + 1) f = mAl c f ++ [f c] := by
  unfold mAl
  rw [List.range_succ, List.map_append]
  rfl
theorem mAl_congr {c : Nat} {f g : Nat → Int} (h : ∀ i, i < c → f i = g i) : mAl c f = mAl c g :=
  List.map_congr_left (fun i hi => h i (List.mem_range.mp hi))
theorem mAl_mem {c : Nat} {f : Nat → Int} {x : Int} (h : x ∈ mAl c f) : ∃ i, i < c ∧ f i = x := by
  obtain ⟨i, hi, e⟩ := List.mem_map.mp h
  exact ⟨i, List.mem_range.mp hi, e⟩
theorem mAl_in {c i : Nat} (f : Nat → Int) (h : i < c) : f i ∈ mAl c f := List.mem_map.mpr ⟨i, List.mem_range.mpr h, rfl⟩
theorem mAl_put {g : Nat} {v : Int} {f : Nat → Int} : ∀ {c : Nat}, g < c → (f g :: mAl c (fun k => if k = g then v else f k)).Perm (v :: mAl c f) := by
  intro c
  induction c with
  | zero => intro h; omega
  | succ c ih =>
    intro hg
    rw [mAl_succ, mAl_succ]
    by_cases h : g < c
    · have e : (if c = g then v else f c) = f c := if_neg (by omega)
      rw [e]
      exact (ih h).append_right [f c]
    · have e : c = g := by omega
      subst e
      rw [if_pos rfl, mAl_congr (f := fun k => if k = c then v else f k) (g := f) (fun i hi => if_neg (by omega))]
      have a1 : (mAl c f ++ [v]).Perm (v :: mAl c f) := List.perm_append_comm (l₁ := mAl c f) (l₂ := [v])
      have a2 : (mAl c f ++ [f c]).Perm (f c :: mAl c f) := List.perm_append_comm (l₁ := mAl c f) (l₂ := [f c])
      exact (a1.cons (f c)).trans ((List.Perm.swap v (f c) _).trans (a2.symm.cons v))
theorem mAl_out {c g : Nat} (f : Nat → Int) (h : g ≤ c) : (f g :: mAl c (fun k => if k = g then f c else f k)).Perm (mAl (c + 1) f) := by
  rw [mAl_succ]
  have a2 : (mAl c f ++ [f c]).Perm (f c :: mAl c f) := List.perm_append_comm (l₁ := mAl c f) (l₂ := [f c])
  by_cases hg : g < c
  · exact (mAl_put hg).trans a2.symm
  · have e : g = c := by omega
    subst e
    rw [mAl_congr (f := fun k => if k = g then f g else f k) (g := f) (fun i hi => if_neg (by omega))]
    exact a2.symm
/-! choices as sets of bits -/
def mSel (O : Nat → Int × Int) (s m : Nat) : List (Int × Int) := ((List.range m).filter (fun k => s.testBit k)).map O
theorem mSel_succ (O : Nat → Int × Int) (s m : Nat) : mSel O s (m + 1) = mSel O s m ++ (if s.testBit m = true then [O m] else []) := by
  unfold mSel
  rw [List.range_succ, List.filter_append, List.map_append]
  congr 1
  by_cases h : s.testBit m = true <;> simp [h]
theorem mSel_sub (O : Nat → Int × Int) (s m : Nat) : (mSel O s m).Sublist ((List.range m).map O) := (List.filter_sublist).map O
theorem mSel_congr {O : Nat → Int × Int} {s t : Nat} : ∀ {m : Nat}, (∀ k, k < m → s.testBit k = t.testBit k) → mSel O s m = mSel O t m := by
  intro m h
  unfold mSel
  congr 1
  apply List.filter_congr
  intro k hk
  rw [h k (List.mem_range.mp hk)]
theorem mSel_all {O : Nat → Int × Int} : ∀ {m : Nat} {S : List (Int × Int)}, S.Sublist ((List.range m).map O) → ∃ s, s < 2 ^ m ∧ S = mSel O s m := by
  intro m
  induction m with
  | zero =>
    intro S h
    exact ⟨0, by decide, by rw [List.sublist_nil.mp h]; rfl⟩
  | succ m ih =>
    intro S h
    rw [List.range_succ, List.map_append] at h
    have e2 : 2 ^ (m + 1) = 2 ^ m + 2 ^ m := by rw [Nat.pow_succ]; omega
    rcases mSub_snoc h with h1 | ⟨T, rfl, h1⟩
    · obtain ⟨s, hs, rfl⟩ := ih h1
      refine ⟨s, by omega, ?_⟩
      rw [mSel_succ, if_neg (by rw [Nat.testBit_lt_two_pow hs]; decide), List.append_nil]
    · obtain ⟨s, hs, rfl⟩ := ih h1
      refine ⟨2 ^ m + s, by omega, ?_⟩
      rw [mSel_succ, if_pos (by rw [Nat.testBit_two_pow_add_eq, Nat.testBit_lt_two_pow hs]; rfl)]
      rw [mSel_congr (s := 2 ^ m + s) (t := s) (fun k hk => Nat.testBit_two_pow_add_gt hk s)]
/-- how many bits -/
def mPop : Nat → Nat → Nat
  | 0, _ => 0
  | n + 1, s => s % 2 + mPop n (s / 2)
theorem mPop_sel (O : Nat → Int × Int) : ∀ (m s : Nat), (mSel O s m).length = mPop m s := by
  have key : ∀ (m s : Nat), ((List.range m).filter (fun k => s.testBit k)).length = mPop m s := by
    intro m
    induction m with
    | zero => intro s; rfl
    | succ m ih =>
      intro s
      rw [List.range_succ_eq_map, List.filter_cons]
      have e : (List.filter (fun k => s.testBit k) (List.map Nat.succ (List.range m))).length = mPop m (s / 2) := by
        rw [List.filter_map, List.length_map, ← ih (s / 2)]
        congr 1
        apply List.filter_congr
        intro k _
        simp [Function.comp, Nat.testBit_succ]
      have e0 : s.testBit 0 = decide (s % 2 = 1) := Nat.testBit_zero s
      rw [e0]
      by_cases h : s % 2 = 1
      · rw [if_pos (by simp [h]), List.length_cons, e, mPop, h]; omega
      · rw [if_neg (by simp [h]), e, mPop]; omega
  intro m s
  unfold mSel
  rw [List.length_map]
  exact key m s
theorem mPop_0 : ∀ n, mPop n 0 = 0 := by
  intro n
  induction n with
  | zero => rfl
  | succ n ih => simp [mPop, ih]
theorem mPop_le {n : Nat} : ∀ {s : Nat} (k : Nat), s < 2 ^ n → mPop (n + k) s = mPop n s := by
  induction n with
  | zero =>
    intro s k h
    have : s = 0 := by simpa using h
    subst this
    rw [mPop_0, mPop_0]
  | succ n ih =>
    intro s k h
    rw [show n + 1 + k = (n + k) + 1 by omega, mPop, mPop, ih k (by rw [Nat.pow_succ] at h; omega)]
