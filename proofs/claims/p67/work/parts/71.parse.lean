/-! THE LAW'S TEXT IS READ -/
def AtL (b : zBk) : Nat → List Nat → Prop
  | _, [] => True
  | p, x :: xs => b p = nI x ∧ AtL b (p + 1) xs
theorem AtL_app {b : zBk} : ∀ (xs : List Nat) (p : Nat) (ys : List Nat), AtL b p (xs ++ ys) ↔ AtL b p xs ∧ AtL b (p + xs.length) ys
  | [], p, ys => by simp [AtL]
  | x :: xs, p, ys => by
    show (b p = nI x ∧ AtL b (p + 1) (xs ++ ys)) ↔ (b p = nI x ∧ AtL b (p + 1) xs) ∧ AtL b (p + (xs.length + 1)) ys
    rw [AtL_app xs (p + 1) ys, show p + (xs.length + 1) = p + 1 + xs.length by omega, and_assoc]
theorem AtL_get {b : zBk} : ∀ (xs : List Nat) (p : Nat), AtL b p xs → ∀ j, j < xs.length → b (p + j) = nI (xs.getD j 0)
  | [], p, _, j, hj => absurd hj (Nat.not_lt_zero j)
  | x :: xs, p, h, 0, _ => h.1
  | x :: xs, p, h, j + 1, hj => by
    have z := AtL_get xs (p + 1) h.2 j (by simp at hj; omega)
    rw [show p + (j + 1) = p + 1 + j by omega, z]; rfl
theorem AtL_of {b : zBk} : ∀ (xs : List Nat) (p : Nat), (∀ j, j < xs.length → b (p + j) = nI (xs.getD j 0)) → AtL b p xs
  | [], _, _ => trivial
  | x :: xs, p, h => ⟨h 0 (by simp), AtL_of xs (p + 1) (fun j hj => by
      have z := h (j + 1) (by simp; omega)
      rw [show p + 1 + j = p + (j + 1) by omega, z]; rfl)⟩
def dgt (v : Nat) : List Nat := if v < 10 then [48 + v] else [48 + v / 10, 48 + v % 10]
def spn (v : Nat) : List Nat := 32 :: dgt v
def spns : List Nat → List Nat
  | [] => []
  | v :: vs => spn v ++ spns vs
def wOff : List Nat := [111, 102, 102, 105, 99, 101]
def wClk : List Nat := [99, 108, 101, 114, 107]
def wLet : List Nat := [108, 101, 116, 116, 101, 114]
def clkT (k : Nat) : List Nat := wClk ++ [32, 99, 97 + k, 59]
def clksT : Nat → Nat → List Nat
  | _, 0 => []
  | c, k + 1 => clkT c ++ clksT (c + 1) k
/-- a letter of the text: its clerk and its four numbers -/
def letT (q : Nat × List Nat) : List Nat := wLet ++ ([32, 99, 97 + q.1] ++ (spns q.2 ++ [59]))
def letsT : List (Nat × List Nat) → List Nat
  | [] => []
  | q :: qs => letT q ++ letsT qs
def hdT (vs : List Nat) : List Nat := wOff ++ (spns vs ++ [59])
/-! tokens -/
theorem wh_to {q : Int32 → Bool} {b : zBk} : ∀ m k p, m ≤ k → (∀ j, j < m → q (b (p + j)) = true) → (m = k ∨ q (b (p + m)) = false) → tq_wh q b k p = p + m
  | 0, 0, p, _, _, _ => rfl
  | 0, k + 1, p, _, _, h => by
    unfold tq_wh
    rcases h with h | h
    · omega
    · rw [if_neg (by rw [show b p = b (p + 0) from rfl, h]; decide)]; rfl
  | m + 1, 0, p, h, _, _ => absurd h (by omega)
  | m + 1, k + 1, p, h, h1, h2 => by
    unfold tq_wh
    have z0 := h1 0 (by omega)
    rw [Nat.add_zero] at z0
    rw [if_pos z0, wh_to m k (p + 1) (by omega) (fun j hj => by rw [show p + 1 + j = p + (j + 1) by omega]; exact h1 (j + 1) (by omega)) (by
      rcases h2 with h2 | h2
      · exact Or.inl (by omega)
      · exact Or.inr (by rw [show p + 1 + m = p + (m + 1) by omega]; exact h2))]
    omega
theorem bl_of {x : Nat} (hx : x < 128) : tq_bl (nI x) = decide (x = 32 ∨ x = 10) := by
  have d : ∀ x, x < 128 → tq_bl (nI x) = decide (x = 32 ∨ x = 10) := by decide +kernel
  exact d x hx
theorem sm_of {x : Nat} (hx : x < 128) : tq_sm (nI x) = decide (97 ≤ x ∧ x ≤ 122) := by
  have d : ∀ x, x < 128 → tq_sm (nI x) = decide (97 ≤ x ∧ x ≤ 122) := by decide +kernel
  exact d x hx
theorem dg_of {x : Nat} (hx : x < 128) : tq_dg (nI x) = decide (48 ≤ x ∧ x ≤ 57) := by
  have d : ∀ x, x < 128 → tq_dg (nI x) = decide (48 ≤ x ∧ x ≤ 57) := by decide +kernel
  exact d x hx
section PAR
variable {b : zBk} {N p : Nat} {v : Int32}
theorem fr_0 {x : Nat} (h : b p = nI x) (hp : p < N) (hx : x < 128) (h32 : x ≠ 32 ∧ x ≠ 10) : tq_fr b N p = p := by
  unfold tq_fr
  exact wh_to 0 (N - p) p (by omega) (fun j hj => absurd hj (Nat.not_lt_zero j)) (Or.inr (by rw [Nat.add_zero, h, bl_of hx]; exact decide_eq_false (by omega)))
theorem fr_1 {x : Nat} (h0 : b p = nI 32) (h : b (p + 1) = nI x) (hp : p + 1 < N) (hx : x < 128) (h32 : x ≠ 32 ∧ x ≠ 10) : tq_fr b N p = p + 1 := by
  unfold tq_fr
  exact wh_to 1 (N - p) p (by omega) (fun j hj => by rw [show j = 0 by omega, Nat.add_zero, h0]; decide) (Or.inr (by rw [h, bl_of hx]; exact decide_eq_false (by omega)))
/-- a word -/
theorem tk_w {fr m : Nat} {ws : List Nat} {y : Nat} (hfr : tq_fr b N p = fr) (hw : AtL b fr (ws ++ [y])) (hm : ws.length = m) (h1 : 1 ≤ m) (h8 : m ≤ 8) (hs : ∀ x ∈ ws, 97 ≤ x ∧ x ≤ 122) (hy : y < 97) (hN : fr + m < N) : tq_tk b N p v = (1, fr, fr + m, v) := by
  have hg := AtL_get _ _ hw
  have sm : ∀ j, j < m → tq_sm (b (fr + j)) = true := fun j hj => by
    rw [hg j (by simp; omega), List.getD_eq_getElem?_getD, List.getElem?_append_left (by omega), List.getElem?_eq_getElem (by omega)]
    have z := hs _ (List.getElem_mem (show j < ws.length by omega))
    show tq_sm (nI ws[j]) = true
    rw [sm_of (by omega)]; exact decide_eq_true z
  have ns : tq_sm (b (fr + m)) = false := by
    rw [hg m (by simp; omega), List.getD_eq_getElem?_getD, List.getElem?_append_right (by omega), hm, Nat.sub_self]
    show tq_sm (nI y) = false
    rw [sm_of (by omega)]; exact decide_eq_false (by omega)
  have wh : tq_wh tq_sm b (N - fr) fr = fr + m := wh_to m (N - fr) fr (by omega) sm (Or.inr ns)
  have s0 : tq_sm (b fr) = true := sm 0 (by omega)
  have isn : tq_isn b N p = false := by
    unfold tq_isn
    rw [hfr, s0]; simp
  have tok : tq_tok b N p = (1, fr, fr + m) := by
    unfold tq_tok tq_at
    rw [hfr, if_neg (by omega), if_pos s0, wh, if_pos (by omega)]
  unfold tq_tk
  rw [isn, tok]; rfl
/-- a number -/
theorem tk_n {fr x y : Nat} (hfr : tq_fr b N p = fr) (hx : x < 100) (hw : AtL b fr (dgt x ++ [y])) (hy : y < 48 ∨ y = 59) (hN : fr + (dgt x).length < N) : tq_tk b N p v = (2, fr, fr + (dgt x).length, nI x) := by
  have hy2 : tq_dg (nI y) = false := by rw [dg_of (by omega)]; exact decide_eq_false (by omega)
  have hlen : (dgt x).length = 1 ∨ (dgt x).length = 2 := by unfold dgt; split <;> simp
  have core : (∀ j, j < (dgt x).length → tq_dg (b (fr + j)) = true ∧ tq_sm (b (fr + j)) = false) ∧ tq_dg (b (fr + (dgt x).length)) = false ∧ tq_val b fr (dgt x).length = nI x := by
    have dd : ∀ k, k < 10 → tq_dg (nI (48 + k)) = true ∧ tq_sm (nI (48 + k)) = false ∧ (0 : Int32) * 10 + nI (48 + k) - 48 = nI k := by decide +kernel
    by_cases h : x < 10
    · have ed : dgt x = [48 + x] := if_pos h
      rw [ed] at hw ⊢
      have w0 : b fr = nI (48 + x) := hw.1
      have w1 : b (fr + 1) = nI y := hw.2.1
      obtain ⟨d1, d2, d3⟩ := dd x h
      refine ⟨fun j hj => ?_, ?_, ?_⟩
      · have : j = 0 := by simp at hj; omega
        subst this
        rw [Nat.add_zero, w0]; exact ⟨d1, d2⟩
      · show tq_dg (b (fr + 1)) = false
        rw [w1]; exact hy2
      · show (0 : Int32) * 10 + b (fr + 0) - 48 = _
        rw [Nat.add_zero, w0]; exact d3
    · have ed : dgt x = [48 + x / 10, 48 + x % 10] := if_neg h
      rw [ed] at hw ⊢
      have w0 : b fr = nI (48 + x / 10) := hw.1
      have w1 : b (fr + 1) = nI (48 + x % 10) := hw.2.1
      have w2 : b (fr + 2) = nI y := hw.2.2.1
      obtain ⟨d1, d2, d3⟩ := dd (x / 10) (by omega)
      obtain ⟨g1, g2, g3⟩ := dd (x % 10) (by omega)
      refine ⟨fun j hj => ?_, ?_, ?_⟩
      · have : j = 0 ∨ j = 1 := by simp at hj; omega
        rcases this with rfl | rfl
        · rw [Nat.add_zero, w0]; exact ⟨d1, d2⟩
        · rw [w1]; exact ⟨g1, g2⟩
      · show tq_dg (b (fr + 2)) = false
        rw [w2]; exact hy2
      · show ((0 : Int32) * 10 + b (fr + 0) - 48) * 10 + b (fr + 1) - 48 = _
        rw [Nat.add_zero, w0, w1, d3]
        have dx : ∀ x, x < 100 → nI (x / 10) * 10 + nI (48 + x % 10) - 48 = nI x := by decide +kernel
        exact dx x hx
  obtain ⟨c1, c2, c3⟩ := core
  have wh : tq_wh tq_dg b (N - fr) fr = fr + (dgt x).length := wh_to _ (N - fr) fr (by omega) (fun j hj => (c1 j hj).1) (Or.inr c2)
  have s0 := c1 0 (by omega)
  rw [Nat.add_zero] at s0
  have isn : tq_isn b N p = true := by
    unfold tq_isn
    rw [hfr, s0.1, s0.2, decide_eq_false (show ¬ fr = N by omega)]; rfl
  have tok : tq_tok b N p = (2, fr, fr + (dgt x).length) := by
    unfold tq_tok tq_at
    rw [hfr, if_neg (by omega), if_neg (by rw [s0.2]; decide), if_pos s0.1, wh, if_pos (by omega)]
  unfold tq_tk
  rw [isn, tok, hfr, if_pos rfl]
  show (2, fr, fr + (dgt x).length, tq_val b fr (min (fr + (dgt x).length - fr) 3)) = _
  rw [show min (fr + (dgt x).length - fr) 3 = (dgt x).length by omega, c3]
theorem tk_s (h : b p = nI 59) (hp : p < N) : tq_tk b N p v = (3, p, p + 1, v) := by
  have hfr := fr_0 (N := N) h hp (by omega) (by omega)
  have e1 : tq_sm (b p) = false := by rw [h]; decide
  have e2 : tq_dg (b p) = false := by rw [h]; decide
  have isn : tq_isn b N p = false := by unfold tq_isn; rw [hfr, e2]; simp
  have tok : tq_tok b N p = (3, p, p + 1) := by
    unfold tq_tok tq_at
    rw [hfr, if_neg (by omega), if_neg (by rw [e1]; decide), if_neg (by rw [e2]; decide), if_pos (by rw [h]; rfl)]
  unfold tq_tk
  rw [isn, tok]; rfl
theorem tk_e : tq_tk b N N v = (0, N, N, v) := by
  have hfr : tq_fr b N N = N := by unfold tq_fr; rw [Nat.sub_self]; rfl
  have isn : tq_isn b N N = false := by unfold tq_isn; rw [hfr]; simp
  have tok : tq_tok b N N = (0, N, N) := by
    unfold tq_tok tq_at
    rw [hfr, if_pos rfl]
  unfold tq_tk
  rw [isn, tok]; rfl
/-! numbers -/
def aput (A : Nat → Int32) : Nat → List Nat → Nat → Int32
  | _, [] => A
  | i, v :: vs => aput (upd A i (nI v)) (i + 1) vs
theorem aput_far : ∀ (vs : List Nat) (A : Nat → Int32) (i j : Nat), j < i → aput A i vs j = A j
  | [], _, _, _, _ => rfl
  | v :: vs, A, i, j, h => by
    unfold aput
    rw [aput_far vs _ (i + 1) j (by omega), upd_ne _ _ (by omega)]
theorem aput_at : ∀ (vs : List Nat) (A : Nat → Int32) (i j : Nat), j < vs.length → aput A i vs (i + j) = nI (vs.getD j 0)
  | [], _, _, j, h => absurd h (Nat.not_lt_zero j)
  | v :: vs, A, i, 0, _ => by
    unfold aput
    show aput (upd A i (nI v)) (i + 1) vs i = _
    rw [aput_far vs _ (i + 1) i (by omega), upd_same]; rfl
  | v :: vs, A, i, j + 1, h => by
    unfold aput
    rw [show i + (j + 1) = i + 1 + j by omega, aput_at vs _ (i + 1) j (by simp at h; omega)]; rfl
theorem spn_h {x : Nat} (hx : x < 100) : ∃ y ys, dgt x = y :: ys ∧ 48 ≤ y ∧ y ≤ 57 := by
  unfold dgt
  split
  · exact ⟨_, _, rfl, by omega, by omega⟩
  · exact ⟨_, _, rfl, by omega, by omega⟩
theorem nums_run {lo hi : Nat → Int32} : ∀ (vs : List Nat) (i p : Nat) (x : Int32) (A : Nat → Int32), AtL b p (spns vs ++ [59]) → p + (spns vs).length < N → (∀ j, j < vs.length → vs.getD j 0 < 100 ∧ s_in (nI (vs.getD j 0)) (lo (i + j)) (hi (i + j)) = true) →
    ∃ x', tq_nums b N lo hi vs.length i (tq_tk b N p x) A = (0, (3, p + (spns vs).length, p + (spns vs).length + 1, x'), aput A i vs)
  | [], i, p, x, A, h, hN, _ => ⟨x, by
      show (0, tq_tk b N p x, A) = _
      rw [tk_s h.1 hN]; rfl⟩
  | v :: vs, i, p, x, A, h, hN, hv => by
    have h' : AtL b p ((32 :: dgt v) ++ (spns vs ++ [59])) := by
      have e : spns (v :: vs) ++ [59] = (32 :: dgt v) ++ (spns vs ++ [59]) := by
        show (spn v ++ spns vs) ++ [59] = _
        rw [List.append_assoc]; rfl
      rw [← e]; exact h
    have hlen : (spns (v :: vs)).length = 1 + (dgt v).length + (spns vs).length := by
      show (spn v ++ spns vs).length = _
      rw [List.length_append]
      show (dgt v).length + 1 + _ = _
      omega
    rw [hlen] at hN
    obtain ⟨a1, a2⟩ := (AtL_app _ _ _).mp h'
    have hv0 := hv 0 (by simp)
    have hv1 : v < 100 := hv0.1
    obtain ⟨y, ys, ey, y1, y2⟩ := spn_h hv1
    have b32 : b p = nI 32 := a1.1
    have by1 : b (p + 1) = nI y := by have z := a1.2; rw [ey] at z; exact z.1
    have hfr := fr_1 (N := N) b32 by1 (by omega) (by omega) (by omega)
    have l1 : (32 :: dgt v).length = 1 + (dgt v).length := by simp; omega
    rw [l1] at a2
    -- what follows the digits
    obtain ⟨z, zs, ez, hz⟩ : ∃ z zs, spns vs ++ [59] = z :: zs ∧ (z < 48 ∨ z = 59) := by
      cases vs with
      | nil => exact ⟨59, [], rfl, Or.inr rfl⟩
      | cons u us => exact ⟨32, _, rfl, Or.inl (by omega)⟩
    have hw : AtL b (p + 1) (dgt v ++ [z]) := (AtL_app _ _ _).mpr ⟨a1.2, by
      rw [ez] at a2
      exact ⟨by rw [show p + 1 + (dgt v).length = p + (1 + (dgt v).length) by omega]; exact a2.1, trivial⟩⟩
    have tk := tk_n (v := x) hfr hv1 hw hz (by omega)
    obtain ⟨x', ih⟩ := nums_run vs (i + 1) (p + (1 + (dgt v).length)) (nI v) (upd A i (nI v)) a2 (by omega) (fun j hj => by
      have q := hv (j + 1) (by simp; omega)
      rw [show i + 1 + j = i + (j + 1) by omega]; exact q)
    refine ⟨x', ?_⟩
    show tq_nums b N lo hi (vs.length + 1) i (tq_tk b N p x) A = _
    unfold tq_nums
    rw [tk, if_pos rfl, if_pos (show s_in (nI v) (lo i) (hi i) = true from hv0.2)]
    show tq_nums b N lo hi vs.length (i + 1) (tq_tk b N (p + 1 + (dgt v).length) (nI v)) (upd A i (nI v)) = _
    rw [show p + 1 + (dgt v).length = p + (1 + (dgt v).length) by omega, ih, hlen, show p + (1 + (dgt v).length) + (spns vs).length = p + (1 + (dgt v).length + (spns vs).length) by omega]
    rfl
/-! words -/
theorem cm_of {f g : Nat → Int32} : ∀ n, (∀ k, k < n → f k = g k) → tq_cm f g n = true
  | 0, _ => rfl
  | n + 1, h => by
    unfold tq_cm
    rw [cm_of n (fun k hk => h k (by omega)), decide_eq_true (h n (by omega))]; rfl
theorem isw_of {fr : Nat} {ws : List Nat} {j : Nat} (h : AtL b fr ws) (hl : ws.length = zTl.getD j 0) (hm : ws.map nI = zTb.getD j []) : tq_isw b (1, fr, fr + ws.length, v) j = true := by
  unfold tq_isw
  rw [Bool.and_eq_true, Bool.and_eq_true]
  refine ⟨decide_eq_true rfl, decide_eq_true (by show fr + ws.length - fr = _; omega), cm_of _ (fun k hk => ?_)⟩
  show b (fr + k) = _
  rw [AtL_get _ _ h k (by omega), ← hm, List.getD_eq_getElem?_getD, List.getD_eq_getElem?_getD, List.getElem?_map, List.getElem?_eq_getElem (by omega)]
  rfl
theorem isw_no {t : zTk} {j : Nat} (h : t.2.2.1 - t.2.1 ≠ zTl.getD j 0 ∨ t.1 ≠ 1) : tq_isw b t j = false := by
  unfold tq_isw
  rcases h with h | h
  · rw [decide_eq_false h, Bool.false_and, Bool.and_false]
  · rw [decide_eq_false h, Bool.false_and]
end PAR
