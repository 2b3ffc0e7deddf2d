/-! THE LAW'S TEXT IS A SETUP'S TEXT -/
section TXK
variable {G : zG} {c n : Nat}
theorem lvs_ok : stOK (lvs G) := by
  obtain ⟨h0, h1, h2, h3, h4, h5, h6⟩ := stg_lt G
  refine ⟨rfl, fun j hj => ?_⟩
  rcases (show j = 0 ∨ j = 1 ∨ j = 2 ∨ j = 3 ∨ j = 4 ∨ j = 5 ∨ j = 6 by omega) with rfl | rfl | rfl | rfl | rfl | rfl | rfl
  · exact ⟨show stg G 0 < 100 by omega, in_nat (v := stg G 0) (lo := 0) (hi := 4) (by omega) (by omega) (by omega)⟩
  · exact ⟨show stg G 1 < 100 by omega, in_nat (v := stg G 1) (lo := 0) (hi := 5) (by omega) (by omega) (by omega)⟩
  · exact ⟨show stg G 2 < 100 by omega, in_nat (v := stg G 2) (lo := 1) (hi := 99) (by omega) (by omega) (by omega)⟩
  · exact ⟨show stg G 3 < 100 by omega, in_nat (v := stg G 3) (lo := 0) (hi := 9) (by omega) (by omega) (by omega)⟩
  · exact ⟨show stg G 4 < 100 by omega, in_nat (v := stg G 4) (lo := 1) (hi := 9) (by omega) (by omega) (by omega)⟩
  · exact ⟨show stg G 5 < 100 by omega, in_nat (v := stg G 5) (lo := 1) (hi := 20) (by omega) (by omega) (by omega)⟩
  · exact ⟨show stg G 6 < 100 by omega, in_nat (v := stg G 6) (lo := 0) (hi := 5) (by omega) (by omega) (by omega)⟩
theorem lvs_at : ∀ i, i < 7 → (lvs G).getD i 0 = stg G i := fun i hi => by
  rcases (show i = 0 ∨ i = 1 ∨ i = 2 ∨ i = 3 ∨ i = 4 ∨ i = 5 ∨ i = 6 by omega) with rfl | rfl | rfl | rfl | rfl | rfl | rfl <;> rfl
theorem lqs_ok (hc : 0 < c) : ∀ q ∈ lqs G c n, ltOK c q := fun q hq => by
  unfold lqs at hq
  obtain ⟨k, -, rfl⟩ := List.mem_map.mp hq
  generalize pik G (8 + k) 268435456 = z
  refine ⟨Nat.mod_lt _ hc, rfl, fun j hj => ?_⟩
  rcases (show j = 0 ∨ j = 1 ∨ j = 2 ∨ j = 3 by omega) with rfl | rfl | rfl | rfl
  · exact ⟨show 1 + z / 8 % 9 < 100 by omega, in_nat (v := 1 + z / 8 % 9) (lo := 1) (hi := 30) (by omega) (by omega) (by omega)⟩
  · exact ⟨show z / 128 % 16 < 100 by omega, in_nat (v := z / 128 % 16) (lo := 0) (hi := 999) (by omega) (by omega) (by omega)⟩
  · exact ⟨show 1 + z / 4096 % 60 < 100 by omega, in_nat (v := 1 + z / 4096 % 60) (lo := 1) (hi := 999) (by omega) (by omega) (by omega)⟩
  · exact ⟨show z / 262144 % 10 < 100 by omega, in_nat (v := z / 262144 % 10) (lo := 0) (hi := 9) (by omega) (by omega) (by omega)⟩
theorem txOK_app {xs ys : List Nat} (h1 : txOK xs) (h2 : txOK ys) : txOK (xs ++ ys) := fun x hx => (List.mem_append.mp hx).elim (h1 x) (h2 x)
theorem tx_dgt {v : Nat} (h : v < 100) : txOK (dgt v) := by
  unfold dgt
  split
  · intro x hx; simp at hx; omega
  · intro x hx; simp at hx; omega
theorem tx_spns : ∀ (vs : List Nat), (∀ v ∈ vs, v < 100) → txOK (spns vs)
  | [], _ => fun x hx => absurd hx List.not_mem_nil
  | v :: vs, h => txOK_app (xs := spn v) (fun x hx => by
      rcases List.mem_cons.mp hx with rfl | hx
      · omega
      · exact tx_dgt (h v List.mem_cons_self) x hx) (tx_spns vs (fun w hw => h w (List.mem_cons_of_mem _ hw)))
theorem tx_lit {xs : List Nat} (h : xs.all (fun x => decide (x < 128)) = true) : txOK xs := fun x hx => of_decide_eq_true (List.all_eq_true.mp h x hx)
theorem tx_clks : ∀ k a, a + k ≤ 20 → txOK (clksT a k)
  | 0, _, _ => fun x hx => absurd hx List.not_mem_nil
  | k + 1, a, h => txOK_app (xs := clkT a) (txOK_app (tx_lit (by decide)) (fun x hx => by simp at hx; omega)) (tx_clks k (a + 1) (by omega))
theorem tx_lets : ∀ (qs : List (Nat × List Nat)), (∀ q ∈ qs, ltOK c q) → c ≤ 6 → txOK (letsT qs)
  | [], _, _ => fun x hx => absurd hx List.not_mem_nil
  | q :: qs, h, hc => by
    obtain ⟨h1, h2, h3⟩ := h q List.mem_cons_self
    refine txOK_app (xs := letT q) (txOK_app (tx_lit (by decide)) (txOK_app (fun x hx => by simp at hx; omega) (txOK_app (tx_spns _ (fun v hv => ?_)) (tx_lit (by decide))))) (tx_lets qs (fun w hw => h w (List.mem_cons_of_mem _ hw)) hc)
    obtain ⟨j, hj, rfl⟩ := List.mem_iff_getElem.mp hv
    have z := (h3 j (by omega)).1
    rw [List.getD_eq_getElem?_getD, List.getElem?_eq_getElem hj] at z
    exact z
theorem tx_txt (hc0 : 0 < c) (hc : c ≤ 6) : txOK (txt (lvs G) c (lqs G c n)) := by
  refine txOK_app (txOK_app (tx_lit (by decide)) (txOK_app (tx_spns _ (fun v hv => ?_)) (tx_lit (by decide)))) (txOK_app (tx_clks c 0 (by omega)) (tx_lets _ (lqs_ok hc0) hc))
  obtain ⟨j, hj, rfl⟩ := List.mem_iff_getElem.mp hv
  have z := (lvs_ok (G := G)).2 j (by have : (lvs G).length = 7 := rfl; omega)
  rw [List.getD_eq_getElem?_getD, List.getElem?_eq_getElem hj] at z
  exact z.1
theorem txt_len (hc : c ≤ 5) (hn : n ≤ 9) : (txt (lvs G) c (lqs G c n)).length ≤ 250 ∧ (txt (lvs G) c (lqs G c n)).length ≠ 0 := by
  have h1 := hd_len (G := G)
  have h2 := lets_len (G := G) c n
  have h3 := clksT_len c 0
  have h4 : 6 ≤ (hdT (lvs G)).length := by
    unfold hdT
    rw [List.length_append]
    exact Nat.le_add_right 6 _
  unfold txt
  rw [List.length_append, List.length_append]
  omega
end TXK
