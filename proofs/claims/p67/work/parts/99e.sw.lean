/-! THE LAW FROM ITS ENTRY TO ITS LOOP: into the loop's world -/
theorem zt_312 : LT 312 = 11 := by decide +kernel
theorem zt_313 : LT 313 = 20 ∧ LL 313 = 12 := by decide +kernel
theorem zt_314 : LT 314 = 20 ∧ LL 314 = 12 := by decide +kernel
theorem zt_315 : LT 315 = 20 ∧ LL 315 = 12 := by decide +kernel
theorem zs_312 : (∀ k, k < 5 → sT 11 k ≠ 0) ∧ (∀ k, k < 17 → 5 ≤ k → sT 11 k = 0) ∧ nF 11 = 17 ∧ LR 312 0 = 0 ∧ LR 312 1 = 1400 ∧ LR 312 2 = 313 ∧ LR 312 3 = 314 ∧ LR 312 4 = 315 := by decide +kernel
/-- the run's constants in the loop -/
def gL (G : zG) (o r1 r2 r3 : Nat) : zG := (gD G, gA G, (fun r => if r < 312 then gad G r else if r = 312 then o else if r = 313 then r1 else if r = 314 then r2 else if r = 315 then r3 else if r < 321 then o + r1 + r2 + r3 + r else gad G r), gb G, gx G, gs G, gt G)
/-- the memory at the loop's begin -/
def mL (J : zM) : zM := fun r => if r < 312 then J r else if r = 312 then (fun k => if k = 8 then -1 else 0) else fun _ => 0
/-- what the law has read at the loop's begin -/
def bL0 : zBk := fun k => if k = 11 then -1 else 0
section GL
variable {G : zG} {o r1 r2 r3 : Nat} {J : zM}
theorem gL_lo {r : Nat} (h : r < 312) : gad (gL G o r1 r2 r3) r = gad G r := if_pos h
theorem gL_12 : gad (gL G o r1 r2 r3) 312 = o := rfl
theorem gL_13 : gad (gL G o r1 r2 r3) 313 = r1 := rfl
theorem gL_14 : gad (gL G o r1 r2 r3) 314 = r2 := rfl
theorem gL_15 : gad (gL G o r1 r2 r3) 315 = r3 := rfl
theorem gL_mid {r : Nat} (h1 : 316 ≤ r) (h2 : r < 321) : gad (gL G o r1 r2 r3) r = o + r1 + r2 + r3 + r := by
  show (if r < 312 then gad G r else if r = 312 then o else if r = 313 then r1 else if r = 314 then r2 else if r = 315 then r3 else if r < 321 then o + r1 + r2 + r3 + r else gad G r) = _
  rw [if_neg (by omega), if_neg (by omega), if_neg (by omega), if_neg (by omega), if_neg (by omega), if_pos h2]
theorem gL_hi {r : Nat} (h1 : 321 ≤ r) : gad (gL G o r1 r2 r3) r = gad G r := by
  show (if r < 312 then gad G r else if r = 312 then o else if r = 313 then r1 else if r = 314 then r2 else if r = 315 then r3 else if r < 321 then o + r1 + r2 + r3 + r else gad G r) = _
  rw [if_neg (by omega), if_neg (by omega), if_neg (by omega), if_neg (by omega), if_neg (by omega), if_neg (by omega)]
theorem gL_ok (hfr : qFr G) (hlow : lowOK G o) (ho : gb G ≤ o) (hd : o < r1 ∧ o < r2 ∧ o < r3 ∧ r1 ≠ r2 ∧ r1 ≠ r3 ∧ r2 ≠ r3) : zGok (gL G o r1 r2 r3) := by
  have v : ∀ r, r < 321 → (r < 312 ∧ gad (gL G o r1 r2 r3) r = gad G r ∧ gad G r < o ∧ gb G ≤ gad G r) ∨ (r = 312 ∧ gad (gL G o r1 r2 r3) r = o) ∨ (r = 313 ∧ gad (gL G o r1 r2 r3) r = r1) ∨ (r = 314 ∧ gad (gL G o r1 r2 r3) r = r2) ∨ (r = 315 ∧ gad (gL G o r1 r2 r3) r = r3) ∨ (316 ≤ r ∧ gad (gL G o r1 r2 r3) r = o + r1 + r2 + r3 + r) := fun r hr => by
    by_cases a : r < 312
    · exact Or.inl ⟨a, gL_lo a, (hlow.1 r a).2, (hlow.1 r a).1⟩
    by_cases b : 316 ≤ r
    · exact Or.inr (Or.inr (Or.inr (Or.inr (Or.inr ⟨b, gL_mid b hr⟩))))
    have c : r = 312 ∨ r = 313 ∨ r = 314 ∨ r = 315 := by omega
    rcases c with rfl | rfl | rfl | rfl
    · exact Or.inr (Or.inl ⟨rfl, rfl⟩)
    · exact Or.inr (Or.inr (Or.inl ⟨rfl, rfl⟩))
    · exact Or.inr (Or.inr (Or.inr (Or.inl ⟨rfl, rfl⟩)))
    · exact Or.inr (Or.inr (Or.inr (Or.inr (Or.inl ⟨rfl, rfl⟩))))
  refine ⟨fun r q hr hq e => ?_, fun r hr => hfr _ ?_⟩
  · rcases v r hr with ⟨a1, a2, a3, -⟩ | ⟨a1, a2⟩ | ⟨a1, a2⟩ | ⟨a1, a2⟩ | ⟨a1, a2⟩ | ⟨a1, a2⟩ <;> rcases v q hq with ⟨c1, c2, c3, -⟩ | ⟨c1, c2⟩ | ⟨c1, c2⟩ | ⟨c1, c2⟩ | ⟨c1, c2⟩ | ⟨c1, c2⟩ <;> rw [a2, c2] at e <;> first | exact hlow.2 r q a1 c1 e | omega
  · rcases v r hr with ⟨-, a2, -, a4⟩ | ⟨-, a2⟩ | ⟨-, a2⟩ | ⟨-, a2⟩ | ⟨-, a2⟩ | ⟨-, a2⟩ <;> rw [a2] <;> omega
theorem mL_lo {r : Nat} (h : r < 312) : mL J r = J r := if_pos h
theorem mL_12 : mL J 312 = fun k => if k = 8 then -1 else 0 := rfl
theorem mL_hi {r : Nat} (h : 313 ≤ r) : mL J r = fun _ => 0 := by
  unfold mL
  rw [if_neg (by omega), if_neg (by omega)]
theorem zP_L {D : va_G} {H : Heap} (h1 : va_P D vwCl (zw G (0, 312) J) H) (h2 : va_P D vwCl [(r3, i12 G), (r2, i12 G), (r1, i12 G), (o, .inr (10, ofF (gad G 0) (gad G 1400) r1 r2 r3))] H) : va_P D vwCl (zw (gL G o r1 r2 r3) (0, 316) (mL J)) H := by
  intro k q hk
  have hl : k < 316 := by
    have := (List.getElem?_eq_some_iff.mp hk).1
    unfold zw at this
    simpa using this
  have hz := zw_at (G := gL G o r1 r2 r3) (w := (0, 316)) (I := mL J) (r := k) (Nat.zero_le _) hl
  rw [Nat.sub_zero, hk] at hz
  have hz := Option.some.inj hz
  rw [hz]
  by_cases a : k < 312
  · rw [gL_lo a, mL_lo a]
    have z := zP_cg (G := G) (G' := gL G o r1 r2 r3) (M := J) w312 rfl (fun r _ y => gL_lo y) (fun r _ y k hk h4 => absurd (sT_40b r (by have : r < 312 := y; omega) k hk h4).2 (by have : r < 312 := y; omega)) h1 k _ (zw_at (w := (0, 312)) (r := k) (Nat.zero_le _) a)
    rw [gL_lo a] at z
    exact z
  have c : k = 312 ∨ k = 313 ∨ k = 314 ∨ k = 315 := by omega
  have arr : ∀ {r : Nat}, LT r = 20 ∧ LL r = 12 → 313 ≤ r → zc (gL G o r1 r2 r3) r (mL J r) = i12 G := fun h hr => by
    unfold zc
    rw [h.1, h.2, if_neg (by decide), if_pos (by decide), mL_hi hr]
    rfl
  rcases c with rfl | rfl | rfl | rfl
  · have e : zc (gL G o r1 r2 r3) 312 (mL J 312) = .inr (10, ofF (gad G 0) (gad G 1400) r1 r2 r3) := by
      obtain ⟨s1, s2, s3, l0, l1, l2, l3, l4⟩ := zs_312
      have a1 : ∀ k, k < 5 → zf (gL G o r1 r2 r3) 312 (mL J 312) k = .ref (gad (gL G o r1 r2 r3) (LR 312 k)) := fun k hk => by
        unfold zf
        rw [zt_312, if_neg (s1 k hk)]
      have a2 : ∀ k, k < 17 → 5 ≤ k → zf (gL G o r1 r2 r3) 312 (mL J 312) k = .int (if k = 8 then -1 else 0) := fun k hk h5 => by
        unfold zf
        rw [zt_312, if_pos (s2 k hk h5)]
        rfl
      unfold zc
      rw [zt_312, if_pos (by decide), s3]
      show (Sum.inr (10, [zf _ 312 (mL J 312) 0, zf _ 312 (mL J 312) 1, zf _ 312 (mL J 312) 2, zf _ 312 (mL J 312) 3, zf _ 312 (mL J 312) 4, zf _ 312 (mL J 312) 5, zf _ 312 (mL J 312) 6, zf _ 312 (mL J 312) 7, zf _ 312 (mL J 312) 8, zf _ 312 (mL J 312) 9, zf _ 312 (mL J 312) 10, zf _ 312 (mL J 312) 11, zf _ 312 (mL J 312) 12, zf _ 312 (mL J 312) 13, zf _ 312 (mL J 312) 14, zf _ 312 (mL J 312) 15, zf _ 312 (mL J 312) 16]) : va_E) = _
      rw [a1 0 (by decide), a1 1 (by decide), a1 2 (by decide), a1 3 (by decide), a1 4 (by decide), a2 5 (by decide) (by decide), a2 6 (by decide) (by decide), a2 7 (by decide) (by decide), a2 8 (by decide) (by decide), a2 9 (by decide) (by decide), a2 10 (by decide) (by decide), a2 11 (by decide) (by decide), a2 12 (by decide) (by decide), a2 13 (by decide) (by decide), a2 14 (by decide) (by decide), a2 15 (by decide) (by decide), a2 16 (by decide) (by decide), l0, l1, l2, l3, l4]
      rfl
    rw [e]
    exact h2 3 _ rfl
  · rw [arr zt_313 (Nat.le_refl _)]
    exact h2 2 _ rfl
  · rw [arr zt_314 (by decide)]
    exact h2 1 _ rfl
  · rw [arr zt_315 (by decide)]
    exact h2 0 _ rfl
theorem of_b0 {l f : Nat} : s_of bL0 l f = 0 := if_neg (by omega)
theorem oV_L : oV (mL J) bL0 := by
  refine ⟨rfl, fun x h1 h2 => ?_, fun k _ => ⟨?_, ?_, ?_⟩⟩
  · rw [mL_12]
    show (if x = 8 then (-1 : Int32) else 0) = if x + 3 = 11 then -1 else 0
    by_cases e : x = 8
    · rw [if_pos e, if_pos (by omega)]
    · rw [if_neg e, if_neg (by omega)]
  · rw [of_b0, mL_hi (by decide)]
  · rw [of_b0, mL_hi (by decide)]
  · rw [of_b0, mL_hi (by decide)]
theorem PR_L {L : zBk} {n c : Nat} (h : PR G J L n c 0) : PR (gL G o r1 r2 r3) (mL J) L n c 0 := by
  obtain ⟨h1, h2, h3, h4, h5⟩ := h
  refine ⟨?_, by rw [mL_lo (by decide)]; exact h2, by rw [mL_lo (by decide)]; exact h3, fun i a1 a2 => (h4 i a1 a2).trans (congrArg nI (stg_cg (G := gL G o r1 r2 r3) (G' := G) rfl)), h5⟩
  rw [mL_lo (by decide)]
  exact h1.cgC2 (fun k hk => vB_k (fun r a1 a2 => mL_lo (by omega)) hk)
theorem rd_L {L : zBk} {n c : Nat} (h : PR G J L n c 0) (h11 : L 11 = -1) (h12 : L 12 = 0) (hz : ∀ l f, n ≤ l → l < 12 → f < 8 → s_of L l f = 0) : rdOK bL0 L n := by
  refine ⟨h11, h12, fun l hl => ?_, fun l h1 h2 => ⟨(hz l 5 h1 h2 (by decide)).trans of_b0.symm, (hz l 6 h1 h2 (by decide)).trans of_b0.symm⟩⟩
  rw [of_b0]
  by_cases q : l < n
  · obtain ⟨-, -, v, hv, e⟩ := h.2.2.2.2.2.2.1 l q
    rw [e, show v = 0 by omega]
    rfl
  · exact hz l 7 (by omega) hl (by decide)
end GL
theorem rr_loop {G : zG} {l : Launch} {b Lz n c o r1 r2 r3 : Nat} {xs : Nat → Int32} {Z : lZ} {u : Nat × Nat} {J : zM} {L : zBk} {x y : Value} (hfr : qFr G) (hlow : lowOK G o) (ho : gb G ≤ o) (hd : o < r1 ∧ o < r2 ∧ o < r3 ∧ r1 ≠ r2 ∧ r1 ≠ r3 ∧ r2 ≠ r3) (hL : (gs G).1 ≤ 260) (hu : u.1 ≤ 600086 ∧ u.2 ≤ 7301442) (h : PR G J L n c 0) (h11 : L 11 = -1) (h12 : L 12 = 0) (hz : ∀ l f, n ≤ l → l < 12 → f < 8 → s_of L l f = 0)
    (hend : ∀ (G' : zG) (I : zM) (Lc : List (Nat × Value)), (∀ q, gF G' q → gb G ≤ q) → ZZ (G', (0, 316), RL, code, 10, l, room_1, phL G' b Lz xs Z) u 189 Lc [.int 1] I) :
    RR (G, (0, 0), RL, code, 10, l, room_1, phL G b Lz xs Z) u 63 [(5, .int 0), (4, .ref o), (3, x), (2, y), (1, .ref (gad G 0)), (0, .ref (gad G 1400))] [] (fun H => va_P (gD G) vwCl (zw G (0, 312) J) H ∧ va_P (gD G) vwCl [(r3, i12 G), (r2, i12 G), (r1, i12 G), (o, .inr (10, ofF (gad G 0) (gad G 1400) r1 r2 r3))] H) := by
  have z := l_loop (K := (gL G o r1 r2 r3, (0, 316), RL, code, 10, l, room_1, phL (gL G o r1 r2 r3) b Lz xs Z)) (b := b) (Lz := Lz) (xs := xs) (Z := Z) (u := u) ⟨rfl, rfl, rfl, rfl, rfl⟩ ⟨⟨Nat.zero_le _, show 0 < 316 by decide⟩, by decide +kernel⟩ ⟨⟨Nat.zero_le _, show 288 < 316 by decide⟩, by decide +kernel⟩ ⟨⟨Nat.zero_le _, show 312 < 316 by decide⟩, zt_312⟩ hL hu (fun I Lc => hend _ I Lc (fun q h => h.1)) 24 0 (mL J) L bL0 n c 0 rfl (PR_L h) oV_L (rd_L h h11 h12 hz) (Nat.zero_le _)
  intro p e s m args below meth c Q H locs ls B hq hP hl hS
  obtain ⟨b1, b2, b3, hts, hown, b6, hKK, hO1, hbs, hG, hw, hst9⟩ := B
  refine z p e s m args below meth c Q H locs ls ⟨b1, b2, b3, hts, hown, b6, hKK, zOld_mono (G := G) (fun r hr => gL_hi (by omega)) (fun q h => h) rfl rfl hO1, hbs, gL_ok hfr hlow ho hd, w316, hst9⟩ hq (zP_L hP.1 hP.2) ?_ hS
  exact lv_sub hl [0, 1, 4, 5] rfl
