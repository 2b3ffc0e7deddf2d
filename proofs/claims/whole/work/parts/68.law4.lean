/-! THE LAW'S LOOP -/
abbrev lLc (i : Int32) : List (Nat × Value) := [(0, .ref 2000), (1, .ref 0), (2, .ref 312), (3, .ref 319), (4, .int i)]
/-- the cases' first instructions -/
def lTg : List Nat := [312, 416, 472, 516, 529, 542, 555, 568, 581, 594, 607, 620, 633, 646, 659, 672, 685, 753, 797, 853, 909, 965, 1021, 1077, 1133, 1189, 1245, 1301, 1364, 1377, 1390, 1446, 1502, 1558, 1571, 1584, 1597, 1641, 1654, 1667, 1680, 1693, 1736, 1777, 1790, 1803, 1859, 1915, 1971, 2027, 2040, 2053, 2157, 2213, 2269, 2337, 2405, 2473, 2529, 2573, 2617, 2673, 2729, 2742]
section LLP
variable {K : zK} {b L : Nat} {xs : Nat → Int32} {Z : lZ}
theorem l_tail (hK : zKl K b L xs Z) {u : Nat × Nat} {I : zM} {i : Int32} (k : ZZ K u 23 (lLc (i + 6)) [] I) : ZZ K u 2798 (lLc i) [] I := by
  have hb := hK.1
  have hnl := hK.2.2.1
  refine zz_iinc (v := i + 6) (L' := lLc (i + 6)) hb (z_dec dL_law25 56 rfl) 4 rfl rfl hnl rfl [1, 2, 3, 4, 0] rfl ?_
  exact zz_goto (tgt := 23) hb (z_dec dL_law25 57 rfl) (by decide) k
theorem l_nI6 {k L : Nat} (hL : L ≤ 3072) (hk : 6 * k ≤ L) : nI (6 * k) + 6 = nI (6 * (k + 1)) := by
  rw [show (6 : Int32) = nI 6 from rfl, nI_add]
  rfl
theorem l_loop (hK : zKl K b L xs Z) (hL : L ≤ 3072) {Inv : zM → Prop} {c0 s0 : Nat}
    (step : ∀ (k : Nat) (u : Nat × Nat) (I : zM), 6 * k + 6 ≤ L → Inv I → u.1 ≤ c0 + 2 * k ∧ u.2 ≤ s0 + 12 * k → (∀ (u' : Nat × Nat) (J : zM), Inv J → u'.1 ≤ c0 + 2 * (k + 1) ∧ u'.2 ≤ s0 + 12 * (k + 1) → ZZ K u' 2798 (lLc (nI (6 * k))) [] J) → ∀ (n t : Nat), lTg[n]? = some t → ZZ K u t (lLc (nI (6 * k))) [] I)
    (kEnd : ∀ (u : Nat × Nat) (I : zM) (i : Int32), u.1 ≤ c0 + 1024 ∧ u.2 ≤ s0 + 6144 → ZZ K u 2805 (lLc i) [.int 1] I) :
    ∀ (f k : Nat) (u : Nat × Nat) (I : zM), k + f = 513 → 6 * k ≤ L → Inv I → u.1 ≤ c0 + 2 * k ∧ u.2 ≤ s0 + 12 * k → ZZ K u 23 (lLc (nI (6 * k))) [] I := by
  have hb := hK.1
  have hnl := hK.2.2.1
  intro f
  induction f with
  | zero => intro k u I hf hk; omega
  | succ f ih =>
    intro k u I hf hk hI hu
    refine zz_iload hb (z_dec dL_law0 13 rfl) 4 rfl ?_
    refine zz_aload_n hb (z_dec dL_law0 14 rfl) rfl 0 rfl ?_
    refine zl_slen hK (z_dec dL_law0 15 rfl) ?_
    refine zz_bipush (v := 6) hb (z_dec dL_law0 16 rfl) (by decide) ?_
    refine zz_isub hb (z_dec dL_law0 17 rfl) ?_
    have e1 : (Int32.ofNat L - 6).toInt = (L : Int) - 6 := by
      have e : Int32.ofNat L = nI L := rfl
      rw [Int32.toInt_sub, e, nI_toInt (by omega)]
      show ((L : Int) - 6).bmod (2 ^ 32) = _
      rw [Int.bmod_eq_of_le (by omega) (by omega)]
    refine zz_icmp_gt (tgt := 2804) hb (z_dec dL_law0 18 rfl) (by decide) (fun c => ?_) (fun c => ?_)
    · refine zz_iconst (v := 1) hb (z_dec dL_law25 58 rfl) (by decide) ?_
      exact kEnd u I _ ⟨by omega, by omega⟩
    · have hk6 : 6 * k + 6 ≤ L := by
        have h2 := Int32.le_iff_toInt_le.mp (Int32.not_lt.mp c)
        rw [e1, nI_toInt (by omega)] at h2
        omega
      have kN : ∀ (u' : Nat × Nat) (J : zM), Inv J → u'.1 ≤ c0 + 2 * (k + 1) ∧ u'.2 ≤ s0 + 12 * (k + 1) → ZZ K u' 2798 (lLc (nI (6 * k))) [] J := fun u' J hJ hu' => l_tail hK (by
        rw [l_nI6 hL hk]
        exact ih (k + 1) u' J (by omega) (by omega) hJ hu')
      refine zz_aload_n hb (z_dec dL_law0 19 rfl) rfl 0 rfl ?_
      refine zz_iload hb (z_dec dL_law0 20 rfl) 4 rfl ?_
      refine zl_sld hK (x := xs (6 * k)) ?_ ?_ (z_dec dL_law0 21 rfl) ?_
      · exact nI_in (by omega) (by omega)
      · rw [nI_clamp (by omega)]
      refine zz_bipush (v := 63) hb (z_dec dL_law0 22 rfl) (by decide) ?_
      refine zz_iand hb (z_dec dL_law0 23 rfl) ?_
      refine zz_tsw (td := 2798) (tg := lTg) hb (z_dec dL_law0 24 rfl) (by decide) rfl (by decide) (fun c2 => ?_) (fun i t hi c2 => ?_)
      · exact kN u I hI ⟨by omega, by omega⟩
      · exact step k u I hk6 hI hu kN i t hi
end LLP
