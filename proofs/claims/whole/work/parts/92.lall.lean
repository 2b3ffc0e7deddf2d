/-! THE LAW'S LOOP keeps the relation (written by wip/gen) -/
section LAL
variable {K : zK} {b L : Nat} {xs : Nat → Int32} {Z : lZ}
theorem st_all (hK : zKl K b L xs Z) (hw : kw K = (0, 320)) (hL : L ≤ 3072) {k : Nat} {u : Nat × Nat} {I : zM} (h6 : 6 * k + 6 ≤ L) (h : Rel I) (hu : u.1 + 2 ≤ 601024 ∧ u.2 + 12 ≤ 7293034) (kN : ∀ (mc : Nat × Nat) (J : zM), mc.1 ≤ 2 → mc.2 ≤ 12 → Rel J → ZZ K (u.1 + mc.1, u.2 + mc.2) 2798 (lLc (nI (6 * k))) [] J) (n t : Nat) (ht : lTg[n]? = some t) : ZZ K u t (lLc (nI (6 * k))) [] I := by
  have v : ∀ q, q ≤ 5 → vp_in (nI (6 * k) + nI q) L := fun q hq => by
    rw [nI_add]
    exact nI_in (by omega) (by omega)
  have v1 : vp_in (nI (6 * k) + 1) L := v 1 (by omega)
  have v2 : vp_in (nI (6 * k) + 2) L := v 2 (by omega)
  have v3 : vp_in (nI (6 * k) + 3) L := v 3 (by omega)
  have v4 : vp_in (nI (6 * k) + 4) L := v 4 (by omega)
  have v5 : vp_in (nI (6 * k) + 5) L := v 5 (by omega)
  match n, ht with
  | 0, ht => obtain rfl : 312 = t := Option.some.inj ht; exact st_0 hK hw v1 v2 v3 v4 v5 hu h kN
  | 1, ht => obtain rfl : 416 = t := Option.some.inj ht; exact st_1 hK hw v1 v2 v3 v4 v5 hu h kN
  | 2, ht => obtain rfl : 472 = t := Option.some.inj ht; exact st_2 hK hw v1 v2 v3 v4 v5 hu h kN
  | 3, ht => obtain rfl : 516 = t := Option.some.inj ht; exact st_3 hK hw v1 v2 v3 v4 v5 hu h kN
  | 4, ht => obtain rfl : 529 = t := Option.some.inj ht; exact st_4 hK hw v1 v2 v3 v4 v5 hu h kN
  | 5, ht => obtain rfl : 542 = t := Option.some.inj ht; exact st_5 hK hw v1 v2 v3 v4 v5 hu h kN
  | 6, ht => obtain rfl : 555 = t := Option.some.inj ht; exact st_6 hK hw v1 v2 v3 v4 v5 hu h kN
  | 7, ht => obtain rfl : 568 = t := Option.some.inj ht; exact st_7 hK hw v1 v2 v3 v4 v5 hu h kN
  | 8, ht => obtain rfl : 581 = t := Option.some.inj ht; exact st_8 hK hw v1 v2 v3 v4 v5 hu h kN
  | 9, ht => obtain rfl : 594 = t := Option.some.inj ht; exact st_9 hK hw v1 v2 v3 v4 v5 hu h kN
  | 10, ht => obtain rfl : 607 = t := Option.some.inj ht; exact st_10 hK hw v1 v2 v3 v4 v5 hu h kN
  | 11, ht => obtain rfl : 620 = t := Option.some.inj ht; exact st_11 hK hw v1 v2 v3 v4 v5 hu h kN
  | 12, ht => obtain rfl : 633 = t := Option.some.inj ht; exact st_12 hK hw v1 v2 v3 v4 v5 hu h kN
  | 13, ht => obtain rfl : 646 = t := Option.some.inj ht; exact st_13 hK hw v1 v2 v3 v4 v5 hu h kN
  | 14, ht => obtain rfl : 659 = t := Option.some.inj ht; exact st_14 hK hw v1 v2 v3 v4 v5 hu h kN
  | 15, ht => obtain rfl : 672 = t := Option.some.inj ht; exact st_15 hK hw v1 v2 v3 v4 v5 hu h kN
  | 16, ht => obtain rfl : 685 = t := Option.some.inj ht; exact st_16 hK hw v1 v2 v3 v4 v5 hu h kN
  | 17, ht => obtain rfl : 753 = t := Option.some.inj ht; exact st_17 hK hw v1 v2 v3 v4 v5 hu h kN
  | 18, ht => obtain rfl : 797 = t := Option.some.inj ht; exact st_18 hK hw v1 v2 v3 v4 v5 hu h kN
  | 19, ht => obtain rfl : 853 = t := Option.some.inj ht; exact st_19 hK hw v1 v2 v3 v4 v5 hu h kN
  | 20, ht => obtain rfl : 909 = t := Option.some.inj ht; exact st_20 hK hw v1 v2 v3 v4 v5 hu h kN
  | 21, ht => obtain rfl : 965 = t := Option.some.inj ht; exact st_21 hK hw v1 v2 v3 v4 v5 hu h kN
  | 22, ht => obtain rfl : 1021 = t := Option.some.inj ht; exact st_22 hK hw v1 v2 v3 v4 v5 hu h kN
  | 23, ht => obtain rfl : 1077 = t := Option.some.inj ht; exact st_23 hK hw v1 v2 v3 v4 v5 hu h kN
  | 24, ht => obtain rfl : 1133 = t := Option.some.inj ht; exact st_24 hK hw v1 v2 v3 v4 v5 hu h kN
  | 25, ht => obtain rfl : 1189 = t := Option.some.inj ht; exact st_25 hK hw v1 v2 v3 v4 v5 hu h kN
  | 26, ht => obtain rfl : 1245 = t := Option.some.inj ht; exact st_26 hK hw v1 v2 v3 v4 v5 hu h kN
  | 27, ht => obtain rfl : 1301 = t := Option.some.inj ht; exact st_27 hK hw v1 v2 v3 v4 v5 hu h kN
  | 28, ht => obtain rfl : 1364 = t := Option.some.inj ht; exact st_28 hK hw v1 v2 v3 v4 v5 hu h kN
  | 29, ht => obtain rfl : 1377 = t := Option.some.inj ht; exact st_29 hK hw v1 v2 v3 v4 v5 hu h kN
  | 30, ht => obtain rfl : 1390 = t := Option.some.inj ht; exact st_30 hK hw v1 v2 v3 v4 v5 hu h kN
  | 31, ht => obtain rfl : 1446 = t := Option.some.inj ht; exact st_31 hK hw v1 v2 v3 v4 v5 hu h kN
  | 32, ht => obtain rfl : 1502 = t := Option.some.inj ht; exact st_32 hK hw v1 v2 v3 v4 v5 hu h kN
  | 33, ht => obtain rfl : 1558 = t := Option.some.inj ht; exact st_33 hK hw v1 v2 v3 v4 v5 hu h kN
  | 34, ht => obtain rfl : 1571 = t := Option.some.inj ht; exact st_34 hK hw v1 v2 v3 v4 v5 hu h kN
  | 35, ht => obtain rfl : 1584 = t := Option.some.inj ht; exact st_35 hK hw v1 v2 v3 v4 v5 hu h kN
  | 36, ht => obtain rfl : 1597 = t := Option.some.inj ht; exact st_36 hK hw v1 v2 v3 v4 v5 hu h kN
  | 37, ht => obtain rfl : 1641 = t := Option.some.inj ht; exact st_37 hK hw v1 v2 v3 v4 v5 hu h kN
  | 38, ht => obtain rfl : 1654 = t := Option.some.inj ht; exact st_38 hK hw v1 v2 v3 v4 v5 hu h kN
  | 39, ht => obtain rfl : 1667 = t := Option.some.inj ht; exact st_39 hK hw v1 v2 v3 v4 v5 hu h kN
  | 40, ht => obtain rfl : 1680 = t := Option.some.inj ht; exact st_40 hK hw v1 v2 v3 v4 v5 hu h kN
  | 41, ht => obtain rfl : 1693 = t := Option.some.inj ht; exact st_41 hK hw v1 v2 v3 v4 v5 hu h kN
  | 42, ht => obtain rfl : 1736 = t := Option.some.inj ht; exact st_42 hK hw v1 v2 v3 v4 v5 hu h kN
  | 43, ht => obtain rfl : 1777 = t := Option.some.inj ht; exact st_43 hK hw v1 v2 v3 v4 v5 hu h kN
  | 44, ht => obtain rfl : 1790 = t := Option.some.inj ht; exact st_44 hK hw v1 v2 v3 v4 v5 hu h kN
  | 45, ht => obtain rfl : 1803 = t := Option.some.inj ht; exact st_45 hK hw v1 v2 v3 v4 v5 hu h kN
  | 46, ht => obtain rfl : 1859 = t := Option.some.inj ht; exact st_46 hK hw v1 v2 v3 v4 v5 hu h kN
  | 47, ht => obtain rfl : 1915 = t := Option.some.inj ht; exact st_47 hK hw v1 v2 v3 v4 v5 hu h kN
  | 48, ht => obtain rfl : 1971 = t := Option.some.inj ht; exact st_48 hK hw v1 v2 v3 v4 v5 hu h kN
  | 49, ht => obtain rfl : 2027 = t := Option.some.inj ht; exact st_49 hK hw v1 v2 v3 v4 v5 hu h kN
  | 50, ht => obtain rfl : 2040 = t := Option.some.inj ht; exact st_50 hK hw v1 v2 v3 v4 v5 hu h kN
  | 51, ht => obtain rfl : 2053 = t := Option.some.inj ht; exact st_51 hK hw v1 v2 v3 v4 v5 hu h kN
  | 52, ht => obtain rfl : 2157 = t := Option.some.inj ht; exact st_52 hK hw v1 v2 v3 v4 v5 hu h kN
  | 53, ht => obtain rfl : 2213 = t := Option.some.inj ht; exact st_53 hK hw v1 v2 v3 v4 v5 hu h kN
  | 54, ht => obtain rfl : 2269 = t := Option.some.inj ht; exact st_54 hK hw v1 v2 v3 v4 v5 hu h kN
  | 55, ht => obtain rfl : 2337 = t := Option.some.inj ht; exact st_55 hK hw v1 v2 v3 v4 v5 hu h kN
  | 56, ht => obtain rfl : 2405 = t := Option.some.inj ht; exact st_56 hK hw v1 v2 v3 v4 v5 hu h kN
  | 57, ht => obtain rfl : 2473 = t := Option.some.inj ht; exact st_57 hK hw v1 v2 v3 v4 v5 hu h kN
  | 58, ht => obtain rfl : 2529 = t := Option.some.inj ht; exact st_58 hK hw v1 v2 v3 v4 v5 hu h kN
  | 59, ht => obtain rfl : 2573 = t := Option.some.inj ht; exact st_59 hK hw v1 v2 v3 v4 v5 hu h kN
  | 60, ht => obtain rfl : 2617 = t := Option.some.inj ht; exact st_60 hK hw v1 v2 v3 v4 v5 hu h kN
  | 61, ht => obtain rfl : 2673 = t := Option.some.inj ht; exact st_61 hK hw v1 v2 v3 v4 v5 hu h kN
  | 62, ht => obtain rfl : 2729 = t := Option.some.inj ht; exact st_62 hK hw v1 v2 v3 v4 v5 hu h kN
  | 63, ht => obtain rfl : 2742 = t := Option.some.inj ht; exact st_63 hK hw v1 v2 v3 v4 v5 hu h kN
  | n + 64, ht => exact absurd ht (by simp [lTg])
theorem l_all (hK : zKl K b L xs Z) (hw : kw K = (0, 320)) (hL : L ≤ 3072) {u : Nat × Nat} {I : zM} (h : Rel I) (hu : u.1 ≤ 400 ∧ u.2 ≤ 100000) (kEnd : ∀ (u : Nat × Nat) (I : zM) (i : Int32), u.1 ≤ 1424 ∧ u.2 ≤ 106144 → ZZ K u 2805 (lLc i) [.int 1] I) : ZZ K u 23 (lLc 0) [] I := by
  refine l_loop hK hL (Inv := Rel) (c0 := 400) (s0 := 100000) (fun k u I h6 hI hu kN n t ht => ?_) kEnd 513 0 u I (by omega) (by omega) h hu
  exact st_all hK hw hL h6 hI ⟨by omega, by omega⟩ (fun mc J a1 a2 hJ => kN _ J hJ ⟨by show u.1 + mc.1 ≤ _; omega, by show u.2 + mc.2 ≤ _; omega⟩) n t ht
end LAL
