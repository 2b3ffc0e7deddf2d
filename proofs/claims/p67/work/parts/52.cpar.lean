/-! THE CLASS'S PARSER: its steps on a state s, from the input's beginning on -/
abbrev zKs : Type := Nat × zTk × zBk × (Nat → Int32)
def xR (I : zM) (s : Nat) (cu : Int32) (r : zKs) : zM := ups (ups (sput I s r.2.2.1 cu) 285 (kF (I 285) r.1 r.2.1)) 287 r.2.2.2
def sep3 (s : Nat) : Prop := s + 24 ≤ 285 ∨ 288 ≤ s
section KRA
variable {I : zM} {s N : Nat} {cu : Int32} {r : zKs}
theorem xR_285 : xR I s cu r 285 = kF (I 285) r.1 r.2.1 := by unfold xR; rw [ups_ne _ _ (by decide), ups_same]
theorem xR_287 : xR I s cu r 287 = r.2.2.2 := ups_same _ _ _
theorem xR_286 (hs : sep3 s) : xR I s cu r 286 = I 286 := by
  unfold xR; rw [ups_ne _ _ (by decide), ups_ne _ _ (by decide)]
  funext x; exact so (by unfold sep3 at hs; omega)
theorem xR_st (hs : sep3 s) {q : Nat} (h1 : s ≤ q) (h2 : q < s + 24) : xR I s cu r q = sput I s r.2.2.1 cu q := by
  unfold xR; unfold sep3 at hs; rw [ups_ne _ _ (by omega), ups_ne _ _ (by omega)]
theorem xR_ot {q : Nat} (h1 : q < s ∨ s + 24 ≤ q) (h2 : q ≠ 285) (h3 : q ≠ 287) : xR I s cu r q = I q := by
  unfold xR; rw [ups_ne _ _ h3, ups_ne _ _ h2]
  funext x; exact so h1
theorem kF_2 {F : zBk} {c : Nat} {t : zTk} {j : Nat} (h : j ≠ 6) (h2 : j ≠ 7) : kF F c t j = tk_put F t j := by
  unfold kF; split
  · rfl
  · unfold fl_put; rw [upd_ne _ _ h2, upd_ne _ _ h]
theorem kF_1 {F : zBk} {c : Nat} {t : zTk} : kF F c t 1 = F 1 := by rw [kF_2 (by decide) (by decide)]; rfl
theorem xR_T (hs : sep3 s) (h1 : I 285 1 = nI N) (hN : N ≤ 600) (hok : tOK (I 286) N r.2.1) : kT (xR I s cu r) N r.2.1 := by
  refine ⟨⟨?_, hN⟩, by rw [xR_286 hs]; exact hok, ?_, ?_, ?_⟩
  · rw [xR_285, kF_1]; exact h1
  · rw [xR_285, kF_2 (by decide) (by decide)]; rfl
  · rw [xR_285, kF_2 (by decide) (by decide)]; rfl
  · rw [xR_285, kF_2 (by decide) (by decide)]; rfl
theorem xR_in {c : Nat} {t : zTk} (h0 : r.1 = 0) : ups (xR I s cu r) 285 (kF (xR I s cu r 285) c t) = xR I s cu (c, t, r.2.2) := by
  rw [xR_285, h0, kF_0, kF_put]
  unfold xR
  rw [ups_sw (show 287 ≠ 285 by decide), ups_ups]
theorem xR_nm {c : Nat} {t : zTk} {A : Nat → Int32} (h0 : r.1 = 0) : ups (ups (xR I s cu r) 285 (kF (xR I s cu r 285) c t)) 287 A = xR I s cu (c, t, r.2.2.1, A) := by
  rw [xR_in h0]
  unfold xR
  rw [ups_ups]
theorem sput_ups {q : Nat} {F : Nat → Int32} {B : zBk} {c : Int32} (h : q < s ∨ s + 24 ≤ q) : sput (ups I q F) s B c = ups (sput I s B c) q F := by
  funext r x
  by_cases e : r = q
  · subst e; rw [ups_same, so h, ups_same]
  · rw [ups_ne _ _ e]
    unfold sput
    rw [ups_ne _ _ e]
/-- the state's block in it changed -/
theorem xR_B (hs : sep3 s) {X : zBk} {cu' : Int32} : sput (xR I s cu r) s X cu' = xR I s cu' (r.1, r.2.1, X, r.2.2.2) := by
  unfold xR
  unfold sep3 at hs
  rw [sput_ups (by omega), sput_ups (by omega), sput_sput]
theorem xR_vB (hs : sep3 s) {k : Nat} (hk : k < 160) : vB (xR I s cu r) s k = r.2.2.1 k := by
  have e : ∀ q, s ≤ q → q < s + 24 → xR I s cu r q = sput I s r.2.2.1 cu q := fun q h1 h2 => xR_st hs h1 h2
  unfold vB
  by_cases h0 : k = 0
  · rw [if_pos h0, e s (by omega) (by omega), sp5, h0]
  rw [if_neg h0]
  by_cases h1 : k ≤ 6
  · rw [if_pos h1, e (s + 1) (by omega) (by omega), spS (by omega)]; exact congrArg r.2.2.1 (by omega)
  rw [if_neg h1]
  by_cases h2 : k = 7
  · rw [if_pos h2, e (s + 2) (by omega) (by omega), spC, h2]
  rw [if_neg h2]
  by_cases h3 : k = 8
  · rw [if_pos h3, e s (by omega) (by omega), sp3, h3]
  rw [if_neg h3]
  by_cases h4 : k = 9
  · rw [if_pos h4, e s (by omega) (by omega), sp4, h4]
  rw [if_neg h4]
  by_cases h5 : k = 10
  · rw [if_pos h5, e s (by omega) (by omega), sp6, h5]
  rw [if_neg h5]
  by_cases h6 : k ≤ 21
  · rw [if_pos h6, e s (by omega) (by omega)]
    unfold sput
    rw [if_pos rfl, if_neg (by omega), if_neg (by omega), if_neg (by omega), if_neg (by omega), if_neg (by omega), if_pos (by omega)]
    exact congrArg r.2.2.1 (by omega)
  rw [if_neg h6]
  by_cases h7 : k < 64
  · rw [if_pos h7]
    by_cases h8 : (k - 22) % 7 = 0
    · rw [if_pos h8, e (s + 10) (by omega) (by omega), spW (by omega)]; exact congrArg r.2.2.1 (by omega)
    · rw [if_neg h8, e (s + 4 + (k - 22) / 7) (by omega) (by omega), spN (by omega) (by omega)]; exact congrArg r.2.2.1 (by omega)
  · rw [if_neg h7, e (s + 12 + (k - 64) / 8) (by omega) (by omega), spL (by omega) (by omega)]
    unfold s_of; exact congrArg r.2.2.1 (by omega)
/-- names are all that a search reads -/
theorem find_cg {B C b : zBk} {fr m c : Nat} (hL : nmL B c) (hm : m ≤ 600) (h : ∀ k, 22 ≤ k → k < 22 + c * 7 → C k = B k) : ∀ k a, a + k ≤ c → tq_find C b fr m a k = tq_find B b fr m a k
  | 0, _, _ => rfl
  | k + 1, a, ha => by
    have e : tq_same C b fr m a = tq_same B b fr m a := by
      obtain ⟨L, hL6, hv⟩ := hL.2 a (by omega)
      have hc6 := hL.1
      unfold tq_same
      rw [h (22 + a * 7) (by omega) (by omega)]
      by_cases e : B (22 + a * 7) = nI m
      · have em : m = L := by rw [hv] at e; exact ((nI_eq (a := L) (b := m) (by omega) (by omega)).mp e).symm
        rw [cm_cg m (fun k hk => by rw [h (22 + a * 7 + 1 + k) (by omega) (by omega)])]
      · rw [decide_eq_false e]; rfl
    unfold tq_find
    rw [e, find_cg hL hm h k (a + 1) (by omega)]
end KRA
section KRB
variable {G : zG} {w : Nat × Nat} {gl : Launch} {I : zM} {s N : Nat} {cu : Int32} {t : zTk} {X : zBk} {A : Nat → Int32}
/-- what the class's parser stands on -/
def pOK (I : zM) (s N : Nat) : Prop := sep3 s ∧ I 285 1 = nI N ∧ N ≤ 600
theorem x_adv (hm : isT w 4 285) (hp : pOK I s N) (hok : tOK (I 286) N t) : CT G w gl (yX4_advance, cX4_advance, 1, none) 1 (0, 0) [.ref 285] (xR I s cu (0, t, X, A)) (qV (fun J => J = xR I s cu (0, tq_nx (I 286) N t, X, A))) nX := by
  have h := k_adv (G := G) (gl := gl) (I := xR I s cu (0, t, X, A)) (t := t) hm (xR_T hp.1 hp.2.1 hp.2.2 hok)
  rw [← kF_0, xR_in rfl, xR_286 hp.1] at h
  exact h
theorem x_word (hm : isT w 4 285) (hp : pOK I s N) (hok : tOK (I 286) N t) {j : Nat} (hj : j < 9) : CT G w gl (yX4_isAtWord, cX4_isAtWord, 3, some .boolean) 4 (0, 0) [.ref 285, .ref (1100 + j)] (xR I s cu (0, t, X, A)) (qE (b2 (tq_isw (I 286) t j)) (xR I s cu (0, t, X, A))) nX := by
  have h := k_isAtWord (G := G) (gl := gl) (I := xR I s cu (0, t, X, A)) (t := t) hm (xR_T hp.1 hp.2.1 hp.2.2 hok) hj
  rw [xR_286 hp.1] at h
  exact h
theorem xR_fl {c : Nat} (hc : c ≠ 0) : ups (xR I s cu (0, t, X, A)) 285 (fl_put (xR I s cu (0, t, X, A) 285) (nI c)) = xR I s cu (c, t, X, A) := by
  have e : fl_put (xR I s cu (0, t, X, A) 285) (nI c) = kF (xR I s cu (0, t, X, A) 285) c t := by
    rw [xR_285]
    show fl_put (kF (I 285) 0 t) (nI c) = kF (kF (I 285) 0 t) c t
    rw [kF_0, kF_put]
    unfold kF
    rw [if_neg hc]
  rw [e, xR_in rfl]
theorem x_fail (hm : isT w 4 285) {c : Nat} (hc : c ≠ 0) : CT G w gl (yX4_fail, cX4_fail, 2, some .boolean) 0 (0, 0) [.ref 285, .int (nI c)] (xR I s cu (0, t, X, A)) (qE 0 (xR I s cu (c, t, X, A))) nX := by
  have h := k_fail (G := G) (gl := gl) (I := xR I s cu (0, t, X, A)) (c := nI c) hm
  rw [xR_fl hc] at h
  exact h
theorem xR_0 : ups (xR I s cu (0, t, X, A)) 285 (tk_put (xR I s cu (0, t, X, A) 285) t) = xR I s cu (0, t, X, A) := by
  rw [← kF_0, xR_in rfl]
theorem x_name (hm : isT w 4 285) (hp : pOK I s N) (hok : tOK (I 286) N t) : CT G w gl (yX4_isAtName, cX4_isAtName, 1, some .boolean) 1 (0, 0) [.ref 285] (xR I s cu (0, t, X, A)) (qE (b2 (decide (tq_short t = 0))) (xR I s cu (tq_short t, t, X, A))) nX := by
  have h := k_isAtName (G := G) (gl := gl) (I := xR I s cu (0, t, X, A)) (t := t) hm (xR_T hp.1 hp.2.1 hp.2.2 hok)
  by_cases e : tq_short t = 0
  · rw [if_pos e] at h; rw [e] at h ⊢; exact h
  · rw [if_neg e, xR_fl e] at h; exact h
theorem x_semi (hm : isT w 4 285) (hp : pOK I s N) (hok : tOK (I 286) N t) : CT G w gl (yX4_takeSemicolon, cX4_takeSemicolon, 1, some .boolean) 2 (0, 0) [.ref 285] (xR I s cu (0, t, X, A)) (qE (b2 (decide (t.1 = 3))) (if t.1 = 3 then xR I s cu (0, tq_nx (I 286) N t, X, A) else xR I s cu (1, t, X, A))) nX := by
  have h := k_takeSemicolon (G := G) (gl := gl) (I := xR I s cu (0, t, X, A)) (t := t) hm (xR_T hp.1 hp.2.1 hp.2.2 hok)
  by_cases e : t.1 = 3
  · rw [if_pos e, ← kF_0, xR_in rfl, xR_286 hp.1] at h; rw [if_pos e]; exact h
  · rw [if_neg e, show (1 : Int32) = nI 1 from rfl, xR_fl (by decide)] at h; rw [if_neg e]; exact h
theorem x_key (hm : isT w 4 285) (hp : pOK I s N) (hok : tOK (I 286) N t) {j : Nat} (hj : j < 9) : CT G w gl (yX4_takeKeyword, cX4_takeKeyword, 2, some .boolean) 5 (0, 0) [.ref 285, .ref (1100 + j)] (xR I s cu (0, t, X, A)) (qE (b2 (tq_isw (I 286) t j)) (if tq_isw (I 286) t j = true then xR I s cu (0, tq_nx (I 286) N t, X, A) else xR I s cu (1, t, X, A))) nX := by
  have h := k_takeKeyword (G := G) (gl := gl) (I := xR I s cu (0, t, X, A)) (t := t) hm (xR_T hp.1 hp.2.1 hp.2.2 hok) hj
  rw [xR_286 hp.1] at h
  by_cases e : tq_isw (I 286) t j = true
  · rw [if_pos e, ← kF_0, xR_in rfl] at h; rw [if_pos e]; exact h
  · rw [if_neg e, show (1 : Int32) = nI 1 from rfl, xR_fl (by decide)] at h; rw [if_neg e]; exact h
theorem x_nums (hm : isT w 4 285) (hp : pOK I s N) (hok : tOK (I 286) N t) {n r1 r2 : Nat} {lo hi : Nat → Int32} (hn : n ≤ 7) (o1 : zSA G r1 n lo) (o2 : zSA G r2 n hi) {q : Nat × zTk × (Nat → Int32)} (hq : q = tq_nums (I 286) N lo hi n 0 t A) : CT G w gl (yX4_takeNumbers, cX4_takeNumbers, 4, some .boolean) 2 (0, 0) [.ref 285, .ref r1, .ref r2] (xR I s cu (0, t, X, A)) (qE (b2 (decide (q.1 = 0))) (xR I s cu (q.1, q.2.1, X, q.2.2))) nX := by
  have h := k_takeNumbers (G := G) (gl := gl) (I := xR I s cu (0, t, X, A)) (t := t) hm (xR_T hp.1 hp.2.1 hp.2.2 hok) hn o1 o2
  rw [xR_286 hp.1, xR_287, xR_nm rfl, ← hq] at h
  exact h
theorem xR_C (hp : pOK I s N) {r : zKs} : xR I s cu r (s + 2) 0 = r.2.2.1 7 := by rw [xR_st hp.1 (by omega) (by omega), spC]
theorem xR_L (hp : pOK I s N) {r : zKs} {c : Nat} (hL : nmL r.2.2.1 c) : nmL (vB (xR I s cu r) s) c := ⟨hL.1, fun a ha => by
  have := hL.1
  rw [xR_vB hp.1 (by omega)]; exact hL.2 a ha⟩
theorem xR_find (hp : pOK I s N) {r : zKs} {c fr m : Nat} {b : zBk} (hL : nmL r.2.2.1 c) (hm : m ≤ 600) : tq_find (vB (xR I s cu r) s) b fr m 0 c = tq_find r.2.2.1 b fr m 0 c :=
  find_cg hL hm (fun k h1 h2 => xR_vB hp.1 (by have := hL.1; omega)) c 0 (by omega)
theorem x_find (hs : isT w 9 s) (hb : isT w 21 286) (hp : pOK I s N) {r : zKs} {c fr m : Nat} (h7 : r.2.2.1 7 = nI c) (hL : nmL r.2.2.1 c) (hfr : fr + m ≤ 600) : CT G w gl (yX0_find, cX0_find, 5, some .int) 1 (0, 0) [.ref (s + 2), .ref 286, .int (nI fr), .int (nI (fr + m))] (xR I s cu r) (qE (tq_find r.2.2.1 (I 286) fr m 0 c) (xR I s cu r)) nX := by
  have h := k_find (G := G) (gl := gl) (I := xR I s cu r) (fr := fr) (m := m) hs hb ((xR_C hp).trans h7) (xR_L hp hL) hfr
  rw [xR_286 hp.1, xR_find hp hL (by omega)] at h
  exact h
theorem clk_cg {B C b : zBk} {c : Nat} (hL : nmL B c) (hN : N ≤ 600) (hok : tOK b N t) (h : ∀ k, 22 ≤ k → k < 22 + c * 7 → C k = B k) : tq_clk C b N c t = tq_clk B b N c t := by
  unfold tq_clk
  rw [find_cg (m := t.2.2.1 - t.2.1) hL (by have := hok.2.2.1; omega) h c 0 (by omega)]
theorem x_clk (hm : isT w 4 285) (hs : isT w 9 s) (hp : pOK I s N) (hok : tOK (I 286) N t) {c : Nat} (h7 : X 7 = nI c) (hL : nmL X c) {q : Int32 × Nat × zTk} (hq : q = tq_clk X (I 286) N c t) : CT G w gl (yX4_takeClerk, cX4_takeClerk, 3, some .int) 2 (0, 0) [.ref 285, .ref (s + 2)] (xR I s cu (0, t, X, A)) (qE q.1 (xR I s cu (q.2.1, q.2.2, X, A))) nX := by
  have h := k_takeClerk (G := G) (gl := gl) (I := xR I s cu (0, t, X, A)) (t := t) hm hs (xR_T hp.1 hp.2.1 hp.2.2 hok) ((xR_C hp).trans h7) (xR_L hp (r := (0, t, X, A)) hL)
  rw [xR_286 hp.1, clk_cg hL hp.2.2 hok (fun k h1 h2 => xR_vB hp.1 (by have := hL.1; omega)), ← hq, xR_in rfl] at h
  exact h
/-- a clerk's name put behind the others -/
def s_clk (X b : zBk) (c fr m : Nat) : zBk := upd (upd (s_nm X b c fr m) (22 + c * 7) (nI m)) 7 (nI (c + 1))
theorem x_addc (hs : isT w 9 s) (hb : isT w 21 286) (hp : pOK I s N) {c fr m : Nat} (h7 : X 7 = nI c) (hc : c < 6) (hm : m ≤ 6) (hfr : fr + m ≤ 600) (hbt : ∀ j, fr ≤ j → j < fr + m → (I 286 j).toInt8.toInt32 = I 286 j) : CT G w gl (yX0_add, cX0_add, 5, none) 0 (0, 0) [.ref (s + 2), .ref 286, .int (nI fr), .int (nI (fr + m))] (xR I s cu (0, t, X, A)) (qV (fun J => J = xR I s cu (0, t, s_clk X (I 286) c fr m, A))) nX := by
  refine ct_of (by decide) [(0, .ref (s + 2)), (1, .ref 286), (2, .int (nI fr)), (3, .int (nI (fr + m)))] rfl rfl (fun K hG hw hgl hwo hK => ?_)
  subst hG; subst hw; subst hgl
  have hlr := hs.lr hwo
  have hcl := hs.clk hwo
  have es : nI (fr + m) - nI fr = nI m := by rw [nI_sub (by omega)]; exact congrArg nI (by omega)
  have e7 : ∀ Y : zBk, Y 7 = nI c → xR I s cu (0, t, Y, A) (s + 2) 0 = nI c := fun Y hY => (xR_C hp).trans hY
  have nle : ¬ (6 : Int32) ≤ xR I s cu (0, t, X, A) (s + 2) 0 := by rw [e7 X h7]; exact fun q => by have := (nI_leI (a := 6) (b := c) (by omega) (by omega)).mp q; omega
  have nm7 : ∀ k, (s_nm X (I 286) c fr k) 7 = nI c := fun k => by rw [nm_far k (by omega)]; exact h7
  have key : ∀ k i, i + k = m → ZZ K (0, 0) 21 [(0, .ref (s + 2)), (1, .ref 286), (2, .int (nI fr)), (3, .int (nI (fr + m))), (4, .int (nI i))] [] (xR I s cu (0, t, s_nm X (I 286) c fr i, A)) := by
    intro k
    induction k with
    | zero =>
      intro i hi
      have le : nI (fr + m) - nI fr ≤ nI i := by rw [es, show i = m by omega]; exact Int32.le_refl _
      refine bX0_add_21 hK hwo hcl hb (fun _ => by rw [e7 _ (nm7 i)]; exact vp_in_nI hc (by omega)) (fun _ => qV_i ?_) (fun q => absurd le q) (fun q => absurd le q) (fun q => absurd le q) (fun q => absurd le q)
      rw [es, e7 _ (nm7 i), nI_clamp (by omega), hlr.2.2.2.2.1, show i = m by omega]
      have e1 : up (xR I s cu (0, t, s_nm X (I 286) c fr m, A)) (s + 10) c (nI m) = xR I s cu (0, t, upd (s_nm X (I 286) c fr m) (22 + c * 7) (nI m), A) := by
        conv => lhs; rw [← xR_B hp.1 (X := s_nm X (I 286) c fr m) (cu := cu) (cu' := cu) (r := (0, t, s_nm X (I 286) c fr m, A))]
        rw [suW (by omega), xR_B hp.1]
      rw [e1, e7 _ (by rw [upd_ne _ _ (by omega)]; exact nm7 m), nI_1]
      conv => lhs; rw [← xR_B hp.1 (X := upd (s_nm X (I 286) c fr m) (22 + c * 7) (nI m)) (cu := cu) (cu' := cu) (r := (0, t, upd (s_nm X (I 286) c fr m) (22 + c * 7) (nI m), A))]
      rw [suC, xR_B hp.1]
      rfl
    | succ k ih =>
      intro i hi
      have nl : ¬ nI (fr + m) - nI fr ≤ nI i := by rw [es]; exact nI_ge (by omega) (by omega)
      refine bX0_add_21 hK hwo hcl hb (fun q => absurd q nl) (fun q => absurd q nl) (fun _ => by rw [e7 _ (nm7 i)]; exact vp_in_nI hc (by omega)) (fun _ => by rw [nI_add]; exact vp_in_nI (by omega) (by omega)) (fun _ => vp_in_nI (by omega) (by omega)) (fun _ => ?_)
      rw [e7 _ (nm7 i), nI_clamp (by omega), hlr.2.2.2.1, hlr.2.2.2.2.2.2 c hc, nI_clamp (by omega), nI_add, nI_clamp (by omega), xR_286 hp.1, hbt _ (by omega) (by omega), nI_1]
      have e1 : up (xR I s cu (0, t, s_nm X (I 286) c fr i, A)) (s + 4 + c) i (I 286 (fr + i)) = xR I s cu (0, t, s_nm X (I 286) c fr (i + 1), A) := by
        conv => lhs; rw [← xR_B hp.1 (X := s_nm X (I 286) c fr i) (cu := cu) (cu' := cu) (r := (0, t, s_nm X (I 286) c fr i, A))]
        rw [suN hc (by omega), xR_B hp.1]
        rfl
      rw [e1]
      exact ih (i + 1) (by omega)
  refine bX0_add_0 hK hwo hcl hb (fun q => absurd q nle) (fun _ _ => ?_) (fun _ q => absurd (by rw [es]; exact (nI_leI (a := m) (b := 6) (by omega) (by omega)).mpr hm) q)
  exact key m 0 (by omega)
/-- an office begun -/
def s_beg (X : zBk) : zBk := upd (upd (upd (upd (upd (upd (upd (upd (upd (upd (upd (upd (upd (upd X 8 0) 9 0) 10 (-1)) 11 (-1)) 12 0) 13 (X 2)) 14 0) 15 0) 16 0) 17 0) 18 0) 19 0) 20 0) 21 0
theorem x_beg (hs : isT w 9 s) (hp : pOK I s N) : CT G w gl (yX9_begin, cX9_begin, 1, none) 0 (0, 0) [.ref s] (xR I s cu (0, t, X, A)) (qV (fun J => J = xR I s (-1) (0, t, s_beg X, A))) nX := by
  refine ct_of (by decide) [(0, .ref s)] rfl rfl (fun K hG hw hgl hwo hK => ?_)
  subst hG; subst hw; subst hgl
  refine bX9_begin_0 hK hwo hs (qV_i ?_)
  conv => lhs; rw [← xR_B hp.1 (X := X) (cu := cu) (cu' := cu) (r := (0, t, X, A))]
  simp only [(hs.lr hwo).1, su3, su4, su6, su7, su8, su9, su10, su11, su12, su13, su14, su15, su16, su17, su18, spS1]
  rw [xR_B hp.1]
  have e : upd (upd (upd (upd (upd X 8 0) 9 0) 10 (-1)) 11 (-1)) 12 0 2 = X 2 := by simp [upd]
  rw [e]
  rfl
end KRB
