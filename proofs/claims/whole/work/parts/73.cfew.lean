/-! THE CLASS: fewestLate; an array made for one call -/
/-- other addresses for roles that nothing below our cells speaks of -/
theorem zOld_G {G G' : zG} {s : State} (hD : gb G' = gb G) (h : ∀ r, 1000 ≤ r → gad G' r = gad G r) (z : zOld G s) : zOld G' s := by
  have e : ∀ r, 1000 ≤ r → gad G r = gad G' r := fun r hr => (h r hr).symm
  have hl : zLdc.all (fun q => Nat.ble 1000 q.2.2.2) = true := by decide +kernel
  have f1 : (fun j => gad G (1100 + j)) = fun j => gad G' (1100 + j) := funext fun j => e _ (by omega)
  have f2 : (fun j => gad G (1200 + j)) = fun j => gad G' (1200 + j) := funext fun j => e _ (by omega)
  obtain ⟨⟨a1, a2, a3, a4, a5⟩, ⟨b1, b2, b3, b4, b5, b6, b7, b8, b9, b10⟩, c1, d1, n1, x1, g1, g2, e1, e2⟩ := z
  have st : ∀ {C n : String} {r N : Nat} {f : Nat → Int32}, 1000 ≤ r → zSt G C n r N f s → zSt G' C n r N f s := fun hr z => by
    unfold zSt at z ⊢
    rw [hD, h _ hr]
    exact z
  have ft : ∀ {n : String} {r : Nat}, 1000 ≤ r → zFt G n r s → zFt G' n r s := fun hr z => by
    unfold zFt at z ⊢
    rw [hD, h _ hr]
    exact z
  rw [f1, f2] at c1
  rw [e 1000 (by omega), e 1001 (by omega)] at b5
  rw [e 1000 (by omega), e 1002 (by omega)] at b6
  rw [e 1000 (by omega), e 1003 (by omega)] at b7
  rw [e 1001 (by omega), e 1002 (by omega)] at b8
  rw [e 1001 (by omega), e 1003 (by omega)] at b9
  rw [e 1002 (by omega), e 1003 (by omega)] at b10
  rw [e 1300 (by omega)] at g2
  unfold zOld
  rw [hD]
  refine ⟨⟨st (by omega) a1, st (by omega) a2, st (by omega) a3, st (by omega) a4, st (by omega) a5⟩, ⟨ft (by omega) b1, ft (by omega) b2, ft (by omega) b3, ft (by omega) b4, b5, b6, b7, b8, b9, b10⟩, c1, fun q hq => ?_, n1, x1, g1, g2, e1, e2⟩
  rw [h _ (Nat.le_of_ble_eq_true (List.all_eq_true.mp hl q hq))]
  exact d1 q hq
theorem zLR_lt (r k : Nat) : LR r k < 320 := by
  have h : zLR.all (fun l => l.all (fun x => Nat.blt x 320)) = true := by decide +kernel
  unfold LR
  rw [List.getD_eq_getElem?_getD, List.getD_eq_getElem?_getD]
  cases h1 : zLR[r]? with
  | none => simp
  | some l =>
    cases h2 : l[k]? with
    | none => simp [h2]
    | some x =>
      simp only [Option.getD_some, h2]
      exact Nat.blt_eq.mp (List.all_eq_true.mp (List.all_eq_true.mp h l (List.mem_of_getElem? h1)) x (List.mem_of_getElem? h2))
theorem zc_G {G G' : zG} {r : Nat} {f : Nat → Int32} (hA : gA G' = gA G) (h : ∀ q, q < 320 → gad G' q = gad G q) : zc G' r f = zc G r f := by
  have e : ∀ k, gad G' (LR r k) = gad G (LR r k) := fun k => h _ (zLR_lt r k)
  have hf : zf G' r f = zf G r f := by
    funext k
    unfold zf
    rw [e k]
  have hk : (fun k => some (gad G' (LR r k))) = fun k => some (gad G (LR r k)) := funext fun k => by rw [e k]
  unfold zc
  rw [hf, hA, hk]
theorem zw_G {G G' : zG} {w : Nat × Nat} {I : zM} (hA : gA G' = gA G) (hw : w.2 ≤ 320) (h : ∀ q, q < 320 → gad G' q = gad G q) : zw G' w I = zw G w I := by
  unfold zw
  apply List.map_congr_left
  intro i hi
  have := List.mem_range.mp hi
  rw [zc_G hA h, h _ (by omega)]
theorem zw_snoc {G : zG} {a b : Nat} {I : zM} (h : a ≤ b) : zw G (a, b + 1) I = zw G (a, b) I ++ [(gad G b, zc G b (I b))] := by
  unfold zw
  show (List.range (b + 1 - a)).map _ = _
  rw [show b + 1 - a = (b - a) + 1 by omega, List.range_succ, List.map_append]
  show _ ++ [(gad G (a + (b - a)), zc G (a + (b - a)) (I (a + (b - a))))] = _
  rw [show a + (b - a) = b by omega]
theorem zw_below {G : zG} {w : Nat × Nat} {I J : zM} (h : ∀ r, r < w.2 → I r = J r) : zw G w I = zw G w J := by
  unfold zw
  apply List.map_congr_left
  intro i hi
  have := List.mem_range.mp hi
  rw [h _ (by omega)]
theorem ac_int : Cond.arrayClass .int ∈ TG := tg_of (by decide +kernel) (by decide +kernel)
def gN (G : zG) (h : Nat) : zG := (gD G, gA G, fun r => if r = 320 then h else gad G r, gb G)
theorem gN_lt {G : zG} {h q : Nat} (hq : q ≠ 320) : gad (gN G h) q = gad G q := if_neg hq
/-- the array of one call: made behind all our cells, forgotten at the end -/
theorem zz_newI {K : zK} {u mc : Nat × Nat} {pc d : Nat} {I : zM} {cc : ByteArray} {P : Option Value → zM → Prop} {X : String → zM → Prop} {f0 : Nat → Int32} (hb : kcc K = cc) (hw9 : kw K = (0, 320)) (hR : kR K = zR d mc) (hE : zEnd K (some .int) mc P X) (hd : decode cc pc = .ok (.newarray .int, 2)) (hu : u.1 + 1 ≤ mc.1 ∧ u.2 + 12 ≤ mc.2)
    (kk : ∀ h : Nat, ZZ (gN (kG K) h, (0, 321), kown K, kcc K, knL K, kl K, kR K, phS (gN (kG K) h) (0, 321) (some .int) mc (fun v J => (∃ x, v = some (.int x)) ∧ P v (ups J 320 f0)) nX) (u.1 + 1, u.2 + 12) (pc + 2) [(0, .ref 0)] [.ref 320] (ups I 320 (fun _ => 0))) : ZZ K u pc [(0, .ref 0)] [.int 12] I := by
  intro p e s m args below meth c Q H locs ls B hq hP hl hS
  obtain ⟨b1, b2, b3, hts, hown, b6, hK, hO1, hb0, hG, hw, hst⟩ := B
  rw [hE] at hq
  obtain ⟨hr9, ht9, rfl⟩ := hq
  rw [hw9] at hP
  have hbH : gb (kG K) ≤ H.size := Nat.le_trans hb0 hS.1
  have hr1 : u.1 + 1 ≤ (kR K).cells := by rw [hR]; exact hu.1
  have hr2 : u.2 + 12 ≤ (kR K).slots := by rw [hR]; exact hu.2
  refine va_newaK (N := 12) b1 (b2.trans hb) (g := F0 m pc ls [.int 12]) (atype := .int) (hts _ ac_int) rfl hd rfl (by decide) (by decide) (by decide) hr1 hr2 rfl fun H1 cA e1 z1 o1 hAr hNm => ?_
  have hcA : cA = gA (kG K) 20 := by
    have h1 := (hK.2 0 (gA (kG K) 20, .int) rfl).2
    have h2 : s.vm.findClass ("[" ++ FieldType.int.toString) = some (gA (kG K) 20) := h1
    exact Option.some.inj (hNm.symm.trans h2)
  have hlt : ∀ r, r < 320 → gad (kG K) r < H.size := fun r hr => by
    have h1 := zw_at (G := kG K) (w := (0, 320)) (I := I) (r := r) (Nat.zero_le _) hr
    exact (hP _ _ h1).lt
  have hadr : gad (gN (kG K) H.size) 320 = H.size := (if_pos rfl : (if (320 : Nat) = 320 then H.size else gad (kG K) 320) = H.size)
  have hGok : zGok (gN (kG K) H.size) := by
    refine ⟨fun r q hr hq he => ?_, fun r hr => ?_⟩
    · have hr' : r < 321 := hr
      have hq' : q < 321 := hq
      by_cases h1 : r = 320
      · by_cases h2 : q = 320
        · omega
        · subst h1
          rw [hadr, gN_lt h2] at he
          have := hlt q (by omega)
          omega
      · by_cases h2 : q = 320
        · subst h2
          rw [hadr, gN_lt h1] at he
          have := hlt r (by omega)
          omega
        · rw [gN_lt h1, gN_lt h2] at he
          exact hG.1 r q hr hq he
    · by_cases h1 : r = 320
      · subst h1; rw [hadr]; exact hbH
      · rw [gN_lt h1]; exact hG.2 r hr
  have hOld : zOld (gN (kG K) H.size) s := zOld_G (G := kG K) rfl (fun r hr => gN_lt (by omega)) hO1
  have hwok : wOK (0, 321) := by
    refine ⟨Nat.le_refl _, fun r _ hr k hk h0 => ⟨Nat.zero_le _, Nat.lt_succ_of_lt (zLR_lt r k)⟩⟩
  have eW : zw (gN (kG K) H.size) (0, 321) (ups I 320 (fun _ => 0)) = zw (kG K) (0, 320) I ++ [(H.size, .inl (gA (kG K) 20, 12, .inl (fun _ => 0)))] := by
    rw [zw_snoc (Nat.zero_le _), zw_G (G := kG K) (G' := gN (kG K) H.size) rfl (show 320 ≤ 320 from Nat.le_refl _) (fun q hq => gN_lt (by omega)), zw_below (J := I) (fun r hr => ups_ne _ _ (Nat.ne_of_lt hr)), hadr, ups_same]
    rfl
  have hP1 : va_P (gD (gN (kG K) H.size)) vwCl (zw (gN (kG K) H.size) (0, 321) (ups I 320 (fun _ => 0))) H1 := by
    rw [eW]
    refine va_P.app (hP.kept (fun k x hx => o1 x.1 ((hP k x hx).lt))) (fun k x hx => ?_)
    have hz : k < 1 := (List.getElem?_eq_some_iff.mp hx).1
    rw [show k = 0 by omega] at hx
    cases hx
    show H1[H.size]? = some (vp_cell (gA (kG K) 20) (12, .inl (fun _ => 0)))
    rw [e1, hcA]
    rfl
  have hS1 : va_S (fun q => gb (gN (kG K) H.size) ≤ q) s.heap H1 locs := ⟨Nat.le_trans hS.1 (by omega), fun x h1 h2 => (o1 x (Nat.lt_of_lt_of_le h1 hS.1)).trans (hS.2.1 x h1 h2), hS.2.2⟩
  have hl1 : lv_has ls (knL K) ([(0, Value.ref 0)].map (zl (gN (kG K) H.size))) := by
    have e0 : [(0, Value.ref 0)].map (zl (gN (kG K) H.size)) = [(0, Value.ref 0)].map (zl (kG K)) := by
      show [(0, Value.ref (gad (gN (kG K) H.size) 0))] = [(0, Value.ref (gad (kG K) 0))]
      rw [gN_lt (by decide)]
    rw [e0]
    exact hl
  have z := kk H.size p e s m args below meth c (vx_MQ below (zQ (gN (kG K) H.size) (0, 321) (fun v J => (∃ x, v = some (.int x)) ∧ P v (ups J 320 f0))) (zX (gN (kG K) H.size) (0, 321) nX) args s mc.1 mc.2 (fun q => gb (gN (kG K) H.size) ≤ q)) H1 locs ls ⟨b1, b2, b3, hts, hown, b6, hK, hOld, hb0, hGok, hwok, hst⟩ ⟨hr9, ht9, rfl⟩ hP1 hl1 hS1
  have eS : [Value.ref 320].map (zv (gN (kG K) H.size)) = [.ref H.size] := by
    show [Value.ref (gad (gN (kG K) H.size) 320)] = _
    rw [hadr]
  intro T hT XS
  have z2 := z T hT XS
  rw [eS] at z2
  obtain ⟨t, a1, o, a2, a3, a4⟩ := z2
  refine ⟨t, a1, o, a2, a3, ?_⟩
  rcases a4 with ⟨⟨v, J, ho, ⟨⟨x, rfl⟩, hPv⟩, hPJ, hF⟩, L9, hL9⟩ | ⟨q, ho, E, ce, L9, hX, hr⟩
  · refine Or.inl ⟨⟨some (.int x), ups J 320 f0, ho, hPv, ?_, hF⟩, L9, hL9⟩
    rw [hw9]
    rw [zw_snoc (Nat.zero_le _), zw_G (G := kG K) (G' := gN (kG K) H.size) rfl (show 320 ≤ 320 from Nat.le_refl _) (fun q hq => gN_lt (by omega))] at hPJ
    rw [zw_below (J := J) (fun r hr => ups_ne _ _ (Nat.ne_of_lt hr))]
    refine fun k q hk => hPJ k q ?_
    rw [List.getElem?_append_left (List.getElem?_eq_some_iff.mp hk).1]
    exact hk
  · exact absurd hX (fun ⟨_, h, _⟩ => h)
section CFW
variable {G : zG} {w : Nat × Nat} {gl : Launch} {M : zM} {s n c t : Nat} {B : zBk}
/-- the letters of a state as a block -/
def lB (M : zM) (s : Nat) (B : zBk) : Prop := ∀ l, l < 12 → ∀ f, f < 8 → M (s + 12 + l) f = s_of B l f
theorem k_due (ht : isT w 9 s) (hB : lB M s B) {a b : Nat} (ha : a < 12) (hb : b < 12) : CT G w gl (yX9_isDueBefore, cX9_isDueBefore, 3, some .boolean) 0 (0, 0) [.ref s, .int (nI a), .int (nI b)] M (qE (b2 (d_lt B a b)) M) nX := by
  refine ct_of (by decide) [(0, .ref s), (1, .int (nI a)), (2, .int (nI b))] rfl rfl (fun K hG hw hgl hwo hK => ?_)
  subst hG; subst hw; subst hgl
  have e1 : ∀ x, x < 12 → M (LR (LR s 2) (nI x).toNatClampNeg) 3 = s_of B x 3 := fun x hx => by rw [k_lr hwo ht hx]; exact hB x hx 3 (by omega)
  refine bX9_isDueBefore_0 hK hwo ht (vp_in_nI ha (by omega)) (vp_in_nI hb (by omega)) (fun d h => ?_) (fun d h => ?_) (fun _ => vp_in_nI ha (by omega)) (fun _ => vp_in_nI hb (by omega)) (fun d h => ?_) (fun d h => ?_) <;> rw [e1 a ha, e1 b hb] at d <;> refine qE_i ?_ rfl <;> unfold d_lt
  · rw [if_pos d, decide_eq_false (fun z => absurd ((nI_leI (by omega) (by omega)).mp h) (by omega))]; rfl
  · rw [if_pos d, decide_eq_true (Nat.not_le.mp (fun q => h ((nI_leI (by omega) (by omega)).mpr q)))]; rfl
  · rw [e1 a ha, e1 b hb] at h
    rw [if_neg d, decide_eq_false (Int32.not_lt.mpr h)]; rfl
  · rw [e1 a ha, e1 b hb] at h
    rw [if_neg d, decide_eq_true (Int32.not_le.mp h)]; rfl
theorem k_next (ht : isT w 9 s) (hB : lB M s B) (hn : n ≤ 12) (h3 : M s 3 = nI n) {p : Int32} (hp : p = -1 ∨ ∃ a, a < 12 ∧ p = nI a) : CT G w gl (yX9_nextByDeadline, cX9_nextByDeadline, 4, some .int) 1 (0, 0) [.ref s, .int p] M (qE (d_nx B p n) M) nX := by
  refine ct_of (by decide) [(0, .ref s), (1, .int p)] rfl rfl (fun K hG hw hgl hwo hK => ?_)
  subst hG; subst hw; subst hgl
  have key : ∀ d i, i + d = n → ZZ K (0, 0) 4 [(0, .ref s), (1, .int p), (2, .int (d_nx B p i)), (3, .int (nI i))] [] M := by
    intro d
    induction d with
    | zero =>
      intro i hi
      have e : i = n := by omega
      subst e
      have h : M s 3 ≤ nI i := by rw [h3]; exact Int32.le_refl _
      exact bX9_nextByDeadline_4 (f8 := 0) (g8 := M) hK hwo ht (fun _ => qE_i rfl rfl) (fun q => absurd h q) (fun q => absurd h q) (fun q => absurd h q) (fun q => absurd h q) (fun q => absurd h q) (fun q => absurd h q)
    | succ d ih =>
      intro i hi
      have h : ¬ M s 3 ≤ nI i := by rw [h3]; exact nI_ge (by omega) (by omega)
      have hx := ih (i + 1) (by omega)
      unfold d_nx at hx
      have e5 : M (LR (LR s 2) (nI i).toNatClampNeg) 5 = s_of B i 5 := by rw [k_lr hwo ht (by omega)]; exact hB i (by omega) 5 (by omega)
      have no : ¬ d_ca B p i → ZZ K (0, 0) 4 [(0, .ref s), (1, .int p), (2, .int (d_nx B p i)), (3, .int (nI i + 1))] [] M := fun q => by
        rw [if_neg (fun z => q ⟨z.1, z.2.1⟩)] at hx
        rw [nI_1]
        exact hx
      have yes : d_ca B p i → ZZ K (0, 0) 38 [(0, .ref s), (1, .int p), (2, .int (d_nx B p i)), (3, .int (nI i))] [] M := fun q => by
        rcases nx_in (B := B) (p := p) i (by omega) with ⟨e, -⟩ | ⟨x, hxi, e, -, -⟩
        · refine bX9_nextByDeadline_38 (f3 := 0) (g3 := M) hK hwo ht (fun _ => ?_) (fun z => absurd e z) (fun z => absurd e z) (fun z => absurd e z)
          rw [if_pos ⟨q.1, q.2, Or.inl e⟩] at hx
          rw [nI_1]
          exact hx
        · have ne : ¬ d_nx B p i = -1 := by rw [e]; exact nI_ne_m1 (by omega)
          have ecl : (d_nx B p i).toNatClampNeg = x := by rw [e]; exact nI_clamp (by omega)
          refine bX9_nextByDeadline_38 hK hwo ht (fun z => absurd z ne) (fun _ => by rw [e]; exact k_due ht hB (a := i) (b := x) (by omega) (by omega)) (fun _ z => ?_) (fun _ z => ?_) <;> rw [nI_1]
          · have z2 := b2_0.mp z
            rw [if_neg (fun y => by
              rcases y.2.2 with y | y
              · exact ne y
              · rw [ecl, z2] at y; cases y)] at hx
            exact hx
          · have z2 := b2_n0.mp z
            rw [if_pos ⟨q.1, q.2, Or.inr (by rw [ecl]; exact z2)⟩] at hx
            exact hx
      rcases hp with hp | ⟨a, ha, hp⟩
      · refine bX9_nextByDeadline_4 (f8 := 0) (g8 := M) hK hwo ht (fun q => absurd q h) (fun _ => vp_in_nI (by omega) (by omega)) (fun _ q => no (fun z => z.1 (by rw [e5] at q; exact q))) (fun _ q _ => yes ⟨by rw [e5] at q; exact q, Or.inl hp⟩) (fun _ _ q => absurd hp q) (fun _ _ q => absurd hp q) (fun _ _ q => absurd hp q)
      · have hne : ¬ p = -1 := by rw [hp]; exact nI_ne_m1 (by omega)
        have epc : p.toNatClampNeg = a := by rw [hp]; exact nI_clamp (by omega)
        refine bX9_nextByDeadline_4 hK hwo ht (fun q => absurd q h) (fun _ => vp_in_nI (by omega) (by omega)) (fun _ q => no (fun z => z.1 (by rw [e5] at q; exact q))) (fun _ _ q => absurd q hne) (fun _ _ _ => by rw [hp]; exact k_due ht hB (a := a) (b := i) ha (by omega)) (fun _ _ _ q => no (fun z => ?_)) (fun _ q _ q2 => yes ⟨by rw [e5] at q; exact q, Or.inr (by rw [epc]; exact b2_n0.mp q2)⟩)
        rcases z.2 with y | y
        · exact hne y
        · rw [epc, b2_0.mp q] at y; cases y
  exact bX9_nextByDeadline_0 hK hwo ht (key n 0 (by omega))
/-- the place of the greatest of 0 .. i -/
def d_gr (f : Nat → Int32) : Nat → Nat
  | 0 => 0
  | i + 1 => if f (i + 1) ≤ f (d_gr f i) then d_gr f i else i + 1
theorem gr_le {f : Nat → Int32} : ∀ i, d_gr f i ≤ i ∧ ∀ k, k ≤ i → f k ≤ f (d_gr f i)
  | 0 => ⟨Nat.le_refl _, fun k hk => by rw [show k = 0 by omega]; exact Int32.le_refl _⟩
  | i + 1 => by
    obtain ⟨h1, h2⟩ := gr_le (f := f) i
    unfold d_gr
    split
    · next h =>
      refine ⟨by omega, fun k hk => ?_⟩
      by_cases e : k = i + 1
      · rw [e]; exact h
      · exact h2 k (by omega)
    · next h =>
      refine ⟨Nat.le_refl _, fun k hk => ?_⟩
      by_cases e : k = i + 1
      · rw [e]; exact Int32.le_refl _
      · exact Int32.le_trans (h2 k (by omega)) (Int32.le_of_lt (Int32.not_le.mp h))
theorem k_greatest {r : Nat} (hr : isT w 20 r) (hL : LL r = 12) {k : Nat} (hk : k < 12) : CT G w gl (yX10_indexOfGreatest, cX10_indexOfGreatest, 4, some .int) 0 (0, 0) [.ref r, .int (nI (k + 1))] M (qE (nI (d_gr (M r) k)) M) nX := by
  refine ct_of (by decide) [(0, .ref r), (1, .int (nI (k + 1)))] rfl rfl (fun K hG hw hgl hwo hK => ?_)
  subst hG; subst hw; subst hgl
  have key : ∀ d i, i + d = k → ZZ K (0, 0) 4 [(0, .ref r), (1, .int (nI (k + 1))), (2, .int (nI (d_gr (M r) i))), (3, .int (nI (i + 1)))] [] M := by
    intro d
    induction d with
    | zero =>
      intro i hi
      have e : i = k := by omega
      subst e
      have h : nI (i + 1) ≤ nI (i + 1) := Int32.le_refl _
      exact bY10_indexOfGreatest_4 hK hwo hr (fun _ => qE_i rfl rfl) (fun q => absurd h q) (fun q => absurd h q) (fun q => absurd h q) (fun q => absurd h q)
    | succ d ih =>
      intro i hi
      have h : ¬ nI (k + 1) ≤ nI (i + 1) := nI_ge (by omega) (by omega)
      have hx := ih (i + 1) (by omega)
      have hg := (gr_le (f := M r) i).1
      have c1 : (nI (i + 1)).toNatClampNeg = i + 1 := nI_clamp (by omega)
      have c2 : (nI (d_gr (M r) i)).toNatClampNeg = d_gr (M r) i := nI_clamp (by omega)
      unfold d_gr at hx
      refine bY10_indexOfGreatest_4 hK hwo hr (fun q => absurd q h) (fun _ => by rw [hL]; exact vp_in_nI (by omega) (by omega)) (fun _ => by rw [hL]; exact vp_in_nI (by omega) (by omega)) (fun _ q => ?_) (fun _ q => ?_) <;> rw [c1, c2] at q <;> rw [nI_1]
      · rw [if_pos q] at hx; exact hx
      · rw [if_neg q] at hx; exact hx
  exact bY10_indexOfGreatest_0 hK hwo hr (key k 0 (by omega))
end CFW
