/-! THE CLASS: selection -/
/-- the class's best so far: the current letter, but for a better one -/
def s_kb (B : zBk) (p : Nat) (cu : Int32) (i : Nat) : Int32 :=
  if cu = -1 then s_best B p i else if s_best B p i ≠ -1 ∧ s_bad B (s_best B p i).toNatClampNeg p < s_bad B cu.toNatClampNeg p then s_best B p i else cu
theorem kb_no {B : zBk} {p i : Nat} {cu : Int32} (h : s_open B i = false) : s_kb B p cu (i + 1) = s_kb B p cu i := by
  have e : s_best B p (i + 1) = s_best B p i := by
    conv => lhs; unfold s_best
    rw [if_neg (by rw [h]; simp)]
  unfold s_kb
  rw [e]
theorem kb_yes {B : zBk} {p i : Nat} {cu : Int32} (hi : i < 12) (h : s_open B i = true) (hb : s_kb B p cu i = -1 ∨ s_bad B i p < s_bad B (s_kb B p cu i).toNatClampNeg p) : s_kb B p cu (i + 1) = nI i := by
  have hne : nI i ≠ -1 := fun e => nI_ne_m1 (by omega) e
  have hc : (nI i).toNatClampNeg = i := nI_clamp (by omega)
  unfold s_kb at hb ⊢
  by_cases h1 : cu = -1
  · rw [if_pos h1] at hb ⊢
    unfold s_best; rw [if_pos ⟨h, hb⟩]
  · rw [if_neg h1] at hb ⊢
    by_cases h2 : s_best B p i ≠ -1 ∧ s_bad B (s_best B p i).toNatClampNeg p < s_bad B cu.toNatClampNeg p
    · rw [if_pos h2] at hb
      have h3 := hb.resolve_left h2.1
      have e : s_best B p (i + 1) = nI i := by unfold s_best; rw [if_pos ⟨h, Or.inr h3⟩]
      rw [e, hc, if_pos ⟨hne, Int32.lt_trans h3 h2.2⟩]
    · rw [if_neg h2] at hb
      have h3 := hb.resolve_left h1
      have e : s_best B p (i + 1) = nI i := by
        unfold s_best
        by_cases h4 : s_best B p i = -1
        · rw [if_pos ⟨h, Or.inl h4⟩]
        · have h5 : s_bad B cu.toNatClampNeg p ≤ s_bad B (s_best B p i).toNatClampNeg p := Int32.not_lt.mp (fun h5 => h2 ⟨h4, h5⟩)
          rw [if_pos ⟨h, Or.inr (Int32.lt_of_lt_of_le h3 h5)⟩]
      rw [e, hc, if_pos ⟨hne, h3⟩]
theorem kb_keep {B : zBk} {p i : Nat} {cu : Int32} (hi : i < 12) (h : s_open B i = true) (hb : s_kb B p cu i ≠ -1) (hb2 : ¬ s_bad B i p < s_bad B (s_kb B p cu i).toNatClampNeg p) : s_kb B p cu (i + 1) = s_kb B p cu i := by
  have hc : (nI i).toNatClampNeg = i := nI_clamp (by omega)
  unfold s_kb at hb hb2 ⊢
  by_cases h1 : cu = -1
  · rw [if_pos h1] at hb hb2; rw [if_pos h1, if_pos h1]
    conv => lhs; unfold s_best
    rw [if_neg (by rintro ⟨-, h3 | h3⟩; exact hb h3; exact hb2 h3)]
  · rw [if_neg h1] at hb hb2; rw [if_neg h1, if_neg h1]
    by_cases h2 : s_best B p i ≠ -1 ∧ s_bad B (s_best B p i).toNatClampNeg p < s_bad B cu.toNatClampNeg p
    · rw [if_pos h2] at hb2
      have e : s_best B p (i + 1) = s_best B p i := by
        conv => lhs; unfold s_best
        rw [if_neg (by rintro ⟨-, h3 | h3⟩; exact h2.1 h3; exact hb2 h3)]
      rw [e]
    · rw [if_neg h2] at hb2; rw [if_neg h2]
      by_cases h4 : s_best B p i = -1
      · have e : s_best B p (i + 1) = nI i := by unfold s_best; rw [if_pos ⟨h, Or.inl h4⟩]
        rw [e, hc, if_neg (fun q => hb2 q.2)]
      · by_cases h5 : s_bad B i p < s_bad B (s_best B p i).toNatClampNeg p
        · have e : s_best B p (i + 1) = nI i := by unfold s_best; rw [if_pos ⟨h, Or.inr h5⟩]
          rw [e, hc, if_neg (fun q => hb2 q.2)]
        · have e : s_best B p (i + 1) = s_best B p i := by
            conv => lhs; unfold s_best
            rw [if_neg (by rintro ⟨-, h3 | h3⟩; exact h4 h3; exact h5 h3)]
          rw [e, if_neg h2]
section CLB
variable {G : zG} {w : Nat × Nat} {gl : Launch} {I : zM} {s : Nat} {B : zBk}
theorem wf_51 {B : zBk} {n c t : Nat} (hf : s_wf B n c t) : 1 ≤ B 5 := hf.2.2.2.2.2.2.1.1
theorem k_lr {w : Nat × Nat} {s l : Nat} (hw : wOK w) (t : isT w 9 s) (hl : l < 12) : LR (LR s 2) (nI l).toNatClampNeg = s + 12 + l := by
  rw [nI_clamp (by omega), (t.lr hw).2.2.1, (t.lr hw).2.2.2.2.2.1 l hl]
theorem k_turn (ht : isT w 9 s) {n c t : Nat} (hf : s_wf B n c t) : CT G w gl (yX9_selectInTurn, cX9_selectInTurn, 3, some .int) 1 (0, 0) [.ref s] (sput I s B (s_cur B)) (qE (s_select B n 4) (sput I s B (s_cur B))) nX := by
  refine ct_of (by decide) [(0, .ref s)] rfl rfl (fun K hG hw hgl hwo hK => ?_)
  subst hG; subst hw; subst hgl
  have hn := hf.2.1
  have h8 := hf.1
  obtain ⟨a, ha, hal⟩ : ∃ a, B 11 + 1 = nI a ∧ a ≤ n := by
    rcases hf.2.2.2.2.2.1 with h | ⟨l, hl, h, -⟩
    · exact ⟨0, by rw [h]; rfl, Nat.zero_le _⟩
    · exact ⟨l + 1, by rw [h]; exact nI_1 l, hl⟩
  have e1 : s_last1 B = a := by unfold s_last1; rw [ha, nI_clamp (by omega)]
  have loop : (s_cur B = -1 ∨ B 4 ≤ B 12) → ZZ K (0, 0) 27 [(0, .ref s)] [] (sput I s B (s_cur B)) := fun hc => by
    have es : s_select B n 4 = s_turn B a n 0 n := by unfold s_select; rw [if_neg (by omega), if_pos rfl, if_pos hc, e1]
    have key : ∀ k i q, i + k = n → q ≤ n → (0 < n → q % n = (a + i) % n) → s_turn B a n i k = s_turn B a n 0 n → ZZ K (0, 0) 36 [(0, .ref s), (1, .int (nI q)), (2, .int (nI i))] [] (sput I s B (s_cur B)) := by
      intro k
      induction k with
      | zero =>
        intro i q hi hq hm hs
        have h : sput I s B (s_cur B) s 3 ≤ nI i := by rw [sp3, h8]; exact nI_le (by omega) (by omega)
        exact bX9_selectInTurn_36 hK hwo ht (fun _ => qE_i (by rw [es, ← hs]; rfl) rfl) (fun d => absurd h d) (fun d => absurd h d)
      | succ k ih =>
        intro i q hi hq hm hs
        have h : ¬ sput I s B (s_cur B) s 3 ≤ nI i := by rw [sp3, h8]; exact nI_ge (by omega) (by omega)
        have hlt : (a + i) % n < n := Nat.mod_lt _ (by omega)
        have body : ZZ K (0, 0) 54 [(0, .ref s), (1, .int (nI ((a + i) % n))), (2, .int (nI i))] [] (sput I s B (s_cur B)) := by
          refine bX9_selectInTurn_54 hK hwo ht (vp_in_nI (by omega) (by omega)) (by rw [k_lr hwo ht (by omega), sp4]; exact k_isReadyAt ht (by omega) (wf_rem hf _ hlt).1) (fun d => ?_) (fun d => ?_)
          · have hx := ih (i + 1) ((a + i) % n + 1) (by omega) (by omega) (fun _ => by rw [Nat.mod_add_mod, Nat.add_assoc]) (by rw [← hs]; conv => rhs; unfold s_turn; rw [if_neg (by rw [b2_0.mp d]; decide)])
            rw [← nI_1, ← nI_1] at hx
            exact hx
          · exact qE_i (by rw [es, ← hs]; unfold s_turn; rw [if_pos (b2_n0.mp d)]) rfl
        have hm1 := hm (by omega)
        refine bX9_selectInTurn_36 hK hwo ht (fun d => absurd d h) (fun _ d => ?_) (fun _ d => ?_)
        · rw [sp3, h8] at d
          have h2 : q < n := (nI_ltI (by omega) (by omega)).mp d
          rw [← hm1, Nat.mod_eq_of_lt h2] at body
          exact body
        · rw [sp3, h8] at d
          have h2 : q = n := by
            rcases Nat.lt_or_ge q n with h3 | h3
            · exact absurd (nI_lt h3 (by omega)) d
            · omega
          rw [← hm1, h2, Nat.mod_self] at body
          exact body
    refine bX9_selectInTurn_27 hK hwo ht ?_
    rw [sp8, ha]
    exact key n 0 a (by omega) hal (fun _ => rfl) rfl
  refine bX9_selectInTurn_0 hK hwo ht ?_ ?_ ?_ <;> (try rw [sp7]) <;> (try rw [sp9]) <;> (try rw [(ht.lr hwo).1, spS3])
  · exact fun d => loop (Or.inl d)
  · exact fun _ d => loop (Or.inr d)
  · exact fun d e => qE_i (by unfold s_select; rw [if_neg (by omega), if_pos rfl, if_neg (by rintro (h | h); exact d h; exact e h)]) rfl
theorem k_selectBy (ht : isT w 9 s) {n c t p : Nat} (hf : s_wf B n c t) (hp : p < 5) : CT G w gl (yX9_selectBy, cX9_selectBy, 6, some .int) 2 (0, 0) [.ref s, .int (nI p)] (sput I s B (s_cur B)) (qE (s_select B n p) (sput I s B (s_cur B))) nX := by
  refine ct_of (by decide) [(0, .ref s), (1, .int (nI p))] rfl rfl (fun K hG hw hgl hwo hK => ?_)
  subst hG; subst hw; subst hgl
  have hn := hf.2.1
  have h8 := hf.1
  have h5 := wf_51 hf
  have e4 : ∀ q, q < 5 → (nI p = nI q ↔ p = q) := fun q hq => nI_eq (by omega) (by omega)
  have fin : p < 4 → (s_cur B = -1 ∨ p = 1 ∨ p = 2) → s_kb B p (s_cur B) n = s_select B n p := fun h4 hc => by
    unfold s_kb s_select
    by_cases h1 : s_cur B = -1
    · rw [if_pos h1]
      by_cases h7 : p = 0 ∨ p = 3
      · rw [if_pos h7, if_pos h1]
      · rw [if_neg h7, if_neg (show ¬ p = 4 by omega), if_pos (Or.inl h1)]
    · have h2 := hc.resolve_left h1
      obtain ⟨l, hl, -, ho⟩ := s_cur_open hf h1
      have h3 := s_best_ne B p n hn hl ho
      rw [if_neg h1, if_neg (show ¬ (p = 0 ∨ p = 3) by omega), if_neg (show ¬ p = 4 by omega)]
      by_cases h6 : s_bad B (s_best B p n).toNatClampNeg p < s_bad B (s_cur B).toNatClampNeg p
      · rw [if_pos ⟨h3, h6⟩, if_pos (Or.inr h6)]
      · rw [if_neg (fun q => h6 q.2), if_neg (by rintro (q | q); exact h1 q; exact h6 q)]
  have loop : p < 4 → (s_cur B = -1 ∨ p = 1 ∨ p = 2) → ZZ K (0, 0) 32 [(0, .ref s), (1, .int (nI p))] [] (sput I s B (s_cur B)) := fun h4 hc => by
    have key : ∀ k i (r : Int32), i + k = n → (s_kb B p (s_cur B) i ≠ -1 → r = s_bad B (s_kb B p (s_cur B) i).toNatClampNeg p) → ZZ K (0, 0) 67 [(0, .ref s), (1, .int (nI p)), (2, .int (s_kb B p (s_cur B) i)), (3, .int r), (4, .int (nI i))] [] (sput I s B (s_cur B)) := by
      intro k
      induction k with
      | zero =>
        intro i r hi hr
        have h : sput I s B (s_cur B) s 3 ≤ nI i := by rw [sp3, h8]; exact nI_le (by omega) (by omega)
        exact bX9_selectBy_67 (f4 := 0) (g4 := I) (f8 := 0) (g8 := I) hK hwo ht (fun _ => qE_i (by rw [show i = n by omega]; exact fin h4 hc) rfl) (fun d => absurd h d) (fun d => absurd h d) (fun d => absurd h d) (fun d => absurd h d) (fun d => absurd h d) (fun d => absurd h d) (fun d => absurd h d) (fun d => absurd h d)
      | succ k ih =>
        intro i r hi hr
        have h : ¬ sput I s B (s_cur B) s 3 ≤ nI i := by rw [sp3, h8]; exact nI_ge (by omega) (by omega)
        have hv : vp_in (nI i) 12 := vp_in_nI (by omega) (by omega)
        have ec : (nI i).toNatClampNeg = i := nI_clamp (by omega)
        have yes : s_open B i = true → (s_kb B p (s_cur B) i = -1 ∨ s_bad B i p < s_bad B (s_kb B p (s_cur B) i).toNatClampNeg p) → ZZ K (0, 0) 118 [(0, .ref s), (1, .int (nI p)), (2, .int (s_kb B p (s_cur B) i)), (3, .int r), (4, .int (nI i)), (5, .int (s_bad B i p))] [] (sput I s B (s_cur B)) := fun ho hb => by
          have ek := kb_yes (by omega) ho hb
          have hx := ih (i + 1) (s_bad B i p) (by omega) (fun _ => by rw [ek, ec])
          rw [ek, ← nI_1] at hx
          exact bX9_selectBy_118 hK hwo ht hx
        refine bX9_selectBy_67 hK hwo ht (fun d => absurd d h) (fun _ => hv) (fun _ => by rw [k_lr hwo ht (by omega), sp4]; exact k_isReadyAt ht (by omega) (wf_rem hf _ (by omega)).1) (fun _ d => ?_) (fun _ _ => hv) (fun _ _ => by rw [k_lr hwo ht (by omega)]; exact k_rankBy ht (by omega) h4 h5) (fun _ d e => ?_) (fun _ d e f => ?_) (fun _ d e f => ?_)
        · have ek := kb_no (p := p) (cu := s_cur B) (b2_0.mp d)
          have hx := ih (i + 1) r (by omega) (fun q => by rw [ek]; rw [ek] at q; exact hr q)
          rw [ek, ← nI_1] at hx
          exact hx
        · exact yes (b2_n0.mp d) (Or.inl e)
        · rw [hr e] at f
          have ek := kb_keep (by omega) (b2_n0.mp d) e (Int32.not_lt.mpr f)
          have hx := ih (i + 1) r (by omega) (fun q => by rw [ek]; rw [ek] at q; exact hr q)
          rw [ek, ← nI_1] at hx
          exact hx
        · rw [hr e] at f
          exact yes (b2_n0.mp d) (Or.inr (Int32.not_le.mp f))
    have e0 : s_kb B p (s_cur B) 0 = s_cur B := by
      unfold s_kb
      by_cases h1 : s_cur B = -1
      · rw [if_pos h1, h1]; rfl
      · rw [if_neg h1, if_neg (fun q => q.1 rfl)]
    have k0 := key n 0
    rw [e0] at k0
    by_cases h1 : s_cur B = -1
    · refine bX9_selectBy_32 (f3 := 0) (g3 := I) hK hwo ht ?_ ?_ ?_ ?_ <;> rw [sp7]
      · exact fun d => absurd h1 d
      · exact fun d => absurd h1 d
      · exact fun d => absurd h1 d
      · exact fun _ => k0 0 (by omega) (fun q => absurd h1 q)
    · obtain ⟨l, hl, el, ho⟩ := s_cur_open hf h1
      refine bX9_selectBy_32 (f3 := s_bad B l p) (g3 := sput I s B (s_cur B)) hK hwo ht ?_ ?_ ?_ ?_ <;> rw [sp7]
      · exact fun _ => by rw [el]; exact vp_in_nI (by omega) (by omega)
      · exact fun _ => by
          rw [el, k_lr hwo ht (by omega), ← el]; exact k_rankBy ht (by omega) h4 h5
      · exact fun _ => k0 _ (by omega) (fun _ => by rw [el, nI_clamp (by omega)])
      · exact fun d => absurd d h1
  by_cases h4 : p = 4
  · subst h4
    exact bX9_selectBy_0 hK hwo ht (fun c => absurd rfl c) (fun c => absurd rfl c) (fun c => absurd rfl c) (fun c => absurd rfl c) (fun _ => k_turn ht hf) (fun _ => qE_i rfl rfl)
  · have n4 : ¬ nI p = nI 4 := fun q => h4 ((e4 4 (by omega)).mp q)
    refine bX9_selectBy_0 (f9 := 0) (g9 := I) hK hwo ht ?_ ?_ ?_ ?_ (fun c => absurd c n4) (fun c => absurd c n4) <;> rw [sp7]
    · exact fun _ d => loop (by omega) (Or.inl d)
    · intro _ d e
      have e0 : p = 0 := (e4 0 (by omega)).mp e
      exact qE_i (by unfold s_select; rw [if_pos (Or.inl e0), if_neg d]) rfl
    · intro _ d e f
      have e0 : ¬ p = 0 := fun q => e ((e4 0 (by omega)).mpr q)
      have e3 : ¬ p = 3 := fun q => f ((e4 3 (by omega)).mpr q)
      exact loop (by omega) (Or.inr (by omega))
    · intro _ d _ f
      have e3 : p = 3 := (e4 3 (by omega)).mp f
      exact qE_i (by unfold s_select; rw [if_pos (Or.inr e3), if_neg d]) rfl
end CLB
