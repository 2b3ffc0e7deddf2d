/-! A CONTRACT HOLDS WITH MORE ROOM -/
theorem CT.deep {G : zG} {w : Nat × Nat} {l : Launch} {M : zMt} {d d' : Nat} {mc : Nat × Nat} {as : List Value} {I : zM} {P : Option Value → zM → Prop} {X : String → zM → Prop} (h : CT G w l M d mc as I P X) (hd : d ≤ d') : CT G w l M d' mc as I P X := by
  intro p e ha hc hk s m args below h1 h2 h3 h4
  refine h p e ha hc hk s m args below h1 ?_ h3 h4
  unfold Spec.appliesLoose at h2 ⊢
  rw [h1] at h2 ⊢
  simp only [Bool.and_eq_true] at h2 ⊢
  refine ⟨⟨h2.1.1, ?_⟩, h2.2⟩
  have r : State.hasRoom s _ (zR d' mc) = true := h2.1.2
  show State.hasRoom s _ (zR d mc) = true
  have e1 : (zR d mc).frames = d := rfl
  have e2 : (zR d' mc).frames = d' := rfl
  have e3 : (zR d mc).locals = 40 * d := rfl
  have e4 : (zR d' mc).locals = 40 * d' := rfl
  have e5 : (zR d mc).cells = (zR d' mc).cells := rfl
  have e6 : (zR d mc).slots = (zR d' mc).slots := rfl
  simp only [State.hasRoom, Bool.and_eq_true, decide_eq_true_eq] at r ⊢
  obtain ⟨⟨⟨⟨r1, r2, r3, r4, r5, r6⟩, r7⟩, r8⟩, r9⟩ := r
  exact ⟨⟨⟨⟨by omega, by omega, by omega, by omega, by omega, r6⟩, by omega⟩, by omega⟩, r9⟩
/-! WORDS AND NAMES -/
abbrev zTk : Type := Nat × Nat × Nat × Int32
def tq_cm (f g : Nat → Int32) : Nat → Bool
  | 0 => true
  | k + 1 => tq_cm f g k && decide (f k = g k)
theorem cm_cg {f g f' g' : Nat → Int32} : ∀ n, (∀ k, k < n → (f' k = g' k ↔ f k = g k)) → tq_cm f' g' n = tq_cm f g n
  | 0, _ => rfl
  | n + 1, h => by
    unfold tq_cm
    rw [cm_cg n (fun k hk => h k (by omega)), decide_eq_decide.mpr (h n (by omega))]
theorem cm_ff {f g : Nat → Int32} {k : Nat} (h : ¬ f k = g k) : ∀ n, k < n → tq_cm f g n = false
  | 0, q => absurd q (Nat.not_lt_zero k)
  | n + 1, q => by
    unfold tq_cm
    by_cases e : k = n
    · rw [← e, decide_eq_false h, Bool.and_false]
    · rw [cm_ff h n (by omega), Bool.false_and]
theorem cm_all {f g : Nat → Int32} : ∀ n, tq_cm f g n = true → ∀ k, k < n → f k = g k
  | 0, _, k, hk => absurd hk (Nat.not_lt_zero k)
  | n + 1, h, k, hk => by
    unfold tq_cm at h
    rw [Bool.and_eq_true] at h
    by_cases e : k = n
    · rw [e]; exact of_decide_eq_true h.2
    · exact cm_all n h.1 k (by omega)
/-- the token is the j-th text -/
def tq_isw (b : zBk) (t : zTk) (j : Nat) : Bool := decide (t.1 = 1) && (decide (t.2.2.1 - t.2.1 = zTl.getD j 0) && tq_cm (fun k => b (t.2.1 + k)) (fun k => (zTb.getD j []).getD k 0) (zTl.getD j 0))
def tq_same (B b : zBk) (fr m a : Nat) : Bool := decide (B (22 + a * 7) = nI m) && tq_cm (fun k => B (22 + a * 7 + 1 + k)) (fun k => b (fr + k)) m
/-- the first clerk from a on, over k, with this name -/
def tq_find (B b : zBk) (fr m : Nat) : Nat → Nat → Int32
  | _, 0 => -1
  | a, k + 1 => if tq_same B b fr m a = true then nI a else tq_find B b fr m (a + 1) k
theorem find_in (B b : zBk) (fr m : Nat) : ∀ k a, tq_find B b fr m a k = -1 ∨ ∃ c, a ≤ c ∧ c < a + k ∧ tq_find B b fr m a k = nI c
  | 0, _ => Or.inl rfl
  | k + 1, a => by
    unfold tq_find
    by_cases h : tq_same B b fr m a = true
    · rw [if_pos h]; exact Or.inr ⟨a, Nat.le_refl _, by omega, rfl⟩
    · rw [if_neg h]
      rcases find_in B b fr m k (a + 1) with e | ⟨c, h1, h2, e⟩
      · exact Or.inl e
      · exact Or.inr ⟨c, by omega, by omega, e⟩
def tq_tk (b : zBk) (N p : Nat) (v : Int32) : zTk := ((tq_tok b N p).1, (tq_tok b N p).2.1, (tq_tok b N p).2.2, if tq_isn b N p = true then tq_val b (tq_fr b N p) (min ((tq_tok b N p).2.2 - tq_fr b N p) 3) else v)
/-- a token that can stand in a text of N bytes -/
def tOK (b : zBk) (N : Nat) (t : zTk) : Prop := t.1 ≤ 4 ∧ t.2.1 ≤ t.2.2.1 ∧ t.2.2.1 ≤ N ∧ (t.1 = 1 → t.2.1 < t.2.2.1 ∧ ∀ j, t.2.1 ≤ j → j < t.2.2.1 → tq_sm (b j) = true) ∧ (t.1 = 2 → t.2.2.1 - t.2.1 ≤ 3 ∧ t.2.2.2 = tq_val b t.2.1 (t.2.2.1 - t.2.1) ∧ ∀ j, t.2.1 ≤ j → j < t.2.2.1 → tq_dg (b j) = true)
theorem tk_ok {b : zBk} {N p : Nat} {v : Int32} (hp : p ≤ N) : tOK b N (tq_tk b N p v) := by
  obtain ⟨h1, h2, h3, h4, h5⟩ := tq_tok_in (b := b) hp
  refine ⟨h1, h3, h4, fun h => ?_, fun h => ?_⟩
  · obtain ⟨-, g2, g3, -⟩ := tq_kind1 hp h
    unfold tq_tk; simp only; rw [h5]; exact ⟨g3, g2⟩
  · obtain ⟨g1, -, g3, -, g5⟩ := tq_kind2 hp h
    unfold tq_tk; simp only; rw [h5, if_pos g1]
    exact ⟨g5, by rw [show min ((tq_tok b N p).2.2 - tq_fr b N p) 3 = (tq_tok b N p).2.2 - tq_fr b N p by omega], g3⟩
/-! THE CLASS'S INPUT -/
def tk_put (F : zBk) (t : zTk) : zBk := fun j => if j = 2 then nI t.1 else if j = 3 then nI t.2.1 else if j = 4 then nI t.2.2.1 else F j
/-- the class's input stands at a token -/
def kT (I : zM) (N : Nat) (t : zTk) : Prop := (I 285 1 = nI N ∧ N ≤ 600) ∧ tOK (I 286) N t ∧ I 285 2 = nI t.1 ∧ I 285 3 = nI t.2.1 ∧ I 285 4 = nI t.2.2.1
theorem kT_put {I : zM} {F : zBk} {N : Nat} {t t' : zTk} (h : kT I N t) (ht : tOK (I 286) N t') (h1 : F 1 = I 285 1) : kT (ups I 285 (tk_put F t')) N t' := by
  refine ⟨⟨?_, h.1.2⟩, ?_, ?_, ?_, ?_⟩
  · rw [ups_same]; exact h1.trans h.1.1
  · rw [ups_ne _ _ (by decide)]; exact ht
  · rw [ups_same]; rfl
  · rw [ups_same]; rfl
  · rw [ups_same]; rfl
def fl_put (F : zBk) (code : Int32) : zBk := upd (upd F 6 code) 7 (F 3)
theorem upd_put {F : zBk} {t : zTk} {k : Nat} {x : Int32} (h : k ≠ 2) (h2 : k ≠ 3) (h3 : k ≠ 4) : upd (tk_put F t) k x = tk_put (upd F k x) t := by
  funext j
  unfold tk_put
  by_cases e : j = k
  · rw [e, upd_same, if_neg h, if_neg h2, if_neg h3, upd_same]
  · rw [upd_ne _ _ e, upd_ne _ _ e]
theorem put_put {F : zBk} {t t' : zTk} : tk_put (tk_put F t) t' = tk_put F t' := by
  funext j
  unfold tk_put
  by_cases h2 : j = 2 <;> by_cases h3 : j = 3 <;> by_cases h4 : j = 4 <;> simp [h2, h3, h4]
theorem isw_bool {x : Bool} {y : Int32} (h : y = b2 x) : y = 0 ∨ y = 1 := by rw [h]; exact b2_01 x
section KIN
variable {G : zG} {w : Nat × Nat} {gl : Launch} {I : zM}
theorem u286 {F : Nat → Int32} : ups I 285 F 286 = I 286 := ups_ne _ _ (by decide)
theorem k_endRun (hm : isT w 4 285) {N p : Nat} {lo hi : Int32} (h4 : I 285 1 = nI N) (hN : N ≤ 600) (hp : I 285 4 = nI p) (hpN : p ≤ N) : CT G w gl (yX4_endRun, cX4_endRun, 3, none) 0 (0, 0) [.ref 285, .int lo, .int hi] I (qV (fun J => J = ups I 285 (upd (I 285) 4 (nI (tq_wh (fun x => decide (lo ≤ x) && decide (x ≤ hi)) (I 286) (N - p) p))))) nX := by
  refine ct_of (by decide) [(0, .ref 285), (1, .int lo), (2, .int hi)] rfl rfl (fun K hG hw hgl hwo hK => ?_)
  subst hG; subst hw; subst hgl
  have key : ∀ k q, q + k = N → tq_wh (fun x => decide (lo ≤ x) && decide (x ≤ hi)) (I 286) k q = tq_wh (fun x => decide (lo ≤ x) && decide (x ≤ hi)) (I 286) (N - p) p → ZZ K (0, 0) 0 [(0, .ref 285), (1, .int lo), (2, .int hi)] [] (ups I 285 (upd (I 285) 4 (nI q))) := by
    intro k
    induction k with
    | zero =>
      intro q hq hw
      refine bX4_endRun_0 hK hwo hm ?_ ?_ ?_ ?_ ?_ ?_ <;> simp only [up_def, ups_same, ups_ups, u286] <;> rw [upd_ne _ _ (by decide), h4, upd_same]
      · exact fun _ => qV_i (by rw [← hw]; rfl)
      all_goals exact fun c => absurd (nI_le (by omega) (by omega)) c
    | succ k ih =>
      intro q hq hw
      have hq2 : (nI q).toNatClampNeg = q := nI_clamp (by omega)
      have nle : ¬ nI N ≤ nI q := nI_ge (by omega) (by omega)
      refine bX4_endRun_0 hK hwo hm ?_ ?_ ?_ ?_ ?_ ?_ <;> simp only [up_def, ups_same, ups_ups, u286] <;> rw [upd_ne _ _ (by decide), h4, upd_same]
      · exact fun c => absurd c nle
      · exact fun _ => vp_in_nI (by omega) (by omega)
      · intro _ c
        rw [hq2] at c
        refine qV_i ?_
        rw [← hw]; unfold tq_wh; rw [if_neg (by have h := Int32.not_le.mpr c; simp [h])]
      · exact fun _ _ => vp_in_nI (by omega) (by omega)
      · intro _ _ c
        rw [hq2] at c
        refine qV_i ?_
        rw [← hw]; unfold tq_wh; rw [if_neg (by have h := Int32.not_le.mpr c; simp [h])]
      · intro _ c d
        rw [hq2] at c d
        rw [nI_1, upd_upd]
        exact ih (q + 1) (by omega) (by rw [← hw]; conv => rhs; unfold tq_wh; rw [if_pos (by have h := Int32.not_lt.mp c; have h2 := Int32.not_lt.mp d; simp [h, h2])])
  have h0 := key (N - p) p (by omega) rfl
  rw [← hp, upd_id rfl, ups_id] at h0
  exact h0
theorem k_advance (hm : isT w 4 285) {N p : Nat} (v : Int32) (h4 : I 285 1 = nI N) (hN : N ≤ 600) (hp : I 285 4 = nI p) (hpN : p ≤ N) : CT G w gl (yX4_advance, cX4_advance, 1, none) 1 (0, 0) [.ref 285] I (qV (fun J => J = ups I 285 (tk_put (I 285) (tq_tk (I 286) N p v)))) nX := by
  refine ct_of (by decide) [(0, .ref 285)] rfl rfl (fun K hG hw hgl hwo hK => ?_)
  subst hG; subst hw; subst hgl
  have fin : ∀ (F : zBk) (ty fr ah : Nat), tq_tok (I 286) N p = (ty, fr, ah) → F 2 = nI ty → F 3 = nI fr → F 4 = nI ah → (∀ j, j ≠ 2 → j ≠ 3 → j ≠ 4 → F j = I 285 j) → qV (fun J => J = ups I 285 (tk_put (I 285) (tq_tk (I 286) N p v))) none (ups I 285 F) := fun F ty fr ah ht a1 a2 a3 a5 => by
    refine qV_i (congrArg _ (funext fun j => ?_))
    unfold tk_put tq_tk
    rw [ht]
    by_cases c1 : j = 2
    · rw [if_pos c1, c1, a1]
    · rw [if_neg c1]
      by_cases c2 : j = 3
      · rw [if_pos c2, c2, a2]
      · rw [if_neg c2]
        by_cases c3 : j = 4
        · rw [if_pos c3, c3, a3]
        · rw [if_neg c3]; exact a5 j c1 c2 c3
  have hfr := tq_fr_in (b := I 286) hpN
  have b60 : ZZ K (0, 0) 60 [(0, .ref 285)] [] (ups I 285 (upd (I 285) 3 (nI (tq_fr (I 286) N p)))) := by
    generalize hg : tq_fr (I 286) N p = fr at hfr fin ⊢
    have hcl : (nI fr).toNatClampNeg = fr := nI_clamp (by omega)
    have e1 : ∀ x, upd (upd (I 285) 3 (nI fr)) 4 x 1 = nI N := fun x => by rw [upd_ne _ _ (by decide), upd_ne _ _ (by decide), h4]
    have e230 : ∀ (ty : Nat), fr < N → tq_sm (I 286 fr) = false → tq_dg (I 286 fr) = false → ty = (if I 286 fr = 59 then 3 else 4) → ZZ K (0, 0) 230 [(0, .ref 285)] [.int (nI ty), .ref 285] (ups I 285 (upd (upd (I 285) 3 (nI fr)) 4 (nI fr))) := fun ty h1 h2 h3 h5 => by
      refine bX4_advance_230 hK hwo hm hm ?_
      simp only [up_def, ups_same, ups_ups]
      have ht : tq_tok (I 286) N p = (ty, fr, fr + 1) := by
        unfold tq_tok; rw [hg]; unfold tq_at
        rw [if_neg (by omega), if_neg (by rw [h2]; decide), if_neg (by rw [h3]; decide), h5]
      exact fin _ _ _ _ ht (by simp [upd]) (by simp [upd]) (by simp [upd]; exact nI_1 fr) (fun j a b c => by simp [upd, a, b, c])
    have e210 : fr < N → tq_sm (I 286 fr) = false → tq_dg (I 286 fr) = false → ZZ K (0, 0) 210 [(0, .ref 285)] [] (ups I 285 (upd (upd (I 285) 3 (nI fr)) 4 (nI fr))) := fun h1 h2 h3 => by
      refine bX4_advance_210 hK hwo hm ?_ ?_ ?_ <;> simp only [ups_same, u286] <;> rw [upd_ne _ _ (by decide), upd_same]
      · exact vp_in_nI (by omega) (by omega)
      · rw [hcl]; exact fun c => e230 4 h1 h2 h3 (by rw [if_neg c])
      · rw [hcl]; exact fun c => e230 3 h1 h2 h3 (by rw [if_pos c])
    have e149 : fr < N → tq_sm (I 286 fr) = false → ZZ K (0, 0) 149 [(0, .ref 285)] [] (ups I 285 (upd (upd (I 285) 3 (nI fr)) 4 (nI fr))) := fun h1 h2 => by
      have hb := tq_wh_in tq_dg (I 286) (N - fr) fr
      have er := k_endRun (G := kG K) (w := kw K) (gl := kl K) (I := ups I 285 (upd (upd (I 285) 3 (nI fr)) 4 (nI fr))) (lo := 48) (hi := 57) hm (N := N) (p := fr) (by rw [ups_same]; exact e1 _) hN (by rw [ups_same, upd_same]) (by omega)
      rw [ups_same, ups_ups, u286, upd_upd] at er
      have e8 : upd (upd (I 285) 3 (nI fr)) 4 (nI (tq_wh tq_dg (I 286) (N - fr) fr)) 4 - upd (upd (I 285) 3 (nI fr)) 4 (nI (tq_wh tq_dg (I 286) (N - fr) fr)) 3 = nI (tq_wh tq_dg (I 286) (N - fr) fr - fr) := by
        rw [upd_same, upd_ne _ _ (by decide), upd_same]; exact nI_sub (by omega)
      refine bX4_advance_149 (g7 := ups I 285 (upd (upd (I 285) 3 (nI fr)) 4 (nI (tq_wh tq_dg (I 286) (N - fr) fr)))) hK hwo hm ?_ ?_ ?_ ?_ ?_ ?_ ?_ <;> simp only [up_def, ups_same, ups_ups, u286] <;> (try rw [upd_ne (k := 4) (j := 3) _ _ (by decide), upd_same, hcl])
      · rw [upd_ne _ _ (by decide), upd_same]; exact vp_in_nI (by omega) (by omega)
      · exact fun c => e210 h1 h2 (by have h := Int32.not_le.mpr c; simp [tq_dg, h])
      · exact fun _ => vp_in_nI (by omega) (by omega)
      · exact fun _ c => e210 h1 h2 (by have h := Int32.not_le.mpr c; simp [tq_dg, h])
      · exact fun _ _ => er
      · intro c d e
        rw [e8] at e
        have hd : tq_dg (I 286 fr) = true := by have h := Int32.not_lt.mp c; have h3 := Int32.not_lt.mp d; simp [tq_dg, h, h3]
        have e' : tq_wh tq_dg (I 286) (N - fr) fr - fr ≤ 3 := (nI_leI (a := tq_wh tq_dg (I 286) (N - fr) fr - fr) (b := 3) (by omega) (by omega)).mp e
        have ht : tq_tok (I 286) N p = (2, fr, tq_wh tq_dg (I 286) (N - fr) fr) := by
          unfold tq_tok; rw [hg]; unfold tq_at
          rw [if_neg (by omega), if_neg (by rw [h2]; decide), if_pos hd, if_pos e']
        exact fin _ _ _ _ ht (by simp [upd]; rfl) (by simp [upd]) (by simp [upd]) (fun j a b c => by simp [upd, a, b, c])
      · intro c d e
        rw [e8] at e
        have hd : tq_dg (I 286 fr) = true := by have h := Int32.not_lt.mp c; have h3 := Int32.not_lt.mp d; simp [tq_dg, h, h3]
        have e' : ¬ tq_wh tq_dg (I 286) (N - fr) fr - fr ≤ 3 := fun z => e ((nI_leI (a := tq_wh tq_dg (I 286) (N - fr) fr - fr) (b := 3) (by omega) (by omega)).mpr z)
        have ht : tq_tok (I 286) N p = (4, fr, tq_wh tq_dg (I 286) (N - fr) fr) := by
          unfold tq_tok; rw [hg]; unfold tq_at
          rw [if_neg (by omega), if_neg (by rw [h2]; decide), if_pos hd, if_neg e']
        exact fin _ _ _ _ ht (by simp [upd]; rfl) (by simp [upd]) (by simp [upd]) (fun j a b c => by simp [upd, a, b, c])
    have hb := tq_wh_in tq_sm (I 286) (N - fr) fr
    have er := k_endRun (G := kG K) (w := kw K) (gl := kl K) (I := ups I 285 (upd (upd (I 285) 3 (nI fr)) 4 (nI fr))) (lo := 97) (hi := 122) hm (N := N) (p := fr) (by rw [ups_same]; exact e1 _) hN (by rw [ups_same, upd_same]) (by omega)
    rw [ups_same, ups_ups, u286, upd_upd] at er
    have e8 : upd (upd (I 285) 3 (nI fr)) 4 (nI (tq_wh tq_sm (I 286) (N - fr) fr)) 4 - upd (upd (I 285) 3 (nI fr)) 4 (nI (tq_wh tq_sm (I 286) (N - fr) fr)) 3 = nI (tq_wh tq_sm (I 286) (N - fr) fr - fr) := by
      rw [upd_same, upd_ne _ _ (by decide), upd_same]; exact nI_sub (by omega)
    have e3 : ∀ x, upd (upd (I 285) 3 (nI fr)) 4 x 3 = nI fr := fun x => by rw [upd_ne _ _ (by decide), upd_same]
    refine bX4_advance_60 (g8 := ups I 285 (upd (upd (I 285) 3 (nI fr)) 4 (nI (tq_wh tq_sm (I 286) (N - fr) fr)))) hK hwo hm ?_ ?_ ?_ ?_ ?_ ?_ ?_ ?_ <;> simp only [up_def, ups_same, ups_ups, u286, upd_same, e1, e3, hcl]
    · exact fun c => vp_in_nI (by have := (nI_ltI (a := fr) (b := N) (by omega) (by omega)).mp c; omega) (by omega)
    · exact fun c d => e149 ((nI_ltI (a := fr) (b := N) (by omega) (by omega)).mp c) (by have h := Int32.not_le.mpr d; simp [tq_sm, h])
    · exact fun c _ => vp_in_nI (by have := (nI_ltI (a := fr) (b := N) (by omega) (by omega)).mp c; omega) (by omega)
    · exact fun c _ d => e149 ((nI_ltI (a := fr) (b := N) (by omega) (by omega)).mp c) (by have h := Int32.not_le.mpr d; simp [tq_sm, h])
    · exact fun _ _ _ => er
    · intro c c2 d e
      rw [nI_sub (by omega)] at e
      have hlt := (nI_ltI (a := fr) (b := N) (by omega) (by omega)).mp c
      have hd : tq_sm (I 286 fr) = true := by have h := Int32.not_lt.mp c2; have h3 := Int32.not_lt.mp d; simp [tq_sm, h, h3]
      have e' : tq_wh tq_sm (I 286) (N - fr) fr - fr ≤ 8 := (nI_leI (a := tq_wh tq_sm (I 286) (N - fr) fr - fr) (b := 8) (by omega) (by omega)).mp e
      have ht : tq_tok (I 286) N p = (1, fr, tq_wh tq_sm (I 286) (N - fr) fr) := by
        unfold tq_tok; rw [hg]; unfold tq_at
        rw [if_neg (by omega), if_pos hd, if_pos e']
      exact fin _ _ _ _ ht (by simp [upd]; rfl) (by simp [upd]) (by simp [upd]) (fun j a b c => by simp [upd, a, b, c])
    · intro c c2 d e
      rw [nI_sub (by omega)] at e
      have hlt := (nI_ltI (a := fr) (b := N) (by omega) (by omega)).mp c
      have hd : tq_sm (I 286 fr) = true := by have h := Int32.not_lt.mp c2; have h3 := Int32.not_lt.mp d; simp [tq_sm, h, h3]
      have e' : ¬ tq_wh tq_sm (I 286) (N - fr) fr - fr ≤ 8 := fun z => e ((nI_leI (a := tq_wh tq_sm (I 286) (N - fr) fr - fr) (b := 8) (by omega) (by omega)).mpr z)
      have ht : tq_tok (I 286) N p = (4, fr, tq_wh tq_sm (I 286) (N - fr) fr) := by
        unfold tq_tok; rw [hg]; unfold tq_at
        rw [if_neg (by omega), if_pos hd, if_neg e']
      exact fin _ _ _ _ ht (by simp [upd]; rfl) (by simp [upd]) (by simp [upd]) (fun j a b c => by simp [upd, a, b, c])
    · intro c
      have hN2 : fr = N := by
        have : ¬ fr < N := fun z => c ((nI_ltI (a := fr) (b := N) (by omega) (by omega)).mpr z)
        omega
      have ht : tq_tok (I 286) N p = (0, fr, fr) := by
        unfold tq_tok; rw [hg]; unfold tq_at
        rw [if_pos hN2]
      exact fin _ _ _ _ ht (by simp [upd]; rfl) (by simp [upd]) (by simp [upd]) (fun j a b c => by simp [upd, a, b, c])
  have key : ∀ k q, q + k = N → tq_wh tq_bl (I 286) k q = tq_fr (I 286) N p → ZZ K (0, 0) 8 [(0, .ref 285)] [] (ups I 285 (upd (I 285) 3 (nI q))) := by
    intro k
    induction k with
    | zero =>
      intro q hq hw
      have e : q = tq_fr (I 286) N p := hw
      refine bX4_advance_8 hK hwo hm ?_ ?_ ?_ ?_ ?_ ?_ <;> simp only [up_def, ups_same, ups_ups, u286] <;> rw [upd_ne _ _ (by decide), h4, upd_same]
      · exact fun _ => by rw [e]; exact b60
      all_goals exact fun c => absurd (nI_le (by omega) (by omega)) c
    | succ k ih =>
      intro q hq hw
      have hq2 : (nI q).toNatClampNeg = q := nI_clamp (by omega)
      have nle : ¬ nI N ≤ nI q := nI_ge (by omega) (by omega)
      have go : tq_bl (I 286 q) = true → ZZ K (0, 0) 47 [(0, .ref 285)] [] (ups I 285 (upd (I 285) 3 (nI q))) := fun h => by
        refine bX4_advance_47 hK hwo hm ?_
        simp only [up_def, ups_same, ups_ups]
        rw [upd_same, nI_1, upd_upd]
        exact ih (q + 1) (by omega) (by rw [← hw]; conv => rhs; unfold tq_wh; rw [if_pos h])
      refine bX4_advance_8 hK hwo hm ?_ ?_ ?_ ?_ ?_ ?_ <;> simp only [up_def, ups_same, ups_ups, u286] <;> rw [upd_ne _ _ (by decide), h4, upd_same]
      · exact fun c => absurd c nle
      · exact fun _ => vp_in_nI (by omega) (by omega)
      · intro _ c
        rw [hq2] at c
        exact go (by unfold tq_bl; rw [c]; decide)
      · exact fun _ _ => vp_in_nI (by omega) (by omega)
      · intro _ c d
        rw [hq2] at c d
        have e : q = tq_fr (I 286) N p := by
          rw [← hw]; unfold tq_wh; rw [if_neg (by unfold tq_bl; simp [c, d])]
        rw [e]; exact b60
      · intro _ c d
        rw [hq2] at c d
        exact go (by unfold tq_bl; rw [d]; decide)
  refine bX4_advance_0 hK hwo hm ?_
  simp only [up_def]
  rw [hp]
  exact key (N - p) p (by omega) rfl
end KIN
