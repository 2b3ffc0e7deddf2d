/-! THE CALLS OF THE LAW: how a call of the class and the same call of the reference go on together -/
section GEN
variable {G : zG} {w : Nat × Nat} {gl : Launch} {M : zMt} {d : Nat} {as : List Value} {I : zM} {Q : zM → Prop}
theorem g_gen {P : Option Value → zM → Prop} {X : String → zM → Prop} {kE : String → Int32} {T : Int32 → Prop}
    (hP : ∀ x J0, P (some (.int x)) J0 → ∃ J2, CT G w gl M d (0, 0) as (up J0 319 0 x) (qE x J2) nX ∧ J2 312 9 = 0 ∧ J2 319 0 = x ∧ T x ∧ Rel J2)
    (hX : ∀ E J, X E J → ∃ f J2, CT G w gl M d (0, 0) as J (qE f J2) nX ∧ J2 312 9 = kE E ∧ kE E ≠ 0 ∧ T f ∧ Rel J2) (kN : ∀ J, Rel J → Q J) :
    ∀ v J, wQ P X kE v J → ∃ e f J2, v = some (.int e) ∧ CT G w gl M d (0, 0) as J (qE f J2) nX ∧ J2 312 9 = e ∧ (e = 0 → J2 319 0 = f) ∧ T f ∧ Q J2 := by
  rintro v J (⟨x, J0, hp, rfl, rfl⟩ | ⟨E, hx, rfl⟩)
  · obtain ⟨J2, h1, h2, h3, h4, h5⟩ := hP x J0 hp
    exact ⟨0, x, J2, rfl, h1, h2, fun _ => h3, h4, kN J2 h5⟩
  · obtain ⟨f, J2, h1, h2, h3, h4, h5⟩ := hX E J hx
    exact ⟨kE E, f, J2, rfl, h1, h2, fun z => absurd z h3, h4, kN J2 h5⟩
/-- a reading call that may throw -/
theorem g_read {p q : Prop} [Decidable q] {y y' : Int32} {E : String} {kE : String → Int32} {T : Int32 → Prop} (h : Rel I) (hk : kE E = 1)
    (hr : ∀ J, (∀ r, r ≠ 319 → J r = I r) → CT G w gl M d (0, 0) as J (qE (if q then y' else 0) (mT J (if q then 0 else 1))) nX) (hpq : p ↔ q) (hy : q → y = y') (hT : q → T y) (hT0 : T 0) (kN : ∀ J, Rel J → Q J) :
    ∀ v J, wQ (qP p y I) (xP p E I) kE v J → ∃ e f J2, v = some (.int e) ∧ CT G w gl M d (0, 0) as J (qE f J2) nX ∧ J2 312 9 = e ∧ (e = 0 → J2 319 0 = f) ∧ T f ∧ Q J2 := by
  refine g_gen (fun x J0 hp => ?_) (fun E' J hx => ?_) kN
  · obtain ⟨hp, x', hx', ex, eJ⟩ := hp
    injection hx' with hx'
    injection hx' with hx'
    subst hx'; subst ex; subst eJ
    have hq := hpq.mp hp
    have r := hr (up J0 319 0 x) (fun r hr => up_far hr)
    rw [if_pos hq, if_pos hq, ← hy hq] at r
    exact ⟨mT (up J0 319 0 x) 0, r, mT_9, by rw [mT_ne (by decide), up_at], hT hq, Rel_read h⟩
  · obtain ⟨hnp, rfl, rfl⟩ := hx
    have hq : ¬ q := fun z => hnp (hpq.mpr z)
    have r := hr J (fun r hr => rfl)
    rw [if_neg hq, if_neg hq] at r
    exact ⟨0, mT J 1, r, by rw [mT_9, hk]; rfl, by rw [hk]; decide, hT0, Rel_T h⟩
/-- a reading call -/
theorem g_plain {y y' : Int32} (h : Rel I) (hr : CT G w gl M d (0, 0) as I (qE y' (mT I 0)) nX) (hy : y = y') (kN : ∀ J, Rel J → Q J) : ∀ v J, qE y I v J → ∃ f J2, v = some (.int f) ∧ CT G w gl M d (0, 0) as J (qE f J2) nX ∧ Q J2 := by
  rintro v J ⟨x, hv, rfl, rfl⟩
  rw [← hy] at hr
  exact ⟨_, mT J 0, hv, hr, kN _ (Rel_T h)⟩
/-- a forecast -/
theorem g_fc {y y' : Int32} (h : Rel I) (hr : ∀ J, (J 312 = I 312 ∧ J 313 = I 313) → CT G w gl M d (0, 0) as J (qE y' (rM J (upd (J 312) 9 0) (s_aside (J 313)))) nX) (hy : y = y') (kN : ∀ J, Rel J → Q J) : ∀ v J, qS y I v J → ∃ f J2, v = some (.int f) ∧ CT G w gl M d (0, 0) as J (qE f J2) nX ∧ Q J2 := by
  rintro v J ⟨hv, X, Y, rfl, hX⟩
  have r := hr (sput I 1 X Y) ⟨sp_288 (by omega), sp_288 (by omega)⟩
  rw [← hy] at r
  exact ⟨_, _, hv, r, kN _ (Rel_as (Rel_sp h hX))⟩
/-- a forecast that may throw -/
theorem g_fcW {p q : Prop} [Decidable q] {y y' : Int32} {E : String} {kE : String → Int32} (h : Rel I) (hk : kE E = 1)
    (hr : ∀ J, (J 312 = I 312 ∧ J 313 = I 313) → CT G w gl M d (0, 0) as J (qE (if q then y' else 0) (if q then rM J (upd (J 312) 9 0) (s_aside (J 313)) else mT J 1)) nX) (hpq : p ↔ q) (hy : q → y = y') (kN : ∀ J, Rel J → Q J) :
    ∀ v J, wQ (fun v J => p ∧ qS y I v J) (xP p E I) kE v J → ∃ e f J2, v = some (.int e) ∧ CT G w gl M d (0, 0) as J (qE f J2) nX ∧ J2 312 9 = e ∧ (e = 0 → J2 319 0 = f) ∧ True ∧ Q J2 := by
  refine g_gen (T := fun _ => True) (fun x J0 hp => ?_) (fun E' J hx => ?_) kN
  · obtain ⟨hp, hv, X, Y, rfl, hX⟩ := hp
    injection hv with hv
    injection hv with hv
    subst hv
    have hq := hpq.mp hp
    have r := hr (up (sput I 1 X Y) 319 0 x) ⟨by rw [up_far (by decide)]; exact sp_288 (by omega), by rw [up_far (by decide)]; exact sp_288 (by omega)⟩
    rw [if_pos hq, if_pos hq, ← hy hq] at r
    refine ⟨_, r, ?_, ?_, trivial, Rel_as (Rel_319 (Rel_sp h hX))⟩
    · rw [rM_312, upd_same]
    · rw [rM_ot (by decide) (by decide), up_at]
  · obtain ⟨hnp, rfl, rfl⟩ := hx
    have hq : ¬ q := fun z => hnp (hpq.mpr z)
    have r := hr J ⟨rfl, rfl⟩
    rw [if_neg hq, if_neg hq] at r
    exact ⟨0, mT J 1, r, by rw [mT_9, hk]; rfl, by rw [hk]; decide, trivial, Rel_T h⟩
/-- a change -/
theorem g_chg {n c a m k f : Nat} {X : zBk} {cu : Int32} {B : zBk} {y y' : Int32} {kE : String → Int32} (h : Rel I)
    (hr : ∀ J, (J 312 = I 312 ∧ J 313 = I 313) → CT G w gl M d (0, 0) as J (qE (if k = 0 then y' else 0) (if k = 0 then rCh J m B else mT J k)) nX)
    (hf : f = 1003 → k = 0 ∧ y = y') (hf2 : f ≠ 1003 → kE (fE f) = nI k ∧ k ≠ 0 ∧ k ≤ 3) (hR : f = 1003 → ∀ z, Rel (rCh (up (sput (kp I n c a) 288 X cu) 319 0 z) m B)) (kN : ∀ J, Rel J → Q J) :
    ∀ v J, wQ (qP (f = 1003) y (sput (kp I n c a) 288 X cu)) (cX f I) kE v J → ∃ e f J2, v = some (.int e) ∧ CT G w gl M d (0, 0) as J (qE f J2) nX ∧ J2 312 9 = e ∧ (e = 0 → J2 319 0 = f) ∧ True ∧ Q J2 := by
  refine g_gen (T := fun _ => True) (fun x J0 hp => ?_) (fun E' J hx => ?_) kN
  · obtain ⟨hp, x', hx', ex, eJ⟩ := hp
    injection hx' with hx'
    injection hx' with hx'
    subst hx'; subst ex; subst eJ
    obtain ⟨k0, ey⟩ := hf hp
    have r := hr (up (sput (kp I n c a) 288 X cu) 319 0 x) ⟨by rw [up_far (by decide), so_r (by omega), kp_hi (by omega)], by rw [up_far (by decide), so_r (by omega), kp_hi (by omega)]⟩
    rw [if_pos k0, if_pos k0, ← ey] at r
    refine ⟨_, r, ?_, ?_, trivial, hR hp x⟩
    · unfold rCh
      rw [rM_312, upd_ne _ _ (by decide), upd_same]
    · unfold rCh
      rw [rM_ot (by decide) (by decide), up_at]
  · obtain ⟨hnp, rfl, rfl⟩ := hx
    obtain ⟨e1, e2, e3⟩ := hf2 hnp
    have r := hr J ⟨rfl, rfl⟩
    rw [if_neg e2, if_neg e2] at r
    exact ⟨0, mT J k, r, by rw [mT_9, e1], by rw [e1]; exact nI_ne0 (by omega) (by omega), trivial, Rel_T h⟩
end GEN
/-! what the related offices answer alike -/
section ANS
variable {B C : zBk} {n c t m : Nat}
theorem work_eq (h : s_eq n B C) (x : Int32) : s_work C x n = s_work B x n :=
  sum_cg n (fun l hl => by rw [h.2 l hl 0 (by omega), h.2 l hl 5 (by omega)])
theorem busy_eq (h : s_eq n B C) : ∀ c, s_busy C n c = s_busy B n c
  | 0 => rfl
  | c + 1 => by
    unfold s_busy
    rw [busy_eq h c, work_eq h, work_eq h]
theorem lt_eq (h : s_eq n B C) {l : Nat} (hl : l < n) : s_lt C l = s_lt B l := by
  unfold s_lt
  rw [h.2 l hl 6 (by omega), h.2 l hl 3 (by omega)]
theorem gl_eq (h : s_eq n B C) (hn : n ≤ 12) : ∀ m, m ≤ n → s_gl C m = s_gl B m
  | 0, _ => rfl
  | m + 1, hm => by
    unfold s_gl
    rw [gl_eq h hn m (by omega), eq_done h (by omega), lt_eq (l := m) h (by omega)]
    by_cases e : s_gl B m = -1
    · simp only [e, true_or]
    · obtain ⟨l, h1, h2, -⟩ := (s_gl_in B m).resolve_left e
      rw [h2, nI_clamp (by omega), lt_eq h (by omega)]
theorem tsum_eq (h : s_eq n B C) : s_tsum C n = s_tsum B n :=
  sum_cg n (fun l hl => by rw [eq_done h hl, h.2 l hl 6 (by omega), h.2 l hl 2 (by omega)])
theorem lt_999 (hn : s_num B n t) (ht : t ≤ 2000) {l : Nat} (hl : l < n) (hd : s_done B l = true) : -999 ≤ s_lt B l := by
  obtain ⟨⟨d, hd9, ed⟩, hf⟩ := hn.2 l hl
  obtain ⟨-, f, hf9, ef⟩ := hf hd
  unfold s_lt
  rw [ef, ed, Int32.le_iff_toInt_le, Int32.toInt_sub, nI_toInt (by omega), nI_toInt (by omega), Int.bmod_eq_of_le (by omega) (by omega), show (-999 : Int32).toInt = -999 by decide]
  omega
theorem fin_eq (hf : s_wf B n c t) (h : s_eq n B C) : C 8 - nI (s_cnt (fun l => !s_done C l) n) = nI (s_cnt (s_done B) n) := by
  have z := cnt_not (s_done C) n
  rw [h.1 8 (by omega), hf.1, nI_sub (by omega), cnt_eq (q := s_done) (r := s_done) (fun l hl => (eq_done h.sy hl))]
  congr 1
  omega
/-! fewestLate of like blocks -/
theorem sh_eq (h : s_eq n B C) {l : Nat} (hl : l < n) : ∀ (a : Nat) (q : Nat → Int32), (∀ k, k < a → (q k).toNatClampNeg < n) → m_sh C l a q = m_sh B l a q
  | 0, _, _ => rfl
  | a + 1, q, hq => by
    unfold m_sh
    rw [h.2 _ (hq a (by omega)) 3 (by omega), h.2 l hl 3 (by omega), sh_eq h hl a (upd q (a + 1) (q a)) (fun k hk => by rw [upd_ne _ _ (by omega)]; exact hq k (by omega))]
theorem or_eq (h : s_eq n B C) (hn : n ≤ 12) {q : Nat → Int32} : ∀ l, l ≤ n → m_or C q l = m_or B q l
  | 0, _ => rfl
  | l + 1, hl => by
    have e := sh_eq h (l := l) (by omega) (m_or B q l).1 (m_or B q l).2 (fun k hk => by
      obtain ⟨a, ha, ea⟩ := or_in (B := B) (q := q) l k hk
      rw [ea, nI_clamp (by omega)]
      omega)
    unfold m_or
    rw [or_eq h hn l (by omega), eq_done h (by omega), e]
theorem tm_eq (h : s_eq n B C) {o : Nat → Nat} (s : Nat) : ∀ k, (∀ j, j < k → o j < n) → m_tm C o s k = m_tm B o s k
  | 0, _ => h.1 9 (by omega)
  | k + 1, ho => by
    unfold m_tm
    rw [tm_eq h s k (fun j hj => ho j (by omega)), h.2 _ (ho k (by omega)) 5 (by omega)]
theorem it_eq (h : s_eq n B C) {o : Nat → Nat} (s : Nat) : ∀ k, (∀ j, j < k → o j < n) → m_it C o s k = m_it B o s k
  | 0, _ => rfl
  | k + 1, ho => by
    unfold m_it
    rw [it_eq h s k (fun j hj => ho j (by omega)), tm_eq h s (k + 1) ho, h.2 _ (ho k (by omega)) 3 (by omega)]
theorem most_eq (h : s_eq n B C) {o : Nat → Nat} (ho : ∀ j, j < m → o j < n) : ∀ s, m_most C o m s = m_most B o m s
  | 0 => rfl
  | s + 1 => by
    unfold m_most
    rw [most_eq h ho s, it_eq h (s + 1) m ho]
theorem few_eq (h : s_eq n B C) (hn : n ≤ 12) (q : Nat → Int32) : m_few C q n = m_few B q n := by
  unfold m_few
  rw [or_eq h hn n (Nat.le_refl _), most_eq h (fun j hj => by
    obtain ⟨a, ha, ea⟩ := or_in (B := B) (q := q) n j hj
    rw [ea, nI_clamp (by omega)]
    exact ha)]
end ANS
