/-! THE OFFICE: forecasts, on the spare state -/
theorem cnt_not (q : Nat → Bool) : ∀ n, s_cnt (fun l => !q l) n + s_cnt q n = n
  | 0 => rfl
  | n + 1 => by
    have := cnt_not q n
    unfold s_cnt
    cases h : q n <;> simp [h] <;> omega
theorem i_sss (x y z : Int32) : x - y - (z - y) = x - z := by
  apply Int32.toBitVec_inj.mp
  simp only [Int32.toBitVec_sub]
  bv_omega
theorem open_nI {B : zBk} {n : Nat} : nI (s_cnt (fun l => !s_done B l) n) = nI n - nI (s_cnt (s_done B) n) := by
  have h := cnt_not (s_done B) n
  rw [nI_sub (by omega)]
  congr 1
  omega
theorem open_0 {B : zBk} {n : Nat} (hn : n ≤ 12) : nI (s_cnt (fun l => !s_done B l) n) = 0 ↔ s_all B n = true := by
  have h := cnt_not (s_done B) n
  unfold s_all
  rw [show (0 : Int32) = nI 0 from rfl, nI_eq (by omega) (by omega), decide_eq_true_iff]
  omega
theorem open_le {B : zBk} {n : Nat} (hn : n ≤ 12) : nI (s_cnt (fun l => !s_done B l) n) ≤ 0 ↔ s_all B n = true := by
  have h := cnt_not (s_done B) n
  unfold s_all
  rw [show (0 : Int32) = nI 0 from rfl, nI_leI (by omega) (by omega), decide_eq_true_iff]
  omega
/-- the spare state's block behind the copy -/
def spD (I : zM) (n c : Nat) : zBk := cpk (vB I 1) (vB I 288) (q_cp n c)
theorem spD_eq {I : zM} {n c : Nat} : s_eq n (vB I 288) (spD I n c) := by
  refine ⟨fun k hk => ?_, fun l hl f hf => ?_⟩
  · unfold spD cpk; rw [if_pos (by unfold q_cp; exact decide_eq_true (Or.inl hk))]
  · show (if q_cp n c (64 + l * 8 + f) = true then vB I 288 (64 + l * 8 + f) else vB I 1 (64 + l * 8 + f)) = vB I 288 (64 + l * 8 + f)
    rw [if_pos (by unfold q_cp; exact decide_eq_true (Or.inr (Or.inr (by omega))))]
theorem sput_sput {I : zM} {s : Nat} {B C : zBk} {c d : Int32} : sput (sput I s B c) s C d = sput I s C d := by
  funext r x
  unfold sput
  by_cases h1 : r = s
  · simp only [if_pos h1]; (repeat' split) <;> rfl
  simp only [if_neg h1]
  by_cases h2 : r = s + 1
  · simp only [if_pos h2]; (repeat' split) <;> rfl
  simp only [if_neg h2]
  by_cases h3 : r = s + 2
  · simp only [if_pos h3]; (repeat' split) <;> rfl
  simp only [if_neg h3]
  by_cases h4 : s + 4 ≤ r ∧ r < s + 10
  · simp only [if_pos h4]; (repeat' split) <;> rfl
  simp only [if_neg h4]
  by_cases h5 : r = s + 10
  · simp only [if_pos h5]; (repeat' split) <;> rfl
  simp only [if_neg h5]
  by_cases h6 : s + 12 ≤ r ∧ r < s + 24
  · simp only [if_pos h6]; (repeat' split) <;> rfl
  simp only [if_neg h6]
theorem sp_288 {I : zM} {X : zBk} {Y : Int32} {r : Nat} (h : 25 ≤ r) : sput I 1 X Y r = I r := by
  funext x; exact so (by omega)
/-- the bytes of the block's names are bytes -/
def nmK (X : zBk) : Prop := ∀ a, a < 6 → ∀ k, k < 6 → fits .byte (.int (X (22 + a * 7 + 1 + k))) = true
theorem nmK_B {I : zM} {s : Nat} : nmB I s ↔ nmK (vB I s) := by
  unfold nmB nmK
  constructor
  · intro h a ha k hk; rw [voN ha hk]; exact h a ha k hk
  · intro h a ha k hk; have := h a ha k hk; rw [voN ha hk] at this; exact this
theorem nmK_cpk {B C : zBk} {q : Nat → Bool} (h1 : nmK B) (h2 : nmK C) : nmK (cpk B C q) := fun a ha k hk => by
  unfold cpk; split
  · exact h2 a ha k hk
  · exact h1 a ha k hk
theorem nmK_upd {B : zBk} {k : Nat} {x : Int32} (h : nmK B) (hk : k < 22) : nmK (upd B k x) := fun a ha j hj => by
  rw [upd_ne _ _ (by omega)]; exact h a ha j hj
theorem nmK_mins {B : zBk} {n c t : Nat} (hf : s_wf B n c t) (h : nmK B) {k : Nat} (hk : t + k ≤ 10000) : nmK (s_mins B n k) := fun a ha j hj => by
  rw [mins_far hf (Or.inl ⟨by omega, by omega⟩) k hk]; exact h a ha j hj
theorem nmB_sp {I : zM} {X : zBk} {Y : Int32} (h : nmK X) : nmB (sput I 1 X Y) 1 := fun a ha k hk => by
  rw [spN ha hk]; exact h a ha k hk
/-- an answer, and only the spare state has changed -/
def qS (x : Int32) (I : zM) : Option Value → zM → Prop := fun v J => v = some (.int x) ∧ ∃ X Y, J = sput I 1 X Y ∧ nmK X
/-- the spare state far ahead -/
def spF (I : zM) (n c p : Nat) : Nat := s_first (fun i => s_all (s_mins (upd (spD I n c) 0 (nI p)) n i) n) 1500 0
def spX (I : zM) (n c p : Nat) : zBk := s_mins (upd (spD I n c) 0 (nI p)) n (spF I n c p)
def kfar (I : zM) (n c p : Nat) : zM := sput I 1 (spX I n c p) (s_cur (spX I n c p))
section CFO
variable {G : zG} {w : Nat × Nat} {gl : Launch} {I : zM} {n c t a m : Nat}
theorem isT.spa (hw : wOK w) (h : isT w 10 0) : isT w 9 1 := h.f (k := 1) (d := 9) hw rfl rfl rfl (by decide)
/-- the office in use can be copied -/
def kc (I : zM) (n c t : Nat) : Prop := s_wf (vB I 288) n c t ∧ s_pos (vB I 288) ∧ I 288 7 = s_cur (vB I 288) ∧ nmB I 288 ∧ t ≤ 2000
theorem kq.kc {I : zM} (q : kq I n c t a m) : kc I n c t := ⟨q.1, q.2.1, q.2.2.1, q.2.2.2.1, q.2.2.2.2.2.2⟩
theorem h_copy (hx : isT w 10 0) (hw : wOK w) (q : kc I n c t) : CT G w gl (yX9_copyFrom, cX9_copyFrom, 3, none) 3 (0, 0) [.ref 1, .ref 288] I (qV (fun J => J = sput I 1 (spD I n c) (s_cur (spD I n c)))) nX := by
  have h := k_copyFrom (G := G) (gl := gl) (I := I) (s := 1) (o := 288) (hx.spa hw) (hx.st hw) (by omega) q.1.1 q.1.2.1 q.1.2.2.1 q.1.2.2.2.2.1 q.2.2.2.1
  unfold cpS at h
  rw [q.2.2.1, ← eq_cur spD_eq q.1] at h
  exact h
theorem kfar_wf (q : kc I n c t) {p : Nat} (hp : p < 5) : ∃ u, u ≤ 4000 ∧ s_wf (spX I n c p) n c u := by
  have hf : s_wf (upd (spD I n c) 0 (nI p)) n c t := wf_pol (eq_wf spD_eq q.1) hp
  have hi : spF I n c p ≤ 0 + 1500 := (first_in _ _).2
  have := q.2.2.2.2
  exact ⟨t + spF I n c p, by omega, wf_mins hf _ (by omega)⟩
theorem kfar_nm (q : kc I n c t) (h1 : nmB I 1) {p : Nat} (hp : p < 5) : nmK (spX I n c p) := by
  have hf : s_wf (upd (spD I n c) 0 (nI p)) n c t := wf_pol (eq_wf spD_eq q.1) hp
  have hi : spF I n c p ≤ 0 + 1500 := (first_in _ _).2
  have := q.2.2.2.2
  exact nmK_mins hf (nmK_upd (nmK_cpk (nmK_B.mp h1) (nmK_B.mp q.2.2.2.1)) (by omega)) (by omega)
def kLate (X : zBk) (n : Nat) : Int32 := nI (s_cnt (s_late X) n) + nI (s_cnt (fun l => !s_done X l) n)
def kWait (X : zBk) (n : Nat) : Int32 := s_sum (s_waited X) n
theorem pol_in {x : Int32} (h : s_in x 0 4 = true) : ∃ p, p < 5 ∧ x = nI p ∧ x.toNatClampNeg = p := by
  have h9 := h
  unfold s_in at h9
  rw [Bool.and_eq_true] at h9
  obtain ⟨p, hp, ep⟩ := i_of (M := 4) (n := 4) (by decide) (of_decide_eq_true h9.1) (of_decide_eq_true h9.2)
  exact ⟨p, by omega, ep, by rw [ep]; exact nI_clamp (by omega)⟩
end CFO
