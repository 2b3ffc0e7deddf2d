/-! THE LAW'S CHANGE -/
section ACT
variable {G : zG} {w : Nat × Nat} {gl : Launch} {M : zM} {B L : zBk} {n c t a m : Nat}
theorem in_nat {v lo hi : Nat} (h1 : lo ≤ v) (h2 : v ≤ hi) (hh : hi < 2 ^ 31) : s_in (nI v) (nI lo) (nI hi) = true := by
  unfold s_in
  rw [Bool.and_eq_true]
  exact ⟨decide_eq_true (nI_le h1 (by omega)), decide_eq_true (nI_le h2 hh)⟩
theorem has_n {v n : Nat} (h : v < n) (hn : n < 2 ^ 31) : s_has (nI v) (nI n) = true := by
  unfold s_has
  rw [Bool.and_eq_true]
  exact ⟨decide_eq_true (nI_pos' (by omega)), decide_eq_true (nI_lt h hn)⟩
theorem e_act {Lo : zBk} (hx : isT w 10 0) (hs : isT w 9 288) (hR : PR G M L n c t) (ht : t ≤ 900) (hV : oV M Lo) {z : Nat} (hz : z < 2 ^ 28) (h9 : z % 9 < 5) : CT G w gl (yL_act, cL_act, 4, none) 8 (0, 0) [.ref 0, .int (nI z)] M (qV (fun J => ∃ D n', PR G J D n' c t ∧ oV J Lo ∧ n ≤ n' ∧ rdOK L D n')) nX := by
  refine ct_of (by decide) [(0, .ref 0), (1, .int (nI z))] rfl rfl (fun K hG hw hgl hwo hK => ?_)
  subst hG; subst hw; subst hgl
  obtain ⟨a, ha, ha6⟩ := hR.2.1
  obtain ⟨m, hm, hm6⟩ := hR.2.2.1
  have kq := hR.kq ha ha6 hm hm6
  have hO := hR.1
  have hf : s_wf L n c t := hO.1
  have hfB := hO.wfC
  have hE : s_eq n L (vB M 288) := hO.2.2.2.2.2.1
  have hn := hf.2.1
  have hc2 := hf.2.2.2.1
  have hc6 := hf.2.2.2.2.1
  have hi := hR.2.2.2.2
  have hS := hR.2.2.2.1
  have e8 : vB M 288 8 = nI n := hfB.1
  have e7 : vB M 288 7 = nI c := hfB.2.2.1
  have e9 : vB M 288 9 = nI t := wf_9 hfB
  have l9 : L 9 = nI t := wf_9 hf
  have dv : ∀ d : Nat, 0 < d → d < 2 ^ 31 → nI z / nI d = nI (z / d) := fun d h0 h1 => pk_div (by omega) h0 h1
  have md : ∀ d q : Nat, 0 < d → d < 2 ^ 31 → 0 < q → q < 2 ^ 31 → nI z / nI d - nI z / nI d / nI q * nI q = nI (z / d % q) := fun d q h0 h1 h2 h3 => by
    rw [dv d h0 h1, pk_rem (Nat.lt_of_le_of_lt (Nat.div_le_self _ _) (by omega)) h2 h3]
  have same : ∃ D n', PR (kG K) M D n' c t ∧ oV M Lo ∧ n ≤ n' ∧ rdOK L D n' := ⟨L, n, hR, hV, Nat.le_refl n, rdOK.rf⟩
  have i09 : nI z - nI z / nI 9 * nI 9 = nI (z % 9) := pk_rem (by omega) (by omega) (by omega)
  have t9 : (nI z - nI z / (9 : Int32) * (9 : Int32)).toInt = ((z % 9 : Nat) : Int) := by
    show (nI z - nI z / nI 9 * nI 9).toInt = _
    rw [i09]; exact nI_toInt (by omega)
  have dn : z / 256 < 2 ^ 31 := Nat.lt_of_le_of_lt (Nat.div_le_self _ _) (by omega)
  -- behind the letter's number
  have k19 : ∀ l, (n ≠ 0 → l < n) → ZZ K (0, 0) 19 [(0, .ref 0), (1, .int (nI z)), (2, .int (nI n))] [.int (nI l)] M := fun l hl => by
    have n0 : ¬ nI n ≤ 0 → l < n := fun h => hl (fun e => h (by rw [e]; exact Int32.le_refl 0))
    have pos : ¬ nI n ≤ 0 → nI n = nI n := fun _ => rfl
    -- the letter that is added
    have hadd : ¬ (12 : Int32) ≤ nI n → n < 12 := fun h => by
      by_cases q : n < 12
      · exact q
      · exact absurd (show (12 : Int32) ≤ nI n from nI_le (a := 12) (by omega) (by omega)) h
    have fadd : n < 12 → ff_add (vB M 288) (nI (z / 16 % c)) (nI (1 + z / 128 % 9)) (nI (z / 2048 % 6)) (nI (t + 1 + z / 16384 % 40)) (nI (z / 1048576 % 10)) = 1003 := fun h => by
      have h1 : s_has (nI (z / 16 % c)) (vB M 288 7) = true := by rw [e7]; exact has_n (Nat.mod_lt _ (by omega)) (by omega)
      have h2 : s_data (nI (1 + z / 128 % 9)) (nI (z / 2048 % 6)) (nI (t + 1 + z / 16384 % 40)) (nI (z / 1048576 % 10)) = true := by
        unfold s_data
        rw [Bool.and_eq_true, Bool.and_eq_true, Bool.and_eq_true]
        exact ⟨in_nat (lo := 1) (hi := 30) (by omega) (by omega) (by omega), in_nat (lo := 0) (hi := 999) (by omega) (by omega) (by omega), in_nat (lo := 1) (hi := 999) (by omega) (by omega) (by omega), in_nat (lo := 0) (hi := 9) (by omega) (by omega) (by omega)⟩
      have h3 : s_canAdd (vB M 288) (nI (z / 2048 % 6)) = true := by
        unfold s_canAdd
        rw [Bool.and_eq_true, e8, e9, nI_add]
        exact ⟨decide_eq_true (nI_lt (b := 12) h (by omega)), decide_eq_true (nI_le (b := 2000) (by omega) (by omega))⟩
      unfold ff_add
      rw [if_pos h1, if_pos h2, if_pos h3]
    have fdis : l < n → s_open (vB M 288) l = true → ff_dis (vB M 288) (nI l) = 1003 := fun h h2 => by
      unfold ff_dis
      rw [if_pos (by rw [e8]; exact has_n h (by omega)), nI_clamp (by omega), if_pos h2]
    have fnum : ∀ v lo hi : Nat, l < n → lo ≤ v → v ≤ hi → hi < 2 ^ 31 → ff_num (vB M 288) (nI l) (nI v) (nI lo) (nI hi) = 1003 := fun v lo hi h h1 h2 h3 => by
      unfold ff_num
      rw [if_pos (by rw [e8]; exact has_n h (by omega)), if_pos (in_nat h1 h2 h3)]
    have fpol : ff_pol (nI (z / 256 % 5)) = 1003 := by
      unfold ff_pol
      rw [if_pos (show s_in (nI (z / 256 % 5)) 0 4 = true from in_nat (v := z / 256 % 5) (lo := 0) (hi := 4) (by omega) (by omega) (by omega))]
    have cl : l < n → (nI l).toNatClampNeg = l := fun h => nI_clamp (by omega)
    have rdy : l < n → CT (kG K) (kw K) (kl K) (yX10_isReady, cX10_isReady, 2, some .boolean) 7 (0, 0) [.ref 0, .int (nI l)] M (qE (b2 (s_open (vB M 288) l)) M) nX := fun h => by
      have q := d_isReady (G := kG K) (w := kw K) (gl := kl K) (I := M) (B := vB M 288) (cu := M 288 7) (x := nI l) (n := n) hx hs e8 hn (fun j hj => wf_0 hfB hj) (by rw [e8]; exact has_n h (by omega))
      rw [sput_self, cl h] at q
      exact q.weak (fun _ _ q => q.2) (fun _ _ q => q)
    have o128 : (1 : Int32) + nI (z / 128 % 9) = nI (1 + z / 128 % 9) := nI_add 1 _
    have o90 : (1 : Int32) + nI (z / 256 % 90) = nI (1 + z / 256 % 90) := nI_add 1 _
    have a128 : (1 : Int32) + (nI z / (128 : Int32) - nI z / (128 : Int32) / (9 : Int32) * (9 : Int32)) = nI (1 + z / 128 % 9) := by
      rw [show nI z / (128 : Int32) - nI z / (128 : Int32) / (9 : Int32) * (9 : Int32) = nI (z / 128 % 9) from md 128 9 (by omega) (by omega) (by omega) (by omega)]; exact o128
    have a90 : (1 : Int32) + (nI z / (256 : Int32) - nI z / (256 : Int32) / (90 : Int32) * (90 : Int32)) = nI (1 + z / 256 % 90) := by
      rw [show nI z / (256 : Int32) - nI z / (256 : Int32) / (90 : Int32) * (90 : Int32) = nI (z / 256 % 90) from md 256 90 (by omega) (by omega) (by omega) (by omega)]; exact o90
    have a40 : nI t + (1 : Int32) + (nI z / (16384 : Int32) - nI z / (16384 : Int32) / (40 : Int32) * (40 : Int32)) = nI (t + 1 + z / 16384 % 40) := by
      rw [show nI z / (16384 : Int32) - nI z / (16384 : Int32) / (40 : Int32) * (40 : Int32) = nI (z / 16384 % 40) from md 16384 40 (by omega) (by omega) (by omega) (by omega), nI_1, nI_add]
    have a6 : nI z / (2048 : Int32) - nI z / (2048 : Int32) / (6 : Int32) * (6 : Int32) = nI (z / 2048 % 6) := md 2048 6 (by omega) (by omega) (by omega) (by omega)
    have a10 : nI z / (1048576 : Int32) - nI z / (1048576 : Int32) / (10 : Int32) * (10 : Int32) = nI (z / 1048576 % 10) := md 1048576 10 (by omega) (by omega) (by omega) (by omega)
    have a16 : nI z / (16 : Int32) - nI z / (16 : Int32) / nI c * nI c = nI (z / 16 % c) := md 16 c (by omega) (by omega) (by omega) (by omega)
    have ap : nI z / (256 : Int32) - nI z / (256 : Int32) / (10 : Int32) * (10 : Int32) = nI (z / 256 % 10) := md 256 10 (by omega) (by omega) (by omega) (by omega)
    have a5 : nI z / (256 : Int32) - nI z / (256 : Int32) / (5 : Int32) * (5 : Int32) = nI (z / 256 % 5) := md 256 5 (by omega) (by omega) (by omega) (by omega)
    have nn : ¬ (0 : Int32) ≤ -1 := by decide
    refine bL_act_19 (f2 := 0) (g2 := M) (f6 := nI c) (g6 := M) (f8 := nI t) (g8 := M) (f9 := nI n) (g9 := sput (kp M n c a) 288 (s_add (vB M 288) n (nI (z / 16 % c)) (nI (1 + z / 128 % 9)) (vB M 288 9 + nI (z / 2048 % 6)) (nI (t + 1 + z / 16384 % 40)) (nI (z / 1048576 % 10))) (M 288 7))
      (f13 := b2 (s_open (vB M 288) l)) (g13 := M) (f18 := s_of (vB M 288) l 5) (g18 := sput (kp M n c a) 288 (s_drop (vB M 288) l) (if M 288 7 = nI l then -1 else M 288 7)) (f22 := s_of (vB M 288) l 3) (g22 := sput (kp M n c a) 288 (s_set (vB M 288) l 3 (nI (1 + z / 256 % 90))) (M 288 7)) (f26 := s_of (vB M 288) l 4) (g26 := sput (kp M n c a) 288 (s_set (vB M 288) l 4 (nI (z / 256 % 10))) (M 288 7)) (f28 := vB M 288 0) (g28 := sput (kp M n c a) 288 (upd (vB M 288) 0 (nI (z / 256 % 5))) (M 288 7)) hK hwo hx
      (m2 := fun h => ?_) (h3 := fun h => ?_) (h5 := fun _ _ => ⟨rfl, same⟩) (m6 := fun _ _ => ?_) (h7 := fun _ _ => nI_ne0 (by omega) (by omega)) (m8 := fun _ _ => ?_) (m9 := fun _ h => ?_) (h10 := fun _ h => ⟨rfl, ?_⟩) (h12 := fun _ _ => ⟨rfl, same⟩) (m13 := fun _ h => rdy (n0 h)) (h15 := fun _ _ _ => ⟨rfl, same⟩) (h17 := fun _ _ _ _ => ⟨rfl, same⟩) (m18 := fun _ h h2 _ => ?_) (h19 := fun _ h h2 _ => ⟨rfl, ?_⟩) (h21 := fun _ _ => ⟨rfl, same⟩) (m22 := fun _ h => ?_) (h23 := fun _ h => ⟨rfl, ?_⟩) (h25 := fun _ _ => ⟨rfl, same⟩) (m26 := fun _ h => ?_) (h27 := fun _ h => ⟨rfl, ?_⟩) (m28 := fun _ => ?_) (h29 := fun _ => ⟨rfl, ?_⟩)
    · rw [t9] at h; omega
    · rw [t9] at h; omega
    · exact (c_clerkCount hx).val e7
    · exact (c_minute hx).val e9
    · rw [a16, a128, a6, a40, a10]
      exact (d_addLetter hx kq rfl (fadd (hadd h))).weak (fun _ _ q => q.2) (fun _ _ q => q)
    · have h12 := hadd h
      have hD := oR_add (x3 := vB M 288 9 + nI (z / 2048 % 6)) (x5 := nI (z / 1048576 % 10)) hO h12 (a := z / 16 % c) (Nat.mod_lt _ (by omega)) rfl (in_nat (v := 1 + z / 128 % 9) (lo := 1) (hi := 30) (by omega) (by omega) (by omega)) (in_nat (v := t + 1 + z / 16384 % 40) (lo := 1) (hi := 999) (by omega) (by omega) (by omega))
      refine ⟨_, n + 1, PR_chg hm hm6 hD (fun i h1 h2 => (add_lo (by omega) (by omega)).trans (hS i h1 h2)) ?_, oV_chg hV, Nat.le_succ n, add_lo (by omega) (by omega), add_lo (by omega) (by omega), fun j hj => ?_, fun j h1 h2 => ⟨add_of (by omega) (by omega), add_of (by omega) (by omega)⟩⟩
      · rw [e9, nI_add]
        exact inv_add hi (by omega) (by omega)
      · by_cases e : j = n
        · subst e
          rw [add_at (by omega), hi.2.2.2 j (Nat.le_refl j) hj]
          rfl
        · exact add_of (by omega) e
    · have hl := n0 h
      have q := d_discard (G := kG K) (w := kw K) (gl := kl K) hx kq rfl (fdis hl (b2_n0.mp h2))
      rw [cl hl] at q
      exact q.weak (fun _ _ q => q.2) (fun _ _ q => q)
    · have hl := n0 h
      have hop : s_open L l = true := by rw [← eq_open hE hl]; exact b2_n0.mp h2
      have lo : ∀ k, k < 64 → s_drop L l k = L k := fun k hk => by unfold s_drop; rw [set_lo hk, set_lo hk]
      have of7 : ∀ j f, f < 8 → (j ≠ l ∨ f = 7) → s_of (s_drop L l) j f = s_of L j f := fun j f hf hq => by
        unfold s_drop
        rw [of_set hf (by omega), if_neg (by omega), of_set hf (by omega), if_neg (by omega)]
      exact ⟨_, n, PR_chg hm hm6 (oR_drop hO hl hop) (fun i h1 h2 => (lo i (by omega)).trans (hS i h1 h2)) (inv_drop hi hn), oV_chg hV, Nat.le_refl n, lo 11 (by omega), lo 12 (by omega), fun j hj => of7 j 7 (by omega) (Or.inr rfl), fun j h1 h2 => ⟨of7 j 5 (by omega) (Or.inl (by omega)), of7 j 6 (by omega) (Or.inl (by omega))⟩⟩
    · rw [a90]
      have hl := n0 h
      have q := d_setDeadline (G := kG K) (w := kw K) (gl := kl K) hx kq rfl (fnum (1 + z / 256 % 90) 1 999 hl (by omega) (by omega) (by omega))
      rw [cl hl] at q
      exact q.weak (fun _ _ q => q.2) (fun _ _ q => q)
    · have hl := n0 h
      have of7 : ∀ j f, f < 8 → f ≠ 3 → s_of (s_set L l 3 (nI (1 + z / 256 % 90))) j f = s_of L j f := fun j f hf hq => by
        rw [of_set hf (by omega), if_neg (by omega)]
      exact ⟨_, n, PR_chg hm hm6 (oR_set34 hO (Or.inl ⟨rfl, in_nat (v := 1 + z / 256 % 90) (lo := 1) (hi := 999) (by omega) (by omega) (by omega)⟩)) (fun i h1 h2 => (set_lo (by omega)).trans (hS i h1 h2)) (inv_set3 hi hn), oV_chg hV, Nat.le_refl n, set_lo (by omega), set_lo (by omega), fun j hj => of7 j 7 (by omega) (by omega), fun j h1 h2 => ⟨of7 j 5 (by omega) (by omega), of7 j 6 (by omega) (by omega)⟩⟩
    · rw [ap]
      have hl := n0 h
      have q := d_setPriority (G := kG K) (w := kw K) (gl := kl K) hx kq rfl (fnum (z / 256 % 10) 0 9 hl (by omega) (by omega) (by omega))
      rw [cl hl] at q
      exact q.weak (fun _ _ q => q.2) (fun _ _ q => q)
    · have hl := n0 h
      have of7 : ∀ j f, f < 8 → f ≠ 4 → s_of (s_set L l 4 (nI (z / 256 % 10))) j f = s_of L j f := fun j f hf hq => by
        rw [of_set hf (by omega), if_neg (by omega)]
      exact ⟨_, n, PR_chg hm hm6 (oR_set34 hO (Or.inr rfl)) (fun i h1 h2 => (set_lo (by omega)).trans (hS i h1 h2)) (inv_set4 hi (by omega)), oV_chg hV, Nat.le_refl n, set_lo (by omega), set_lo (by omega), fun j hj => of7 j 7 (by omega) (by omega), fun j h1 h2 => ⟨of7 j 5 (by omega) (by omega), of7 j 6 (by omega) (by omega)⟩⟩
    · rw [a5]
      exact (d_setPolicy hx kq rfl fpol).weak (fun _ _ q => q.2) (fun _ _ q => q)
    · exact ⟨_, n, PR_chg hm hm6 (oR_pol hO (in_nat (v := z / 256 % 5) (lo := 0) (hi := 4) (by omega) (by omega) (by omega))) (fun i h1 h2 => (upd_ne _ _ (by omega)).trans (hS i h1 h2)) (inv_pol hi hn), oV_chg hV, Nat.le_refl n, upd_ne _ _ (by omega), upd_ne _ _ (by omega), fun j hj => of_upd (by omega), fun j h1 h2 => ⟨of_upd (by omega), of_upd (by omega)⟩⟩
  refine bL_act_0 (f1 := nI n) (g1 := M) hK hwo hx ((c_letterCount hx).val e8) (fun h => h) (fun h => ?_) (fun h => ?_)
  · have hn0 : n ≠ 0 := fun e => h (by rw [e]; rfl)
    rw [show nI z / (16 : Int32) - nI z / (16 : Int32) / nI n * nI n = nI (z / 16 % n) from md 16 n (by omega) (by omega) (by omega) (by omega)]
    exact k19 _ (fun _ => Nat.mod_lt _ (by omega))
  · exact k19 0 (fun q => absurd ((nI_eq (a := n) (b := 0) (by omega) (by omega)).mp h) q)
end ACT
