/-! THE LAW'S WORDS AND THE BUFFER -/
theorem w_s : ∀ s, s < 32 → (((nI s).toUInt32 &&& Int32.toUInt32 31).toNat % 32) = s := by decide +kernel
theorem w_l : ((8 : Int32) &&& 31) = 8 := by decide
theorem w_or {a g : Nat} (hg : g < 256) (ha : a * 256 + g < 2 ^ 31) : (nI a <<< ((8 : Int32) &&& 31)) ||| nI g = nI (a * 256 + g) := by
  apply Int32.toBitVec_inj.mp
  rw [Int32.toBitVec_or, Int32.toBitVec_shiftLeft]
  show (BitVec.ofNat 32 a <<< (((8 : Int32) &&& 31).toBitVec.smod 32)) ||| BitVec.ofNat 32 g = BitVec.ofNat 32 (a * 256 + g)
  rw [show (((8 : Int32) &&& 31).toBitVec.smod 32) = 8#32 by decide]
  apply BitVec.eq_of_toNat_eq
  have h8 : (8#32).toNat = 8 := rfl
  have e1 : (BitVec.ofNat 32 a <<< 8#32).toNat = a <<< 8 := by
    rw [BitVec.shiftLeft_eq', BitVec.toNat_shiftLeft, h8, BitVec.toNat_ofNat, Nat.mod_eq_of_lt (show a < 2 ^ 32 by omega)]
    exact Nat.mod_eq_of_lt (show a <<< 8 < 2 ^ 32 by have z : a <<< 8 = a * 2 ^ 8 := Nat.shiftLeft_eq a 8; omega)
  have e2 : (BitVec.ofNat 32 g).toNat = g := by rw [BitVec.toNat_ofNat]; exact Nat.mod_eq_of_lt (by omega)
  have e3 : (BitVec.ofNat 32 (a * 256 + g)).toNat = a * 256 + g := by rw [BitVec.toNat_ofNat]; exact Nat.mod_eq_of_lt (by omega)
  rw [BitVec.toNat_or, e1, e2, e3, ← Nat.shiftLeft_add_eq_or_of_lt (show g < 2 ^ 8 by omega), Nat.shiftLeft_eq]
theorem w_sh {v s : Nat} (hv : v < 2 ^ 31) (hs : s < 32) : ((nI v).toUInt32 >>> ((nI s).toUInt32 &&& Int32.toUInt32 31)).toInt32 = nI (v / 2 ^ s) := by
  have e2 : UInt32.ofNat v >>> ((nI s).toUInt32 &&& Int32.toUInt32 31) = UInt32.ofNat (v / 2 ^ s) := by
    apply UInt32.toNat_inj.1
    have h1 : (UInt32.ofNat v).toNat = v := Nat.mod_eq_of_lt (by omega)
    have h2 : (UInt32.ofNat (v / 2 ^ s)).toNat = v / 2 ^ s := Nat.mod_eq_of_lt (Nat.lt_of_le_of_lt (Nat.div_le_self _ _) (by omega))
    rw [UInt32.toNat_shiftRight, w_s s hs, h1, h2, Nat.shiftRight_eq_div_pow]
  show (UInt32.ofNat v >>> ((nI s).toUInt32 &&& Int32.toUInt32 31)).toInt32 = _
  rw [e2]
  rfl
theorem w_i8 {v : Nat} (hv : v < 2 ^ 31) (h : v % 256 < 128) : (nI v).toInt8.toInt32 = nI (v % 256) := by
  apply Int32.toInt_inj.1
  rw [Int8.toInt_toInt32, Int32.toInt_toInt8, nI_toInt hv, nI_toInt (by omega), Int.bmod_def]
  have e : ((v : Int) % ((2 ^ 8 : Nat) : Int)) = ((v % 256 : Nat) : Int) := by omega
  rw [e, if_pos (by omega)]
theorem kb_nI {v s : Nat} (hv : v < 2 ^ 31) (hs : s < 32) (h : v / 2 ^ s % 256 < 128) : kb (nI v) (nI s) = nI (v / 2 ^ s % 256) := by
  unfold kb
  rw [w_sh hv hs, w_i8 (Nat.lt_of_le_of_lt (Nat.div_le_self _ _) hv) h]
/-- the text's character at a place: blank behind its end -/
def gch (T : List Nat) (k : Nat) : Nat := if k < T.length then T.getD k 0 else 32
def txOK (T : List Nat) : Prop := ∀ x ∈ T, x < 128
theorem gch_lt {T : List Nat} (h : txOK T) (k : Nat) : gch T k < 128 := by
  unfold gch
  by_cases q : k < T.length
  · rw [if_pos q, List.getD_eq_getElem?_getD, List.getElem?_eq_getElem q]
    exact h _ (List.getElem_mem q)
  · rw [if_neg q]; omega
def wdN (T : List Nat) (k : Nat) : Nat := ((gch T k * 256 + gch T (k + 1)) * 256 + gch T (k + 2)) * 256 + gch T (k + 3)
def bT (b : zBk) (T : List Nat) (v : Nat) : zBk := fun k => if k < v then nI (gch T k) else b k
theorem bT_0 {b : zBk} {T : List Nat} : bT b T 0 = b := by funext k; exact if_neg (Nat.not_lt_zero k)
theorem bT_put {b : zBk} {T : List Nat} {v : Nat} {x : Int32} (h : x = nI (gch T v)) : upd (bT b T v) v x = bT b T (v + 1) := by
  funext k
  by_cases e : k = v
  · rw [e, upd_same, h]; exact (if_pos (Nat.lt_succ_self v)).symm
  · rw [upd_ne _ _ e]
    unfold bT
    by_cases q : k < v
    · rw [if_pos q, if_pos (by omega)]
    · rw [if_neg q, if_neg (by omega)]
theorem bT_wd {b : zBk} {T : List Nat} (hT : txOK T) {v : Nat} : k_wd (bT b T v) v (nI (wdN T v)) = bT b T (v + 4) := by
  have g0 := gch_lt hT v
  have g1 := gch_lt hT (v + 1)
  have g2 := gch_lt hT (v + 2)
  have g3 := gch_lt hT (v + 3)
  unfold k_wd
  have e0 : kb (nI (wdN T v)) 24 = nI (gch T v) := by
    have e : wdN T v / 2 ^ 24 % 256 = gch T v := by unfold wdN; omega
    rw [← e]
    exact kb_nI (s := 24) (by unfold wdN; omega) (by omega) (by omega)
  have e1 : kb (nI (wdN T v)) 16 = nI (gch T (v + 1)) := by
    have e : wdN T v / 2 ^ 16 % 256 = gch T (v + 1) := by unfold wdN; omega
    rw [← e]
    exact kb_nI (s := 16) (by unfold wdN; omega) (by omega) (by omega)
  have e2 : kb (nI (wdN T v)) 8 = nI (gch T (v + 2)) := by
    have e : wdN T v / 2 ^ 8 % 256 = gch T (v + 2) := by unfold wdN; omega
    rw [← e]
    exact kb_nI (s := 8) (by unfold wdN; omega) (by omega) (by omega)
  have e3 : (nI (wdN T v)).toInt8.toInt32 = nI (gch T (v + 3)) := by
    have e : wdN T v % 256 = gch T (v + 3) := by unfold wdN; omega
    rw [← e]
    exact w_i8 (by unfold wdN; omega) (by omega)
  rw [e0, e1, e2, e3, bT_put rfl, bT_put rfl, bT_put rfl, bT_put rfl]
theorem bT_ap {b : zBk} {T : List Nat} (hT : txOK T) {v : Nat} : k_ap (bT b T v) v (nI (wdN T v)) (nI (wdN T (v + 4))) (nI (wdN T (v + 8))) (nI (wdN T (v + 12))) (nI (wdN T (v + 16))) = bT b T (v + 20) := by
  unfold k_ap
  rw [bT_wd hT, show v + 8 = v + 4 + 4 from rfl, bT_wd hT, show v + 12 = v + 4 + 4 + 4 from rfl, bT_wd hT, bT_wd hT, show v + 16 = v + 4 + 4 + 4 + 4 from rfl, bT_wd hT]
section SAY
variable {G : zG} {w : Nat × Nat} {gl : Launch} {M : zM} {T : List Nat}
/-- the run's text -/
def isTx (G : zG) (T : List Nat) : Prop := gt G = (T.length, T.map nI) ∧ T.length ≠ 0 ∧ T.length ≤ 560 ∧ txOK T
theorem isTx.s (h : isTx G T) : zStr G 1401 1402 T.length (T.map nI) := by
  have q := zs_txt G (show (gt G).1 ≠ 0 by rw [h.1]; exact h.2.1)
  rw [h.1] at q
  exact q
theorem isTx.x (h : isTx G T) : zTx1 T.length (T.map nI) := by
  refine ⟨by have := h.2.2.1; omega, fun i hi => ?_⟩
  have e : (T.map nI).getD i 0 = nI (T.getD i 0) := by
    rw [List.getD_eq_getElem?_getD, List.getD_eq_getElem?_getD, List.getElem?_map, List.getElem?_eq_getElem hi]; rfl
  have hl : T.getD i 0 < 128 := by
    rw [List.getD_eq_getElem?_getD, List.getElem?_eq_getElem hi]
    exact h.2.2.2 _ (List.getElem_mem hi)
  rw [e]
  have dd : ∀ n, n < 128 → (((nI n) &&& 255).toUInt32 % 65536).toInt32 = nI n ∧ narrow .char (.int (nI n)) = .int (nI n) := by decide +kernel
  exact dd _ hl
theorem isTx.at (h : isTx G T) {k : Nat} (hk : k < T.length) : (T.map nI).getD k 0 = nI (gch T k) := by
  unfold gch
  rw [if_pos hk, List.getD_eq_getElem?_getD, List.getD_eq_getElem?_getD, List.getElem?_map, List.getElem?_eq_getElem hk]; rfl
theorem e_word (h : isTx G T) {at_ : Nat} (ha : at_ ≤ 600) : CT G w gl (yL_word, cL_word, 4, some .int) 4 (0, 0) [.ref 1401, .int (nI at_)] M (qE (nI (wdN T at_)) M) nX := by
  refine ct_of (by decide) [(0, .ref 1401), (1, .int (nI at_))] rfl rfl (fun K hG hw hgl hwo hK => ?_)
  subst hG; subst hw; subst hgl
  have nz : (gt (kG K)).1 ≠ 0 := by rw [h.1]; exact h.2.1
  have hlen : T.length < 2 ^ 31 := by have := h.2.2.1; omega
  have en : ZZ K (0, 0) 4 [(0, .ref 1401), (1, .int (nI at_)), (2, .int (nI (wdN T at_))), (3, .int (nI (at_ + 4)))] [] M := by
    refine bL_word_4 (f3 := 0) (g3 := M) (f7 := 0) (g7 := M) hK hwo (h2 := fun _ => ⟨_, rfl, rfl, rfl⟩) (m3 := fun q => absurd (show nI at_ + 4 ≤ nI (at_ + 4) by rw [show nI at_ + (4 : Int32) = nI (at_ + 4) from nI_add at_ 4]; exact Int32.le_refl _) q) (g4 := nz) (k6 := fun q => absurd (show nI at_ + 4 ≤ nI (at_ + 4) by rw [show nI at_ + (4 : Int32) = nI (at_ + 4) from nI_add at_ 4]; exact Int32.le_refl _) q) (m7 := fun q => absurd (show nI at_ + 4 ≤ nI (at_ + 4) by rw [show nI at_ + (4 : Int32) = nI (at_ + 4) from nI_add at_ 4]; exact Int32.le_refl _) q) (g8 := nz) (k9 := fun q => absurd (show nI at_ + 4 ≤ nI (at_ + 4) by rw [show nI at_ + (4 : Int32) = nI (at_ + 4) from nI_add at_ 4]; exact Int32.le_refl _) q)
  have st : ∀ (i a : Nat), i < 4 → a * 256 + 128 < 2 ^ 31 → ZZ K (0, 0) 4 [(0, .ref 1401), (1, .int (nI at_)), (2, .int (nI (a * 256 + gch T (at_ + i)))), (3, .int (nI (at_ + (i + 1))))] [] M → ZZ K (0, 0) 4 [(0, .ref 1401), (1, .int (nI at_)), (2, .int (nI a)), (3, .int (nI (at_ + i)))] [] M := fun i a hi hb kk => by
    have g := gch_lt h.2.2.2 (at_ + i)
    have c4 : ¬ nI at_ + 4 ≤ nI (at_ + i) := fun q => by
      rw [show nI at_ + (4 : Int32) = nI (at_ + 4) from nI_add at_ 4] at q
      have := (nI_leI (by omega) (by omega)).mp q
      omega
    have e1 : nI (at_ + i) + 1 = nI (at_ + (i + 1)) := nI_1 _
    have hor := w_or (a := a) (g := gch T (at_ + i)) (by omega) (by omega)
    refine bL_word_4 (f3 := nI T.length) (g3 := M) (f7 := nI (gch T (at_ + i))) (g7 := M) hK hwo (h2 := fun q => absurd q c4) (m3 := fun _ => cS_length h.s hlen) (g4 := nz) (k6 := fun _ q => ?_) (m7 := fun _ q => ?_) (g8 := nz) (k9 := fun _ q => ?_)
    · have hge := (nI_leI hlen (by omega)).mp q
      have eg : gch T (at_ + i) = 32 := if_neg (by omega)
      rw [eg] at hor kk
      rw [show ((32 : Int32)) = nI 32 from rfl, hor, e1]
      exact kk
    · have hlt : at_ + i < T.length := by
        by_cases z : at_ + i < T.length
        · exact z
        · exact absurd (nI_leI hlen (by omega) |>.mpr (by omega)) q
      have z := cS_charAt (G := kG K) (w := kw K) (l := kl K) (I := M) (i := nI (at_ + i)) h.s h.x (vp_in_nI hlt hlen)
      rw [nI_clamp (by omega), h.at hlt] at z
      exact z
    · rw [hor, e1]
      exact kk
  have gw := h.2.2.2
  have g0 := gch_lt gw at_
  have g1 := gch_lt gw (at_ + 1)
  have g2 := gch_lt gw (at_ + 2)
  have s3 := st 3 ((gch T at_ * 256 + gch T (at_ + 1)) * 256 + gch T (at_ + 2)) (by omega) (by omega) en
  have s2 := st 2 (gch T at_ * 256 + gch T (at_ + 1)) (by omega) (by omega) s3
  have s1 := st 1 (gch T at_) (by omega) (by omega) s2
  have s0 := st 0 0 (by omega) (by omega) (by rw [show (0 * 256 + gch T (at_ + 0)) = gch T at_ by rw [Nat.add_zero]; omega]; exact s1)
  exact bL_word_0 hK hwo s0
theorem d_append (hx : isT w 10 0) {N : Nat} {x1 x2 x3 x4 x5 : Int32} (h1 : M 285 1 = nI N) (hN : N + 20 ≤ 600) : CT G w gl (yX10_append, cX10_append, 6, some .int) 6 (0, 0) [.ref 0, .int x1, .int x2, .int x3, .int x4, .int x5] M (qE (nI (N + 20)) (pM M (upd (M 285) 1 (nI (N + 20))) (k_ap (M 286) N x1 x2 x3 x4 x5))) nX := by
  refine ct_of (by decide) [(0, .ref 0), (1, .int x1), (2, .int x2), (3, .int x3), (4, .int x4), (5, .int x5)] rfl rfl (fun K hG hw hgl hwo hK => ?_)
  subst hG; subst hw; subst hgl
  have hi := hx.inp hwo
  have e20 : M 285 1 ≤ 580 := by
    rw [h1]; exact (nI_leI (a := N) (b := 580) (by omega) (by omega)).mpr (by omega)
  have m1 := k_putFour (G := kG K) (w := kw K) (gl := kl K) (I := M) (F := M 285) (b := M 286) (N := N) (x := x1) hi h1 (by omega)
  rw [pM_id] at m1
  refine nX10_append_0 (g2 := pM M (upd (M 285) 1 (nI (N + 4))) (k_wd (M 286) N x1)) (g6 := pM M (upd (M 285) 1 (nI (N + 20))) (k_ap (M 286) N x1 x2 x3 x4 x5)) hK hwo hx ⟨Nat.le_refl 0, Nat.le_refl 0⟩ (fun _ => m1) ⟨Nat.le_refl 0, Nat.le_refl 0⟩ (fun _ => k_putFour hi (upd_same _ _ _) (by omega)) ⟨Nat.le_refl 0, Nat.le_refl 0⟩ (fun _ => k_putFour hi (upd_same _ _ _) (by omega)) ⟨Nat.le_refl 0, Nat.le_refl 0⟩ (fun _ => k_putFour hi (upd_same _ _ _) (by omega)) ⟨Nat.le_refl 0, Nat.le_refl 0⟩ (fun _ => ?_) ⟨Nat.le_refl 0, Nat.le_refl 0⟩ (fun _ => ⟨_, rfl, by rw [pM_285, upd_same], rfl⟩) (fun z => absurd e20 z) (fun z => absurd e20 z)
  have h5 := k_putFour (G := kG K) (w := kw K) (gl := kl K) (I := M) (F := upd (upd (upd (upd (M 285) 1 (nI (N + 4))) 1 (nI (N + 4 + 4))) 1 (nI (N + 4 + 4 + 4))) 1 (nI (N + 4 + 4 + 4 + 4))) (b := k_wd (k_wd (k_wd (k_wd (M 286) N x1) (N + 4) x2) (N + 4 + 4) x3) (N + 4 + 4 + 4) x4) (N := N + 4 + 4 + 4 + 4) (x := x5) hi (upd_same _ _ _) (by omega)
  rw [upd_upd _ _ (nI (N + 4 + 4 + 4 + 4)) _] at h5
  rw [show pM M (upd (M 285) 1 (nI (N + 20))) (k_ap (M 286) N x1 x2 x3 x4 x5) = pM M (upd (upd (upd (upd (M 285) 1 (nI (N + 4))) 1 (nI (N + 4 + 4))) 1 (nI (N + 4 + 4 + 4))) 1 (nI (N + 4 + 4 + 4 + 4 + 4))) (k_wd (k_wd (k_wd (k_wd (k_wd (M 286) N x1) (N + 4) x2) (N + 4 + 4) x3) (N + 4 + 4 + 4) x4) (N + 4 + 4 + 4 + 4) x5) by
    rw [upd_upd, upd_upd, upd_upd]; rfl]
  exact h5
theorem d_truncate (hx : isT w 10 0) {N x : Nat} (h1 : M 285 1 = nI N) (hN : N ≤ 600) (hx2 : x ≤ N) : CT G w gl (yX10_truncate, cX10_truncate, 2, some .int) 6 (0, 0) [.ref 0, .int (nI x)] M (qE (nI x) (up M 285 1 (nI x))) nX := by
  refine ct_of (by decide) [(0, .ref 0), (1, .int (nI x))] rfl rfl (fun K hG hw hgl hwo hK => ?_)
  subst hG; subst hw; subst hgl
  have n0 : ¬ nI x < 0 := Int32.not_lt.mpr (nI_le (a := 0) (by omega) (by omega))
  have le : nI x ≤ M 285 1 := by rw [h1]; exact nI_le hx2 (by omega)
  exact nX10_truncate_0 hK hwo hx (fun d => absurd d n0) (fun d => absurd d n0) ⟨Nat.le_refl 0, Nat.le_refl 0⟩ (fun _ _ => ⟨_, rfl, rfl, rfl⟩) (fun _ d => absurd le d) (fun _ d => absurd le d)
/-- the memory behind the law's say -/
def sayM (M : zM) (T : List Nat) : zM := pM M (upd (M 285) 1 (nI T.length)) (bT (M 286) T ((T.length + 19) / 20 * 20))
theorem e_say (hx : isT w 10 0) (h : isTx G T) {N : Nat} (h1 : M 285 1 = nI N) (hN : N ≤ 600) : CT G w gl (yL_say, cL_say, 3, some .boolean) 7 (0, 0) [.ref 0, .ref 1401] M (qE 1 (sayM M T)) nX := by
  refine ct_of (by decide) [(0, .ref 0), (1, .ref 1401)] rfl rfl (fun K hG hw hgl hwo hK => ?_)
  subst hG; subst hw; subst hgl
  have nz : (gt (kG K)).1 ≠ 0 := by rw [h.1]; exact h.2.1
  have hL := h.2.2.1
  have hlen : T.length < 2 ^ 31 := by omega
  have en : ∀ v : Nat, v = (T.length + 19) / 20 * 20 → ZZ K (0, 0) 8 [(0, .ref 0), (1, .ref 1401), (2, .int (nI v))] [] (pM M (upd (M 285) 1 (nI v)) (bT (M 286) T v)) := fun v ev => by
    have le : nI T.length ≤ nI v := nI_le (by omega) (by omega)
    refine bL_say_8 (f1 := nI T.length) (g1 := pM M (upd (M 285) 1 (nI v)) (bT (M 286) T v)) (f4 := nI T.length) (g4 := pM M (upd (M 285) 1 (nI v)) (bT (M 286) T v)) (f6 := nI T.length) (g6 := sayM M T) (f7 := nI T.length) (g7 := sayM M T) (f12 := 0) (g12 := M) (f13 := 0) (g13 := M) (f14 := 0) (g14 := M) (f15 := 0) (g15 := M) (f16 := 0) (g16 := M) (f17 := 0) (g17 := M) hK hwo hx (cS_length h.s hlen) nz (fun _ => cS_length h.s hlen) nz (fun _ => ?_) (fun _ => cS_length h.s hlen) nz (fun _ q => absurd rfl q) (fun _ _ => ⟨_, rfl, rfl, rfl⟩) (fun q => absurd le q) (fun q => absurd le q) (fun q => absurd le q) (fun q => absurd le q) (fun q => absurd le q) (fun q => absurd le q) (fun q => absurd le q)
    have z := d_truncate (G := kG K) (w := kw K) (gl := kl K) (M := pM M (upd (M 285) 1 (nI v)) (bT (M 286) T v)) (N := v) (x := T.length) hx (by rw [pM_285, upd_same]) (by omega) (by omega)
    rw [show up (pM M (upd (M 285) 1 (nI v)) (bT (M 286) T v)) 285 1 (nI T.length) = sayM M T by
      rw [up_def, pM_285, upd_upd]
      unfold sayM pM
      rw [ups_ups, ev]] at z
    exact z
  have lp : ∀ d v : Nat, v + d * 20 = (T.length + 19) / 20 * 20 → ZZ K (0, 0) 8 [(0, .ref 0), (1, .ref 1401), (2, .int (nI v))] [] (pM M (upd (M 285) 1 (nI v)) (bT (M 286) T v)) := by
    intro d
    induction d with
    | zero => intro v hv; exact en v (by omega)
    | succ d ih =>
      intro v hv
      have lt : ¬ nI T.length ≤ nI v := fun q => by
        have := (nI_leI hlen (by omega)).mp q
        omega
      have J := pM M (upd (M 285) 1 (nI v)) (bT (M 286) T v)
      have wd : ∀ k, k ≤ 600 → CT (kG K) (kw K) (kl K) (yL_word, cL_word, 4, some .int) 4 (0, 0) [.ref 1401, .int (nI k)] (pM M (upd (M 285) 1 (nI v)) (bT (M 286) T v)) (qE (nI (wdN T k)) (pM M (upd (M 285) 1 (nI v)) (bT (M 286) T v))) nX := fun k hk => e_word h hk
      refine bL_say_8 (f1 := nI T.length) (g1 := pM M (upd (M 285) 1 (nI v)) (bT (M 286) T v)) (f4 := 0) (g4 := M) (f6 := 0) (g6 := M) (f7 := 0) (g7 := M) (f12 := nI (wdN T v)) (g12 := pM M (upd (M 285) 1 (nI v)) (bT (M 286) T v)) (f13 := nI (wdN T (v + 4))) (g13 := pM M (upd (M 285) 1 (nI v)) (bT (M 286) T v)) (f14 := nI (wdN T (v + 8))) (g14 := pM M (upd (M 285) 1 (nI v)) (bT (M 286) T v)) (f15 := nI (wdN T (v + 12))) (g15 := pM M (upd (M 285) 1 (nI v)) (bT (M 286) T v)) (f16 := nI (wdN T (v + 16))) (g16 := pM M (upd (M 285) 1 (nI v)) (bT (M 286) T v)) (f17 := nI (v + 20)) (g17 := pM M (upd (M 285) 1 (nI (v + 20))) (bT (M 286) T (v + 20))) hK hwo hx (cS_length h.s hlen) nz (fun q => absurd q lt) nz (fun q => absurd q lt) (fun q => absurd q lt) nz (fun q => absurd q lt) (fun q => absurd q lt) (fun _ => wd v (by omega)) (fun _ => ?_) (fun _ => ?_) (fun _ => ?_) (fun _ => ?_) (fun _ => ?_) (fun _ => ?_)
      · rw [show nI v + (4 : Int32) = nI (v + 4) from nI_add v 4]; exact wd _ (by omega)
      · rw [show nI v + (8 : Int32) = nI (v + 8) from nI_add v 8]; exact wd _ (by omega)
      · rw [show nI v + (12 : Int32) = nI (v + 12) from nI_add v 12]; exact wd _ (by omega)
      · rw [show nI v + (16 : Int32) = nI (v + 16) from nI_add v 16]; exact wd _ (by omega)
      · have z := d_append (G := kG K) (w := kw K) (gl := kl K) (M := pM M (upd (M 285) 1 (nI v)) (bT (M 286) T v)) (N := v) (x1 := nI (wdN T v)) (x2 := nI (wdN T (v + 4))) (x3 := nI (wdN T (v + 8))) (x4 := nI (wdN T (v + 12))) (x5 := nI (wdN T (v + 16))) hx (by rw [pM_285, upd_same]) (by omega)
        rw [pM_285, pM_286, bT_ap h.2.2.2, upd_upd, show pM (pM M (upd (M 285) 1 (nI v)) (bT (M 286) T v)) (upd (M 285) 1 (nI (v + 20))) (bT (M 286) T (v + 20)) = pM M (upd (M 285) 1 (nI (v + 20))) (bT (M 286) T (v + 20)) by
          unfold pM
          rw [ups_sw (show 285 ≠ 286 by decide), ups_ups, ups_ups]] at z
        exact z
      · rw [show nI v + (20 : Int32) = nI (v + 20) from nI_add v 20]
        exact ih (v + 20) (by omega)
  have s0 := lp ((T.length + 19) / 20) 0 (by omega)
  rw [bT_0] at s0
  have e0 : up M 285 1 (nI 0) = pM M (upd (M 285) 1 (nI 0)) (M 286) := by
    rw [up_def]; unfold pM; rw [ups_id]
  refine bL_say_0 (f1 := nI 0) (g1 := pM M (upd (M 285) 1 (nI 0)) (M 286)) hK hwo hx ?_ s0
  rw [← e0]
  exact d_truncate (x := 0) hx h1 hN (by omega)
end SAY
