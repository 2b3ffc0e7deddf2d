/-! NUMBERS WITH A POINT: a quotient of whole numbers is a number -/
def okd (f : FP.Core.Fmt) : FP.Core.Datum → Prop
  | .nan => False
  | .inf _ => True
  | .fin _ c q => c < 2 ^ f.p ∧ q ≤ f.qmax
theorem ok_settle {f : FP.Core.Fmt} (hp : 0 < f.p) {s : Bool} {c : Nat} {q : Int} : okd f (FP.Core.settle f s c q) := by
  have ht : FP.Core.Fmt.tails f < 2 ^ f.p := Nat.pow_lt_pow_right (by decide) (by omega)
  unfold FP.Core.settle FP.Core.bound
  split
  · rename_i h
    split
    · rename_i h2; exact ⟨h, h2⟩
    · trivial
  · split
    · rename_i h2; exact ⟨ht, h2⟩
    · trivial
theorem ok_ratio {f : FP.Core.Fmt} (hp : 0 < f.p) (hq : f.qmin ≤ f.qmax) {s : Bool} {n d : Nat} {e : Int} : okd f (FP.Core.roundRatio f s n d e) := by
  unfold FP.Core.roundRatio
  split
  · exact ⟨Nat.two_pow_pos _, hq⟩
  · unfold FP.Core.roundAt; exact ok_settle hp
theorem ok_quot {f : FP.Core.Fmt} (hp : 0 < f.p) (hq : f.qmin ≤ f.qmax) {x : FP.Core.Datum} (hx : x ≠ .nan) {t : Bool} {d : Nat} {r : Int} (hd : d ≠ 0) : okd f (FP.Core.quotient f x (.fin t d r)) := by
  cases x with
  | nan => exact absurd rfl hx
  | inf s => trivial
  | fin s c q =>
    show okd f (if d = 0 then (if c = 0 then .nan else .inf (s != t)) else FP.Core.roundRatio f (s != t) c d (q - r))
    rw [if_neg hd]
    exact ok_ratio hp hq
theorem enc32 {d : FP.Core.Datum} (h : okd FP.Core.b32 d) : FP.Core.encode FP.Core.b32 d < 4294967296 ∧ FP.Core.encode FP.Core.b32 d % 2147483648 ≤ 2139095040 := by
  have e1 : FP.Core.Fmt.exps FP.Core.b32 = 256 := by decide
  have e2 : FP.Core.Fmt.tails FP.Core.b32 = 8388608 := by decide
  have e3 : FP.Core.Fmt.qmin FP.Core.b32 = -149 := by decide
  have e4 : FP.Core.Fmt.qmax FP.Core.b32 = 104 := by decide
  cases d with
  | nan => exact h.elim
  | inf s => unfold FP.Core.encode FP.Core.assemble; rw [e1, e2]; cases s <;> simp
  | fin s c q =>
    have h1 : c < 16777216 := h.1
    have h2 : q ≤ 104 := by rw [← e4]; exact h.2
    unfold FP.Core.encode FP.Core.assemble
    rw [e1, e2, e3]
    cases s
    · simp only [Bool.toNat_false]; split <;> omega
    · simp only [Bool.toNat_true]; split <;> omega
theorem enc64 {d : FP.Core.Datum} (h : okd FP.Core.b64 d) : FP.Core.encode FP.Core.b64 d < 18446744073709551616 ∧ FP.Core.encode FP.Core.b64 d % 9223372036854775808 ≤ 9218868437227405312 := by
  have e1 : FP.Core.Fmt.exps FP.Core.b64 = 2048 := by decide
  have e2 : FP.Core.Fmt.tails FP.Core.b64 = 4503599627370496 := by decide
  have e3 : FP.Core.Fmt.qmin FP.Core.b64 = -1074 := by decide
  have e4 : FP.Core.Fmt.qmax FP.Core.b64 = 971 := by decide
  cases d with
  | nan => exact h.elim
  | inf s => unfold FP.Core.encode FP.Core.assemble; rw [e1, e2]; cases s <;> simp
  | fin s c q =>
    have h1 : c < 9007199254740992 := h.1
    have h2 : q ≤ 971 := by rw [← e4]; exact h.2
    unfold FP.Core.encode FP.Core.assemble
    rw [e1, e2, e3]
    cases s
    · simp only [Bool.toNat_false]; split <;> omega
    · simp only [Bool.toNat_true]; split <;> omega
theorem mask32 {r : UInt32} (h : r.toNat % 2147483648 ≤ 2139095040) : vf_n32 r := by
  unfold vf_n32
  rw [UInt32.le_iff_toNat_le, UInt32.toNat_and, show (0x7fffffff : UInt32).toNat = 2 ^ 31 - 1 by decide, Nat.and_two_pow_sub_one_eq_mod, show (0x7f800000 : UInt32).toNat = 2139095040 by decide]
  exact h
theorem mask64 {r : UInt64} (h : r.toNat % 9223372036854775808 ≤ 9218868437227405312) : vf_n64 r := by
  unfold vf_n64
  rw [UInt64.le_iff_toNat_le, UInt64.toNat_and, show (0x7fffffffffffffff : UInt64).toNat = 2 ^ 63 - 1 by decide, Nat.and_two_pow_sub_one_eq_mod, show (0x7ff0000000000000 : UInt64).toNat = 9218868437227405312 by decide]
  exact h
theorem dec32 {n : Nat} (h : n % 2147483648 ≤ 2139095040) : FP.Core.decode FP.Core.b32 n ≠ .nan := by
  have e1 : FP.Core.Fmt.exps FP.Core.b32 = 256 := by decide
  have e2 : FP.Core.Fmt.tails FP.Core.b32 = 8388608 := by decide
  unfold FP.Core.decode FP.Core.fieldE FP.Core.fieldT
  rw [e1, e2]
  split
  · split
    · exact fun z => FP.Core.Datum.noConfusion z
    · omega
  · split <;> exact fun z => FP.Core.Datum.noConfusion z
theorem dec64 {n : Nat} (h : n % 9223372036854775808 ≤ 9218868437227405312) : FP.Core.decode FP.Core.b64 n ≠ .nan := by
  have e1 : FP.Core.Fmt.exps FP.Core.b64 = 2048 := by decide
  have e2 : FP.Core.Fmt.tails FP.Core.b64 = 4503599627370496 := by decide
  unfold FP.Core.decode FP.Core.fieldE FP.Core.fieldT
  rw [e1, e2]
  split
  · split
    · exact fun z => FP.Core.Datum.noConfusion z
    · omega
  · split <;> exact fun z => FP.Core.Datum.noConfusion z
theorem of32 {d : FP.Core.Datum} (h : okd FP.Core.b32 d) {r : UInt32} (hr : r = .ofNat (FP.Core.encode FP.Core.b32 d)) : vf_n32 r ∧ FP.Core.decode FP.Core.b32 r.toNat ≠ .nan := by
  obtain ⟨h1, h2⟩ := enc32 h
  have e : r.toNat = FP.Core.encode FP.Core.b32 d := by rw [hr]; exact Nat.mod_eq_of_lt h1
  exact ⟨mask32 (by rw [e]; exact h2), dec32 (by rw [e]; exact h2)⟩
theorem of64 {d : FP.Core.Datum} (h : okd FP.Core.b64 d) {r : UInt64} (hr : r = .ofNat (FP.Core.encode FP.Core.b64 d)) : vf_n64 r ∧ FP.Core.decode FP.Core.b64 r.toNat ≠ .nan := by
  obtain ⟨h1, h2⟩ := enc64 h
  have e : r.toNat = FP.Core.encode FP.Core.b64 d := by rw [hr]; exact Nat.mod_eq_of_lt h1
  exact ⟨mask64 (by rw [e]; exact h2), dec64 (by rw [e]; exact h2)⟩
theorem i2f_num (x : Int32) : FP.Core.decode FP.Core.b32 (FP.i2f x).toNat ≠ .nan :=
  (of32 (d := FP.Core.round FP.Core.b32 (FP.Core.ofInt x.toInt)) (ok_ratio (by decide) (by decide)) rfl).2
theorem i2d_num (x : Int32) : FP.Core.decode FP.Core.b64 (FP.i2d x).toNat ≠ .nan :=
  (of64 (d := FP.Core.round FP.Core.b64 (FP.Core.ofInt x.toInt)) (ok_ratio (by decide) (by decide)) rfl).2
def fpos (d : FP.Core.Datum) : Bool := match d with
  | .fin _ c _ => c != 0
  | _ => false
theorem fpos_of {d : FP.Core.Datum} (h : fpos d = true) : ∃ t c r, d = .fin t c r ∧ c ≠ 0 := by
  cases d with
  | nan => exact absurd h (by decide)
  | inf s => exact Bool.noConfusion (show false = true from h)
  | fin t c r => exact ⟨t, c, r, rfl, by simpa [fpos] using h⟩
theorem div32 {x y : UInt32} (hx : FP.Core.decode FP.Core.b32 x.toNat ≠ .nan) (hy : fpos (FP.Core.decode FP.Core.b32 y.toNat) = true) : vf_n32 (FP.fdiv x y) ∧ FP.Core.decode FP.Core.b32 (FP.fdiv x y).toNat ≠ .nan := by
  obtain ⟨t, c, r, e, hc⟩ := fpos_of hy
  refine of32 (d := FP.Core.quotient FP.Core.b32 (FP.Core.decode FP.Core.b32 x.toNat) (FP.Core.decode FP.Core.b32 y.toNat)) ?_ rfl
  rw [e]
  exact ok_quot (by decide) (by decide) hx hc
theorem div64 {x y : UInt64} (hx : FP.Core.decode FP.Core.b64 x.toNat ≠ .nan) (hy : fpos (FP.Core.decode FP.Core.b64 y.toNat) = true) : vf_n64 (FP.ddiv x y) ∧ FP.Core.decode FP.Core.b64 (FP.ddiv x y).toNat ≠ .nan := by
  obtain ⟨t, c, r, e, hc⟩ := fpos_of hy
  refine of64 (d := FP.Core.quotient FP.Core.b64 (FP.Core.decode FP.Core.b64 x.toNat) (FP.Core.decode FP.Core.b64 y.toNat)) ?_ rfl
  rw [e]
  exact ok_quot (by decide) (by decide) hx hc
theorem i2d_pos12 : (List.range 13).all (fun b => b == 0 || fpos (FP.Core.decode FP.Core.b64 (FP.i2d (nI b)).toNat)) = true := by decide +kernel
theorem i2f_pos2000 : (List.range 2001).all (fun b => b == 0 || fpos (FP.Core.decode FP.Core.b32 (FP.i2f (nI b)).toNat)) = true := by decide +kernel
theorem i2d_pos {b : Nat} (h : b ≠ 0) (h2 : b ≤ 12) : fpos (FP.Core.decode FP.Core.b64 (FP.i2d (nI b)).toNat) = true := by
  have := List.all_eq_true.mp i2d_pos12 b (List.mem_range.mpr (by omega))
  simpa [h] using this
theorem i2f_pos {b : Nat} (h : b ≠ 0) (h2 : b ≤ 2000) : fpos (FP.Core.decode FP.Core.b32 (FP.i2f (nI b)).toNat) = true := by
  have := List.all_eq_true.mp i2f_pos2000 b (List.mem_range.mpr (by omega))
  simpa [h] using this
/-- a float as a double -/
theorem f2d_num {x : UInt32} (hx : FP.Core.decode FP.Core.b32 x.toNat ≠ .nan) : vf_n64 (FP.f2d x) ∧ FP.Core.decode FP.Core.b64 (FP.f2d x).toNat ≠ .nan := by
  have e : FP.f2d x = FP.Core.f2d x := by
    unfold FP.f2d
    rw [if_neg]
    intro z
    exact hx (of_decide_eq_true z)
  rw [e]
  refine of64 (d := FP.Core.round FP.Core.b64 (FP.Core.decode FP.Core.b32 x.toNat)) ?_ rfl
  cases h : FP.Core.decode FP.Core.b32 x.toNat with
  | nan => exact absurd h hx
  | inf s => trivial
  | fin s c q => exact ok_ratio (by decide) (by decide)
theorem dcmp_eq {x : UInt64} (hx : FP.Core.decode FP.Core.b64 x.toNat ≠ .nan) : FP.dcmp x x = some .eq := by
  show FP.Core.order (FP.Core.decode FP.Core.b64 x.toNat) (FP.Core.decode FP.Core.b64 x.toNat) = some .eq
  cases h : FP.Core.decode FP.Core.b64 x.toNat with
  | nan => exact absurd h hx
  | inf s => simp [FP.Core.order]
  | fin s c q => simp [FP.Core.order]
section ZFL
variable {K : zK} {u mc : Nat × Nat} {pc : Nat} {L : List (Nat × Value)} {S : List Value} {I : zM} {cc : ByteArray} {P : Option Value → zM → Prop} {X : String → zM → Prop}
theorem zz_i2f (hb : kcc K = cc) {x : Int32} (hdg : decode cc pc = .ok (.i2f, 1)) (k : ZZ K u (pc + 1) L (.float (FP.i2f x) :: S) I) : ZZ K u pc L (.int x :: S) I :=
  fun p e s m args below meth c Q H locs ls B hq hP hl hS => lv_i2f B.1 (B.2.1.trans hb) hdg (k p e s m args below meth c Q H locs ls B hq hP hl hS)
theorem zz_i2d (hb : kcc K = cc) {x : Int32} (hdg : decode cc pc = .ok (.i2d, 1)) (k : ZZ K u (pc + 1) L (.double (FP.i2d x) :: S) I) : ZZ K u pc L (.int x :: S) I :=
  fun p e s m args below meth c Q H locs ls B hq hP hl hS => lv_i2d B.1 (B.2.1.trans hb) hdg (k p e s m args below meth c Q H locs ls B hq hP hl hS)
theorem zz_fdiv (hb : kcc K = cc) {x y : UInt32} (hdg : decode cc pc = .ok (.fdiv, 1)) (hne : vf_n32 (FP.fdiv x y)) (k : ZZ K u (pc + 1) L (.float (FP.fdiv x y) :: S) I) : ZZ K u pc L (.float y :: .float x :: S) I :=
  fun p e s m args below meth c Q H locs ls B hq hP hl hS => lv_fdiv B.1 (B.2.1.trans hb) hdg hne (k p e s m args below meth c Q H locs ls B hq hP hl hS)
theorem zz_ddiv (hb : kcc K = cc) {x y : UInt64} (hdg : decode cc pc = .ok (.ddiv, 1)) (hne : vf_n64 (FP.ddiv x y)) (k : ZZ K u (pc + 1) L (.double (FP.ddiv x y) :: S) I) : ZZ K u pc L (.double y :: .double x :: S) I :=
  fun p e s m args below meth c Q H locs ls B hq hP hl hS => lv_ddiv B.1 (B.2.1.trans hb) hdg hne (k p e s m args below meth c Q H locs ls B hq hP hl hS)
theorem zz_fconst0 (hb : kcc K = cc) (hdg : decode cc pc = .ok (.fconst 0, 1)) (k : ZZ K u (pc + 1) L (.float FP.fconst0 :: S) I) : ZZ K u pc L S I :=
  fun p e s m args below meth c Q H locs ls B hq hP hl hS => lv_fconst0 B.1 (B.2.1.trans hb) hdg (k p e s m args below meth c Q H locs ls B hq hP hl hS)
theorem zz_dconst0 (hb : kcc K = cc) (hdg : decode cc pc = .ok (.dconst 0, 1)) (k : ZZ K u (pc + 1) L (.double FP.dconst0 :: S) I) : ZZ K u pc L S I :=
  fun p e s m args below meth c Q H locs ls B hq hP hl hS => lv_dconst0 B.1 (B.2.1.trans hb) hdg (k p e s m args below meth c Q H locs ls B hq hP hl hS)
theorem zz_f2d (hb : kcc K = cc) {x : UInt32} (hdg : decode cc pc = .ok (.f2d, 1)) (hne : vf_n64 (FP.f2d x)) (k : ZZ K u (pc + 1) L (.double (FP.f2d x) :: S) I) : ZZ K u pc L (.float x :: S) I :=
  fun p e s m args below meth c Q H locs ls B hq hP hl hS => lv_f2d B.1 (B.2.1.trans hb) hdg hne (k p e s m args below meth c Q H locs ls B hq hP hl hS)
theorem zz_dcmp (hb : kcc K = cc) {x y : UInt64} {op : CmpOp} (hdg : decode cc pc = .ok (.dcmp op, 1)) (k : ZZ K u (pc + 1) L (.int (Op.cmpValue (FP.dcmp x y) op) :: S) I) : ZZ K u pc L (.double y :: .double x :: S) I :=
  fun p e s m args below meth c Q H locs ls B hq hP hl hS => lv_dcmp B.1 (B.2.1.trans hb) hdg (k p e s m args below meth c Q H locs ls B hq hP hl hS)
theorem zz_fret (hb : kcc K = cc) (hE : zEnd K (some .float) mc P X) (hu : u.1 ≤ mc.1 ∧ u.2 ≤ mc.2) {v : UInt32} (hdg : decode cc pc = .ok (.freturn, 1)) (h : P (some (.float v)) I) : ZZ K u pc L [.float v] I := by
  intro p e s m args below meth c Q H locs ls B hq hP hl hS
  rw [hE] at hq
  obtain ⟨hr, ht, rfl⟩ := hq
  refine W.widen hu.1 hu.2 (vx_ret ?_)
  exact W.fret B.1 (B.2.1.trans hb) hr (fun t ht hW => ⟨some (.float v), I, rfl, h, by rw [ht]; exact hP, hS.F ht⟩) (fun q hq => hS.2.2 q hq) hdg B.2.2.2.2.2.1
theorem zz_dret (hb : kcc K = cc) (hE : zEnd K (some .double) mc P X) (hu : u.1 ≤ mc.1 ∧ u.2 ≤ mc.2) {v : UInt64} (hdg : decode cc pc = .ok (.dreturn, 1)) (h : P (some (.double v)) I) : ZZ K u pc L [.double v] I := by
  intro p e s m args below meth c Q H locs ls B hq hP hl hS
  rw [hE] at hq
  obtain ⟨hr, ht, rfl⟩ := hq
  refine W.widen hu.1 hu.2 (vx_ret ?_)
  exact W.dret B.1 (B.2.1.trans hb) hr (fun t ht hW => ⟨some (.double v), I, rfl, h, by rw [ht]; exact hP, hS.F ht⟩) (fun q hq => hS.2.2 q hq) hdg B.2.2.2.2.2.1
end ZFL
