/-! the law's wrappers (written by wip/gen/wrap.py) -/
/-- a wrapper's end: the answer is put into the cell and 0 comes back, or the number of the exception -/
def wQ (P : Option Value → zM → Prop) (X : String → zM → Prop) (kE : String → Int32) : Option Value → zM → Prop := fun v J => (∃ (x : Int32) (J0 : zM), P (some (.int x)) J0 ∧ J = up J0 319 0 x ∧ v = some (.int 0)) ∨ ∃ E : String, X E J ∧ v = some (.int (kE E))
section WRA
variable {G : zG} {w : Nat × Nat} {gl : Launch} {I : zM}
theorem wL_append {P : Option Value → zM → Prop} {X : String → zM → Prop} {mc : Nat × Nat} {x1 x2 x3 x4 x5 : Int32} (hx : isT w 10 0) (ho : isT w 23 319) (h : CT G w gl (yX10_append, cX10_append, 6, some .int) 6 mc [.ref 0, .int x1, .int x2, .int x3, .int x4, .int x5] I P X) (hP : ∀ v J, P v J → ∃ x : Int32, v = some (.int x)) (hX : ∀ E J, X E J → E = sS) : CTW G w gl (yL_append, cL_append, 8, some .int) [(0, 16, 19, 13)] 7 mc [.ref 0, .int x1, .int x2, .int x3, .int x4, .int x5, .ref 319] I (wQ P X (fun E => if E = sS then 1 else 0)) := by
  refine ctw_of (by decide +kernel) rfl [(0, .ref 0), (1, .int x1), (2, .int x2), (3, .int x3), (4, .int x4), (5, .int x5), (6, .ref 319)] rfl rfl (fun K hG hw hgl hwo hK => ?_)
  subst hG; subst hw; subst hgl
  have hb := hK.1
  refine zz_aload hb (z_dec dL_append 0 rfl) 6 rfl ?_
  refine zz_iconst (v := 0) hb (z_dec dL_append 1 rfl) (by decide) ?_
  refine zz_aload_n hb (z_dec dL_append 2 rfl) rfl 0 rfl ?_
  refine zz_iload_n hb (z_dec dL_append 3 rfl) rfl 1 rfl ?_
  refine zz_iload_n hb (z_dec dL_append 4 rfl) rfl 2 rfl ?_
  refine zz_iload_n hb (z_dec dL_append 5 rfl) rfl 3 rfl ?_
  refine zz_iload hb (z_dec dL_append 6 rfl) 4 rfl ?_
  refine zz_iload hb (z_dec dL_append 7 rfl) 5 rfl ?_
  refine zw_try (as := [.int x1, .int x2, .int x3, .int x4, .int x5]) (d := 6) (S := [.int 0, .ref 319]) hK mkX10_append rfl ckX10 hx rfl ⟨Nat.le_of_eq (Nat.zero_add _), Nat.le_of_eq (Nat.zero_add _)⟩ rfl (rL_append 0 rfl) (rL_append 1 rfl) (rL_append 2 rfl) rfl (z_dec dL_append 8 rfl) h (fun v J hp => ?_) (fun E J hE => ?_)
  · obtain ⟨x, rfl⟩ := hP v J hp
    refine zz_i2l hb (z_dec dL_append 9 rfl) ?_
    refine zz_last (x := x) (j := 0) hb ho rfl rfl (show vp_in 0 1 from zin rfl) (z_dec dL_append 10 rfl) ?_
    refine zz_goto (tgt := 23) hb (z_dec dL_append 11 rfl) (by decide) ?_
    refine zz_iconst (v := 0) hb (z_dec dL_append 15 rfl) (by decide) ?_
    exact zw_iret hK ⟨Nat.le_of_eq (Nat.zero_add _), Nat.le_of_eq (Nat.zero_add _)⟩ (z_dec dL_append 16 rfl) (Or.inl ⟨x, J, hp, rfl, rfl⟩)
  · obtain rfl := hX E J hE
    exact ⟨19, 1, 1, ⟨[], ⟨0, 16, 19, 13⟩, [], rfl, (fun _ h => absurd h List.not_mem_nil), by decide, by decide, lw_in 0 rfl, by decide, rfl⟩, ⟨7, 2, Or.inl ⟨(z_dec dL_append 12 rfl), rfl⟩, by decide, (z_dec dL_append 13 rfl), (z_dec dL_append 14 rfl)⟩, by decide, Or.inr ⟨_, hE, by decide +kernel⟩⟩
theorem wL_truncate {P : Option Value → zM → Prop} {X : String → zM → Prop} {mc : Nat × Nat} {x1 : Int32} (hx : isT w 10 0) (ho : isT w 23 319) (h : CT G w gl (yX10_truncate, cX10_truncate, 2, some .int) 6 mc [.ref 0, .int x1] I P X) (hP : ∀ v J, P v J → ∃ x : Int32, v = some (.int x)) (hX : ∀ E J, X E J → E = sA) : CTW G w gl (yL_truncate, cL_truncate, 4, some .int) [(0, 9, 12, 19)] 7 mc [.ref 0, .int x1, .ref 319] I (wQ P X (fun E => if E = sA then 1 else 0)) := by
  refine ctw_of (by decide +kernel) rfl [(0, .ref 0), (1, .int x1), (2, .ref 319)] rfl rfl (fun K hG hw hgl hwo hK => ?_)
  subst hG; subst hw; subst hgl
  have hb := hK.1
  refine zz_aload_n hb (z_dec dL_truncate 0 rfl) rfl 2 rfl ?_
  refine zz_iconst (v := 0) hb (z_dec dL_truncate 1 rfl) (by decide) ?_
  refine zz_aload_n hb (z_dec dL_truncate 2 rfl) rfl 0 rfl ?_
  refine zz_iload_n hb (z_dec dL_truncate 3 rfl) rfl 1 rfl ?_
  refine zw_try (as := [.int x1]) (d := 6) (S := [.int 0, .ref 319]) hK mkX10_truncate rfl ckX10 hx rfl ⟨Nat.le_of_eq (Nat.zero_add _), Nat.le_of_eq (Nat.zero_add _)⟩ rfl (rL_truncate 0 rfl) (rL_truncate 1 rfl) (rL_truncate 2 rfl) rfl (z_dec dL_truncate 4 rfl) h (fun v J hp => ?_) (fun E J hE => ?_)
  · obtain ⟨x, rfl⟩ := hP v J hp
    refine zz_i2l hb (z_dec dL_truncate 5 rfl) ?_
    refine zz_last (x := x) (j := 0) hb ho rfl rfl (show vp_in 0 1 from zin rfl) (z_dec dL_truncate 6 rfl) ?_
    refine zz_goto (tgt := 15) hb (z_dec dL_truncate 7 rfl) (by decide) ?_
    refine zz_iconst (v := 0) hb (z_dec dL_truncate 11 rfl) (by decide) ?_
    exact zw_iret hK ⟨Nat.le_of_eq (Nat.zero_add _), Nat.le_of_eq (Nat.zero_add _)⟩ (z_dec dL_truncate 12 rfl) (Or.inl ⟨x, J, hp, rfl, rfl⟩)
  · obtain rfl := hX E J hE
    exact ⟨12, 1, 1, ⟨[], ⟨0, 9, 12, 19⟩, [], rfl, (fun _ h => absurd h List.not_mem_nil), by decide, by decide, lw_in 1 rfl, by decide, rfl⟩, ⟨3, 1, Or.inr ⟨⟨_, (z_dec dL_truncate 8 rfl), rfl⟩, rfl⟩, by decide, (z_dec dL_truncate 9 rfl), (z_dec dL_truncate 10 rfl)⟩, by decide, Or.inr ⟨_, hE, by decide +kernel⟩⟩
theorem wL_load {P : Option Value → zM → Prop} {X : String → zM → Prop} {mc : Nat × Nat} (hx : isT w 10 0) (ho : isT w 23 319) (h : CT G w gl (yX10_load, cX10_load, 3, some .int) 8 mc [.ref 0] I P X) (hP : ∀ v J, P v J → ∃ x : Int32, v = some (.int x)) (hX : ∀ E J, X E J → E = sA) : CTW G w gl (yL_load, cL_load, 3, some .int) [(0, 8, 11, 19)] 9 mc [.ref 0, .ref 319] I (wQ P X (fun E => if E = sA then 1 else 0)) := by
  refine ctw_of (by decide +kernel) rfl [(0, .ref 0), (1, .ref 319)] rfl rfl (fun K hG hw hgl hwo hK => ?_)
  subst hG; subst hw; subst hgl
  have hb := hK.1
  refine zz_aload_n hb (z_dec dL_load 0 rfl) rfl 1 rfl ?_
  refine zz_iconst (v := 0) hb (z_dec dL_load 1 rfl) (by decide) ?_
  refine zz_aload_n hb (z_dec dL_load 2 rfl) rfl 0 rfl ?_
  refine zw_try (as := []) (d := 8) (S := [.int 0, .ref 319]) hK mkX10_load rfl ckX10 hx rfl ⟨Nat.le_of_eq (Nat.zero_add _), Nat.le_of_eq (Nat.zero_add _)⟩ rfl (rL_load 0 rfl) (rL_load 1 rfl) (rL_load 2 rfl) rfl (z_dec dL_load 3 rfl) h (fun v J hp => ?_) (fun E J hE => ?_)
  · obtain ⟨x, rfl⟩ := hP v J hp
    refine zz_i2l hb (z_dec dL_load 4 rfl) ?_
    refine zz_last (x := x) (j := 0) hb ho rfl rfl (show vp_in 0 1 from zin rfl) (z_dec dL_load 5 rfl) ?_
    refine zz_goto (tgt := 14) hb (z_dec dL_load 6 rfl) (by decide) ?_
    refine zz_iconst (v := 0) hb (z_dec dL_load 10 rfl) (by decide) ?_
    exact zw_iret hK ⟨Nat.le_of_eq (Nat.zero_add _), Nat.le_of_eq (Nat.zero_add _)⟩ (z_dec dL_load 11 rfl) (Or.inl ⟨x, J, hp, rfl, rfl⟩)
  · obtain rfl := hX E J hE
    exact ⟨11, 1, 1, ⟨[], ⟨0, 8, 11, 19⟩, [], rfl, (fun _ h => absurd h List.not_mem_nil), by decide, by decide, lw_in 1 rfl, by decide, rfl⟩, ⟨2, 1, Or.inr ⟨⟨_, (z_dec dL_load 7 rfl), rfl⟩, rfl⟩, by decide, (z_dec dL_load 8 rfl), (z_dec dL_load 9 rfl)⟩, by decide, Or.inr ⟨_, hE, by decide +kernel⟩⟩
theorem wL_nameByte {P : Option Value → zM → Prop} {X : String → zM → Prop} {mc : Nat × Nat} {x1 x2 : Int32} (hx : isT w 10 0) (ho : isT w 23 319) (h : CT G w gl (yX10_nameByte, cX10_nameByte, 3, some .int) 7 mc [.ref 0, .int x1, .int x2] I P X) (hP : ∀ v J, P v J → ∃ x : Int32, v = some (.int x)) (hX : ∀ E J, X E J → E = sI) : CTW G w gl (yL_nameByte, cL_nameByte, 5, some .int) [(0, 10, 13, 29)] 8 mc [.ref 0, .int x1, .int x2, .ref 319] I (wQ P X (fun E => if E = sI then 1 else 0)) := by
  refine ctw_of (by decide +kernel) rfl [(0, .ref 0), (1, .int x1), (2, .int x2), (3, .ref 319)] rfl rfl (fun K hG hw hgl hwo hK => ?_)
  subst hG; subst hw; subst hgl
  have hb := hK.1
  refine zz_aload_n hb (z_dec dL_nameByte 0 rfl) rfl 3 rfl ?_
  refine zz_iconst (v := 0) hb (z_dec dL_nameByte 1 rfl) (by decide) ?_
  refine zz_aload_n hb (z_dec dL_nameByte 2 rfl) rfl 0 rfl ?_
  refine zz_iload_n hb (z_dec dL_nameByte 3 rfl) rfl 1 rfl ?_
  refine zz_iload_n hb (z_dec dL_nameByte 4 rfl) rfl 2 rfl ?_
  refine zw_try (as := [.int x1, .int x2]) (d := 7) (S := [.int 0, .ref 319]) hK mkX10_nameByte rfl ckX10 hx rfl ⟨Nat.le_of_eq (Nat.zero_add _), Nat.le_of_eq (Nat.zero_add _)⟩ rfl (rL_nameByte 0 rfl) (rL_nameByte 1 rfl) (rL_nameByte 2 rfl) rfl (z_dec dL_nameByte 5 rfl) h (fun v J hp => ?_) (fun E J hE => ?_)
  · obtain ⟨x, rfl⟩ := hP v J hp
    refine zz_i2l hb (z_dec dL_nameByte 6 rfl) ?_
    refine zz_last (x := x) (j := 0) hb ho rfl rfl (show vp_in 0 1 from zin rfl) (z_dec dL_nameByte 7 rfl) ?_
    refine zz_goto (tgt := 17) hb (z_dec dL_nameByte 8 rfl) (by decide) ?_
    refine zz_iconst (v := 0) hb (z_dec dL_nameByte 12 rfl) (by decide) ?_
    exact zw_iret hK ⟨Nat.le_of_eq (Nat.zero_add _), Nat.le_of_eq (Nat.zero_add _)⟩ (z_dec dL_nameByte 13 rfl) (Or.inl ⟨x, J, hp, rfl, rfl⟩)
  · obtain rfl := hX E J hE
    exact ⟨13, 1, 1, ⟨[], ⟨0, 10, 13, 29⟩, [], rfl, (fun _ h => absurd h List.not_mem_nil), by decide, by decide, lw_in 2 rfl, by decide, rfl⟩, ⟨4, 2, Or.inl ⟨(z_dec dL_nameByte 9 rfl), rfl⟩, by decide, (z_dec dL_nameByte 10 rfl), (z_dec dL_nameByte 11 rfl)⟩, by decide, Or.inr ⟨_, hE, by decide +kernel⟩⟩
theorem wL_findClerk {P : Option Value → zM → Prop} {X : String → zM → Prop} {mc : Nat × Nat} (hx : isT w 10 0) (ho : isT w 23 319) (h : CT G w gl (yX10_findClerk, cX10_findClerk, 2, some .int) 7 mc [.ref 0] I P X) (hP : ∀ v J, P v J → ∃ x : Int32, v = some (.int x)) (hX : ∀ E J, X E J → E = sN) : CTW G w gl (yL_findClerk, cL_findClerk, 3, some .int) [(0, 8, 11, 34)] 8 mc [.ref 0, .ref 319] I (wQ P X (fun E => if E = sN then 1 else 0)) := by
  refine ctw_of (by decide +kernel) rfl [(0, .ref 0), (1, .ref 319)] rfl rfl (fun K hG hw hgl hwo hK => ?_)
  subst hG; subst hw; subst hgl
  have hb := hK.1
  refine zz_aload_n hb (z_dec dL_findClerk 0 rfl) rfl 1 rfl ?_
  refine zz_iconst (v := 0) hb (z_dec dL_findClerk 1 rfl) (by decide) ?_
  refine zz_aload_n hb (z_dec dL_findClerk 2 rfl) rfl 0 rfl ?_
  refine zw_try (as := []) (d := 7) (S := [.int 0, .ref 319]) hK mkX10_findClerk rfl ckX10 hx rfl ⟨Nat.le_of_eq (Nat.zero_add _), Nat.le_of_eq (Nat.zero_add _)⟩ rfl (rL_findClerk 0 rfl) (rL_findClerk 1 rfl) (rL_findClerk 2 rfl) rfl (z_dec dL_findClerk 3 rfl) h (fun v J hp => ?_) (fun E J hE => ?_)
  · obtain ⟨x, rfl⟩ := hP v J hp
    refine zz_i2l hb (z_dec dL_findClerk 4 rfl) ?_
    refine zz_last (x := x) (j := 0) hb ho rfl rfl (show vp_in 0 1 from zin rfl) (z_dec dL_findClerk 5 rfl) ?_
    refine zz_goto (tgt := 14) hb (z_dec dL_findClerk 6 rfl) (by decide) ?_
    refine zz_iconst (v := 0) hb (z_dec dL_findClerk 10 rfl) (by decide) ?_
    exact zw_iret hK ⟨Nat.le_of_eq (Nat.zero_add _), Nat.le_of_eq (Nat.zero_add _)⟩ (z_dec dL_findClerk 11 rfl) (Or.inl ⟨x, J, hp, rfl, rfl⟩)
  · obtain rfl := hX E J hE
    exact ⟨11, 1, 1, ⟨[], ⟨0, 8, 11, 34⟩, [], rfl, (fun _ h => absurd h List.not_mem_nil), by decide, by decide, lw_in 3 rfl, by decide, rfl⟩, ⟨2, 1, Or.inr ⟨⟨_, (z_dec dL_findClerk 7 rfl), rfl⟩, rfl⟩, by decide, (z_dec dL_findClerk 8 rfl), (z_dec dL_findClerk 9 rfl)⟩, by decide, Or.inr ⟨_, hE, by decide +kernel⟩⟩
theorem wL_clerkOf {P : Option Value → zM → Prop} {X : String → zM → Prop} {mc : Nat × Nat} {x1 : Int32} (hx : isT w 10 0) (ho : isT w 23 319) (h : CT G w gl (yX10_clerkOf, cX10_clerkOf, 2, some .int) 7 mc [.ref 0, .int x1] I P X) (hP : ∀ v J, P v J → ∃ x : Int32, v = some (.int x)) (hX : ∀ E J, X E J → E = sI) : CTW G w gl (yL_clerkOf, cL_clerkOf, 4, some .int) [(0, 9, 12, 29)] 8 mc [.ref 0, .int x1, .ref 319] I (wQ P X (fun E => if E = sI then 1 else 0)) := by
  refine ctw_of (by decide +kernel) rfl [(0, .ref 0), (1, .int x1), (2, .ref 319)] rfl rfl (fun K hG hw hgl hwo hK => ?_)
  subst hG; subst hw; subst hgl
  have hb := hK.1
  refine zz_aload_n hb (z_dec dL_clerkOf 0 rfl) rfl 2 rfl ?_
  refine zz_iconst (v := 0) hb (z_dec dL_clerkOf 1 rfl) (by decide) ?_
  refine zz_aload_n hb (z_dec dL_clerkOf 2 rfl) rfl 0 rfl ?_
  refine zz_iload_n hb (z_dec dL_clerkOf 3 rfl) rfl 1 rfl ?_
  refine zw_try (as := [.int x1]) (d := 7) (S := [.int 0, .ref 319]) hK mkX10_clerkOf rfl ckX10 hx rfl ⟨Nat.le_of_eq (Nat.zero_add _), Nat.le_of_eq (Nat.zero_add _)⟩ rfl (rL_clerkOf 0 rfl) (rL_clerkOf 1 rfl) (rL_clerkOf 2 rfl) rfl (z_dec dL_clerkOf 4 rfl) h (fun v J hp => ?_) (fun E J hE => ?_)
  · obtain ⟨x, rfl⟩ := hP v J hp
    refine zz_i2l hb (z_dec dL_clerkOf 5 rfl) ?_
    refine zz_last (x := x) (j := 0) hb ho rfl rfl (show vp_in 0 1 from zin rfl) (z_dec dL_clerkOf 6 rfl) ?_
    refine zz_goto (tgt := 15) hb (z_dec dL_clerkOf 7 rfl) (by decide) ?_
    refine zz_iconst (v := 0) hb (z_dec dL_clerkOf 11 rfl) (by decide) ?_
    exact zw_iret hK ⟨Nat.le_of_eq (Nat.zero_add _), Nat.le_of_eq (Nat.zero_add _)⟩ (z_dec dL_clerkOf 12 rfl) (Or.inl ⟨x, J, hp, rfl, rfl⟩)
  · obtain rfl := hX E J hE
    exact ⟨12, 1, 1, ⟨[], ⟨0, 9, 12, 29⟩, [], rfl, (fun _ h => absurd h List.not_mem_nil), by decide, by decide, lw_in 2 rfl, by decide, rfl⟩, ⟨3, 1, Or.inr ⟨⟨_, (z_dec dL_clerkOf 8 rfl), rfl⟩, rfl⟩, by decide, (z_dec dL_clerkOf 9 rfl), (z_dec dL_clerkOf 10 rfl)⟩, by decide, Or.inr ⟨_, hE, by decide +kernel⟩⟩
theorem wL_length {P : Option Value → zM → Prop} {X : String → zM → Prop} {mc : Nat × Nat} {x1 : Int32} (hx : isT w 10 0) (ho : isT w 23 319) (h : CT G w gl (yX10_length, cX10_length, 2, some .int) 7 mc [.ref 0, .int x1] I P X) (hP : ∀ v J, P v J → ∃ x : Int32, v = some (.int x)) (hX : ∀ E J, X E J → E = sI) : CTW G w gl (yL_length, cL_length, 4, some .int) [(0, 9, 12, 29)] 8 mc [.ref 0, .int x1, .ref 319] I (wQ P X (fun E => if E = sI then 1 else 0)) := by
  refine ctw_of (by decide +kernel) rfl [(0, .ref 0), (1, .int x1), (2, .ref 319)] rfl rfl (fun K hG hw hgl hwo hK => ?_)
  subst hG; subst hw; subst hgl
  have hb := hK.1
  refine zz_aload_n hb (z_dec dL_length 0 rfl) rfl 2 rfl ?_
  refine zz_iconst (v := 0) hb (z_dec dL_length 1 rfl) (by decide) ?_
  refine zz_aload_n hb (z_dec dL_length 2 rfl) rfl 0 rfl ?_
  refine zz_iload_n hb (z_dec dL_length 3 rfl) rfl 1 rfl ?_
  refine zw_try (as := [.int x1]) (d := 7) (S := [.int 0, .ref 319]) hK mkX10_length rfl ckX10 hx rfl ⟨Nat.le_of_eq (Nat.zero_add _), Nat.le_of_eq (Nat.zero_add _)⟩ rfl (rL_length 0 rfl) (rL_length 1 rfl) (rL_length 2 rfl) rfl (z_dec dL_length 4 rfl) h (fun v J hp => ?_) (fun E J hE => ?_)
  · obtain ⟨x, rfl⟩ := hP v J hp
    refine zz_i2l hb (z_dec dL_length 5 rfl) ?_
    refine zz_last (x := x) (j := 0) hb ho rfl rfl (show vp_in 0 1 from zin rfl) (z_dec dL_length 6 rfl) ?_
    refine zz_goto (tgt := 15) hb (z_dec dL_length 7 rfl) (by decide) ?_
    refine zz_iconst (v := 0) hb (z_dec dL_length 11 rfl) (by decide) ?_
    exact zw_iret hK ⟨Nat.le_of_eq (Nat.zero_add _), Nat.le_of_eq (Nat.zero_add _)⟩ (z_dec dL_length 12 rfl) (Or.inl ⟨x, J, hp, rfl, rfl⟩)
  · obtain rfl := hX E J hE
    exact ⟨12, 1, 1, ⟨[], ⟨0, 9, 12, 29⟩, [], rfl, (fun _ h => absurd h List.not_mem_nil), by decide, by decide, lw_in 2 rfl, by decide, rfl⟩, ⟨3, 1, Or.inr ⟨⟨_, (z_dec dL_length 8 rfl), rfl⟩, rfl⟩, by decide, (z_dec dL_length 9 rfl), (z_dec dL_length 10 rfl)⟩, by decide, Or.inr ⟨_, hE, by decide +kernel⟩⟩
theorem wL_arrival {P : Option Value → zM → Prop} {X : String → zM → Prop} {mc : Nat × Nat} {x1 : Int32} (hx : isT w 10 0) (ho : isT w 23 319) (h : CT G w gl (yX10_arrival, cX10_arrival, 2, some .int) 7 mc [.ref 0, .int x1] I P X) (hP : ∀ v J, P v J → ∃ x : Int32, v = some (.int x)) (hX : ∀ E J, X E J → E = sI) : CTW G w gl (yL_arrival, cL_arrival, 4, some .int) [(0, 9, 12, 29)] 8 mc [.ref 0, .int x1, .ref 319] I (wQ P X (fun E => if E = sI then 1 else 0)) := by
  refine ctw_of (by decide +kernel) rfl [(0, .ref 0), (1, .int x1), (2, .ref 319)] rfl rfl (fun K hG hw hgl hwo hK => ?_)
  subst hG; subst hw; subst hgl
  have hb := hK.1
  refine zz_aload_n hb (z_dec dL_arrival 0 rfl) rfl 2 rfl ?_
  refine zz_iconst (v := 0) hb (z_dec dL_arrival 1 rfl) (by decide) ?_
  refine zz_aload_n hb (z_dec dL_arrival 2 rfl) rfl 0 rfl ?_
  refine zz_iload_n hb (z_dec dL_arrival 3 rfl) rfl 1 rfl ?_
  refine zw_try (as := [.int x1]) (d := 7) (S := [.int 0, .ref 319]) hK mkX10_arrival rfl ckX10 hx rfl ⟨Nat.le_of_eq (Nat.zero_add _), Nat.le_of_eq (Nat.zero_add _)⟩ rfl (rL_arrival 0 rfl) (rL_arrival 1 rfl) (rL_arrival 2 rfl) rfl (z_dec dL_arrival 4 rfl) h (fun v J hp => ?_) (fun E J hE => ?_)
  · obtain ⟨x, rfl⟩ := hP v J hp
    refine zz_i2l hb (z_dec dL_arrival 5 rfl) ?_
    refine zz_last (x := x) (j := 0) hb ho rfl rfl (show vp_in 0 1 from zin rfl) (z_dec dL_arrival 6 rfl) ?_
    refine zz_goto (tgt := 15) hb (z_dec dL_arrival 7 rfl) (by decide) ?_
    refine zz_iconst (v := 0) hb (z_dec dL_arrival 11 rfl) (by decide) ?_
    exact zw_iret hK ⟨Nat.le_of_eq (Nat.zero_add _), Nat.le_of_eq (Nat.zero_add _)⟩ (z_dec dL_arrival 12 rfl) (Or.inl ⟨x, J, hp, rfl, rfl⟩)
  · obtain rfl := hX E J hE
    exact ⟨12, 1, 1, ⟨[], ⟨0, 9, 12, 29⟩, [], rfl, (fun _ h => absurd h List.not_mem_nil), by decide, by decide, lw_in 2 rfl, by decide, rfl⟩, ⟨3, 1, Or.inr ⟨⟨_, (z_dec dL_arrival 8 rfl), rfl⟩, rfl⟩, by decide, (z_dec dL_arrival 9 rfl), (z_dec dL_arrival 10 rfl)⟩, by decide, Or.inr ⟨_, hE, by decide +kernel⟩⟩
theorem wL_deadline {P : Option Value → zM → Prop} {X : String → zM → Prop} {mc : Nat × Nat} {x1 : Int32} (hx : isT w 10 0) (ho : isT w 23 319) (h : CT G w gl (yX10_deadline, cX10_deadline, 2, some .int) 7 mc [.ref 0, .int x1] I P X) (hP : ∀ v J, P v J → ∃ x : Int32, v = some (.int x)) (hX : ∀ E J, X E J → E = sI) : CTW G w gl (yL_deadline, cL_deadline, 4, some .int) [(0, 9, 12, 29)] 8 mc [.ref 0, .int x1, .ref 319] I (wQ P X (fun E => if E = sI then 1 else 0)) := by
  refine ctw_of (by decide +kernel) rfl [(0, .ref 0), (1, .int x1), (2, .ref 319)] rfl rfl (fun K hG hw hgl hwo hK => ?_)
  subst hG; subst hw; subst hgl
  have hb := hK.1
  refine zz_aload_n hb (z_dec dL_deadline 0 rfl) rfl 2 rfl ?_
  refine zz_iconst (v := 0) hb (z_dec dL_deadline 1 rfl) (by decide) ?_
  refine zz_aload_n hb (z_dec dL_deadline 2 rfl) rfl 0 rfl ?_
  refine zz_iload_n hb (z_dec dL_deadline 3 rfl) rfl 1 rfl ?_
  refine zw_try (as := [.int x1]) (d := 7) (S := [.int 0, .ref 319]) hK mkX10_deadline rfl ckX10 hx rfl ⟨Nat.le_of_eq (Nat.zero_add _), Nat.le_of_eq (Nat.zero_add _)⟩ rfl (rL_deadline 0 rfl) (rL_deadline 1 rfl) (rL_deadline 2 rfl) rfl (z_dec dL_deadline 4 rfl) h (fun v J hp => ?_) (fun E J hE => ?_)
  · obtain ⟨x, rfl⟩ := hP v J hp
    refine zz_i2l hb (z_dec dL_deadline 5 rfl) ?_
    refine zz_last (x := x) (j := 0) hb ho rfl rfl (show vp_in 0 1 from zin rfl) (z_dec dL_deadline 6 rfl) ?_
    refine zz_goto (tgt := 15) hb (z_dec dL_deadline 7 rfl) (by decide) ?_
    refine zz_iconst (v := 0) hb (z_dec dL_deadline 11 rfl) (by decide) ?_
    exact zw_iret hK ⟨Nat.le_of_eq (Nat.zero_add _), Nat.le_of_eq (Nat.zero_add _)⟩ (z_dec dL_deadline 12 rfl) (Or.inl ⟨x, J, hp, rfl, rfl⟩)
  · obtain rfl := hX E J hE
    exact ⟨12, 1, 1, ⟨[], ⟨0, 9, 12, 29⟩, [], rfl, (fun _ h => absurd h List.not_mem_nil), by decide, by decide, lw_in 2 rfl, by decide, rfl⟩, ⟨3, 1, Or.inr ⟨⟨_, (z_dec dL_deadline 8 rfl), rfl⟩, rfl⟩, by decide, (z_dec dL_deadline 9 rfl), (z_dec dL_deadline 10 rfl)⟩, by decide, Or.inr ⟨_, hE, by decide +kernel⟩⟩
theorem wL_priority {P : Option Value → zM → Prop} {X : String → zM → Prop} {mc : Nat × Nat} {x1 : Int32} (hx : isT w 10 0) (ho : isT w 23 319) (h : CT G w gl (yX10_priority, cX10_priority, 2, some .int) 7 mc [.ref 0, .int x1] I P X) (hP : ∀ v J, P v J → ∃ x : Int32, v = some (.int x)) (hX : ∀ E J, X E J → E = sI) : CTW G w gl (yL_priority, cL_priority, 4, some .int) [(0, 9, 12, 29)] 8 mc [.ref 0, .int x1, .ref 319] I (wQ P X (fun E => if E = sI then 1 else 0)) := by
  refine ctw_of (by decide +kernel) rfl [(0, .ref 0), (1, .int x1), (2, .ref 319)] rfl rfl (fun K hG hw hgl hwo hK => ?_)
  subst hG; subst hw; subst hgl
  have hb := hK.1
  refine zz_aload_n hb (z_dec dL_priority 0 rfl) rfl 2 rfl ?_
  refine zz_iconst (v := 0) hb (z_dec dL_priority 1 rfl) (by decide) ?_
  refine zz_aload_n hb (z_dec dL_priority 2 rfl) rfl 0 rfl ?_
  refine zz_iload_n hb (z_dec dL_priority 3 rfl) rfl 1 rfl ?_
  refine zw_try (as := [.int x1]) (d := 7) (S := [.int 0, .ref 319]) hK mkX10_priority rfl ckX10 hx rfl ⟨Nat.le_of_eq (Nat.zero_add _), Nat.le_of_eq (Nat.zero_add _)⟩ rfl (rL_priority 0 rfl) (rL_priority 1 rfl) (rL_priority 2 rfl) rfl (z_dec dL_priority 4 rfl) h (fun v J hp => ?_) (fun E J hE => ?_)
  · obtain ⟨x, rfl⟩ := hP v J hp
    refine zz_i2l hb (z_dec dL_priority 5 rfl) ?_
    refine zz_last (x := x) (j := 0) hb ho rfl rfl (show vp_in 0 1 from zin rfl) (z_dec dL_priority 6 rfl) ?_
    refine zz_goto (tgt := 15) hb (z_dec dL_priority 7 rfl) (by decide) ?_
    refine zz_iconst (v := 0) hb (z_dec dL_priority 11 rfl) (by decide) ?_
    exact zw_iret hK ⟨Nat.le_of_eq (Nat.zero_add _), Nat.le_of_eq (Nat.zero_add _)⟩ (z_dec dL_priority 12 rfl) (Or.inl ⟨x, J, hp, rfl, rfl⟩)
  · obtain rfl := hX E J hE
    exact ⟨12, 1, 1, ⟨[], ⟨0, 9, 12, 29⟩, [], rfl, (fun _ h => absurd h List.not_mem_nil), by decide, by decide, lw_in 2 rfl, by decide, rfl⟩, ⟨3, 1, Or.inr ⟨⟨_, (z_dec dL_priority 8 rfl), rfl⟩, rfl⟩, by decide, (z_dec dL_priority 9 rfl), (z_dec dL_priority 10 rfl)⟩, by decide, Or.inr ⟨_, hE, by decide +kernel⟩⟩
theorem wL_remaining {P : Option Value → zM → Prop} {X : String → zM → Prop} {mc : Nat × Nat} {x1 : Int32} (hx : isT w 10 0) (ho : isT w 23 319) (h : CT G w gl (yX10_remaining, cX10_remaining, 2, some .int) 7 mc [.ref 0, .int x1] I P X) (hP : ∀ v J, P v J → ∃ x : Int32, v = some (.int x)) (hX : ∀ E J, X E J → E = sI) : CTW G w gl (yL_remaining, cL_remaining, 4, some .int) [(0, 9, 12, 29)] 8 mc [.ref 0, .int x1, .ref 319] I (wQ P X (fun E => if E = sI then 1 else 0)) := by
  refine ctw_of (by decide +kernel) rfl [(0, .ref 0), (1, .int x1), (2, .ref 319)] rfl rfl (fun K hG hw hgl hwo hK => ?_)
  subst hG; subst hw; subst hgl
  have hb := hK.1
  refine zz_aload_n hb (z_dec dL_remaining 0 rfl) rfl 2 rfl ?_
  refine zz_iconst (v := 0) hb (z_dec dL_remaining 1 rfl) (by decide) ?_
  refine zz_aload_n hb (z_dec dL_remaining 2 rfl) rfl 0 rfl ?_
  refine zz_iload_n hb (z_dec dL_remaining 3 rfl) rfl 1 rfl ?_
  refine zw_try (as := [.int x1]) (d := 7) (S := [.int 0, .ref 319]) hK mkX10_remaining rfl ckX10 hx rfl ⟨Nat.le_of_eq (Nat.zero_add _), Nat.le_of_eq (Nat.zero_add _)⟩ rfl (rL_remaining 0 rfl) (rL_remaining 1 rfl) (rL_remaining 2 rfl) rfl (z_dec dL_remaining 4 rfl) h (fun v J hp => ?_) (fun E J hE => ?_)
  · obtain ⟨x, rfl⟩ := hP v J hp
    refine zz_i2l hb (z_dec dL_remaining 5 rfl) ?_
    refine zz_last (x := x) (j := 0) hb ho rfl rfl (show vp_in 0 1 from zin rfl) (z_dec dL_remaining 6 rfl) ?_
    refine zz_goto (tgt := 15) hb (z_dec dL_remaining 7 rfl) (by decide) ?_
    refine zz_iconst (v := 0) hb (z_dec dL_remaining 11 rfl) (by decide) ?_
    exact zw_iret hK ⟨Nat.le_of_eq (Nat.zero_add _), Nat.le_of_eq (Nat.zero_add _)⟩ (z_dec dL_remaining 12 rfl) (Or.inl ⟨x, J, hp, rfl, rfl⟩)
  · obtain rfl := hX E J hE
    exact ⟨12, 1, 1, ⟨[], ⟨0, 9, 12, 29⟩, [], rfl, (fun _ h => absurd h List.not_mem_nil), by decide, by decide, lw_in 2 rfl, by decide, rfl⟩, ⟨3, 1, Or.inr ⟨⟨_, (z_dec dL_remaining 8 rfl), rfl⟩, rfl⟩, by decide, (z_dec dL_remaining 9 rfl), (z_dec dL_remaining 10 rfl)⟩, by decide, Or.inr ⟨_, hE, by decide +kernel⟩⟩
theorem wL_finishMinute {P : Option Value → zM → Prop} {X : String → zM → Prop} {mc : Nat × Nat} {x1 : Int32} (hx : isT w 10 0) (ho : isT w 23 319) (h : CT G w gl (yX10_finishMinute, cX10_finishMinute, 2, some .int) 7 mc [.ref 0, .int x1] I P X) (hP : ∀ v J, P v J → ∃ x : Int32, v = some (.int x)) (hX : ∀ E J, X E J → E = sI) : CTW G w gl (yL_finishMinute, cL_finishMinute, 4, some .int) [(0, 9, 12, 29)] 8 mc [.ref 0, .int x1, .ref 319] I (wQ P X (fun E => if E = sI then 1 else 0)) := by
  refine ctw_of (by decide +kernel) rfl [(0, .ref 0), (1, .int x1), (2, .ref 319)] rfl rfl (fun K hG hw hgl hwo hK => ?_)
  subst hG; subst hw; subst hgl
  have hb := hK.1
  refine zz_aload_n hb (z_dec dL_finishMinute 0 rfl) rfl 2 rfl ?_
  refine zz_iconst (v := 0) hb (z_dec dL_finishMinute 1 rfl) (by decide) ?_
  refine zz_aload_n hb (z_dec dL_finishMinute 2 rfl) rfl 0 rfl ?_
  refine zz_iload_n hb (z_dec dL_finishMinute 3 rfl) rfl 1 rfl ?_
  refine zw_try (as := [.int x1]) (d := 7) (S := [.int 0, .ref 319]) hK mkX10_finishMinute rfl ckX10 hx rfl ⟨Nat.le_of_eq (Nat.zero_add _), Nat.le_of_eq (Nat.zero_add _)⟩ rfl (rL_finishMinute 0 rfl) (rL_finishMinute 1 rfl) (rL_finishMinute 2 rfl) rfl (z_dec dL_finishMinute 4 rfl) h (fun v J hp => ?_) (fun E J hE => ?_)
  · obtain ⟨x, rfl⟩ := hP v J hp
    refine zz_i2l hb (z_dec dL_finishMinute 5 rfl) ?_
    refine zz_last (x := x) (j := 0) hb ho rfl rfl (show vp_in 0 1 from zin rfl) (z_dec dL_finishMinute 6 rfl) ?_
    refine zz_goto (tgt := 15) hb (z_dec dL_finishMinute 7 rfl) (by decide) ?_
    refine zz_iconst (v := 0) hb (z_dec dL_finishMinute 11 rfl) (by decide) ?_
    exact zw_iret hK ⟨Nat.le_of_eq (Nat.zero_add _), Nat.le_of_eq (Nat.zero_add _)⟩ (z_dec dL_finishMinute 12 rfl) (Or.inl ⟨x, J, hp, rfl, rfl⟩)
  · obtain rfl := hX E J hE
    exact ⟨12, 1, 1, ⟨[], ⟨0, 9, 12, 29⟩, [], rfl, (fun _ h => absurd h List.not_mem_nil), by decide, by decide, lw_in 2 rfl, by decide, rfl⟩, ⟨3, 1, Or.inr ⟨⟨_, (z_dec dL_finishMinute 8 rfl), rfl⟩, rfl⟩, by decide, (z_dec dL_finishMinute 9 rfl), (z_dec dL_finishMinute 10 rfl)⟩, by decide, Or.inr ⟨_, hE, by decide +kernel⟩⟩
theorem wL_waitingTime {P : Option Value → zM → Prop} {X : String → zM → Prop} {mc : Nat × Nat} {x1 : Int32} (hx : isT w 10 0) (ho : isT w 23 319) (h : CT G w gl (yX10_waitingTime, cX10_waitingTime, 2, some .int) 7 mc [.ref 0, .int x1] I P X) (hP : ∀ v J, P v J → ∃ x : Int32, v = some (.int x)) (hX : ∀ E J, X E J → E = sI) : CTW G w gl (yL_waitingTime, cL_waitingTime, 4, some .int) [(0, 9, 12, 29)] 8 mc [.ref 0, .int x1, .ref 319] I (wQ P X (fun E => if E = sI then 1 else 0)) := by
  refine ctw_of (by decide +kernel) rfl [(0, .ref 0), (1, .int x1), (2, .ref 319)] rfl rfl (fun K hG hw hgl hwo hK => ?_)
  subst hG; subst hw; subst hgl
  have hb := hK.1
  refine zz_aload_n hb (z_dec dL_waitingTime 0 rfl) rfl 2 rfl ?_
  refine zz_iconst (v := 0) hb (z_dec dL_waitingTime 1 rfl) (by decide) ?_
  refine zz_aload_n hb (z_dec dL_waitingTime 2 rfl) rfl 0 rfl ?_
  refine zz_iload_n hb (z_dec dL_waitingTime 3 rfl) rfl 1 rfl ?_
  refine zw_try (as := [.int x1]) (d := 7) (S := [.int 0, .ref 319]) hK mkX10_waitingTime rfl ckX10 hx rfl ⟨Nat.le_of_eq (Nat.zero_add _), Nat.le_of_eq (Nat.zero_add _)⟩ rfl (rL_waitingTime 0 rfl) (rL_waitingTime 1 rfl) (rL_waitingTime 2 rfl) rfl (z_dec dL_waitingTime 4 rfl) h (fun v J hp => ?_) (fun E J hE => ?_)
  · obtain ⟨x, rfl⟩ := hP v J hp
    refine zz_i2l hb (z_dec dL_waitingTime 5 rfl) ?_
    refine zz_last (x := x) (j := 0) hb ho rfl rfl (show vp_in 0 1 from zin rfl) (z_dec dL_waitingTime 6 rfl) ?_
    refine zz_goto (tgt := 15) hb (z_dec dL_waitingTime 7 rfl) (by decide) ?_
    refine zz_iconst (v := 0) hb (z_dec dL_waitingTime 11 rfl) (by decide) ?_
    exact zw_iret hK ⟨Nat.le_of_eq (Nat.zero_add _), Nat.le_of_eq (Nat.zero_add _)⟩ (z_dec dL_waitingTime 12 rfl) (Or.inl ⟨x, J, hp, rfl, rfl⟩)
  · obtain rfl := hX E J hE
    exact ⟨12, 1, 1, ⟨[], ⟨0, 9, 12, 29⟩, [], rfl, (fun _ h => absurd h List.not_mem_nil), by decide, by decide, lw_in 2 rfl, by decide, rfl⟩, ⟨3, 1, Or.inr ⟨⟨_, (z_dec dL_waitingTime 8 rfl), rfl⟩, rfl⟩, by decide, (z_dec dL_waitingTime 9 rfl), (z_dec dL_waitingTime 10 rfl)⟩, by decide, Or.inr ⟨_, hE, by decide +kernel⟩⟩
theorem wL_effectivePriority {P : Option Value → zM → Prop} {X : String → zM → Prop} {mc : Nat × Nat} {x1 : Int32} (hx : isT w 10 0) (ho : isT w 23 319) (h : CT G w gl (yX10_effectivePriority, cX10_effectivePriority, 2, some .int) 7 mc [.ref 0, .int x1] I P X) (hP : ∀ v J, P v J → ∃ x : Int32, v = some (.int x)) (hX : ∀ E J, X E J → E = sI) : CTW G w gl (yL_effectivePriority, cL_effectivePriority, 4, some .int) [(0, 9, 12, 29)] 8 mc [.ref 0, .int x1, .ref 319] I (wQ P X (fun E => if E = sI then 1 else 0)) := by
  refine ctw_of (by decide +kernel) rfl [(0, .ref 0), (1, .int x1), (2, .ref 319)] rfl rfl (fun K hG hw hgl hwo hK => ?_)
  subst hG; subst hw; subst hgl
  have hb := hK.1
  refine zz_aload_n hb (z_dec dL_effectivePriority 0 rfl) rfl 2 rfl ?_
  refine zz_iconst (v := 0) hb (z_dec dL_effectivePriority 1 rfl) (by decide) ?_
  refine zz_aload_n hb (z_dec dL_effectivePriority 2 rfl) rfl 0 rfl ?_
  refine zz_iload_n hb (z_dec dL_effectivePriority 3 rfl) rfl 1 rfl ?_
  refine zw_try (as := [.int x1]) (d := 7) (S := [.int 0, .ref 319]) hK mkX10_effectivePriority rfl ckX10 hx rfl ⟨Nat.le_of_eq (Nat.zero_add _), Nat.le_of_eq (Nat.zero_add _)⟩ rfl (rL_effectivePriority 0 rfl) (rL_effectivePriority 1 rfl) (rL_effectivePriority 2 rfl) rfl (z_dec dL_effectivePriority 4 rfl) h (fun v J hp => ?_) (fun E J hE => ?_)
  · obtain ⟨x, rfl⟩ := hP v J hp
    refine zz_i2l hb (z_dec dL_effectivePriority 5 rfl) ?_
    refine zz_last (x := x) (j := 0) hb ho rfl rfl (show vp_in 0 1 from zin rfl) (z_dec dL_effectivePriority 6 rfl) ?_
    refine zz_goto (tgt := 15) hb (z_dec dL_effectivePriority 7 rfl) (by decide) ?_
    refine zz_iconst (v := 0) hb (z_dec dL_effectivePriority 11 rfl) (by decide) ?_
    exact zw_iret hK ⟨Nat.le_of_eq (Nat.zero_add _), Nat.le_of_eq (Nat.zero_add _)⟩ (z_dec dL_effectivePriority 12 rfl) (Or.inl ⟨x, J, hp, rfl, rfl⟩)
  · obtain rfl := hX E J hE
    exact ⟨12, 1, 1, ⟨[], ⟨0, 9, 12, 29⟩, [], rfl, (fun _ h => absurd h List.not_mem_nil), by decide, by decide, lw_in 2 rfl, by decide, rfl⟩, ⟨3, 1, Or.inr ⟨⟨_, (z_dec dL_effectivePriority 8 rfl), rfl⟩, rfl⟩, by decide, (z_dec dL_effectivePriority 9 rfl), (z_dec dL_effectivePriority 10 rfl)⟩, by decide, Or.inr ⟨_, hE, by decide +kernel⟩⟩
theorem wL_isReady {P : Option Value → zM → Prop} {X : String → zM → Prop} {mc : Nat × Nat} {x1 : Int32} (hx : isT w 10 0) (ho : isT w 23 319) (h : CT G w gl (yX10_isReady, cX10_isReady, 2, some .boolean) 7 mc [.ref 0, .int x1] I P X) (hP : ∀ v J, P v J → ∃ x : Int32, v = some (.int x) ∧ (x = 0 ∨ x = 1)) (hX : ∀ E J, X E J → E = sI) : CTW G w gl (yL_isReady, cL_isReady, 4, some .int) [(0, 16, 19, 29)] 8 mc [.ref 0, .int x1, .ref 319] I (wQ P X (fun E => if E = sI then 1 else 0)) := by
  refine ctw_of (by decide +kernel) rfl [(0, .ref 0), (1, .int x1), (2, .ref 319)] rfl rfl (fun K hG hw hgl hwo hK => ?_)
  subst hG; subst hw; subst hgl
  have hb := hK.1
  refine zz_aload_n hb (z_dec dL_isReady 0 rfl) rfl 2 rfl ?_
  refine zz_iconst (v := 0) hb (z_dec dL_isReady 1 rfl) (by decide) ?_
  refine zz_aload_n hb (z_dec dL_isReady 2 rfl) rfl 0 rfl ?_
  refine zz_iload_n hb (z_dec dL_isReady 3 rfl) rfl 1 rfl ?_
  refine zw_try (as := [.int x1]) (d := 7) (S := [.int 0, .ref 319]) hK mkX10_isReady rfl ckX10 hx rfl ⟨Nat.le_of_eq (Nat.zero_add _), Nat.le_of_eq (Nat.zero_add _)⟩ rfl (rL_isReady 0 rfl) (rL_isReady 1 rfl) (rL_isReady 2 rfl) rfl (z_dec dL_isReady 4 rfl) h (fun v J hp => ?_) (fun E J hE => ?_)
  · obtain ⟨x, rfl, h01⟩ := hP v J hp
    refine zz_if_eq (tgt := 14) hb (z_dec dL_isReady 5 rfl) (by decide) (fun c => ?_) (fun c => ?_)
    · refine zz_lconst (v := 0) hb (z_dec dL_isReady 8 rfl) (by decide) ?_
      refine zz_last (x := x) (j := 0) hb ho (by rw [c]; rfl) rfl (show vp_in 0 1 from zin rfl) (z_dec dL_isReady 9 rfl) ?_
      refine zz_goto (tgt := 22) hb (z_dec dL_isReady 10 rfl) (by decide) ?_
      refine zz_iconst (v := 0) hb (z_dec dL_isReady 14 rfl) (by decide) ?_
      exact zw_iret hK ⟨Nat.le_of_eq (Nat.zero_add _), Nat.le_of_eq (Nat.zero_add _)⟩ (z_dec dL_isReady 15 rfl) (Or.inl ⟨x, J, hp, rfl, rfl⟩)
    · refine zz_lconst (v := 1) hb (z_dec dL_isReady 6 rfl) (by decide) ?_
      refine zz_goto (tgt := 15) hb (z_dec dL_isReady 7 rfl) (by decide) ?_
      refine zz_last (x := x) (j := 0) hb ho (by rw [h01.resolve_left c]; rfl) rfl (show vp_in 0 1 from zin rfl) (z_dec dL_isReady 9 rfl) ?_
      refine zz_goto (tgt := 22) hb (z_dec dL_isReady 10 rfl) (by decide) ?_
      refine zz_iconst (v := 0) hb (z_dec dL_isReady 14 rfl) (by decide) ?_
      exact zw_iret hK ⟨Nat.le_of_eq (Nat.zero_add _), Nat.le_of_eq (Nat.zero_add _)⟩ (z_dec dL_isReady 15 rfl) (Or.inl ⟨x, J, hp, rfl, rfl⟩)
  · obtain rfl := hX E J hE
    exact ⟨19, 1, 1, ⟨[], ⟨0, 16, 19, 29⟩, [], rfl, (fun _ h => absurd h List.not_mem_nil), by decide, by decide, lw_in 2 rfl, by decide, rfl⟩, ⟨3, 1, Or.inr ⟨⟨_, (z_dec dL_isReady 11 rfl), rfl⟩, rfl⟩, by decide, (z_dec dL_isReady 12 rfl), (z_dec dL_isReady 13 rfl)⟩, by decide, Or.inr ⟨_, hE, by decide +kernel⟩⟩
theorem wL_selectedBy {P : Option Value → zM → Prop} {X : String → zM → Prop} {mc : Nat × Nat} {x1 : Int32} (hx : isT w 10 0) (ho : isT w 23 319) (h : CT G w gl (yX10_selectedBy, cX10_selectedBy, 2, some .int) 7 mc [.ref 0, .int x1] I P X) (hP : ∀ v J, P v J → ∃ x : Int32, v = some (.int x)) (hX : ∀ E J, X E J → E = sA) : CTW G w gl (yL_selectedBy, cL_selectedBy, 4, some .int) [(0, 9, 12, 19)] 8 mc [.ref 0, .int x1, .ref 319] I (wQ P X (fun E => if E = sA then 1 else 0)) := by
  refine ctw_of (by decide +kernel) rfl [(0, .ref 0), (1, .int x1), (2, .ref 319)] rfl rfl (fun K hG hw hgl hwo hK => ?_)
  subst hG; subst hw; subst hgl
  have hb := hK.1
  refine zz_aload_n hb (z_dec dL_selectedBy 0 rfl) rfl 2 rfl ?_
  refine zz_iconst (v := 0) hb (z_dec dL_selectedBy 1 rfl) (by decide) ?_
  refine zz_aload_n hb (z_dec dL_selectedBy 2 rfl) rfl 0 rfl ?_
  refine zz_iload_n hb (z_dec dL_selectedBy 3 rfl) rfl 1 rfl ?_
  refine zw_try (as := [.int x1]) (d := 7) (S := [.int 0, .ref 319]) hK mkX10_selectedBy rfl ckX10 hx rfl ⟨Nat.le_of_eq (Nat.zero_add _), Nat.le_of_eq (Nat.zero_add _)⟩ rfl (rL_selectedBy 0 rfl) (rL_selectedBy 1 rfl) (rL_selectedBy 2 rfl) rfl (z_dec dL_selectedBy 4 rfl) h (fun v J hp => ?_) (fun E J hE => ?_)
  · obtain ⟨x, rfl⟩ := hP v J hp
    refine zz_i2l hb (z_dec dL_selectedBy 5 rfl) ?_
    refine zz_last (x := x) (j := 0) hb ho rfl rfl (show vp_in 0 1 from zin rfl) (z_dec dL_selectedBy 6 rfl) ?_
    refine zz_goto (tgt := 15) hb (z_dec dL_selectedBy 7 rfl) (by decide) ?_
    refine zz_iconst (v := 0) hb (z_dec dL_selectedBy 11 rfl) (by decide) ?_
    exact zw_iret hK ⟨Nat.le_of_eq (Nat.zero_add _), Nat.le_of_eq (Nat.zero_add _)⟩ (z_dec dL_selectedBy 12 rfl) (Or.inl ⟨x, J, hp, rfl, rfl⟩)
  · obtain rfl := hX E J hE
    exact ⟨12, 1, 1, ⟨[], ⟨0, 9, 12, 19⟩, [], rfl, (fun _ h => absurd h List.not_mem_nil), by decide, by decide, lw_in 1 rfl, by decide, rfl⟩, ⟨3, 1, Or.inr ⟨⟨_, (z_dec dL_selectedBy 8 rfl), rfl⟩, rfl⟩, by decide, (z_dec dL_selectedBy 9 rfl), (z_dec dL_selectedBy 10 rfl)⟩, by decide, Or.inr ⟨_, hE, by decide +kernel⟩⟩
theorem wL_openLettersOf {P : Option Value → zM → Prop} {X : String → zM → Prop} {mc : Nat × Nat} {x1 : Int32} (hx : isT w 10 0) (ho : isT w 23 319) (h : CT G w gl (yX10_openLettersOf, cX10_openLettersOf, 2, some .int) 7 mc [.ref 0, .int x1] I P X) (hP : ∀ v J, P v J → ∃ x : Int32, v = some (.int x)) (hX : ∀ E J, X E J → E = sI) : CTW G w gl (yL_openLettersOf, cL_openLettersOf, 4, some .int) [(0, 9, 12, 29)] 8 mc [.ref 0, .int x1, .ref 319] I (wQ P X (fun E => if E = sI then 1 else 0)) := by
  refine ctw_of (by decide +kernel) rfl [(0, .ref 0), (1, .int x1), (2, .ref 319)] rfl rfl (fun K hG hw hgl hwo hK => ?_)
  subst hG; subst hw; subst hgl
  have hb := hK.1
  refine zz_aload_n hb (z_dec dL_openLettersOf 0 rfl) rfl 2 rfl ?_
  refine zz_iconst (v := 0) hb (z_dec dL_openLettersOf 1 rfl) (by decide) ?_
  refine zz_aload_n hb (z_dec dL_openLettersOf 2 rfl) rfl 0 rfl ?_
  refine zz_iload_n hb (z_dec dL_openLettersOf 3 rfl) rfl 1 rfl ?_
  refine zw_try (as := [.int x1]) (d := 7) (S := [.int 0, .ref 319]) hK mkX10_openLettersOf rfl ckX10 hx rfl ⟨Nat.le_of_eq (Nat.zero_add _), Nat.le_of_eq (Nat.zero_add _)⟩ rfl (rL_openLettersOf 0 rfl) (rL_openLettersOf 1 rfl) (rL_openLettersOf 2 rfl) rfl (z_dec dL_openLettersOf 4 rfl) h (fun v J hp => ?_) (fun E J hE => ?_)
  · obtain ⟨x, rfl⟩ := hP v J hp
    refine zz_i2l hb (z_dec dL_openLettersOf 5 rfl) ?_
    refine zz_last (x := x) (j := 0) hb ho rfl rfl (show vp_in 0 1 from zin rfl) (z_dec dL_openLettersOf 6 rfl) ?_
    refine zz_goto (tgt := 15) hb (z_dec dL_openLettersOf 7 rfl) (by decide) ?_
    refine zz_iconst (v := 0) hb (z_dec dL_openLettersOf 11 rfl) (by decide) ?_
    exact zw_iret hK ⟨Nat.le_of_eq (Nat.zero_add _), Nat.le_of_eq (Nat.zero_add _)⟩ (z_dec dL_openLettersOf 12 rfl) (Or.inl ⟨x, J, hp, rfl, rfl⟩)
  · obtain rfl := hX E J hE
    exact ⟨12, 1, 1, ⟨[], ⟨0, 9, 12, 29⟩, [], rfl, (fun _ h => absurd h List.not_mem_nil), by decide, by decide, lw_in 2 rfl, by decide, rfl⟩, ⟨3, 1, Or.inr ⟨⟨_, (z_dec dL_openLettersOf 8 rfl), rfl⟩, rfl⟩, by decide, (z_dec dL_openLettersOf 9 rfl), (z_dec dL_openLettersOf 10 rfl)⟩, by decide, Or.inr ⟨_, hE, by decide +kernel⟩⟩
theorem wL_workOf {P : Option Value → zM → Prop} {X : String → zM → Prop} {mc : Nat × Nat} {x1 : Int32} (hx : isT w 10 0) (ho : isT w 23 319) (h : CT G w gl (yX10_workOf, cX10_workOf, 2, some .int) 7 mc [.ref 0, .int x1] I P X) (hP : ∀ v J, P v J → ∃ x : Int32, v = some (.int x)) (hX : ∀ E J, X E J → E = sI) : CTW G w gl (yL_workOf, cL_workOf, 4, some .int) [(0, 9, 12, 29)] 8 mc [.ref 0, .int x1, .ref 319] I (wQ P X (fun E => if E = sI then 1 else 0)) := by
  refine ctw_of (by decide +kernel) rfl [(0, .ref 0), (1, .int x1), (2, .ref 319)] rfl rfl (fun K hG hw hgl hwo hK => ?_)
  subst hG; subst hw; subst hgl
  have hb := hK.1
  refine zz_aload_n hb (z_dec dL_workOf 0 rfl) rfl 2 rfl ?_
  refine zz_iconst (v := 0) hb (z_dec dL_workOf 1 rfl) (by decide) ?_
  refine zz_aload_n hb (z_dec dL_workOf 2 rfl) rfl 0 rfl ?_
  refine zz_iload_n hb (z_dec dL_workOf 3 rfl) rfl 1 rfl ?_
  refine zw_try (as := [.int x1]) (d := 7) (S := [.int 0, .ref 319]) hK mkX10_workOf rfl ckX10 hx rfl ⟨Nat.le_of_eq (Nat.zero_add _), Nat.le_of_eq (Nat.zero_add _)⟩ rfl (rL_workOf 0 rfl) (rL_workOf 1 rfl) (rL_workOf 2 rfl) rfl (z_dec dL_workOf 4 rfl) h (fun v J hp => ?_) (fun E J hE => ?_)
  · obtain ⟨x, rfl⟩ := hP v J hp
    refine zz_i2l hb (z_dec dL_workOf 5 rfl) ?_
    refine zz_last (x := x) (j := 0) hb ho rfl rfl (show vp_in 0 1 from zin rfl) (z_dec dL_workOf 6 rfl) ?_
    refine zz_goto (tgt := 15) hb (z_dec dL_workOf 7 rfl) (by decide) ?_
    refine zz_iconst (v := 0) hb (z_dec dL_workOf 11 rfl) (by decide) ?_
    exact zw_iret hK ⟨Nat.le_of_eq (Nat.zero_add _), Nat.le_of_eq (Nat.zero_add _)⟩ (z_dec dL_workOf 12 rfl) (Or.inl ⟨x, J, hp, rfl, rfl⟩)
  · obtain rfl := hX E J hE
    exact ⟨12, 1, 1, ⟨[], ⟨0, 9, 12, 29⟩, [], rfl, (fun _ h => absurd h List.not_mem_nil), by decide, by decide, lw_in 2 rfl, by decide, rfl⟩, ⟨3, 1, Or.inr ⟨⟨_, (z_dec dL_workOf 8 rfl), rfl⟩, rfl⟩, by decide, (z_dec dL_workOf 9 rfl), (z_dec dL_workOf 10 rfl)⟩, by decide, Or.inr ⟨_, hE, by decide +kernel⟩⟩
theorem wL_greatestLateness {P : Option Value → zM → Prop} {X : String → zM → Prop} {mc : Nat × Nat} (hx : isT w 10 0) (ho : isT w 23 319) (h : CT G w gl (yX10_greatestLateness, cX10_greatestLateness, 1, some .int) 7 mc [.ref 0] I P X) (hP : ∀ v J, P v J → ∃ x : Int32, v = some (.int x)) (hX : ∀ E J, X E J → E = sN) : CTW G w gl (yL_greatestLateness, cL_greatestLateness, 3, some .int) [(0, 8, 11, 34)] 8 mc [.ref 0, .ref 319] I (wQ P X (fun E => if E = sN then 1 else 0)) := by
  refine ctw_of (by decide +kernel) rfl [(0, .ref 0), (1, .ref 319)] rfl rfl (fun K hG hw hgl hwo hK => ?_)
  subst hG; subst hw; subst hgl
  have hb := hK.1
  refine zz_aload_n hb (z_dec dL_greatestLateness 0 rfl) rfl 1 rfl ?_
  refine zz_iconst (v := 0) hb (z_dec dL_greatestLateness 1 rfl) (by decide) ?_
  refine zz_aload_n hb (z_dec dL_greatestLateness 2 rfl) rfl 0 rfl ?_
  refine zw_try (as := []) (d := 7) (S := [.int 0, .ref 319]) hK mkX10_greatestLateness rfl ckX10 hx rfl ⟨Nat.le_of_eq (Nat.zero_add _), Nat.le_of_eq (Nat.zero_add _)⟩ rfl (rL_greatestLateness 0 rfl) (rL_greatestLateness 1 rfl) (rL_greatestLateness 2 rfl) rfl (z_dec dL_greatestLateness 3 rfl) h (fun v J hp => ?_) (fun E J hE => ?_)
  · obtain ⟨x, rfl⟩ := hP v J hp
    refine zz_i2l hb (z_dec dL_greatestLateness 4 rfl) ?_
    refine zz_last (x := x) (j := 0) hb ho rfl rfl (show vp_in 0 1 from zin rfl) (z_dec dL_greatestLateness 5 rfl) ?_
    refine zz_goto (tgt := 14) hb (z_dec dL_greatestLateness 6 rfl) (by decide) ?_
    refine zz_iconst (v := 0) hb (z_dec dL_greatestLateness 10 rfl) (by decide) ?_
    exact zw_iret hK ⟨Nat.le_of_eq (Nat.zero_add _), Nat.le_of_eq (Nat.zero_add _)⟩ (z_dec dL_greatestLateness 11 rfl) (Or.inl ⟨x, J, hp, rfl, rfl⟩)
  · obtain rfl := hX E J hE
    exact ⟨11, 1, 1, ⟨[], ⟨0, 8, 11, 34⟩, [], rfl, (fun _ h => absurd h List.not_mem_nil), by decide, by decide, lw_in 3 rfl, by decide, rfl⟩, ⟨2, 1, Or.inr ⟨⟨_, (z_dec dL_greatestLateness 7 rfl), rfl⟩, rfl⟩, by decide, (z_dec dL_greatestLateness 8 rfl), (z_dec dL_greatestLateness 9 rfl)⟩, by decide, Or.inr ⟨_, hE, by decide +kernel⟩⟩
theorem wL_minutesToFinishLetter {P : Option Value → zM → Prop} {X : String → zM → Prop} {mc : Nat × Nat} {x1 : Int32} (hx : isT w 10 0) (ho : isT w 23 319) (h : CT G w gl (yX10_minutesToFinishLetter, cX10_minutesToFinishLetter, 3, some .int) 7 mc [.ref 0, .int x1] I P X) (hP : ∀ v J, P v J → ∃ x : Int32, v = some (.int x)) (hX : ∀ E J, X E J → E = sI) : CTW G w gl (yL_minutesToFinishLetter, cL_minutesToFinishLetter, 4, some .int) [(0, 9, 12, 29)] 8 mc [.ref 0, .int x1, .ref 319] I (wQ P X (fun E => if E = sI then 1 else 0)) := by
  refine ctw_of (by decide +kernel) rfl [(0, .ref 0), (1, .int x1), (2, .ref 319)] rfl rfl (fun K hG hw hgl hwo hK => ?_)
  subst hG; subst hw; subst hgl
  have hb := hK.1
  refine zz_aload_n hb (z_dec dL_minutesToFinishLetter 0 rfl) rfl 2 rfl ?_
  refine zz_iconst (v := 0) hb (z_dec dL_minutesToFinishLetter 1 rfl) (by decide) ?_
  refine zz_aload_n hb (z_dec dL_minutesToFinishLetter 2 rfl) rfl 0 rfl ?_
  refine zz_iload_n hb (z_dec dL_minutesToFinishLetter 3 rfl) rfl 1 rfl ?_
  refine zw_try (as := [.int x1]) (d := 7) (S := [.int 0, .ref 319]) hK mkX10_minutesToFinishLetter rfl ckX10 hx rfl ⟨Nat.le_of_eq (Nat.zero_add _), Nat.le_of_eq (Nat.zero_add _)⟩ rfl (rL_minutesToFinishLetter 0 rfl) (rL_minutesToFinishLetter 1 rfl) (rL_minutesToFinishLetter 2 rfl) rfl (z_dec dL_minutesToFinishLetter 4 rfl) h (fun v J hp => ?_) (fun E J hE => ?_)
  · obtain ⟨x, rfl⟩ := hP v J hp
    refine zz_i2l hb (z_dec dL_minutesToFinishLetter 5 rfl) ?_
    refine zz_last (x := x) (j := 0) hb ho rfl rfl (show vp_in 0 1 from zin rfl) (z_dec dL_minutesToFinishLetter 6 rfl) ?_
    refine zz_goto (tgt := 15) hb (z_dec dL_minutesToFinishLetter 7 rfl) (by decide) ?_
    refine zz_iconst (v := 0) hb (z_dec dL_minutesToFinishLetter 11 rfl) (by decide) ?_
    exact zw_iret hK ⟨Nat.le_of_eq (Nat.zero_add _), Nat.le_of_eq (Nat.zero_add _)⟩ (z_dec dL_minutesToFinishLetter 12 rfl) (Or.inl ⟨x, J, hp, rfl, rfl⟩)
  · obtain rfl := hX E J hE
    exact ⟨12, 1, 1, ⟨[], ⟨0, 9, 12, 29⟩, [], rfl, (fun _ h => absurd h List.not_mem_nil), by decide, by decide, lw_in 2 rfl, by decide, rfl⟩, ⟨3, 1, Or.inr ⟨⟨_, (z_dec dL_minutesToFinishLetter 8 rfl), rfl⟩, rfl⟩, by decide, (z_dec dL_minutesToFinishLetter 9 rfl), (z_dec dL_minutesToFinishLetter 10 rfl)⟩, by decide, Or.inr ⟨_, hE, by decide +kernel⟩⟩
theorem wL_letterWrittenIn {P : Option Value → zM → Prop} {X : String → zM → Prop} {mc : Nat × Nat} {x1 : Int32} (hx : isT w 10 0) (ho : isT w 23 319) (h : CT G w gl (yX10_letterWrittenIn, cX10_letterWrittenIn, 3, some .int) 6 mc [.ref 0, .int x1] I P X) (hP : ∀ v J, P v J → ∃ x : Int32, v = some (.int x)) (hX : ∀ E J, X E J → E = sA) : CTW G w gl (yL_letterWrittenIn, cL_letterWrittenIn, 4, some .int) [(0, 9, 12, 19)] 7 mc [.ref 0, .int x1, .ref 319] I (wQ P X (fun E => if E = sA then 1 else 0)) := by
  refine ctw_of (by decide +kernel) rfl [(0, .ref 0), (1, .int x1), (2, .ref 319)] rfl rfl (fun K hG hw hgl hwo hK => ?_)
  subst hG; subst hw; subst hgl
  have hb := hK.1
  refine zz_aload_n hb (z_dec dL_letterWrittenIn 0 rfl) rfl 2 rfl ?_
  refine zz_iconst (v := 0) hb (z_dec dL_letterWrittenIn 1 rfl) (by decide) ?_
  refine zz_aload_n hb (z_dec dL_letterWrittenIn 2 rfl) rfl 0 rfl ?_
  refine zz_iload_n hb (z_dec dL_letterWrittenIn 3 rfl) rfl 1 rfl ?_
  refine zw_try (as := [.int x1]) (d := 6) (S := [.int 0, .ref 319]) hK mkX10_letterWrittenIn rfl ckX10 hx rfl ⟨Nat.le_of_eq (Nat.zero_add _), Nat.le_of_eq (Nat.zero_add _)⟩ rfl (rL_letterWrittenIn 0 rfl) (rL_letterWrittenIn 1 rfl) (rL_letterWrittenIn 2 rfl) rfl (z_dec dL_letterWrittenIn 4 rfl) h (fun v J hp => ?_) (fun E J hE => ?_)
  · obtain ⟨x, rfl⟩ := hP v J hp
    refine zz_i2l hb (z_dec dL_letterWrittenIn 5 rfl) ?_
    refine zz_last (x := x) (j := 0) hb ho rfl rfl (show vp_in 0 1 from zin rfl) (z_dec dL_letterWrittenIn 6 rfl) ?_
    refine zz_goto (tgt := 15) hb (z_dec dL_letterWrittenIn 7 rfl) (by decide) ?_
    refine zz_iconst (v := 0) hb (z_dec dL_letterWrittenIn 11 rfl) (by decide) ?_
    exact zw_iret hK ⟨Nat.le_of_eq (Nat.zero_add _), Nat.le_of_eq (Nat.zero_add _)⟩ (z_dec dL_letterWrittenIn 12 rfl) (Or.inl ⟨x, J, hp, rfl, rfl⟩)
  · obtain rfl := hX E J hE
    exact ⟨12, 1, 1, ⟨[], ⟨0, 9, 12, 19⟩, [], rfl, (fun _ h => absurd h List.not_mem_nil), by decide, by decide, lw_in 1 rfl, by decide, rfl⟩, ⟨3, 1, Or.inr ⟨⟨_, (z_dec dL_letterWrittenIn 8 rfl), rfl⟩, rfl⟩, by decide, (z_dec dL_letterWrittenIn 9 rfl), (z_dec dL_letterWrittenIn 10 rfl)⟩, by decide, Or.inr ⟨_, hE, by decide +kernel⟩⟩
theorem wL_lateWith {P : Option Value → zM → Prop} {X : String → zM → Prop} {mc : Nat × Nat} {x1 : Int32} (hx : isT w 10 0) (ho : isT w 23 319) (h : CT G w gl (yX10_lateWith, cX10_lateWith, 2, some .int) 7 mc [.ref 0, .int x1] I P X) (hP : ∀ v J, P v J → ∃ x : Int32, v = some (.int x)) (hX : ∀ E J, X E J → E = sA) : CTW G w gl (yL_lateWith, cL_lateWith, 4, some .int) [(0, 9, 12, 19)] 8 mc [.ref 0, .int x1, .ref 319] I (wQ P X (fun E => if E = sA then 1 else 0)) := by
  refine ctw_of (by decide +kernel) rfl [(0, .ref 0), (1, .int x1), (2, .ref 319)] rfl rfl (fun K hG hw hgl hwo hK => ?_)
  subst hG; subst hw; subst hgl
  have hb := hK.1
  refine zz_aload_n hb (z_dec dL_lateWith 0 rfl) rfl 2 rfl ?_
  refine zz_iconst (v := 0) hb (z_dec dL_lateWith 1 rfl) (by decide) ?_
  refine zz_aload_n hb (z_dec dL_lateWith 2 rfl) rfl 0 rfl ?_
  refine zz_iload_n hb (z_dec dL_lateWith 3 rfl) rfl 1 rfl ?_
  refine zw_try (as := [.int x1]) (d := 7) (S := [.int 0, .ref 319]) hK mkX10_lateWith rfl ckX10 hx rfl ⟨Nat.le_of_eq (Nat.zero_add _), Nat.le_of_eq (Nat.zero_add _)⟩ rfl (rL_lateWith 0 rfl) (rL_lateWith 1 rfl) (rL_lateWith 2 rfl) rfl (z_dec dL_lateWith 4 rfl) h (fun v J hp => ?_) (fun E J hE => ?_)
  · obtain ⟨x, rfl⟩ := hP v J hp
    refine zz_i2l hb (z_dec dL_lateWith 5 rfl) ?_
    refine zz_last (x := x) (j := 0) hb ho rfl rfl (show vp_in 0 1 from zin rfl) (z_dec dL_lateWith 6 rfl) ?_
    refine zz_goto (tgt := 15) hb (z_dec dL_lateWith 7 rfl) (by decide) ?_
    refine zz_iconst (v := 0) hb (z_dec dL_lateWith 11 rfl) (by decide) ?_
    exact zw_iret hK ⟨Nat.le_of_eq (Nat.zero_add _), Nat.le_of_eq (Nat.zero_add _)⟩ (z_dec dL_lateWith 12 rfl) (Or.inl ⟨x, J, hp, rfl, rfl⟩)
  · obtain rfl := hX E J hE
    exact ⟨12, 1, 1, ⟨[], ⟨0, 9, 12, 19⟩, [], rfl, (fun _ h => absurd h List.not_mem_nil), by decide, by decide, lw_in 1 rfl, by decide, rfl⟩, ⟨3, 1, Or.inr ⟨⟨_, (z_dec dL_lateWith 8 rfl), rfl⟩, rfl⟩, by decide, (z_dec dL_lateWith 9 rfl), (z_dec dL_lateWith 10 rfl)⟩, by decide, Or.inr ⟨_, hE, by decide +kernel⟩⟩
theorem wL_waitingWith {P : Option Value → zM → Prop} {X : String → zM → Prop} {mc : Nat × Nat} {x1 : Int32} (hx : isT w 10 0) (ho : isT w 23 319) (h : CT G w gl (yX10_waitingWith, cX10_waitingWith, 2, some .int) 7 mc [.ref 0, .int x1] I P X) (hP : ∀ v J, P v J → ∃ x : Int32, v = some (.int x)) (hX : ∀ E J, X E J → E = sA) : CTW G w gl (yL_waitingWith, cL_waitingWith, 4, some .int) [(0, 9, 12, 19)] 8 mc [.ref 0, .int x1, .ref 319] I (wQ P X (fun E => if E = sA then 1 else 0)) := by
  refine ctw_of (by decide +kernel) rfl [(0, .ref 0), (1, .int x1), (2, .ref 319)] rfl rfl (fun K hG hw hgl hwo hK => ?_)
  subst hG; subst hw; subst hgl
  have hb := hK.1
  refine zz_aload_n hb (z_dec dL_waitingWith 0 rfl) rfl 2 rfl ?_
  refine zz_iconst (v := 0) hb (z_dec dL_waitingWith 1 rfl) (by decide) ?_
  refine zz_aload_n hb (z_dec dL_waitingWith 2 rfl) rfl 0 rfl ?_
  refine zz_iload_n hb (z_dec dL_waitingWith 3 rfl) rfl 1 rfl ?_
  refine zw_try (as := [.int x1]) (d := 7) (S := [.int 0, .ref 319]) hK mkX10_waitingWith rfl ckX10 hx rfl ⟨Nat.le_of_eq (Nat.zero_add _), Nat.le_of_eq (Nat.zero_add _)⟩ rfl (rL_waitingWith 0 rfl) (rL_waitingWith 1 rfl) (rL_waitingWith 2 rfl) rfl (z_dec dL_waitingWith 4 rfl) h (fun v J hp => ?_) (fun E J hE => ?_)
  · obtain ⟨x, rfl⟩ := hP v J hp
    refine zz_i2l hb (z_dec dL_waitingWith 5 rfl) ?_
    refine zz_last (x := x) (j := 0) hb ho rfl rfl (show vp_in 0 1 from zin rfl) (z_dec dL_waitingWith 6 rfl) ?_
    refine zz_goto (tgt := 15) hb (z_dec dL_waitingWith 7 rfl) (by decide) ?_
    refine zz_iconst (v := 0) hb (z_dec dL_waitingWith 11 rfl) (by decide) ?_
    exact zw_iret hK ⟨Nat.le_of_eq (Nat.zero_add _), Nat.le_of_eq (Nat.zero_add _)⟩ (z_dec dL_waitingWith 12 rfl) (Or.inl ⟨x, J, hp, rfl, rfl⟩)
  · obtain rfl := hX E J hE
    exact ⟨12, 1, 1, ⟨[], ⟨0, 9, 12, 19⟩, [], rfl, (fun _ h => absurd h List.not_mem_nil), by decide, by decide, lw_in 1 rfl, by decide, rfl⟩, ⟨3, 1, Or.inr ⟨⟨_, (z_dec dL_waitingWith 8 rfl), rfl⟩, rfl⟩, by decide, (z_dec dL_waitingWith 9 rfl), (z_dec dL_waitingWith 10 rfl)⟩, by decide, Or.inr ⟨_, hE, by decide +kernel⟩⟩
theorem wL_addLetter {P : Option Value → zM → Prop} {X : String → zM → Prop} {mc : Nat × Nat} {x1 x2 x3 x4 x5 : Int32} (hx : isT w 10 0) (ho : isT w 23 319) (h : CT G w gl (yX10_addLetter, cX10_addLetter, 6, some .int) 7 mc [.ref 0, .int x1, .int x2, .int x3, .int x4, .int x5] I P X) (hP : ∀ v J, P v J → ∃ x : Int32, v = some (.int x)) (hX : ∀ E J, X E J → E = sI ∨ E = sA ∨ E = sS) : CTW G w gl (yL_addLetter, cL_addLetter, 8, some .int) [(0, 16, 19, 29), (0, 16, 23, 19), (0, 16, 27, 13)] 8 mc [.ref 0, .int x1, .int x2, .int x3, .int x4, .int x5, .ref 319] I (wQ P X (fun E => if E = sI then 1 else if E = sA then 2 else if E = sS then 3 else 0)) := by
  refine ctw_of (by decide +kernel) rfl [(0, .ref 0), (1, .int x1), (2, .int x2), (3, .int x3), (4, .int x4), (5, .int x5), (6, .ref 319)] rfl rfl (fun K hG hw hgl hwo hK => ?_)
  subst hG; subst hw; subst hgl
  have hb := hK.1
  refine zz_aload hb (z_dec dL_addLetter 0 rfl) 6 rfl ?_
  refine zz_iconst (v := 0) hb (z_dec dL_addLetter 1 rfl) (by decide) ?_
  refine zz_aload_n hb (z_dec dL_addLetter 2 rfl) rfl 0 rfl ?_
  refine zz_iload_n hb (z_dec dL_addLetter 3 rfl) rfl 1 rfl ?_
  refine zz_iload_n hb (z_dec dL_addLetter 4 rfl) rfl 2 rfl ?_
  refine zz_iload_n hb (z_dec dL_addLetter 5 rfl) rfl 3 rfl ?_
  refine zz_iload hb (z_dec dL_addLetter 6 rfl) 4 rfl ?_
  refine zz_iload hb (z_dec dL_addLetter 7 rfl) 5 rfl ?_
  refine zw_try (as := [.int x1, .int x2, .int x3, .int x4, .int x5]) (d := 7) (S := [.int 0, .ref 319]) hK mkX10_addLetter rfl ckX10 hx rfl ⟨Nat.le_of_eq (Nat.zero_add _), Nat.le_of_eq (Nat.zero_add _)⟩ rfl (rL_addLetter 0 rfl) (rL_addLetter 1 rfl) (rL_addLetter 2 rfl) rfl (z_dec dL_addLetter 8 rfl) h (fun v J hp => ?_) (fun E J hE => ?_)
  · obtain ⟨x, rfl⟩ := hP v J hp
    refine zz_i2l hb (z_dec dL_addLetter 9 rfl) ?_
    refine zz_last (x := x) (j := 0) hb ho rfl rfl (show vp_in 0 1 from zin rfl) (z_dec dL_addLetter 10 rfl) ?_
    refine zz_goto (tgt := 31) hb (z_dec dL_addLetter 11 rfl) (by decide) ?_
    refine zz_iconst (v := 0) hb (z_dec dL_addLetter 21 rfl) (by decide) ?_
    exact zw_iret hK ⟨Nat.le_of_eq (Nat.zero_add _), Nat.le_of_eq (Nat.zero_add _)⟩ (z_dec dL_addLetter 22 rfl) (Or.inl ⟨x, J, hp, rfl, rfl⟩)
  · rcases hX E J hE with rfl | rfl | rfl
    · exact ⟨19, 1, 1, ⟨[], ⟨0, 16, 19, 29⟩, [⟨0, 16, 23, 19⟩, ⟨0, 16, 27, 13⟩], rfl, (fun _ h => absurd h List.not_mem_nil), by decide, by decide, lw_in 2 rfl, by decide, rfl⟩, ⟨7, 2, Or.inl ⟨(z_dec dL_addLetter 12 rfl), rfl⟩, by decide, (z_dec dL_addLetter 13 rfl), (z_dec dL_addLetter 14 rfl)⟩, by decide, Or.inr ⟨_, hE, by decide +kernel⟩⟩
    · exact ⟨23, 2, 2, ⟨[⟨0, 16, 19, 29⟩], ⟨0, 16, 23, 19⟩, [⟨0, 16, 27, 13⟩], rfl, (List.forall_mem_cons.mpr ⟨⟨by decide, sI, lw_in 2 rfl, by decide⟩, (fun _ h => absurd h List.not_mem_nil)⟩), by decide, by decide, lw_in 1 rfl, by decide, rfl⟩, ⟨7, 2, Or.inl ⟨(z_dec dL_addLetter 15 rfl), rfl⟩, by decide, (z_dec dL_addLetter 16 rfl), (z_dec dL_addLetter 17 rfl)⟩, by decide, Or.inr ⟨_, hE, by decide +kernel⟩⟩
    · exact ⟨27, 3, 3, ⟨[⟨0, 16, 19, 29⟩, ⟨0, 16, 23, 19⟩], ⟨0, 16, 27, 13⟩, [], rfl, (List.forall_mem_cons.mpr ⟨⟨by decide, sI, lw_in 2 rfl, by decide⟩, (List.forall_mem_cons.mpr ⟨⟨by decide, sA, lw_in 1 rfl, by decide⟩, (fun _ h => absurd h List.not_mem_nil)⟩)⟩), by decide, by decide, lw_in 0 rfl, by decide, rfl⟩, ⟨7, 2, Or.inl ⟨(z_dec dL_addLetter 18 rfl), rfl⟩, by decide, (z_dec dL_addLetter 19 rfl), (z_dec dL_addLetter 20 rfl)⟩, by decide, Or.inr ⟨_, hE, by decide +kernel⟩⟩
theorem wL_pass {P : Option Value → zM → Prop} {X : String → zM → Prop} {mc : Nat × Nat} {x1 : Int32} (hx : isT w 10 0) (ho : isT w 23 319) (h : CT G w gl (yX10_pass, cX10_pass, 2, some .int) 7 mc [.ref 0, .int x1] I P X) (hP : ∀ v J, P v J → ∃ x : Int32, v = some (.int x)) (hX : ∀ E J, X E J → E = sA ∨ E = sS) : CTW G w gl (yL_pass, cL_pass, 4, some .int) [(0, 9, 12, 19), (0, 9, 15, 13)] 8 mc [.ref 0, .int x1, .ref 319] I (wQ P X (fun E => if E = sA then 1 else if E = sS then 2 else 0)) := by
  refine ctw_of (by decide +kernel) rfl [(0, .ref 0), (1, .int x1), (2, .ref 319)] rfl rfl (fun K hG hw hgl hwo hK => ?_)
  subst hG; subst hw; subst hgl
  have hb := hK.1
  refine zz_aload_n hb (z_dec dL_pass 0 rfl) rfl 2 rfl ?_
  refine zz_iconst (v := 0) hb (z_dec dL_pass 1 rfl) (by decide) ?_
  refine zz_aload_n hb (z_dec dL_pass 2 rfl) rfl 0 rfl ?_
  refine zz_iload_n hb (z_dec dL_pass 3 rfl) rfl 1 rfl ?_
  refine zw_try (as := [.int x1]) (d := 7) (S := [.int 0, .ref 319]) hK mkX10_pass rfl ckX10 hx rfl ⟨Nat.le_of_eq (Nat.zero_add _), Nat.le_of_eq (Nat.zero_add _)⟩ rfl (rL_pass 0 rfl) (rL_pass 1 rfl) (rL_pass 2 rfl) rfl (z_dec dL_pass 4 rfl) h (fun v J hp => ?_) (fun E J hE => ?_)
  · obtain ⟨x, rfl⟩ := hP v J hp
    refine zz_i2l hb (z_dec dL_pass 5 rfl) ?_
    refine zz_last (x := x) (j := 0) hb ho rfl rfl (show vp_in 0 1 from zin rfl) (z_dec dL_pass 6 rfl) ?_
    refine zz_goto (tgt := 18) hb (z_dec dL_pass 7 rfl) (by decide) ?_
    refine zz_iconst (v := 0) hb (z_dec dL_pass 14 rfl) (by decide) ?_
    exact zw_iret hK ⟨Nat.le_of_eq (Nat.zero_add _), Nat.le_of_eq (Nat.zero_add _)⟩ (z_dec dL_pass 15 rfl) (Or.inl ⟨x, J, hp, rfl, rfl⟩)
  · rcases hX E J hE with rfl | rfl
    · exact ⟨12, 1, 1, ⟨[], ⟨0, 9, 12, 19⟩, [⟨0, 9, 15, 13⟩], rfl, (fun _ h => absurd h List.not_mem_nil), by decide, by decide, lw_in 1 rfl, by decide, rfl⟩, ⟨3, 1, Or.inr ⟨⟨_, (z_dec dL_pass 8 rfl), rfl⟩, rfl⟩, by decide, (z_dec dL_pass 9 rfl), (z_dec dL_pass 10 rfl)⟩, by decide, Or.inr ⟨_, hE, by decide +kernel⟩⟩
    · exact ⟨15, 2, 2, ⟨[⟨0, 9, 12, 19⟩], ⟨0, 9, 15, 13⟩, [], rfl, (List.forall_mem_cons.mpr ⟨⟨by decide, sA, lw_in 1 rfl, by decide⟩, (fun _ h => absurd h List.not_mem_nil)⟩), by decide, by decide, lw_in 0 rfl, by decide, rfl⟩, ⟨3, 1, Or.inr ⟨⟨_, (z_dec dL_pass 11 rfl), rfl⟩, rfl⟩, by decide, (z_dec dL_pass 12 rfl), (z_dec dL_pass 13 rfl)⟩, by decide, Or.inr ⟨_, hE, by decide +kernel⟩⟩
theorem wL_setPolicy {P : Option Value → zM → Prop} {X : String → zM → Prop} {mc : Nat × Nat} {x1 : Int32} (hx : isT w 10 0) (ho : isT w 23 319) (h : CT G w gl (yX10_setPolicy, cX10_setPolicy, 3, some .int) 7 mc [.ref 0, .int x1] I P X) (hP : ∀ v J, P v J → ∃ x : Int32, v = some (.int x)) (hX : ∀ E J, X E J → E = sA) : CTW G w gl (yL_setPolicy, cL_setPolicy, 4, some .int) [(0, 9, 12, 19)] 8 mc [.ref 0, .int x1, .ref 319] I (wQ P X (fun E => if E = sA then 1 else 0)) := by
  refine ctw_of (by decide +kernel) rfl [(0, .ref 0), (1, .int x1), (2, .ref 319)] rfl rfl (fun K hG hw hgl hwo hK => ?_)
  subst hG; subst hw; subst hgl
  have hb := hK.1
  refine zz_aload_n hb (z_dec dL_setPolicy 0 rfl) rfl 2 rfl ?_
  refine zz_iconst (v := 0) hb (z_dec dL_setPolicy 1 rfl) (by decide) ?_
  refine zz_aload_n hb (z_dec dL_setPolicy 2 rfl) rfl 0 rfl ?_
  refine zz_iload_n hb (z_dec dL_setPolicy 3 rfl) rfl 1 rfl ?_
  refine zw_try (as := [.int x1]) (d := 7) (S := [.int 0, .ref 319]) hK mkX10_setPolicy rfl ckX10 hx rfl ⟨Nat.le_of_eq (Nat.zero_add _), Nat.le_of_eq (Nat.zero_add _)⟩ rfl (rL_setPolicy 0 rfl) (rL_setPolicy 1 rfl) (rL_setPolicy 2 rfl) rfl (z_dec dL_setPolicy 4 rfl) h (fun v J hp => ?_) (fun E J hE => ?_)
  · obtain ⟨x, rfl⟩ := hP v J hp
    refine zz_i2l hb (z_dec dL_setPolicy 5 rfl) ?_
    refine zz_last (x := x) (j := 0) hb ho rfl rfl (show vp_in 0 1 from zin rfl) (z_dec dL_setPolicy 6 rfl) ?_
    refine zz_goto (tgt := 15) hb (z_dec dL_setPolicy 7 rfl) (by decide) ?_
    refine zz_iconst (v := 0) hb (z_dec dL_setPolicy 11 rfl) (by decide) ?_
    exact zw_iret hK ⟨Nat.le_of_eq (Nat.zero_add _), Nat.le_of_eq (Nat.zero_add _)⟩ (z_dec dL_setPolicy 12 rfl) (Or.inl ⟨x, J, hp, rfl, rfl⟩)
  · obtain rfl := hX E J hE
    exact ⟨12, 1, 1, ⟨[], ⟨0, 9, 12, 19⟩, [], rfl, (fun _ h => absurd h List.not_mem_nil), by decide, by decide, lw_in 1 rfl, by decide, rfl⟩, ⟨3, 1, Or.inr ⟨⟨_, (z_dec dL_setPolicy 8 rfl), rfl⟩, rfl⟩, by decide, (z_dec dL_setPolicy 9 rfl), (z_dec dL_setPolicy 10 rfl)⟩, by decide, Or.inr ⟨_, hE, by decide +kernel⟩⟩
theorem wL_setDeadline {P : Option Value → zM → Prop} {X : String → zM → Prop} {mc : Nat × Nat} {x1 x2 : Int32} (hx : isT w 10 0) (ho : isT w 23 319) (h : CT G w gl (yX10_setDeadline, cX10_setDeadline, 4, some .int) 7 mc [.ref 0, .int x1, .int x2] I P X) (hP : ∀ v J, P v J → ∃ x : Int32, v = some (.int x)) (hX : ∀ E J, X E J → E = sI ∨ E = sA) : CTW G w gl (yL_setDeadline, cL_setDeadline, 5, some .int) [(0, 10, 13, 29), (0, 10, 17, 19)] 8 mc [.ref 0, .int x1, .int x2, .ref 319] I (wQ P X (fun E => if E = sI then 1 else if E = sA then 2 else 0)) := by
  refine ctw_of (by decide +kernel) rfl [(0, .ref 0), (1, .int x1), (2, .int x2), (3, .ref 319)] rfl rfl (fun K hG hw hgl hwo hK => ?_)
  subst hG; subst hw; subst hgl
  have hb := hK.1
  refine zz_aload_n hb (z_dec dL_setDeadline 0 rfl) rfl 3 rfl ?_
  refine zz_iconst (v := 0) hb (z_dec dL_setDeadline 1 rfl) (by decide) ?_
  refine zz_aload_n hb (z_dec dL_setDeadline 2 rfl) rfl 0 rfl ?_
  refine zz_iload_n hb (z_dec dL_setDeadline 3 rfl) rfl 1 rfl ?_
  refine zz_iload_n hb (z_dec dL_setDeadline 4 rfl) rfl 2 rfl ?_
  refine zw_try (as := [.int x1, .int x2]) (d := 7) (S := [.int 0, .ref 319]) hK mkX10_setDeadline rfl ckX10 hx rfl ⟨Nat.le_of_eq (Nat.zero_add _), Nat.le_of_eq (Nat.zero_add _)⟩ rfl (rL_setDeadline 0 rfl) (rL_setDeadline 1 rfl) (rL_setDeadline 2 rfl) rfl (z_dec dL_setDeadline 5 rfl) h (fun v J hp => ?_) (fun E J hE => ?_)
  · obtain ⟨x, rfl⟩ := hP v J hp
    refine zz_i2l hb (z_dec dL_setDeadline 6 rfl) ?_
    refine zz_last (x := x) (j := 0) hb ho rfl rfl (show vp_in 0 1 from zin rfl) (z_dec dL_setDeadline 7 rfl) ?_
    refine zz_goto (tgt := 21) hb (z_dec dL_setDeadline 8 rfl) (by decide) ?_
    refine zz_iconst (v := 0) hb (z_dec dL_setDeadline 15 rfl) (by decide) ?_
    exact zw_iret hK ⟨Nat.le_of_eq (Nat.zero_add _), Nat.le_of_eq (Nat.zero_add _)⟩ (z_dec dL_setDeadline 16 rfl) (Or.inl ⟨x, J, hp, rfl, rfl⟩)
  · rcases hX E J hE with rfl | rfl
    · exact ⟨13, 1, 1, ⟨[], ⟨0, 10, 13, 29⟩, [⟨0, 10, 17, 19⟩], rfl, (fun _ h => absurd h List.not_mem_nil), by decide, by decide, lw_in 2 rfl, by decide, rfl⟩, ⟨4, 2, Or.inl ⟨(z_dec dL_setDeadline 9 rfl), rfl⟩, by decide, (z_dec dL_setDeadline 10 rfl), (z_dec dL_setDeadline 11 rfl)⟩, by decide, Or.inr ⟨_, hE, by decide +kernel⟩⟩
    · exact ⟨17, 2, 2, ⟨[⟨0, 10, 13, 29⟩], ⟨0, 10, 17, 19⟩, [], rfl, (List.forall_mem_cons.mpr ⟨⟨by decide, sI, lw_in 2 rfl, by decide⟩, (fun _ h => absurd h List.not_mem_nil)⟩), by decide, by decide, lw_in 1 rfl, by decide, rfl⟩, ⟨4, 2, Or.inl ⟨(z_dec dL_setDeadline 12 rfl), rfl⟩, by decide, (z_dec dL_setDeadline 13 rfl), (z_dec dL_setDeadline 14 rfl)⟩, by decide, Or.inr ⟨_, hE, by decide +kernel⟩⟩
theorem wL_setPriority {P : Option Value → zM → Prop} {X : String → zM → Prop} {mc : Nat × Nat} {x1 x2 : Int32} (hx : isT w 10 0) (ho : isT w 23 319) (h : CT G w gl (yX10_setPriority, cX10_setPriority, 4, some .int) 7 mc [.ref 0, .int x1, .int x2] I P X) (hP : ∀ v J, P v J → ∃ x : Int32, v = some (.int x)) (hX : ∀ E J, X E J → E = sI ∨ E = sA) : CTW G w gl (yL_setPriority, cL_setPriority, 5, some .int) [(0, 10, 13, 29), (0, 10, 17, 19)] 8 mc [.ref 0, .int x1, .int x2, .ref 319] I (wQ P X (fun E => if E = sI then 1 else if E = sA then 2 else 0)) := by
  refine ctw_of (by decide +kernel) rfl [(0, .ref 0), (1, .int x1), (2, .int x2), (3, .ref 319)] rfl rfl (fun K hG hw hgl hwo hK => ?_)
  subst hG; subst hw; subst hgl
  have hb := hK.1
  refine zz_aload_n hb (z_dec dL_setPriority 0 rfl) rfl 3 rfl ?_
  refine zz_iconst (v := 0) hb (z_dec dL_setPriority 1 rfl) (by decide) ?_
  refine zz_aload_n hb (z_dec dL_setPriority 2 rfl) rfl 0 rfl ?_
  refine zz_iload_n hb (z_dec dL_setPriority 3 rfl) rfl 1 rfl ?_
  refine zz_iload_n hb (z_dec dL_setPriority 4 rfl) rfl 2 rfl ?_
  refine zw_try (as := [.int x1, .int x2]) (d := 7) (S := [.int 0, .ref 319]) hK mkX10_setPriority rfl ckX10 hx rfl ⟨Nat.le_of_eq (Nat.zero_add _), Nat.le_of_eq (Nat.zero_add _)⟩ rfl (rL_setPriority 0 rfl) (rL_setPriority 1 rfl) (rL_setPriority 2 rfl) rfl (z_dec dL_setPriority 5 rfl) h (fun v J hp => ?_) (fun E J hE => ?_)
  · obtain ⟨x, rfl⟩ := hP v J hp
    refine zz_i2l hb (z_dec dL_setPriority 6 rfl) ?_
    refine zz_last (x := x) (j := 0) hb ho rfl rfl (show vp_in 0 1 from zin rfl) (z_dec dL_setPriority 7 rfl) ?_
    refine zz_goto (tgt := 21) hb (z_dec dL_setPriority 8 rfl) (by decide) ?_
    refine zz_iconst (v := 0) hb (z_dec dL_setPriority 15 rfl) (by decide) ?_
    exact zw_iret hK ⟨Nat.le_of_eq (Nat.zero_add _), Nat.le_of_eq (Nat.zero_add _)⟩ (z_dec dL_setPriority 16 rfl) (Or.inl ⟨x, J, hp, rfl, rfl⟩)
  · rcases hX E J hE with rfl | rfl
    · exact ⟨13, 1, 1, ⟨[], ⟨0, 10, 13, 29⟩, [⟨0, 10, 17, 19⟩], rfl, (fun _ h => absurd h List.not_mem_nil), by decide, by decide, lw_in 2 rfl, by decide, rfl⟩, ⟨4, 2, Or.inl ⟨(z_dec dL_setPriority 9 rfl), rfl⟩, by decide, (z_dec dL_setPriority 10 rfl), (z_dec dL_setPriority 11 rfl)⟩, by decide, Or.inr ⟨_, hE, by decide +kernel⟩⟩
    · exact ⟨17, 2, 2, ⟨[⟨0, 10, 13, 29⟩], ⟨0, 10, 17, 19⟩, [], rfl, (List.forall_mem_cons.mpr ⟨⟨by decide, sI, lw_in 2 rfl, by decide⟩, (fun _ h => absurd h List.not_mem_nil)⟩), by decide, by decide, lw_in 1 rfl, by decide, rfl⟩, ⟨4, 2, Or.inl ⟨(z_dec dL_setPriority 12 rfl), rfl⟩, by decide, (z_dec dL_setPriority 13 rfl), (z_dec dL_setPriority 14 rfl)⟩, by decide, Or.inr ⟨_, hE, by decide +kernel⟩⟩
theorem wL_extend {P : Option Value → zM → Prop} {X : String → zM → Prop} {mc : Nat × Nat} {x1 x2 : Int32} (hx : isT w 10 0) (ho : isT w 23 319) (h : CT G w gl (yX10_extend, cX10_extend, 3, some .int) 7 mc [.ref 0, .int x1, .int x2] I P X) (hP : ∀ v J, P v J → ∃ x : Int32, v = some (.int x)) (hX : ∀ E J, X E J → E = sI ∨ E = sA ∨ E = sS) : CTW G w gl (yL_extend, cL_extend, 5, some .int) [(0, 10, 13, 29), (0, 10, 17, 19), (0, 10, 21, 13)] 8 mc [.ref 0, .int x1, .int x2, .ref 319] I (wQ P X (fun E => if E = sI then 1 else if E = sA then 2 else if E = sS then 3 else 0)) := by
  refine ctw_of (by decide +kernel) rfl [(0, .ref 0), (1, .int x1), (2, .int x2), (3, .ref 319)] rfl rfl (fun K hG hw hgl hwo hK => ?_)
  subst hG; subst hw; subst hgl
  have hb := hK.1
  refine zz_aload_n hb (z_dec dL_extend 0 rfl) rfl 3 rfl ?_
  refine zz_iconst (v := 0) hb (z_dec dL_extend 1 rfl) (by decide) ?_
  refine zz_aload_n hb (z_dec dL_extend 2 rfl) rfl 0 rfl ?_
  refine zz_iload_n hb (z_dec dL_extend 3 rfl) rfl 1 rfl ?_
  refine zz_iload_n hb (z_dec dL_extend 4 rfl) rfl 2 rfl ?_
  refine zw_try (as := [.int x1, .int x2]) (d := 7) (S := [.int 0, .ref 319]) hK mkX10_extend rfl ckX10 hx rfl ⟨Nat.le_of_eq (Nat.zero_add _), Nat.le_of_eq (Nat.zero_add _)⟩ rfl (rL_extend 0 rfl) (rL_extend 1 rfl) (rL_extend 2 rfl) rfl (z_dec dL_extend 5 rfl) h (fun v J hp => ?_) (fun E J hE => ?_)
  · obtain ⟨x, rfl⟩ := hP v J hp
    refine zz_i2l hb (z_dec dL_extend 6 rfl) ?_
    refine zz_last (x := x) (j := 0) hb ho rfl rfl (show vp_in 0 1 from zin rfl) (z_dec dL_extend 7 rfl) ?_
    refine zz_goto (tgt := 25) hb (z_dec dL_extend 8 rfl) (by decide) ?_
    refine zz_iconst (v := 0) hb (z_dec dL_extend 18 rfl) (by decide) ?_
    exact zw_iret hK ⟨Nat.le_of_eq (Nat.zero_add _), Nat.le_of_eq (Nat.zero_add _)⟩ (z_dec dL_extend 19 rfl) (Or.inl ⟨x, J, hp, rfl, rfl⟩)
  · rcases hX E J hE with rfl | rfl | rfl
    · exact ⟨13, 1, 1, ⟨[], ⟨0, 10, 13, 29⟩, [⟨0, 10, 17, 19⟩, ⟨0, 10, 21, 13⟩], rfl, (fun _ h => absurd h List.not_mem_nil), by decide, by decide, lw_in 2 rfl, by decide, rfl⟩, ⟨4, 2, Or.inl ⟨(z_dec dL_extend 9 rfl), rfl⟩, by decide, (z_dec dL_extend 10 rfl), (z_dec dL_extend 11 rfl)⟩, by decide, Or.inr ⟨_, hE, by decide +kernel⟩⟩
    · exact ⟨17, 2, 2, ⟨[⟨0, 10, 13, 29⟩], ⟨0, 10, 17, 19⟩, [⟨0, 10, 21, 13⟩], rfl, (List.forall_mem_cons.mpr ⟨⟨by decide, sI, lw_in 2 rfl, by decide⟩, (fun _ h => absurd h List.not_mem_nil)⟩), by decide, by decide, lw_in 1 rfl, by decide, rfl⟩, ⟨4, 2, Or.inl ⟨(z_dec dL_extend 12 rfl), rfl⟩, by decide, (z_dec dL_extend 13 rfl), (z_dec dL_extend 14 rfl)⟩, by decide, Or.inr ⟨_, hE, by decide +kernel⟩⟩
    · exact ⟨21, 3, 3, ⟨[⟨0, 10, 13, 29⟩, ⟨0, 10, 17, 19⟩], ⟨0, 10, 21, 13⟩, [], rfl, (List.forall_mem_cons.mpr ⟨⟨by decide, sI, lw_in 2 rfl, by decide⟩, (List.forall_mem_cons.mpr ⟨⟨by decide, sA, lw_in 1 rfl, by decide⟩, (fun _ h => absurd h List.not_mem_nil)⟩)⟩), by decide, by decide, lw_in 0 rfl, by decide, rfl⟩, ⟨4, 2, Or.inl ⟨(z_dec dL_extend 15 rfl), rfl⟩, by decide, (z_dec dL_extend 16 rfl), (z_dec dL_extend 17 rfl)⟩, by decide, Or.inr ⟨_, hE, by decide +kernel⟩⟩
theorem wL_discard {P : Option Value → zM → Prop} {X : String → zM → Prop} {mc : Nat × Nat} {x1 : Int32} (hx : isT w 10 0) (ho : isT w 23 319) (h : CT G w gl (yX10_discard, cX10_discard, 2, some .int) 7 mc [.ref 0, .int x1] I P X) (hP : ∀ v J, P v J → ∃ x : Int32, v = some (.int x)) (hX : ∀ E J, X E J → E = sI ∨ E = sS) : CTW G w gl (yL_discard, cL_discard, 4, some .int) [(0, 9, 12, 29), (0, 9, 15, 13)] 8 mc [.ref 0, .int x1, .ref 319] I (wQ P X (fun E => if E = sI then 1 else if E = sS then 2 else 0)) := by
  refine ctw_of (by decide +kernel) rfl [(0, .ref 0), (1, .int x1), (2, .ref 319)] rfl rfl (fun K hG hw hgl hwo hK => ?_)
  subst hG; subst hw; subst hgl
  have hb := hK.1
  refine zz_aload_n hb (z_dec dL_discard 0 rfl) rfl 2 rfl ?_
  refine zz_iconst (v := 0) hb (z_dec dL_discard 1 rfl) (by decide) ?_
  refine zz_aload_n hb (z_dec dL_discard 2 rfl) rfl 0 rfl ?_
  refine zz_iload_n hb (z_dec dL_discard 3 rfl) rfl 1 rfl ?_
  refine zw_try (as := [.int x1]) (d := 7) (S := [.int 0, .ref 319]) hK mkX10_discard rfl ckX10 hx rfl ⟨Nat.le_of_eq (Nat.zero_add _), Nat.le_of_eq (Nat.zero_add _)⟩ rfl (rL_discard 0 rfl) (rL_discard 1 rfl) (rL_discard 2 rfl) rfl (z_dec dL_discard 4 rfl) h (fun v J hp => ?_) (fun E J hE => ?_)
  · obtain ⟨x, rfl⟩ := hP v J hp
    refine zz_i2l hb (z_dec dL_discard 5 rfl) ?_
    refine zz_last (x := x) (j := 0) hb ho rfl rfl (show vp_in 0 1 from zin rfl) (z_dec dL_discard 6 rfl) ?_
    refine zz_goto (tgt := 18) hb (z_dec dL_discard 7 rfl) (by decide) ?_
    refine zz_iconst (v := 0) hb (z_dec dL_discard 14 rfl) (by decide) ?_
    exact zw_iret hK ⟨Nat.le_of_eq (Nat.zero_add _), Nat.le_of_eq (Nat.zero_add _)⟩ (z_dec dL_discard 15 rfl) (Or.inl ⟨x, J, hp, rfl, rfl⟩)
  · rcases hX E J hE with rfl | rfl
    · exact ⟨12, 1, 1, ⟨[], ⟨0, 9, 12, 29⟩, [⟨0, 9, 15, 13⟩], rfl, (fun _ h => absurd h List.not_mem_nil), by decide, by decide, lw_in 2 rfl, by decide, rfl⟩, ⟨3, 1, Or.inr ⟨⟨_, (z_dec dL_discard 8 rfl), rfl⟩, rfl⟩, by decide, (z_dec dL_discard 9 rfl), (z_dec dL_discard 10 rfl)⟩, by decide, Or.inr ⟨_, hE, by decide +kernel⟩⟩
    · exact ⟨15, 2, 2, ⟨[⟨0, 9, 12, 29⟩], ⟨0, 9, 15, 13⟩, [], rfl, (List.forall_mem_cons.mpr ⟨⟨by decide, sI, lw_in 2 rfl, by decide⟩, (fun _ h => absurd h List.not_mem_nil)⟩), by decide, by decide, lw_in 0 rfl, by decide, rfl⟩, ⟨3, 1, Or.inr ⟨⟨_, (z_dec dL_discard 11 rfl), rfl⟩, rfl⟩, by decide, (z_dec dL_discard 12 rfl), (z_dec dL_discard 13 rfl)⟩, by decide, Or.inr ⟨_, hE, by decide +kernel⟩⟩
theorem wL_runScript {P : Option Value → zM → Prop} {X : String → zM → Prop} {mc : Nat × Nat} (hx : isT w 10 0) (ho : isT w 23 319) (h : CT G w gl (yX10_runScript, cX10_runScript, 3, some .int) 7 mc [.ref 0] I P X) (hP : ∀ v J, P v J → ∃ x : Int32, v = some (.int x)) (hX : ∀ E J, X E J → E = sA) : CTW G w gl (yL_runScript, cL_runScript, 3, some .int) [(0, 8, 11, 19)] 8 mc [.ref 0, .ref 319] I (wQ P X (fun E => if E = sA then 1 else 0)) := by
  refine ctw_of (by decide +kernel) rfl [(0, .ref 0), (1, .ref 319)] rfl rfl (fun K hG hw hgl hwo hK => ?_)
  subst hG; subst hw; subst hgl
  have hb := hK.1
  refine zz_aload_n hb (z_dec dL_runScript 0 rfl) rfl 1 rfl ?_
  refine zz_iconst (v := 0) hb (z_dec dL_runScript 1 rfl) (by decide) ?_
  refine zz_aload_n hb (z_dec dL_runScript 2 rfl) rfl 0 rfl ?_
  refine zw_try (as := []) (d := 7) (S := [.int 0, .ref 319]) hK mkX10_runScript rfl ckX10 hx rfl ⟨Nat.le_of_eq (Nat.zero_add _), Nat.le_of_eq (Nat.zero_add _)⟩ rfl (rL_runScript 0 rfl) (rL_runScript 1 rfl) (rL_runScript 2 rfl) rfl (z_dec dL_runScript 3 rfl) h (fun v J hp => ?_) (fun E J hE => ?_)
  · obtain ⟨x, rfl⟩ := hP v J hp
    refine zz_i2l hb (z_dec dL_runScript 4 rfl) ?_
    refine zz_last (x := x) (j := 0) hb ho rfl rfl (show vp_in 0 1 from zin rfl) (z_dec dL_runScript 5 rfl) ?_
    refine zz_goto (tgt := 14) hb (z_dec dL_runScript 6 rfl) (by decide) ?_
    refine zz_iconst (v := 0) hb (z_dec dL_runScript 10 rfl) (by decide) ?_
    exact zw_iret hK ⟨Nat.le_of_eq (Nat.zero_add _), Nat.le_of_eq (Nat.zero_add _)⟩ (z_dec dL_runScript 11 rfl) (Or.inl ⟨x, J, hp, rfl, rfl⟩)
  · obtain rfl := hX E J hE
    exact ⟨11, 1, 1, ⟨[], ⟨0, 8, 11, 19⟩, [], rfl, (fun _ h => absurd h List.not_mem_nil), by decide, by decide, lw_in 1 rfl, by decide, rfl⟩, ⟨2, 1, Or.inr ⟨⟨_, (z_dec dL_runScript 7 rfl), rfl⟩, rfl⟩, by decide, (z_dec dL_runScript 8 rfl), (z_dec dL_runScript 9 rfl)⟩, by decide, Or.inr ⟨_, hE, by decide +kernel⟩⟩
theorem wL_undo {P : Option Value → zM → Prop} {X : String → zM → Prop} {mc : Nat × Nat} (hx : isT w 10 0) (ho : isT w 23 319) (h : CT G w gl (yX10_undo, cX10_undo, 1, some .int) 6 mc [.ref 0] I P X) (hP : ∀ v J, P v J → ∃ x : Int32, v = some (.int x)) (hX : ∀ E J, X E J → E = sS) : CTW G w gl (yL_undo, cL_undo, 3, some .int) [(0, 8, 11, 13)] 7 mc [.ref 0, .ref 319] I (wQ P X (fun E => if E = sS then 1 else 0)) := by
  refine ctw_of (by decide +kernel) rfl [(0, .ref 0), (1, .ref 319)] rfl rfl (fun K hG hw hgl hwo hK => ?_)
  subst hG; subst hw; subst hgl
  have hb := hK.1
  refine zz_aload_n hb (z_dec dL_undo 0 rfl) rfl 1 rfl ?_
  refine zz_iconst (v := 0) hb (z_dec dL_undo 1 rfl) (by decide) ?_
  refine zz_aload_n hb (z_dec dL_undo 2 rfl) rfl 0 rfl ?_
  refine zw_try (as := []) (d := 6) (S := [.int 0, .ref 319]) hK mkX10_undo rfl ckX10 hx rfl ⟨Nat.le_of_eq (Nat.zero_add _), Nat.le_of_eq (Nat.zero_add _)⟩ rfl (rL_undo 0 rfl) (rL_undo 1 rfl) (rL_undo 2 rfl) rfl (z_dec dL_undo 3 rfl) h (fun v J hp => ?_) (fun E J hE => ?_)
  · obtain ⟨x, rfl⟩ := hP v J hp
    refine zz_i2l hb (z_dec dL_undo 4 rfl) ?_
    refine zz_last (x := x) (j := 0) hb ho rfl rfl (show vp_in 0 1 from zin rfl) (z_dec dL_undo 5 rfl) ?_
    refine zz_goto (tgt := 14) hb (z_dec dL_undo 6 rfl) (by decide) ?_
    refine zz_iconst (v := 0) hb (z_dec dL_undo 10 rfl) (by decide) ?_
    exact zw_iret hK ⟨Nat.le_of_eq (Nat.zero_add _), Nat.le_of_eq (Nat.zero_add _)⟩ (z_dec dL_undo 11 rfl) (Or.inl ⟨x, J, hp, rfl, rfl⟩)
  · obtain rfl := hX E J hE
    exact ⟨11, 1, 1, ⟨[], ⟨0, 8, 11, 13⟩, [], rfl, (fun _ h => absurd h List.not_mem_nil), by decide, by decide, lw_in 0 rfl, by decide, rfl⟩, ⟨2, 1, Or.inr ⟨⟨_, (z_dec dL_undo 7 rfl), rfl⟩, rfl⟩, by decide, (z_dec dL_undo 8 rfl), (z_dec dL_undo 9 rfl)⟩, by decide, Or.inr ⟨_, hE, by decide +kernel⟩⟩
theorem wL_save {P : Option Value → zM → Prop} {X : String → zM → Prop} {mc : Nat × Nat} {x1 : Int32} (hx : isT w 10 0) (ho : isT w 23 319) (h : CT G w gl (yX10_save, cX10_save, 2, some .int) 7 mc [.ref 0, .int x1] I P X) (hP : ∀ v J, P v J → ∃ x : Int32, v = some (.int x)) (hX : ∀ E J, X E J → E = sI) : CTW G w gl (yL_save, cL_save, 4, some .int) [(0, 9, 12, 29)] 8 mc [.ref 0, .int x1, .ref 319] I (wQ P X (fun E => if E = sI then 1 else 0)) := by
  refine ctw_of (by decide +kernel) rfl [(0, .ref 0), (1, .int x1), (2, .ref 319)] rfl rfl (fun K hG hw hgl hwo hK => ?_)
  subst hG; subst hw; subst hgl
  have hb := hK.1
  refine zz_aload_n hb (z_dec dL_save 0 rfl) rfl 2 rfl ?_
  refine zz_iconst (v := 0) hb (z_dec dL_save 1 rfl) (by decide) ?_
  refine zz_aload_n hb (z_dec dL_save 2 rfl) rfl 0 rfl ?_
  refine zz_iload_n hb (z_dec dL_save 3 rfl) rfl 1 rfl ?_
  refine zw_try (as := [.int x1]) (d := 7) (S := [.int 0, .ref 319]) hK mkX10_save rfl ckX10 hx rfl ⟨Nat.le_of_eq (Nat.zero_add _), Nat.le_of_eq (Nat.zero_add _)⟩ rfl (rL_save 0 rfl) (rL_save 1 rfl) (rL_save 2 rfl) rfl (z_dec dL_save 4 rfl) h (fun v J hp => ?_) (fun E J hE => ?_)
  · obtain ⟨x, rfl⟩ := hP v J hp
    refine zz_i2l hb (z_dec dL_save 5 rfl) ?_
    refine zz_last (x := x) (j := 0) hb ho rfl rfl (show vp_in 0 1 from zin rfl) (z_dec dL_save 6 rfl) ?_
    refine zz_goto (tgt := 15) hb (z_dec dL_save 7 rfl) (by decide) ?_
    refine zz_iconst (v := 0) hb (z_dec dL_save 11 rfl) (by decide) ?_
    exact zw_iret hK ⟨Nat.le_of_eq (Nat.zero_add _), Nat.le_of_eq (Nat.zero_add _)⟩ (z_dec dL_save 12 rfl) (Or.inl ⟨x, J, hp, rfl, rfl⟩)
  · obtain rfl := hX E J hE
    exact ⟨12, 1, 1, ⟨[], ⟨0, 9, 12, 29⟩, [], rfl, (fun _ h => absurd h List.not_mem_nil), by decide, by decide, lw_in 2 rfl, by decide, rfl⟩, ⟨3, 1, Or.inr ⟨⟨_, (z_dec dL_save 8 rfl), rfl⟩, rfl⟩, by decide, (z_dec dL_save 9 rfl), (z_dec dL_save 10 rfl)⟩, by decide, Or.inr ⟨_, hE, by decide +kernel⟩⟩
theorem wL_restore {P : Option Value → zM → Prop} {X : String → zM → Prop} {mc : Nat × Nat} {x1 : Int32} (hx : isT w 10 0) (ho : isT w 23 319) (h : CT G w gl (yX10_restore, cX10_restore, 2, some .int) 7 mc [.ref 0, .int x1] I P X) (hP : ∀ v J, P v J → ∃ x : Int32, v = some (.int x)) (hX : ∀ E J, X E J → E = sI ∨ E = sS) : CTW G w gl (yL_restore, cL_restore, 4, some .int) [(0, 9, 12, 29), (0, 9, 15, 13)] 8 mc [.ref 0, .int x1, .ref 319] I (wQ P X (fun E => if E = sI then 1 else if E = sS then 2 else 0)) := by
  refine ctw_of (by decide +kernel) rfl [(0, .ref 0), (1, .int x1), (2, .ref 319)] rfl rfl (fun K hG hw hgl hwo hK => ?_)
  subst hG; subst hw; subst hgl
  have hb := hK.1
  refine zz_aload_n hb (z_dec dL_restore 0 rfl) rfl 2 rfl ?_
  refine zz_iconst (v := 0) hb (z_dec dL_restore 1 rfl) (by decide) ?_
  refine zz_aload_n hb (z_dec dL_restore 2 rfl) rfl 0 rfl ?_
  refine zz_iload_n hb (z_dec dL_restore 3 rfl) rfl 1 rfl ?_
  refine zw_try (as := [.int x1]) (d := 7) (S := [.int 0, .ref 319]) hK mkX10_restore rfl ckX10 hx rfl ⟨Nat.le_of_eq (Nat.zero_add _), Nat.le_of_eq (Nat.zero_add _)⟩ rfl (rL_restore 0 rfl) (rL_restore 1 rfl) (rL_restore 2 rfl) rfl (z_dec dL_restore 4 rfl) h (fun v J hp => ?_) (fun E J hE => ?_)
  · obtain ⟨x, rfl⟩ := hP v J hp
    refine zz_i2l hb (z_dec dL_restore 5 rfl) ?_
    refine zz_last (x := x) (j := 0) hb ho rfl rfl (show vp_in 0 1 from zin rfl) (z_dec dL_restore 6 rfl) ?_
    refine zz_goto (tgt := 18) hb (z_dec dL_restore 7 rfl) (by decide) ?_
    refine zz_iconst (v := 0) hb (z_dec dL_restore 14 rfl) (by decide) ?_
    exact zw_iret hK ⟨Nat.le_of_eq (Nat.zero_add _), Nat.le_of_eq (Nat.zero_add _)⟩ (z_dec dL_restore 15 rfl) (Or.inl ⟨x, J, hp, rfl, rfl⟩)
  · rcases hX E J hE with rfl | rfl
    · exact ⟨12, 1, 1, ⟨[], ⟨0, 9, 12, 29⟩, [⟨0, 9, 15, 13⟩], rfl, (fun _ h => absurd h List.not_mem_nil), by decide, by decide, lw_in 2 rfl, by decide, rfl⟩, ⟨3, 1, Or.inr ⟨⟨_, (z_dec dL_restore 8 rfl), rfl⟩, rfl⟩, by decide, (z_dec dL_restore 9 rfl), (z_dec dL_restore 10 rfl)⟩, by decide, Or.inr ⟨_, hE, by decide +kernel⟩⟩
    · exact ⟨15, 2, 2, ⟨[⟨0, 9, 12, 29⟩], ⟨0, 9, 15, 13⟩, [], rfl, (List.forall_mem_cons.mpr ⟨⟨by decide, sI, lw_in 2 rfl, by decide⟩, (fun _ h => absurd h List.not_mem_nil)⟩), by decide, by decide, lw_in 0 rfl, by decide, rfl⟩, ⟨3, 1, Or.inr ⟨⟨_, (z_dec dL_restore 11 rfl), rfl⟩, rfl⟩, by decide, (z_dec dL_restore 12 rfl), (z_dec dL_restore 13 rfl)⟩, by decide, Or.inr ⟨_, hE, by decide +kernel⟩⟩
theorem wL_outputByte {P : Option Value → zM → Prop} {X : String → zM → Prop} {mc : Nat × Nat} {x1 : Int32} (hx : isT w 10 0) (ho : isT w 23 319) (h : CT G w gl (yX10_outputByte, cX10_outputByte, 2, some .int) 6 mc [.ref 0, .int x1] I P X) (hP : ∀ v J, P v J → ∃ x : Int32, v = some (.int x)) (hX : ∀ E J, X E J → E = sI) : CTW G w gl (yL_outputByte, cL_outputByte, 4, some .int) [(0, 9, 12, 29)] 7 mc [.ref 0, .int x1, .ref 319] I (wQ P X (fun E => if E = sI then 1 else 0)) := by
  refine ctw_of (by decide +kernel) rfl [(0, .ref 0), (1, .int x1), (2, .ref 319)] rfl rfl (fun K hG hw hgl hwo hK => ?_)
  subst hG; subst hw; subst hgl
  have hb := hK.1
  refine zz_aload_n hb (z_dec dL_outputByte 0 rfl) rfl 2 rfl ?_
  refine zz_iconst (v := 0) hb (z_dec dL_outputByte 1 rfl) (by decide) ?_
  refine zz_aload_n hb (z_dec dL_outputByte 2 rfl) rfl 0 rfl ?_
  refine zz_iload_n hb (z_dec dL_outputByte 3 rfl) rfl 1 rfl ?_
  refine zw_try (as := [.int x1]) (d := 6) (S := [.int 0, .ref 319]) hK mkX10_outputByte rfl ckX10 hx rfl ⟨Nat.le_of_eq (Nat.zero_add _), Nat.le_of_eq (Nat.zero_add _)⟩ rfl (rL_outputByte 0 rfl) (rL_outputByte 1 rfl) (rL_outputByte 2 rfl) rfl (z_dec dL_outputByte 4 rfl) h (fun v J hp => ?_) (fun E J hE => ?_)
  · obtain ⟨x, rfl⟩ := hP v J hp
    refine zz_i2l hb (z_dec dL_outputByte 5 rfl) ?_
    refine zz_last (x := x) (j := 0) hb ho rfl rfl (show vp_in 0 1 from zin rfl) (z_dec dL_outputByte 6 rfl) ?_
    refine zz_goto (tgt := 15) hb (z_dec dL_outputByte 7 rfl) (by decide) ?_
    refine zz_iconst (v := 0) hb (z_dec dL_outputByte 11 rfl) (by decide) ?_
    exact zw_iret hK ⟨Nat.le_of_eq (Nat.zero_add _), Nat.le_of_eq (Nat.zero_add _)⟩ (z_dec dL_outputByte 12 rfl) (Or.inl ⟨x, J, hp, rfl, rfl⟩)
  · obtain rfl := hX E J hE
    exact ⟨12, 1, 1, ⟨[], ⟨0, 9, 12, 29⟩, [], rfl, (fun _ h => absurd h List.not_mem_nil), by decide, by decide, lw_in 2 rfl, by decide, rfl⟩, ⟨3, 1, Or.inr ⟨⟨_, (z_dec dL_outputByte 8 rfl), rfl⟩, rfl⟩, by decide, (z_dec dL_outputByte 9 rfl), (z_dec dL_outputByte 10 rfl)⟩, by decide, Or.inr ⟨_, hE, by decide +kernel⟩⟩
end WRA
