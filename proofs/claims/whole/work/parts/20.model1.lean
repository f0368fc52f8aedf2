/-! PramStateModel.in(JJJ)Z -/
abbrev ww_X10_in (cI cB cZ cP cC : ClassId)  : va_W := []
abbrev qq_X10_in (D : va_G) (cI cB cZ cP cC : ClassId)  (Post : Int32 → Prop) (A : Nat → Prop) : Array Value → State → Outcome → State → Prop := va_Qi (fun (r : Int32) (u : Unit) => Post r) (fun (u : Unit) t => mxB D (mxTy cI cB cZ cP cC) A (ww_X10_in cI cB cZ cP cC) t) A
abbrev rm_X10_in : Room := { frames := 0, cells := 0, slots := 0, locals := 0 }
theorem hd_X10_in : yX10_in.cls ≠ "java/lang/invoke/MethodHandle" ∧ yX10_in.cls ≠ "java/lang/invoke/VarHandle" ∧ (parseMethodDescriptor yX10_in.desc).map (fun d => d.parameters.length) = some 3 := by decide +kernel
def wp_X10_in (v0 : Int64) (v2 : Int64) (v4 : Int64) (Post : Int32 → Prop) : Prop :=
  (((lg_cmp v0 v2) < 0 → Post 0) ∧ (¬ (lg_cmp v0 v2) < 0 → ((0 < (lg_cmp v0 v4) → Post 0) ∧ (¬ 0 < (lg_cmp v0 v4) → Post 1))))
set_option maxHeartbeats 4000000 in
set_option maxRecDepth 100000 in
theorem c_X10_in (l : Launch) (D : va_G) (cI cB cZ cP cC : ClassId)  (v0 : Int64) (v2 : Int64) (v4 : Int64) (sz : Nat) (Post : Int32 → Prop) (hw : wp_X10_in v0 v2 v4 Post) :
    Met l yX10_in (Cond.code yX10_in cX10_in 6 (some .boolean) :: wsAll) rm_X10_in (va_Pc [.long v0, .long v2, .long v4] (mxP D (mxTy cI cB cZ cP cC) sz (ww_X10_in cI cB cZ cP cC))) (qq_X10_in D cI cB cZ cP cC Post (va_A (ww_X10_in cI cB cZ cP cC) sz)) 0 0 (va_A (ww_X10_in cI cB cZ cP cC) sz) := by
  refine mx_of (Qc := qq_X10_in D cI cB cZ cP cC Post) (by decide) (Nat.le_of_ble_eq_true rfl) ?_
  intro p e s m bl meth c A ls C0 hP hD hS hl
  replace C0 : mxC p s m [.long v0, .long v2, .long v4].toArray meth c cX10_in RX10 (some .boolean) 6 D (mxTy cI cB cZ cP cC) A := C0
  obtain ⟨hx, hb, hr, hlocks, hml, hown, hts, hK, hA⟩ := id C0
  replace hl : lv_has ls 6 [(0, .long v0), (2, .long v2), (4, .long v4)] := hl
  unfold wp_X10_in at hw
  refine lv_lload_n hx hb dX10_in_0 rfl (lv_at hl 0 rfl) ?_
  refine lv_lload_n hx hb dX10_in_1 rfl (lv_at hl 1 rfl) ?_
  refine W.lcmp hx hb dX10_in_2 ?_
  refine lv_if_lt (tgt := 17) hx hb dX10_in_3 (by decide) (fun c_1 => ?_) (fun c_1 => ?_)
  · replace hw := hw.1 c_1
    refine lv_iconst (v := 0) hx hb dX10_in_17 (by decide) ?_
    exact mx_iret () hx hb hr hlocks rfl hw hK hP hD hS dX10_in_18
  · replace hw := hw.2 c_1
    refine lv_lload_n hx hb dX10_in_6 rfl (lv_at hl 0 rfl) ?_
    refine lv_lload hx hb dX10_in_7 (lv_at hl 2 rfl) ?_
    refine W.lcmp hx hb dX10_in_9 ?_
    refine lv_if_gt (tgt := 17) hx hb dX10_in_10 (by decide) (fun c_2 => ?_) (fun c_2 => ?_)
    · replace hw := hw.1 c_2
      refine lv_iconst (v := 0) hx hb dX10_in_17 (by decide) ?_
      exact mx_iret () hx hb hr hlocks rfl hw hK hP hD hS dX10_in_18
    · replace hw := hw.2 c_2
      refine lv_iconst (v := 1) hx hb dX10_in_13 (by decide) ?_
      refine lv_goto (tgt := 18) hx hb dX10_in_14 (by decide) ?_
      exact mx_iret () hx hb hr hlocks rfl hw hK hP hD hS dX10_in_18
/-! PramStateModel.bad(I)I -/
abbrev ww_X10_bad (a_m a_m_told a_m_kept a_m_isKept a_m_refused a_m_months a_m_heirs a_m_lasts a_m_cares a_m_bestCares a_m_ones a_m_others a_m_bytes a_m_anew a_m_values : Nat) (cI cB cZ cP cC : ClassId) (above : Int64) (below : Int64) (retired : Int32) (manyLine : Int32) (bytesLong : Int32) (tokenAt : Int32) (tokenLong : Int32) (token : Int32) (value : Int32) (refused : Nat → Int32) : va_W := [(a_m, .inr (10, [.ref a_m_told, .ref a_m_kept, .ref a_m_isKept, .ref a_m_refused, .long above, .long below, .ref a_m_months, .int retired, .ref a_m_heirs, .ref a_m_lasts, .int manyLine, .ref a_m_cares, .ref a_m_bestCares, .ref a_m_ones, .ref a_m_others, .ref a_m_bytes, .int bytesLong, .int tokenAt, .int tokenLong, .int token, .int value, .ref a_m_anew, .ref a_m_values])), (a_m_refused, .inl (cI, 3, .inl refused))]
abbrev qq_X10_bad (D : va_G) (a_m a_m_told a_m_kept a_m_isKept a_m_refused a_m_months a_m_heirs a_m_lasts a_m_cares a_m_bestCares a_m_ones a_m_others a_m_bytes a_m_anew a_m_values : Nat) (cI cB cZ cP cC : ClassId) (above : Int64) (below : Int64) (retired : Int32) (manyLine : Int32) (bytesLong : Int32) (tokenAt : Int32) (tokenLong : Int32) (token : Int32) (value : Int32) (Post : Int32 → (Nat → Int32) → Prop) (A : Nat → Prop) : Array Value → State → Outcome → State → Prop := va_Qi (fun (r : Int32) (u : (Nat → Int32)) => Post r u) (fun (u : (Nat → Int32)) t => mxB D (mxTy cI cB cZ cP cC) A (ww_X10_bad a_m a_m_told a_m_kept a_m_isKept a_m_refused a_m_months a_m_heirs a_m_lasts a_m_cares a_m_bestCares a_m_ones a_m_others a_m_bytes a_m_anew a_m_values cI cB cZ cP cC above below retired manyLine bytesLong tokenAt tokenLong token value u) t) A
abbrev rm_X10_bad : Room := { frames := 0, cells := 0, slots := 0, locals := 0 }
theorem hd_X10_bad : yX10_bad.cls = RX10 ∧ yX10_bad.cls ≠ "java/lang/invoke/MethodHandle" ∧ yX10_bad.cls ≠ "java/lang/invoke/VarHandle" ∧ (parseMethodDescriptor yX10_bad.desc).map (fun d => d.parameters.length) = some 1 := by decide +kernel
def wp_X10_bad (refused : Nat → Int32) (v1 : Int32) (Post : Int32 → (Nat → Int32) → Prop) : Prop :=
  (∀ x_1 : Int32, x_1 = (refused 0) + 1 → (∀ f_2 : Nat → Int32, f_2 = upd refused 0 x_1 → Post v1 f_2))
set_option maxHeartbeats 4000000 in
set_option maxRecDepth 100000 in
theorem c_X10_bad (l : Launch) (D : va_G) (cI cB cZ cP cC : ClassId) (a_m a_m_told a_m_kept a_m_isKept a_m_refused a_m_months a_m_heirs a_m_lasts a_m_cares a_m_bestCares a_m_ones a_m_others a_m_bytes a_m_anew a_m_values : Nat) (above : Int64) (below : Int64) (retired : Int32) (manyLine : Int32) (bytesLong : Int32) (tokenAt : Int32) (tokenLong : Int32) (token : Int32) (value : Int32) (refused : Nat → Int32) (v1 : Int32) (sz : Nat) (Post : Int32 → (Nat → Int32) → Prop) (hw : wp_X10_bad refused v1 Post) :
    Met l yX10_bad (Cond.code yX10_bad cX10_bad 2 (some .int) :: wsAll) rm_X10_bad (va_Pc [.ref a_m, .int v1] (mxP D (mxTy cI cB cZ cP cC) sz (ww_X10_bad a_m a_m_told a_m_kept a_m_isKept a_m_refused a_m_months a_m_heirs a_m_lasts a_m_cares a_m_bestCares a_m_ones a_m_others a_m_bytes a_m_anew a_m_values cI cB cZ cP cC above below retired manyLine bytesLong tokenAt tokenLong token value refused))) (qq_X10_bad D a_m a_m_told a_m_kept a_m_isKept a_m_refused a_m_months a_m_heirs a_m_lasts a_m_cares a_m_bestCares a_m_ones a_m_others a_m_bytes a_m_anew a_m_values cI cB cZ cP cC above below retired manyLine bytesLong tokenAt tokenLong token value Post (va_A (ww_X10_bad a_m a_m_told a_m_kept a_m_isKept a_m_refused a_m_months a_m_heirs a_m_lasts a_m_cares a_m_bestCares a_m_ones a_m_others a_m_bytes a_m_anew a_m_values cI cB cZ cP cC above below retired manyLine bytesLong tokenAt tokenLong token value refused) sz)) 0 0 (va_A (ww_X10_bad a_m a_m_told a_m_kept a_m_isKept a_m_refused a_m_months a_m_heirs a_m_lasts a_m_cares a_m_bestCares a_m_ones a_m_others a_m_bytes a_m_anew a_m_values cI cB cZ cP cC above below retired manyLine bytesLong tokenAt tokenLong token value refused) sz) := by
  refine mx_of (Qc := qq_X10_bad D a_m a_m_told a_m_kept a_m_isKept a_m_refused a_m_months a_m_heirs a_m_lasts a_m_cares a_m_bestCares a_m_ones a_m_others a_m_bytes a_m_anew a_m_values cI cB cZ cP cC above below retired manyLine bytesLong tokenAt tokenLong token value Post) (by decide) (Nat.le_of_ble_eq_true rfl) ?_
  intro p e s m bl meth c A ls C0 hP hD hS hl
  replace C0 : mxC p s m [.ref a_m, .int v1].toArray meth c cX10_bad RX10 (some .int) 2 D (mxTy cI cB cZ cP cC) A := C0
  obtain ⟨hx, hb, hr, hlocks, hml, hown, hts, hK, hA⟩ := id C0
  replace hl : lv_has ls 2 [(0, .ref a_m), (1, .int v1)] := hl
  unfold wp_X10_bad at hw
  refine lv_aload_n hx hb dX10_bad_0 rfl (lv_at hl 0 rfl) ?_
  refine mx_get (ci := 10) (C := RX10) (T := TX10) (N := 23) hx hb hown in_wsX100 hts hK hP 0 rfl rfl 3 (by decide) q_94 rfl (v := .ref a_m_refused) rfl dX10_bad_1 ?_
  refine lv_iconst (v := 0) hx hb dX10_bad_4 (by decide) ?_
  refine lv_dup2_11 hx hb dX10_bad_5 rfl rfl ?_
  refine mx_iald hx hb hK hP 1 0 rfl rfl (mx_lit rfl) (refused 0) rfl dX10_bad_6 ?_
  refine lv_iconst (v := 1) hx hb dX10_bad_7 (by decide) ?_
  refine lv_iadd hx hb dX10_bad_8 ?_
  refine lv_topi (fun x_1 ex_1 => ?_)
  replace hw := hw x_1 ex_1
  obtain ⟨f_2, ef_2⟩ : ∃ y : Nat → Int32, y = upd refused 0 x_1 := ⟨_, rfl⟩
  replace hw := hw f_2 ef_2
  refine mx_iast hx hb hK hP hD hS 1 0 rfl rfl (mx_lit rfl) f_2 ef_2 (ww_X10_bad a_m a_m_told a_m_kept a_m_isKept a_m_refused a_m_months a_m_heirs a_m_lasts a_m_cares a_m_bestCares a_m_ones a_m_others a_m_bytes a_m_anew a_m_values cI cB cZ cP cC above below retired manyLine bytesLong tokenAt tokenLong token value f_2) rfl dX10_bad_9 (fun H locs hP hD hS => ?_)
  refine lv_iload_n hx hb dX10_bad_10 rfl (lv_at hl 1 rfl) ?_
  exact mx_iret f_2 hx hb hr hlocks rfl hw hK hP hD hS dX10_bad_11
/-! PramStateModel.no()I -/
abbrev ww_X10_no (a_m a_m_told a_m_kept a_m_isKept a_m_refused a_m_months a_m_heirs a_m_lasts a_m_cares a_m_bestCares a_m_ones a_m_others a_m_bytes a_m_anew a_m_values : Nat) (cI cB cZ cP cC : ClassId) (above : Int64) (below : Int64) (retired : Int32) (manyLine : Int32) (bytesLong : Int32) (tokenAt : Int32) (tokenLong : Int32) (token : Int32) (value : Int32) (refused : Nat → Int32) : va_W := [(a_m, .inr (10, [.ref a_m_told, .ref a_m_kept, .ref a_m_isKept, .ref a_m_refused, .long above, .long below, .ref a_m_months, .int retired, .ref a_m_heirs, .ref a_m_lasts, .int manyLine, .ref a_m_cares, .ref a_m_bestCares, .ref a_m_ones, .ref a_m_others, .ref a_m_bytes, .int bytesLong, .int tokenAt, .int tokenLong, .int token, .int value, .ref a_m_anew, .ref a_m_values])), (a_m_refused, .inl (cI, 3, .inl refused))]
abbrev qq_X10_no (D : va_G) (a_m a_m_told a_m_kept a_m_isKept a_m_refused a_m_months a_m_heirs a_m_lasts a_m_cares a_m_bestCares a_m_ones a_m_others a_m_bytes a_m_anew a_m_values : Nat) (cI cB cZ cP cC : ClassId) (above : Int64) (below : Int64) (retired : Int32) (manyLine : Int32) (bytesLong : Int32) (tokenAt : Int32) (tokenLong : Int32) (token : Int32) (value : Int32) (Post : Int32 → (Nat → Int32) → Prop) (A : Nat → Prop) : Array Value → State → Outcome → State → Prop := va_Qi (fun (r : Int32) (u : (Nat → Int32)) => Post r u) (fun (u : (Nat → Int32)) t => mxB D (mxTy cI cB cZ cP cC) A (ww_X10_no a_m a_m_told a_m_kept a_m_isKept a_m_refused a_m_months a_m_heirs a_m_lasts a_m_cares a_m_bestCares a_m_ones a_m_others a_m_bytes a_m_anew a_m_values cI cB cZ cP cC above below retired manyLine bytesLong tokenAt tokenLong token value u) t) A
abbrev rm_X10_no : Room := { frames := 0, cells := 0, slots := 0, locals := 0 }
theorem hd_X10_no : yX10_no.cls = RX10 ∧ yX10_no.cls ≠ "java/lang/invoke/MethodHandle" ∧ yX10_no.cls ≠ "java/lang/invoke/VarHandle" ∧ (parseMethodDescriptor yX10_no.desc).map (fun d => d.parameters.length) = some 0 := by decide +kernel
def wp_X10_no (refused : Nat → Int32) (Post : Int32 → (Nat → Int32) → Prop) : Prop :=
  (∀ x_1 : Int32, x_1 = (refused 1) + 1 → (∀ f_2 : Nat → Int32, f_2 = upd refused 1 x_1 → Post (-3) f_2))
set_option maxHeartbeats 4000000 in
set_option maxRecDepth 100000 in
theorem c_X10_no (l : Launch) (D : va_G) (cI cB cZ cP cC : ClassId) (a_m a_m_told a_m_kept a_m_isKept a_m_refused a_m_months a_m_heirs a_m_lasts a_m_cares a_m_bestCares a_m_ones a_m_others a_m_bytes a_m_anew a_m_values : Nat) (above : Int64) (below : Int64) (retired : Int32) (manyLine : Int32) (bytesLong : Int32) (tokenAt : Int32) (tokenLong : Int32) (token : Int32) (value : Int32) (refused : Nat → Int32)  (sz : Nat) (Post : Int32 → (Nat → Int32) → Prop) (hw : wp_X10_no refused Post) :
    Met l yX10_no (Cond.code yX10_no cX10_no 1 (some .int) :: wsAll) rm_X10_no (va_Pc [.ref a_m] (mxP D (mxTy cI cB cZ cP cC) sz (ww_X10_no a_m a_m_told a_m_kept a_m_isKept a_m_refused a_m_months a_m_heirs a_m_lasts a_m_cares a_m_bestCares a_m_ones a_m_others a_m_bytes a_m_anew a_m_values cI cB cZ cP cC above below retired manyLine bytesLong tokenAt tokenLong token value refused))) (qq_X10_no D a_m a_m_told a_m_kept a_m_isKept a_m_refused a_m_months a_m_heirs a_m_lasts a_m_cares a_m_bestCares a_m_ones a_m_others a_m_bytes a_m_anew a_m_values cI cB cZ cP cC above below retired manyLine bytesLong tokenAt tokenLong token value Post (va_A (ww_X10_no a_m a_m_told a_m_kept a_m_isKept a_m_refused a_m_months a_m_heirs a_m_lasts a_m_cares a_m_bestCares a_m_ones a_m_others a_m_bytes a_m_anew a_m_values cI cB cZ cP cC above below retired manyLine bytesLong tokenAt tokenLong token value refused) sz)) 0 0 (va_A (ww_X10_no a_m a_m_told a_m_kept a_m_isKept a_m_refused a_m_months a_m_heirs a_m_lasts a_m_cares a_m_bestCares a_m_ones a_m_others a_m_bytes a_m_anew a_m_values cI cB cZ cP cC above below retired manyLine bytesLong tokenAt tokenLong token value refused) sz) := by
  refine mx_of (Qc := qq_X10_no D a_m a_m_told a_m_kept a_m_isKept a_m_refused a_m_months a_m_heirs a_m_lasts a_m_cares a_m_bestCares a_m_ones a_m_others a_m_bytes a_m_anew a_m_values cI cB cZ cP cC above below retired manyLine bytesLong tokenAt tokenLong token value Post) (by decide) (Nat.le_of_ble_eq_true rfl) ?_
  intro p e s m bl meth c A ls C0 hP hD hS hl
  replace C0 : mxC p s m [.ref a_m].toArray meth c cX10_no RX10 (some .int) 1 D (mxTy cI cB cZ cP cC) A := C0
  obtain ⟨hx, hb, hr, hlocks, hml, hown, hts, hK, hA⟩ := id C0
  replace hl : lv_has ls 1 [(0, .ref a_m)] := hl
  unfold wp_X10_no at hw
  refine lv_aload_n hx hb dX10_no_0 rfl (lv_at hl 0 rfl) ?_
  refine mx_get (ci := 10) (C := RX10) (T := TX10) (N := 23) hx hb hown in_wsX100 hts hK hP 0 rfl rfl 3 (by decide) q_94 rfl (v := .ref a_m_refused) rfl dX10_no_1 ?_
  refine lv_iconst (v := 1) hx hb dX10_no_4 (by decide) ?_
  refine lv_dup2_11 hx hb dX10_no_5 rfl rfl ?_
  refine mx_iald hx hb hK hP 1 0 rfl rfl (mx_lit rfl) (refused 1) rfl dX10_no_6 ?_
  refine lv_iconst (v := 1) hx hb dX10_no_7 (by decide) ?_
  refine lv_iadd hx hb dX10_no_8 ?_
  refine lv_topi (fun x_1 ex_1 => ?_)
  replace hw := hw x_1 ex_1
  obtain ⟨f_2, ef_2⟩ : ∃ y : Nat → Int32, y = upd refused 1 x_1 := ⟨_, rfl⟩
  replace hw := hw f_2 ef_2
  refine mx_iast hx hb hK hP hD hS 1 0 rfl rfl (mx_lit rfl) f_2 ef_2 (ww_X10_no a_m a_m_told a_m_kept a_m_isKept a_m_refused a_m_months a_m_heirs a_m_lasts a_m_cares a_m_bestCares a_m_ones a_m_others a_m_bytes a_m_anew a_m_values cI cB cZ cP cC above below retired manyLine bytesLong tokenAt tokenLong token value f_2) rfl dX10_no_9 (fun H locs hP hD hS => ?_)
  refine lv_bipush (v := (-3)) hx hb dX10_no_10 (by decide) ?_
  exact mx_iret f_2 hx hb hr hlocks rfl hw hK hP hD hS dX10_no_12
/-! PramStateModel.full()I -/
abbrev ww_X10_full (a_m a_m_told a_m_kept a_m_isKept a_m_refused a_m_months a_m_heirs a_m_lasts a_m_cares a_m_bestCares a_m_ones a_m_others a_m_bytes a_m_anew a_m_values : Nat) (cI cB cZ cP cC : ClassId) (above : Int64) (below : Int64) (retired : Int32) (manyLine : Int32) (bytesLong : Int32) (tokenAt : Int32) (tokenLong : Int32) (token : Int32) (value : Int32) (refused : Nat → Int32) : va_W := [(a_m, .inr (10, [.ref a_m_told, .ref a_m_kept, .ref a_m_isKept, .ref a_m_refused, .long above, .long below, .ref a_m_months, .int retired, .ref a_m_heirs, .ref a_m_lasts, .int manyLine, .ref a_m_cares, .ref a_m_bestCares, .ref a_m_ones, .ref a_m_others, .ref a_m_bytes, .int bytesLong, .int tokenAt, .int tokenLong, .int token, .int value, .ref a_m_anew, .ref a_m_values])), (a_m_refused, .inl (cI, 3, .inl refused))]
abbrev qq_X10_full (D : va_G) (a_m a_m_told a_m_kept a_m_isKept a_m_refused a_m_months a_m_heirs a_m_lasts a_m_cares a_m_bestCares a_m_ones a_m_others a_m_bytes a_m_anew a_m_values : Nat) (cI cB cZ cP cC : ClassId) (above : Int64) (below : Int64) (retired : Int32) (manyLine : Int32) (bytesLong : Int32) (tokenAt : Int32) (tokenLong : Int32) (token : Int32) (value : Int32) (Post : Int32 → (Nat → Int32) → Prop) (A : Nat → Prop) : Array Value → State → Outcome → State → Prop := va_Qi (fun (r : Int32) (u : (Nat → Int32)) => Post r u) (fun (u : (Nat → Int32)) t => mxB D (mxTy cI cB cZ cP cC) A (ww_X10_full a_m a_m_told a_m_kept a_m_isKept a_m_refused a_m_months a_m_heirs a_m_lasts a_m_cares a_m_bestCares a_m_ones a_m_others a_m_bytes a_m_anew a_m_values cI cB cZ cP cC above below retired manyLine bytesLong tokenAt tokenLong token value u) t) A
abbrev rm_X10_full : Room := { frames := 0, cells := 0, slots := 0, locals := 0 }
theorem hd_X10_full : yX10_full.cls = RX10 ∧ yX10_full.cls ≠ "java/lang/invoke/MethodHandle" ∧ yX10_full.cls ≠ "java/lang/invoke/VarHandle" ∧ (parseMethodDescriptor yX10_full.desc).map (fun d => d.parameters.length) = some 0 := by decide +kernel
def wp_X10_full (refused : Nat → Int32) (Post : Int32 → (Nat → Int32) → Prop) : Prop :=
  (∀ x_1 : Int32, x_1 = (refused 2) + 1 → (∀ f_2 : Nat → Int32, f_2 = upd refused 2 x_1 → Post (-4) f_2))
set_option maxHeartbeats 4000000 in
set_option maxRecDepth 100000 in
theorem c_X10_full (l : Launch) (D : va_G) (cI cB cZ cP cC : ClassId) (a_m a_m_told a_m_kept a_m_isKept a_m_refused a_m_months a_m_heirs a_m_lasts a_m_cares a_m_bestCares a_m_ones a_m_others a_m_bytes a_m_anew a_m_values : Nat) (above : Int64) (below : Int64) (retired : Int32) (manyLine : Int32) (bytesLong : Int32) (tokenAt : Int32) (tokenLong : Int32) (token : Int32) (value : Int32) (refused : Nat → Int32)  (sz : Nat) (Post : Int32 → (Nat → Int32) → Prop) (hw : wp_X10_full refused Post) :
    Met l yX10_full (Cond.code yX10_full cX10_full 1 (some .int) :: wsAll) rm_X10_full (va_Pc [.ref a_m] (mxP D (mxTy cI cB cZ cP cC) sz (ww_X10_full a_m a_m_told a_m_kept a_m_isKept a_m_refused a_m_months a_m_heirs a_m_lasts a_m_cares a_m_bestCares a_m_ones a_m_others a_m_bytes a_m_anew a_m_values cI cB cZ cP cC above below retired manyLine bytesLong tokenAt tokenLong token value refused))) (qq_X10_full D a_m a_m_told a_m_kept a_m_isKept a_m_refused a_m_months a_m_heirs a_m_lasts a_m_cares a_m_bestCares a_m_ones a_m_others a_m_bytes a_m_anew a_m_values cI cB cZ cP cC above below retired manyLine bytesLong tokenAt tokenLong token value Post (va_A (ww_X10_full a_m a_m_told a_m_kept a_m_isKept a_m_refused a_m_months a_m_heirs a_m_lasts a_m_cares a_m_bestCares a_m_ones a_m_others a_m_bytes a_m_anew a_m_values cI cB cZ cP cC above below retired manyLine bytesLong tokenAt tokenLong token value refused) sz)) 0 0 (va_A (ww_X10_full a_m a_m_told a_m_kept a_m_isKept a_m_refused a_m_months a_m_heirs a_m_lasts a_m_cares a_m_bestCares a_m_ones a_m_others a_m_bytes a_m_anew a_m_values cI cB cZ cP cC above below retired manyLine bytesLong tokenAt tokenLong token value refused) sz) := by
  refine mx_of (Qc := qq_X10_full D a_m a_m_told a_m_kept a_m_isKept a_m_refused a_m_months a_m_heirs a_m_lasts a_m_cares a_m_bestCares a_m_ones a_m_others a_m_bytes a_m_anew a_m_values cI cB cZ cP cC above below retired manyLine bytesLong tokenAt tokenLong token value Post) (by decide) (Nat.le_of_ble_eq_true rfl) ?_
  intro p e s m bl meth c A ls C0 hP hD hS hl
  replace C0 : mxC p s m [.ref a_m].toArray meth c cX10_full RX10 (some .int) 1 D (mxTy cI cB cZ cP cC) A := C0
  obtain ⟨hx, hb, hr, hlocks, hml, hown, hts, hK, hA⟩ := id C0
  replace hl : lv_has ls 1 [(0, .ref a_m)] := hl
  unfold wp_X10_full at hw
  refine lv_aload_n hx hb dX10_full_0 rfl (lv_at hl 0 rfl) ?_
  refine mx_get (ci := 10) (C := RX10) (T := TX10) (N := 23) hx hb hown in_wsX100 hts hK hP 0 rfl rfl 3 (by decide) q_94 rfl (v := .ref a_m_refused) rfl dX10_full_1 ?_
  refine lv_iconst (v := 2) hx hb dX10_full_4 (by decide) ?_
  refine lv_dup2_11 hx hb dX10_full_5 rfl rfl ?_
  refine mx_iald hx hb hK hP 1 0 rfl rfl (mx_lit rfl) (refused 2) rfl dX10_full_6 ?_
  refine lv_iconst (v := 1) hx hb dX10_full_7 (by decide) ?_
  refine lv_iadd hx hb dX10_full_8 ?_
  refine lv_topi (fun x_1 ex_1 => ?_)
  replace hw := hw x_1 ex_1
  obtain ⟨f_2, ef_2⟩ : ∃ y : Nat → Int32, y = upd refused 2 x_1 := ⟨_, rfl⟩
  replace hw := hw f_2 ef_2
  refine mx_iast hx hb hK hP hD hS 1 0 rfl rfl (mx_lit rfl) f_2 ef_2 (ww_X10_full a_m a_m_told a_m_kept a_m_isKept a_m_refused a_m_months a_m_heirs a_m_lasts a_m_cares a_m_bestCares a_m_ones a_m_others a_m_bytes a_m_anew a_m_values cI cB cZ cP cC above below retired manyLine bytesLong tokenAt tokenLong token value f_2) rfl dX10_full_9 (fun H locs hP hD hS => ?_)
  refine lv_bipush (v := (-4)) hx hb dX10_full_10 (by decide) ?_
  exact mx_iret f_2 hx hb hr hlocks rfl hw hK hP hD hS dX10_full_12
/-! PramStateModel.bits(I)I -/
abbrev ww_X10_bits (cI cB cZ cP cC : ClassId)  : va_W := []
abbrev qq_X10_bits (D : va_G) (cI cB cZ cP cC : ClassId)  (Post : Int32 → Prop) (A : Nat → Prop) : Array Value → State → Outcome → State → Prop := va_Qi (fun (r : Int32) (u : Unit) => Post r) (fun (u : Unit) t => mxB D (mxTy cI cB cZ cP cC) A (ww_X10_bits cI cB cZ cP cC) t) A
abbrev rm_X10_bits : Room := { frames := 0, cells := 0, slots := 0, locals := 0 }
theorem hd_X10_bits : yX10_bits.cls ≠ "java/lang/invoke/MethodHandle" ∧ yX10_bits.cls ≠ "java/lang/invoke/VarHandle" ∧ (parseMethodDescriptor yX10_bits.desc).map (fun d => d.parameters.length) = some 1 := by decide +kernel
def wp_X10_bits_L4  (Post : Int32 → Prop)  : Nat → Int32 → Int32 → Prop
  | 0, _, _ => False
  | n + 1, v1, v2 => ((v2 ≤ 0 → Post v1) ∧ (¬ v2 ≤ 0 → (∀ x_2 : Int32, x_2 = v1 + (v2 &&& 1) → (∀ x_3 : Int32, x_3 = v2 >>> (1 &&& 31) → wp_X10_bits_L4 Post  n x_2 x_3))))
set_option maxHeartbeats 4000000 in
set_option maxRecDepth 100000 in
theorem k_X10_bits_L4 {p : Program} {l : Launch} {e : Env} {s : State} {m : MethodId} {ar : Array Value} {bl : List Frame} {meth : Method} {c : Code} {D : va_G} {A : Nat → Prop} {cI cB cZ cP cC : ClassId} {Post : Int32 → Prop} (C0 : mxC p s m ar meth c cX10_bits RX10 (some .int) 3 D (mxTy cI cB cZ cP cC) A) :
    ∀ (n : Nat) (v1 : Int32) (v2 : Int32) (H : Heap) (locs : List Loc) (ls : Array Slot), va_P D vwCl (ww_X10_bits cI cB cZ cP cC) H → va_D A (ww_X10_bits cI cB cZ cP cC) → va_S A s.heap H locs → lv_has ls 3 [(1, .int v1), (2, .int v2)] → wp_X10_bits_L4 Post  n v1 v2 → W p l e rm_X10_bits s m ar bl meth c H locs 0 0 (MQ bl (qq_X10_bits D cI cB cZ cP cC Post A) ar s 0 0 A) (F0 m 4 ls []) := by
  obtain ⟨hx, hb, hr, hlocks, hml, hown, hts, hK, hA⟩ := id C0
  intro n
  induction n with
  | zero =>
    intro v1 v2 H locs ls hP hD hS hl hw
    exact absurd hw (fun h => h)
  | succ n ih =>
    intro v1 v2 H locs ls hP hD hS hl hw
    refine lv_iload_n hx hb dX10_bits_4 rfl (lv_at hl 1 rfl) ?_
    refine lv_if_le (tgt := 21) hx hb dX10_bits_5 (by decide) (fun c_1 => ?_) (fun c_1 => ?_)
    · replace hw := hw.1 c_1
      refine lv_iload_n hx hb dX10_bits_21 rfl (lv_at hl 0 rfl) ?_
      exact mx_iret () hx hb hr hlocks rfl hw hK hP hD hS dX10_bits_22
    · replace hw := hw.2 c_1
      refine lv_iload_n hx hb dX10_bits_8 rfl (lv_at hl 0 rfl) ?_
      refine lv_iload_n hx hb dX10_bits_9 rfl (lv_at hl 1 rfl) ?_
      refine lv_iconst (v := 1) hx hb dX10_bits_10 (by decide) ?_
      refine lv_iand hx hb dX10_bits_11 ?_
      refine lv_iadd hx hb dX10_bits_12 ?_
      refine lv_topi (fun x_2 ex_2 => ?_)
      replace hw := hw x_2 ex_2
      refine lv_istore_n (lv' := [(1, .int x_2), (2, .int v2)]) hx hb dX10_bits_13 rfl hl (by decide) rfl (fun ls hl => ?_)
      refine lv_iload_n hx hb dX10_bits_14 rfl (lv_at hl 1 rfl) ?_
      refine lv_iconst (v := 1) hx hb dX10_bits_15 (by decide) ?_
      refine lv_ishr hx hb dX10_bits_16 ?_
      refine lv_topi (fun x_3 ex_3 => ?_)
      replace hw := hw x_3 ex_3
      refine lv_istore_n (lv' := [(2, .int x_3), (1, .int x_2)]) hx hb dX10_bits_17 rfl hl (by decide) rfl (fun ls hl => ?_)
      refine lv_goto (tgt := 4) hx hb dX10_bits_18 (by decide) ?_
      exact ih x_2 x_3 _ _ _ hP hD hS (lv_sub hl [1, 0] rfl) hw
def wp_X10_bits (v0 : Int32) (Post : Int32 → Prop) : Prop :=
  (∃ k_4 : Nat, wp_X10_bits_L4 Post k_4 0 v0)
set_option maxHeartbeats 4000000 in
set_option maxRecDepth 100000 in
theorem c_X10_bits (l : Launch) (D : va_G) (cI cB cZ cP cC : ClassId)  (v0 : Int32) (sz : Nat) (Post : Int32 → Prop) (hw : wp_X10_bits v0 Post) :
    Met l yX10_bits (Cond.code yX10_bits cX10_bits 3 (some .int) :: wsAll) rm_X10_bits (va_Pc [.int v0] (mxP D (mxTy cI cB cZ cP cC) sz (ww_X10_bits cI cB cZ cP cC))) (qq_X10_bits D cI cB cZ cP cC Post (va_A (ww_X10_bits cI cB cZ cP cC) sz)) 0 0 (va_A (ww_X10_bits cI cB cZ cP cC) sz) := by
  refine mx_of (Qc := qq_X10_bits D cI cB cZ cP cC Post) (by decide) (Nat.le_of_ble_eq_true rfl) ?_
  intro p e s m bl meth c A ls C0 hP hD hS hl
  replace C0 : mxC p s m [.int v0].toArray meth c cX10_bits RX10 (some .int) 3 D (mxTy cI cB cZ cP cC) A := C0
  obtain ⟨hx, hb, hr, hlocks, hml, hown, hts, hK, hA⟩ := id C0
  replace hl : lv_has ls 3 [(0, .int v0)] := hl
  unfold wp_X10_bits at hw
  refine lv_iconst (v := 0) hx hb dX10_bits_0 (by decide) ?_
  refine lv_istore_n (lv' := [(1, .int 0), (0, .int v0)]) hx hb dX10_bits_1 rfl hl (by decide) rfl (fun ls hl => ?_)
  refine lv_iload_n hx hb dX10_bits_2 rfl (lv_at hl 1 rfl) ?_
  refine lv_istore_n (lv' := [(2, .int v0), (1, .int 0), (0, .int v0)]) hx hb dX10_bits_3 rfl hl (by decide) rfl (fun ls hl => ?_)
  obtain ⟨n0, hw⟩ := hw
  refine k_X10_bits_L4 C0  n0 0 v0 _ _ _ hP hD hS (lv_sub hl [1, 0] rfl) hw
/-! PramStateModel.has(II)Z -/
abbrev ww_X10_has (cI cB cZ cP cC : ClassId)  : va_W := []
abbrev qq_X10_has (D : va_G) (cI cB cZ cP cC : ClassId)  (Post : Int32 → Prop) (A : Nat → Prop) : Array Value → State → Outcome → State → Prop := va_Qi (fun (r : Int32) (u : Unit) => Post r) (fun (u : Unit) t => mxB D (mxTy cI cB cZ cP cC) A (ww_X10_has cI cB cZ cP cC) t) A
abbrev rm_X10_has : Room := { frames := 0, cells := 0, slots := 0, locals := 0 }
theorem hd_X10_has : yX10_has.cls ≠ "java/lang/invoke/MethodHandle" ∧ yX10_has.cls ≠ "java/lang/invoke/VarHandle" ∧ (parseMethodDescriptor yX10_has.desc).map (fun d => d.parameters.length) = some 2 := by decide +kernel
def wp_X10_has (v0 : Int32) (v1 : Int32) (Post : Int32 → Prop) : Prop :=
  ((((v0 >>> (v1 &&& 31)) &&& 1) = 1 → Post 1) ∧ (¬ ((v0 >>> (v1 &&& 31)) &&& 1) = 1 → Post 0))
set_option maxHeartbeats 4000000 in
set_option maxRecDepth 100000 in
theorem c_X10_has (l : Launch) (D : va_G) (cI cB cZ cP cC : ClassId)  (v0 : Int32) (v1 : Int32) (sz : Nat) (Post : Int32 → Prop) (hw : wp_X10_has v0 v1 Post) :
    Met l yX10_has (Cond.code yX10_has cX10_has 2 (some .boolean) :: wsAll) rm_X10_has (va_Pc [.int v0, .int v1] (mxP D (mxTy cI cB cZ cP cC) sz (ww_X10_has cI cB cZ cP cC))) (qq_X10_has D cI cB cZ cP cC Post (va_A (ww_X10_has cI cB cZ cP cC) sz)) 0 0 (va_A (ww_X10_has cI cB cZ cP cC) sz) := by
  refine mx_of (Qc := qq_X10_has D cI cB cZ cP cC Post) (by decide) (Nat.le_of_ble_eq_true rfl) ?_
  intro p e s m bl meth c A ls C0 hP hD hS hl
  replace C0 : mxC p s m [.int v0, .int v1].toArray meth c cX10_has RX10 (some .boolean) 2 D (mxTy cI cB cZ cP cC) A := C0
  obtain ⟨hx, hb, hr, hlocks, hml, hown, hts, hK, hA⟩ := id C0
  replace hl : lv_has ls 2 [(0, .int v0), (1, .int v1)] := hl
  unfold wp_X10_has at hw
  refine lv_iload_n hx hb dX10_has_0 rfl (lv_at hl 0 rfl) ?_
  refine lv_iload_n hx hb dX10_has_1 rfl (lv_at hl 1 rfl) ?_
  refine lv_ishr hx hb dX10_has_2 ?_
  refine lv_iconst (v := 1) hx hb dX10_has_3 (by decide) ?_
  refine lv_iand hx hb dX10_has_4 ?_
  refine lv_iconst (v := 1) hx hb dX10_has_5 (by decide) ?_
  refine lv_icmp_ne (tgt := 13) hx hb dX10_has_6 (by decide) (fun c_1 => ?_) (fun c_1 => ?_)
  · replace hw := hw.2 c_1
    refine lv_iconst (v := 0) hx hb dX10_has_13 (by decide) ?_
    exact mx_iret () hx hb hr hlocks rfl hw hK hP hD hS dX10_has_14
  · replace hw := hw.1 c_1
    refine lv_iconst (v := 1) hx hb dX10_has_9 (by decide) ?_
    refine lv_goto (tgt := 14) hx hb dX10_has_10 (by decide) ?_
    exact mx_iret () hx hb hr hlocks rfl hw hK hP hD hS dX10_has_14
/-! PramStateModel.begin([I)V -/
abbrev ww_X10_begin (a_v0 : Nat) (cI cB cZ cP cC : ClassId) (n_v0 : Nat) (row : Nat → Int32) : va_W := [(a_v0, .inl (cI, n_v0, .inl row))]
abbrev qq_X10_begin (D : va_G) (a_v0 : Nat) (cI cB cZ cP cC : ClassId) (n_v0 : Nat)  (Post : (Nat → Int32) → Prop) (A : Nat → Prop) : Array Value → State → Outcome → State → Prop := va_Qv (fun (u : (Nat → Int32)) => Post u) (fun (u : (Nat → Int32)) t => mxB D (mxTy cI cB cZ cP cC) A (ww_X10_begin a_v0 cI cB cZ cP cC n_v0 u) t) A
abbrev rm_X10_begin : Room := { frames := 0, cells := 0, slots := 0, locals := 0 }
theorem hd_X10_begin : yX10_begin.cls ≠ "java/lang/invoke/MethodHandle" ∧ yX10_begin.cls ≠ "java/lang/invoke/VarHandle" ∧ (parseMethodDescriptor yX10_begin.desc).map (fun d => d.parameters.length) = some 1 := by decide +kernel
def wp_X10_begin_L2 (n_v0 : Nat) (Post : (Nat → Int32) → Prop)  : Nat → Int32 → (Nat → Int32) → Prop
  | 0, _, _ => False
  | n + 1, v1, row => ((78 ≤ v1 → Post row) ∧ (¬ 78 ≤ v1 → (vp_in v1 n_v0 ∧ (∀ f_3 : Nat → Int32, f_3 = upd row v1.toNatClampNeg 0 → (∀ x_4 : Int32, x_4 = v1 + 1 → wp_X10_begin_L2 n_v0 Post  n x_4 f_3)))))
set_option maxHeartbeats 4000000 in
set_option maxRecDepth 100000 in
theorem k_X10_begin_L2 {p : Program} {l : Launch} {e : Env} {s : State} {m : MethodId} {ar : Array Value} {bl : List Frame} {meth : Method} {c : Code} {D : va_G} {A : Nat → Prop} {cI cB cZ cP cC : ClassId} {a_v0 : Nat} {n_v0 : Nat} {Post : (Nat → Int32) → Prop} (C0 : mxC p s m ar meth c cX10_begin RX10 none 2 D (mxTy cI cB cZ cP cC) A) :
    ∀ (n : Nat) (v1 : Int32) (row : Nat → Int32) (H : Heap) (locs : List Loc) (ls : Array Slot), va_P D vwCl (ww_X10_begin a_v0 cI cB cZ cP cC n_v0 row) H → va_D A (ww_X10_begin a_v0 cI cB cZ cP cC n_v0 row) → va_S A s.heap H locs → lv_has ls 2 [(0, .ref a_v0), (1, .int v1)] → wp_X10_begin_L2 n_v0 Post  n v1 row → W p l e rm_X10_begin s m ar bl meth c H locs 0 0 (MQ bl (qq_X10_begin D a_v0 cI cB cZ cP cC n_v0 Post A) ar s 0 0 A) (F0 m 2 ls []) := by
  obtain ⟨hx, hb, hr, hlocks, hml, hown, hts, hK, hA⟩ := id C0
  intro n
  induction n with
  | zero =>
    intro v1 row H locs ls hP hD hS hl hw
    exact absurd hw (fun h => h)
  | succ n ih =>
    intro v1 row H locs ls hP hD hS hl hw
    refine lv_iload_n hx hb dX10_begin_2 rfl (lv_at hl 1 rfl) ?_
    refine lv_bipush (v := 78) hx hb dX10_begin_3 (by decide) ?_
    refine lv_icmp_ge (tgt := 18) hx hb dX10_begin_5 (by decide) (fun c_1 => ?_) (fun c_1 => ?_)
    · replace hw := hw.1 c_1
      exact mx_vret row hx hb hr hlocks hw hK hP hD hS dX10_begin_18
    · replace hw := hw.2 c_1
      refine lv_aload_n hx hb dX10_begin_8 rfl (lv_at hl 0 rfl) ?_
      refine lv_iload_n hx hb dX10_begin_9 rfl (lv_at hl 1 rfl) ?_
      refine lv_iconst (v := 0) hx hb dX10_begin_10 (by decide) ?_
      obtain ⟨h_2, hw⟩ := hw
      obtain ⟨f_3, ef_3⟩ : ∃ y : Nat → Int32, y = upd row v1.toNatClampNeg 0 := ⟨_, rfl⟩
      replace hw := hw f_3 ef_3
      refine mx_iast hx hb hK hP hD hS 0 0 rfl rfl h_2 f_3 ef_3 (ww_X10_begin a_v0 cI cB cZ cP cC n_v0 f_3) rfl dX10_begin_11 (fun H locs hP hD hS => ?_)
      obtain ⟨x_4, ex_4⟩ : ∃ y : Int32, y = v1 + 1 := ⟨_, rfl⟩
      replace hw := hw x_4 ex_4
      refine lv_iinc (v := x_4) (lv' := [(1, .int x_4), (0, .ref a_v0)]) hx hb dX10_begin_12 hl (k := 1) rfl (by rw [ex_4]; rfl) (by decide) rfl (fun ls hl => ?_)
      refine lv_goto (tgt := 2) hx hb dX10_begin_15 (by decide) ?_
      exact ih x_4 f_3 _ _ _ hP hD hS (lv_sub hl [1, 0] rfl) hw
def wp_X10_begin (n_v0 : Nat) (row : Nat → Int32) (Post : (Nat → Int32) → Prop) : Prop :=
  (∃ k_5 : Nat, wp_X10_begin_L2 n_v0 Post k_5 0 row)
set_option maxHeartbeats 4000000 in
set_option maxRecDepth 100000 in
theorem c_X10_begin (l : Launch) (D : va_G) (cI cB cZ cP cC : ClassId) (a_v0 : Nat) (n_v0 : Nat) (row : Nat → Int32)  (sz : Nat) (Post : (Nat → Int32) → Prop) (hw : wp_X10_begin n_v0 row Post) :
    Met l yX10_begin (Cond.code yX10_begin cX10_begin 2 none :: wsAll) rm_X10_begin (va_Pc [.ref a_v0] (mxP D (mxTy cI cB cZ cP cC) sz (ww_X10_begin a_v0 cI cB cZ cP cC n_v0 row))) (qq_X10_begin D a_v0 cI cB cZ cP cC n_v0 Post (va_A (ww_X10_begin a_v0 cI cB cZ cP cC n_v0 row) sz)) 0 0 (va_A (ww_X10_begin a_v0 cI cB cZ cP cC n_v0 row) sz) := by
  refine mx_of (Qc := qq_X10_begin D a_v0 cI cB cZ cP cC n_v0 Post) (by decide) (Nat.le_of_ble_eq_true rfl) ?_
  intro p e s m bl meth c A ls C0 hP hD hS hl
  replace C0 : mxC p s m [.ref a_v0].toArray meth c cX10_begin RX10 none 2 D (mxTy cI cB cZ cP cC) A := C0
  obtain ⟨hx, hb, hr, hlocks, hml, hown, hts, hK, hA⟩ := id C0
  replace hl : lv_has ls 2 [(0, .ref a_v0)] := hl
  unfold wp_X10_begin at hw
  refine lv_iconst (v := 0) hx hb dX10_begin_0 (by decide) ?_
  refine lv_istore_n (lv' := [(1, .int 0), (0, .ref a_v0)]) hx hb dX10_begin_1 rfl hl (by decide) rfl (fun ls hl => ?_)
  obtain ⟨n0, hw⟩ := hw
  refine k_X10_begin_L2 C0  n0 0 row _ _ _ hP hD hS (lv_sub hl [1, 0] rfl) hw
/-! PramStateModel.many()I -/
abbrev ww_X10_many (a_m a_m_told a_m_kept a_m_isKept a_m_refused a_m_months a_m_heirs a_m_lasts a_m_cares a_m_bestCares a_m_ones a_m_others a_m_bytes a_m_anew a_m_values : Nat) (cI cB cZ cP cC : ClassId) (above : Int64) (below : Int64) (retired : Int32) (manyLine : Int32) (bytesLong : Int32) (tokenAt : Int32) (tokenLong : Int32) (token : Int32) (value : Int32) (told : Nat → Int32) : va_W := [(a_m, .inr (10, [.ref a_m_told, .ref a_m_kept, .ref a_m_isKept, .ref a_m_refused, .long above, .long below, .ref a_m_months, .int retired, .ref a_m_heirs, .ref a_m_lasts, .int manyLine, .ref a_m_cares, .ref a_m_bestCares, .ref a_m_ones, .ref a_m_others, .ref a_m_bytes, .int bytesLong, .int tokenAt, .int tokenLong, .int token, .int value, .ref a_m_anew, .ref a_m_values])), (a_m_told, .inl (cI, 190, .inl told))]
abbrev qq_X10_many (D : va_G) (a_m a_m_told a_m_kept a_m_isKept a_m_refused a_m_months a_m_heirs a_m_lasts a_m_cares a_m_bestCares a_m_ones a_m_others a_m_bytes a_m_anew a_m_values : Nat) (cI cB cZ cP cC : ClassId) (above : Int64) (below : Int64) (retired : Int32) (manyLine : Int32) (bytesLong : Int32) (tokenAt : Int32) (tokenLong : Int32) (token : Int32) (value : Int32) (told : Nat → Int32) (Post : Int32 → Prop) (A : Nat → Prop) : Array Value → State → Outcome → State → Prop := va_Qi (fun (r : Int32) (u : Unit) => Post r) (fun (u : Unit) t => mxB D (mxTy cI cB cZ cP cC) A (ww_X10_many a_m a_m_told a_m_kept a_m_isKept a_m_refused a_m_months a_m_heirs a_m_lasts a_m_cares a_m_bestCares a_m_ones a_m_others a_m_bytes a_m_anew a_m_values cI cB cZ cP cC above below retired manyLine bytesLong tokenAt tokenLong token value told) t) A
abbrev rm_X10_many : Room := { frames := 0, cells := 0, slots := 0, locals := 0 }
theorem hd_X10_many : yX10_many.cls = RX10 ∧ yX10_many.cls ≠ "java/lang/invoke/MethodHandle" ∧ yX10_many.cls ≠ "java/lang/invoke/VarHandle" ∧ (parseMethodDescriptor yX10_many.desc).map (fun d => d.parameters.length) = some 0 := by decide +kernel
def wp_X10_many (told : Nat → Int32) (Post : Int32 → Prop) : Prop :=
  Post (told 0)
set_option maxHeartbeats 4000000 in
set_option maxRecDepth 100000 in
theorem c_X10_many (l : Launch) (D : va_G) (cI cB cZ cP cC : ClassId) (a_m a_m_told a_m_kept a_m_isKept a_m_refused a_m_months a_m_heirs a_m_lasts a_m_cares a_m_bestCares a_m_ones a_m_others a_m_bytes a_m_anew a_m_values : Nat) (above : Int64) (below : Int64) (retired : Int32) (manyLine : Int32) (bytesLong : Int32) (tokenAt : Int32) (tokenLong : Int32) (token : Int32) (value : Int32) (told : Nat → Int32)  (sz : Nat) (Post : Int32 → Prop) (hw : wp_X10_many told Post) :
    Met l yX10_many (Cond.code yX10_many cX10_many 1 (some .int) :: wsAll) rm_X10_many (va_Pc [.ref a_m] (mxP D (mxTy cI cB cZ cP cC) sz (ww_X10_many a_m a_m_told a_m_kept a_m_isKept a_m_refused a_m_months a_m_heirs a_m_lasts a_m_cares a_m_bestCares a_m_ones a_m_others a_m_bytes a_m_anew a_m_values cI cB cZ cP cC above below retired manyLine bytesLong tokenAt tokenLong token value told))) (qq_X10_many D a_m a_m_told a_m_kept a_m_isKept a_m_refused a_m_months a_m_heirs a_m_lasts a_m_cares a_m_bestCares a_m_ones a_m_others a_m_bytes a_m_anew a_m_values cI cB cZ cP cC above below retired manyLine bytesLong tokenAt tokenLong token value told Post (va_A (ww_X10_many a_m a_m_told a_m_kept a_m_isKept a_m_refused a_m_months a_m_heirs a_m_lasts a_m_cares a_m_bestCares a_m_ones a_m_others a_m_bytes a_m_anew a_m_values cI cB cZ cP cC above below retired manyLine bytesLong tokenAt tokenLong token value told) sz)) 0 0 (va_A (ww_X10_many a_m a_m_told a_m_kept a_m_isKept a_m_refused a_m_months a_m_heirs a_m_lasts a_m_cares a_m_bestCares a_m_ones a_m_others a_m_bytes a_m_anew a_m_values cI cB cZ cP cC above below retired manyLine bytesLong tokenAt tokenLong token value told) sz) := by
  refine mx_of (Qc := qq_X10_many D a_m a_m_told a_m_kept a_m_isKept a_m_refused a_m_months a_m_heirs a_m_lasts a_m_cares a_m_bestCares a_m_ones a_m_others a_m_bytes a_m_anew a_m_values cI cB cZ cP cC above below retired manyLine bytesLong tokenAt tokenLong token value told Post) (by decide) (Nat.le_of_ble_eq_true rfl) ?_
  intro p e s m bl meth c A ls C0 hP hD hS hl
  replace C0 : mxC p s m [.ref a_m].toArray meth c cX10_many RX10 (some .int) 1 D (mxTy cI cB cZ cP cC) A := C0
  obtain ⟨hx, hb, hr, hlocks, hml, hown, hts, hK, hA⟩ := id C0
  replace hl : lv_has ls 1 [(0, .ref a_m)] := hl
  unfold wp_X10_many at hw
  refine lv_aload_n hx hb dX10_many_0 rfl (lv_at hl 0 rfl) ?_
  refine mx_get (ci := 10) (C := RX10) (T := TX10) (N := 23) hx hb hown in_wsX100 hts hK hP 0 rfl rfl 0 (by decide) q_91 rfl (v := .ref a_m_told) rfl dX10_many_1 ?_
  refine lv_iconst (v := 0) hx hb dX10_many_4 (by decide) ?_
  refine mx_iald hx hb hK hP 1 0 rfl rfl (mx_lit rfl) (told 0) rfl dX10_many_5 ?_
  exact mx_iret () hx hb hr hlocks rfl hw hK hP hD hS dX10_many_6
/-! PramStateModel.isInfant(I)Z -/
abbrev ww_X10_isInfant (a_m a_m_told a_m_kept a_m_isKept a_m_refused a_m_months a_m_heirs a_m_lasts a_m_cares a_m_bestCares a_m_ones a_m_others a_m_bytes a_m_anew a_m_values : Nat) (cI cB cZ cP cC : ClassId) (above : Int64) (below : Int64) (retired : Int32) (manyLine : Int32) (bytesLong : Int32) (tokenAt : Int32) (tokenLong : Int32) (token : Int32) (value : Int32) (told : Nat → Int32) : va_W := [(a_m, .inr (10, [.ref a_m_told, .ref a_m_kept, .ref a_m_isKept, .ref a_m_refused, .long above, .long below, .ref a_m_months, .int retired, .ref a_m_heirs, .ref a_m_lasts, .int manyLine, .ref a_m_cares, .ref a_m_bestCares, .ref a_m_ones, .ref a_m_others, .ref a_m_bytes, .int bytesLong, .int tokenAt, .int tokenLong, .int token, .int value, .ref a_m_anew, .ref a_m_values])), (a_m_told, .inl (cI, 190, .inl told))]
abbrev qq_X10_isInfant (D : va_G) (a_m a_m_told a_m_kept a_m_isKept a_m_refused a_m_months a_m_heirs a_m_lasts a_m_cares a_m_bestCares a_m_ones a_m_others a_m_bytes a_m_anew a_m_values : Nat) (cI cB cZ cP cC : ClassId) (above : Int64) (below : Int64) (retired : Int32) (manyLine : Int32) (bytesLong : Int32) (tokenAt : Int32) (tokenLong : Int32) (token : Int32) (value : Int32) (told : Nat → Int32) (Post : Int32 → Prop) (A : Nat → Prop) : Array Value → State → Outcome → State → Prop := va_Qi (fun (r : Int32) (u : Unit) => Post r) (fun (u : Unit) t => mxB D (mxTy cI cB cZ cP cC) A (ww_X10_isInfant a_m a_m_told a_m_kept a_m_isKept a_m_refused a_m_months a_m_heirs a_m_lasts a_m_cares a_m_bestCares a_m_ones a_m_others a_m_bytes a_m_anew a_m_values cI cB cZ cP cC above below retired manyLine bytesLong tokenAt tokenLong token value told) t) A
abbrev rm_X10_isInfant : Room := { frames := 1, cells := 0, slots := 0, locals := 25 }
theorem hd_X10_isInfant : yX10_isInfant.cls = RX10 ∧ yX10_isInfant.cls ≠ "java/lang/invoke/MethodHandle" ∧ yX10_isInfant.cls ≠ "java/lang/invoke/VarHandle" ∧ (parseMethodDescriptor yX10_isInfant.desc).map (fun d => d.parameters.length) = some 1 := by decide +kernel
def wp_X10_isInfant (told : Nat → Int32) (v1 : Int32) (Post : Int32 → Prop) : Prop :=
  (wp_X10_many told (fun r_1 => (wp_X10_in (v1.toInt64) 0 ((r_1 - 1).toInt64) (fun r_2 => ((r_2 = 0 ∨ r_2 = 1) ∧ Post r_2)))))
set_option maxHeartbeats 4000000 in
set_option maxRecDepth 100000 in
theorem c_X10_isInfant (l : Launch) (D : va_G) (cI cB cZ cP cC : ClassId) (a_m a_m_told a_m_kept a_m_isKept a_m_refused a_m_months a_m_heirs a_m_lasts a_m_cares a_m_bestCares a_m_ones a_m_others a_m_bytes a_m_anew a_m_values : Nat) (above : Int64) (below : Int64) (retired : Int32) (manyLine : Int32) (bytesLong : Int32) (tokenAt : Int32) (tokenLong : Int32) (token : Int32) (value : Int32) (told : Nat → Int32) (v1 : Int32) (sz : Nat) (Post : Int32 → Prop) (hw : wp_X10_isInfant told v1 Post) :
    Met l yX10_isInfant (Cond.code yX10_isInfant cX10_isInfant 2 (some .boolean) :: wsAll) rm_X10_isInfant (va_Pc [.ref a_m, .int v1] (mxP D (mxTy cI cB cZ cP cC) sz (ww_X10_isInfant a_m a_m_told a_m_kept a_m_isKept a_m_refused a_m_months a_m_heirs a_m_lasts a_m_cares a_m_bestCares a_m_ones a_m_others a_m_bytes a_m_anew a_m_values cI cB cZ cP cC above below retired manyLine bytesLong tokenAt tokenLong token value told))) (qq_X10_isInfant D a_m a_m_told a_m_kept a_m_isKept a_m_refused a_m_months a_m_heirs a_m_lasts a_m_cares a_m_bestCares a_m_ones a_m_others a_m_bytes a_m_anew a_m_values cI cB cZ cP cC above below retired manyLine bytesLong tokenAt tokenLong token value told Post (va_A (ww_X10_isInfant a_m a_m_told a_m_kept a_m_isKept a_m_refused a_m_months a_m_heirs a_m_lasts a_m_cares a_m_bestCares a_m_ones a_m_others a_m_bytes a_m_anew a_m_values cI cB cZ cP cC above below retired manyLine bytesLong tokenAt tokenLong token value told) sz)) 0 0 (va_A (ww_X10_isInfant a_m a_m_told a_m_kept a_m_isKept a_m_refused a_m_months a_m_heirs a_m_lasts a_m_cares a_m_bestCares a_m_ones a_m_others a_m_bytes a_m_anew a_m_values cI cB cZ cP cC above below retired manyLine bytesLong tokenAt tokenLong token value told) sz) := by
  refine mx_of (Qc := qq_X10_isInfant D a_m a_m_told a_m_kept a_m_isKept a_m_refused a_m_months a_m_heirs a_m_lasts a_m_cares a_m_bestCares a_m_ones a_m_others a_m_bytes a_m_anew a_m_values cI cB cZ cP cC above below retired manyLine bytesLong tokenAt tokenLong token value told Post) (by decide) (Nat.le_of_ble_eq_true rfl) ?_
  intro p e s m bl meth c A ls C0 hP hD hS hl
  replace C0 : mxC p s m [.ref a_m, .int v1].toArray meth c cX10_isInfant RX10 (some .boolean) 2 D (mxTy cI cB cZ cP cC) A := C0
  obtain ⟨hx, hb, hr, hlocks, hml, hown, hts, hK, hA⟩ := id C0
  replace hl : lv_has ls 2 [(0, .ref a_m), (1, .int v1)] := hl
  unfold wp_X10_isInfant at hw
  refine lv_iload_n hx hb dX10_isInfant_0 rfl (lv_at hl 1 rfl) ?_
  refine lv_i2l (v := v1.toInt64) hx hb dX10_isInfant_1 rfl ?_
  refine lv_lconst (v := 0) hx hb dX10_isInfant_2 rfl ?_
  refine lv_aload_n hx hb dX10_isInfant_3 rfl (lv_at hl 0 rfl) ?_
  refine mx_ki (mx_rV (rm := rm_X10_many) (rest := [.long 0, .long (v1.toInt64)]) (C := RX10) hx hb hml hown hts (c_X10_many l D cI cB cZ cP cC a_m a_m_told a_m_kept a_m_isKept a_m_refused a_m_months a_m_heirs a_m_lasts a_m_cares a_m_bestCares a_m_ones a_m_others a_m_bytes a_m_anew a_m_values above below retired manyLine bytesLong tokenAt tokenLong token value told _ _ hw) q_132 q_133 q_134 q_5 q_135 hd_X10_many ⟨(Nat.le_of_ble_eq_true rfl), (Nat.le_of_ble_eq_true rfl)⟩ rfl rfl hK hP hD [0, 1] rfl rfl 10 0 rfl rfl rfl rfl hl.1 rfl (Nat.le_of_ble_eq_true rfl) dX10_isInfant_4 ⟨(Nat.le_of_ble_eq_true rfl), (Nat.le_of_ble_eq_true rfl)⟩) hP hD hS hA [0, 1] [] [0, 1] (fun _ => ww_X10_isInfant a_m a_m_told a_m_kept a_m_isKept a_m_refused a_m_months a_m_heirs a_m_lasts a_m_cares a_m_bestCares a_m_ones a_m_others a_m_bytes a_m_anew a_m_values cI cB cZ cP cC above below retired manyLine bytesLong tokenAt tokenLong token value told) rfl rfl rfl (by decide) rfl (fun _ => rfl) (fun r_1 u H locs hw hP hD hS => ?_)
  try dsimp only at hw
  replace hP : va_P D vwCl (ww_X10_isInfant a_m a_m_told a_m_kept a_m_isKept a_m_refused a_m_months a_m_heirs a_m_lasts a_m_cares a_m_bestCares a_m_ones a_m_others a_m_bytes a_m_anew a_m_values cI cB cZ cP cC above below retired manyLine bytesLong tokenAt tokenLong token value told) H := hP
  replace hD : va_D A (ww_X10_isInfant a_m a_m_told a_m_kept a_m_isKept a_m_refused a_m_months a_m_heirs a_m_lasts a_m_cares a_m_bestCares a_m_ones a_m_others a_m_bytes a_m_anew a_m_values cI cB cZ cP cC above below retired manyLine bytesLong tokenAt tokenLong token value told) := hD
  refine lv_iconst (v := 1) hx hb dX10_isInfant_7 (by decide) ?_
  refine lv_isub hx hb dX10_isInfant_8 ?_
  refine lv_i2l (v := (r_1 - 1).toInt64) hx hb dX10_isInfant_9 rfl ?_
  refine mx_ki (mx_rS (rm := rm_X10_in) (rest := []) hx hb hml hown hts (c_X10_in l D cI cB cZ cP cC (v1.toInt64) 0 ((r_1 - 1).toInt64) _ _ hw) q_163 q_164 q_5 q_165 hd_X10_in ⟨(Nat.le_of_ble_eq_true rfl), (Nat.le_of_ble_eq_true rfl)⟩ rfl rfl hK hP hD [] rfl rfl rfl hl.1 rfl (Nat.le_of_ble_eq_true rfl) dX10_isInfant_10 ⟨(Nat.le_of_ble_eq_true rfl), (Nat.le_of_ble_eq_true rfl)⟩) hP hD hS hA [] [0, 1] [0, 1] (fun _ => ww_X10_isInfant a_m a_m_told a_m_kept a_m_isKept a_m_refused a_m_months a_m_heirs a_m_lasts a_m_cares a_m_bestCares a_m_ones a_m_others a_m_bytes a_m_anew a_m_values cI cB cZ cP cC above below retired manyLine bytesLong tokenAt tokenLong token value told) rfl rfl rfl (by decide) rfl (fun _ => rfl) (fun r_2 u H locs hw hP hD hS => ?_)
  try dsimp only at hw
  replace hP : va_P D vwCl (ww_X10_isInfant a_m a_m_told a_m_kept a_m_isKept a_m_refused a_m_months a_m_heirs a_m_lasts a_m_cares a_m_bestCares a_m_ones a_m_others a_m_bytes a_m_anew a_m_values cI cB cZ cP cC above below retired manyLine bytesLong tokenAt tokenLong token value told) H := hP
  replace hD : va_D A (ww_X10_isInfant a_m a_m_told a_m_kept a_m_isKept a_m_refused a_m_months a_m_heirs a_m_lasts a_m_cares a_m_bestCares a_m_ones a_m_others a_m_bytes a_m_anew a_m_values cI cB cZ cP cC above below retired manyLine bytesLong tokenAt tokenLong token value told) := hD
  obtain ⟨h_3, hw⟩ := hw
  exact mx_iret () hx hb hr hlocks (mx_narZ h_3) hw hK hP hD hS dX10_isInfant_13
/-! PramStateModel.isNurse(I)Z -/
abbrev ww_X10_isNurse (cI cB cZ cP cC : ClassId)  : va_W := []
abbrev qq_X10_isNurse (D : va_G) (cI cB cZ cP cC : ClassId)  (Post : Int32 → Prop) (A : Nat → Prop) : Array Value → State → Outcome → State → Prop := va_Qi (fun (r : Int32) (u : Unit) => Post r) (fun (u : Unit) t => mxB D (mxTy cI cB cZ cP cC) A (ww_X10_isNurse cI cB cZ cP cC) t) A
abbrev rm_X10_isNurse : Room := { frames := 1, cells := 0, slots := 0, locals := 25 }
theorem hd_X10_isNurse : yX10_isNurse.cls ≠ "java/lang/invoke/MethodHandle" ∧ yX10_isNurse.cls ≠ "java/lang/invoke/VarHandle" ∧ (parseMethodDescriptor yX10_isNurse.desc).map (fun d => d.parameters.length) = some 1 := by decide +kernel
def wp_X10_isNurse (v0 : Int32) (Post : Int32 → Prop) : Prop :=
  (wp_X10_in (v0.toInt64) 0 5 (fun r_1 => ((r_1 = 0 ∨ r_1 = 1) ∧ Post r_1)))
set_option maxHeartbeats 4000000 in
set_option maxRecDepth 100000 in
theorem c_X10_isNurse (l : Launch) (D : va_G) (cI cB cZ cP cC : ClassId)  (v0 : Int32) (sz : Nat) (Post : Int32 → Prop) (hw : wp_X10_isNurse v0 Post) :
    Met l yX10_isNurse (Cond.code yX10_isNurse cX10_isNurse 1 (some .boolean) :: wsAll) rm_X10_isNurse (va_Pc [.int v0] (mxP D (mxTy cI cB cZ cP cC) sz (ww_X10_isNurse cI cB cZ cP cC))) (qq_X10_isNurse D cI cB cZ cP cC Post (va_A (ww_X10_isNurse cI cB cZ cP cC) sz)) 0 0 (va_A (ww_X10_isNurse cI cB cZ cP cC) sz) := by
  refine mx_of (Qc := qq_X10_isNurse D cI cB cZ cP cC Post) (by decide) (Nat.le_of_ble_eq_true rfl) ?_
  intro p e s m bl meth c A ls C0 hP hD hS hl
  replace C0 : mxC p s m [.int v0].toArray meth c cX10_isNurse RX10 (some .boolean) 1 D (mxTy cI cB cZ cP cC) A := C0
  obtain ⟨hx, hb, hr, hlocks, hml, hown, hts, hK, hA⟩ := id C0
  replace hl : lv_has ls 1 [(0, .int v0)] := hl
  unfold wp_X10_isNurse at hw
  refine lv_iload_n hx hb dX10_isNurse_0 rfl (lv_at hl 0 rfl) ?_
  refine lv_i2l (v := v0.toInt64) hx hb dX10_isNurse_1 rfl ?_
  refine lv_lconst (v := 0) hx hb dX10_isNurse_2 rfl ?_
  refine lv_ldc2 (v := 5) hx hb hown (hts _ q_161) dX10_isNurse_3 ?_
  refine mx_ki (mx_rS (rm := rm_X10_in) (rest := []) hx hb hml hown hts (c_X10_in l D cI cB cZ cP cC (v0.toInt64) 0 5 _ _ hw) q_163 q_164 q_5 q_165 hd_X10_in ⟨(Nat.le_of_ble_eq_true rfl), (Nat.le_of_ble_eq_true rfl)⟩ rfl rfl hK hP hD [] rfl rfl rfl hl.1 rfl (Nat.le_of_ble_eq_true rfl) dX10_isNurse_6 ⟨(Nat.le_of_ble_eq_true rfl), (Nat.le_of_ble_eq_true rfl)⟩) hP hD hS hA [] [] [] (fun _ => ww_X10_isNurse cI cB cZ cP cC) rfl rfl rfl (by decide) rfl (fun _ => rfl) (fun r_1 u H locs hw hP hD hS => ?_)
  try dsimp only at hw
  replace hP : va_P D vwCl (ww_X10_isNurse cI cB cZ cP cC) H := hP
  replace hD : va_D A (ww_X10_isNurse cI cB cZ cP cC) := hD
  obtain ⟨h_2, hw⟩ := hw
  exact mx_iret () hx hb hr hlocks (mx_narZ h_2) hw hK hP hD hS dX10_isNurse_9
/-! PramStateModel.isHour(I)Z -/
abbrev ww_X10_isHour (cI cB cZ cP cC : ClassId)  : va_W := []
abbrev qq_X10_isHour (D : va_G) (cI cB cZ cP cC : ClassId)  (Post : Int32 → Prop) (A : Nat → Prop) : Array Value → State → Outcome → State → Prop := va_Qi (fun (r : Int32) (u : Unit) => Post r) (fun (u : Unit) t => mxB D (mxTy cI cB cZ cP cC) A (ww_X10_isHour cI cB cZ cP cC) t) A
abbrev rm_X10_isHour : Room := { frames := 1, cells := 0, slots := 0, locals := 25 }
theorem hd_X10_isHour : yX10_isHour.cls ≠ "java/lang/invoke/MethodHandle" ∧ yX10_isHour.cls ≠ "java/lang/invoke/VarHandle" ∧ (parseMethodDescriptor yX10_isHour.desc).map (fun d => d.parameters.length) = some 1 := by decide +kernel
def wp_X10_isHour (v0 : Int32) (Post : Int32 → Prop) : Prop :=
  (wp_X10_in (v0.toInt64) 0 23 (fun r_1 => ((r_1 = 0 ∨ r_1 = 1) ∧ Post r_1)))
set_option maxHeartbeats 4000000 in
set_option maxRecDepth 100000 in
theorem c_X10_isHour (l : Launch) (D : va_G) (cI cB cZ cP cC : ClassId)  (v0 : Int32) (sz : Nat) (Post : Int32 → Prop) (hw : wp_X10_isHour v0 Post) :
    Met l yX10_isHour (Cond.code yX10_isHour cX10_isHour 1 (some .boolean) :: wsAll) rm_X10_isHour (va_Pc [.int v0] (mxP D (mxTy cI cB cZ cP cC) sz (ww_X10_isHour cI cB cZ cP cC))) (qq_X10_isHour D cI cB cZ cP cC Post (va_A (ww_X10_isHour cI cB cZ cP cC) sz)) 0 0 (va_A (ww_X10_isHour cI cB cZ cP cC) sz) := by
  refine mx_of (Qc := qq_X10_isHour D cI cB cZ cP cC Post) (by decide) (Nat.le_of_ble_eq_true rfl) ?_
  intro p e s m bl meth c A ls C0 hP hD hS hl
  replace C0 : mxC p s m [.int v0].toArray meth c cX10_isHour RX10 (some .boolean) 1 D (mxTy cI cB cZ cP cC) A := C0
  obtain ⟨hx, hb, hr, hlocks, hml, hown, hts, hK, hA⟩ := id C0
  replace hl : lv_has ls 1 [(0, .int v0)] := hl
  unfold wp_X10_isHour at hw
  refine lv_iload_n hx hb dX10_isHour_0 rfl (lv_at hl 0 rfl) ?_
  refine lv_i2l (v := v0.toInt64) hx hb dX10_isHour_1 rfl ?_
  refine lv_lconst (v := 0) hx hb dX10_isHour_2 rfl ?_
  refine lv_ldc2 (v := 23) hx hb hown (hts _ q_603) dX10_isHour_3 ?_
  refine mx_ki (mx_rS (rm := rm_X10_in) (rest := []) hx hb hml hown hts (c_X10_in l D cI cB cZ cP cC (v0.toInt64) 0 23 _ _ hw) q_163 q_164 q_5 q_165 hd_X10_in ⟨(Nat.le_of_ble_eq_true rfl), (Nat.le_of_ble_eq_true rfl)⟩ rfl rfl hK hP hD [] rfl rfl rfl hl.1 rfl (Nat.le_of_ble_eq_true rfl) dX10_isHour_6 ⟨(Nat.le_of_ble_eq_true rfl), (Nat.le_of_ble_eq_true rfl)⟩) hP hD hS hA [] [] [] (fun _ => ww_X10_isHour cI cB cZ cP cC) rfl rfl rfl (by decide) rfl (fun _ => rfl) (fun r_1 u H locs hw hP hD hS => ?_)
  try dsimp only at hw
  replace hP : va_P D vwCl (ww_X10_isHour cI cB cZ cP cC) H := hP
  replace hD : va_D A (ww_X10_isHour cI cB cZ cP cC) := hD
  obtain ⟨h_2, hw⟩ := hw
  exact mx_iret () hx hb hr hlocks (mx_narZ h_2) hw hK hP hD hS dX10_isHour_9
/-! PramStateModel.court()I -/
abbrev ww_X10_court (a_m a_m_told a_m_kept a_m_isKept a_m_refused a_m_months a_m_heirs a_m_lasts a_m_cares a_m_bestCares a_m_ones a_m_others a_m_bytes a_m_anew a_m_values : Nat) (cI cB cZ cP cC : ClassId) (above : Int64) (below : Int64) (retired : Int32) (manyLine : Int32) (bytesLong : Int32) (tokenAt : Int32) (tokenLong : Int32) (token : Int32) (value : Int32) (told : Nat → Int32) : va_W := [(a_m, .inr (10, [.ref a_m_told, .ref a_m_kept, .ref a_m_isKept, .ref a_m_refused, .long above, .long below, .ref a_m_months, .int retired, .ref a_m_heirs, .ref a_m_lasts, .int manyLine, .ref a_m_cares, .ref a_m_bestCares, .ref a_m_ones, .ref a_m_others, .ref a_m_bytes, .int bytesLong, .int tokenAt, .int tokenLong, .int token, .int value, .ref a_m_anew, .ref a_m_values])), (a_m_told, .inl (cI, 190, .inl told))]
abbrev qq_X10_court (D : va_G) (a_m a_m_told a_m_kept a_m_isKept a_m_refused a_m_months a_m_heirs a_m_lasts a_m_cares a_m_bestCares a_m_ones a_m_others a_m_bytes a_m_anew a_m_values : Nat) (cI cB cZ cP cC : ClassId) (above : Int64) (below : Int64) (retired : Int32) (manyLine : Int32) (bytesLong : Int32) (tokenAt : Int32) (tokenLong : Int32) (token : Int32) (value : Int32) (Post : Int32 → (Nat → Int32) → Prop) (A : Nat → Prop) : Array Value → State → Outcome → State → Prop := va_Qi (fun (r : Int32) (u : (Nat → Int32)) => Post r u) (fun (u : (Nat → Int32)) t => mxB D (mxTy cI cB cZ cP cC) A (ww_X10_court a_m a_m_told a_m_kept a_m_isKept a_m_refused a_m_months a_m_heirs a_m_lasts a_m_cares a_m_bestCares a_m_ones a_m_others a_m_bytes a_m_anew a_m_values cI cB cZ cP cC above below retired manyLine bytesLong tokenAt tokenLong token value u) t) A
abbrev rm_X10_court : Room := { frames := 1, cells := 0, slots := 0, locals := 21 }
theorem hd_X10_court : yX10_court.cls = RX10 ∧ yX10_court.cls ≠ "java/lang/invoke/MethodHandle" ∧ yX10_court.cls ≠ "java/lang/invoke/VarHandle" ∧ (parseMethodDescriptor yX10_court.desc).map (fun d => d.parameters.length) = some 0 := by decide +kernel
def wp_X10_court (told : Nat → Int32) (Post : Int32 → (Nat → Int32) → Prop) : Prop :=
  (wp_X10_many told (fun r_1 => (wp_X10_begin 190 told (fun told_2 => Post r_1 told_2))))
set_option maxHeartbeats 4000000 in
set_option maxRecDepth 100000 in
theorem c_X10_court (l : Launch) (D : va_G) (cI cB cZ cP cC : ClassId) (a_m a_m_told a_m_kept a_m_isKept a_m_refused a_m_months a_m_heirs a_m_lasts a_m_cares a_m_bestCares a_m_ones a_m_others a_m_bytes a_m_anew a_m_values : Nat) (above : Int64) (below : Int64) (retired : Int32) (manyLine : Int32) (bytesLong : Int32) (tokenAt : Int32) (tokenLong : Int32) (token : Int32) (value : Int32) (told : Nat → Int32)  (sz : Nat) (Post : Int32 → (Nat → Int32) → Prop) (hw : wp_X10_court told Post) :
    Met l yX10_court (Cond.code yX10_court cX10_court 2 (some .int) :: wsAll) rm_X10_court (va_Pc [.ref a_m] (mxP D (mxTy cI cB cZ cP cC) sz (ww_X10_court a_m a_m_told a_m_kept a_m_isKept a_m_refused a_m_months a_m_heirs a_m_lasts a_m_cares a_m_bestCares a_m_ones a_m_others a_m_bytes a_m_anew a_m_values cI cB cZ cP cC above below retired manyLine bytesLong tokenAt tokenLong token value told))) (qq_X10_court D a_m a_m_told a_m_kept a_m_isKept a_m_refused a_m_months a_m_heirs a_m_lasts a_m_cares a_m_bestCares a_m_ones a_m_others a_m_bytes a_m_anew a_m_values cI cB cZ cP cC above below retired manyLine bytesLong tokenAt tokenLong token value Post (va_A (ww_X10_court a_m a_m_told a_m_kept a_m_isKept a_m_refused a_m_months a_m_heirs a_m_lasts a_m_cares a_m_bestCares a_m_ones a_m_others a_m_bytes a_m_anew a_m_values cI cB cZ cP cC above below retired manyLine bytesLong tokenAt tokenLong token value told) sz)) 0 0 (va_A (ww_X10_court a_m a_m_told a_m_kept a_m_isKept a_m_refused a_m_months a_m_heirs a_m_lasts a_m_cares a_m_bestCares a_m_ones a_m_others a_m_bytes a_m_anew a_m_values cI cB cZ cP cC above below retired manyLine bytesLong tokenAt tokenLong token value told) sz) := by
  refine mx_of (Qc := qq_X10_court D a_m a_m_told a_m_kept a_m_isKept a_m_refused a_m_months a_m_heirs a_m_lasts a_m_cares a_m_bestCares a_m_ones a_m_others a_m_bytes a_m_anew a_m_values cI cB cZ cP cC above below retired manyLine bytesLong tokenAt tokenLong token value Post) (by decide) (Nat.le_of_ble_eq_true rfl) ?_
  intro p e s m bl meth c A ls C0 hP hD hS hl
  replace C0 : mxC p s m [.ref a_m].toArray meth c cX10_court RX10 (some .int) 2 D (mxTy cI cB cZ cP cC) A := C0
  obtain ⟨hx, hb, hr, hlocks, hml, hown, hts, hK, hA⟩ := id C0
  replace hl : lv_has ls 2 [(0, .ref a_m)] := hl
  unfold wp_X10_court at hw
  refine lv_aload_n hx hb dX10_court_0 rfl (lv_at hl 0 rfl) ?_
  refine mx_ki (mx_rV (rm := rm_X10_many) (rest := []) (C := RX10) hx hb hml hown hts (c_X10_many l D cI cB cZ cP cC a_m a_m_told a_m_kept a_m_isKept a_m_refused a_m_months a_m_heirs a_m_lasts a_m_cares a_m_bestCares a_m_ones a_m_others a_m_bytes a_m_anew a_m_values above below retired manyLine bytesLong tokenAt tokenLong token value told _ _ hw) q_132 q_133 q_134 q_5 q_135 hd_X10_many ⟨(Nat.le_of_ble_eq_true rfl), (Nat.le_of_ble_eq_true rfl)⟩ rfl rfl hK hP hD [0, 1] rfl rfl 10 0 rfl rfl rfl rfl hl.1 rfl (Nat.le_of_ble_eq_true rfl) dX10_court_1 ⟨(Nat.le_of_ble_eq_true rfl), (Nat.le_of_ble_eq_true rfl)⟩) hP hD hS hA [0, 1] [] [0, 1] (fun _ => ww_X10_court a_m a_m_told a_m_kept a_m_isKept a_m_refused a_m_months a_m_heirs a_m_lasts a_m_cares a_m_bestCares a_m_ones a_m_others a_m_bytes a_m_anew a_m_values cI cB cZ cP cC above below retired manyLine bytesLong tokenAt tokenLong token value told) rfl rfl rfl (by decide) rfl (fun _ => rfl) (fun r_1 u H locs hw hP hD hS => ?_)
  try dsimp only at hw
  replace hP : va_P D vwCl (ww_X10_court a_m a_m_told a_m_kept a_m_isKept a_m_refused a_m_months a_m_heirs a_m_lasts a_m_cares a_m_bestCares a_m_ones a_m_others a_m_bytes a_m_anew a_m_values cI cB cZ cP cC above below retired manyLine bytesLong tokenAt tokenLong token value told) H := hP
  replace hD : va_D A (ww_X10_court a_m a_m_told a_m_kept a_m_isKept a_m_refused a_m_months a_m_heirs a_m_lasts a_m_cares a_m_bestCares a_m_ones a_m_others a_m_bytes a_m_anew a_m_values cI cB cZ cP cC above below retired manyLine bytesLong tokenAt tokenLong token value told) := hD
  refine lv_istore_n (lv' := [(1, .int r_1), (0, .ref a_m)]) hx hb dX10_court_4 rfl hl (by decide) rfl (fun ls hl => ?_)
  refine lv_aload_n hx hb dX10_court_5 rfl (lv_at hl 1 rfl) ?_
  refine mx_get (ci := 10) (C := RX10) (T := TX10) (N := 23) hx hb hown in_wsX100 hts hK hP 0 rfl rfl 0 (by decide) q_91 rfl (v := .ref a_m_told) rfl dX10_court_6 ?_
  refine mx_kv (mx_rS (rm := rm_X10_begin) (rest := []) hx hb hml hown hts (c_X10_begin l D cI cB cZ cP cC a_m_told 190 told _ _ hw) q_106 q_107 q_5 q_108 hd_X10_begin ⟨(Nat.le_of_ble_eq_true rfl), (Nat.le_of_ble_eq_true rfl)⟩ rfl rfl hK hP hD [1] rfl rfl rfl hl.1 rfl (Nat.le_of_ble_eq_true rfl) dX10_court_9 ⟨(Nat.le_of_ble_eq_true rfl), (Nat.le_of_ble_eq_true rfl)⟩) hP hD hS hA [1] [0] [0, 1] (fun u => ww_X10_court a_m a_m_told a_m_kept a_m_isKept a_m_refused a_m_months a_m_heirs a_m_lasts a_m_cares a_m_bestCares a_m_ones a_m_others a_m_bytes a_m_anew a_m_values cI cB cZ cP cC above below retired manyLine bytesLong tokenAt tokenLong token value u) rfl rfl rfl (by decide) rfl (fun _ => rfl) (fun told_2 H locs hw hP hD hS => ?_)
  try dsimp only at hw
  replace hP : va_P D vwCl (ww_X10_court a_m a_m_told a_m_kept a_m_isKept a_m_refused a_m_months a_m_heirs a_m_lasts a_m_cares a_m_bestCares a_m_ones a_m_others a_m_bytes a_m_anew a_m_values cI cB cZ cP cC above below retired manyLine bytesLong tokenAt tokenLong token value told_2) H := hP
  replace hD : va_D A (ww_X10_court a_m a_m_told a_m_kept a_m_isKept a_m_refused a_m_months a_m_heirs a_m_lasts a_m_cares a_m_bestCares a_m_ones a_m_others a_m_bytes a_m_anew a_m_values cI cB cZ cP cC above below retired manyLine bytesLong tokenAt tokenLong token value told_2) := hD
  refine lv_iload_n hx hb dX10_court_12 rfl (lv_at hl 0 rfl) ?_
  exact mx_iret told_2 hx hb hr hlocks rfl hw hK hP hD hS dX10_court_13
/-! PramStateModel.layInfant([IIII)V -/
abbrev ww_X10_layInfant (a_v0 : Nat) (cI cB cZ cP cC : ClassId) (n_v0 : Nat) (row : Nat → Int32) : va_W := [(a_v0, .inl (cI, n_v0, .inl row))]
abbrev qq_X10_layInfant (D : va_G) (a_v0 : Nat) (cI cB cZ cP cC : ClassId) (n_v0 : Nat)  (Post : (Nat → Int32) → Prop) (A : Nat → Prop) : Array Value → State → Outcome → State → Prop := va_Qv (fun (u : (Nat → Int32)) => Post u) (fun (u : (Nat → Int32)) t => mxB D (mxTy cI cB cZ cP cC) A (ww_X10_layInfant a_v0 cI cB cZ cP cC n_v0 u) t) A
abbrev rm_X10_layInfant : Room := { frames := 0, cells := 0, slots := 0, locals := 0 }
theorem hd_X10_layInfant : yX10_layInfant.cls ≠ "java/lang/invoke/MethodHandle" ∧ yX10_layInfant.cls ≠ "java/lang/invoke/VarHandle" ∧ (parseMethodDescriptor yX10_layInfant.desc).map (fun d => d.parameters.length) = some 4 := by decide +kernel
def wp_X10_layInfant (n_v0 : Nat) (row : Nat → Int32) (v1 : Int32) (v2 : Int32) (v3 : Int32) (Post : (Nat → Int32) → Prop) : Prop :=
  (vp_in 0 n_v0 ∧ (∀ x_2 : Int32, x_2 = row 0 → (vp_in (24 + x_2) n_v0 ∧ (∀ f_4 : Nat → Int32, f_4 = upd row (24 + x_2).toNatClampNeg v1 → (vp_in (4 + x_2) n_v0 ∧ (∀ f_6 : Nat → Int32, f_6 = upd f_4 (4 + x_2).toNatClampNeg v2 → (vp_in (30 + x_2) n_v0 ∧ (∀ f_8 : Nat → Int32, f_8 = upd f_6 (30 + x_2).toNatClampNeg v3 → (vp_in (11 + x_2) n_v0 ∧ (∀ f_10 : Nat → Int32, f_10 = upd f_8 (11 + x_2).toNatClampNeg x_2 → (∀ x_11 : Int32, x_11 = (f_10 0) + 1 → (∀ f_12 : Nat → Int32, f_12 = upd f_10 0 x_11 → Post f_12))))))))))))
set_option maxHeartbeats 4000000 in
set_option maxRecDepth 100000 in
theorem c_X10_layInfant (l : Launch) (D : va_G) (cI cB cZ cP cC : ClassId) (a_v0 : Nat) (n_v0 : Nat) (row : Nat → Int32) (v1 : Int32) (v2 : Int32) (v3 : Int32) (sz : Nat) (Post : (Nat → Int32) → Prop) (hw : wp_X10_layInfant n_v0 row v1 v2 v3 Post) :
    Met l yX10_layInfant (Cond.code yX10_layInfant cX10_layInfant 5 none :: wsAll) rm_X10_layInfant (va_Pc [.ref a_v0, .int v1, .int v2, .int v3] (mxP D (mxTy cI cB cZ cP cC) sz (ww_X10_layInfant a_v0 cI cB cZ cP cC n_v0 row))) (qq_X10_layInfant D a_v0 cI cB cZ cP cC n_v0 Post (va_A (ww_X10_layInfant a_v0 cI cB cZ cP cC n_v0 row) sz)) 0 0 (va_A (ww_X10_layInfant a_v0 cI cB cZ cP cC n_v0 row) sz) := by
  refine mx_of (Qc := qq_X10_layInfant D a_v0 cI cB cZ cP cC n_v0 Post) (by decide) (Nat.le_of_ble_eq_true rfl) ?_
  intro p e s m bl meth c A ls C0 hP hD hS hl
  replace C0 : mxC p s m [.ref a_v0, .int v1, .int v2, .int v3].toArray meth c cX10_layInfant RX10 none 5 D (mxTy cI cB cZ cP cC) A := C0
  obtain ⟨hx, hb, hr, hlocks, hml, hown, hts, hK, hA⟩ := id C0
  replace hl : lv_has ls 5 [(0, .ref a_v0), (1, .int v1), (2, .int v2), (3, .int v3)] := hl
  unfold wp_X10_layInfant at hw
  refine lv_aload_n hx hb dX10_layInfant_0 rfl (lv_at hl 0 rfl) ?_
  refine lv_iconst (v := 0) hx hb dX10_layInfant_1 (by decide) ?_
  obtain ⟨h_1, hw⟩ := hw
  refine mx_iald hx hb hK hP 0 0 rfl rfl h_1 (row 0) rfl dX10_layInfant_2 ?_
  refine lv_topi (fun x_2 ex_2 => ?_)
  replace hw := hw x_2 ex_2
  refine lv_istore (lv' := [(4, .int x_2), (0, .ref a_v0), (1, .int v1), (2, .int v2), (3, .int v3)]) hx hb dX10_layInfant_3 hl (by decide) rfl (fun ls hl => ?_)
  refine lv_aload_n hx hb dX10_layInfant_5 rfl (lv_at hl 1 rfl) ?_
  refine lv_bipush (v := 24) hx hb dX10_layInfant_6 (by decide) ?_
  refine lv_iload hx hb dX10_layInfant_8 (lv_at hl 0 rfl) ?_
  refine lv_iadd hx hb dX10_layInfant_10 ?_
  refine lv_iload_n hx hb dX10_layInfant_11 rfl (lv_at hl 2 rfl) ?_
  obtain ⟨h_3, hw⟩ := hw
  obtain ⟨f_4, ef_4⟩ : ∃ y : Nat → Int32, y = upd row (24 + x_2).toNatClampNeg v1 := ⟨_, rfl⟩
  replace hw := hw f_4 ef_4
  refine mx_iast hx hb hK hP hD hS 0 0 rfl rfl h_3 f_4 ef_4 (ww_X10_layInfant a_v0 cI cB cZ cP cC n_v0 f_4) rfl dX10_layInfant_12 (fun H locs hP hD hS => ?_)
  refine lv_aload_n hx hb dX10_layInfant_13 rfl (lv_at hl 1 rfl) ?_
  refine lv_iconst (v := 4) hx hb dX10_layInfant_14 (by decide) ?_
  refine lv_iload hx hb dX10_layInfant_15 (lv_at hl 0 rfl) ?_
  refine lv_iadd hx hb dX10_layInfant_17 ?_
  refine lv_iload_n hx hb dX10_layInfant_18 rfl (lv_at hl 3 rfl) ?_
  obtain ⟨h_5, hw⟩ := hw
  obtain ⟨f_6, ef_6⟩ : ∃ y : Nat → Int32, y = upd f_4 (4 + x_2).toNatClampNeg v2 := ⟨_, rfl⟩
  replace hw := hw f_6 ef_6
  refine mx_iast hx hb hK hP hD hS 0 0 rfl rfl h_5 f_6 ef_6 (ww_X10_layInfant a_v0 cI cB cZ cP cC n_v0 f_6) rfl dX10_layInfant_19 (fun H locs hP hD hS => ?_)
  refine lv_aload_n hx hb dX10_layInfant_20 rfl (lv_at hl 1 rfl) ?_
  refine lv_bipush (v := 30) hx hb dX10_layInfant_21 (by decide) ?_
  refine lv_iload hx hb dX10_layInfant_23 (lv_at hl 0 rfl) ?_
  refine lv_iadd hx hb dX10_layInfant_25 ?_
  refine lv_iload_n hx hb dX10_layInfant_26 rfl (lv_at hl 4 rfl) ?_
  obtain ⟨h_7, hw⟩ := hw
  obtain ⟨f_8, ef_8⟩ : ∃ y : Nat → Int32, y = upd f_6 (30 + x_2).toNatClampNeg v3 := ⟨_, rfl⟩
  replace hw := hw f_8 ef_8
  refine mx_iast hx hb hK hP hD hS 0 0 rfl rfl h_7 f_8 ef_8 (ww_X10_layInfant a_v0 cI cB cZ cP cC n_v0 f_8) rfl dX10_layInfant_27 (fun H locs hP hD hS => ?_)
  refine lv_aload_n hx hb dX10_layInfant_28 rfl (lv_at hl 1 rfl) ?_
  refine lv_bipush (v := 11) hx hb dX10_layInfant_29 (by decide) ?_
  refine lv_iload hx hb dX10_layInfant_31 (lv_at hl 0 rfl) ?_
  refine lv_iadd hx hb dX10_layInfant_33 ?_
  refine lv_iload hx hb dX10_layInfant_34 (lv_at hl 0 rfl) ?_
  obtain ⟨h_9, hw⟩ := hw
  obtain ⟨f_10, ef_10⟩ : ∃ y : Nat → Int32, y = upd f_8 (11 + x_2).toNatClampNeg x_2 := ⟨_, rfl⟩
  replace hw := hw f_10 ef_10
  refine mx_iast hx hb hK hP hD hS 0 0 rfl rfl h_9 f_10 ef_10 (ww_X10_layInfant a_v0 cI cB cZ cP cC n_v0 f_10) rfl dX10_layInfant_36 (fun H locs hP hD hS => ?_)
  refine lv_aload_n hx hb dX10_layInfant_37 rfl (lv_at hl 1 rfl) ?_
  refine lv_iconst (v := 0) hx hb dX10_layInfant_38 (by decide) ?_
  refine lv_dup2_11 hx hb dX10_layInfant_39 rfl rfl ?_
  refine mx_iald hx hb hK hP 0 0 rfl rfl h_1 (f_10 0) rfl dX10_layInfant_40 ?_
  refine lv_iconst (v := 1) hx hb dX10_layInfant_41 (by decide) ?_
  refine lv_iadd hx hb dX10_layInfant_42 ?_
  refine lv_topi (fun x_11 ex_11 => ?_)
  replace hw := hw x_11 ex_11
  obtain ⟨f_12, ef_12⟩ : ∃ y : Nat → Int32, y = upd f_10 0 x_11 := ⟨_, rfl⟩
  replace hw := hw f_12 ef_12
  refine mx_iast hx hb hK hP hD hS 0 0 rfl rfl h_1 f_12 ef_12 (ww_X10_layInfant a_v0 cI cB cZ cP cC n_v0 f_12) rfl dX10_layInfant_43 (fun H locs hP hD hS => ?_)
  exact mx_vret f_12 hx hb hr hlocks hw hK hP hD hS dX10_layInfant_44
/-! PramStateModel.infant(III)I -/
abbrev ww_X10_infant (a_m a_m_told a_m_kept a_m_isKept a_m_refused a_m_months a_m_heirs a_m_lasts a_m_cares a_m_bestCares a_m_ones a_m_others a_m_bytes a_m_anew a_m_values : Nat) (cI cB cZ cP cC : ClassId) (above : Int64) (below : Int64) (retired : Int32) (manyLine : Int32) (bytesLong : Int32) (tokenAt : Int32) (tokenLong : Int32) (token : Int32) (value : Int32) (told : Nat → Int32) (refused : Nat → Int32) : va_W := [(a_m, .inr (10, [.ref a_m_told, .ref a_m_kept, .ref a_m_isKept, .ref a_m_refused, .long above, .long below, .ref a_m_months, .int retired, .ref a_m_heirs, .ref a_m_lasts, .int manyLine, .ref a_m_cares, .ref a_m_bestCares, .ref a_m_ones, .ref a_m_others, .ref a_m_bytes, .int bytesLong, .int tokenAt, .int tokenLong, .int token, .int value, .ref a_m_anew, .ref a_m_values])), (a_m_told, .inl (cI, 190, .inl told)), (a_m_refused, .inl (cI, 3, .inl refused))]
abbrev qq_X10_infant (D : va_G) (a_m a_m_told a_m_kept a_m_isKept a_m_refused a_m_months a_m_heirs a_m_lasts a_m_cares a_m_bestCares a_m_ones a_m_others a_m_bytes a_m_anew a_m_values : Nat) (cI cB cZ cP cC : ClassId) (above : Int64) (below : Int64) (retired : Int32) (manyLine : Int32) (bytesLong : Int32) (tokenAt : Int32) (tokenLong : Int32) (token : Int32) (value : Int32) (Post : Int32 → (Nat → Int32) → (Nat → Int32) → Prop) (A : Nat → Prop) : Array Value → State → Outcome → State → Prop := va_Qi (fun (r : Int32) (u : (Nat → Int32) × (Nat → Int32)) => Post r u.1 u.2) (fun (u : (Nat → Int32) × (Nat → Int32)) t => mxB D (mxTy cI cB cZ cP cC) A (ww_X10_infant a_m a_m_told a_m_kept a_m_isKept a_m_refused a_m_months a_m_heirs a_m_lasts a_m_cares a_m_bestCares a_m_ones a_m_others a_m_bytes a_m_anew a_m_values cI cB cZ cP cC above below retired manyLine bytesLong tokenAt tokenLong token value (u.1) (u.2)) t) A
abbrev rm_X10_infant : Room := { frames := 1, cells := 0, slots := 0, locals := 25 }
theorem hd_X10_infant : yX10_infant.cls = RX10 ∧ yX10_infant.cls ≠ "java/lang/invoke/MethodHandle" ∧ yX10_infant.cls ≠ "java/lang/invoke/VarHandle" ∧ (parseMethodDescriptor yX10_infant.desc).map (fun d => d.parameters.length) = some 3 := by decide +kernel
def wp_X10_infant_J36  (Post : Int32 → (Nat → Int32) → (Nat → Int32) → Prop)  (told : Nat → Int32) (refused : Nat → Int32) : Prop :=
  (wp_X10_bad refused (-2) (fun r_3 refused_4 => Post r_3 told refused_4))
set_option maxHeartbeats 4000000 in
set_option maxRecDepth 100000 in
theorem k_X10_infant_J36 {p : Program} {l : Launch} {e : Env} {s : State} {m : MethodId} {ar : Array Value} {bl : List Frame} {meth : Method} {c : Code} {D : va_G} {A : Nat → Prop} {cI cB cZ cP cC : ClassId} {a_m a_m_told a_m_kept a_m_isKept a_m_refused a_m_months a_m_heirs a_m_lasts a_m_cares a_m_bestCares a_m_ones a_m_others a_m_bytes a_m_anew a_m_values : Nat} {above : Int64} {below : Int64} {retired : Int32} {manyLine : Int32} {bytesLong : Int32} {tokenAt : Int32} {tokenLong : Int32} {token : Int32} {value : Int32} {Post : Int32 → (Nat → Int32) → (Nat → Int32) → Prop} (C0 : mxC p s m ar meth c cX10_infant RX10 (some .int) 4 D (mxTy cI cB cZ cP cC) A) :
    ∀ (told : Nat → Int32) (refused : Nat → Int32) (H : Heap) (locs : List Loc) (ls : Array Slot), va_P D vwCl (ww_X10_infant a_m a_m_told a_m_kept a_m_isKept a_m_refused a_m_months a_m_heirs a_m_lasts a_m_cares a_m_bestCares a_m_ones a_m_others a_m_bytes a_m_anew a_m_values cI cB cZ cP cC above below retired manyLine bytesLong tokenAt tokenLong token value told refused) H → va_D A (ww_X10_infant a_m a_m_told a_m_kept a_m_isKept a_m_refused a_m_months a_m_heirs a_m_lasts a_m_cares a_m_bestCares a_m_ones a_m_others a_m_bytes a_m_anew a_m_values cI cB cZ cP cC above below retired manyLine bytesLong tokenAt tokenLong token value told refused) → va_S A s.heap H locs → lv_has ls 4 [(0, .ref a_m)] → wp_X10_infant_J36 Post  told refused → W p l e rm_X10_infant s m ar bl meth c H locs 0 0 (MQ bl (qq_X10_infant D a_m a_m_told a_m_kept a_m_isKept a_m_refused a_m_months a_m_heirs a_m_lasts a_m_cares a_m_bestCares a_m_ones a_m_others a_m_bytes a_m_anew a_m_values cI cB cZ cP cC above below retired manyLine bytesLong tokenAt tokenLong token value Post A) ar s 0 0 A) (F0 m 36 ls []) := by
  obtain ⟨hx, hb, hr, hlocks, hml, hown, hts, hK, hA⟩ := id C0
  intro told refused H locs ls hP hD hS hl hw
  refine lv_aload_n hx hb dX10_infant_36 rfl (lv_at hl 0 rfl) ?_
  refine lv_bipush (v := (-2)) hx hb dX10_infant_37 (by decide) ?_
  refine mx_ki (mx_rV (rm := rm_X10_bad) (rest := []) (C := RX10) hx hb hml hown hts (c_X10_bad l D cI cB cZ cP cC a_m a_m_told a_m_kept a_m_isKept a_m_refused a_m_months a_m_heirs a_m_lasts a_m_cares a_m_bestCares a_m_ones a_m_others a_m_bytes a_m_anew a_m_values above below retired manyLine bytesLong tokenAt tokenLong token value refused (-2) _ _ hw) q_166 q_167 q_168 q_5 q_169 hd_X10_bad ⟨(Nat.le_of_ble_eq_true rfl), (Nat.le_of_ble_eq_true rfl)⟩ rfl rfl hK hP hD [0, 2] rfl rfl 10 0 rfl rfl rfl rfl hl.1 rfl (Nat.le_of_ble_eq_true rfl) dX10_infant_39 ⟨(Nat.le_of_ble_eq_true rfl), (Nat.le_of_ble_eq_true rfl)⟩) hP hD hS hA [0, 2] [1] [1, 0, 2] (fun u => ww_X10_infant a_m a_m_told a_m_kept a_m_isKept a_m_refused a_m_months a_m_heirs a_m_lasts a_m_cares a_m_bestCares a_m_ones a_m_others a_m_bytes a_m_anew a_m_values cI cB cZ cP cC above below retired manyLine bytesLong tokenAt tokenLong token value told u) rfl rfl rfl (by decide) rfl (fun _ => rfl) (fun r_3 refused_4 H locs hw hP hD hS => ?_)
  try dsimp only at hw
  replace hP : va_P D vwCl (ww_X10_infant a_m a_m_told a_m_kept a_m_isKept a_m_refused a_m_months a_m_heirs a_m_lasts a_m_cares a_m_bestCares a_m_ones a_m_others a_m_bytes a_m_anew a_m_values cI cB cZ cP cC above below retired manyLine bytesLong tokenAt tokenLong token value told refused_4) H := hP
  replace hD : va_D A (ww_X10_infant a_m a_m_told a_m_kept a_m_isKept a_m_refused a_m_months a_m_heirs a_m_lasts a_m_cares a_m_bestCares a_m_ones a_m_others a_m_bytes a_m_anew a_m_values cI cB cZ cP cC above below retired manyLine bytesLong tokenAt tokenLong token value told refused_4) := hD
  exact mx_iret (told, refused_4) hx hb hr hlocks rfl hw hK hP hD hS dX10_infant_42
def wp_X10_infant (told : Nat → Int32) (refused : Nat → Int32) (v1 : Int32) (v2 : Int32) (v3 : Int32) (Post : Int32 → (Nat → Int32) → (Nat → Int32) → Prop) : Prop :=
  (wp_X10_in (v1.toInt64) 0 5 (fun r_1 => ((r_1 = 0 → (wp_X10_infant_J36 Post told refused)) ∧ (¬ r_1 = 0 → (wp_X10_in (v2.toInt64) 0 35 (fun r_5 => ((r_5 = 0 → (wp_X10_infant_J36 Post told refused)) ∧ (¬ r_5 = 0 → (wp_X10_in (v3.toInt64) 0 5 (fun r_7 => ((r_7 = 0 → (wp_X10_infant_J36 Post told refused)) ∧ (¬ r_7 = 0 → (wp_X10_many told (fun r_9 => ((r_9 = 6 → (wp_X10_full refused (fun r_14 refused_15 => Post r_14 told refused_15))) ∧ (¬ r_9 = 6 → (wp_X10_layInfant 190 told v1 v2 v3 (fun told_11 => (∀ f_12 : Nat → Int32, f_12 = upd told_11 3 0 → (wp_X10_many f_12 (fun r_13 => Post (r_13 - 1) f_12 refused)))))))))))))))))))))
set_option maxHeartbeats 4000000 in
set_option maxRecDepth 100000 in
theorem c_X10_infant (l : Launch) (D : va_G) (cI cB cZ cP cC : ClassId) (a_m a_m_told a_m_kept a_m_isKept a_m_refused a_m_months a_m_heirs a_m_lasts a_m_cares a_m_bestCares a_m_ones a_m_others a_m_bytes a_m_anew a_m_values : Nat) (above : Int64) (below : Int64) (retired : Int32) (manyLine : Int32) (bytesLong : Int32) (tokenAt : Int32) (tokenLong : Int32) (token : Int32) (value : Int32) (told : Nat → Int32) (refused : Nat → Int32) (v1 : Int32) (v2 : Int32) (v3 : Int32) (sz : Nat) (Post : Int32 → (Nat → Int32) → (Nat → Int32) → Prop) (hw : wp_X10_infant told refused v1 v2 v3 Post) :
    Met l yX10_infant (Cond.code yX10_infant cX10_infant 4 (some .int) :: wsAll) rm_X10_infant (va_Pc [.ref a_m, .int v1, .int v2, .int v3] (mxP D (mxTy cI cB cZ cP cC) sz (ww_X10_infant a_m a_m_told a_m_kept a_m_isKept a_m_refused a_m_months a_m_heirs a_m_lasts a_m_cares a_m_bestCares a_m_ones a_m_others a_m_bytes a_m_anew a_m_values cI cB cZ cP cC above below retired manyLine bytesLong tokenAt tokenLong token value told refused))) (qq_X10_infant D a_m a_m_told a_m_kept a_m_isKept a_m_refused a_m_months a_m_heirs a_m_lasts a_m_cares a_m_bestCares a_m_ones a_m_others a_m_bytes a_m_anew a_m_values cI cB cZ cP cC above below retired manyLine bytesLong tokenAt tokenLong token value Post (va_A (ww_X10_infant a_m a_m_told a_m_kept a_m_isKept a_m_refused a_m_months a_m_heirs a_m_lasts a_m_cares a_m_bestCares a_m_ones a_m_others a_m_bytes a_m_anew a_m_values cI cB cZ cP cC above below retired manyLine bytesLong tokenAt tokenLong token value told refused) sz)) 0 0 (va_A (ww_X10_infant a_m a_m_told a_m_kept a_m_isKept a_m_refused a_m_months a_m_heirs a_m_lasts a_m_cares a_m_bestCares a_m_ones a_m_others a_m_bytes a_m_anew a_m_values cI cB cZ cP cC above below retired manyLine bytesLong tokenAt tokenLong token value told refused) sz) := by
  refine mx_of (Qc := qq_X10_infant D a_m a_m_told a_m_kept a_m_isKept a_m_refused a_m_months a_m_heirs a_m_lasts a_m_cares a_m_bestCares a_m_ones a_m_others a_m_bytes a_m_anew a_m_values cI cB cZ cP cC above below retired manyLine bytesLong tokenAt tokenLong token value Post) (by decide) (Nat.le_of_ble_eq_true rfl) ?_
  intro p e s m bl meth c A ls C0 hP hD hS hl
  replace C0 : mxC p s m [.ref a_m, .int v1, .int v2, .int v3].toArray meth c cX10_infant RX10 (some .int) 4 D (mxTy cI cB cZ cP cC) A := C0
  obtain ⟨hx, hb, hr, hlocks, hml, hown, hts, hK, hA⟩ := id C0
  replace hl : lv_has ls 4 [(0, .ref a_m), (1, .int v1), (2, .int v2), (3, .int v3)] := hl
  unfold wp_X10_infant at hw
  refine lv_iload_n hx hb dX10_infant_0 rfl (lv_at hl 1 rfl) ?_
  refine lv_i2l (v := v1.toInt64) hx hb dX10_infant_1 rfl ?_
  refine lv_lconst (v := 0) hx hb dX10_infant_2 rfl ?_
  refine lv_ldc2 (v := 5) hx hb hown (hts _ q_161) dX10_infant_3 ?_
  refine mx_ki (mx_rS (rm := rm_X10_in) (rest := []) hx hb hml hown hts (c_X10_in l D cI cB cZ cP cC (v1.toInt64) 0 5 _ _ hw) q_163 q_164 q_5 q_165 hd_X10_in ⟨(Nat.le_of_ble_eq_true rfl), (Nat.le_of_ble_eq_true rfl)⟩ rfl rfl hK hP hD [] rfl rfl rfl hl.1 rfl (Nat.le_of_ble_eq_true rfl) dX10_infant_6 ⟨(Nat.le_of_ble_eq_true rfl), (Nat.le_of_ble_eq_true rfl)⟩) hP hD hS hA [] [0, 1, 2] [0, 1, 2] (fun _ => ww_X10_infant a_m a_m_told a_m_kept a_m_isKept a_m_refused a_m_months a_m_heirs a_m_lasts a_m_cares a_m_bestCares a_m_ones a_m_others a_m_bytes a_m_anew a_m_values cI cB cZ cP cC above below retired manyLine bytesLong tokenAt tokenLong token value told refused) rfl rfl rfl (by decide) rfl (fun _ => rfl) (fun r_1 u H locs hw hP hD hS => ?_)
  try dsimp only at hw
  replace hP : va_P D vwCl (ww_X10_infant a_m a_m_told a_m_kept a_m_isKept a_m_refused a_m_months a_m_heirs a_m_lasts a_m_cares a_m_bestCares a_m_ones a_m_others a_m_bytes a_m_anew a_m_values cI cB cZ cP cC above below retired manyLine bytesLong tokenAt tokenLong token value told refused) H := hP
  replace hD : va_D A (ww_X10_infant a_m a_m_told a_m_kept a_m_isKept a_m_refused a_m_months a_m_heirs a_m_lasts a_m_cares a_m_bestCares a_m_ones a_m_others a_m_bytes a_m_anew a_m_values cI cB cZ cP cC above below retired manyLine bytesLong tokenAt tokenLong token value told refused) := hD
  refine lv_if_eq (tgt := 36) hx hb dX10_infant_9 (by decide) (fun c_2 => ?_) (fun c_2 => ?_)
  · replace hw := hw.1 c_2
    exact k_X10_infant_J36 C0  told refused _ _ _ hP hD hS (lv_sub hl [0] rfl) hw
  · replace hw := hw.2 c_2
    refine lv_iload_n hx hb dX10_infant_12 rfl (lv_at hl 2 rfl) ?_
    refine lv_i2l (v := v2.toInt64) hx hb dX10_infant_13 rfl ?_
    refine lv_lconst (v := 0) hx hb dX10_infant_14 rfl ?_
    refine lv_ldc2 (v := 35) hx hb hown (hts _ q_162) dX10_infant_15 ?_
    refine mx_ki (mx_rS (rm := rm_X10_in) (rest := []) hx hb hml hown hts (c_X10_in l D cI cB cZ cP cC (v2.toInt64) 0 35 _ _ hw) q_163 q_164 q_5 q_165 hd_X10_in ⟨(Nat.le_of_ble_eq_true rfl), (Nat.le_of_ble_eq_true rfl)⟩ rfl rfl hK hP hD [] rfl rfl rfl hl.1 rfl (Nat.le_of_ble_eq_true rfl) dX10_infant_18 ⟨(Nat.le_of_ble_eq_true rfl), (Nat.le_of_ble_eq_true rfl)⟩) hP hD hS hA [] [0, 1, 2] [0, 1, 2] (fun _ => ww_X10_infant a_m a_m_told a_m_kept a_m_isKept a_m_refused a_m_months a_m_heirs a_m_lasts a_m_cares a_m_bestCares a_m_ones a_m_others a_m_bytes a_m_anew a_m_values cI cB cZ cP cC above below retired manyLine bytesLong tokenAt tokenLong token value told refused) rfl rfl rfl (by decide) rfl (fun _ => rfl) (fun r_5 u H locs hw hP hD hS => ?_)
    try dsimp only at hw
    replace hP : va_P D vwCl (ww_X10_infant a_m a_m_told a_m_kept a_m_isKept a_m_refused a_m_months a_m_heirs a_m_lasts a_m_cares a_m_bestCares a_m_ones a_m_others a_m_bytes a_m_anew a_m_values cI cB cZ cP cC above below retired manyLine bytesLong tokenAt tokenLong token value told refused) H := hP
    replace hD : va_D A (ww_X10_infant a_m a_m_told a_m_kept a_m_isKept a_m_refused a_m_months a_m_heirs a_m_lasts a_m_cares a_m_bestCares a_m_ones a_m_others a_m_bytes a_m_anew a_m_values cI cB cZ cP cC above below retired manyLine bytesLong tokenAt tokenLong token value told refused) := hD
    refine lv_if_eq (tgt := 36) hx hb dX10_infant_21 (by decide) (fun c_6 => ?_) (fun c_6 => ?_)
    · replace hw := hw.1 c_6
      exact k_X10_infant_J36 C0  told refused _ _ _ hP hD hS (lv_sub hl [0] rfl) hw
    · replace hw := hw.2 c_6
      refine lv_iload_n hx hb dX10_infant_24 rfl (lv_at hl 3 rfl) ?_
      refine lv_i2l (v := v3.toInt64) hx hb dX10_infant_25 rfl ?_
      refine lv_lconst (v := 0) hx hb dX10_infant_26 rfl ?_
      refine lv_ldc2 (v := 5) hx hb hown (hts _ q_161) dX10_infant_27 ?_
      refine mx_ki (mx_rS (rm := rm_X10_in) (rest := []) hx hb hml hown hts (c_X10_in l D cI cB cZ cP cC (v3.toInt64) 0 5 _ _ hw) q_163 q_164 q_5 q_165 hd_X10_in ⟨(Nat.le_of_ble_eq_true rfl), (Nat.le_of_ble_eq_true rfl)⟩ rfl rfl hK hP hD [] rfl rfl rfl hl.1 rfl (Nat.le_of_ble_eq_true rfl) dX10_infant_30 ⟨(Nat.le_of_ble_eq_true rfl), (Nat.le_of_ble_eq_true rfl)⟩) hP hD hS hA [] [0, 1, 2] [0, 1, 2] (fun _ => ww_X10_infant a_m a_m_told a_m_kept a_m_isKept a_m_refused a_m_months a_m_heirs a_m_lasts a_m_cares a_m_bestCares a_m_ones a_m_others a_m_bytes a_m_anew a_m_values cI cB cZ cP cC above below retired manyLine bytesLong tokenAt tokenLong token value told refused) rfl rfl rfl (by decide) rfl (fun _ => rfl) (fun r_7 u H locs hw hP hD hS => ?_)
      try dsimp only at hw
      replace hP : va_P D vwCl (ww_X10_infant a_m a_m_told a_m_kept a_m_isKept a_m_refused a_m_months a_m_heirs a_m_lasts a_m_cares a_m_bestCares a_m_ones a_m_others a_m_bytes a_m_anew a_m_values cI cB cZ cP cC above below retired manyLine bytesLong tokenAt tokenLong token value told refused) H := hP
      replace hD : va_D A (ww_X10_infant a_m a_m_told a_m_kept a_m_isKept a_m_refused a_m_months a_m_heirs a_m_lasts a_m_cares a_m_bestCares a_m_ones a_m_others a_m_bytes a_m_anew a_m_values cI cB cZ cP cC above below retired manyLine bytesLong tokenAt tokenLong token value told refused) := hD
      refine lv_if_ne (tgt := 43) hx hb dX10_infant_33 (by decide) (fun c_8 => ?_) (fun c_8 => ?_)
      · replace hw := hw.2 c_8
        refine lv_aload_n hx hb dX10_infant_43 rfl (lv_at hl 0 rfl) ?_
        refine mx_ki (mx_rV (rm := rm_X10_many) (rest := []) (C := RX10) hx hb hml hown hts (c_X10_many l D cI cB cZ cP cC a_m a_m_told a_m_kept a_m_isKept a_m_refused a_m_months a_m_heirs a_m_lasts a_m_cares a_m_bestCares a_m_ones a_m_others a_m_bytes a_m_anew a_m_values above below retired manyLine bytesLong tokenAt tokenLong token value told _ _ hw) q_132 q_133 q_134 q_5 q_135 hd_X10_many ⟨(Nat.le_of_ble_eq_true rfl), (Nat.le_of_ble_eq_true rfl)⟩ rfl rfl hK hP hD [0, 1] rfl rfl 10 0 rfl rfl rfl rfl hl.1 rfl (Nat.le_of_ble_eq_true rfl) dX10_infant_44 ⟨(Nat.le_of_ble_eq_true rfl), (Nat.le_of_ble_eq_true rfl)⟩) hP hD hS hA [0, 1] [2] [1, 2, 0] (fun _ => ww_X10_infant a_m a_m_told a_m_kept a_m_isKept a_m_refused a_m_months a_m_heirs a_m_lasts a_m_cares a_m_bestCares a_m_ones a_m_others a_m_bytes a_m_anew a_m_values cI cB cZ cP cC above below retired manyLine bytesLong tokenAt tokenLong token value told refused) rfl rfl rfl (by decide) rfl (fun _ => rfl) (fun r_9 u H locs hw hP hD hS => ?_)
        try dsimp only at hw
        replace hP : va_P D vwCl (ww_X10_infant a_m a_m_told a_m_kept a_m_isKept a_m_refused a_m_months a_m_heirs a_m_lasts a_m_cares a_m_bestCares a_m_ones a_m_others a_m_bytes a_m_anew a_m_values cI cB cZ cP cC above below retired manyLine bytesLong tokenAt tokenLong token value told refused) H := hP
        replace hD : va_D A (ww_X10_infant a_m a_m_told a_m_kept a_m_isKept a_m_refused a_m_months a_m_heirs a_m_lasts a_m_cares a_m_bestCares a_m_ones a_m_others a_m_bytes a_m_anew a_m_values cI cB cZ cP cC above below retired manyLine bytesLong tokenAt tokenLong token value told refused) := hD
        refine lv_bipush (v := 6) hx hb dX10_infant_47 (by decide) ?_
        refine lv_icmp_ne (tgt := 57) hx hb dX10_infant_49 (by decide) (fun c_10 => ?_) (fun c_10 => ?_)
        · replace hw := hw.2 c_10
          refine lv_aload_n hx hb dX10_infant_57 rfl (lv_at hl 0 rfl) ?_
          refine mx_get (ci := 10) (C := RX10) (T := TX10) (N := 23) hx hb hown in_wsX100 hts hK hP 0 rfl rfl 0 (by decide) q_91 rfl (v := .ref a_m_told) rfl dX10_infant_58 ?_
          refine lv_iload_n hx hb dX10_infant_61 rfl (lv_at hl 1 rfl) ?_
          refine lv_iload_n hx hb dX10_infant_62 rfl (lv_at hl 2 rfl) ?_
          refine lv_iload_n hx hb dX10_infant_63 rfl (lv_at hl 3 rfl) ?_
          refine mx_kv (mx_rS (rm := rm_X10_layInfant) (rest := []) hx hb hml hown hts (c_X10_layInfant l D cI cB cZ cP cC a_m_told 190 told v1 v2 v3 _ _ hw) q_174 q_175 q_5 q_176 hd_X10_layInfant ⟨(Nat.le_of_ble_eq_true rfl), (Nat.le_of_ble_eq_true rfl)⟩ rfl rfl hK hP hD [1] rfl rfl rfl hl.1 rfl (Nat.le_of_ble_eq_true rfl) dX10_infant_64 ⟨(Nat.le_of_ble_eq_true rfl), (Nat.le_of_ble_eq_true rfl)⟩) hP hD hS hA [1] [0, 2] [0, 2, 1] (fun u => ww_X10_infant a_m a_m_told a_m_kept a_m_isKept a_m_refused a_m_months a_m_heirs a_m_lasts a_m_cares a_m_bestCares a_m_ones a_m_others a_m_bytes a_m_anew a_m_values cI cB cZ cP cC above below retired manyLine bytesLong tokenAt tokenLong token value u refused) rfl rfl rfl (by decide) rfl (fun _ => rfl) (fun told_11 H locs hw hP hD hS => ?_)
          try dsimp only at hw
          replace hP : va_P D vwCl (ww_X10_infant a_m a_m_told a_m_kept a_m_isKept a_m_refused a_m_months a_m_heirs a_m_lasts a_m_cares a_m_bestCares a_m_ones a_m_others a_m_bytes a_m_anew a_m_values cI cB cZ cP cC above below retired manyLine bytesLong tokenAt tokenLong token value told_11 refused) H := hP
          replace hD : va_D A (ww_X10_infant a_m a_m_told a_m_kept a_m_isKept a_m_refused a_m_months a_m_heirs a_m_lasts a_m_cares a_m_bestCares a_m_ones a_m_others a_m_bytes a_m_anew a_m_values cI cB cZ cP cC above below retired manyLine bytesLong tokenAt tokenLong token value told_11 refused) := hD
          refine lv_aload_n hx hb dX10_infant_67 rfl (lv_at hl 0 rfl) ?_
          refine mx_get (ci := 10) (C := RX10) (T := TX10) (N := 23) hx hb hown in_wsX100 hts hK hP 0 rfl rfl 0 (by decide) q_91 rfl (v := .ref a_m_told) rfl dX10_infant_68 ?_
          refine lv_iconst (v := 3) hx hb dX10_infant_71 (by decide) ?_
          refine lv_iconst (v := 0) hx hb dX10_infant_72 (by decide) ?_
          obtain ⟨f_12, ef_12⟩ : ∃ y : Nat → Int32, y = upd told_11 3 0 := ⟨_, rfl⟩
          replace hw := hw f_12 ef_12
          refine mx_iast hx hb hK hP hD hS 1 0 rfl rfl (mx_lit rfl) f_12 ef_12 (ww_X10_infant a_m a_m_told a_m_kept a_m_isKept a_m_refused a_m_months a_m_heirs a_m_lasts a_m_cares a_m_bestCares a_m_ones a_m_others a_m_bytes a_m_anew a_m_values cI cB cZ cP cC above below retired manyLine bytesLong tokenAt tokenLong token value f_12 refused) rfl dX10_infant_73 (fun H locs hP hD hS => ?_)
          refine lv_aload_n hx hb dX10_infant_74 rfl (lv_at hl 0 rfl) ?_
          refine mx_ki (mx_rV (rm := rm_X10_many) (rest := []) (C := RX10) hx hb hml hown hts (c_X10_many l D cI cB cZ cP cC a_m a_m_told a_m_kept a_m_isKept a_m_refused a_m_months a_m_heirs a_m_lasts a_m_cares a_m_bestCares a_m_ones a_m_others a_m_bytes a_m_anew a_m_values above below retired manyLine bytesLong tokenAt tokenLong token value f_12 _ _ hw) q_132 q_133 q_134 q_5 q_135 hd_X10_many ⟨(Nat.le_of_ble_eq_true rfl), (Nat.le_of_ble_eq_true rfl)⟩ rfl rfl hK hP hD [0, 1] rfl rfl 10 0 rfl rfl rfl rfl hl.1 rfl (Nat.le_of_ble_eq_true rfl) dX10_infant_75 ⟨(Nat.le_of_ble_eq_true rfl), (Nat.le_of_ble_eq_true rfl)⟩) hP hD hS hA [0, 1] [2] [1, 2, 0] (fun _ => ww_X10_infant a_m a_m_told a_m_kept a_m_isKept a_m_refused a_m_months a_m_heirs a_m_lasts a_m_cares a_m_bestCares a_m_ones a_m_others a_m_bytes a_m_anew a_m_values cI cB cZ cP cC above below retired manyLine bytesLong tokenAt tokenLong token value f_12 refused) rfl rfl rfl (by decide) rfl (fun _ => rfl) (fun r_13 u H locs hw hP hD hS => ?_)
          try dsimp only at hw
          replace hP : va_P D vwCl (ww_X10_infant a_m a_m_told a_m_kept a_m_isKept a_m_refused a_m_months a_m_heirs a_m_lasts a_m_cares a_m_bestCares a_m_ones a_m_others a_m_bytes a_m_anew a_m_values cI cB cZ cP cC above below retired manyLine bytesLong tokenAt tokenLong token value f_12 refused) H := hP
          replace hD : va_D A (ww_X10_infant a_m a_m_told a_m_kept a_m_isKept a_m_refused a_m_months a_m_heirs a_m_lasts a_m_cares a_m_bestCares a_m_ones a_m_others a_m_bytes a_m_anew a_m_values cI cB cZ cP cC above below retired manyLine bytesLong tokenAt tokenLong token value f_12 refused) := hD
          refine lv_iconst (v := 1) hx hb dX10_infant_78 (by decide) ?_
          refine lv_isub hx hb dX10_infant_79 ?_
          exact mx_iret (f_12, refused) hx hb hr hlocks rfl hw hK hP hD hS dX10_infant_80
        · replace hw := hw.1 c_10
          refine lv_aload_n hx hb dX10_infant_52 rfl (lv_at hl 0 rfl) ?_
          refine mx_ki (mx_rV (rm := rm_X10_full) (rest := []) (C := RX10) hx hb hml hown hts (c_X10_full l D cI cB cZ cP cC a_m a_m_told a_m_kept a_m_isKept a_m_refused a_m_months a_m_heirs a_m_lasts a_m_cares a_m_bestCares a_m_ones a_m_others a_m_bytes a_m_anew a_m_values above below retired manyLine bytesLong tokenAt tokenLong token value refused _ _ hw) q_170 q_171 q_172 q_5 q_173 hd_X10_full ⟨(Nat.le_of_ble_eq_true rfl), (Nat.le_of_ble_eq_true rfl)⟩ rfl rfl hK hP hD [0, 2] rfl rfl 10 0 rfl rfl rfl rfl hl.1 rfl (Nat.le_of_ble_eq_true rfl) dX10_infant_53 ⟨(Nat.le_of_ble_eq_true rfl), (Nat.le_of_ble_eq_true rfl)⟩) hP hD hS hA [0, 2] [1] [1, 0, 2] (fun u => ww_X10_infant a_m a_m_told a_m_kept a_m_isKept a_m_refused a_m_months a_m_heirs a_m_lasts a_m_cares a_m_bestCares a_m_ones a_m_others a_m_bytes a_m_anew a_m_values cI cB cZ cP cC above below retired manyLine bytesLong tokenAt tokenLong token value told u) rfl rfl rfl (by decide) rfl (fun _ => rfl) (fun r_14 refused_15 H locs hw hP hD hS => ?_)
          try dsimp only at hw
          replace hP : va_P D vwCl (ww_X10_infant a_m a_m_told a_m_kept a_m_isKept a_m_refused a_m_months a_m_heirs a_m_lasts a_m_cares a_m_bestCares a_m_ones a_m_others a_m_bytes a_m_anew a_m_values cI cB cZ cP cC above below retired manyLine bytesLong tokenAt tokenLong token value told refused_15) H := hP
          replace hD : va_D A (ww_X10_infant a_m a_m_told a_m_kept a_m_isKept a_m_refused a_m_months a_m_heirs a_m_lasts a_m_cares a_m_bestCares a_m_ones a_m_others a_m_bytes a_m_anew a_m_values cI cB cZ cP cC above below retired manyLine bytesLong tokenAt tokenLong token value told refused_15) := hD
          exact mx_iret (told, refused_15) hx hb hr hlocks rfl hw hK hP hD hS dX10_infant_56
      · replace hw := hw.1 c_8
        exact k_X10_infant_J36 C0  told refused _ _ _ hP hD hS (lv_sub hl [0] rfl) hw
/-! PramStateModel.skill(II)I -/
abbrev ww_X10_skill (a_m a_m_told a_m_kept a_m_isKept a_m_refused a_m_months a_m_heirs a_m_lasts a_m_cares a_m_bestCares a_m_ones a_m_others a_m_bytes a_m_anew a_m_values : Nat) (cI cB cZ cP cC : ClassId) (above : Int64) (below : Int64) (retired : Int32) (manyLine : Int32) (bytesLong : Int32) (tokenAt : Int32) (tokenLong : Int32) (token : Int32) (value : Int32) (told : Nat → Int32) (refused : Nat → Int32) : va_W := [(a_m, .inr (10, [.ref a_m_told, .ref a_m_kept, .ref a_m_isKept, .ref a_m_refused, .long above, .long below, .ref a_m_months, .int retired, .ref a_m_heirs, .ref a_m_lasts, .int manyLine, .ref a_m_cares, .ref a_m_bestCares, .ref a_m_ones, .ref a_m_others, .ref a_m_bytes, .int bytesLong, .int tokenAt, .int tokenLong, .int token, .int value, .ref a_m_anew, .ref a_m_values])), (a_m_told, .inl (cI, 190, .inl told)), (a_m_refused, .inl (cI, 3, .inl refused))]
abbrev qq_X10_skill (D : va_G) (a_m a_m_told a_m_kept a_m_isKept a_m_refused a_m_months a_m_heirs a_m_lasts a_m_cares a_m_bestCares a_m_ones a_m_others a_m_bytes a_m_anew a_m_values : Nat) (cI cB cZ cP cC : ClassId) (above : Int64) (below : Int64) (retired : Int32) (manyLine : Int32) (bytesLong : Int32) (tokenAt : Int32) (tokenLong : Int32) (token : Int32) (value : Int32) (Post : Int32 → (Nat → Int32) → (Nat → Int32) → Prop) (A : Nat → Prop) : Array Value → State → Outcome → State → Prop := va_Qi (fun (r : Int32) (u : (Nat → Int32) × (Nat → Int32)) => Post r u.1 u.2) (fun (u : (Nat → Int32) × (Nat → Int32)) t => mxB D (mxTy cI cB cZ cP cC) A (ww_X10_skill a_m a_m_told a_m_kept a_m_isKept a_m_refused a_m_months a_m_heirs a_m_lasts a_m_cares a_m_bestCares a_m_ones a_m_others a_m_bytes a_m_anew a_m_values cI cB cZ cP cC above below retired manyLine bytesLong tokenAt tokenLong token value (u.1) (u.2)) t) A
abbrev rm_X10_skill : Room := { frames := 2, cells := 0, slots := 0, locals := 45 }
theorem hd_X10_skill : yX10_skill.cls = RX10 ∧ yX10_skill.cls ≠ "java/lang/invoke/MethodHandle" ∧ yX10_skill.cls ≠ "java/lang/invoke/VarHandle" ∧ (parseMethodDescriptor yX10_skill.desc).map (fun d => d.parameters.length) = some 2 := by decide +kernel
def wp_X10_skill_J19  (Post : Int32 → (Nat → Int32) → (Nat → Int32) → Prop)  (told : Nat → Int32) (refused : Nat → Int32) : Prop :=
  (wp_X10_bad refused (-2) (fun r_3 refused_4 => Post r_3 told refused_4))
set_option maxHeartbeats 4000000 in
set_option maxRecDepth 100000 in
theorem k_X10_skill_J19 {p : Program} {l : Launch} {e : Env} {s : State} {m : MethodId} {ar : Array Value} {bl : List Frame} {meth : Method} {c : Code} {D : va_G} {A : Nat → Prop} {cI cB cZ cP cC : ClassId} {a_m a_m_told a_m_kept a_m_isKept a_m_refused a_m_months a_m_heirs a_m_lasts a_m_cares a_m_bestCares a_m_ones a_m_others a_m_bytes a_m_anew a_m_values : Nat} {above : Int64} {below : Int64} {retired : Int32} {manyLine : Int32} {bytesLong : Int32} {tokenAt : Int32} {tokenLong : Int32} {token : Int32} {value : Int32} {Post : Int32 → (Nat → Int32) → (Nat → Int32) → Prop} (C0 : mxC p s m ar meth c cX10_skill RX10 (some .int) 4 D (mxTy cI cB cZ cP cC) A) :
    ∀ (told : Nat → Int32) (refused : Nat → Int32) (H : Heap) (locs : List Loc) (ls : Array Slot), va_P D vwCl (ww_X10_skill a_m a_m_told a_m_kept a_m_isKept a_m_refused a_m_months a_m_heirs a_m_lasts a_m_cares a_m_bestCares a_m_ones a_m_others a_m_bytes a_m_anew a_m_values cI cB cZ cP cC above below retired manyLine bytesLong tokenAt tokenLong token value told refused) H → va_D A (ww_X10_skill a_m a_m_told a_m_kept a_m_isKept a_m_refused a_m_months a_m_heirs a_m_lasts a_m_cares a_m_bestCares a_m_ones a_m_others a_m_bytes a_m_anew a_m_values cI cB cZ cP cC above below retired manyLine bytesLong tokenAt tokenLong token value told refused) → va_S A s.heap H locs → lv_has ls 4 [(0, .ref a_m)] → wp_X10_skill_J19 Post  told refused → W p l e rm_X10_skill s m ar bl meth c H locs 0 0 (MQ bl (qq_X10_skill D a_m a_m_told a_m_kept a_m_isKept a_m_refused a_m_months a_m_heirs a_m_lasts a_m_cares a_m_bestCares a_m_ones a_m_others a_m_bytes a_m_anew a_m_values cI cB cZ cP cC above below retired manyLine bytesLong tokenAt tokenLong token value Post A) ar s 0 0 A) (F0 m 19 ls []) := by
  obtain ⟨hx, hb, hr, hlocks, hml, hown, hts, hK, hA⟩ := id C0
  intro told refused H locs ls hP hD hS hl hw
  refine lv_aload_n hx hb dX10_skill_19 rfl (lv_at hl 0 rfl) ?_
  refine lv_bipush (v := (-2)) hx hb dX10_skill_20 (by decide) ?_
  refine mx_ki (mx_rV (rm := rm_X10_bad) (rest := []) (C := RX10) hx hb hml hown hts (c_X10_bad l D cI cB cZ cP cC a_m a_m_told a_m_kept a_m_isKept a_m_refused a_m_months a_m_heirs a_m_lasts a_m_cares a_m_bestCares a_m_ones a_m_others a_m_bytes a_m_anew a_m_values above below retired manyLine bytesLong tokenAt tokenLong token value refused (-2) _ _ hw) q_166 q_167 q_168 q_5 q_169 hd_X10_bad ⟨(Nat.le_of_ble_eq_true rfl), (Nat.le_of_ble_eq_true rfl)⟩ rfl rfl hK hP hD [0, 2] rfl rfl 10 0 rfl rfl rfl rfl hl.1 rfl (Nat.le_of_ble_eq_true rfl) dX10_skill_22 ⟨(Nat.le_of_ble_eq_true rfl), (Nat.le_of_ble_eq_true rfl)⟩) hP hD hS hA [0, 2] [1] [1, 0, 2] (fun u => ww_X10_skill a_m a_m_told a_m_kept a_m_isKept a_m_refused a_m_months a_m_heirs a_m_lasts a_m_cares a_m_bestCares a_m_ones a_m_others a_m_bytes a_m_anew a_m_values cI cB cZ cP cC above below retired manyLine bytesLong tokenAt tokenLong token value told u) rfl rfl rfl (by decide) rfl (fun _ => rfl) (fun r_3 refused_4 H locs hw hP hD hS => ?_)
  try dsimp only at hw
  replace hP : va_P D vwCl (ww_X10_skill a_m a_m_told a_m_kept a_m_isKept a_m_refused a_m_months a_m_heirs a_m_lasts a_m_cares a_m_bestCares a_m_ones a_m_others a_m_bytes a_m_anew a_m_values cI cB cZ cP cC above below retired manyLine bytesLong tokenAt tokenLong token value told refused_4) H := hP
  replace hD : va_D A (ww_X10_skill a_m a_m_told a_m_kept a_m_isKept a_m_refused a_m_months a_m_heirs a_m_lasts a_m_cares a_m_bestCares a_m_ones a_m_others a_m_bytes a_m_anew a_m_values cI cB cZ cP cC above below retired manyLine bytesLong tokenAt tokenLong token value told refused_4) := hD
  exact mx_iret (told, refused_4) hx hb hr hlocks rfl hw hK hP hD hS dX10_skill_25
def wp_X10_skill (told : Nat → Int32) (refused : Nat → Int32) (v1 : Int32) (v2 : Int32) (Post : Int32 → (Nat → Int32) → (Nat → Int32) → Prop) : Prop :=
  (wp_X10_isNurse v1 (fun r_1 => ((r_1 = 0 → (wp_X10_skill_J19 Post told refused)) ∧ (¬ r_1 = 0 → (wp_X10_in (v2.toInt64) 0 9 (fun r_5 => ((r_5 = 0 → (wp_X10_skill_J19 Post told refused)) ∧ (¬ r_5 = 0 → (vp_in (18 + v1) 190 ∧ (∀ x_8 : Int32, x_8 = told (18 + v1).toNatClampNeg → (∀ f_9 : Nat → Int32, f_9 = upd told (18 + v1).toNatClampNeg v2 → (∀ f_10 : Nat → Int32, f_10 = upd f_9 3 0 → Post x_8 f_10 refused))))))))))))
set_option maxHeartbeats 4000000 in
set_option maxRecDepth 100000 in
theorem c_X10_skill (l : Launch) (D : va_G) (cI cB cZ cP cC : ClassId) (a_m a_m_told a_m_kept a_m_isKept a_m_refused a_m_months a_m_heirs a_m_lasts a_m_cares a_m_bestCares a_m_ones a_m_others a_m_bytes a_m_anew a_m_values : Nat) (above : Int64) (below : Int64) (retired : Int32) (manyLine : Int32) (bytesLong : Int32) (tokenAt : Int32) (tokenLong : Int32) (token : Int32) (value : Int32) (told : Nat → Int32) (refused : Nat → Int32) (v1 : Int32) (v2 : Int32) (sz : Nat) (Post : Int32 → (Nat → Int32) → (Nat → Int32) → Prop) (hw : wp_X10_skill told refused v1 v2 Post) :
    Met l yX10_skill (Cond.code yX10_skill cX10_skill 4 (some .int) :: wsAll) rm_X10_skill (va_Pc [.ref a_m, .int v1, .int v2] (mxP D (mxTy cI cB cZ cP cC) sz (ww_X10_skill a_m a_m_told a_m_kept a_m_isKept a_m_refused a_m_months a_m_heirs a_m_lasts a_m_cares a_m_bestCares a_m_ones a_m_others a_m_bytes a_m_anew a_m_values cI cB cZ cP cC above below retired manyLine bytesLong tokenAt tokenLong token value told refused))) (qq_X10_skill D a_m a_m_told a_m_kept a_m_isKept a_m_refused a_m_months a_m_heirs a_m_lasts a_m_cares a_m_bestCares a_m_ones a_m_others a_m_bytes a_m_anew a_m_values cI cB cZ cP cC above below retired manyLine bytesLong tokenAt tokenLong token value Post (va_A (ww_X10_skill a_m a_m_told a_m_kept a_m_isKept a_m_refused a_m_months a_m_heirs a_m_lasts a_m_cares a_m_bestCares a_m_ones a_m_others a_m_bytes a_m_anew a_m_values cI cB cZ cP cC above below retired manyLine bytesLong tokenAt tokenLong token value told refused) sz)) 0 0 (va_A (ww_X10_skill a_m a_m_told a_m_kept a_m_isKept a_m_refused a_m_months a_m_heirs a_m_lasts a_m_cares a_m_bestCares a_m_ones a_m_others a_m_bytes a_m_anew a_m_values cI cB cZ cP cC above below retired manyLine bytesLong tokenAt tokenLong token value told refused) sz) := by
  refine mx_of (Qc := qq_X10_skill D a_m a_m_told a_m_kept a_m_isKept a_m_refused a_m_months a_m_heirs a_m_lasts a_m_cares a_m_bestCares a_m_ones a_m_others a_m_bytes a_m_anew a_m_values cI cB cZ cP cC above below retired manyLine bytesLong tokenAt tokenLong token value Post) (by decide) (Nat.le_of_ble_eq_true rfl) ?_
  intro p e s m bl meth c A ls C0 hP hD hS hl
  replace C0 : mxC p s m [.ref a_m, .int v1, .int v2].toArray meth c cX10_skill RX10 (some .int) 4 D (mxTy cI cB cZ cP cC) A := C0
  obtain ⟨hx, hb, hr, hlocks, hml, hown, hts, hK, hA⟩ := id C0
  replace hl : lv_has ls 4 [(0, .ref a_m), (1, .int v1), (2, .int v2)] := hl
  unfold wp_X10_skill at hw
  refine lv_iload_n hx hb dX10_skill_0 rfl (lv_at hl 1 rfl) ?_
  refine mx_ki (mx_rS (rm := rm_X10_isNurse) (rest := []) hx hb hml hown hts (c_X10_isNurse l D cI cB cZ cP cC v1 _ _ hw) q_191 q_192 q_5 q_193 hd_X10_isNurse ⟨(Nat.le_of_ble_eq_true rfl), (Nat.le_of_ble_eq_true rfl)⟩ rfl rfl hK hP hD [] rfl rfl rfl hl.1 rfl (Nat.le_of_ble_eq_true rfl) dX10_skill_1 ⟨(Nat.le_of_ble_eq_true rfl), (Nat.le_of_ble_eq_true rfl)⟩) hP hD hS hA [] [0, 1, 2] [0, 1, 2] (fun _ => ww_X10_skill a_m a_m_told a_m_kept a_m_isKept a_m_refused a_m_months a_m_heirs a_m_lasts a_m_cares a_m_bestCares a_m_ones a_m_others a_m_bytes a_m_anew a_m_values cI cB cZ cP cC above below retired manyLine bytesLong tokenAt tokenLong token value told refused) rfl rfl rfl (by decide) rfl (fun _ => rfl) (fun r_1 u H locs hw hP hD hS => ?_)
  try dsimp only at hw
  replace hP : va_P D vwCl (ww_X10_skill a_m a_m_told a_m_kept a_m_isKept a_m_refused a_m_months a_m_heirs a_m_lasts a_m_cares a_m_bestCares a_m_ones a_m_others a_m_bytes a_m_anew a_m_values cI cB cZ cP cC above below retired manyLine bytesLong tokenAt tokenLong token value told refused) H := hP
  replace hD : va_D A (ww_X10_skill a_m a_m_told a_m_kept a_m_isKept a_m_refused a_m_months a_m_heirs a_m_lasts a_m_cares a_m_bestCares a_m_ones a_m_others a_m_bytes a_m_anew a_m_values cI cB cZ cP cC above below retired manyLine bytesLong tokenAt tokenLong token value told refused) := hD
  refine lv_if_eq (tgt := 19) hx hb dX10_skill_4 (by decide) (fun c_2 => ?_) (fun c_2 => ?_)
  · replace hw := hw.1 c_2
    exact k_X10_skill_J19 C0  told refused _ _ _ hP hD hS (lv_sub hl [0] rfl) hw
  · replace hw := hw.2 c_2
    refine lv_iload_n hx hb dX10_skill_7 rfl (lv_at hl 2 rfl) ?_
    refine lv_i2l (v := v2.toInt64) hx hb dX10_skill_8 rfl ?_
    refine lv_lconst (v := 0) hx hb dX10_skill_9 rfl ?_
    refine lv_ldc2 (v := 9) hx hb hown (hts _ q_190) dX10_skill_10 ?_
    refine mx_ki (mx_rS (rm := rm_X10_in) (rest := []) hx hb hml hown hts (c_X10_in l D cI cB cZ cP cC (v2.toInt64) 0 9 _ _ hw) q_163 q_164 q_5 q_165 hd_X10_in ⟨(Nat.le_of_ble_eq_true rfl), (Nat.le_of_ble_eq_true rfl)⟩ rfl rfl hK hP hD [] rfl rfl rfl hl.1 rfl (Nat.le_of_ble_eq_true rfl) dX10_skill_13 ⟨(Nat.le_of_ble_eq_true rfl), (Nat.le_of_ble_eq_true rfl)⟩) hP hD hS hA [] [0, 1, 2] [0, 1, 2] (fun _ => ww_X10_skill a_m a_m_told a_m_kept a_m_isKept a_m_refused a_m_months a_m_heirs a_m_lasts a_m_cares a_m_bestCares a_m_ones a_m_others a_m_bytes a_m_anew a_m_values cI cB cZ cP cC above below retired manyLine bytesLong tokenAt tokenLong token value told refused) rfl rfl rfl (by decide) rfl (fun _ => rfl) (fun r_5 u H locs hw hP hD hS => ?_)
    try dsimp only at hw
    replace hP : va_P D vwCl (ww_X10_skill a_m a_m_told a_m_kept a_m_isKept a_m_refused a_m_months a_m_heirs a_m_lasts a_m_cares a_m_bestCares a_m_ones a_m_others a_m_bytes a_m_anew a_m_values cI cB cZ cP cC above below retired manyLine bytesLong tokenAt tokenLong token value told refused) H := hP
    replace hD : va_D A (ww_X10_skill a_m a_m_told a_m_kept a_m_isKept a_m_refused a_m_months a_m_heirs a_m_lasts a_m_cares a_m_bestCares a_m_ones a_m_others a_m_bytes a_m_anew a_m_values cI cB cZ cP cC above below retired manyLine bytesLong tokenAt tokenLong token value told refused) := hD
    refine lv_if_ne (tgt := 26) hx hb dX10_skill_16 (by decide) (fun c_6 => ?_) (fun c_6 => ?_)
    · replace hw := hw.2 c_6
      refine lv_aload_n hx hb dX10_skill_26 rfl (lv_at hl 0 rfl) ?_
      refine mx_get (ci := 10) (C := RX10) (T := TX10) (N := 23) hx hb hown in_wsX100 hts hK hP 0 rfl rfl 0 (by decide) q_91 rfl (v := .ref a_m_told) rfl dX10_skill_27 ?_
      refine lv_bipush (v := 18) hx hb dX10_skill_30 (by decide) ?_
      refine lv_iload_n hx hb dX10_skill_32 rfl (lv_at hl 1 rfl) ?_
      refine lv_iadd hx hb dX10_skill_33 ?_
      obtain ⟨h_7, hw⟩ := hw
      refine mx_iald hx hb hK hP 1 0 rfl rfl h_7 (told (18 + v1).toNatClampNeg) rfl dX10_skill_34 ?_
      refine lv_topi (fun x_8 ex_8 => ?_)
      replace hw := hw x_8 ex_8
      refine lv_istore_n (lv' := [(3, .int x_8), (0, .ref a_m), (1, .int v1), (2, .int v2)]) hx hb dX10_skill_35 rfl hl (by decide) rfl (fun ls hl => ?_)
      refine lv_aload_n hx hb dX10_skill_36 rfl (lv_at hl 1 rfl) ?_
      refine mx_get (ci := 10) (C := RX10) (T := TX10) (N := 23) hx hb hown in_wsX100 hts hK hP 0 rfl rfl 0 (by decide) q_91 rfl (v := .ref a_m_told) rfl dX10_skill_37 ?_
      refine lv_bipush (v := 18) hx hb dX10_skill_40 (by decide) ?_
      refine lv_iload_n hx hb dX10_skill_42 rfl (lv_at hl 2 rfl) ?_
      refine lv_iadd hx hb dX10_skill_43 ?_
      refine lv_iload_n hx hb dX10_skill_44 rfl (lv_at hl 3 rfl) ?_
      obtain ⟨f_9, ef_9⟩ : ∃ y : Nat → Int32, y = upd told (18 + v1).toNatClampNeg v2 := ⟨_, rfl⟩
      replace hw := hw f_9 ef_9
      refine mx_iast hx hb hK hP hD hS 1 0 rfl rfl h_7 f_9 ef_9 (ww_X10_skill a_m a_m_told a_m_kept a_m_isKept a_m_refused a_m_months a_m_heirs a_m_lasts a_m_cares a_m_bestCares a_m_ones a_m_others a_m_bytes a_m_anew a_m_values cI cB cZ cP cC above below retired manyLine bytesLong tokenAt tokenLong token value f_9 refused) rfl dX10_skill_45 (fun H locs hP hD hS => ?_)
      refine lv_aload_n hx hb dX10_skill_46 rfl (lv_at hl 1 rfl) ?_
      refine mx_get (ci := 10) (C := RX10) (T := TX10) (N := 23) hx hb hown in_wsX100 hts hK hP 0 rfl rfl 0 (by decide) q_91 rfl (v := .ref a_m_told) rfl dX10_skill_47 ?_
      refine lv_iconst (v := 3) hx hb dX10_skill_50 (by decide) ?_
      refine lv_iconst (v := 0) hx hb dX10_skill_51 (by decide) ?_
      obtain ⟨f_10, ef_10⟩ : ∃ y : Nat → Int32, y = upd f_9 3 0 := ⟨_, rfl⟩
      replace hw := hw f_10 ef_10
      refine mx_iast hx hb hK hP hD hS 1 0 rfl rfl (mx_lit rfl) f_10 ef_10 (ww_X10_skill a_m a_m_told a_m_kept a_m_isKept a_m_refused a_m_months a_m_heirs a_m_lasts a_m_cares a_m_bestCares a_m_ones a_m_others a_m_bytes a_m_anew a_m_values cI cB cZ cP cC above below retired manyLine bytesLong tokenAt tokenLong token value f_10 refused) rfl dX10_skill_52 (fun H locs hP hD hS => ?_)
      refine lv_iload_n hx hb dX10_skill_53 rfl (lv_at hl 0 rfl) ?_
      exact mx_iret (f_10, refused) hx hb hr hlocks rfl hw hK hP hD hS dX10_skill_54
    · replace hw := hw.1 c_6
      exact k_X10_skill_J19 C0  told refused _ _ _ hP hD hS (lv_sub hl [0] rfl) hw
/-! PramStateModel.sleepsAs(II)Z -/
abbrev ww_X10_sleepsAs (cI cB cZ cP cC : ClassId)  : va_W := []
abbrev qq_X10_sleepsAs (D : va_G) (cI cB cZ cP cC : ClassId)  (Post : Int32 → Prop) (A : Nat → Prop) : Array Value → State → Outcome → State → Prop := va_Qi (fun (r : Int32) (u : Unit) => Post r) (fun (u : Unit) t => mxB D (mxTy cI cB cZ cP cC) A (ww_X10_sleepsAs cI cB cZ cP cC) t) A
abbrev rm_X10_sleepsAs : Room := { frames := 0, cells := 0, slots := 0, locals := 0 }
theorem hd_X10_sleepsAs : yX10_sleepsAs.cls ≠ "java/lang/invoke/MethodHandle" ∧ yX10_sleepsAs.cls ≠ "java/lang/invoke/VarHandle" ∧ (parseMethodDescriptor yX10_sleepsAs.desc).map (fun d => d.parameters.length) = some 2 := by decide +kernel
def wp_X10_sleepsAs_J90  (Post : Int32 → Prop)  (v1 : Int32) : Prop :=
  ((v1 = 14 → Post 1) ∧ (¬ v1 = 14 → Post 0))
set_option maxHeartbeats 4000000 in
set_option maxRecDepth 100000 in
theorem k_X10_sleepsAs_J90 {p : Program} {l : Launch} {e : Env} {s : State} {m : MethodId} {ar : Array Value} {bl : List Frame} {meth : Method} {c : Code} {D : va_G} {A : Nat → Prop} {cI cB cZ cP cC : ClassId} {Post : Int32 → Prop} (C0 : mxC p s m ar meth c cX10_sleepsAs RX10 (some .boolean) 3 D (mxTy cI cB cZ cP cC) A) :
    ∀ (v1 : Int32) (H : Heap) (locs : List Loc) (ls : Array Slot), va_P D vwCl (ww_X10_sleepsAs cI cB cZ cP cC) H → va_D A (ww_X10_sleepsAs cI cB cZ cP cC) → va_S A s.heap H locs → lv_has ls 3 [(1, .int v1)] → wp_X10_sleepsAs_J90 Post  v1 → W p l e rm_X10_sleepsAs s m ar bl meth c H locs 0 0 (MQ bl (qq_X10_sleepsAs D cI cB cZ cP cC Post A) ar s 0 0 A) (F0 m 90 ls []) := by
  obtain ⟨hx, hb, hr, hlocks, hml, hown, hts, hK, hA⟩ := id C0
  intro v1 H locs ls hP hD hS hl hw
  refine lv_iload_n hx hb dX10_sleepsAs_90 rfl (lv_at hl 0 rfl) ?_
  refine lv_bipush (v := 14) hx hb dX10_sleepsAs_91 (by decide) ?_
  refine lv_icmp_ne (tgt := 100) hx hb dX10_sleepsAs_93 (by decide) (fun c_8 => ?_) (fun c_8 => ?_)
  · replace hw := hw.2 c_8
    refine lv_iconst (v := 0) hx hb dX10_sleepsAs_100 (by decide) ?_
    exact mx_iret () hx hb hr hlocks rfl hw hK hP hD hS dX10_sleepsAs_101
  · replace hw := hw.1 c_8
    refine lv_iconst (v := 1) hx hb dX10_sleepsAs_96 (by decide) ?_
    refine lv_goto (tgt := 101) hx hb dX10_sleepsAs_97 (by decide) ?_
    exact mx_iret () hx hb hr hlocks rfl hw hK hP hD hS dX10_sleepsAs_101
def wp_X10_sleepsAs_J29  (Post : Int32 → Prop)  (v0 : Int32) (v1 : Int32) (s0 : Int32) : Prop :=
  ((v0.toInt = 2 → ((s0 = 0 → Post 0) ∧ (¬ s0 = 0 → ((v1 = 2 → Post 0) ∧ (¬ v1 = 2 → ((v1 = 3 → Post 0) ∧ (¬ v1 = 3 → Post 1))))))) ∧ (v0.toInt = 3 → ((s0 = 0 ∨ s0 = 1) ∧ Post s0)) ∧ (v0.toInt = 4 → ((s0 = 0 → (wp_X10_sleepsAs_J90 Post v1)) ∧ (¬ s0 = 0 → ((v1 = 12 → (wp_X10_sleepsAs_J90 Post v1)) ∧ (¬ v1 = 12 → Post 1))))) ∧ (v0.toInt = 5 → ((s0 = 0 → ((v1 = 17 → Post 1) ∧ (¬ v1 = 17 → Post 0))) ∧ (¬ s0 = 0 → Post 1))) ∧ ((v0.toInt < 2 ∨ 5 < v0.toInt) → ((s0 = 0 ∨ s0 = 1) ∧ Post s0)))
set_option maxHeartbeats 4000000 in
set_option maxRecDepth 100000 in
theorem k_X10_sleepsAs_J29 {p : Program} {l : Launch} {e : Env} {s : State} {m : MethodId} {ar : Array Value} {bl : List Frame} {meth : Method} {c : Code} {D : va_G} {A : Nat → Prop} {cI cB cZ cP cC : ClassId} {Post : Int32 → Prop} (C0 : mxC p s m ar meth c cX10_sleepsAs RX10 (some .boolean) 3 D (mxTy cI cB cZ cP cC) A) :
    ∀ (v0 : Int32) (v1 : Int32) (s0 : Int32) (H : Heap) (locs : List Loc) (ls : Array Slot), va_P D vwCl (ww_X10_sleepsAs cI cB cZ cP cC) H → va_D A (ww_X10_sleepsAs cI cB cZ cP cC) → va_S A s.heap H locs → lv_has ls 3 [(0, .int v0), (1, .int v1)] → wp_X10_sleepsAs_J29 Post  v0 v1 s0 → W p l e rm_X10_sleepsAs s m ar bl meth c H locs 0 0 (MQ bl (qq_X10_sleepsAs D cI cB cZ cP cC Post A) ar s 0 0 A) (F0 m 29 ls [.int s0]) := by
  obtain ⟨hx, hb, hr, hlocks, hml, hown, hts, hK, hA⟩ := id C0
  intro v0 v1 s0 H locs ls hP hD hS hl hw
  refine lv_istore_n (lv' := [(2, .int s0), (0, .int v0), (1, .int v1)]) hx hb dX10_sleepsAs_29 rfl hl (by decide) rfl (fun ls hl => ?_)
  refine lv_iload_n hx hb dX10_sleepsAs_30 rfl (lv_at hl 1 rfl) ?_
  rcases (show v0.toInt = 2 ∨ v0.toInt = 3 ∨ v0.toInt = 4 ∨ v0.toInt = 5 ∨ (v0.toInt < 2 ∨ 5 < v0.toInt) by omega) with e_2 | e_2 | e_2 | e_2 | e_2
  · replace hw := hw.1 e_2
    refine lv_tableIn (tgt := 60) hx hb dX10_sleepsAs_31 (by omega) (by omega) (by rw [e_2]; rfl) (by decide) ?_
    refine lv_iload_n hx hb dX10_sleepsAs_60 rfl (lv_at hl 0 rfl) ?_
    refine lv_if_eq (tgt := 78) hx hb dX10_sleepsAs_61 (by decide) (fun c_3 => ?_) (fun c_3 => ?_)
    · replace hw := hw.1 c_3
      refine lv_iconst (v := 0) hx hb dX10_sleepsAs_78 (by decide) ?_
      exact mx_iret () hx hb hr hlocks rfl hw hK hP hD hS dX10_sleepsAs_79
    · replace hw := hw.2 c_3
      refine lv_iload_n hx hb dX10_sleepsAs_64 rfl (lv_at hl 2 rfl) ?_
      refine lv_iconst (v := 2) hx hb dX10_sleepsAs_65 (by decide) ?_
      refine lv_icmp_eq (tgt := 78) hx hb dX10_sleepsAs_66 (by decide) (fun c_4 => ?_) (fun c_4 => ?_)
      · replace hw := hw.1 c_4
        refine lv_iconst (v := 0) hx hb dX10_sleepsAs_78 (by decide) ?_
        exact mx_iret () hx hb hr hlocks rfl hw hK hP hD hS dX10_sleepsAs_79
      · replace hw := hw.2 c_4
        refine lv_iload_n hx hb dX10_sleepsAs_69 rfl (lv_at hl 2 rfl) ?_
        refine lv_iconst (v := 3) hx hb dX10_sleepsAs_70 (by decide) ?_
        refine lv_icmp_eq (tgt := 78) hx hb dX10_sleepsAs_71 (by decide) (fun c_5 => ?_) (fun c_5 => ?_)
        · replace hw := hw.1 c_5
          refine lv_iconst (v := 0) hx hb dX10_sleepsAs_78 (by decide) ?_
          exact mx_iret () hx hb hr hlocks rfl hw hK hP hD hS dX10_sleepsAs_79
        · replace hw := hw.2 c_5
          refine lv_iconst (v := 1) hx hb dX10_sleepsAs_74 (by decide) ?_
          refine lv_goto (tgt := 79) hx hb dX10_sleepsAs_75 (by decide) ?_
          exact mx_iret () hx hb hr hlocks rfl hw hK hP hD hS dX10_sleepsAs_79
  · replace hw := hw.2.1 e_2
    refine lv_tableIn (tgt := 118) hx hb dX10_sleepsAs_31 (by omega) (by omega) (by rw [e_2]; rfl) (by decide) ?_
    refine lv_iload_n hx hb dX10_sleepsAs_118 rfl (lv_at hl 0 rfl) ?_
    obtain ⟨h_6, hw⟩ := hw
    exact mx_iret () hx hb hr hlocks (mx_narZ h_6) hw hK hP hD hS dX10_sleepsAs_119
  · replace hw := hw.2.2.1 e_2
    refine lv_tableIn (tgt := 80) hx hb dX10_sleepsAs_31 (by omega) (by omega) (by rw [e_2]; rfl) (by decide) ?_
    refine lv_iload_n hx hb dX10_sleepsAs_80 rfl (lv_at hl 0 rfl) ?_
    refine lv_if_eq (tgt := 90) hx hb dX10_sleepsAs_81 (by decide) (fun c_7 => ?_) (fun c_7 => ?_)
    · replace hw := hw.1 c_7
      exact k_X10_sleepsAs_J90 C0  v1 _ _ _ hP hD hS (lv_sub hl [2] rfl) hw
    · replace hw := hw.2 c_7
      refine lv_iload_n hx hb dX10_sleepsAs_84 rfl (lv_at hl 2 rfl) ?_
      refine lv_bipush (v := 12) hx hb dX10_sleepsAs_85 (by decide) ?_
      refine lv_icmp_ne (tgt := 96) hx hb dX10_sleepsAs_87 (by decide) (fun c_9 => ?_) (fun c_9 => ?_)
      · replace hw := hw.2 c_9
        refine lv_iconst (v := 1) hx hb dX10_sleepsAs_96 (by decide) ?_
        refine lv_goto (tgt := 101) hx hb dX10_sleepsAs_97 (by decide) ?_
        exact mx_iret () hx hb hr hlocks rfl hw hK hP hD hS dX10_sleepsAs_101
      · replace hw := hw.1 c_9
        exact k_X10_sleepsAs_J90 C0  v1 _ _ _ hP hD hS (lv_sub hl [2] rfl) hw
  · replace hw := hw.2.2.2.1 e_2
    refine lv_tableIn (tgt := 102) hx hb dX10_sleepsAs_31 (by omega) (by omega) (by rw [e_2]; rfl) (by decide) ?_
    refine lv_iload_n hx hb dX10_sleepsAs_102 rfl (lv_at hl 0 rfl) ?_
    refine lv_if_ne (tgt := 112) hx hb dX10_sleepsAs_103 (by decide) (fun c_10 => ?_) (fun c_10 => ?_)
    · replace hw := hw.2 c_10
      refine lv_iconst (v := 1) hx hb dX10_sleepsAs_112 (by decide) ?_
      refine lv_goto (tgt := 117) hx hb dX10_sleepsAs_113 (by decide) ?_
      exact mx_iret () hx hb hr hlocks rfl hw hK hP hD hS dX10_sleepsAs_117
    · replace hw := hw.1 c_10
      refine lv_iload_n hx hb dX10_sleepsAs_106 rfl (lv_at hl 2 rfl) ?_
      refine lv_bipush (v := 17) hx hb dX10_sleepsAs_107 (by decide) ?_
      refine lv_icmp_ne (tgt := 116) hx hb dX10_sleepsAs_109 (by decide) (fun c_11 => ?_) (fun c_11 => ?_)
      · replace hw := hw.2 c_11
        refine lv_iconst (v := 0) hx hb dX10_sleepsAs_116 (by decide) ?_
        exact mx_iret () hx hb hr hlocks rfl hw hK hP hD hS dX10_sleepsAs_117
      · replace hw := hw.1 c_11
        refine lv_iconst (v := 1) hx hb dX10_sleepsAs_112 (by decide) ?_
        refine lv_goto (tgt := 117) hx hb dX10_sleepsAs_113 (by decide) ?_
        exact mx_iret () hx hb hr hlocks rfl hw hK hP hD hS dX10_sleepsAs_117
  · replace hw := hw.2.2.2.2 e_2
    refine lv_tableOut (tgt := 118) hx hb dX10_sleepsAs_31 e_2 (by decide) ?_
    refine lv_iload_n hx hb dX10_sleepsAs_118 rfl (lv_at hl 0 rfl) ?_
    obtain ⟨h_12, hw⟩ := hw
    exact mx_iret () hx hb hr hlocks (mx_narZ h_12) hw hK hP hD hS dX10_sleepsAs_119
def wp_X10_sleepsAs_J24  (Post : Int32 → Prop)  (v0 : Int32) (v1 : Int32) : Prop :=
  (wp_X10_sleepsAs_J29 Post v0 v1 1)
set_option maxHeartbeats 4000000 in
set_option maxRecDepth 100000 in
theorem k_X10_sleepsAs_J24 {p : Program} {l : Launch} {e : Env} {s : State} {m : MethodId} {ar : Array Value} {bl : List Frame} {meth : Method} {c : Code} {D : va_G} {A : Nat → Prop} {cI cB cZ cP cC : ClassId} {Post : Int32 → Prop} (C0 : mxC p s m ar meth c cX10_sleepsAs RX10 (some .boolean) 3 D (mxTy cI cB cZ cP cC) A) :
    ∀ (v0 : Int32) (v1 : Int32) (H : Heap) (locs : List Loc) (ls : Array Slot), va_P D vwCl (ww_X10_sleepsAs cI cB cZ cP cC) H → va_D A (ww_X10_sleepsAs cI cB cZ cP cC) → va_S A s.heap H locs → lv_has ls 3 [(0, .int v0), (1, .int v1)] → wp_X10_sleepsAs_J24 Post  v0 v1 → W p l e rm_X10_sleepsAs s m ar bl meth c H locs 0 0 (MQ bl (qq_X10_sleepsAs D cI cB cZ cP cC Post A) ar s 0 0 A) (F0 m 24 ls []) := by
  obtain ⟨hx, hb, hr, hlocks, hml, hown, hts, hK, hA⟩ := id C0
  intro v0 v1 H locs ls hP hD hS hl hw
  refine lv_iconst (v := 1) hx hb dX10_sleepsAs_24 (by decide) ?_
  refine lv_goto (tgt := 29) hx hb dX10_sleepsAs_25 (by decide) ?_
  exact k_X10_sleepsAs_J29 C0  v0 v1 1 _ _ _ hP hD hS (lv_sub hl [0, 1] rfl) hw
def wp_X10_sleepsAs (v0 : Int32) (v1 : Int32) (Post : Int32 → Prop) : Prop :=
  ((19 ≤ v1 → (wp_X10_sleepsAs_J24 Post v0 v1)) ∧ (¬ 19 ≤ v1 → ((v1 < 7 → (wp_X10_sleepsAs_J24 Post v0 v1)) ∧ (¬ v1 < 7 → ((v1 = 12 → (wp_X10_sleepsAs_J24 Post v0 v1)) ∧ (¬ v1 = 12 → ((v1 = 13 → (wp_X10_sleepsAs_J24 Post v0 v1)) ∧ (¬ v1 = 13 → (wp_X10_sleepsAs_J29 Post v0 v1 0)))))))))
set_option maxHeartbeats 4000000 in
set_option maxRecDepth 100000 in
theorem c_X10_sleepsAs (l : Launch) (D : va_G) (cI cB cZ cP cC : ClassId)  (v0 : Int32) (v1 : Int32) (sz : Nat) (Post : Int32 → Prop) (hw : wp_X10_sleepsAs v0 v1 Post) :
    Met l yX10_sleepsAs (Cond.code yX10_sleepsAs cX10_sleepsAs 3 (some .boolean) :: wsAll) rm_X10_sleepsAs (va_Pc [.int v0, .int v1] (mxP D (mxTy cI cB cZ cP cC) sz (ww_X10_sleepsAs cI cB cZ cP cC))) (qq_X10_sleepsAs D cI cB cZ cP cC Post (va_A (ww_X10_sleepsAs cI cB cZ cP cC) sz)) 0 0 (va_A (ww_X10_sleepsAs cI cB cZ cP cC) sz) := by
  refine mx_of (Qc := qq_X10_sleepsAs D cI cB cZ cP cC Post) (by decide) (Nat.le_of_ble_eq_true rfl) ?_
  intro p e s m bl meth c A ls C0 hP hD hS hl
  replace C0 : mxC p s m [.int v0, .int v1].toArray meth c cX10_sleepsAs RX10 (some .boolean) 3 D (mxTy cI cB cZ cP cC) A := C0
  obtain ⟨hx, hb, hr, hlocks, hml, hown, hts, hK, hA⟩ := id C0
  replace hl : lv_has ls 3 [(0, .int v0), (1, .int v1)] := hl
  unfold wp_X10_sleepsAs at hw
  refine lv_iload_n hx hb dX10_sleepsAs_0 rfl (lv_at hl 1 rfl) ?_
  refine lv_bipush (v := 19) hx hb dX10_sleepsAs_1 (by decide) ?_
  refine lv_icmp_ge (tgt := 24) hx hb dX10_sleepsAs_3 (by decide) (fun c_1 => ?_) (fun c_1 => ?_)
  · replace hw := hw.1 c_1
    exact k_X10_sleepsAs_J24 C0  v0 v1 _ _ _ hP hD hS (lv_sub hl [0, 1] rfl) hw
  · replace hw := hw.2 c_1
    refine lv_iload_n hx hb dX10_sleepsAs_6 rfl (lv_at hl 1 rfl) ?_
    refine lv_bipush (v := 7) hx hb dX10_sleepsAs_7 (by decide) ?_
    refine lv_icmp_lt (tgt := 24) hx hb dX10_sleepsAs_9 (by decide) (fun c_13 => ?_) (fun c_13 => ?_)
    · replace hw := hw.1 c_13
      exact k_X10_sleepsAs_J24 C0  v0 v1 _ _ _ hP hD hS (lv_sub hl [0, 1] rfl) hw
    · replace hw := hw.2 c_13
      refine lv_iload_n hx hb dX10_sleepsAs_12 rfl (lv_at hl 1 rfl) ?_
      refine lv_bipush (v := 12) hx hb dX10_sleepsAs_13 (by decide) ?_
      refine lv_icmp_eq (tgt := 24) hx hb dX10_sleepsAs_15 (by decide) (fun c_14 => ?_) (fun c_14 => ?_)
      · replace hw := hw.1 c_14
        exact k_X10_sleepsAs_J24 C0  v0 v1 _ _ _ hP hD hS (lv_sub hl [0, 1] rfl) hw
      · replace hw := hw.2 c_14
        refine lv_iload_n hx hb dX10_sleepsAs_18 rfl (lv_at hl 1 rfl) ?_
        refine lv_bipush (v := 13) hx hb dX10_sleepsAs_19 (by decide) ?_
        refine lv_icmp_ne (tgt := 28) hx hb dX10_sleepsAs_21 (by decide) (fun c_15 => ?_) (fun c_15 => ?_)
        · replace hw := hw.2 c_15
          refine lv_iconst (v := 0) hx hb dX10_sleepsAs_28 (by decide) ?_
          exact k_X10_sleepsAs_J29 C0  v0 v1 0 _ _ _ hP hD hS (lv_sub hl [0, 1] rfl) hw
        · replace hw := hw.1 c_15
          exact k_X10_sleepsAs_J24 C0  v0 v1 _ _ _ hP hD hS (lv_sub hl [0, 1] rfl) hw
/-! PramStateModel.criesAs(II)I -/
abbrev ww_X10_criesAs (cI cB cZ cP cC : ClassId)  : va_W := []
abbrev qq_X10_criesAs (D : va_G) (cI cB cZ cP cC : ClassId)  (Post : Int32 → Prop) (A : Nat → Prop) : Array Value → State → Outcome → State → Prop := va_Qi (fun (r : Int32) (u : Unit) => Post r) (fun (u : Unit) t => mxB D (mxTy cI cB cZ cP cC) A (ww_X10_criesAs cI cB cZ cP cC) t) A
abbrev rm_X10_criesAs : Room := { frames := 1, cells := 0, slots := 0, locals := 25 }
theorem hd_X10_criesAs : yX10_criesAs.cls ≠ "java/lang/invoke/MethodHandle" ∧ yX10_criesAs.cls ≠ "java/lang/invoke/VarHandle" ∧ (parseMethodDescriptor yX10_criesAs.desc).map (fun d => d.parameters.length) = some 2 := by decide +kernel
def wp_X10_criesAs_J11  (Post : Int32 → Prop)  (v0 : Int32) (v1 : Int32) (s0 : Int32) : Prop :=
  ((v0.toInt = 1 → Post (2 * s0)) ∧ (v0.toInt = 2 → (wp_X10_in (v1.toInt64) 6 11 (fun r_3 => ((r_3 = 0 → Post s0) ∧ (¬ r_3 = 0 → Post (s0 + 3)))))) ∧ (v0.toInt = 3 → Post s0) ∧ (v0.toInt = 4 → Post s0) ∧ (v0.toInt = 5 → Post ((2 * s0) - 1)) ∧ ((v0.toInt < 1 ∨ 5 < v0.toInt) → Post s0))
set_option maxHeartbeats 4000000 in
set_option maxRecDepth 100000 in
theorem k_X10_criesAs_J11 {p : Program} {l : Launch} {e : Env} {s : State} {m : MethodId} {ar : Array Value} {bl : List Frame} {meth : Method} {c : Code} {D : va_G} {A : Nat → Prop} {cI cB cZ cP cC : ClassId} {Post : Int32 → Prop} (C0 : mxC p s m ar meth c cX10_criesAs RX10 (some .int) 3 D (mxTy cI cB cZ cP cC) A) :
    ∀ (v0 : Int32) (v1 : Int32) (s0 : Int32) (H : Heap) (locs : List Loc) (ls : Array Slot), va_P D vwCl (ww_X10_criesAs cI cB cZ cP cC) H → va_D A (ww_X10_criesAs cI cB cZ cP cC) → va_S A s.heap H locs → lv_has ls 3 [(0, .int v0), (1, .int v1)] → wp_X10_criesAs_J11 Post  v0 v1 s0 → W p l e rm_X10_criesAs s m ar bl meth c H locs 0 0 (MQ bl (qq_X10_criesAs D cI cB cZ cP cC Post A) ar s 0 0 A) (F0 m 11 ls [.int s0]) := by
  obtain ⟨hx, hb, hr, hlocks, hml, hown, hts, hK, hA⟩ := id C0
  intro v0 v1 s0 H locs ls hP hD hS hl hw
  refine lv_istore_n (lv' := [(2, .int s0), (0, .int v0), (1, .int v1)]) hx hb dX10_criesAs_11 rfl hl (by decide) rfl (fun ls hl => ?_)
  refine lv_iload_n hx hb dX10_criesAs_12 rfl (lv_at hl 1 rfl) ?_
  rcases (show v0.toInt = 1 ∨ v0.toInt = 2 ∨ v0.toInt = 3 ∨ v0.toInt = 4 ∨ v0.toInt = 5 ∨ (v0.toInt < 1 ∨ 5 < v0.toInt) by omega) with e_2 | e_2 | e_2 | e_2 | e_2 | e_2
  · replace hw := hw.1 e_2
    refine lv_tableIn (tgt := 48) hx hb dX10_criesAs_13 (by omega) (by omega) (by rw [e_2]; rfl) (by decide) ?_
    refine lv_iconst (v := 2) hx hb dX10_criesAs_48 (by decide) ?_
    refine lv_iload_n hx hb dX10_criesAs_49 rfl (lv_at hl 0 rfl) ?_
    refine lv_imul hx hb dX10_criesAs_50 ?_
    exact mx_iret () hx hb hr hlocks rfl hw hK hP hD hS dX10_criesAs_51
  · replace hw := hw.2.1 e_2
    refine lv_tableIn (tgt := 52) hx hb dX10_criesAs_13 (by omega) (by omega) (by rw [e_2]; rfl) (by decide) ?_
    refine lv_iload_n hx hb dX10_criesAs_52 rfl (lv_at hl 2 rfl) ?_
    refine lv_i2l (v := v1.toInt64) hx hb dX10_criesAs_53 rfl ?_
    refine lv_ldc2 (v := 6) hx hb hown (hts _ q_622) dX10_criesAs_54 ?_
    refine lv_ldc2 (v := 11) hx hb hown (hts _ q_623) dX10_criesAs_57 ?_
    refine mx_ki (mx_rS (rm := rm_X10_in) (rest := []) hx hb hml hown hts (c_X10_in l D cI cB cZ cP cC (v1.toInt64) 6 11 _ _ hw) q_163 q_164 q_5 q_165 hd_X10_in ⟨(Nat.le_of_ble_eq_true rfl), (Nat.le_of_ble_eq_true rfl)⟩ rfl rfl hK hP hD [] rfl rfl rfl hl.1 rfl (Nat.le_of_ble_eq_true rfl) dX10_criesAs_60 ⟨(Nat.le_of_ble_eq_true rfl), (Nat.le_of_ble_eq_true rfl)⟩) hP hD hS hA [] [] [] (fun _ => ww_X10_criesAs cI cB cZ cP cC) rfl rfl rfl (by decide) rfl (fun _ => rfl) (fun r_3 u H locs hw hP hD hS => ?_)
    try dsimp only at hw
    replace hP : va_P D vwCl (ww_X10_criesAs cI cB cZ cP cC) H := hP
    replace hD : va_D A (ww_X10_criesAs cI cB cZ cP cC) := hD
    refine lv_if_eq (tgt := 72) hx hb dX10_criesAs_63 (by decide) (fun c_4 => ?_) (fun c_4 => ?_)
    · replace hw := hw.1 c_4
      refine lv_iload_n hx hb dX10_criesAs_72 rfl (lv_at hl 0 rfl) ?_
      exact mx_iret () hx hb hr hlocks rfl hw hK hP hD hS dX10_criesAs_73
    · replace hw := hw.2 c_4
      refine lv_iload_n hx hb dX10_criesAs_66 rfl (lv_at hl 0 rfl) ?_
      refine lv_iconst (v := 3) hx hb dX10_criesAs_67 (by decide) ?_
      refine lv_iadd hx hb dX10_criesAs_68 ?_
      refine lv_goto (tgt := 73) hx hb dX10_criesAs_69 (by decide) ?_
      exact mx_iret () hx hb hr hlocks rfl hw hK hP hD hS dX10_criesAs_73
  · replace hw := hw.2.2.1 e_2
    refine lv_tableIn (tgt := 80) hx hb dX10_criesAs_13 (by omega) (by omega) (by rw [e_2]; rfl) (by decide) ?_
    refine lv_iload_n hx hb dX10_criesAs_80 rfl (lv_at hl 0 rfl) ?_
    exact mx_iret () hx hb hr hlocks rfl hw hK hP hD hS dX10_criesAs_81
  · replace hw := hw.2.2.2.1 e_2
    refine lv_tableIn (tgt := 80) hx hb dX10_criesAs_13 (by omega) (by omega) (by rw [e_2]; rfl) (by decide) ?_
    refine lv_iload_n hx hb dX10_criesAs_80 rfl (lv_at hl 0 rfl) ?_
    exact mx_iret () hx hb hr hlocks rfl hw hK hP hD hS dX10_criesAs_81
  · replace hw := hw.2.2.2.2.1 e_2
    refine lv_tableIn (tgt := 74) hx hb dX10_criesAs_13 (by omega) (by omega) (by rw [e_2]; rfl) (by decide) ?_
    refine lv_iconst (v := 2) hx hb dX10_criesAs_74 (by decide) ?_
    refine lv_iload_n hx hb dX10_criesAs_75 rfl (lv_at hl 0 rfl) ?_
    refine lv_imul hx hb dX10_criesAs_76 ?_
    refine lv_iconst (v := 1) hx hb dX10_criesAs_77 (by decide) ?_
    refine lv_isub hx hb dX10_criesAs_78 ?_
    exact mx_iret () hx hb hr hlocks rfl hw hK hP hD hS dX10_criesAs_79
  · replace hw := hw.2.2.2.2.2 e_2
    refine lv_tableOut (tgt := 80) hx hb dX10_criesAs_13 e_2 (by decide) ?_
    refine lv_iload_n hx hb dX10_criesAs_80 rfl (lv_at hl 0 rfl) ?_
    exact mx_iret () hx hb hr hlocks rfl hw hK hP hD hS dX10_criesAs_81
def wp_X10_criesAs (v0 : Int32) (v1 : Int32) (Post : Int32 → Prop) : Prop :=
  ((6 ≤ v1 → (wp_X10_criesAs_J11 Post v0 v1 2)) ∧ (¬ 6 ≤ v1 → (wp_X10_criesAs_J11 Post v0 v1 3)))
set_option maxHeartbeats 4000000 in
set_option maxRecDepth 100000 in
theorem c_X10_criesAs (l : Launch) (D : va_G) (cI cB cZ cP cC : ClassId)  (v0 : Int32) (v1 : Int32) (sz : Nat) (Post : Int32 → Prop) (hw : wp_X10_criesAs v0 v1 Post) :
    Met l yX10_criesAs (Cond.code yX10_criesAs cX10_criesAs 3 (some .int) :: wsAll) rm_X10_criesAs (va_Pc [.int v0, .int v1] (mxP D (mxTy cI cB cZ cP cC) sz (ww_X10_criesAs cI cB cZ cP cC))) (qq_X10_criesAs D cI cB cZ cP cC Post (va_A (ww_X10_criesAs cI cB cZ cP cC) sz)) 0 0 (va_A (ww_X10_criesAs cI cB cZ cP cC) sz) := by
  refine mx_of (Qc := qq_X10_criesAs D cI cB cZ cP cC Post) (by decide) (Nat.le_of_ble_eq_true rfl) ?_
  intro p e s m bl meth c A ls C0 hP hD hS hl
  replace C0 : mxC p s m [.int v0, .int v1].toArray meth c cX10_criesAs RX10 (some .int) 3 D (mxTy cI cB cZ cP cC) A := C0
  obtain ⟨hx, hb, hr, hlocks, hml, hown, hts, hK, hA⟩ := id C0
  replace hl : lv_has ls 3 [(0, .int v0), (1, .int v1)] := hl
  unfold wp_X10_criesAs at hw
  refine lv_iload_n hx hb dX10_criesAs_0 rfl (lv_at hl 1 rfl) ?_
  refine lv_bipush (v := 6) hx hb dX10_criesAs_1 (by decide) ?_
  refine lv_icmp_ge (tgt := 10) hx hb dX10_criesAs_3 (by decide) (fun c_1 => ?_) (fun c_1 => ?_)
  · replace hw := hw.1 c_1
    refine lv_iconst (v := 2) hx hb dX10_criesAs_10 (by decide) ?_
    exact k_X10_criesAs_J11 C0  v0 v1 2 _ _ _ hP hD hS (lv_sub hl [0, 1] rfl) hw
  · replace hw := hw.2 c_1
    refine lv_iconst (v := 3) hx hb dX10_criesAs_6 (by decide) ?_
    refine lv_goto (tgt := 11) hx hb dX10_criesAs_7 (by decide) ?_
    exact k_X10_criesAs_J11 C0  v0 v1 3 _ _ _ hP hD hS (lv_sub hl [0, 1] rfl) hw
/-! PramStateModel.walksAs(I)I -/
abbrev ww_X10_walksAs (cI cB cZ cP cC : ClassId)  : va_W := []
abbrev qq_X10_walksAs (D : va_G) (cI cB cZ cP cC : ClassId)  (Post : Int32 → Prop) (A : Nat → Prop) : Array Value → State → Outcome → State → Prop := va_Qi (fun (r : Int32) (u : Unit) => Post r) (fun (u : Unit) t => mxB D (mxTy cI cB cZ cP cC) A (ww_X10_walksAs cI cB cZ cP cC) t) A
abbrev rm_X10_walksAs : Room := { frames := 0, cells := 0, slots := 0, locals := 0 }
theorem hd_X10_walksAs : yX10_walksAs.cls ≠ "java/lang/invoke/MethodHandle" ∧ yX10_walksAs.cls ≠ "java/lang/invoke/VarHandle" ∧ (parseMethodDescriptor yX10_walksAs.desc).map (fun d => d.parameters.length) = some 1 := by decide +kernel
def wp_X10_walksAs (v0 : Int32) (Post : Int32 → Prop) : Prop :=
  ((v0 = 3 → Post 11) ∧ (¬ v0 = 3 → ((v0 = 4 → Post 18) ∧ (¬ v0 = 4 → Post 14))))
set_option maxHeartbeats 4000000 in
set_option maxRecDepth 100000 in
theorem c_X10_walksAs (l : Launch) (D : va_G) (cI cB cZ cP cC : ClassId)  (v0 : Int32) (sz : Nat) (Post : Int32 → Prop) (hw : wp_X10_walksAs v0 Post) :
    Met l yX10_walksAs (Cond.code yX10_walksAs cX10_walksAs 1 (some .int) :: wsAll) rm_X10_walksAs (va_Pc [.int v0] (mxP D (mxTy cI cB cZ cP cC) sz (ww_X10_walksAs cI cB cZ cP cC))) (qq_X10_walksAs D cI cB cZ cP cC Post (va_A (ww_X10_walksAs cI cB cZ cP cC) sz)) 0 0 (va_A (ww_X10_walksAs cI cB cZ cP cC) sz) := by
  refine mx_of (Qc := qq_X10_walksAs D cI cB cZ cP cC Post) (by decide) (Nat.le_of_ble_eq_true rfl) ?_
  intro p e s m bl meth c A ls C0 hP hD hS hl
  replace C0 : mxC p s m [.int v0].toArray meth c cX10_walksAs RX10 (some .int) 1 D (mxTy cI cB cZ cP cC) A := C0
  obtain ⟨hx, hb, hr, hlocks, hml, hown, hts, hK, hA⟩ := id C0
  replace hl : lv_has ls 1 [(0, .int v0)] := hl
  unfold wp_X10_walksAs at hw
  refine lv_iload_n hx hb dX10_walksAs_0 rfl (lv_at hl 0 rfl) ?_
  refine lv_iconst (v := 3) hx hb dX10_walksAs_1 (by decide) ?_
  refine lv_icmp_ne (tgt := 10) hx hb dX10_walksAs_2 (by decide) (fun c_1 => ?_) (fun c_1 => ?_)
  · replace hw := hw.2 c_1
    refine lv_iload_n hx hb dX10_walksAs_10 rfl (lv_at hl 0 rfl) ?_
    refine lv_iconst (v := 4) hx hb dX10_walksAs_11 (by decide) ?_
    refine lv_icmp_ne (tgt := 20) hx hb dX10_walksAs_12 (by decide) (fun c_2 => ?_) (fun c_2 => ?_)
    · replace hw := hw.2 c_2
      refine lv_bipush (v := 14) hx hb dX10_walksAs_20 (by decide) ?_
      exact mx_iret () hx hb hr hlocks rfl hw hK hP hD hS dX10_walksAs_22
    · replace hw := hw.1 c_2
      refine lv_bipush (v := 18) hx hb dX10_walksAs_15 (by decide) ?_
      refine lv_goto (tgt := 22) hx hb dX10_walksAs_17 (by decide) ?_
      exact mx_iret () hx hb hr hlocks rfl hw hK hP hD hS dX10_walksAs_22
  · replace hw := hw.1 c_1
    refine lv_bipush (v := 11) hx hb dX10_walksAs_5 (by decide) ?_
    refine lv_goto (tgt := 22) hx hb dX10_walksAs_7 (by decide) ?_
    exact mx_iret () hx hb hr hlocks rfl hw hK hP hD hS dX10_walksAs_22
/-! PramStateModel.kindOf(I)I -/
abbrev ww_X10_kindOf (a_m a_m_told a_m_kept a_m_isKept a_m_refused a_m_months a_m_heirs a_m_lasts a_m_cares a_m_bestCares a_m_ones a_m_others a_m_bytes a_m_anew a_m_values : Nat) (cI cB cZ cP cC : ClassId) (above : Int64) (below : Int64) (retired : Int32) (manyLine : Int32) (bytesLong : Int32) (tokenAt : Int32) (tokenLong : Int32) (token : Int32) (value : Int32) (told : Nat → Int32) : va_W := [(a_m, .inr (10, [.ref a_m_told, .ref a_m_kept, .ref a_m_isKept, .ref a_m_refused, .long above, .long below, .ref a_m_months, .int retired, .ref a_m_heirs, .ref a_m_lasts, .int manyLine, .ref a_m_cares, .ref a_m_bestCares, .ref a_m_ones, .ref a_m_others, .ref a_m_bytes, .int bytesLong, .int tokenAt, .int tokenLong, .int token, .int value, .ref a_m_anew, .ref a_m_values])), (a_m_told, .inl (cI, 190, .inl told))]
abbrev qq_X10_kindOf (D : va_G) (a_m a_m_told a_m_kept a_m_isKept a_m_refused a_m_months a_m_heirs a_m_lasts a_m_cares a_m_bestCares a_m_ones a_m_others a_m_bytes a_m_anew a_m_values : Nat) (cI cB cZ cP cC : ClassId) (above : Int64) (below : Int64) (retired : Int32) (manyLine : Int32) (bytesLong : Int32) (tokenAt : Int32) (tokenLong : Int32) (token : Int32) (value : Int32) (told : Nat → Int32) (Post : Int32 → Prop) (A : Nat → Prop) : Array Value → State → Outcome → State → Prop := va_Qi (fun (r : Int32) (u : Unit) => Post r) (fun (u : Unit) t => mxB D (mxTy cI cB cZ cP cC) A (ww_X10_kindOf a_m a_m_told a_m_kept a_m_isKept a_m_refused a_m_months a_m_heirs a_m_lasts a_m_cares a_m_bestCares a_m_ones a_m_others a_m_bytes a_m_anew a_m_values cI cB cZ cP cC above below retired manyLine bytesLong tokenAt tokenLong token value told) t) A
abbrev rm_X10_kindOf : Room := { frames := 0, cells := 0, slots := 0, locals := 0 }
theorem hd_X10_kindOf : yX10_kindOf.cls = RX10 ∧ yX10_kindOf.cls ≠ "java/lang/invoke/MethodHandle" ∧ yX10_kindOf.cls ≠ "java/lang/invoke/VarHandle" ∧ (parseMethodDescriptor yX10_kindOf.desc).map (fun d => d.parameters.length) = some 1 := by decide +kernel
def wp_X10_kindOf (told : Nat → Int32) (v1 : Int32) (Post : Int32 → Prop) : Prop :=
  (vp_in (24 + v1) 190 ∧ Post (told (24 + v1).toNatClampNeg))
set_option maxHeartbeats 4000000 in
set_option maxRecDepth 100000 in
theorem c_X10_kindOf (l : Launch) (D : va_G) (cI cB cZ cP cC : ClassId) (a_m a_m_told a_m_kept a_m_isKept a_m_refused a_m_months a_m_heirs a_m_lasts a_m_cares a_m_bestCares a_m_ones a_m_others a_m_bytes a_m_anew a_m_values : Nat) (above : Int64) (below : Int64) (retired : Int32) (manyLine : Int32) (bytesLong : Int32) (tokenAt : Int32) (tokenLong : Int32) (token : Int32) (value : Int32) (told : Nat → Int32) (v1 : Int32) (sz : Nat) (Post : Int32 → Prop) (hw : wp_X10_kindOf told v1 Post) :
    Met l yX10_kindOf (Cond.code yX10_kindOf cX10_kindOf 2 (some .int) :: wsAll) rm_X10_kindOf (va_Pc [.ref a_m, .int v1] (mxP D (mxTy cI cB cZ cP cC) sz (ww_X10_kindOf a_m a_m_told a_m_kept a_m_isKept a_m_refused a_m_months a_m_heirs a_m_lasts a_m_cares a_m_bestCares a_m_ones a_m_others a_m_bytes a_m_anew a_m_values cI cB cZ cP cC above below retired manyLine bytesLong tokenAt tokenLong token value told))) (qq_X10_kindOf D a_m a_m_told a_m_kept a_m_isKept a_m_refused a_m_months a_m_heirs a_m_lasts a_m_cares a_m_bestCares a_m_ones a_m_others a_m_bytes a_m_anew a_m_values cI cB cZ cP cC above below retired manyLine bytesLong tokenAt tokenLong token value told Post (va_A (ww_X10_kindOf a_m a_m_told a_m_kept a_m_isKept a_m_refused a_m_months a_m_heirs a_m_lasts a_m_cares a_m_bestCares a_m_ones a_m_others a_m_bytes a_m_anew a_m_values cI cB cZ cP cC above below retired manyLine bytesLong tokenAt tokenLong token value told) sz)) 0 0 (va_A (ww_X10_kindOf a_m a_m_told a_m_kept a_m_isKept a_m_refused a_m_months a_m_heirs a_m_lasts a_m_cares a_m_bestCares a_m_ones a_m_others a_m_bytes a_m_anew a_m_values cI cB cZ cP cC above below retired manyLine bytesLong tokenAt tokenLong token value told) sz) := by
  refine mx_of (Qc := qq_X10_kindOf D a_m a_m_told a_m_kept a_m_isKept a_m_refused a_m_months a_m_heirs a_m_lasts a_m_cares a_m_bestCares a_m_ones a_m_others a_m_bytes a_m_anew a_m_values cI cB cZ cP cC above below retired manyLine bytesLong tokenAt tokenLong token value told Post) (by decide) (Nat.le_of_ble_eq_true rfl) ?_
  intro p e s m bl meth c A ls C0 hP hD hS hl
  replace C0 : mxC p s m [.ref a_m, .int v1].toArray meth c cX10_kindOf RX10 (some .int) 2 D (mxTy cI cB cZ cP cC) A := C0
  obtain ⟨hx, hb, hr, hlocks, hml, hown, hts, hK, hA⟩ := id C0
  replace hl : lv_has ls 2 [(0, .ref a_m), (1, .int v1)] := hl
  unfold wp_X10_kindOf at hw
  refine lv_aload_n hx hb dX10_kindOf_0 rfl (lv_at hl 0 rfl) ?_
  refine mx_get (ci := 10) (C := RX10) (T := TX10) (N := 23) hx hb hown in_wsX100 hts hK hP 0 rfl rfl 0 (by decide) q_91 rfl (v := .ref a_m_told) rfl dX10_kindOf_1 ?_
  refine lv_bipush (v := 24) hx hb dX10_kindOf_4 (by decide) ?_
  refine lv_iload_n hx hb dX10_kindOf_6 rfl (lv_at hl 1 rfl) ?_
  refine lv_iadd hx hb dX10_kindOf_7 ?_
  obtain ⟨h_1, hw⟩ := hw
  refine mx_iald hx hb hK hP 1 0 rfl rfl h_1 (told (24 + v1).toNatClampNeg) rfl dX10_kindOf_8 ?_
  exact mx_iret () hx hb hr hlocks rfl hw hK hP hD hS dX10_kindOf_9
/-! PramStateModel.isAwake(II)Z -/
abbrev ww_X10_isAwake (a_m a_m_told a_m_kept a_m_isKept a_m_refused a_m_months a_m_heirs a_m_lasts a_m_cares a_m_bestCares a_m_ones a_m_others a_m_bytes a_m_anew a_m_values : Nat) (cI cB cZ cP cC : ClassId) (above : Int64) (below : Int64) (retired : Int32) (manyLine : Int32) (bytesLong : Int32) (tokenAt : Int32) (tokenLong : Int32) (token : Int32) (value : Int32) (told : Nat → Int32) : va_W := [(a_m, .inr (10, [.ref a_m_told, .ref a_m_kept, .ref a_m_isKept, .ref a_m_refused, .long above, .long below, .ref a_m_months, .int retired, .ref a_m_heirs, .ref a_m_lasts, .int manyLine, .ref a_m_cares, .ref a_m_bestCares, .ref a_m_ones, .ref a_m_others, .ref a_m_bytes, .int bytesLong, .int tokenAt, .int tokenLong, .int token, .int value, .ref a_m_anew, .ref a_m_values])), (a_m_told, .inl (cI, 190, .inl told))]
abbrev qq_X10_isAwake (D : va_G) (a_m a_m_told a_m_kept a_m_isKept a_m_refused a_m_months a_m_heirs a_m_lasts a_m_cares a_m_bestCares a_m_ones a_m_others a_m_bytes a_m_anew a_m_values : Nat) (cI cB cZ cP cC : ClassId) (above : Int64) (below : Int64) (retired : Int32) (manyLine : Int32) (bytesLong : Int32) (tokenAt : Int32) (tokenLong : Int32) (token : Int32) (value : Int32) (told : Nat → Int32) (Post : Int32 → Prop) (A : Nat → Prop) : Array Value → State → Outcome → State → Prop := va_Qi (fun (r : Int32) (u : Unit) => Post r) (fun (u : Unit) t => mxB D (mxTy cI cB cZ cP cC) A (ww_X10_isAwake a_m a_m_told a_m_kept a_m_isKept a_m_refused a_m_months a_m_heirs a_m_lasts a_m_cares a_m_bestCares a_m_ones a_m_others a_m_bytes a_m_anew a_m_values cI cB cZ cP cC above below retired manyLine bytesLong tokenAt tokenLong token value told) t) A
abbrev rm_X10_isAwake : Room := { frames := 1, cells := 0, slots := 0, locals := 22 }
theorem hd_X10_isAwake : yX10_isAwake.cls = RX10 ∧ yX10_isAwake.cls ≠ "java/lang/invoke/MethodHandle" ∧ yX10_isAwake.cls ≠ "java/lang/invoke/VarHandle" ∧ (parseMethodDescriptor yX10_isAwake.desc).map (fun d => d.parameters.length) = some 2 := by decide +kernel
def wp_X10_isAwake (told : Nat → Int32) (v1 : Int32) (v2 : Int32) (Post : Int32 → Prop) : Prop :=
  (wp_X10_kindOf told v1 (fun r_1 => (wp_X10_sleepsAs r_1 v2 (fun r_2 => ((r_2 = 0 → Post 1) ∧ (¬ r_2 = 0 → Post 0))))))
set_option maxHeartbeats 4000000 in
set_option maxRecDepth 100000 in
theorem c_X10_isAwake (l : Launch) (D : va_G) (cI cB cZ cP cC : ClassId) (a_m a_m_told a_m_kept a_m_isKept a_m_refused a_m_months a_m_heirs a_m_lasts a_m_cares a_m_bestCares a_m_ones a_m_others a_m_bytes a_m_anew a_m_values : Nat) (above : Int64) (below : Int64) (retired : Int32) (manyLine : Int32) (bytesLong : Int32) (tokenAt : Int32) (tokenLong : Int32) (token : Int32) (value : Int32) (told : Nat → Int32) (v1 : Int32) (v2 : Int32) (sz : Nat) (Post : Int32 → Prop) (hw : wp_X10_isAwake told v1 v2 Post) :
    Met l yX10_isAwake (Cond.code yX10_isAwake cX10_isAwake 3 (some .boolean) :: wsAll) rm_X10_isAwake (va_Pc [.ref a_m, .int v1, .int v2] (mxP D (mxTy cI cB cZ cP cC) sz (ww_X10_isAwake a_m a_m_told a_m_kept a_m_isKept a_m_refused a_m_months a_m_heirs a_m_lasts a_m_cares a_m_bestCares a_m_ones a_m_others a_m_bytes a_m_anew a_m_values cI cB cZ cP cC above below retired manyLine bytesLong tokenAt tokenLong token value told))) (qq_X10_isAwake D a_m a_m_told a_m_kept a_m_isKept a_m_refused a_m_months a_m_heirs a_m_lasts a_m_cares a_m_bestCares a_m_ones a_m_others a_m_bytes a_m_anew a_m_values cI cB cZ cP cC above below retired manyLine bytesLong tokenAt tokenLong token value told Post (va_A (ww_X10_isAwake a_m a_m_told a_m_kept a_m_isKept a_m_refused a_m_months a_m_heirs a_m_lasts a_m_cares a_m_bestCares a_m_ones a_m_others a_m_bytes a_m_anew a_m_values cI cB cZ cP cC above below retired manyLine bytesLong tokenAt tokenLong token value told) sz)) 0 0 (va_A (ww_X10_isAwake a_m a_m_told a_m_kept a_m_isKept a_m_refused a_m_months a_m_heirs a_m_lasts a_m_cares a_m_bestCares a_m_ones a_m_others a_m_bytes a_m_anew a_m_values cI cB cZ cP cC above below retired manyLine bytesLong tokenAt tokenLong token value told) sz) := by
  refine mx_of (Qc := qq_X10_isAwake D a_m a_m_told a_m_kept a_m_isKept a_m_refused a_m_months a_m_heirs a_m_lasts a_m_cares a_m_bestCares a_m_ones a_m_others a_m_bytes a_m_anew a_m_values cI cB cZ cP cC above below retired manyLine bytesLong tokenAt tokenLong token value told Post) (by decide) (Nat.le_of_ble_eq_true rfl) ?_
  intro p e s m bl meth c A ls C0 hP hD hS hl
  replace C0 : mxC p s m [.ref a_m, .int v1, .int v2].toArray meth c cX10_isAwake RX10 (some .boolean) 3 D (mxTy cI cB cZ cP cC) A := C0
  obtain ⟨hx, hb, hr, hlocks, hml, hown, hts, hK, hA⟩ := id C0
  replace hl : lv_has ls 3 [(0, .ref a_m), (1, .int v1), (2, .int v2)] := hl
  unfold wp_X10_isAwake at hw
  refine lv_aload_n hx hb dX10_isAwake_0 rfl (lv_at hl 0 rfl) ?_
  refine lv_iload_n hx hb dX10_isAwake_1 rfl (lv_at hl 1 rfl) ?_
  refine mx_ki (mx_rV (rm := rm_X10_kindOf) (rest := []) (C := RX10) hx hb hml hown hts (c_X10_kindOf l D cI cB cZ cP cC a_m a_m_told a_m_kept a_m_isKept a_m_refused a_m_months a_m_heirs a_m_lasts a_m_cares a_m_bestCares a_m_ones a_m_others a_m_bytes a_m_anew a_m_values above below retired manyLine bytesLong tokenAt tokenLong token value told v1 _ _ hw) q_448 q_449 q_450 q_5 q_451 hd_X10_kindOf ⟨(Nat.le_of_ble_eq_true rfl), (Nat.le_of_ble_eq_true rfl)⟩ rfl rfl hK hP hD [0, 1] rfl rfl 10 0 rfl rfl rfl rfl hl.1 rfl (Nat.le_of_ble_eq_true rfl) dX10_isAwake_2 ⟨(Nat.le_of_ble_eq_true rfl), (Nat.le_of_ble_eq_true rfl)⟩) hP hD hS hA [0, 1] [] [0, 1] (fun _ => ww_X10_isAwake a_m a_m_told a_m_kept a_m_isKept a_m_refused a_m_months a_m_heirs a_m_lasts a_m_cares a_m_bestCares a_m_ones a_m_others a_m_bytes a_m_anew a_m_values cI cB cZ cP cC above below retired manyLine bytesLong tokenAt tokenLong token value told) rfl rfl rfl (by decide) rfl (fun _ => rfl) (fun r_1 u H locs hw hP hD hS => ?_)
  try dsimp only at hw
  replace hP : va_P D vwCl (ww_X10_isAwake a_m a_m_told a_m_kept a_m_isKept a_m_refused a_m_months a_m_heirs a_m_lasts a_m_cares a_m_bestCares a_m_ones a_m_others a_m_bytes a_m_anew a_m_values cI cB cZ cP cC above below retired manyLine bytesLong tokenAt tokenLong token value told) H := hP
  replace hD : va_D A (ww_X10_isAwake a_m a_m_told a_m_kept a_m_isKept a_m_refused a_m_months a_m_heirs a_m_lasts a_m_cares a_m_bestCares a_m_ones a_m_others a_m_bytes a_m_anew a_m_values cI cB cZ cP cC above below retired manyLine bytesLong tokenAt tokenLong token value told) := hD
  refine lv_iload_n hx hb dX10_isAwake_5 rfl (lv_at hl 2 rfl) ?_
  refine mx_ki (mx_rS (rm := rm_X10_sleepsAs) (rest := []) hx hb hml hown hts (c_X10_sleepsAs l D cI cB cZ cP cC r_1 v2 _ _ hw) q_612 q_613 q_5 q_614 hd_X10_sleepsAs ⟨(Nat.le_of_ble_eq_true rfl), (Nat.le_of_ble_eq_true rfl)⟩ rfl rfl hK hP hD [] rfl rfl rfl hl.1 rfl (Nat.le_of_ble_eq_true rfl) dX10_isAwake_6 ⟨(Nat.le_of_ble_eq_true rfl), (Nat.le_of_ble_eq_true rfl)⟩) hP hD hS hA [] [0, 1] [0, 1] (fun _ => ww_X10_isAwake a_m a_m_told a_m_kept a_m_isKept a_m_refused a_m_months a_m_heirs a_m_lasts a_m_cares a_m_bestCares a_m_ones a_m_others a_m_bytes a_m_anew a_m_values cI cB cZ cP cC above below retired manyLine bytesLong tokenAt tokenLong token value told) rfl rfl rfl (by decide) rfl (fun _ => rfl) (fun r_2 u H locs hw hP hD hS => ?_)
  try dsimp only at hw
  replace hP : va_P D vwCl (ww_X10_isAwake a_m a_m_told a_m_kept a_m_isKept a_m_refused a_m_months a_m_heirs a_m_lasts a_m_cares a_m_bestCares a_m_ones a_m_others a_m_bytes a_m_anew a_m_values cI cB cZ cP cC above below retired manyLine bytesLong tokenAt tokenLong token value told) H := hP
  replace hD : va_D A (ww_X10_isAwake a_m a_m_told a_m_kept a_m_isKept a_m_refused a_m_months a_m_heirs a_m_lasts a_m_cares a_m_bestCares a_m_ones a_m_others a_m_bytes a_m_anew a_m_values cI cB cZ cP cC above below retired manyLine bytesLong tokenAt tokenLong token value told) := hD
  refine lv_if_ne (tgt := 16) hx hb dX10_isAwake_9 (by decide) (fun c_3 => ?_) (fun c_3 => ?_)
  · replace hw := hw.2 c_3
    refine lv_iconst (v := 0) hx hb dX10_isAwake_16 (by decide) ?_
    exact mx_iret () hx hb hr hlocks rfl hw hK hP hD hS dX10_isAwake_17
  · replace hw := hw.1 c_3
    refine lv_iconst (v := 1) hx hb dX10_isAwake_12 (by decide) ?_
    refine lv_goto (tgt := 17) hx hb dX10_isAwake_13 (by decide) ?_
    exact mx_iret () hx hb hr hlocks rfl hw hK hP hD hS dX10_isAwake_17
/-! PramStateModel.criesBy(II)I -/
abbrev ww_X10_criesBy (a_m a_m_told a_m_kept a_m_isKept a_m_refused a_m_months a_m_heirs a_m_lasts a_m_cares a_m_bestCares a_m_ones a_m_others a_m_bytes a_m_anew a_m_values : Nat) (cI cB cZ cP cC : ClassId) (above : Int64) (below : Int64) (retired : Int32) (manyLine : Int32) (bytesLong : Int32) (tokenAt : Int32) (tokenLong : Int32) (token : Int32) (value : Int32) (told : Nat → Int32) : va_W := [(a_m, .inr (10, [.ref a_m_told, .ref a_m_kept, .ref a_m_isKept, .ref a_m_refused, .long above, .long below, .ref a_m_months, .int retired, .ref a_m_heirs, .ref a_m_lasts, .int manyLine, .ref a_m_cares, .ref a_m_bestCares, .ref a_m_ones, .ref a_m_others, .ref a_m_bytes, .int bytesLong, .int tokenAt, .int tokenLong, .int token, .int value, .ref a_m_anew, .ref a_m_values])), (a_m_told, .inl (cI, 190, .inl told))]
abbrev qq_X10_criesBy (D : va_G) (a_m a_m_told a_m_kept a_m_isKept a_m_refused a_m_months a_m_heirs a_m_lasts a_m_cares a_m_bestCares a_m_ones a_m_others a_m_bytes a_m_anew a_m_values : Nat) (cI cB cZ cP cC : ClassId) (above : Int64) (below : Int64) (retired : Int32) (manyLine : Int32) (bytesLong : Int32) (tokenAt : Int32) (tokenLong : Int32) (token : Int32) (value : Int32) (told : Nat → Int32) (Post : Int32 → Prop) (A : Nat → Prop) : Array Value → State → Outcome → State → Prop := va_Qi (fun (r : Int32) (u : Unit) => Post r) (fun (u : Unit) t => mxB D (mxTy cI cB cZ cP cC) A (ww_X10_criesBy a_m a_m_told a_m_kept a_m_isKept a_m_refused a_m_months a_m_heirs a_m_lasts a_m_cares a_m_bestCares a_m_ones a_m_others a_m_bytes a_m_anew a_m_values cI cB cZ cP cC above below retired manyLine bytesLong tokenAt tokenLong token value told) t) A
abbrev rm_X10_criesBy : Room := { frames := 2, cells := 0, slots := 0, locals := 47 }
theorem hd_X10_criesBy : yX10_criesBy.cls = RX10 ∧ yX10_criesBy.cls ≠ "java/lang/invoke/MethodHandle" ∧ yX10_criesBy.cls ≠ "java/lang/invoke/VarHandle" ∧ (parseMethodDescriptor yX10_criesBy.desc).map (fun d => d.parameters.length) = some 2 := by decide +kernel
def wp_X10_criesBy (told : Nat → Int32) (v1 : Int32) (v2 : Int32) (Post : Int32 → Prop) : Prop :=
  (wp_X10_kindOf told v1 (fun r_1 => (vp_in (4 + v1) 190 ∧ (wp_X10_criesAs r_1 (told (4 + v1).toNatClampNeg) (fun r_3 => (vp_in (18 + v2) 190 ∧ (∀ x_5 : Int32, x_5 = r_3 - ((told (18 + v2).toNatClampNeg) / 2) → ((0 ≤ x_5 → Post x_5) ∧ (¬ 0 ≤ x_5 → Post 0)))))))))
set_option maxHeartbeats 4000000 in
set_option maxRecDepth 100000 in
theorem c_X10_criesBy (l : Launch) (D : va_G) (cI cB cZ cP cC : ClassId) (a_m a_m_told a_m_kept a_m_isKept a_m_refused a_m_months a_m_heirs a_m_lasts a_m_cares a_m_bestCares a_m_ones a_m_others a_m_bytes a_m_anew a_m_values : Nat) (above : Int64) (below : Int64) (retired : Int32) (manyLine : Int32) (bytesLong : Int32) (tokenAt : Int32) (tokenLong : Int32) (token : Int32) (value : Int32) (told : Nat → Int32) (v1 : Int32) (v2 : Int32) (sz : Nat) (Post : Int32 → Prop) (hw : wp_X10_criesBy told v1 v2 Post) :
    Met l yX10_criesBy (Cond.code yX10_criesBy cX10_criesBy 4 (some .int) :: wsAll) rm_X10_criesBy (va_Pc [.ref a_m, .int v1, .int v2] (mxP D (mxTy cI cB cZ cP cC) sz (ww_X10_criesBy a_m a_m_told a_m_kept a_m_isKept a_m_refused a_m_months a_m_heirs a_m_lasts a_m_cares a_m_bestCares a_m_ones a_m_others a_m_bytes a_m_anew a_m_values cI cB cZ cP cC above below retired manyLine bytesLong tokenAt tokenLong token value told))) (qq_X10_criesBy D a_m a_m_told a_m_kept a_m_isKept a_m_refused a_m_months a_m_heirs a_m_lasts a_m_cares a_m_bestCares a_m_ones a_m_others a_m_bytes a_m_anew a_m_values cI cB cZ cP cC above below retired manyLine bytesLong tokenAt tokenLong token value told Post (va_A (ww_X10_criesBy a_m a_m_told a_m_kept a_m_isKept a_m_refused a_m_months a_m_heirs a_m_lasts a_m_cares a_m_bestCares a_m_ones a_m_others a_m_bytes a_m_anew a_m_values cI cB cZ cP cC above below retired manyLine bytesLong tokenAt tokenLong token value told) sz)) 0 0 (va_A (ww_X10_criesBy a_m a_m_told a_m_kept a_m_isKept a_m_refused a_m_months a_m_heirs a_m_lasts a_m_cares a_m_bestCares a_m_ones a_m_others a_m_bytes a_m_anew a_m_values cI cB cZ cP cC above below retired manyLine bytesLong tokenAt tokenLong token value told) sz) := by
  refine mx_of (Qc := qq_X10_criesBy D a_m a_m_told a_m_kept a_m_isKept a_m_refused a_m_months a_m_heirs a_m_lasts a_m_cares a_m_bestCares a_m_ones a_m_others a_m_bytes a_m_anew a_m_values cI cB cZ cP cC above below retired manyLine bytesLong tokenAt tokenLong token value told Post) (by decide) (Nat.le_of_ble_eq_true rfl) ?_
  intro p e s m bl meth c A ls C0 hP hD hS hl
  replace C0 : mxC p s m [.ref a_m, .int v1, .int v2].toArray meth c cX10_criesBy RX10 (some .int) 4 D (mxTy cI cB cZ cP cC) A := C0
  obtain ⟨hx, hb, hr, hlocks, hml, hown, hts, hK, hA⟩ := id C0
  replace hl : lv_has ls 4 [(0, .ref a_m), (1, .int v1), (2, .int v2)] := hl
  unfold wp_X10_criesBy at hw
  refine lv_aload_n hx hb dX10_criesBy_0 rfl (lv_at hl 0 rfl) ?_
  refine lv_iload_n hx hb dX10_criesBy_1 rfl (lv_at hl 1 rfl) ?_
  refine mx_ki (mx_rV (rm := rm_X10_kindOf) (rest := []) (C := RX10) hx hb hml hown hts (c_X10_kindOf l D cI cB cZ cP cC a_m a_m_told a_m_kept a_m_isKept a_m_refused a_m_months a_m_heirs a_m_lasts a_m_cares a_m_bestCares a_m_ones a_m_others a_m_bytes a_m_anew a_m_values above below retired manyLine bytesLong tokenAt tokenLong token value told v1 _ _ hw) q_448 q_449 q_450 q_5 q_451 hd_X10_kindOf ⟨(Nat.le_of_ble_eq_true rfl), (Nat.le_of_ble_eq_true rfl)⟩ rfl rfl hK hP hD [0, 1] rfl rfl 10 0 rfl rfl rfl rfl hl.1 rfl (Nat.le_of_ble_eq_true rfl) dX10_criesBy_2 ⟨(Nat.le_of_ble_eq_true rfl), (Nat.le_of_ble_eq_true rfl)⟩) hP hD hS hA [0, 1] [] [0, 1] (fun _ => ww_X10_criesBy a_m a_m_told a_m_kept a_m_isKept a_m_refused a_m_months a_m_heirs a_m_lasts a_m_cares a_m_bestCares a_m_ones a_m_others a_m_bytes a_m_anew a_m_values cI cB cZ cP cC above below retired manyLine bytesLong tokenAt tokenLong token value told) rfl rfl rfl (by decide) rfl (fun _ => rfl) (fun r_1 u H locs hw hP hD hS => ?_)
  try dsimp only at hw
  replace hP : va_P D vwCl (ww_X10_criesBy a_m a_m_told a_m_kept a_m_isKept a_m_refused a_m_months a_m_heirs a_m_lasts a_m_cares a_m_bestCares a_m_ones a_m_others a_m_bytes a_m_anew a_m_values cI cB cZ cP cC above below retired manyLine bytesLong tokenAt tokenLong token value told) H := hP
  replace hD : va_D A (ww_X10_criesBy a_m a_m_told a_m_kept a_m_isKept a_m_refused a_m_months a_m_heirs a_m_lasts a_m_cares a_m_bestCares a_m_ones a_m_others a_m_bytes a_m_anew a_m_values cI cB cZ cP cC above below retired manyLine bytesLong tokenAt tokenLong token value told) := hD
  refine lv_aload_n hx hb dX10_criesBy_5 rfl (lv_at hl 0 rfl) ?_
  refine mx_get (ci := 10) (C := RX10) (T := TX10) (N := 23) hx hb hown in_wsX100 hts hK hP 0 rfl rfl 0 (by decide) q_91 rfl (v := .ref a_m_told) rfl dX10_criesBy_6 ?_
  refine lv_iconst (v := 4) hx hb dX10_criesBy_9 (by decide) ?_
  refine lv_iload_n hx hb dX10_criesBy_10 rfl (lv_at hl 1 rfl) ?_
  refine lv_iadd hx hb dX10_criesBy_11 ?_
  obtain ⟨h_2, hw⟩ := hw
  refine mx_iald hx hb hK hP 1 0 rfl rfl h_2 (told (4 + v1).toNatClampNeg) rfl dX10_criesBy_12 ?_
  refine mx_ki (mx_rS (rm := rm_X10_criesAs) (rest := []) hx hb hml hown hts (c_X10_criesAs l D cI cB cZ cP cC r_1 (told (4 + v1).toNatClampNeg) _ _ hw) q_619 q_620 q_5 q_621 hd_X10_criesAs ⟨(Nat.le_of_ble_eq_true rfl), (Nat.le_of_ble_eq_true rfl)⟩ rfl rfl hK hP hD [] rfl rfl rfl hl.1 rfl (Nat.le_of_ble_eq_true rfl) dX10_criesBy_13 ⟨(Nat.le_of_ble_eq_true rfl), (Nat.le_of_ble_eq_true rfl)⟩) hP hD hS hA [] [0, 1] [0, 1] (fun _ => ww_X10_criesBy a_m a_m_told a_m_kept a_m_isKept a_m_refused a_m_months a_m_heirs a_m_lasts a_m_cares a_m_bestCares a_m_ones a_m_others a_m_bytes a_m_anew a_m_values cI cB cZ cP cC above below retired manyLine bytesLong tokenAt tokenLong token value told) rfl rfl rfl (by decide) rfl (fun _ => rfl) (fun r_3 u H locs hw hP hD hS => ?_)
  try dsimp only at hw
  replace hP : va_P D vwCl (ww_X10_criesBy a_m a_m_told a_m_kept a_m_isKept a_m_refused a_m_months a_m_heirs a_m_lasts a_m_cares a_m_bestCares a_m_ones a_m_others a_m_bytes a_m_anew a_m_values cI cB cZ cP cC above below retired manyLine bytesLong tokenAt tokenLong token value told) H := hP
  replace hD : va_D A (ww_X10_criesBy a_m a_m_told a_m_kept a_m_isKept a_m_refused a_m_months a_m_heirs a_m_lasts a_m_cares a_m_bestCares a_m_ones a_m_others a_m_bytes a_m_anew a_m_values cI cB cZ cP cC above below retired manyLine bytesLong tokenAt tokenLong token value told) := hD
  refine lv_aload_n hx hb dX10_criesBy_16 rfl (lv_at hl 0 rfl) ?_
  refine mx_get (ci := 10) (C := RX10) (T := TX10) (N := 23) hx hb hown in_wsX100 hts hK hP 0 rfl rfl 0 (by decide) q_91 rfl (v := .ref a_m_told) rfl dX10_criesBy_17 ?_
  refine lv_bipush (v := 18) hx hb dX10_criesBy_20 (by decide) ?_
  refine lv_iload_n hx hb dX10_criesBy_22 rfl (lv_at hl 2 rfl) ?_
  refine lv_iadd hx hb dX10_criesBy_23 ?_
  obtain ⟨h_4, hw⟩ := hw
  refine mx_iald hx hb hK hP 1 0 rfl rfl h_4 (told (18 + v2).toNatClampNeg) rfl dX10_criesBy_24 ?_
  refine lv_iconst (v := 2) hx hb dX10_criesBy_25 (by decide) ?_
  refine lv_idiv hx hb dX10_criesBy_26 (by decide) ?_
  refine lv_isub hx hb dX10_criesBy_27 ?_
  refine lv_topi (fun x_5 ex_5 => ?_)
  replace hw := hw x_5 ex_5
  refine lv_istore_n (lv' := [(3, .int x_5), (0, .ref a_m), (1, .int v1), (2, .int v2)]) hx hb dX10_criesBy_28 rfl hl (by decide) rfl (fun ls hl => ?_)
  refine lv_iload_n hx hb dX10_criesBy_29 rfl (lv_at hl 0 rfl) ?_
  refine lv_if_ge (tgt := 37) hx hb dX10_criesBy_30 (by decide) (fun c_6 => ?_) (fun c_6 => ?_)
  · replace hw := hw.1 c_6
    refine lv_iload_n hx hb dX10_criesBy_37 rfl (lv_at hl 0 rfl) ?_
    exact mx_iret () hx hb hr hlocks rfl hw hK hP hD hS dX10_criesBy_38
  · replace hw := hw.2 c_6
    refine lv_iconst (v := 0) hx hb dX10_criesBy_33 (by decide) ?_
    refine lv_goto (tgt := 38) hx hb dX10_criesBy_34 (by decide) ?_
    exact mx_iret () hx hb hr hlocks rfl hw hK hP hD hS dX10_criesBy_38
/-! PramStateModel.criesIn(II)I -/
abbrev ww_X10_criesIn (a_m a_m_told a_m_kept a_m_isKept a_m_refused a_m_months a_m_heirs a_m_lasts a_m_cares a_m_bestCares a_m_ones a_m_others a_m_bytes a_m_anew a_m_values : Nat) (cI cB cZ cP cC : ClassId) (above : Int64) (below : Int64) (retired : Int32) (manyLine : Int32) (bytesLong : Int32) (tokenAt : Int32) (tokenLong : Int32) (token : Int32) (value : Int32) (told : Nat → Int32) : va_W := [(a_m, .inr (10, [.ref a_m_told, .ref a_m_kept, .ref a_m_isKept, .ref a_m_refused, .long above, .long below, .ref a_m_months, .int retired, .ref a_m_heirs, .ref a_m_lasts, .int manyLine, .ref a_m_cares, .ref a_m_bestCares, .ref a_m_ones, .ref a_m_others, .ref a_m_bytes, .int bytesLong, .int tokenAt, .int tokenLong, .int token, .int value, .ref a_m_anew, .ref a_m_values])), (a_m_told, .inl (cI, 190, .inl told))]
abbrev qq_X10_criesIn (D : va_G) (a_m a_m_told a_m_kept a_m_isKept a_m_refused a_m_months a_m_heirs a_m_lasts a_m_cares a_m_bestCares a_m_ones a_m_others a_m_bytes a_m_anew a_m_values : Nat) (cI cB cZ cP cC : ClassId) (above : Int64) (below : Int64) (retired : Int32) (manyLine : Int32) (bytesLong : Int32) (tokenAt : Int32) (tokenLong : Int32) (token : Int32) (value : Int32) (told : Nat → Int32) (Post : Int32 → Prop) (A : Nat → Prop) : Array Value → State → Outcome → State → Prop := va_Qi (fun (r : Int32) (u : Unit) => Post r) (fun (u : Unit) t => mxB D (mxTy cI cB cZ cP cC) A (ww_X10_criesIn a_m a_m_told a_m_kept a_m_isKept a_m_refused a_m_months a_m_heirs a_m_lasts a_m_cares a_m_bestCares a_m_ones a_m_others a_m_bytes a_m_anew a_m_values cI cB cZ cP cC above below retired manyLine bytesLong tokenAt tokenLong token value told) t) A
abbrev rm_X10_criesIn : Room := { frames := 3, cells := 0, slots := 0, locals := 70 }
theorem hd_X10_criesIn : yX10_criesIn.cls = RX10 ∧ yX10_criesIn.cls ≠ "java/lang/invoke/MethodHandle" ∧ yX10_criesIn.cls ≠ "java/lang/invoke/VarHandle" ∧ (parseMethodDescriptor yX10_criesIn.desc).map (fun d => d.parameters.length) = some 2 := by decide +kernel
def wp_X10_criesIn (told : Nat → Int32) (v1 : Int32) (v2 : Int32) (Post : Int32 → Prop) : Prop :=
  (wp_X10_isAwake told v1 v2 (fun r_1 => ((r_1 = 0 → Post 0) ∧ (¬ r_1 = 0 → (vp_in (11 + v1) 190 ∧ (wp_X10_criesBy told v1 (told (11 + v1).toNatClampNeg) (fun r_4 => Post r_4)))))))
set_option maxHeartbeats 4000000 in
set_option maxRecDepth 100000 in
theorem c_X10_criesIn (l : Launch) (D : va_G) (cI cB cZ cP cC : ClassId) (a_m a_m_told a_m_kept a_m_isKept a_m_refused a_m_months a_m_heirs a_m_lasts a_m_cares a_m_bestCares a_m_ones a_m_others a_m_bytes a_m_anew a_m_values : Nat) (above : Int64) (below : Int64) (retired : Int32) (manyLine : Int32) (bytesLong : Int32) (tokenAt : Int32) (tokenLong : Int32) (token : Int32) (value : Int32) (told : Nat → Int32) (v1 : Int32) (v2 : Int32) (sz : Nat) (Post : Int32 → Prop) (hw : wp_X10_criesIn told v1 v2 Post) :
    Met l yX10_criesIn (Cond.code yX10_criesIn cX10_criesIn 3 (some .int) :: wsAll) rm_X10_criesIn (va_Pc [.ref a_m, .int v1, .int v2] (mxP D (mxTy cI cB cZ cP cC) sz (ww_X10_criesIn a_m a_m_told a_m_kept a_m_isKept a_m_refused a_m_months a_m_heirs a_m_lasts a_m_cares a_m_bestCares a_m_ones a_m_others a_m_bytes a_m_anew a_m_values cI cB cZ cP cC above below retired manyLine bytesLong tokenAt tokenLong token value told))) (qq_X10_criesIn D a_m a_m_told a_m_kept a_m_isKept a_m_refused a_m_months a_m_heirs a_m_lasts a_m_cares a_m_bestCares a_m_ones a_m_others a_m_bytes a_m_anew a_m_values cI cB cZ cP cC above below retired manyLine bytesLong tokenAt tokenLong token value told Post (va_A (ww_X10_criesIn a_m a_m_told a_m_kept a_m_isKept a_m_refused a_m_months a_m_heirs a_m_lasts a_m_cares a_m_bestCares a_m_ones a_m_others a_m_bytes a_m_anew a_m_values cI cB cZ cP cC above below retired manyLine bytesLong tokenAt tokenLong token value told) sz)) 0 0 (va_A (ww_X10_criesIn a_m a_m_told a_m_kept a_m_isKept a_m_refused a_m_months a_m_heirs a_m_lasts a_m_cares a_m_bestCares a_m_ones a_m_others a_m_bytes a_m_anew a_m_values cI cB cZ cP cC above below retired manyLine bytesLong tokenAt tokenLong token value told) sz) := by
  refine mx_of (Qc := qq_X10_criesIn D a_m a_m_told a_m_kept a_m_isKept a_m_refused a_m_months a_m_heirs a_m_lasts a_m_cares a_m_bestCares a_m_ones a_m_others a_m_bytes a_m_anew a_m_values cI cB cZ cP cC above below retired manyLine bytesLong tokenAt tokenLong token value told Post) (by decide) (Nat.le_of_ble_eq_true rfl) ?_
  intro p e s m bl meth c A ls C0 hP hD hS hl
  replace C0 : mxC p s m [.ref a_m, .int v1, .int v2].toArray meth c cX10_criesIn RX10 (some .int) 3 D (mxTy cI cB cZ cP cC) A := C0
  obtain ⟨hx, hb, hr, hlocks, hml, hown, hts, hK, hA⟩ := id C0
  replace hl : lv_has ls 3 [(0, .ref a_m), (1, .int v1), (2, .int v2)] := hl
  unfold wp_X10_criesIn at hw
  refine lv_aload_n hx hb dX10_criesIn_0 rfl (lv_at hl 0 rfl) ?_
  refine lv_iload_n hx hb dX10_criesIn_1 rfl (lv_at hl 1 rfl) ?_
  refine lv_iload_n hx hb dX10_criesIn_2 rfl (lv_at hl 2 rfl) ?_
  refine mx_ki (mx_rV (rm := rm_X10_isAwake) (rest := []) (C := RX10) hx hb hml hown hts (c_X10_isAwake l D cI cB cZ cP cC a_m a_m_told a_m_kept a_m_isKept a_m_refused a_m_months a_m_heirs a_m_lasts a_m_cares a_m_bestCares a_m_ones a_m_others a_m_bytes a_m_anew a_m_values above below retired manyLine bytesLong tokenAt tokenLong token value told v1 v2 _ _ hw) q_608 q_609 q_610 q_5 q_611 hd_X10_isAwake ⟨(Nat.le_of_ble_eq_true rfl), (Nat.le_of_ble_eq_true rfl)⟩ rfl rfl hK hP hD [0, 1] rfl rfl 10 0 rfl rfl rfl rfl hl.1 rfl (Nat.le_of_ble_eq_true rfl) dX10_criesIn_3 ⟨(Nat.le_of_ble_eq_true rfl), (Nat.le_of_ble_eq_true rfl)⟩) hP hD hS hA [0, 1] [] [0, 1] (fun _ => ww_X10_criesIn a_m a_m_told a_m_kept a_m_isKept a_m_refused a_m_months a_m_heirs a_m_lasts a_m_cares a_m_bestCares a_m_ones a_m_others a_m_bytes a_m_anew a_m_values cI cB cZ cP cC above below retired manyLine bytesLong tokenAt tokenLong token value told) rfl rfl rfl (by decide) rfl (fun _ => rfl) (fun r_1 u H locs hw hP hD hS => ?_)
  try dsimp only at hw
  replace hP : va_P D vwCl (ww_X10_criesIn a_m a_m_told a_m_kept a_m_isKept a_m_refused a_m_months a_m_heirs a_m_lasts a_m_cares a_m_bestCares a_m_ones a_m_others a_m_bytes a_m_anew a_m_values cI cB cZ cP cC above below retired manyLine bytesLong tokenAt tokenLong token value told) H := hP
  replace hD : va_D A (ww_X10_criesIn a_m a_m_told a_m_kept a_m_isKept a_m_refused a_m_months a_m_heirs a_m_lasts a_m_cares a_m_bestCares a_m_ones a_m_others a_m_bytes a_m_anew a_m_values cI cB cZ cP cC above below retired manyLine bytesLong tokenAt tokenLong token value told) := hD
  refine lv_if_eq (tgt := 26) hx hb dX10_criesIn_6 (by decide) (fun c_2 => ?_) (fun c_2 => ?_)
  · replace hw := hw.1 c_2
    refine lv_iconst (v := 0) hx hb dX10_criesIn_26 (by decide) ?_
    exact mx_iret () hx hb hr hlocks rfl hw hK hP hD hS dX10_criesIn_27
  · replace hw := hw.2 c_2
    refine lv_aload_n hx hb dX10_criesIn_9 rfl (lv_at hl 0 rfl) ?_
    refine lv_iload_n hx hb dX10_criesIn_10 rfl (lv_at hl 1 rfl) ?_
    refine lv_aload_n hx hb dX10_criesIn_11 rfl (lv_at hl 0 rfl) ?_
    refine mx_get (ci := 10) (C := RX10) (T := TX10) (N := 23) hx hb hown in_wsX100 hts hK hP 0 rfl rfl 0 (by decide) q_91 rfl (v := .ref a_m_told) rfl dX10_criesIn_12 ?_
    refine lv_bipush (v := 11) hx hb dX10_criesIn_15 (by decide) ?_
    refine lv_iload_n hx hb dX10_criesIn_17 rfl (lv_at hl 1 rfl) ?_
    refine lv_iadd hx hb dX10_criesIn_18 ?_
    obtain ⟨h_3, hw⟩ := hw
    refine mx_iald hx hb hK hP 1 0 rfl rfl h_3 (told (11 + v1).toNatClampNeg) rfl dX10_criesIn_19 ?_
    refine mx_ki (mx_rV (rm := rm_X10_criesBy) (rest := []) (C := RX10) hx hb hml hown hts (c_X10_criesBy l D cI cB cZ cP cC a_m a_m_told a_m_kept a_m_isKept a_m_refused a_m_months a_m_heirs a_m_lasts a_m_cares a_m_bestCares a_m_ones a_m_others a_m_bytes a_m_anew a_m_values above below retired manyLine bytesLong tokenAt tokenLong token value told v1 (told (11 + v1).toNatClampNeg) _ _ hw) q_615 q_616 q_617 q_5 q_618 hd_X10_criesBy ⟨(Nat.le_of_ble_eq_true rfl), (Nat.le_of_ble_eq_true rfl)⟩ rfl rfl hK hP hD [0, 1] rfl rfl 10 0 rfl rfl rfl rfl hl.1 rfl (Nat.le_of_ble_eq_true rfl) dX10_criesIn_20 ⟨(Nat.le_of_ble_eq_true rfl), (Nat.le_of_ble_eq_true rfl)⟩) hP hD hS hA [0, 1] [] [0, 1] (fun _ => ww_X10_criesIn a_m a_m_told a_m_kept a_m_isKept a_m_refused a_m_months a_m_heirs a_m_lasts a_m_cares a_m_bestCares a_m_ones a_m_others a_m_bytes a_m_anew a_m_values cI cB cZ cP cC above below retired manyLine bytesLong tokenAt tokenLong token value told) rfl rfl rfl (by decide) rfl (fun _ => rfl) (fun r_4 u H locs hw hP hD hS => ?_)
    try dsimp only at hw
    replace hP : va_P D vwCl (ww_X10_criesIn a_m a_m_told a_m_kept a_m_isKept a_m_refused a_m_months a_m_heirs a_m_lasts a_m_cares a_m_bestCares a_m_ones a_m_others a_m_bytes a_m_anew a_m_values cI cB cZ cP cC above below retired manyLine bytesLong tokenAt tokenLong token value told) H := hP
    replace hD : va_D A (ww_X10_criesIn a_m a_m_told a_m_kept a_m_isKept a_m_refused a_m_months a_m_heirs a_m_lasts a_m_cares a_m_bestCares a_m_ones a_m_others a_m_bytes a_m_anew a_m_values cI cB cZ cP cC above below retired manyLine bytesLong tokenAt tokenLong token value told) := hD
    refine lv_goto (tgt := 27) hx hb dX10_criesIn_23 (by decide) ?_
    exact mx_iret () hx hb hr hlocks rfl hw hK hP hD hS dX10_criesIn_27
/-! PramStateModel.dayBy(II)I -/
abbrev ww_X10_dayBy (a_m a_m_told a_m_kept a_m_isKept a_m_refused a_m_months a_m_heirs a_m_lasts a_m_cares a_m_bestCares a_m_ones a_m_others a_m_bytes a_m_anew a_m_values : Nat) (cI cB cZ cP cC : ClassId) (above : Int64) (below : Int64) (retired : Int32) (manyLine : Int32) (bytesLong : Int32) (tokenAt : Int32) (tokenLong : Int32) (token : Int32) (value : Int32) (told : Nat → Int32) : va_W := [(a_m, .inr (10, [.ref a_m_told, .ref a_m_kept, .ref a_m_isKept, .ref a_m_refused, .long above, .long below, .ref a_m_months, .int retired, .ref a_m_heirs, .ref a_m_lasts, .int manyLine, .ref a_m_cares, .ref a_m_bestCares, .ref a_m_ones, .ref a_m_others, .ref a_m_bytes, .int bytesLong, .int tokenAt, .int tokenLong, .int token, .int value, .ref a_m_anew, .ref a_m_values])), (a_m_told, .inl (cI, 190, .inl told))]
abbrev qq_X10_dayBy (D : va_G) (a_m a_m_told a_m_kept a_m_isKept a_m_refused a_m_months a_m_heirs a_m_lasts a_m_cares a_m_bestCares a_m_ones a_m_others a_m_bytes a_m_anew a_m_values : Nat) (cI cB cZ cP cC : ClassId) (above : Int64) (below : Int64) (retired : Int32) (manyLine : Int32) (bytesLong : Int32) (tokenAt : Int32) (tokenLong : Int32) (token : Int32) (value : Int32) (told : Nat → Int32) (Post : Int32 → Prop) (A : Nat → Prop) : Array Value → State → Outcome → State → Prop := va_Qi (fun (r : Int32) (u : Unit) => Post r) (fun (u : Unit) t => mxB D (mxTy cI cB cZ cP cC) A (ww_X10_dayBy a_m a_m_told a_m_kept a_m_isKept a_m_refused a_m_months a_m_heirs a_m_lasts a_m_cares a_m_bestCares a_m_ones a_m_others a_m_bytes a_m_anew a_m_values cI cB cZ cP cC above below retired manyLine bytesLong tokenAt tokenLong token value told) t) A
abbrev rm_X10_dayBy : Room := { frames := 3, cells := 0, slots := 0, locals := 70 }
theorem hd_X10_dayBy : yX10_dayBy.cls = RX10 ∧ yX10_dayBy.cls ≠ "java/lang/invoke/MethodHandle" ∧ yX10_dayBy.cls ≠ "java/lang/invoke/VarHandle" ∧ (parseMethodDescriptor yX10_dayBy.desc).map (fun d => d.parameters.length) = some 2 := by decide +kernel
def wp_X10_dayBy_J33 (told : Nat → Int32) (Post : Int32 → Prop) (K_5 : Int32 → Int32 → Int32 → Int32 → Prop) (v1 : Int32) (v2 : Int32) (v4 : Int32) (s0 : Int32) (s1 : Int32) : Prop :=
  (∀ x_4 : Int32, x_4 = s1 + s0 → (∀ x_5 : Int32, x_5 = v4 + 1 → K_5 v1 v2 x_4 x_5))
set_option maxHeartbeats 4000000 in
set_option maxRecDepth 100000 in
theorem k_X10_dayBy_J33 {p : Program} {l : Launch} {e : Env} {s : State} {m : MethodId} {ar : Array Value} {bl : List Frame} {meth : Method} {c : Code} {D : va_G} {A : Nat → Prop} {cI cB cZ cP cC : ClassId} {a_m a_m_told a_m_kept a_m_isKept a_m_refused a_m_months a_m_heirs a_m_lasts a_m_cares a_m_bestCares a_m_ones a_m_others a_m_bytes a_m_anew a_m_values : Nat} {above : Int64} {below : Int64} {retired : Int32} {manyLine : Int32} {bytesLong : Int32} {tokenAt : Int32} {tokenLong : Int32} {token : Int32} {value : Int32} {told : Nat → Int32} {Post : Int32 → Prop} {K_5 : Int32 → Int32 → Int32 → Int32 → Prop} (C0 : mxC p s m ar meth c cX10_dayBy RX10 (some .int) 5 D (mxTy cI cB cZ cP cC) A)
    (hK_5 : ∀ (v1 : Int32) (v2 : Int32) (v3 : Int32) (v4 : Int32) (H : Heap) (locs : List Loc) (ls : Array Slot), va_P D vwCl (ww_X10_dayBy a_m a_m_told a_m_kept a_m_isKept a_m_refused a_m_months a_m_heirs a_m_lasts a_m_cares a_m_bestCares a_m_ones a_m_others a_m_bytes a_m_anew a_m_values cI cB cZ cP cC above below retired manyLine bytesLong tokenAt tokenLong token value told) H → va_D A (ww_X10_dayBy a_m a_m_told a_m_kept a_m_isKept a_m_refused a_m_months a_m_heirs a_m_lasts a_m_cares a_m_bestCares a_m_ones a_m_others a_m_bytes a_m_anew a_m_values cI cB cZ cP cC above below retired manyLine bytesLong tokenAt tokenLong token value told) → va_S A s.heap H locs → lv_has ls 5 [(0, .ref a_m), (1, .int v1), (2, .int v2), (3, .int v3), (4, .int v4)] → K_5 v1 v2 v3 v4 → W p l e rm_X10_dayBy s m ar bl meth c H locs 0 0 (MQ bl (qq_X10_dayBy D a_m a_m_told a_m_kept a_m_isKept a_m_refused a_m_months a_m_heirs a_m_lasts a_m_cares a_m_bestCares a_m_ones a_m_others a_m_bytes a_m_anew a_m_values cI cB cZ cP cC above below retired manyLine bytesLong tokenAt tokenLong token value told Post A) ar s 0 0 A) (F0 m 5 ls [])) :
    ∀ (v1 : Int32) (v2 : Int32) (v4 : Int32) (s0 : Int32) (s1 : Int32) (H : Heap) (locs : List Loc) (ls : Array Slot), va_P D vwCl (ww_X10_dayBy a_m a_m_told a_m_kept a_m_isKept a_m_refused a_m_months a_m_heirs a_m_lasts a_m_cares a_m_bestCares a_m_ones a_m_others a_m_bytes a_m_anew a_m_values cI cB cZ cP cC above below retired manyLine bytesLong tokenAt tokenLong token value told) H → va_D A (ww_X10_dayBy a_m a_m_told a_m_kept a_m_isKept a_m_refused a_m_months a_m_heirs a_m_lasts a_m_cares a_m_bestCares a_m_ones a_m_others a_m_bytes a_m_anew a_m_values cI cB cZ cP cC above below retired manyLine bytesLong tokenAt tokenLong token value told) → va_S A s.heap H locs → lv_has ls 5 [(0, .ref a_m), (1, .int v1), (2, .int v2), (4, .int v4)] → wp_X10_dayBy_J33 told Post K_5 v1 v2 v4 s0 s1 → W p l e rm_X10_dayBy s m ar bl meth c H locs 0 0 (MQ bl (qq_X10_dayBy D a_m a_m_told a_m_kept a_m_isKept a_m_refused a_m_months a_m_heirs a_m_lasts a_m_cares a_m_bestCares a_m_ones a_m_others a_m_bytes a_m_anew a_m_values cI cB cZ cP cC above below retired manyLine bytesLong tokenAt tokenLong token value told Post A) ar s 0 0 A) (F0 m 33 ls [.int s0, .int s1]) := by
  obtain ⟨hx, hb, hr, hlocks, hml, hown, hts, hK, hA⟩ := id C0
  intro v1 v2 v4 s0 s1 H locs ls hP hD hS hl hw
  refine lv_iadd hx hb dX10_dayBy_33 ?_
  refine lv_topi (fun x_4 ex_4 => ?_)
  replace hw := hw x_4 ex_4
  refine lv_istore_n (lv' := [(3, .int x_4), (0, .ref a_m), (1, .int v1), (2, .int v2), (4, .int v4)]) hx hb dX10_dayBy_34 rfl hl (by decide) rfl (fun ls hl => ?_)
  obtain ⟨x_5, ex_5⟩ : ∃ y : Int32, y = v4 + 1 := ⟨_, rfl⟩
  replace hw := hw x_5 ex_5
  refine lv_iinc (v := x_5) (lv' := [(4, .int x_5), (3, .int x_4), (0, .ref a_m), (1, .int v1), (2, .int v2)]) hx hb dX10_dayBy_35 hl (k := 4) rfl (by rw [ex_5]; rfl) (by decide) rfl (fun ls hl => ?_)
  refine lv_goto (tgt := 5) hx hb dX10_dayBy_38 (by decide) ?_
  exact hK_5 v1 v2 x_4 x_5 _ _ _ hP hD hS (lv_sub hl [2, 3, 4, 1, 0] rfl) hw
def wp_X10_dayBy_L5 (told : Nat → Int32) (Post : Int32 → Prop)  : Nat → Int32 → Int32 → Int32 → Int32 → Prop
  | 0, _, _, _, _ => False
  | n + 1, v1, v2, v3, v4 => ((24 ≤ v4 → Post v3) ∧ (¬ 24 ≤ v4 → (wp_X10_isAwake told v1 v4 (fun r_2 => ((r_2 = 0 → (wp_X10_dayBy_J33 told Post (fun (v1_6 : Int32) (v2_7 : Int32) (v3_8 : Int32) (v4_9 : Int32) => wp_X10_dayBy_L5 told Post  n v1_6 v2_7 v3_8 v4_9) v1 v2 v4 0 v3)) ∧ (¬ r_2 = 0 → (wp_X10_criesBy told v1 v2 (fun r_10 => (wp_X10_dayBy_J33 told Post (fun (v1_11 : Int32) (v2_12 : Int32) (v3_13 : Int32) (v4_14 : Int32) => wp_X10_dayBy_L5 told Post  n v1_11 v2_12 v3_13 v4_14) v1 v2 v4 r_10 v3)))))))))
set_option maxHeartbeats 4000000 in
set_option maxRecDepth 100000 in
theorem k_X10_dayBy_L5 {p : Program} {l : Launch} {e : Env} {s : State} {m : MethodId} {ar : Array Value} {bl : List Frame} {meth : Method} {c : Code} {D : va_G} {A : Nat → Prop} {cI cB cZ cP cC : ClassId} {a_m a_m_told a_m_kept a_m_isKept a_m_refused a_m_months a_m_heirs a_m_lasts a_m_cares a_m_bestCares a_m_ones a_m_others a_m_bytes a_m_anew a_m_values : Nat} {above : Int64} {below : Int64} {retired : Int32} {manyLine : Int32} {bytesLong : Int32} {tokenAt : Int32} {tokenLong : Int32} {token : Int32} {value : Int32} {told : Nat → Int32} {Post : Int32 → Prop} (C0 : mxC p s m ar meth c cX10_dayBy RX10 (some .int) 5 D (mxTy cI cB cZ cP cC) A) :
    ∀ (n : Nat) (v1 : Int32) (v2 : Int32) (v3 : Int32) (v4 : Int32) (H : Heap) (locs : List Loc) (ls : Array Slot), va_P D vwCl (ww_X10_dayBy a_m a_m_told a_m_kept a_m_isKept a_m_refused a_m_months a_m_heirs a_m_lasts a_m_cares a_m_bestCares a_m_ones a_m_others a_m_bytes a_m_anew a_m_values cI cB cZ cP cC above below retired manyLine bytesLong tokenAt tokenLong token value told) H → va_D A (ww_X10_dayBy a_m a_m_told a_m_kept a_m_isKept a_m_refused a_m_months a_m_heirs a_m_lasts a_m_cares a_m_bestCares a_m_ones a_m_others a_m_bytes a_m_anew a_m_values cI cB cZ cP cC above below retired manyLine bytesLong tokenAt tokenLong token value told) → va_S A s.heap H locs → lv_has ls 5 [(0, .ref a_m), (1, .int v1), (2, .int v2), (3, .int v3), (4, .int v4)] → wp_X10_dayBy_L5 told Post  n v1 v2 v3 v4 → W p l e rm_X10_dayBy s m ar bl meth c H locs 0 0 (MQ bl (qq_X10_dayBy D a_m a_m_told a_m_kept a_m_isKept a_m_refused a_m_months a_m_heirs a_m_lasts a_m_cares a_m_bestCares a_m_ones a_m_others a_m_bytes a_m_anew a_m_values cI cB cZ cP cC above below retired manyLine bytesLong tokenAt tokenLong token value told Post A) ar s 0 0 A) (F0 m 5 ls []) := by
  obtain ⟨hx, hb, hr, hlocks, hml, hown, hts, hK, hA⟩ := id C0
  intro n
  induction n with
  | zero =>
    intro v1 v2 v3 v4 H locs ls hP hD hS hl hw
    exact absurd hw (fun h => h)
  | succ n ih =>
    intro v1 v2 v3 v4 H locs ls hP hD hS hl hw
    refine lv_iload hx hb dX10_dayBy_5 (lv_at hl 4 rfl) ?_
    refine lv_bipush (v := 24) hx hb dX10_dayBy_7 (by decide) ?_
    refine lv_icmp_ge (tgt := 41) hx hb dX10_dayBy_9 (by decide) (fun c_1 => ?_) (fun c_1 => ?_)
    · replace hw := hw.1 c_1
      refine lv_iload_n hx hb dX10_dayBy_41 rfl (lv_at hl 3 rfl) ?_
      exact mx_iret () hx hb hr hlocks rfl hw hK hP hD hS dX10_dayBy_42
    · replace hw := hw.2 c_1
      refine lv_iload_n hx hb dX10_dayBy_12 rfl (lv_at hl 3 rfl) ?_
      refine lv_aload_n hx hb dX10_dayBy_13 rfl (lv_at hl 0 rfl) ?_
      refine lv_iload_n hx hb dX10_dayBy_14 rfl (lv_at hl 1 rfl) ?_
      refine lv_iload hx hb dX10_dayBy_15 (lv_at hl 4 rfl) ?_
      refine mx_ki (mx_rV (rm := rm_X10_isAwake) (rest := [.int v3]) (C := RX10) hx hb hml hown hts (c_X10_isAwake l D cI cB cZ cP cC a_m a_m_told a_m_kept a_m_isKept a_m_refused a_m_months a_m_heirs a_m_lasts a_m_cares a_m_bestCares a_m_ones a_m_others a_m_bytes a_m_anew a_m_values above below retired manyLine bytesLong tokenAt tokenLong token value told v1 v4 _ _ hw) q_608 q_609 q_610 q_5 q_611 hd_X10_isAwake ⟨(Nat.le_of_ble_eq_true rfl), (Nat.le_of_ble_eq_true rfl)⟩ rfl rfl hK hP hD [0, 1] rfl rfl 10 0 rfl rfl rfl rfl hl.1 rfl (Nat.le_of_ble_eq_true rfl) dX10_dayBy_17 ⟨(Nat.le_of_ble_eq_true rfl), (Nat.le_of_ble_eq_true rfl)⟩) hP hD hS hA [0, 1] [] [0, 1] (fun _ => ww_X10_dayBy a_m a_m_told a_m_kept a_m_isKept a_m_refused a_m_months a_m_heirs a_m_lasts a_m_cares a_m_bestCares a_m_ones a_m_others a_m_bytes a_m_anew a_m_values cI cB cZ cP cC above below retired manyLine bytesLong tokenAt tokenLong token value told) rfl rfl rfl (by decide) rfl (fun _ => rfl) (fun r_2 u H locs hw hP hD hS => ?_)
      try dsimp only at hw
      replace hP : va_P D vwCl (ww_X10_dayBy a_m a_m_told a_m_kept a_m_isKept a_m_refused a_m_months a_m_heirs a_m_lasts a_m_cares a_m_bestCares a_m_ones a_m_others a_m_bytes a_m_anew a_m_values cI cB cZ cP cC above below retired manyLine bytesLong tokenAt tokenLong token value told) H := hP
      replace hD : va_D A (ww_X10_dayBy a_m a_m_told a_m_kept a_m_isKept a_m_refused a_m_months a_m_heirs a_m_lasts a_m_cares a_m_bestCares a_m_ones a_m_others a_m_bytes a_m_anew a_m_values cI cB cZ cP cC above below retired manyLine bytesLong tokenAt tokenLong token value told) := hD
      refine lv_if_eq (tgt := 32) hx hb dX10_dayBy_20 (by decide) (fun c_3 => ?_) (fun c_3 => ?_)
      · replace hw := hw.1 c_3
        refine lv_iconst (v := 0) hx hb dX10_dayBy_32 (by decide) ?_
        refine k_X10_dayBy_J33 C0 ?_ v1 v2 v4 0 v3 _ _ _ hP hD hS (lv_sub hl [0, 1, 2, 4] rfl) hw
        intro v1_6 v2_7 v3_8 v4_9 H locs ls hP hD hS hl hw
        exact ih v1_6 v2_7 v3_8 v4_9 _ _ _ hP hD hS (lv_sub hl [0, 1, 2, 3, 4] rfl) hw
      · replace hw := hw.2 c_3
        refine lv_aload_n hx hb dX10_dayBy_23 rfl (lv_at hl 0 rfl) ?_
        refine lv_iload_n hx hb dX10_dayBy_24 rfl (lv_at hl 1 rfl) ?_
        refine lv_iload_n hx hb dX10_dayBy_25 rfl (lv_at hl 2 rfl) ?_
        refine mx_ki (mx_rV (rm := rm_X10_criesBy) (rest := [.int v3]) (C := RX10) hx hb hml hown hts (c_X10_criesBy l D cI cB cZ cP cC a_m a_m_told a_m_kept a_m_isKept a_m_refused a_m_months a_m_heirs a_m_lasts a_m_cares a_m_bestCares a_m_ones a_m_others a_m_bytes a_m_anew a_m_values above below retired manyLine bytesLong tokenAt tokenLong token value told v1 v2 _ _ hw) q_615 q_616 q_617 q_5 q_618 hd_X10_criesBy ⟨(Nat.le_of_ble_eq_true rfl), (Nat.le_of_ble_eq_true rfl)⟩ rfl rfl hK hP hD [0, 1] rfl rfl 10 0 rfl rfl rfl rfl hl.1 rfl (Nat.le_of_ble_eq_true rfl) dX10_dayBy_26 ⟨(Nat.le_of_ble_eq_true rfl), (Nat.le_of_ble_eq_true rfl)⟩) hP hD hS hA [0, 1] [] [0, 1] (fun _ => ww_X10_dayBy a_m a_m_told a_m_kept a_m_isKept a_m_refused a_m_months a_m_heirs a_m_lasts a_m_cares a_m_bestCares a_m_ones a_m_others a_m_bytes a_m_anew a_m_values cI cB cZ cP cC above below retired manyLine bytesLong tokenAt tokenLong token value told) rfl rfl rfl (by decide) rfl (fun _ => rfl) (fun r_10 u H locs hw hP hD hS => ?_)
        try dsimp only at hw
        replace hP : va_P D vwCl (ww_X10_dayBy a_m a_m_told a_m_kept a_m_isKept a_m_refused a_m_months a_m_heirs a_m_lasts a_m_cares a_m_bestCares a_m_ones a_m_others a_m_bytes a_m_anew a_m_values cI cB cZ cP cC above below retired manyLine bytesLong tokenAt tokenLong token value told) H := hP
        replace hD : va_D A (ww_X10_dayBy a_m a_m_told a_m_kept a_m_isKept a_m_refused a_m_months a_m_heirs a_m_lasts a_m_cares a_m_bestCares a_m_ones a_m_others a_m_bytes a_m_anew a_m_values cI cB cZ cP cC above below retired manyLine bytesLong tokenAt tokenLong token value told) := hD
        refine lv_goto (tgt := 33) hx hb dX10_dayBy_29 (by decide) ?_
        refine k_X10_dayBy_J33 C0 ?_ v1 v2 v4 r_10 v3 _ _ _ hP hD hS (lv_sub hl [0, 1, 2, 4] rfl) hw
        intro v1_11 v2_12 v3_13 v4_14 H locs ls hP hD hS hl hw
        exact ih v1_11 v2_12 v3_13 v4_14 _ _ _ hP hD hS (lv_sub hl [0, 1, 2, 3, 4] rfl) hw
def wp_X10_dayBy (told : Nat → Int32) (v1 : Int32) (v2 : Int32) (Post : Int32 → Prop) : Prop :=
  (∃ k_15 : Nat, wp_X10_dayBy_L5 told Post k_15 v1 v2 0 0)
set_option maxHeartbeats 4000000 in
set_option maxRecDepth 100000 in
theorem c_X10_dayBy (l : Launch) (D : va_G) (cI cB cZ cP cC : ClassId) (a_m a_m_told a_m_kept a_m_isKept a_m_refused a_m_months a_m_heirs a_m_lasts a_m_cares a_m_bestCares a_m_ones a_m_others a_m_bytes a_m_anew a_m_values : Nat) (above : Int64) (below : Int64) (retired : Int32) (manyLine : Int32) (bytesLong : Int32) (tokenAt : Int32) (tokenLong : Int32) (token : Int32) (value : Int32) (told : Nat → Int32) (v1 : Int32) (v2 : Int32) (sz : Nat) (Post : Int32 → Prop) (hw : wp_X10_dayBy told v1 v2 Post) :
    Met l yX10_dayBy (Cond.code yX10_dayBy cX10_dayBy 5 (some .int) :: wsAll) rm_X10_dayBy (va_Pc [.ref a_m, .int v1, .int v2] (mxP D (mxTy cI cB cZ cP cC) sz (ww_X10_dayBy a_m a_m_told a_m_kept a_m_isKept a_m_refused a_m_months a_m_heirs a_m_lasts a_m_cares a_m_bestCares a_m_ones a_m_others a_m_bytes a_m_anew a_m_values cI cB cZ cP cC above below retired manyLine bytesLong tokenAt tokenLong token value told))) (qq_X10_dayBy D a_m a_m_told a_m_kept a_m_isKept a_m_refused a_m_months a_m_heirs a_m_lasts a_m_cares a_m_bestCares a_m_ones a_m_others a_m_bytes a_m_anew a_m_values cI cB cZ cP cC above below retired manyLine bytesLong tokenAt tokenLong token value told Post (va_A (ww_X10_dayBy a_m a_m_told a_m_kept a_m_isKept a_m_refused a_m_months a_m_heirs a_m_lasts a_m_cares a_m_bestCares a_m_ones a_m_others a_m_bytes a_m_anew a_m_values cI cB cZ cP cC above below retired manyLine bytesLong tokenAt tokenLong token value told) sz)) 0 0 (va_A (ww_X10_dayBy a_m a_m_told a_m_kept a_m_isKept a_m_refused a_m_months a_m_heirs a_m_lasts a_m_cares a_m_bestCares a_m_ones a_m_others a_m_bytes a_m_anew a_m_values cI cB cZ cP cC above below retired manyLine bytesLong tokenAt tokenLong token value told) sz) := by
  refine mx_of (Qc := qq_X10_dayBy D a_m a_m_told a_m_kept a_m_isKept a_m_refused a_m_months a_m_heirs a_m_lasts a_m_cares a_m_bestCares a_m_ones a_m_others a_m_bytes a_m_anew a_m_values cI cB cZ cP cC above below retired manyLine bytesLong tokenAt tokenLong token value told Post) (by decide) (Nat.le_of_ble_eq_true rfl) ?_
  intro p e s m bl meth c A ls C0 hP hD hS hl
  replace C0 : mxC p s m [.ref a_m, .int v1, .int v2].toArray meth c cX10_dayBy RX10 (some .int) 5 D (mxTy cI cB cZ cP cC) A := C0
  obtain ⟨hx, hb, hr, hlocks, hml, hown, hts, hK, hA⟩ := id C0
  replace hl : lv_has ls 5 [(0, .ref a_m), (1, .int v1), (2, .int v2)] := hl
  unfold wp_X10_dayBy at hw
  refine lv_iconst (v := 0) hx hb dX10_dayBy_0 (by decide) ?_
  refine lv_istore_n (lv' := [(3, .int 0), (0, .ref a_m), (1, .int v1), (2, .int v2)]) hx hb dX10_dayBy_1 rfl hl (by decide) rfl (fun ls hl => ?_)
  refine lv_iconst (v := 0) hx hb dX10_dayBy_2 (by decide) ?_
  refine lv_istore (lv' := [(4, .int 0), (3, .int 0), (0, .ref a_m), (1, .int v1), (2, .int v2)]) hx hb dX10_dayBy_3 hl (by decide) rfl (fun ls hl => ?_)
  obtain ⟨n0, hw⟩ := hw
  refine k_X10_dayBy_L5 C0  n0 v1 v2 0 0 _ _ _ hP hD hS (lv_sub hl [2, 3, 4, 1, 0] rfl) hw
/-! PramStateModel.layHand()V -/
abbrev ww_X10_layHand (a_m a_m_told a_m_kept a_m_isKept a_m_refused a_m_months a_m_heirs a_m_lasts a_m_cares a_m_bestCares a_m_ones a_m_others a_m_bytes a_m_anew a_m_values : Nat) (cI cB cZ cP cC : ClassId) (above : Int64) (below : Int64) (retired : Int32) (manyLine : Int32) (bytesLong : Int32) (tokenAt : Int32) (tokenLong : Int32) (token : Int32) (value : Int32) (told : Nat → Int32) (months : Nat → Int32) : va_W := [(a_m, .inr (10, [.ref a_m_told, .ref a_m_kept, .ref a_m_isKept, .ref a_m_refused, .long above, .long below, .ref a_m_months, .int retired, .ref a_m_heirs, .ref a_m_lasts, .int manyLine, .ref a_m_cares, .ref a_m_bestCares, .ref a_m_ones, .ref a_m_others, .ref a_m_bytes, .int bytesLong, .int tokenAt, .int tokenLong, .int token, .int value, .ref a_m_anew, .ref a_m_values])), (a_m_told, .inl (cI, 190, .inl told)), (a_m_months, .inl (cI, 6, .inl months))]
abbrev qq_X10_layHand (D : va_G) (a_m a_m_told a_m_kept a_m_isKept a_m_refused a_m_months a_m_heirs a_m_lasts a_m_cares a_m_bestCares a_m_ones a_m_others a_m_bytes a_m_anew a_m_values : Nat) (cI cB cZ cP cC : ClassId) (above : Int64) (below : Int64) (manyLine : Int32) (bytesLong : Int32) (tokenAt : Int32) (tokenLong : Int32) (token : Int32) (value : Int32) (told : Nat → Int32) (Post : Int32 → (Nat → Int32) → Prop) (A : Nat → Prop) : Array Value → State → Outcome → State → Prop := va_Qv (fun (u : Int32 × (Nat → Int32)) => Post u.1 u.2) (fun (u : Int32 × (Nat → Int32)) t => mxB D (mxTy cI cB cZ cP cC) A (ww_X10_layHand a_m a_m_told a_m_kept a_m_isKept a_m_refused a_m_months a_m_heirs a_m_lasts a_m_cares a_m_bestCares a_m_ones a_m_others a_m_bytes a_m_anew a_m_values cI cB cZ cP cC above below (u.1) manyLine bytesLong tokenAt tokenLong token value told (u.2)) t) A
abbrev rm_X10_layHand : Room := { frames := 1, cells := 0, slots := 0, locals := 20 }
theorem hd_X10_layHand : yX10_layHand.cls = RX10 ∧ yX10_layHand.cls ≠ "java/lang/invoke/MethodHandle" ∧ yX10_layHand.cls ≠ "java/lang/invoke/VarHandle" ∧ (parseMethodDescriptor yX10_layHand.desc).map (fun d => d.parameters.length) = some 0 := by decide +kernel
def wp_X10_layHand_L2 (told : Nat → Int32) (Post : Int32 → (Nat → Int32) → Prop) (K_30 : Int32 → (Nat → Int32) → Prop) : Nat → Int32 → Int32 → (Nat → Int32) → Prop
  | 0, _, _, _ => False
  | n + 1, v1, retired, months => (wp_X10_many told (fun r_1 => ((r_1 ≤ v1 → K_30 retired months) ∧ (¬ r_1 ≤ v1 → (vp_in (4 + v1) 190 ∧ (∀ x_4 : Int32, x_4 = told (4 + v1).toNatClampNeg → (vp_in v1 6 ∧ (∀ f_6 : Nat → Int32, f_6 = upd months v1.toNatClampNeg x_4 → (∀ x_7 : Int32, x_7 = v1 + 1 → wp_X10_layHand_L2 told Post K_30 n x_7 retired f_6)))))))))
set_option maxHeartbeats 4000000 in
set_option maxRecDepth 100000 in
theorem k_X10_layHand_L2 {p : Program} {l : Launch} {e : Env} {s : State} {m : MethodId} {ar : Array Value} {bl : List Frame} {meth : Method} {c : Code} {D : va_G} {A : Nat → Prop} {cI cB cZ cP cC : ClassId} {a_m a_m_told a_m_kept a_m_isKept a_m_refused a_m_months a_m_heirs a_m_lasts a_m_cares a_m_bestCares a_m_ones a_m_others a_m_bytes a_m_anew a_m_values : Nat} {above : Int64} {below : Int64} {manyLine : Int32} {bytesLong : Int32} {tokenAt : Int32} {tokenLong : Int32} {token : Int32} {value : Int32} {told : Nat → Int32} {Post : Int32 → (Nat → Int32) → Prop} {K_30 : Int32 → (Nat → Int32) → Prop} (C0 : mxC p s m ar meth c cX10_layHand RX10 none 2 D (mxTy cI cB cZ cP cC) A)
    (hK_30 : ∀ (retired : Int32) (months : Nat → Int32) (H : Heap) (locs : List Loc) (ls : Array Slot), va_P D vwCl (ww_X10_layHand a_m a_m_told a_m_kept a_m_isKept a_m_refused a_m_months a_m_heirs a_m_lasts a_m_cares a_m_bestCares a_m_ones a_m_others a_m_bytes a_m_anew a_m_values cI cB cZ cP cC above below retired manyLine bytesLong tokenAt tokenLong token value told months) H → va_D A (ww_X10_layHand a_m a_m_told a_m_kept a_m_isKept a_m_refused a_m_months a_m_heirs a_m_lasts a_m_cares a_m_bestCares a_m_ones a_m_others a_m_bytes a_m_anew a_m_values cI cB cZ cP cC above below retired manyLine bytesLong tokenAt tokenLong token value told months) → va_S A s.heap H locs → lv_has ls 2 [(0, .ref a_m)] → K_30 retired months → W p l e rm_X10_layHand s m ar bl meth c H locs 0 0 (MQ bl (qq_X10_layHand D a_m a_m_told a_m_kept a_m_isKept a_m_refused a_m_months a_m_heirs a_m_lasts a_m_cares a_m_bestCares a_m_ones a_m_others a_m_bytes a_m_anew a_m_values cI cB cZ cP cC above below manyLine bytesLong tokenAt tokenLong token value told Post A) ar s 0 0 A) (F0 m 30 ls [])) :
    ∀ (n : Nat) (v1 : Int32) (retired : Int32) (months : Nat → Int32) (H : Heap) (locs : List Loc) (ls : Array Slot), va_P D vwCl (ww_X10_layHand a_m a_m_told a_m_kept a_m_isKept a_m_refused a_m_months a_m_heirs a_m_lasts a_m_cares a_m_bestCares a_m_ones a_m_others a_m_bytes a_m_anew a_m_values cI cB cZ cP cC above below retired manyLine bytesLong tokenAt tokenLong token value told months) H → va_D A (ww_X10_layHand a_m a_m_told a_m_kept a_m_isKept a_m_refused a_m_months a_m_heirs a_m_lasts a_m_cares a_m_bestCares a_m_ones a_m_others a_m_bytes a_m_anew a_m_values cI cB cZ cP cC above below retired manyLine bytesLong tokenAt tokenLong token value told months) → va_S A s.heap H locs → lv_has ls 2 [(0, .ref a_m), (1, .int v1)] → wp_X10_layHand_L2 told Post K_30 n v1 retired months → W p l e rm_X10_layHand s m ar bl meth c H locs 0 0 (MQ bl (qq_X10_layHand D a_m a_m_told a_m_kept a_m_isKept a_m_refused a_m_months a_m_heirs a_m_lasts a_m_cares a_m_bestCares a_m_ones a_m_others a_m_bytes a_m_anew a_m_values cI cB cZ cP cC above below manyLine bytesLong tokenAt tokenLong token value told Post A) ar s 0 0 A) (F0 m 2 ls []) := by
  obtain ⟨hx, hb, hr, hlocks, hml, hown, hts, hK, hA⟩ := id C0
  intro n
  induction n with
  | zero =>
    intro v1 retired months H locs ls hP hD hS hl hw
    exact absurd hw (fun h => h)
  | succ n ih =>
    intro v1 retired months H locs ls hP hD hS hl hw
    refine lv_iload_n hx hb dX10_layHand_2 rfl (lv_at hl 1 rfl) ?_
    refine lv_aload_n hx hb dX10_layHand_3 rfl (lv_at hl 0 rfl) ?_
    refine mx_ki (mx_rV (rm := rm_X10_many) (rest := [.int v1]) (C := RX10) hx hb hml hown hts (c_X10_many l D cI cB cZ cP cC a_m a_m_told a_m_kept a_m_isKept a_m_refused a_m_months a_m_heirs a_m_lasts a_m_cares a_m_bestCares a_m_ones a_m_others a_m_bytes a_m_anew a_m_values above below retired manyLine bytesLong tokenAt tokenLong token value told _ _ hw) q_132 q_133 q_134 q_5 q_135 hd_X10_many ⟨(Nat.le_of_ble_eq_true rfl), (Nat.le_of_ble_eq_true rfl)⟩ rfl rfl hK hP hD [0, 1] rfl rfl 10 0 rfl rfl rfl rfl hl.1 rfl (Nat.le_of_ble_eq_true rfl) dX10_layHand_4 ⟨(Nat.le_of_ble_eq_true rfl), (Nat.le_of_ble_eq_true rfl)⟩) hP hD hS hA [0, 1] [2] [1, 2, 0] (fun _ => ww_X10_layHand a_m a_m_told a_m_kept a_m_isKept a_m_refused a_m_months a_m_heirs a_m_lasts a_m_cares a_m_bestCares a_m_ones a_m_others a_m_bytes a_m_anew a_m_values cI cB cZ cP cC above below retired manyLine bytesLong tokenAt tokenLong token value told months) rfl rfl rfl (by decide) rfl (fun _ => rfl) (fun r_1 u H locs hw hP hD hS => ?_)
    try dsimp only at hw
    replace hP : va_P D vwCl (ww_X10_layHand a_m a_m_told a_m_kept a_m_isKept a_m_refused a_m_months a_m_heirs a_m_lasts a_m_cares a_m_bestCares a_m_ones a_m_others a_m_bytes a_m_anew a_m_values cI cB cZ cP cC above below retired manyLine bytesLong tokenAt tokenLong token value told months) H := hP
    replace hD : va_D A (ww_X10_layHand a_m a_m_told a_m_kept a_m_isKept a_m_refused a_m_months a_m_heirs a_m_lasts a_m_cares a_m_bestCares a_m_ones a_m_others a_m_bytes a_m_anew a_m_values cI cB cZ cP cC above below retired manyLine bytesLong tokenAt tokenLong token value told months) := hD
    refine lv_icmp_ge (tgt := 30) hx hb dX10_layHand_7 (by decide) (fun c_2 => ?_) (fun c_2 => ?_)
    · replace hw := hw.1 c_2
      exact hK_30 retired months _ _ _ hP hD hS (lv_sub hl [0] rfl) hw
    · replace hw := hw.2 c_2
      refine lv_aload_n hx hb dX10_layHand_10 rfl (lv_at hl 0 rfl) ?_
      refine mx_get (ci := 10) (C := RX10) (T := TX10) (N := 23) hx hb hown in_wsX100 hts hK hP 0 rfl rfl 6 (by decide) q_96 rfl (v := .ref a_m_months) rfl dX10_layHand_11 ?_
      refine lv_iload_n hx hb dX10_layHand_14 rfl (lv_at hl 1 rfl) ?_
      refine lv_aload_n hx hb dX10_layHand_15 rfl (lv_at hl 0 rfl) ?_
      refine mx_get (ci := 10) (C := RX10) (T := TX10) (N := 23) hx hb hown in_wsX100 hts hK hP 0 rfl rfl 0 (by decide) q_91 rfl (v := .ref a_m_told) rfl dX10_layHand_16 ?_
      refine lv_iconst (v := 4) hx hb dX10_layHand_19 (by decide) ?_
      refine lv_iload_n hx hb dX10_layHand_20 rfl (lv_at hl 1 rfl) ?_
      refine lv_iadd hx hb dX10_layHand_21 ?_
      obtain ⟨h_3, hw⟩ := hw
      refine mx_iald hx hb hK hP 1 0 rfl rfl h_3 (told (4 + v1).toNatClampNeg) rfl dX10_layHand_22 ?_
      refine lv_topi (fun x_4 ex_4 => ?_)
      replace hw := hw x_4 ex_4
      obtain ⟨h_5, hw⟩ := hw
      obtain ⟨f_6, ef_6⟩ : ∃ y : Nat → Int32, y = upd months v1.toNatClampNeg x_4 := ⟨_, rfl⟩
      replace hw := hw f_6 ef_6
      refine mx_iast hx hb hK hP hD hS 2 0 rfl rfl h_5 f_6 ef_6 (ww_X10_layHand a_m a_m_told a_m_kept a_m_isKept a_m_refused a_m_months a_m_heirs a_m_lasts a_m_cares a_m_bestCares a_m_ones a_m_others a_m_bytes a_m_anew a_m_values cI cB cZ cP cC above below retired manyLine bytesLong tokenAt tokenLong token value told f_6) rfl dX10_layHand_23 (fun H locs hP hD hS => ?_)
      obtain ⟨x_7, ex_7⟩ : ∃ y : Int32, y = v1 + 1 := ⟨_, rfl⟩
      replace hw := hw x_7 ex_7
      refine lv_iinc (v := x_7) (lv' := [(1, .int x_7), (0, .ref a_m)]) hx hb dX10_layHand_24 hl (k := 1) rfl (by rw [ex_7]; rfl) (by decide) rfl (fun ls hl => ?_)
      refine lv_goto (tgt := 2) hx hb dX10_layHand_27 (by decide) ?_
      exact ih x_7 retired f_6 _ _ _ hP hD hS (lv_sub hl [1, 0] rfl) hw
def wp_X10_layHand (told : Nat → Int32) (retired : Int32) (months : Nat → Int32) (Post : Int32 → (Nat → Int32) → Prop) : Prop :=
  (∃ k_11 : Nat, wp_X10_layHand_L2 told Post (fun (retired_8 : Int32) (months_9 : Nat → Int32) => (∀ x_10 : Int32, x_10 = told 10 → Post x_10 months_9)) k_11 0 retired months)
set_option maxHeartbeats 4000000 in
set_option maxRecDepth 100000 in
theorem c_X10_layHand (l : Launch) (D : va_G) (cI cB cZ cP cC : ClassId) (a_m a_m_told a_m_kept a_m_isKept a_m_refused a_m_months a_m_heirs a_m_lasts a_m_cares a_m_bestCares a_m_ones a_m_others a_m_bytes a_m_anew a_m_values : Nat) (above : Int64) (below : Int64) (retired : Int32) (manyLine : Int32) (bytesLong : Int32) (tokenAt : Int32) (tokenLong : Int32) (token : Int32) (value : Int32) (told : Nat → Int32) (months : Nat → Int32)  (sz : Nat) (Post : Int32 → (Nat → Int32) → Prop) (hw : wp_X10_layHand told retired months Post) :
    Met l yX10_layHand (Cond.code yX10_layHand cX10_layHand 2 none :: wsAll) rm_X10_layHand (va_Pc [.ref a_m] (mxP D (mxTy cI cB cZ cP cC) sz (ww_X10_layHand a_m a_m_told a_m_kept a_m_isKept a_m_refused a_m_months a_m_heirs a_m_lasts a_m_cares a_m_bestCares a_m_ones a_m_others a_m_bytes a_m_anew a_m_values cI cB cZ cP cC above below retired manyLine bytesLong tokenAt tokenLong token value told months))) (qq_X10_layHand D a_m a_m_told a_m_kept a_m_isKept a_m_refused a_m_months a_m_heirs a_m_lasts a_m_cares a_m_bestCares a_m_ones a_m_others a_m_bytes a_m_anew a_m_values cI cB cZ cP cC above below manyLine bytesLong tokenAt tokenLong token value told Post (va_A (ww_X10_layHand a_m a_m_told a_m_kept a_m_isKept a_m_refused a_m_months a_m_heirs a_m_lasts a_m_cares a_m_bestCares a_m_ones a_m_others a_m_bytes a_m_anew a_m_values cI cB cZ cP cC above below retired manyLine bytesLong tokenAt tokenLong token value told months) sz)) 0 0 (va_A (ww_X10_layHand a_m a_m_told a_m_kept a_m_isKept a_m_refused a_m_months a_m_heirs a_m_lasts a_m_cares a_m_bestCares a_m_ones a_m_others a_m_bytes a_m_anew a_m_values cI cB cZ cP cC above below retired manyLine bytesLong tokenAt tokenLong token value told months) sz) := by
  refine mx_of (Qc := qq_X10_layHand D a_m a_m_told a_m_kept a_m_isKept a_m_refused a_m_months a_m_heirs a_m_lasts a_m_cares a_m_bestCares a_m_ones a_m_others a_m_bytes a_m_anew a_m_values cI cB cZ cP cC above below manyLine bytesLong tokenAt tokenLong token value told Post) (by decide) (Nat.le_of_ble_eq_true rfl) ?_
  intro p e s m bl meth c A ls C0 hP hD hS hl
  replace C0 : mxC p s m [.ref a_m].toArray meth c cX10_layHand RX10 none 2 D (mxTy cI cB cZ cP cC) A := C0
  obtain ⟨hx, hb, hr, hlocks, hml, hown, hts, hK, hA⟩ := id C0
  replace hl : lv_has ls 2 [(0, .ref a_m)] := hl
  unfold wp_X10_layHand at hw
  refine lv_iconst (v := 0) hx hb dX10_layHand_0 (by decide) ?_
  refine lv_istore_n (lv' := [(1, .int 0), (0, .ref a_m)]) hx hb dX10_layHand_1 rfl hl (by decide) rfl (fun ls hl => ?_)
  obtain ⟨n0, hw⟩ := hw
  refine k_X10_layHand_L2 C0 ?_ n0 0 retired months _ _ _ hP hD hS (lv_sub hl [1, 0] rfl) hw
  intro retired_8 months_9 H locs ls hP hD hS hl hw
  refine lv_aload_n hx hb dX10_layHand_30 rfl (lv_at hl 0 rfl) ?_
  refine lv_aload_n hx hb dX10_layHand_31 rfl (lv_at hl 0 rfl) ?_
  refine mx_get (ci := 10) (C := RX10) (T := TX10) (N := 23) hx hb hown in_wsX100 hts hK hP 0 rfl rfl 0 (by decide) q_91 rfl (v := .ref a_m_told) rfl dX10_layHand_32 ?_
  refine lv_bipush (v := 10) hx hb dX10_layHand_35 (by decide) ?_
  refine mx_iald hx hb hK hP 1 0 rfl rfl (mx_lit rfl) (told 10) rfl dX10_layHand_37 ?_
  refine lv_topi (fun x_10 ex_10 => ?_)
  replace hw := hw x_10 ex_10
  refine mx_put (ci := 10) (C := RX10) (T := TX10) (N := 23) hx hb hown in_wsX100 tyX10 tyX10_ok nmX10 hts hK hP hD hS 0 rfl rfl 7 (by decide) q_432 rfl rfl rfl rfl (Nat.le_of_ble_eq_true rfl) (ww_X10_layHand a_m a_m_told a_m_kept a_m_isKept a_m_refused a_m_months a_m_heirs a_m_lasts a_m_cares a_m_bestCares a_m_ones a_m_others a_m_bytes a_m_anew a_m_values cI cB cZ cP cC above below x_10 manyLine bytesLong tokenAt tokenLong token value told months_9) rfl dX10_layHand_38 (fun H locs hP hD hS => ?_)
  exact mx_vret (x_10, months_9) hx hb hr hlocks hw hK hP hD hS dX10_layHand_41
/-! PramStateModel.reigns()I -/
abbrev ww_X10_reigns (a_m a_m_told a_m_kept a_m_isKept a_m_refused a_m_months a_m_heirs a_m_lasts a_m_cares a_m_bestCares a_m_ones a_m_others a_m_bytes a_m_anew a_m_values : Nat) (cI cB cZ cP cC : ClassId) (above : Int64) (below : Int64) (retired : Int32) (manyLine : Int32) (bytesLong : Int32) (tokenAt : Int32) (tokenLong : Int32) (token : Int32) (value : Int32) (told : Nat → Int32) (months : Nat → Int32) : va_W := [(a_m, .inr (10, [.ref a_m_told, .ref a_m_kept, .ref a_m_isKept, .ref a_m_refused, .long above, .long below, .ref a_m_months, .int retired, .ref a_m_heirs, .ref a_m_lasts, .int manyLine, .ref a_m_cares, .ref a_m_bestCares, .ref a_m_ones, .ref a_m_others, .ref a_m_bytes, .int bytesLong, .int tokenAt, .int tokenLong, .int token, .int value, .ref a_m_anew, .ref a_m_values])), (a_m_told, .inl (cI, 190, .inl told)), (a_m_months, .inl (cI, 6, .inl months))]
abbrev qq_X10_reigns (D : va_G) (a_m a_m_told a_m_kept a_m_isKept a_m_refused a_m_months a_m_heirs a_m_lasts a_m_cares a_m_bestCares a_m_ones a_m_others a_m_bytes a_m_anew a_m_values : Nat) (cI cB cZ cP cC : ClassId) (above : Int64) (below : Int64) (retired : Int32) (manyLine : Int32) (bytesLong : Int32) (tokenAt : Int32) (tokenLong : Int32) (token : Int32) (value : Int32) (told : Nat → Int32) (months : Nat → Int32) (Post : Int32 → Prop) (A : Nat → Prop) : Array Value → State → Outcome → State → Prop := va_Qi (fun (r : Int32) (u : Unit) => Post r) (fun (u : Unit) t => mxB D (mxTy cI cB cZ cP cC) A (ww_X10_reigns a_m a_m_told a_m_kept a_m_isKept a_m_refused a_m_months a_m_heirs a_m_lasts a_m_cares a_m_bestCares a_m_ones a_m_others a_m_bytes a_m_anew a_m_values cI cB cZ cP cC above below retired manyLine bytesLong tokenAt tokenLong token value told months) t) A
abbrev rm_X10_reigns : Room := { frames := 1, cells := 0, slots := 0, locals := 21 }
theorem hd_X10_reigns : yX10_reigns.cls = RX10 ∧ yX10_reigns.cls ≠ "java/lang/invoke/MethodHandle" ∧ yX10_reigns.cls ≠ "java/lang/invoke/VarHandle" ∧ (parseMethodDescriptor yX10_reigns.desc).map (fun d => d.parameters.length) = some 0 := by decide +kernel
def wp_X10_reigns_J58 (retired : Int32) (told : Nat → Int32) (months : Nat → Int32) (Post : Int32 → Prop) (K_4 : Int32 → Int32 → Prop) (v2 : Int32) (s0 : Int32) : Prop :=
  (∀ x_6 : Int32, x_6 = v2 + 1 → K_4 s0 x_6)
set_option maxHeartbeats 4000000 in
set_option maxRecDepth 100000 in
theorem k_X10_reigns_J58 {p : Program} {l : Launch} {e : Env} {s : State} {m : MethodId} {ar : Array Value} {bl : List Frame} {meth : Method} {c : Code} {D : va_G} {A : Nat → Prop} {cI cB cZ cP cC : ClassId} {a_m a_m_told a_m_kept a_m_isKept a_m_refused a_m_months a_m_heirs a_m_lasts a_m_cares a_m_bestCares a_m_ones a_m_others a_m_bytes a_m_anew a_m_values : Nat} {above : Int64} {below : Int64} {retired : Int32} {manyLine : Int32} {bytesLong : Int32} {tokenAt : Int32} {tokenLong : Int32} {token : Int32} {value : Int32} {told : Nat → Int32} {months : Nat → Int32} {Post : Int32 → Prop} {K_4 : Int32 → Int32 → Prop} (C0 : mxC p s m ar meth c cX10_reigns RX10 (some .int) 4 D (mxTy cI cB cZ cP cC) A)
    (hK_4 : ∀ (v1 : Int32) (v2 : Int32) (H : Heap) (locs : List Loc) (ls : Array Slot), va_P D vwCl (ww_X10_reigns a_m a_m_told a_m_kept a_m_isKept a_m_refused a_m_months a_m_heirs a_m_lasts a_m_cares a_m_bestCares a_m_ones a_m_others a_m_bytes a_m_anew a_m_values cI cB cZ cP cC above below retired manyLine bytesLong tokenAt tokenLong token value told months) H → va_D A (ww_X10_reigns a_m a_m_told a_m_kept a_m_isKept a_m_refused a_m_months a_m_heirs a_m_lasts a_m_cares a_m_bestCares a_m_ones a_m_others a_m_bytes a_m_anew a_m_values cI cB cZ cP cC above below retired manyLine bytesLong tokenAt tokenLong token value told months) → va_S A s.heap H locs → lv_has ls 4 [(0, .ref a_m), (1, .int v1), (2, .int v2)] → K_4 v1 v2 → W p l e rm_X10_reigns s m ar bl meth c H locs 0 0 (MQ bl (qq_X10_reigns D a_m a_m_told a_m_kept a_m_isKept a_m_refused a_m_months a_m_heirs a_m_lasts a_m_cares a_m_bestCares a_m_ones a_m_others a_m_bytes a_m_anew a_m_values cI cB cZ cP cC above below retired manyLine bytesLong tokenAt tokenLong token value told months Post A) ar s 0 0 A) (F0 m 4 ls [])) :
    ∀ (v2 : Int32) (s0 : Int32) (H : Heap) (locs : List Loc) (ls : Array Slot), va_P D vwCl (ww_X10_reigns a_m a_m_told a_m_kept a_m_isKept a_m_refused a_m_months a_m_heirs a_m_lasts a_m_cares a_m_bestCares a_m_ones a_m_others a_m_bytes a_m_anew a_m_values cI cB cZ cP cC above below retired manyLine bytesLong tokenAt tokenLong token value told months) H → va_D A (ww_X10_reigns a_m a_m_told a_m_kept a_m_isKept a_m_refused a_m_months a_m_heirs a_m_lasts a_m_cares a_m_bestCares a_m_ones a_m_others a_m_bytes a_m_anew a_m_values cI cB cZ cP cC above below retired manyLine bytesLong tokenAt tokenLong token value told months) → va_S A s.heap H locs → lv_has ls 4 [(0, .ref a_m), (2, .int v2)] → wp_X10_reigns_J58 retired told months Post K_4 v2 s0 → W p l e rm_X10_reigns s m ar bl meth c H locs 0 0 (MQ bl (qq_X10_reigns D a_m a_m_told a_m_kept a_m_isKept a_m_refused a_m_months a_m_heirs a_m_lasts a_m_cares a_m_bestCares a_m_ones a_m_others a_m_bytes a_m_anew a_m_values cI cB cZ cP cC above below retired manyLine bytesLong tokenAt tokenLong token value told months Post A) ar s 0 0 A) (F0 m 58 ls [.int s0]) := by
  obtain ⟨hx, hb, hr, hlocks, hml, hown, hts, hK, hA⟩ := id C0
  intro v2 s0 H locs ls hP hD hS hl hw
  refine lv_istore_n (lv' := [(1, .int s0), (0, .ref a_m), (2, .int v2)]) hx hb dX10_reigns_58 rfl hl (by decide) rfl (fun ls hl => ?_)
  obtain ⟨x_6, ex_6⟩ : ∃ y : Int32, y = v2 + 1 := ⟨_, rfl⟩
  replace hw := hw x_6 ex_6
  refine lv_iinc (v := x_6) (lv' := [(2, .int x_6), (1, .int s0), (0, .ref a_m)]) hx hb dX10_reigns_59 hl (k := 2) rfl (by rw [ex_6]; rfl) (by decide) rfl (fun ls hl => ?_)
  refine lv_goto (tgt := 4) hx hb dX10_reigns_62 (by decide) ?_
  exact hK_4 s0 x_6 _ _ _ hP hD hS (lv_sub hl [2, 1, 0] rfl) hw
def wp_X10_reigns_J57 (retired : Int32) (told : Nat → Int32) (months : Nat → Int32) (Post : Int32 → Prop) (K_4 : Int32 → Int32 → Prop) (v1 : Int32) (v2 : Int32) : Prop :=
  (wp_X10_reigns_J58 retired told months Post K_4 v2 v1)
set_option maxHeartbeats 4000000 in
set_option maxRecDepth 100000 in
theorem k_X10_reigns_J57 {p : Program} {l : Launch} {e : Env} {s : State} {m : MethodId} {ar : Array Value} {bl : List Frame} {meth : Method} {c : Code} {D : va_G} {A : Nat → Prop} {cI cB cZ cP cC : ClassId} {a_m a_m_told a_m_kept a_m_isKept a_m_refused a_m_months a_m_heirs a_m_lasts a_m_cares a_m_bestCares a_m_ones a_m_others a_m_bytes a_m_anew a_m_values : Nat} {above : Int64} {below : Int64} {retired : Int32} {manyLine : Int32} {bytesLong : Int32} {tokenAt : Int32} {tokenLong : Int32} {token : Int32} {value : Int32} {told : Nat → Int32} {months : Nat → Int32} {Post : Int32 → Prop} {K_4 : Int32 → Int32 → Prop} (C0 : mxC p s m ar meth c cX10_reigns RX10 (some .int) 4 D (mxTy cI cB cZ cP cC) A)
    (hK_4 : ∀ (v1 : Int32) (v2 : Int32) (H : Heap) (locs : List Loc) (ls : Array Slot), va_P D vwCl (ww_X10_reigns a_m a_m_told a_m_kept a_m_isKept a_m_refused a_m_months a_m_heirs a_m_lasts a_m_cares a_m_bestCares a_m_ones a_m_others a_m_bytes a_m_anew a_m_values cI cB cZ cP cC above below retired manyLine bytesLong tokenAt tokenLong token value told months) H → va_D A (ww_X10_reigns a_m a_m_told a_m_kept a_m_isKept a_m_refused a_m_months a_m_heirs a_m_lasts a_m_cares a_m_bestCares a_m_ones a_m_others a_m_bytes a_m_anew a_m_values cI cB cZ cP cC above below retired manyLine bytesLong tokenAt tokenLong token value told months) → va_S A s.heap H locs → lv_has ls 4 [(0, .ref a_m), (1, .int v1), (2, .int v2)] → K_4 v1 v2 → W p l e rm_X10_reigns s m ar bl meth c H locs 0 0 (MQ bl (qq_X10_reigns D a_m a_m_told a_m_kept a_m_isKept a_m_refused a_m_months a_m_heirs a_m_lasts a_m_cares a_m_bestCares a_m_ones a_m_others a_m_bytes a_m_anew a_m_values cI cB cZ cP cC above below retired manyLine bytesLong tokenAt tokenLong token value told months Post A) ar s 0 0 A) (F0 m 4 ls [])) :
    ∀ (v1 : Int32) (v2 : Int32) (H : Heap) (locs : List Loc) (ls : Array Slot), va_P D vwCl (ww_X10_reigns a_m a_m_told a_m_kept a_m_isKept a_m_refused a_m_months a_m_heirs a_m_lasts a_m_cares a_m_bestCares a_m_ones a_m_others a_m_bytes a_m_anew a_m_values cI cB cZ cP cC above below retired manyLine bytesLong tokenAt tokenLong token value told months) H → va_D A (ww_X10_reigns a_m a_m_told a_m_kept a_m_isKept a_m_refused a_m_months a_m_heirs a_m_lasts a_m_cares a_m_bestCares a_m_ones a_m_others a_m_bytes a_m_anew a_m_values cI cB cZ cP cC above below retired manyLine bytesLong tokenAt tokenLong token value told months) → va_S A s.heap H locs → lv_has ls 4 [(0, .ref a_m), (1, .int v1), (2, .int v2)] → wp_X10_reigns_J57 retired told months Post K_4 v1 v2 → W p l e rm_X10_reigns s m ar bl meth c H locs 0 0 (MQ bl (qq_X10_reigns D a_m a_m_told a_m_kept a_m_isKept a_m_refused a_m_months a_m_heirs a_m_lasts a_m_cares a_m_bestCares a_m_ones a_m_others a_m_bytes a_m_anew a_m_values cI cB cZ cP cC above below retired manyLine bytesLong tokenAt tokenLong token value told months Post A) ar s 0 0 A) (F0 m 57 ls []) := by
  obtain ⟨hx, hb, hr, hlocks, hml, hown, hts, hK, hA⟩ := id C0
  intro v1 v2 H locs ls hP hD hS hl hw
  refine lv_iload_n hx hb dX10_reigns_57 rfl (lv_at hl 1 rfl) ?_
  refine k_X10_reigns_J58 C0 ?_ v2 v1 _ _ _ hP hD hS (lv_sub hl [0, 2] rfl) hw
  intro v1_7 v2_8 H locs ls hP hD hS hl hw
  exact hK_4 v1_7 v2_8 _ _ _ hP hD hS (lv_sub hl [0, 1, 2] rfl) hw
def wp_X10_reigns_J37 (retired : Int32) (told : Nat → Int32) (months : Nat → Int32) (Post : Int32 → Prop) (K_4 : Int32 → Int32 → Prop) (v1 : Int32) (v2 : Int32) (s0 : Int32) : Prop :=
  (wp_X10_has retired v2 (fun r_4 => ((r_4 = 0 → ((s0 = 0 → (wp_X10_reigns_J57 retired told months Post K_4 v1 v2)) ∧ (¬ s0 = 0 → (wp_X10_reigns_J58 retired told months Post K_4 v2 v2)))) ∧ (¬ r_4 = 0 → (wp_X10_reigns_J57 retired told months Post K_4 v1 v2)))))
set_option maxHeartbeats 4000000 in
set_option maxRecDepth 100000 in
theorem k_X10_reigns_J37 {p : Program} {l : Launch} {e : Env} {s : State} {m : MethodId} {ar : Array Value} {bl : List Frame} {meth : Method} {c : Code} {D : va_G} {A : Nat → Prop} {cI cB cZ cP cC : ClassId} {a_m a_m_told a_m_kept a_m_isKept a_m_refused a_m_months a_m_heirs a_m_lasts a_m_cares a_m_bestCares a_m_ones a_m_others a_m_bytes a_m_anew a_m_values : Nat} {above : Int64} {below : Int64} {retired : Int32} {manyLine : Int32} {bytesLong : Int32} {tokenAt : Int32} {tokenLong : Int32} {token : Int32} {value : Int32} {told : Nat → Int32} {months : Nat → Int32} {Post : Int32 → Prop} {K_4 : Int32 → Int32 → Prop} (C0 : mxC p s m ar meth c cX10_reigns RX10 (some .int) 4 D (mxTy cI cB cZ cP cC) A)
    (hK_4 : ∀ (v1 : Int32) (v2 : Int32) (H : Heap) (locs : List Loc) (ls : Array Slot), va_P D vwCl (ww_X10_reigns a_m a_m_told a_m_kept a_m_isKept a_m_refused a_m_months a_m_heirs a_m_lasts a_m_cares a_m_bestCares a_m_ones a_m_others a_m_bytes a_m_anew a_m_values cI cB cZ cP cC above below retired manyLine bytesLong tokenAt tokenLong token value told months) H → va_D A (ww_X10_reigns a_m a_m_told a_m_kept a_m_isKept a_m_refused a_m_months a_m_heirs a_m_lasts a_m_cares a_m_bestCares a_m_ones a_m_others a_m_bytes a_m_anew a_m_values cI cB cZ cP cC above below retired manyLine bytesLong tokenAt tokenLong token value told months) → va_S A s.heap H locs → lv_has ls 4 [(0, .ref a_m), (1, .int v1), (2, .int v2)] → K_4 v1 v2 → W p l e rm_X10_reigns s m ar bl meth c H locs 0 0 (MQ bl (qq_X10_reigns D a_m a_m_told a_m_kept a_m_isKept a_m_refused a_m_months a_m_heirs a_m_lasts a_m_cares a_m_bestCares a_m_ones a_m_others a_m_bytes a_m_anew a_m_values cI cB cZ cP cC above below retired manyLine bytesLong tokenAt tokenLong token value told months Post A) ar s 0 0 A) (F0 m 4 ls [])) :
    ∀ (v1 : Int32) (v2 : Int32) (s0 : Int32) (H : Heap) (locs : List Loc) (ls : Array Slot), va_P D vwCl (ww_X10_reigns a_m a_m_told a_m_kept a_m_isKept a_m_refused a_m_months a_m_heirs a_m_lasts a_m_cares a_m_bestCares a_m_ones a_m_others a_m_bytes a_m_anew a_m_values cI cB cZ cP cC above below retired manyLine bytesLong tokenAt tokenLong token value told months) H → va_D A (ww_X10_reigns a_m a_m_told a_m_kept a_m_isKept a_m_refused a_m_months a_m_heirs a_m_lasts a_m_cares a_m_bestCares a_m_ones a_m_others a_m_bytes a_m_anew a_m_values cI cB cZ cP cC above below retired manyLine bytesLong tokenAt tokenLong token value told months) → va_S A s.heap H locs → lv_has ls 4 [(0, .ref a_m), (1, .int v1), (2, .int v2)] → wp_X10_reigns_J37 retired told months Post K_4 v1 v2 s0 → W p l e rm_X10_reigns s m ar bl meth c H locs 0 0 (MQ bl (qq_X10_reigns D a_m a_m_told a_m_kept a_m_isKept a_m_refused a_m_months a_m_heirs a_m_lasts a_m_cares a_m_bestCares a_m_ones a_m_others a_m_bytes a_m_anew a_m_values cI cB cZ cP cC above below retired manyLine bytesLong tokenAt tokenLong token value told months Post A) ar s 0 0 A) (F0 m 37 ls [.int s0]) := by
  obtain ⟨hx, hb, hr, hlocks, hml, hown, hts, hK, hA⟩ := id C0
  intro v1 v2 s0 H locs ls hP hD hS hl hw
  refine lv_istore_n (lv' := [(3, .int s0), (0, .ref a_m), (1, .int v1), (2, .int v2)]) hx hb dX10_reigns_37 rfl hl (by decide) rfl (fun ls hl => ?_)
  refine lv_aload_n hx hb dX10_reigns_38 rfl (lv_at hl 1 rfl) ?_
  refine mx_get (ci := 10) (C := RX10) (T := TX10) (N := 23) hx hb hown in_wsX100 hts hK hP 0 rfl rfl 7 (by decide) q_432 rfl (v := .int retired) rfl dX10_reigns_39 ?_
  refine lv_iload_n hx hb dX10_reigns_42 rfl (lv_at hl 3 rfl) ?_
  refine mx_ki (mx_rS (rm := rm_X10_has) (rest := []) hx hb hml hown hts (c_X10_has l D cI cB cZ cP cC retired v2 _ _ hw) q_445 q_446 q_5 q_447 hd_X10_has ⟨(Nat.le_of_ble_eq_true rfl), (Nat.le_of_ble_eq_true rfl)⟩ rfl rfl hK hP hD [] rfl rfl rfl hl.1 rfl (Nat.le_of_ble_eq_true rfl) dX10_reigns_43 ⟨(Nat.le_of_ble_eq_true rfl), (Nat.le_of_ble_eq_true rfl)⟩) hP hD hS hA [] [0, 1, 2] [0, 1, 2] (fun _ => ww_X10_reigns a_m a_m_told a_m_kept a_m_isKept a_m_refused a_m_months a_m_heirs a_m_lasts a_m_cares a_m_bestCares a_m_ones a_m_others a_m_bytes a_m_anew a_m_values cI cB cZ cP cC above below retired manyLine bytesLong tokenAt tokenLong token value told months) rfl rfl rfl (by decide) rfl (fun _ => rfl) (fun r_4 u H locs hw hP hD hS => ?_)
  try dsimp only at hw
  replace hP : va_P D vwCl (ww_X10_reigns a_m a_m_told a_m_kept a_m_isKept a_m_refused a_m_months a_m_heirs a_m_lasts a_m_cares a_m_bestCares a_m_ones a_m_others a_m_bytes a_m_anew a_m_values cI cB cZ cP cC above below retired manyLine bytesLong tokenAt tokenLong token value told months) H := hP
  replace hD : va_D A (ww_X10_reigns a_m a_m_told a_m_kept a_m_isKept a_m_refused a_m_months a_m_heirs a_m_lasts a_m_cares a_m_bestCares a_m_ones a_m_others a_m_bytes a_m_anew a_m_values cI cB cZ cP cC above below retired manyLine bytesLong tokenAt tokenLong token value told months) := hD
  refine lv_if_ne (tgt := 57) hx hb dX10_reigns_46 (by decide) (fun c_5 => ?_) (fun c_5 => ?_)
  · replace hw := hw.2 c_5
    refine k_X10_reigns_J57 C0 ?_ v1 v2 _ _ _ hP hD hS (lv_sub hl [1, 2, 3] rfl) hw
    intro v1_9 v2_10 H locs ls hP hD hS hl hw
    exact hK_4 v1_9 v2_10 _ _ _ hP hD hS (lv_sub hl [0, 1, 2] rfl) hw
  · replace hw := hw.1 c_5
    refine lv_iload_n hx hb dX10_reigns_49 rfl (lv_at hl 0 rfl) ?_
    refine lv_if_eq (tgt := 57) hx hb dX10_reigns_50 (by decide) (fun c_11 => ?_) (fun c_11 => ?_)
    · replace hw := hw.1 c_11
      refine k_X10_reigns_J57 C0 ?_ v1 v2 _ _ _ hP hD hS (lv_sub hl [1, 2, 3] rfl) hw
      intro v1_12 v2_13 H locs ls hP hD hS hl hw
      exact hK_4 v1_12 v2_13 _ _ _ hP hD hS (lv_sub hl [0, 1, 2] rfl) hw
    · replace hw := hw.2 c_11
      refine lv_iload_n hx hb dX10_reigns_53 rfl (lv_at hl 3 rfl) ?_
      refine lv_goto (tgt := 58) hx hb dX10_reigns_54 (by decide) ?_
      refine k_X10_reigns_J58 C0 ?_ v2 v2 _ _ _ hP hD hS (lv_sub hl [1, 3] rfl) hw
      intro v1_14 v2_15 H locs ls hP hD hS hl hw
      exact hK_4 v1_14 v2_15 _ _ _ hP hD hS (lv_sub hl [0, 1, 2] rfl) hw
def wp_X10_reigns_J32 (retired : Int32) (told : Nat → Int32) (months : Nat → Int32) (Post : Int32 → Prop) (K_4 : Int32 → Int32 → Prop) (v1 : Int32) (v2 : Int32) : Prop :=
  (wp_X10_reigns_J37 retired told months Post K_4 v1 v2 1)
set_option maxHeartbeats 4000000 in
set_option maxRecDepth 100000 in
theorem k_X10_reigns_J32 {p : Program} {l : Launch} {e : Env} {s : State} {m : MethodId} {ar : Array Value} {bl : List Frame} {meth : Method} {c : Code} {D : va_G} {A : Nat → Prop} {cI cB cZ cP cC : ClassId} {a_m a_m_told a_m_kept a_m_isKept a_m_refused a_m_months a_m_heirs a_m_lasts a_m_cares a_m_bestCares a_m_ones a_m_others a_m_bytes a_m_anew a_m_values : Nat} {above : Int64} {below : Int64} {retired : Int32} {manyLine : Int32} {bytesLong : Int32} {tokenAt : Int32} {tokenLong : Int32} {token : Int32} {value : Int32} {told : Nat → Int32} {months : Nat → Int32} {Post : Int32 → Prop} {K_4 : Int32 → Int32 → Prop} (C0 : mxC p s m ar meth c cX10_reigns RX10 (some .int) 4 D (mxTy cI cB cZ cP cC) A)
    (hK_4 : ∀ (v1 : Int32) (v2 : Int32) (H : Heap) (locs : List Loc) (ls : Array Slot), va_P D vwCl (ww_X10_reigns a_m a_m_told a_m_kept a_m_isKept a_m_refused a_m_months a_m_heirs a_m_lasts a_m_cares a_m_bestCares a_m_ones a_m_others a_m_bytes a_m_anew a_m_values cI cB cZ cP cC above below retired manyLine bytesLong tokenAt tokenLong token value told months) H → va_D A (ww_X10_reigns a_m a_m_told a_m_kept a_m_isKept a_m_refused a_m_months a_m_heirs a_m_lasts a_m_cares a_m_bestCares a_m_ones a_m_others a_m_bytes a_m_anew a_m_values cI cB cZ cP cC above below retired manyLine bytesLong tokenAt tokenLong token value told months) → va_S A s.heap H locs → lv_has ls 4 [(0, .ref a_m), (1, .int v1), (2, .int v2)] → K_4 v1 v2 → W p l e rm_X10_reigns s m ar bl meth c H locs 0 0 (MQ bl (qq_X10_reigns D a_m a_m_told a_m_kept a_m_isKept a_m_refused a_m_months a_m_heirs a_m_lasts a_m_cares a_m_bestCares a_m_ones a_m_others a_m_bytes a_m_anew a_m_values cI cB cZ cP cC above below retired manyLine bytesLong tokenAt tokenLong token value told months Post A) ar s 0 0 A) (F0 m 4 ls [])) :
    ∀ (v1 : Int32) (v2 : Int32) (H : Heap) (locs : List Loc) (ls : Array Slot), va_P D vwCl (ww_X10_reigns a_m a_m_told a_m_kept a_m_isKept a_m_refused a_m_months a_m_heirs a_m_lasts a_m_cares a_m_bestCares a_m_ones a_m_others a_m_bytes a_m_anew a_m_values cI cB cZ cP cC above below retired manyLine bytesLong tokenAt tokenLong token value told months) H → va_D A (ww_X10_reigns a_m a_m_told a_m_kept a_m_isKept a_m_refused a_m_months a_m_heirs a_m_lasts a_m_cares a_m_bestCares a_m_ones a_m_others a_m_bytes a_m_anew a_m_values cI cB cZ cP cC above below retired manyLine bytesLong tokenAt tokenLong token value told months) → va_S A s.heap H locs → lv_has ls 4 [(0, .ref a_m), (1, .int v1), (2, .int v2)] → wp_X10_reigns_J32 retired told months Post K_4 v1 v2 → W p l e rm_X10_reigns s m ar bl meth c H locs 0 0 (MQ bl (qq_X10_reigns D a_m a_m_told a_m_kept a_m_isKept a_m_refused a_m_months a_m_heirs a_m_lasts a_m_cares a_m_bestCares a_m_ones a_m_others a_m_bytes a_m_anew a_m_values cI cB cZ cP cC above below retired manyLine bytesLong tokenAt tokenLong token value told months Post A) ar s 0 0 A) (F0 m 32 ls []) := by
  obtain ⟨hx, hb, hr, hlocks, hml, hown, hts, hK, hA⟩ := id C0
  intro v1 v2 H locs ls hP hD hS hl hw
  refine lv_iconst (v := 1) hx hb dX10_reigns_32 (by decide) ?_
  refine lv_goto (tgt := 37) hx hb dX10_reigns_33 (by decide) ?_
  refine k_X10_reigns_J37 C0 ?_ v1 v2 1 _ _ _ hP hD hS (lv_sub hl [0, 1, 2] rfl) hw
  intro v1_16 v2_17 H locs ls hP hD hS hl hw
  exact hK_4 v1_16 v2_17 _ _ _ hP hD hS (lv_sub hl [0, 1, 2] rfl) hw
def wp_X10_reigns_L4 (retired : Int32) (told : Nat → Int32) (months : Nat → Int32) (Post : Int32 → Prop)  : Nat → Int32 → Int32 → Prop
  | 0, _, _ => False
  | n + 1, v1, v2 => (wp_X10_many told (fun r_1 => ((r_1 ≤ v2 → Post v1) ∧ (¬ r_1 ≤ v2 → ((v1 = (-1) → (wp_X10_reigns_J32 retired told months Post (fun (v1_18 : Int32) (v2_19 : Int32) => wp_X10_reigns_L4 retired told months Post  n v1_18 v2_19) v1 v2)) ∧ (¬ v1 = (-1) → (vp_in v2 6 ∧ (vp_in v1 6 ∧ (((months v2.toNatClampNeg) ≤ (months v1.toNatClampNeg) → (wp_X10_reigns_J37 retired told months Post (fun (v1_23 : Int32) (v2_24 : Int32) => wp_X10_reigns_L4 retired told months Post  n v1_23 v2_24) v1 v2 0)) ∧ (¬ (months v2.toNatClampNeg) ≤ (months v1.toNatClampNeg) → (wp_X10_reigns_J32 retired told months Post (fun (v1_25 : Int32) (v2_26 : Int32) => wp_X10_reigns_L4 retired told months Post  n v1_25 v2_26) v1 v2)))))))))))
set_option maxHeartbeats 4000000 in
set_option maxRecDepth 100000 in
theorem k_X10_reigns_L4 {p : Program} {l : Launch} {e : Env} {s : State} {m : MethodId} {ar : Array Value} {bl : List Frame} {meth : Method} {c : Code} {D : va_G} {A : Nat → Prop} {cI cB cZ cP cC : ClassId} {a_m a_m_told a_m_kept a_m_isKept a_m_refused a_m_months a_m_heirs a_m_lasts a_m_cares a_m_bestCares a_m_ones a_m_others a_m_bytes a_m_anew a_m_values : Nat} {above : Int64} {below : Int64} {retired : Int32} {manyLine : Int32} {bytesLong : Int32} {tokenAt : Int32} {tokenLong : Int32} {token : Int32} {value : Int32} {told : Nat → Int32} {months : Nat → Int32} {Post : Int32 → Prop} (C0 : mxC p s m ar meth c cX10_reigns RX10 (some .int) 4 D (mxTy cI cB cZ cP cC) A) :
    ∀ (n : Nat) (v1 : Int32) (v2 : Int32) (H : Heap) (locs : List Loc) (ls : Array Slot), va_P D vwCl (ww_X10_reigns a_m a_m_told a_m_kept a_m_isKept a_m_refused a_m_months a_m_heirs a_m_lasts a_m_cares a_m_bestCares a_m_ones a_m_others a_m_bytes a_m_anew a_m_values cI cB cZ cP cC above below retired manyLine bytesLong tokenAt tokenLong token value told months) H → va_D A (ww_X10_reigns a_m a_m_told a_m_kept a_m_isKept a_m_refused a_m_months a_m_heirs a_m_lasts a_m_cares a_m_bestCares a_m_ones a_m_others a_m_bytes a_m_anew a_m_values cI cB cZ cP cC above below retired manyLine bytesLong tokenAt tokenLong token value told months) → va_S A s.heap H locs → lv_has ls 4 [(0, .ref a_m), (1, .int v1), (2, .int v2)] → wp_X10_reigns_L4 retired told months Post  n v1 v2 → W p l e rm_X10_reigns s m ar bl meth c H locs 0 0 (MQ bl (qq_X10_reigns D a_m a_m_told a_m_kept a_m_isKept a_m_refused a_m_months a_m_heirs a_m_lasts a_m_cares a_m_bestCares a_m_ones a_m_others a_m_bytes a_m_anew a_m_values cI cB cZ cP cC above below retired manyLine bytesLong tokenAt tokenLong token value told months Post A) ar s 0 0 A) (F0 m 4 ls []) := by
  obtain ⟨hx, hb, hr, hlocks, hml, hown, hts, hK, hA⟩ := id C0
  intro n
  induction n with
  | zero =>
    intro v1 v2 H locs ls hP hD hS hl hw
    exact absurd hw (fun h => h)
  | succ n ih =>
    intro v1 v2 H locs ls hP hD hS hl hw
    refine lv_iload_n hx hb dX10_reigns_4 rfl (lv_at hl 2 rfl) ?_
    refine lv_aload_n hx hb dX10_reigns_5 rfl (lv_at hl 0 rfl) ?_
    refine mx_ki (mx_rV (rm := rm_X10_many) (rest := [.int v2]) (C := RX10) hx hb hml hown hts (c_X10_many l D cI cB cZ cP cC a_m a_m_told a_m_kept a_m_isKept a_m_refused a_m_months a_m_heirs a_m_lasts a_m_cares a_m_bestCares a_m_ones a_m_others a_m_bytes a_m_anew a_m_values above below retired manyLine bytesLong tokenAt tokenLong token value told _ _ hw) q_132 q_133 q_134 q_5 q_135 hd_X10_many ⟨(Nat.le_of_ble_eq_true rfl), (Nat.le_of_ble_eq_true rfl)⟩ rfl rfl hK hP hD [0, 1] rfl rfl 10 0 rfl rfl rfl rfl hl.1 rfl (Nat.le_of_ble_eq_true rfl) dX10_reigns_6 ⟨(Nat.le_of_ble_eq_true rfl), (Nat.le_of_ble_eq_true rfl)⟩) hP hD hS hA [0, 1] [2] [1, 2, 0] (fun _ => ww_X10_reigns a_m a_m_told a_m_kept a_m_isKept a_m_refused a_m_months a_m_heirs a_m_lasts a_m_cares a_m_bestCares a_m_ones a_m_others a_m_bytes a_m_anew a_m_values cI cB cZ cP cC above below retired manyLine bytesLong tokenAt tokenLong token value told months) rfl rfl rfl (by decide) rfl (fun _ => rfl) (fun r_1 u H locs hw hP hD hS => ?_)
    try dsimp only at hw
    replace hP : va_P D vwCl (ww_X10_reigns a_m a_m_told a_m_kept a_m_isKept a_m_refused a_m_months a_m_heirs a_m_lasts a_m_cares a_m_bestCares a_m_ones a_m_others a_m_bytes a_m_anew a_m_values cI cB cZ cP cC above below retired manyLine bytesLong tokenAt tokenLong token value told months) H := hP
    replace hD : va_D A (ww_X10_reigns a_m a_m_told a_m_kept a_m_isKept a_m_refused a_m_months a_m_heirs a_m_lasts a_m_cares a_m_bestCares a_m_ones a_m_others a_m_bytes a_m_anew a_m_values cI cB cZ cP cC above below retired manyLine bytesLong tokenAt tokenLong token value told months) := hD
    refine lv_icmp_ge (tgt := 65) hx hb dX10_reigns_9 (by decide) (fun c_2 => ?_) (fun c_2 => ?_)
    · replace hw := hw.1 c_2
      refine lv_iload_n hx hb dX10_reigns_65 rfl (lv_at hl 1 rfl) ?_
      exact mx_iret () hx hb hr hlocks rfl hw hK hP hD hS dX10_reigns_66
    · replace hw := hw.2 c_2
      refine lv_iload_n hx hb dX10_reigns_12 rfl (lv_at hl 1 rfl) ?_
      refine lv_iconst (v := (-1)) hx hb dX10_reigns_13 (by decide) ?_
      refine lv_icmp_eq (tgt := 32) hx hb dX10_reigns_14 (by decide) (fun c_3 => ?_) (fun c_3 => ?_)
      · replace hw := hw.1 c_3
        refine k_X10_reigns_J32 C0 ?_ v1 v2 _ _ _ hP hD hS (lv_sub hl [0, 1, 2] rfl) hw
        intro v1_18 v2_19 H locs ls hP hD hS hl hw
        exact ih v1_18 v2_19 _ _ _ hP hD hS (lv_sub hl [0, 1, 2] rfl) hw
      · replace hw := hw.2 c_3
        refine lv_aload_n hx hb dX10_reigns_17 rfl (lv_at hl 0 rfl) ?_
        refine mx_get (ci := 10) (C := RX10) (T := TX10) (N := 23) hx hb hown in_wsX100 hts hK hP 0 rfl rfl 6 (by decide) q_96 rfl (v := .ref a_m_months) rfl dX10_reigns_18 ?_
        refine lv_iload_n hx hb dX10_reigns_21 rfl (lv_at hl 2 rfl) ?_
        obtain ⟨h_20, hw⟩ := hw
        refine mx_iald hx hb hK hP 2 0 rfl rfl h_20 (months v2.toNatClampNeg) rfl dX10_reigns_22 ?_
        refine lv_aload_n hx hb dX10_reigns_23 rfl (lv_at hl 0 rfl) ?_
        refine mx_get (ci := 10) (C := RX10) (T := TX10) (N := 23) hx hb hown in_wsX100 hts hK hP 0 rfl rfl 6 (by decide) q_96 rfl (v := .ref a_m_months) rfl dX10_reigns_24 ?_
        refine lv_iload_n hx hb dX10_reigns_27 rfl (lv_at hl 1 rfl) ?_
        obtain ⟨h_21, hw⟩ := hw
        refine mx_iald hx hb hK hP 2 0 rfl rfl h_21 (months v1.toNatClampNeg) rfl dX10_reigns_28 ?_
        refine lv_icmp_le (tgt := 36) hx hb dX10_reigns_29 (by decide) (fun c_22 => ?_) (fun c_22 => ?_)
        · replace hw := hw.1 c_22
          refine lv_iconst (v := 0) hx hb dX10_reigns_36 (by decide) ?_
          refine k_X10_reigns_J37 C0 ?_ v1 v2 0 _ _ _ hP hD hS (lv_sub hl [0, 1, 2] rfl) hw
          intro v1_23 v2_24 H locs ls hP hD hS hl hw
          exact ih v1_23 v2_24 _ _ _ hP hD hS (lv_sub hl [0, 1, 2] rfl) hw
        · replace hw := hw.2 c_22
          refine k_X10_reigns_J32 C0 ?_ v1 v2 _ _ _ hP hD hS (lv_sub hl [0, 1, 2] rfl) hw
          intro v1_25 v2_26 H locs ls hP hD hS hl hw
          exact ih v1_25 v2_26 _ _ _ hP hD hS (lv_sub hl [0, 1, 2] rfl) hw
def wp_X10_reigns (retired : Int32) (told : Nat → Int32) (months : Nat → Int32) (Post : Int32 → Prop) : Prop :=
  (∃ k_27 : Nat, wp_X10_reigns_L4 retired told months Post k_27 (-1) 0)
set_option maxHeartbeats 4000000 in
set_option maxRecDepth 100000 in
theorem c_X10_reigns (l : Launch) (D : va_G) (cI cB cZ cP cC : ClassId) (a_m a_m_told a_m_kept a_m_isKept a_m_refused a_m_months a_m_heirs a_m_lasts a_m_cares a_m_bestCares a_m_ones a_m_others a_m_bytes a_m_anew a_m_values : Nat) (above : Int64) (below : Int64) (retired : Int32) (manyLine : Int32) (bytesLong : Int32) (tokenAt : Int32) (tokenLong : Int32) (token : Int32) (value : Int32) (told : Nat → Int32) (months : Nat → Int32)  (sz : Nat) (Post : Int32 → Prop) (hw : wp_X10_reigns retired told months Post) :
    Met l yX10_reigns (Cond.code yX10_reigns cX10_reigns 4 (some .int) :: wsAll) rm_X10_reigns (va_Pc [.ref a_m] (mxP D (mxTy cI cB cZ cP cC) sz (ww_X10_reigns a_m a_m_told a_m_kept a_m_isKept a_m_refused a_m_months a_m_heirs a_m_lasts a_m_cares a_m_bestCares a_m_ones a_m_others a_m_bytes a_m_anew a_m_values cI cB cZ cP cC above below retired manyLine bytesLong tokenAt tokenLong token value told months))) (qq_X10_reigns D a_m a_m_told a_m_kept a_m_isKept a_m_refused a_m_months a_m_heirs a_m_lasts a_m_cares a_m_bestCares a_m_ones a_m_others a_m_bytes a_m_anew a_m_values cI cB cZ cP cC above below retired manyLine bytesLong tokenAt tokenLong token value told months Post (va_A (ww_X10_reigns a_m a_m_told a_m_kept a_m_isKept a_m_refused a_m_months a_m_heirs a_m_lasts a_m_cares a_m_bestCares a_m_ones a_m_others a_m_bytes a_m_anew a_m_values cI cB cZ cP cC above below retired manyLine bytesLong tokenAt tokenLong token value told months) sz)) 0 0 (va_A (ww_X10_reigns a_m a_m_told a_m_kept a_m_isKept a_m_refused a_m_months a_m_heirs a_m_lasts a_m_cares a_m_bestCares a_m_ones a_m_others a_m_bytes a_m_anew a_m_values cI cB cZ cP cC above below retired manyLine bytesLong tokenAt tokenLong token value told months) sz) := by
  refine mx_of (Qc := qq_X10_reigns D a_m a_m_told a_m_kept a_m_isKept a_m_refused a_m_months a_m_heirs a_m_lasts a_m_cares a_m_bestCares a_m_ones a_m_others a_m_bytes a_m_anew a_m_values cI cB cZ cP cC above below retired manyLine bytesLong tokenAt tokenLong token value told months Post) (by decide) (Nat.le_of_ble_eq_true rfl) ?_
  intro p e s m bl meth c A ls C0 hP hD hS hl
  replace C0 : mxC p s m [.ref a_m].toArray meth c cX10_reigns RX10 (some .int) 4 D (mxTy cI cB cZ cP cC) A := C0
  obtain ⟨hx, hb, hr, hlocks, hml, hown, hts, hK, hA⟩ := id C0
  replace hl : lv_has ls 4 [(0, .ref a_m)] := hl
  unfold wp_X10_reigns at hw
  refine lv_iconst (v := (-1)) hx hb dX10_reigns_0 (by decide) ?_
  refine lv_istore_n (lv' := [(1, .int (-1)), (0, .ref a_m)]) hx hb dX10_reigns_1 rfl hl (by decide) rfl (fun ls hl => ?_)
  refine lv_iconst (v := 0) hx hb dX10_reigns_2 (by decide) ?_
  refine lv_istore_n (lv' := [(2, .int 0), (1, .int (-1)), (0, .ref a_m)]) hx hb dX10_reigns_3 rfl hl (by decide) rfl (fun ls hl => ?_)
  obtain ⟨n0, hw⟩ := hw
  refine k_X10_reigns_L4 C0  n0 (-1) 0 _ _ _ hP hD hS (lv_sub hl [2, 1, 0] rfl) hw
/-! PramStateModel.reignsNow()I -/
abbrev ww_X10_reignsNow (a_m a_m_told a_m_kept a_m_isKept a_m_refused a_m_months a_m_heirs a_m_lasts a_m_cares a_m_bestCares a_m_ones a_m_others a_m_bytes a_m_anew a_m_values : Nat) (cI cB cZ cP cC : ClassId) (above : Int64) (below : Int64) (retired : Int32) (manyLine : Int32) (bytesLong : Int32) (tokenAt : Int32) (tokenLong : Int32) (token : Int32) (value : Int32) (told : Nat → Int32) (months : Nat → Int32) : va_W := [(a_m, .inr (10, [.ref a_m_told, .ref a_m_kept, .ref a_m_isKept, .ref a_m_refused, .long above, .long below, .ref a_m_months, .int retired, .ref a_m_heirs, .ref a_m_lasts, .int manyLine, .ref a_m_cares, .ref a_m_bestCares, .ref a_m_ones, .ref a_m_others, .ref a_m_bytes, .int bytesLong, .int tokenAt, .int tokenLong, .int token, .int value, .ref a_m_anew, .ref a_m_values])), (a_m_told, .inl (cI, 190, .inl told)), (a_m_months, .inl (cI, 6, .inl months))]
abbrev qq_X10_reignsNow (D : va_G) (a_m a_m_told a_m_kept a_m_isKept a_m_refused a_m_months a_m_heirs a_m_lasts a_m_cares a_m_bestCares a_m_ones a_m_others a_m_bytes a_m_anew a_m_values : Nat) (cI cB cZ cP cC : ClassId) (above : Int64) (below : Int64) (manyLine : Int32) (bytesLong : Int32) (tokenAt : Int32) (tokenLong : Int32) (token : Int32) (value : Int32) (told : Nat → Int32) (Post : Int32 → Int32 → (Nat → Int32) → Prop) (A : Nat → Prop) : Array Value → State → Outcome → State → Prop := va_Qi (fun (r : Int32) (u : Int32 × (Nat → Int32)) => Post r u.1 u.2) (fun (u : Int32 × (Nat → Int32)) t => mxB D (mxTy cI cB cZ cP cC) A (ww_X10_reignsNow a_m a_m_told a_m_kept a_m_isKept a_m_refused a_m_months a_m_heirs a_m_lasts a_m_cares a_m_bestCares a_m_ones a_m_others a_m_bytes a_m_anew a_m_values cI cB cZ cP cC above below (u.1) manyLine bytesLong tokenAt tokenLong token value told (u.2)) t) A
abbrev rm_X10_reignsNow : Room := { frames := 2, cells := 0, slots := 0, locals := 44 }
theorem hd_X10_reignsNow : yX10_reignsNow.cls = RX10 ∧ yX10_reignsNow.cls ≠ "java/lang/invoke/MethodHandle" ∧ yX10_reignsNow.cls ≠ "java/lang/invoke/VarHandle" ∧ (parseMethodDescriptor yX10_reignsNow.desc).map (fun d => d.parameters.length) = some 0 := by decide +kernel
def wp_X10_reignsNow (told : Nat → Int32) (retired : Int32) (months : Nat → Int32) (Post : Int32 → Int32 → (Nat → Int32) → Prop) : Prop :=
  (wp_X10_layHand told retired months (fun retired_1 months_2 => (wp_X10_reigns retired_1 told months_2 (fun r_3 => Post r_3 retired_1 months_2))))
set_option maxHeartbeats 4000000 in
set_option maxRecDepth 100000 in
theorem c_X10_reignsNow (l : Launch) (D : va_G) (cI cB cZ cP cC : ClassId) (a_m a_m_told a_m_kept a_m_isKept a_m_refused a_m_months a_m_heirs a_m_lasts a_m_cares a_m_bestCares a_m_ones a_m_others a_m_bytes a_m_anew a_m_values : Nat) (above : Int64) (below : Int64) (retired : Int32) (manyLine : Int32) (bytesLong : Int32) (tokenAt : Int32) (tokenLong : Int32) (token : Int32) (value : Int32) (told : Nat → Int32) (months : Nat → Int32)  (sz : Nat) (Post : Int32 → Int32 → (Nat → Int32) → Prop) (hw : wp_X10_reignsNow told retired months Post) :
    Met l yX10_reignsNow (Cond.code yX10_reignsNow cX10_reignsNow 1 (some .int) :: wsAll) rm_X10_reignsNow (va_Pc [.ref a_m] (mxP D (mxTy cI cB cZ cP cC) sz (ww_X10_reignsNow a_m a_m_told a_m_kept a_m_isKept a_m_refused a_m_months a_m_heirs a_m_lasts a_m_cares a_m_bestCares a_m_ones a_m_others a_m_bytes a_m_anew a_m_values cI cB cZ cP cC above below retired manyLine bytesLong tokenAt tokenLong token value told months))) (qq_X10_reignsNow D a_m a_m_told a_m_kept a_m_isKept a_m_refused a_m_months a_m_heirs a_m_lasts a_m_cares a_m_bestCares a_m_ones a_m_others a_m_bytes a_m_anew a_m_values cI cB cZ cP cC above below manyLine bytesLong tokenAt tokenLong token value told Post (va_A (ww_X10_reignsNow a_m a_m_told a_m_kept a_m_isKept a_m_refused a_m_months a_m_heirs a_m_lasts a_m_cares a_m_bestCares a_m_ones a_m_others a_m_bytes a_m_anew a_m_values cI cB cZ cP cC above below retired manyLine bytesLong tokenAt tokenLong token value told months) sz)) 0 0 (va_A (ww_X10_reignsNow a_m a_m_told a_m_kept a_m_isKept a_m_refused a_m_months a_m_heirs a_m_lasts a_m_cares a_m_bestCares a_m_ones a_m_others a_m_bytes a_m_anew a_m_values cI cB cZ cP cC above below retired manyLine bytesLong tokenAt tokenLong token value told months) sz) := by
  refine mx_of (Qc := qq_X10_reignsNow D a_m a_m_told a_m_kept a_m_isKept a_m_refused a_m_months a_m_heirs a_m_lasts a_m_cares a_m_bestCares a_m_ones a_m_others a_m_bytes a_m_anew a_m_values cI cB cZ cP cC above below manyLine bytesLong tokenAt tokenLong token value told Post) (by decide) (Nat.le_of_ble_eq_true rfl) ?_
  intro p e s m bl meth c A ls C0 hP hD hS hl
  replace C0 : mxC p s m [.ref a_m].toArray meth c cX10_reignsNow RX10 (some .int) 1 D (mxTy cI cB cZ cP cC) A := C0
  obtain ⟨hx, hb, hr, hlocks, hml, hown, hts, hK, hA⟩ := id C0
  replace hl : lv_has ls 1 [(0, .ref a_m)] := hl
  unfold wp_X10_reignsNow at hw
  refine lv_aload_n hx hb dX10_reignsNow_0 rfl (lv_at hl 0 rfl) ?_
  refine mx_kv (mx_rV (rm := rm_X10_layHand) (rest := []) (C := RX10) hx hb hml hown hts (c_X10_layHand l D cI cB cZ cP cC a_m a_m_told a_m_kept a_m_isKept a_m_refused a_m_months a_m_heirs a_m_lasts a_m_cares a_m_bestCares a_m_ones a_m_others a_m_bytes a_m_anew a_m_values above below retired manyLine bytesLong tokenAt tokenLong token value told months _ _ hw) q_437 q_438 q_439 q_5 q_440 hd_X10_layHand ⟨(Nat.le_of_ble_eq_true rfl), (Nat.le_of_ble_eq_true rfl)⟩ rfl rfl hK hP hD [0, 1, 2] rfl rfl 10 0 rfl rfl rfl rfl hl.1 rfl (Nat.le_of_ble_eq_true rfl) dX10_reignsNow_1 ⟨(Nat.le_of_ble_eq_true rfl), (Nat.le_of_ble_eq_true rfl)⟩) hP hD hS hA [0, 1, 2] [] [0, 1, 2] (fun u => ww_X10_reignsNow a_m a_m_told a_m_kept a_m_isKept a_m_refused a_m_months a_m_heirs a_m_lasts a_m_cares a_m_bestCares a_m_ones a_m_others a_m_bytes a_m_anew a_m_values cI cB cZ cP cC above below (u.1) manyLine bytesLong tokenAt tokenLong token value told (u.2)) rfl rfl rfl (by decide) rfl (fun _ => rfl) (fun u H locs hw hP hD hS => ?_)
  obtain ⟨retired_1, months_2⟩ := u
  try dsimp only at hw
  replace hP : va_P D vwCl (ww_X10_reignsNow a_m a_m_told a_m_kept a_m_isKept a_m_refused a_m_months a_m_heirs a_m_lasts a_m_cares a_m_bestCares a_m_ones a_m_others a_m_bytes a_m_anew a_m_values cI cB cZ cP cC above below retired_1 manyLine bytesLong tokenAt tokenLong token value told months_2) H := hP
  replace hD : va_D A (ww_X10_reignsNow a_m a_m_told a_m_kept a_m_isKept a_m_refused a_m_months a_m_heirs a_m_lasts a_m_cares a_m_bestCares a_m_ones a_m_others a_m_bytes a_m_anew a_m_values cI cB cZ cP cC above below retired_1 manyLine bytesLong tokenAt tokenLong token value told months_2) := hD
  refine lv_aload_n hx hb dX10_reignsNow_4 rfl (lv_at hl 0 rfl) ?_
  refine mx_ki (mx_rV (rm := rm_X10_reigns) (rest := []) (C := RX10) hx hb hml hown hts (c_X10_reigns l D cI cB cZ cP cC a_m a_m_told a_m_kept a_m_isKept a_m_refused a_m_months a_m_heirs a_m_lasts a_m_cares a_m_bestCares a_m_ones a_m_others a_m_bytes a_m_anew a_m_values above below retired_1 manyLine bytesLong tokenAt tokenLong token value told months_2 _ _ hw) q_455 q_456 q_457 q_5 q_458 hd_X10_reigns ⟨(Nat.le_of_ble_eq_true rfl), (Nat.le_of_ble_eq_true rfl)⟩ rfl rfl hK hP hD [0, 1, 2] rfl rfl 10 0 rfl rfl rfl rfl hl.1 rfl (Nat.le_of_ble_eq_true rfl) dX10_reignsNow_5 ⟨(Nat.le_of_ble_eq_true rfl), (Nat.le_of_ble_eq_true rfl)⟩) hP hD hS hA [0, 1, 2] [] [0, 1, 2] (fun _ => ww_X10_reignsNow a_m a_m_told a_m_kept a_m_isKept a_m_refused a_m_months a_m_heirs a_m_lasts a_m_cares a_m_bestCares a_m_ones a_m_others a_m_bytes a_m_anew a_m_values cI cB cZ cP cC above below retired_1 manyLine bytesLong tokenAt tokenLong token value told months_2) rfl rfl rfl (by decide) rfl (fun _ => rfl) (fun r_3 u H locs hw hP hD hS => ?_)
  try dsimp only at hw
  replace hP : va_P D vwCl (ww_X10_reignsNow a_m a_m_told a_m_kept a_m_isKept a_m_refused a_m_months a_m_heirs a_m_lasts a_m_cares a_m_bestCares a_m_ones a_m_others a_m_bytes a_m_anew a_m_values cI cB cZ cP cC above below retired_1 manyLine bytesLong tokenAt tokenLong token value told months_2) H := hP
  replace hD : va_D A (ww_X10_reignsNow a_m a_m_told a_m_kept a_m_isKept a_m_refused a_m_months a_m_heirs a_m_lasts a_m_cares a_m_bestCares a_m_ones a_m_others a_m_bytes a_m_anew a_m_values cI cB cZ cP cC above below retired_1 manyLine bytesLong tokenAt tokenLong token value told months_2) := hD
  exact mx_iret (retired_1, months_2) hx hb hr hlocks rfl hw hK hP hD hS dX10_reignsNow_8
/-! PramStateModel.goMonth()V -/
abbrev ww_X10_goMonth (a_m a_m_told a_m_kept a_m_isKept a_m_refused a_m_months a_m_heirs a_m_lasts a_m_cares a_m_bestCares a_m_ones a_m_others a_m_bytes a_m_anew a_m_values : Nat) (cI cB cZ cP cC : ClassId) (above : Int64) (below : Int64) (retired : Int32) (manyLine : Int32) (bytesLong : Int32) (tokenAt : Int32) (tokenLong : Int32) (token : Int32) (value : Int32) (told : Nat → Int32) (months : Nat → Int32) : va_W := [(a_m, .inr (10, [.ref a_m_told, .ref a_m_kept, .ref a_m_isKept, .ref a_m_refused, .long above, .long below, .ref a_m_months, .int retired, .ref a_m_heirs, .ref a_m_lasts, .int manyLine, .ref a_m_cares, .ref a_m_bestCares, .ref a_m_ones, .ref a_m_others, .ref a_m_bytes, .int bytesLong, .int tokenAt, .int tokenLong, .int token, .int value, .ref a_m_anew, .ref a_m_values])), (a_m_told, .inl (cI, 190, .inl told)), (a_m_months, .inl (cI, 6, .inl months))]
abbrev qq_X10_goMonth (D : va_G) (a_m a_m_told a_m_kept a_m_isKept a_m_refused a_m_months a_m_heirs a_m_lasts a_m_cares a_m_bestCares a_m_ones a_m_others a_m_bytes a_m_anew a_m_values : Nat) (cI cB cZ cP cC : ClassId) (above : Int64) (below : Int64) (manyLine : Int32) (bytesLong : Int32) (tokenAt : Int32) (tokenLong : Int32) (token : Int32) (value : Int32) (told : Nat → Int32) (Post : Int32 → (Nat → Int32) → Prop) (A : Nat → Prop) : Array Value → State → Outcome → State → Prop := va_Qv (fun (u : Int32 × (Nat → Int32)) => Post u.1 u.2) (fun (u : Int32 × (Nat → Int32)) t => mxB D (mxTy cI cB cZ cP cC) A (ww_X10_goMonth a_m a_m_told a_m_kept a_m_isKept a_m_refused a_m_months a_m_heirs a_m_lasts a_m_cares a_m_bestCares a_m_ones a_m_others a_m_bytes a_m_anew a_m_values cI cB cZ cP cC above below (u.1) manyLine bytesLong tokenAt tokenLong token value told (u.2)) t) A
abbrev rm_X10_goMonth : Room := { frames := 1, cells := 0, slots := 0, locals := 21 }
theorem hd_X10_goMonth : yX10_goMonth.cls = RX10 ∧ yX10_goMonth.cls ≠ "java/lang/invoke/MethodHandle" ∧ yX10_goMonth.cls ≠ "java/lang/invoke/VarHandle" ∧ (parseMethodDescriptor yX10_goMonth.desc).map (fun d => d.parameters.length) = some 0 := by decide +kernel
def wp_X10_goMonth_J64 (told : Nat → Int32) (Post : Int32 → (Nat → Int32) → Prop) (K_2 : Int32 → Int32 → (Nat → Int32) → Prop) (v1 : Int32) (retired : Int32) (months : Nat → Int32) : Prop :=
  (∀ x_5 : Int32, x_5 = v1 + 1 → K_2 x_5 retired months)
set_option maxHeartbeats 4000000 in
set_option maxRecDepth 100000 in
theorem k_X10_goMonth_J64 {p : Program} {l : Launch} {e : Env} {s : State} {m : MethodId} {ar : Array Value} {bl : List Frame} {meth : Method} {c : Code} {D : va_G} {A : Nat → Prop} {cI cB cZ cP cC : ClassId} {a_m a_m_told a_m_kept a_m_isKept a_m_refused a_m_months a_m_heirs a_m_lasts a_m_cares a_m_bestCares a_m_ones a_m_others a_m_bytes a_m_anew a_m_values : Nat} {above : Int64} {below : Int64} {manyLine : Int32} {bytesLong : Int32} {tokenAt : Int32} {tokenLong : Int32} {token : Int32} {value : Int32} {told : Nat → Int32} {Post : Int32 → (Nat → Int32) → Prop} {K_2 : Int32 → Int32 → (Nat → Int32) → Prop} (C0 : mxC p s m ar meth c cX10_goMonth RX10 none 2 D (mxTy cI cB cZ cP cC) A)
    (hK_2 : ∀ (v1 : Int32) (retired : Int32) (months : Nat → Int32) (H : Heap) (locs : List Loc) (ls : Array Slot), va_P D vwCl (ww_X10_goMonth a_m a_m_told a_m_kept a_m_isKept a_m_refused a_m_months a_m_heirs a_m_lasts a_m_cares a_m_bestCares a_m_ones a_m_others a_m_bytes a_m_anew a_m_values cI cB cZ cP cC above below retired manyLine bytesLong tokenAt tokenLong token value told months) H → va_D A (ww_X10_goMonth a_m a_m_told a_m_kept a_m_isKept a_m_refused a_m_months a_m_heirs a_m_lasts a_m_cares a_m_bestCares a_m_ones a_m_others a_m_bytes a_m_anew a_m_values cI cB cZ cP cC above below retired manyLine bytesLong tokenAt tokenLong token value told months) → va_S A s.heap H locs → lv_has ls 2 [(0, .ref a_m), (1, .int v1)] → K_2 v1 retired months → W p l e rm_X10_goMonth s m ar bl meth c H locs 0 0 (MQ bl (qq_X10_goMonth D a_m a_m_told a_m_kept a_m_isKept a_m_refused a_m_months a_m_heirs a_m_lasts a_m_cares a_m_bestCares a_m_ones a_m_others a_m_bytes a_m_anew a_m_values cI cB cZ cP cC above below manyLine bytesLong tokenAt tokenLong token value told Post A) ar s 0 0 A) (F0 m 2 ls [])) :
    ∀ (v1 : Int32) (retired : Int32) (months : Nat → Int32) (H : Heap) (locs : List Loc) (ls : Array Slot), va_P D vwCl (ww_X10_goMonth a_m a_m_told a_m_kept a_m_isKept a_m_refused a_m_months a_m_heirs a_m_lasts a_m_cares a_m_bestCares a_m_ones a_m_others a_m_bytes a_m_anew a_m_values cI cB cZ cP cC above below retired manyLine bytesLong tokenAt tokenLong token value told months) H → va_D A (ww_X10_goMonth a_m a_m_told a_m_kept a_m_isKept a_m_refused a_m_months a_m_heirs a_m_lasts a_m_cares a_m_bestCares a_m_ones a_m_others a_m_bytes a_m_anew a_m_values cI cB cZ cP cC above below retired manyLine bytesLong tokenAt tokenLong token value told months) → va_S A s.heap H locs → lv_has ls 2 [(0, .ref a_m), (1, .int v1)] → wp_X10_goMonth_J64 told Post K_2 v1 retired months → W p l e rm_X10_goMonth s m ar bl meth c H locs 0 0 (MQ bl (qq_X10_goMonth D a_m a_m_told a_m_kept a_m_isKept a_m_refused a_m_months a_m_heirs a_m_lasts a_m_cares a_m_bestCares a_m_ones a_m_others a_m_bytes a_m_anew a_m_values cI cB cZ cP cC above below manyLine bytesLong tokenAt tokenLong token value told Post A) ar s 0 0 A) (F0 m 64 ls []) := by
  obtain ⟨hx, hb, hr, hlocks, hml, hown, hts, hK, hA⟩ := id C0
  intro v1 retired months H locs ls hP hD hS hl hw
  obtain ⟨x_5, ex_5⟩ : ∃ y : Int32, y = v1 + 1 := ⟨_, rfl⟩
  replace hw := hw x_5 ex_5
  refine lv_iinc (v := x_5) (lv' := [(1, .int x_5), (0, .ref a_m)]) hx hb dX10_goMonth_64 hl (k := 1) rfl (by rw [ex_5]; rfl) (by decide) rfl (fun ls hl => ?_)
  refine lv_goto (tgt := 2) hx hb dX10_goMonth_67 (by decide) ?_
  exact hK_2 x_5 retired months _ _ _ hP hD hS (lv_sub hl [1, 0] rfl) hw
def wp_X10_goMonth_J60 (told : Nat → Int32) (Post : Int32 → (Nat → Int32) → Prop) (K_2 : Int32 → Int32 → (Nat → Int32) → Prop) (v1 : Int32) (s0 : Int32) (s1 : Int32) (retired : Int32) (months : Nat → Int32) : Prop :=
  (∀ x_15 : Int32, x_15 = s1 ||| s0 → (wp_X10_goMonth_J64 told Post K_2 v1 x_15 months))
set_option maxHeartbeats 4000000 in
set_option maxRecDepth 100000 in
theorem k_X10_goMonth_J60 {p : Program} {l : Launch} {e : Env} {s : State} {m : MethodId} {ar : Array Value} {bl : List Frame} {meth : Method} {c : Code} {D : va_G} {A : Nat → Prop} {cI cB cZ cP cC : ClassId} {a_m a_m_told a_m_kept a_m_isKept a_m_refused a_m_months a_m_heirs a_m_lasts a_m_cares a_m_bestCares a_m_ones a_m_others a_m_bytes a_m_anew a_m_values : Nat} {above : Int64} {below : Int64} {manyLine : Int32} {bytesLong : Int32} {tokenAt : Int32} {tokenLong : Int32} {token : Int32} {value : Int32} {told : Nat → Int32} {Post : Int32 → (Nat → Int32) → Prop} {K_2 : Int32 → Int32 → (Nat → Int32) → Prop} (C0 : mxC p s m ar meth c cX10_goMonth RX10 none 2 D (mxTy cI cB cZ cP cC) A)
    (hK_2 : ∀ (v1 : Int32) (retired : Int32) (months : Nat → Int32) (H : Heap) (locs : List Loc) (ls : Array Slot), va_P D vwCl (ww_X10_goMonth a_m a_m_told a_m_kept a_m_isKept a_m_refused a_m_months a_m_heirs a_m_lasts a_m_cares a_m_bestCares a_m_ones a_m_others a_m_bytes a_m_anew a_m_values cI cB cZ cP cC above below retired manyLine bytesLong tokenAt tokenLong token value told months) H → va_D A (ww_X10_goMonth a_m a_m_told a_m_kept a_m_isKept a_m_refused a_m_months a_m_heirs a_m_lasts a_m_cares a_m_bestCares a_m_ones a_m_others a_m_bytes a_m_anew a_m_values cI cB cZ cP cC above below retired manyLine bytesLong tokenAt tokenLong token value told months) → va_S A s.heap H locs → lv_has ls 2 [(0, .ref a_m), (1, .int v1)] → K_2 v1 retired months → W p l e rm_X10_goMonth s m ar bl meth c H locs 0 0 (MQ bl (qq_X10_goMonth D a_m a_m_told a_m_kept a_m_isKept a_m_refused a_m_months a_m_heirs a_m_lasts a_m_cares a_m_bestCares a_m_ones a_m_others a_m_bytes a_m_anew a_m_values cI cB cZ cP cC above below manyLine bytesLong tokenAt tokenLong token value told Post A) ar s 0 0 A) (F0 m 2 ls [])) :
    ∀ (v1 : Int32) (s0 : Int32) (s1 : Int32) (retired : Int32) (months : Nat → Int32) (H : Heap) (locs : List Loc) (ls : Array Slot), va_P D vwCl (ww_X10_goMonth a_m a_m_told a_m_kept a_m_isKept a_m_refused a_m_months a_m_heirs a_m_lasts a_m_cares a_m_bestCares a_m_ones a_m_others a_m_bytes a_m_anew a_m_values cI cB cZ cP cC above below retired manyLine bytesLong tokenAt tokenLong token value told months) H → va_D A (ww_X10_goMonth a_m a_m_told a_m_kept a_m_isKept a_m_refused a_m_months a_m_heirs a_m_lasts a_m_cares a_m_bestCares a_m_ones a_m_others a_m_bytes a_m_anew a_m_values cI cB cZ cP cC above below retired manyLine bytesLong tokenAt tokenLong token value told months) → va_S A s.heap H locs → lv_has ls 2 [(0, .ref a_m), (1, .int v1)] → wp_X10_goMonth_J60 told Post K_2 v1 s0 s1 retired months → W p l e rm_X10_goMonth s m ar bl meth c H locs 0 0 (MQ bl (qq_X10_goMonth D a_m a_m_told a_m_kept a_m_isKept a_m_refused a_m_months a_m_heirs a_m_lasts a_m_cares a_m_bestCares a_m_ones a_m_others a_m_bytes a_m_anew a_m_values cI cB cZ cP cC above below manyLine bytesLong tokenAt tokenLong token value told Post A) ar s 0 0 A) (F0 m 60 ls [.int s0, .int s1, .ref a_m]) := by
  obtain ⟨hx, hb, hr, hlocks, hml, hown, hts, hK, hA⟩ := id C0
  intro v1 s0 s1 retired months H locs ls hP hD hS hl hw
  refine lv_ior hx hb dX10_goMonth_60 ?_
  refine lv_topi (fun x_15 ex_15 => ?_)
  replace hw := hw x_15 ex_15
  refine mx_put (ci := 10) (C := RX10) (T := TX10) (N := 23) hx hb hown in_wsX100 tyX10 tyX10_ok nmX10 hts hK hP hD hS 0 rfl rfl 7 (by decide) q_432 rfl rfl rfl rfl (Nat.le_of_ble_eq_true rfl) (ww_X10_goMonth a_m a_m_told a_m_kept a_m_isKept a_m_refused a_m_months a_m_heirs a_m_lasts a_m_cares a_m_bestCares a_m_ones a_m_others a_m_bytes a_m_anew a_m_values cI cB cZ cP cC above below x_15 manyLine bytesLong tokenAt tokenLong token value told months) rfl dX10_goMonth_61 (fun H locs hP hD hS => ?_)
  refine k_X10_goMonth_J64 C0 ?_ v1 x_15 months _ _ _ hP hD hS (lv_sub hl [0, 1] rfl) hw
  intro v1_16 retired_17 months_18 H locs ls hP hD hS hl hw
  exact hK_2 v1_16 retired_17 months_18 _ _ _ hP hD hS (lv_sub hl [0, 1] rfl) hw
def wp_X10_goMonth_L2 (told : Nat → Int32) (Post : Int32 → (Nat → Int32) → Prop)  : Nat → Int32 → Int32 → (Nat → Int32) → Prop
  | 0, _, _, _ => False
  | n + 1, v1, retired, months => (wp_X10_many told (fun r_1 => ((r_1 ≤ v1 → Post retired months) ∧ (¬ r_1 ≤ v1 → (wp_X10_has retired v1 (fun r_3 => ((r_3 = 0 → (vp_in v1 6 ∧ (∀ x_10 : Int32, x_10 = (months v1.toNatClampNeg) + 1 → (∀ f_11 : Nat → Int32, f_11 = upd months v1.toNatClampNeg x_10 → (wp_X10_kindOf told v1 (fun r_12 => (wp_X10_walksAs r_12 (fun r_13 => (((f_11 v1.toNatClampNeg) < r_13 → (wp_X10_goMonth_J60 told Post (fun (v1_19 : Int32) (retired_20 : Int32) (months_21 : Nat → Int32) => wp_X10_goMonth_L2 told Post  n v1_19 retired_20 months_21) v1 0 retired retired f_11)) ∧ (¬ (f_11 v1.toNatClampNeg) < r_13 → (wp_X10_goMonth_J60 told Post (fun (v1_22 : Int32) (retired_23 : Int32) (months_24 : Nat → Int32) => wp_X10_goMonth_L2 told Post  n v1_22 retired_23 months_24) v1 (1 <<< (v1 &&& 31)) retired retired f_11))))))))))) ∧ (¬ r_3 = 0 → (wp_X10_goMonth_J64 told Post (fun (v1_6 : Int32) (retired_7 : Int32) (months_8 : Nat → Int32) => wp_X10_goMonth_L2 told Post  n v1_6 retired_7 months_8) v1 retired months)))))))))
set_option maxHeartbeats 4000000 in
set_option maxRecDepth 100000 in
theorem k_X10_goMonth_L2 {p : Program} {l : Launch} {e : Env} {s : State} {m : MethodId} {ar : Array Value} {bl : List Frame} {meth : Method} {c : Code} {D : va_G} {A : Nat → Prop} {cI cB cZ cP cC : ClassId} {a_m a_m_told a_m_kept a_m_isKept a_m_refused a_m_months a_m_heirs a_m_lasts a_m_cares a_m_bestCares a_m_ones a_m_others a_m_bytes a_m_anew a_m_values : Nat} {above : Int64} {below : Int64} {manyLine : Int32} {bytesLong : Int32} {tokenAt : Int32} {tokenLong : Int32} {token : Int32} {value : Int32} {told : Nat → Int32} {Post : Int32 → (Nat → Int32) → Prop} (C0 : mxC p s m ar meth c cX10_goMonth RX10 none 2 D (mxTy cI cB cZ cP cC) A) :
    ∀ (n : Nat) (v1 : Int32) (retired : Int32) (months : Nat → Int32) (H : Heap) (locs : List Loc) (ls : Array Slot), va_P D vwCl (ww_X10_goMonth a_m a_m_told a_m_kept a_m_isKept a_m_refused a_m_months a_m_heirs a_m_lasts a_m_cares a_m_bestCares a_m_ones a_m_others a_m_bytes a_m_anew a_m_values cI cB cZ cP cC above below retired manyLine bytesLong tokenAt tokenLong token value told months) H → va_D A (ww_X10_goMonth a_m a_m_told a_m_kept a_m_isKept a_m_refused a_m_months a_m_heirs a_m_lasts a_m_cares a_m_bestCares a_m_ones a_m_others a_m_bytes a_m_anew a_m_values cI cB cZ cP cC above below retired manyLine bytesLong tokenAt tokenLong token value told months) → va_S A s.heap H locs → lv_has ls 2 [(0, .ref a_m), (1, .int v1)] → wp_X10_goMonth_L2 told Post  n v1 retired months → W p l e rm_X10_goMonth s m ar bl meth c H locs 0 0 (MQ bl (qq_X10_goMonth D a_m a_m_told a_m_kept a_m_isKept a_m_refused a_m_months a_m_heirs a_m_lasts a_m_cares a_m_bestCares a_m_ones a_m_others a_m_bytes a_m_anew a_m_values cI cB cZ cP cC above below manyLine bytesLong tokenAt tokenLong token value told Post A) ar s 0 0 A) (F0 m 2 ls []) := by
  obtain ⟨hx, hb, hr, hlocks, hml, hown, hts, hK, hA⟩ := id C0
  intro n
  induction n with
  | zero =>
    intro v1 retired months H locs ls hP hD hS hl hw
    exact absurd hw (fun h => h)
  | succ n ih =>
    intro v1 retired months H locs ls hP hD hS hl hw
    refine lv_iload_n hx hb dX10_goMonth_2 rfl (lv_at hl 1 rfl) ?_
    refine lv_aload_n hx hb dX10_goMonth_3 rfl (lv_at hl 0 rfl) ?_
    refine mx_ki (mx_rV (rm := rm_X10_many) (rest := [.int v1]) (C := RX10) hx hb hml hown hts (c_X10_many l D cI cB cZ cP cC a_m a_m_told a_m_kept a_m_isKept a_m_refused a_m_months a_m_heirs a_m_lasts a_m_cares a_m_bestCares a_m_ones a_m_others a_m_bytes a_m_anew a_m_values above below retired manyLine bytesLong tokenAt tokenLong token value told _ _ hw) q_132 q_133 q_134 q_5 q_135 hd_X10_many ⟨(Nat.le_of_ble_eq_true rfl), (Nat.le_of_ble_eq_true rfl)⟩ rfl rfl hK hP hD [0, 1] rfl rfl 10 0 rfl rfl rfl rfl hl.1 rfl (Nat.le_of_ble_eq_true rfl) dX10_goMonth_4 ⟨(Nat.le_of_ble_eq_true rfl), (Nat.le_of_ble_eq_true rfl)⟩) hP hD hS hA [0, 1] [2] [1, 2, 0] (fun _ => ww_X10_goMonth a_m a_m_told a_m_kept a_m_isKept a_m_refused a_m_months a_m_heirs a_m_lasts a_m_cares a_m_bestCares a_m_ones a_m_others a_m_bytes a_m_anew a_m_values cI cB cZ cP cC above below retired manyLine bytesLong tokenAt tokenLong token value told months) rfl rfl rfl (by decide) rfl (fun _ => rfl) (fun r_1 u H locs hw hP hD hS => ?_)
    try dsimp only at hw
    replace hP : va_P D vwCl (ww_X10_goMonth a_m a_m_told a_m_kept a_m_isKept a_m_refused a_m_months a_m_heirs a_m_lasts a_m_cares a_m_bestCares a_m_ones a_m_others a_m_bytes a_m_anew a_m_values cI cB cZ cP cC above below retired manyLine bytesLong tokenAt tokenLong token value told months) H := hP
    replace hD : va_D A (ww_X10_goMonth a_m a_m_told a_m_kept a_m_isKept a_m_refused a_m_months a_m_heirs a_m_lasts a_m_cares a_m_bestCares a_m_ones a_m_others a_m_bytes a_m_anew a_m_values cI cB cZ cP cC above below retired manyLine bytesLong tokenAt tokenLong token value told months) := hD
    refine lv_icmp_ge (tgt := 70) hx hb dX10_goMonth_7 (by decide) (fun c_2 => ?_) (fun c_2 => ?_)
    · replace hw := hw.1 c_2
      exact mx_vret (retired, months) hx hb hr hlocks hw hK hP hD hS dX10_goMonth_70
    · replace hw := hw.2 c_2
      refine lv_aload_n hx hb dX10_goMonth_10 rfl (lv_at hl 0 rfl) ?_
      refine mx_get (ci := 10) (C := RX10) (T := TX10) (N := 23) hx hb hown in_wsX100 hts hK hP 0 rfl rfl 7 (by decide) q_432 rfl (v := .int retired) rfl dX10_goMonth_11 ?_
      refine lv_iload_n hx hb dX10_goMonth_14 rfl (lv_at hl 1 rfl) ?_
      refine mx_ki (mx_rS (rm := rm_X10_has) (rest := []) hx hb hml hown hts (c_X10_has l D cI cB cZ cP cC retired v1 _ _ hw) q_445 q_446 q_5 q_447 hd_X10_has ⟨(Nat.le_of_ble_eq_true rfl), (Nat.le_of_ble_eq_true rfl)⟩ rfl rfl hK hP hD [] rfl rfl rfl hl.1 rfl (Nat.le_of_ble_eq_true rfl) dX10_goMonth_15 ⟨(Nat.le_of_ble_eq_true rfl), (Nat.le_of_ble_eq_true rfl)⟩) hP hD hS hA [] [0, 1, 2] [0, 1, 2] (fun _ => ww_X10_goMonth a_m a_m_told a_m_kept a_m_isKept a_m_refused a_m_months a_m_heirs a_m_lasts a_m_cares a_m_bestCares a_m_ones a_m_others a_m_bytes a_m_anew a_m_values cI cB cZ cP cC above below retired manyLine bytesLong tokenAt tokenLong token value told months) rfl rfl rfl (by decide) rfl (fun _ => rfl) (fun r_3 u H locs hw hP hD hS => ?_)
      try dsimp only at hw
      replace hP : va_P D vwCl (ww_X10_goMonth a_m a_m_told a_m_kept a_m_isKept a_m_refused a_m_months a_m_heirs a_m_lasts a_m_cares a_m_bestCares a_m_ones a_m_others a_m_bytes a_m_anew a_m_values cI cB cZ cP cC above below retired manyLine bytesLong tokenAt tokenLong token value told months) H := hP
      replace hD : va_D A (ww_X10_goMonth a_m a_m_told a_m_kept a_m_isKept a_m_refused a_m_months a_m_heirs a_m_lasts a_m_cares a_m_bestCares a_m_ones a_m_others a_m_bytes a_m_anew a_m_values cI cB cZ cP cC above below retired manyLine bytesLong tokenAt tokenLong token value told months) := hD
      refine lv_if_ne (tgt := 64) hx hb dX10_goMonth_18 (by decide) (fun c_4 => ?_) (fun c_4 => ?_)
      · replace hw := hw.2 c_4
        refine k_X10_goMonth_J64 C0 ?_ v1 retired months _ _ _ hP hD hS (lv_sub hl [0, 1] rfl) hw
        intro v1_6 retired_7 months_8 H locs ls hP hD hS hl hw
        exact ih v1_6 retired_7 months_8 _ _ _ hP hD hS (lv_sub hl [0, 1] rfl) hw
      · replace hw := hw.1 c_4
        refine lv_aload_n hx hb dX10_goMonth_21 rfl (lv_at hl 0 rfl) ?_
        refine mx_get (ci := 10) (C := RX10) (T := TX10) (N := 23) hx hb hown in_wsX100 hts hK hP 0 rfl rfl 6 (by decide) q_96 rfl (v := .ref a_m_months) rfl dX10_goMonth_22 ?_
        refine lv_iload_n hx hb dX10_goMonth_25 rfl (lv_at hl 1 rfl) ?_
        refine lv_dup2_11 hx hb dX10_goMonth_26 rfl rfl ?_
        obtain ⟨h_9, hw⟩ := hw
        refine mx_iald hx hb hK hP 2 0 rfl rfl h_9 (months v1.toNatClampNeg) rfl dX10_goMonth_27 ?_
        refine lv_iconst (v := 1) hx hb dX10_goMonth_28 (by decide) ?_
        refine lv_iadd hx hb dX10_goMonth_29 ?_
        refine lv_topi (fun x_10 ex_10 => ?_)
        replace hw := hw x_10 ex_10
        obtain ⟨f_11, ef_11⟩ : ∃ y : Nat → Int32, y = upd months v1.toNatClampNeg x_10 := ⟨_, rfl⟩
        replace hw := hw f_11 ef_11
        refine mx_iast hx hb hK hP hD hS 2 0 rfl rfl h_9 f_11 ef_11 (ww_X10_goMonth a_m a_m_told a_m_kept a_m_isKept a_m_refused a_m_months a_m_heirs a_m_lasts a_m_cares a_m_bestCares a_m_ones a_m_others a_m_bytes a_m_anew a_m_values cI cB cZ cP cC above below retired manyLine bytesLong tokenAt tokenLong token value told f_11) rfl dX10_goMonth_30 (fun H locs hP hD hS => ?_)
        refine lv_aload_n hx hb dX10_goMonth_31 rfl (lv_at hl 0 rfl) ?_
        refine lv_dup hx hb dX10_goMonth_32 rfl ?_
        refine mx_get (ci := 10) (C := RX10) (T := TX10) (N := 23) hx hb hown in_wsX100 hts hK hP 0 rfl rfl 7 (by decide) q_432 rfl (v := .int retired) rfl dX10_goMonth_33 ?_
        refine lv_aload_n hx hb dX10_goMonth_36 rfl (lv_at hl 0 rfl) ?_
        refine mx_get (ci := 10) (C := RX10) (T := TX10) (N := 23) hx hb hown in_wsX100 hts hK hP 0 rfl rfl 6 (by decide) q_96 rfl (v := .ref a_m_months) rfl dX10_goMonth_37 ?_
        refine lv_iload_n hx hb dX10_goMonth_40 rfl (lv_at hl 1 rfl) ?_
        refine mx_iald hx hb hK hP 2 0 rfl rfl h_9 (f_11 v1.toNatClampNeg) rfl dX10_goMonth_41 ?_
        refine lv_aload_n hx hb dX10_goMonth_42 rfl (lv_at hl 0 rfl) ?_
        refine lv_iload_n hx hb dX10_goMonth_43 rfl (lv_at hl 1 rfl) ?_
        refine mx_ki (mx_rV (rm := rm_X10_kindOf) (rest := [.int (f_11 v1.toNatClampNeg), .int retired, .ref a_m]) (C := RX10) hx hb hml hown hts (c_X10_kindOf l D cI cB cZ cP cC a_m a_m_told a_m_kept a_m_isKept a_m_refused a_m_months a_m_heirs a_m_lasts a_m_cares a_m_bestCares a_m_ones a_m_others a_m_bytes a_m_anew a_m_values above below retired manyLine bytesLong tokenAt tokenLong token value told v1 _ _ hw) q_448 q_449 q_450 q_5 q_451 hd_X10_kindOf ⟨(Nat.le_of_ble_eq_true rfl), (Nat.le_of_ble_eq_true rfl)⟩ rfl rfl hK hP hD [0, 1] rfl rfl 10 0 rfl rfl rfl rfl hl.1 rfl (Nat.le_of_ble_eq_true rfl) dX10_goMonth_44 ⟨(Nat.le_of_ble_eq_true rfl), (Nat.le_of_ble_eq_true rfl)⟩) hP hD hS hA [0, 1] [2] [1, 2, 0] (fun _ => ww_X10_goMonth a_m a_m_told a_m_kept a_m_isKept a_m_refused a_m_months a_m_heirs a_m_lasts a_m_cares a_m_bestCares a_m_ones a_m_others a_m_bytes a_m_anew a_m_values cI cB cZ cP cC above below retired manyLine bytesLong tokenAt tokenLong token value told f_11) rfl rfl rfl (by decide) rfl (fun _ => rfl) (fun r_12 u H locs hw hP hD hS => ?_)
        try dsimp only at hw
        replace hP : va_P D vwCl (ww_X10_goMonth a_m a_m_told a_m_kept a_m_isKept a_m_refused a_m_months a_m_heirs a_m_lasts a_m_cares a_m_bestCares a_m_ones a_m_others a_m_bytes a_m_anew a_m_values cI cB cZ cP cC above below retired manyLine bytesLong tokenAt tokenLong token value told f_11) H := hP
        replace hD : va_D A (ww_X10_goMonth a_m a_m_told a_m_kept a_m_isKept a_m_refused a_m_months a_m_heirs a_m_lasts a_m_cares a_m_bestCares a_m_ones a_m_others a_m_bytes a_m_anew a_m_values cI cB cZ cP cC above below retired manyLine bytesLong tokenAt tokenLong token value told f_11) := hD
        refine mx_ki (mx_rS (rm := rm_X10_walksAs) (rest := [.int (f_11 v1.toNatClampNeg), .int retired, .ref a_m]) hx hb hml hown hts (c_X10_walksAs l D cI cB cZ cP cC r_12 _ _ hw) q_452 q_453 q_5 q_454 hd_X10_walksAs ⟨(Nat.le_of_ble_eq_true rfl), (Nat.le_of_ble_eq_true rfl)⟩ rfl rfl hK hP hD [] rfl rfl rfl hl.1 rfl (Nat.le_of_ble_eq_true rfl) dX10_goMonth_47 ⟨(Nat.le_of_ble_eq_true rfl), (Nat.le_of_ble_eq_true rfl)⟩) hP hD hS hA [] [0, 1, 2] [0, 1, 2] (fun _ => ww_X10_goMonth a_m a_m_told a_m_kept a_m_isKept a_m_refused a_m_months a_m_heirs a_m_lasts a_m_cares a_m_bestCares a_m_ones a_m_others a_m_bytes a_m_anew a_m_values cI cB cZ cP cC above below retired manyLine bytesLong tokenAt tokenLong token value told f_11) rfl rfl rfl (by decide) rfl (fun _ => rfl) (fun r_13 u H locs hw hP hD hS => ?_)
        try dsimp only at hw
        replace hP : va_P D vwCl (ww_X10_goMonth a_m a_m_told a_m_kept a_m_isKept a_m_refused a_m_months a_m_heirs a_m_lasts a_m_cares a_m_bestCares a_m_ones a_m_others a_m_bytes a_m_anew a_m_values cI cB cZ cP cC above below retired manyLine bytesLong tokenAt tokenLong token value told f_11) H := hP
        replace hD : va_D A (ww_X10_goMonth a_m a_m_told a_m_kept a_m_isKept a_m_refused a_m_months a_m_heirs a_m_lasts a_m_cares a_m_bestCares a_m_ones a_m_others a_m_bytes a_m_anew a_m_values cI cB cZ cP cC above below retired manyLine bytesLong tokenAt tokenLong token value told f_11) := hD
        refine lv_icmp_lt (tgt := 59) hx hb dX10_goMonth_50 (by decide) (fun c_14 => ?_) (fun c_14 => ?_)
        · replace hw := hw.1 c_14
          refine lv_iconst (v := 0) hx hb dX10_goMonth_59 (by decide) ?_
          refine k_X10_goMonth_J60 C0 ?_ v1 0 retired retired f_11 _ _ _ hP hD hS (lv_sub hl [0, 1] rfl) hw
          intro v1_19 retired_20 months_21 H locs ls hP hD hS hl hw
          exact ih v1_19 retired_20 months_21 _ _ _ hP hD hS (lv_sub hl [0, 1] rfl) hw
        · replace hw := hw.2 c_14
          refine lv_iconst (v := 1) hx hb dX10_goMonth_53 (by decide) ?_
          refine lv_iload_n hx hb dX10_goMonth_54 rfl (lv_at hl 1 rfl) ?_
          refine lv_ishl hx hb dX10_goMonth_55 ?_
          refine lv_goto (tgt := 60) hx hb dX10_goMonth_56 (by decide) ?_
          refine k_X10_goMonth_J60 C0 ?_ v1 (1 <<< (v1 &&& 31)) retired retired f_11 _ _ _ hP hD hS (lv_sub hl [0, 1] rfl) hw
          intro v1_22 retired_23 months_24 H locs ls hP hD hS hl hw
          exact ih v1_22 retired_23 months_24 _ _ _ hP hD hS (lv_sub hl [0, 1] rfl) hw
def wp_X10_goMonth (told : Nat → Int32) (retired : Int32) (months : Nat → Int32) (Post : Int32 → (Nat → Int32) → Prop) : Prop :=
  (∃ k_25 : Nat, wp_X10_goMonth_L2 told Post k_25 0 retired months)
set_option maxHeartbeats 4000000 in
set_option maxRecDepth 100000 in
theorem c_X10_goMonth (l : Launch) (D : va_G) (cI cB cZ cP cC : ClassId) (a_m a_m_told a_m_kept a_m_isKept a_m_refused a_m_months a_m_heirs a_m_lasts a_m_cares a_m_bestCares a_m_ones a_m_others a_m_bytes a_m_anew a_m_values : Nat) (above : Int64) (below : Int64) (retired : Int32) (manyLine : Int32) (bytesLong : Int32) (tokenAt : Int32) (tokenLong : Int32) (token : Int32) (value : Int32) (told : Nat → Int32) (months : Nat → Int32)  (sz : Nat) (Post : Int32 → (Nat → Int32) → Prop) (hw : wp_X10_goMonth told retired months Post) :
    Met l yX10_goMonth (Cond.code yX10_goMonth cX10_goMonth 2 none :: wsAll) rm_X10_goMonth (va_Pc [.ref a_m] (mxP D (mxTy cI cB cZ cP cC) sz (ww_X10_goMonth a_m a_m_told a_m_kept a_m_isKept a_m_refused a_m_months a_m_heirs a_m_lasts a_m_cares a_m_bestCares a_m_ones a_m_others a_m_bytes a_m_anew a_m_values cI cB cZ cP cC above below retired manyLine bytesLong tokenAt tokenLong token value told months))) (qq_X10_goMonth D a_m a_m_told a_m_kept a_m_isKept a_m_refused a_m_months a_m_heirs a_m_lasts a_m_cares a_m_bestCares a_m_ones a_m_others a_m_bytes a_m_anew a_m_values cI cB cZ cP cC above below manyLine bytesLong tokenAt tokenLong token value told Post (va_A (ww_X10_goMonth a_m a_m_told a_m_kept a_m_isKept a_m_refused a_m_months a_m_heirs a_m_lasts a_m_cares a_m_bestCares a_m_ones a_m_others a_m_bytes a_m_anew a_m_values cI cB cZ cP cC above below retired manyLine bytesLong tokenAt tokenLong token value told months) sz)) 0 0 (va_A (ww_X10_goMonth a_m a_m_told a_m_kept a_m_isKept a_m_refused a_m_months a_m_heirs a_m_lasts a_m_cares a_m_bestCares a_m_ones a_m_others a_m_bytes a_m_anew a_m_values cI cB cZ cP cC above below retired manyLine bytesLong tokenAt tokenLong token value told months) sz) := by
  refine mx_of (Qc := qq_X10_goMonth D a_m a_m_told a_m_kept a_m_isKept a_m_refused a_m_months a_m_heirs a_m_lasts a_m_cares a_m_bestCares a_m_ones a_m_others a_m_bytes a_m_anew a_m_values cI cB cZ cP cC above below manyLine bytesLong tokenAt tokenLong token value told Post) (by decide) (Nat.le_of_ble_eq_true rfl) ?_
  intro p e s m bl meth c A ls C0 hP hD hS hl
  replace C0 : mxC p s m [.ref a_m].toArray meth c cX10_goMonth RX10 none 2 D (mxTy cI cB cZ cP cC) A := C0
  obtain ⟨hx, hb, hr, hlocks, hml, hown, hts, hK, hA⟩ := id C0
  replace hl : lv_has ls 2 [(0, .ref a_m)] := hl
  unfold wp_X10_goMonth at hw
  refine lv_iconst (v := 0) hx hb dX10_goMonth_0 (by decide) ?_
  refine lv_istore_n (lv' := [(1, .int 0), (0, .ref a_m)]) hx hb dX10_goMonth_1 rfl hl (by decide) rfl (fun ls hl => ?_)
  obtain ⟨n0, hw⟩ := hw
  refine k_X10_goMonth_L2 C0  n0 0 retired months _ _ _ hP hD hS (lv_sub hl [1, 0] rfl) hw
/-! PramStateModel.keep()V -/
abbrev ww_X10_keep (a_m a_m_told a_m_kept a_m_isKept a_m_refused a_m_months a_m_heirs a_m_lasts a_m_cares a_m_bestCares a_m_ones a_m_others a_m_bytes a_m_anew a_m_values : Nat) (cI cB cZ cP cC : ClassId) (above : Int64) (below : Int64) (retired : Int32) (manyLine : Int32) (bytesLong : Int32) (tokenAt : Int32) (tokenLong : Int32) (token : Int32) (value : Int32) (told : Nat → Int32) : va_W := [(a_m, .inr (10, [.ref a_m_told, .ref a_m_kept, .ref a_m_isKept, .ref a_m_refused, .long above, .long below, .ref a_m_months, .int retired, .ref a_m_heirs, .ref a_m_lasts, .int manyLine, .ref a_m_cares, .ref a_m_bestCares, .ref a_m_ones, .ref a_m_others, .ref a_m_bytes, .int bytesLong, .int tokenAt, .int tokenLong, .int token, .int value, .ref a_m_anew, .ref a_m_values])), (a_m_told, .inl (cI, 190, .inl told))]
abbrev qq_X10_keep (D : va_G) (a_m a_m_told a_m_kept a_m_isKept a_m_refused a_m_months a_m_heirs a_m_lasts a_m_cares a_m_bestCares a_m_ones a_m_others a_m_bytes a_m_anew a_m_values : Nat) (cI cB cZ cP cC : ClassId) (above : Int64) (below : Int64) (retired : Int32) (manyLine : Int32) (bytesLong : Int32) (tokenAt : Int32) (tokenLong : Int32) (token : Int32) (value : Int32) (Post : (Nat → Int32) → Prop) (A : Nat → Prop) : Array Value → State → Outcome → State → Prop := va_Qv (fun (u : (Nat → Int32)) => Post u) (fun (u : (Nat → Int32)) t => mxB D (mxTy cI cB cZ cP cC) A (ww_X10_keep a_m a_m_told a_m_kept a_m_isKept a_m_refused a_m_months a_m_heirs a_m_lasts a_m_cares a_m_bestCares a_m_ones a_m_others a_m_bytes a_m_anew a_m_values cI cB cZ cP cC above below retired manyLine bytesLong tokenAt tokenLong token value u) t) A
abbrev rm_X10_keep : Room := { frames := 0, cells := 0, slots := 0, locals := 0 }
theorem hd_X10_keep : yX10_keep.cls = RX10 ∧ yX10_keep.cls ≠ "java/lang/invoke/MethodHandle" ∧ yX10_keep.cls ≠ "java/lang/invoke/VarHandle" ∧ (parseMethodDescriptor yX10_keep.desc).map (fun d => d.parameters.length) = some 0 := by decide +kernel
def wp_X10_keep_L53  (Post : (Nat → Int32) → Prop) (K_92 : (Nat → Int32) → Prop) : Nat → Int32 → (Nat → Int32) → Prop
  | 0, _, _ => False
  | n + 1, v1, told => ((14 ≤ v1 → K_92 told) ∧ (¬ 14 ≤ v1 → (vp_in (4 + v1) 190 ∧ (∀ x_4 : Int32, x_4 = told (4 + v1).toNatClampNeg → (vp_in ((78 + (14 * (told 3))) + v1) 190 ∧ (∀ f_6 : Nat → Int32, f_6 = upd told ((78 + (14 * (told 3))) + v1).toNatClampNeg x_4 → (∀ x_7 : Int32, x_7 = v1 + 1 → wp_X10_keep_L53 Post K_92 n x_7 f_6)))))))
set_option maxHeartbeats 4000000 in
set_option maxRecDepth 100000 in
theorem k_X10_keep_L53 {p : Program} {l : Launch} {e : Env} {s : State} {m : MethodId} {ar : Array Value} {bl : List Frame} {meth : Method} {c : Code} {D : va_G} {A : Nat → Prop} {cI cB cZ cP cC : ClassId} {a_m a_m_told a_m_kept a_m_isKept a_m_refused a_m_months a_m_heirs a_m_lasts a_m_cares a_m_bestCares a_m_ones a_m_others a_m_bytes a_m_anew a_m_values : Nat} {above : Int64} {below : Int64} {retired : Int32} {manyLine : Int32} {bytesLong : Int32} {tokenAt : Int32} {tokenLong : Int32} {token : Int32} {value : Int32} {Post : (Nat → Int32) → Prop} {K_92 : (Nat → Int32) → Prop} (C0 : mxC p s m ar meth c cX10_keep RX10 none 2 D (mxTy cI cB cZ cP cC) A)
    (hK_92 : ∀ (told : Nat → Int32) (H : Heap) (locs : List Loc) (ls : Array Slot), va_P D vwCl (ww_X10_keep a_m a_m_told a_m_kept a_m_isKept a_m_refused a_m_months a_m_heirs a_m_lasts a_m_cares a_m_bestCares a_m_ones a_m_others a_m_bytes a_m_anew a_m_values cI cB cZ cP cC above below retired manyLine bytesLong tokenAt tokenLong token value told) H → va_D A (ww_X10_keep a_m a_m_told a_m_kept a_m_isKept a_m_refused a_m_months a_m_heirs a_m_lasts a_m_cares a_m_bestCares a_m_ones a_m_others a_m_bytes a_m_anew a_m_values cI cB cZ cP cC above below retired manyLine bytesLong tokenAt tokenLong token value told) → va_S A s.heap H locs → lv_has ls 2 [(0, .ref a_m)] → K_92 told → W p l e rm_X10_keep s m ar bl meth c H locs 0 0 (MQ bl (qq_X10_keep D a_m a_m_told a_m_kept a_m_isKept a_m_refused a_m_months a_m_heirs a_m_lasts a_m_cares a_m_bestCares a_m_ones a_m_others a_m_bytes a_m_anew a_m_values cI cB cZ cP cC above below retired manyLine bytesLong tokenAt tokenLong token value Post A) ar s 0 0 A) (F0 m 92 ls [])) :
    ∀ (n : Nat) (v1 : Int32) (told : Nat → Int32) (H : Heap) (locs : List Loc) (ls : Array Slot), va_P D vwCl (ww_X10_keep a_m a_m_told a_m_kept a_m_isKept a_m_refused a_m_months a_m_heirs a_m_lasts a_m_cares a_m_bestCares a_m_ones a_m_others a_m_bytes a_m_anew a_m_values cI cB cZ cP cC above below retired manyLine bytesLong tokenAt tokenLong token value told) H → va_D A (ww_X10_keep a_m a_m_told a_m_kept a_m_isKept a_m_refused a_m_months a_m_heirs a_m_lasts a_m_cares a_m_bestCares a_m_ones a_m_others a_m_bytes a_m_anew a_m_values cI cB cZ cP cC above below retired manyLine bytesLong tokenAt tokenLong token value told) → va_S A s.heap H locs → lv_has ls 2 [(0, .ref a_m), (1, .int v1)] → wp_X10_keep_L53 Post K_92 n v1 told → W p l e rm_X10_keep s m ar bl meth c H locs 0 0 (MQ bl (qq_X10_keep D a_m a_m_told a_m_kept a_m_isKept a_m_refused a_m_months a_m_heirs a_m_lasts a_m_cares a_m_bestCares a_m_ones a_m_others a_m_bytes a_m_anew a_m_values cI cB cZ cP cC above below retired manyLine bytesLong tokenAt tokenLong token value Post A) ar s 0 0 A) (F0 m 53 ls []) := by
  obtain ⟨hx, hb, hr, hlocks, hml, hown, hts, hK, hA⟩ := id C0
  intro n
  induction n with
  | zero =>
    intro v1 told H locs ls hP hD hS hl hw
    exact absurd hw (fun h => h)
  | succ n ih =>
    intro v1 told H locs ls hP hD hS hl hw
    refine lv_iload_n hx hb dX10_keep_53 rfl (lv_at hl 1 rfl) ?_
    refine lv_bipush (v := 14) hx hb dX10_keep_54 (by decide) ?_
    refine lv_icmp_ge (tgt := 92) hx hb dX10_keep_56 (by decide) (fun c_2 => ?_) (fun c_2 => ?_)
    · replace hw := hw.1 c_2
      exact hK_92 told _ _ _ hP hD hS (lv_sub hl [0] rfl) hw
    · replace hw := hw.2 c_2
      refine lv_aload_n hx hb dX10_keep_59 rfl (lv_at hl 0 rfl) ?_
      refine mx_get (ci := 10) (C := RX10) (T := TX10) (N := 23) hx hb hown in_wsX100 hts hK hP 0 rfl rfl 0 (by decide) q_91 rfl (v := .ref a_m_told) rfl dX10_keep_60 ?_
      refine lv_bipush (v := 78) hx hb dX10_keep_63 (by decide) ?_
      refine lv_bipush (v := 14) hx hb dX10_keep_65 (by decide) ?_
      refine lv_aload_n hx hb dX10_keep_67 rfl (lv_at hl 0 rfl) ?_
      refine mx_get (ci := 10) (C := RX10) (T := TX10) (N := 23) hx hb hown in_wsX100 hts hK hP 0 rfl rfl 0 (by decide) q_91 rfl (v := .ref a_m_told) rfl dX10_keep_68 ?_
      refine lv_iconst (v := 3) hx hb dX10_keep_71 (by decide) ?_
      refine mx_iald hx hb hK hP 1 0 rfl rfl (mx_lit rfl) (told 3) rfl dX10_keep_72 ?_
      refine lv_imul hx hb dX10_keep_73 ?_
      refine lv_iadd hx hb dX10_keep_74 ?_
      refine lv_iload_n hx hb dX10_keep_75 rfl (lv_at hl 1 rfl) ?_
      refine lv_iadd hx hb dX10_keep_76 ?_
      refine lv_aload_n hx hb dX10_keep_77 rfl (lv_at hl 0 rfl) ?_
      refine mx_get (ci := 10) (C := RX10) (T := TX10) (N := 23) hx hb hown in_wsX100 hts hK hP 0 rfl rfl 0 (by decide) q_91 rfl (v := .ref a_m_told) rfl dX10_keep_78 ?_
      refine lv_iconst (v := 4) hx hb dX10_keep_81 (by decide) ?_
      refine lv_iload_n hx hb dX10_keep_82 rfl (lv_at hl 1 rfl) ?_
      refine lv_iadd hx hb dX10_keep_83 ?_
      obtain ⟨h_3, hw⟩ := hw
      refine mx_iald hx hb hK hP 1 0 rfl rfl h_3 (told (4 + v1).toNatClampNeg) rfl dX10_keep_84 ?_
      refine lv_topi (fun x_4 ex_4 => ?_)
      replace hw := hw x_4 ex_4
      obtain ⟨h_5, hw⟩ := hw
      obtain ⟨f_6, ef_6⟩ : ∃ y : Nat → Int32, y = upd told ((78 + (14 * (told 3))) + v1).toNatClampNeg x_4 := ⟨_, rfl⟩
      replace hw := hw f_6 ef_6
      refine mx_iast hx hb hK hP hD hS 1 0 rfl rfl h_5 f_6 ef_6 (ww_X10_keep a_m a_m_told a_m_kept a_m_isKept a_m_refused a_m_months a_m_heirs a_m_lasts a_m_cares a_m_bestCares a_m_ones a_m_others a_m_bytes a_m_anew a_m_values cI cB cZ cP cC above below retired manyLine bytesLong tokenAt tokenLong token value f_6) rfl dX10_keep_85 (fun H locs hP hD hS => ?_)
      obtain ⟨x_7, ex_7⟩ : ∃ y : Int32, y = v1 + 1 := ⟨_, rfl⟩
      replace hw := hw x_7 ex_7
      refine lv_iinc (v := x_7) (lv' := [(1, .int x_7), (0, .ref a_m)]) hx hb dX10_keep_86 hl (k := 1) rfl (by rw [ex_7]; rfl) (by decide) rfl (fun ls hl => ?_)
      refine lv_goto (tgt := 53) hx hb dX10_keep_89 (by decide) ?_
      exact ih x_7 f_6 _ _ _ hP hD hS (lv_sub hl [1, 0] rfl) hw
def wp_X10_keep_J51  (Post : (Nat → Int32) → Prop)  (told : Nat → Int32) : Prop :=
  (∃ k_11 : Nat, wp_X10_keep_L53 Post (fun (told_8 : Nat → Int32) => (∀ x_9 : Int32, x_9 = (told_8 3) + 1 → (∀ f_10 : Nat → Int32, f_10 = upd told_8 3 x_9 → Post f_10))) k_11 0 told)
set_option maxHeartbeats 4000000 in
set_option maxRecDepth 100000 in
theorem k_X10_keep_J51 {p : Program} {l : Launch} {e : Env} {s : State} {m : MethodId} {ar : Array Value} {bl : List Frame} {meth : Method} {c : Code} {D : va_G} {A : Nat → Prop} {cI cB cZ cP cC : ClassId} {a_m a_m_told a_m_kept a_m_isKept a_m_refused a_m_months a_m_heirs a_m_lasts a_m_cares a_m_bestCares a_m_ones a_m_others a_m_bytes a_m_anew a_m_values : Nat} {above : Int64} {below : Int64} {retired : Int32} {manyLine : Int32} {bytesLong : Int32} {tokenAt : Int32} {tokenLong : Int32} {token : Int32} {value : Int32} {Post : (Nat → Int32) → Prop} (C0 : mxC p s m ar meth c cX10_keep RX10 none 2 D (mxTy cI cB cZ cP cC) A) :
    ∀ (told : Nat → Int32) (H : Heap) (locs : List Loc) (ls : Array Slot), va_P D vwCl (ww_X10_keep a_m a_m_told a_m_kept a_m_isKept a_m_refused a_m_months a_m_heirs a_m_lasts a_m_cares a_m_bestCares a_m_ones a_m_others a_m_bytes a_m_anew a_m_values cI cB cZ cP cC above below retired manyLine bytesLong tokenAt tokenLong token value told) H → va_D A (ww_X10_keep a_m a_m_told a_m_kept a_m_isKept a_m_refused a_m_months a_m_heirs a_m_lasts a_m_cares a_m_bestCares a_m_ones a_m_others a_m_bytes a_m_anew a_m_values cI cB cZ cP cC above below retired manyLine bytesLong tokenAt tokenLong token value told) → va_S A s.heap H locs → lv_has ls 2 [(0, .ref a_m)] → wp_X10_keep_J51 Post  told → W p l e rm_X10_keep s m ar bl meth c H locs 0 0 (MQ bl (qq_X10_keep D a_m a_m_told a_m_kept a_m_isKept a_m_refused a_m_months a_m_heirs a_m_lasts a_m_cares a_m_bestCares a_m_ones a_m_others a_m_bytes a_m_anew a_m_values cI cB cZ cP cC above below retired manyLine bytesLong tokenAt tokenLong token value Post A) ar s 0 0 A) (F0 m 51 ls []) := by
  obtain ⟨hx, hb, hr, hlocks, hml, hown, hts, hK, hA⟩ := id C0
  intro told H locs ls hP hD hS hl hw
  refine lv_iconst (v := 0) hx hb dX10_keep_51 (by decide) ?_
  refine lv_istore_n (lv' := [(1, .int 0), (0, .ref a_m)]) hx hb dX10_keep_52 rfl hl (by decide) rfl (fun ls hl => ?_)
  obtain ⟨n0, hw⟩ := hw
  refine k_X10_keep_L53 C0 ?_ n0 0 told _ _ _ hP hD hS (lv_sub hl [1, 0] rfl) hw
  intro told_8 H locs ls hP hD hS hl hw
  refine lv_aload_n hx hb dX10_keep_92 rfl (lv_at hl 0 rfl) ?_
  refine mx_get (ci := 10) (C := RX10) (T := TX10) (N := 23) hx hb hown in_wsX100 hts hK hP 0 rfl rfl 0 (by decide) q_91 rfl (v := .ref a_m_told) rfl dX10_keep_93 ?_
  refine lv_iconst (v := 3) hx hb dX10_keep_96 (by decide) ?_
  refine lv_dup2_11 hx hb dX10_keep_97 rfl rfl ?_
  refine mx_iald hx hb hK hP 1 0 rfl rfl (mx_lit rfl) (told_8 3) rfl dX10_keep_98 ?_
  refine lv_iconst (v := 1) hx hb dX10_keep_99 (by decide) ?_
  refine lv_iadd hx hb dX10_keep_100 ?_
  refine lv_topi (fun x_9 ex_9 => ?_)
  replace hw := hw x_9 ex_9
  obtain ⟨f_10, ef_10⟩ : ∃ y : Nat → Int32, y = upd told_8 3 x_9 := ⟨_, rfl⟩
  replace hw := hw f_10 ef_10
  refine mx_iast hx hb hK hP hD hS 1 0 rfl rfl (mx_lit rfl) f_10 ef_10 (ww_X10_keep a_m a_m_told a_m_kept a_m_isKept a_m_refused a_m_months a_m_heirs a_m_lasts a_m_cares a_m_bestCares a_m_ones a_m_others a_m_bytes a_m_anew a_m_values cI cB cZ cP cC above below retired manyLine bytesLong tokenAt tokenLong token value f_10) rfl dX10_keep_101 (fun H locs hP hD hS => ?_)
  exact mx_vret f_10 hx hb hr hlocks hw hK hP hD hS dX10_keep_102
def wp_X10_keep_L13  (Post : (Nat → Int32) → Prop) (K_43 : (Nat → Int32) → Prop) : Nat → Int32 → (Nat → Int32) → Prop
  | 0, _, _ => False
  | n + 1, v1, told => ((98 ≤ v1 → K_43 told) ∧ (¬ 98 ≤ v1 → (vp_in (92 + v1) 190 ∧ (∀ x_14 : Int32, x_14 = told (92 + v1).toNatClampNeg → (vp_in (78 + v1) 190 ∧ (∀ f_16 : Nat → Int32, f_16 = upd told (78 + v1).toNatClampNeg x_14 → (∀ x_17 : Int32, x_17 = v1 + 1 → wp_X10_keep_L13 Post K_43 n x_17 f_16)))))))
set_option maxHeartbeats 4000000 in
set_option maxRecDepth 100000 in
theorem k_X10_keep_L13 {p : Program} {l : Launch} {e : Env} {s : State} {m : MethodId} {ar : Array Value} {bl : List Frame} {meth : Method} {c : Code} {D : va_G} {A : Nat → Prop} {cI cB cZ cP cC : ClassId} {a_m a_m_told a_m_kept a_m_isKept a_m_refused a_m_months a_m_heirs a_m_lasts a_m_cares a_m_bestCares a_m_ones a_m_others a_m_bytes a_m_anew a_m_values : Nat} {above : Int64} {below : Int64} {retired : Int32} {manyLine : Int32} {bytesLong : Int32} {tokenAt : Int32} {tokenLong : Int32} {token : Int32} {value : Int32} {Post : (Nat → Int32) → Prop} {K_43 : (Nat → Int32) → Prop} (C0 : mxC p s m ar meth c cX10_keep RX10 none 2 D (mxTy cI cB cZ cP cC) A)
    (hK_43 : ∀ (told : Nat → Int32) (H : Heap) (locs : List Loc) (ls : Array Slot), va_P D vwCl (ww_X10_keep a_m a_m_told a_m_kept a_m_isKept a_m_refused a_m_months a_m_heirs a_m_lasts a_m_cares a_m_bestCares a_m_ones a_m_others a_m_bytes a_m_anew a_m_values cI cB cZ cP cC above below retired manyLine bytesLong tokenAt tokenLong token value told) H → va_D A (ww_X10_keep a_m a_m_told a_m_kept a_m_isKept a_m_refused a_m_months a_m_heirs a_m_lasts a_m_cares a_m_bestCares a_m_ones a_m_others a_m_bytes a_m_anew a_m_values cI cB cZ cP cC above below retired manyLine bytesLong tokenAt tokenLong token value told) → va_S A s.heap H locs → lv_has ls 2 [(0, .ref a_m)] → K_43 told → W p l e rm_X10_keep s m ar bl meth c H locs 0 0 (MQ bl (qq_X10_keep D a_m a_m_told a_m_kept a_m_isKept a_m_refused a_m_months a_m_heirs a_m_lasts a_m_cares a_m_bestCares a_m_ones a_m_others a_m_bytes a_m_anew a_m_values cI cB cZ cP cC above below retired manyLine bytesLong tokenAt tokenLong token value Post A) ar s 0 0 A) (F0 m 43 ls [])) :
    ∀ (n : Nat) (v1 : Int32) (told : Nat → Int32) (H : Heap) (locs : List Loc) (ls : Array Slot), va_P D vwCl (ww_X10_keep a_m a_m_told a_m_kept a_m_isKept a_m_refused a_m_months a_m_heirs a_m_lasts a_m_cares a_m_bestCares a_m_ones a_m_others a_m_bytes a_m_anew a_m_values cI cB cZ cP cC above below retired manyLine bytesLong tokenAt tokenLong token value told) H → va_D A (ww_X10_keep a_m a_m_told a_m_kept a_m_isKept a_m_refused a_m_months a_m_heirs a_m_lasts a_m_cares a_m_bestCares a_m_ones a_m_others a_m_bytes a_m_anew a_m_values cI cB cZ cP cC above below retired manyLine bytesLong tokenAt tokenLong token value told) → va_S A s.heap H locs → lv_has ls 2 [(0, .ref a_m), (1, .int v1)] → wp_X10_keep_L13 Post K_43 n v1 told → W p l e rm_X10_keep s m ar bl meth c H locs 0 0 (MQ bl (qq_X10_keep D a_m a_m_told a_m_kept a_m_isKept a_m_refused a_m_months a_m_heirs a_m_lasts a_m_cares a_m_bestCares a_m_ones a_m_others a_m_bytes a_m_anew a_m_values cI cB cZ cP cC above below retired manyLine bytesLong tokenAt tokenLong token value Post A) ar s 0 0 A) (F0 m 13 ls []) := by
  obtain ⟨hx, hb, hr, hlocks, hml, hown, hts, hK, hA⟩ := id C0
  intro n
  induction n with
  | zero =>
    intro v1 told H locs ls hP hD hS hl hw
    exact absurd hw (fun h => h)
  | succ n ih =>
    intro v1 told H locs ls hP hD hS hl hw
    refine lv_iload_n hx hb dX10_keep_13 rfl (lv_at hl 1 rfl) ?_
    refine lv_bipush (v := 98) hx hb dX10_keep_14 (by decide) ?_
    refine lv_icmp_ge (tgt := 43) hx hb dX10_keep_16 (by decide) (fun c_12 => ?_) (fun c_12 => ?_)
    · replace hw := hw.1 c_12
      exact hK_43 told _ _ _ hP hD hS (lv_sub hl [0] rfl) hw
    · replace hw := hw.2 c_12
      refine lv_aload_n hx hb dX10_keep_19 rfl (lv_at hl 0 rfl) ?_
      refine mx_get (ci := 10) (C := RX10) (T := TX10) (N := 23) hx hb hown in_wsX100 hts hK hP 0 rfl rfl 0 (by decide) q_91 rfl (v := .ref a_m_told) rfl dX10_keep_20 ?_
      refine lv_bipush (v := 78) hx hb dX10_keep_23 (by decide) ?_
      refine lv_iload_n hx hb dX10_keep_25 rfl (lv_at hl 1 rfl) ?_
      refine lv_iadd hx hb dX10_keep_26 ?_
      refine lv_aload_n hx hb dX10_keep_27 rfl (lv_at hl 0 rfl) ?_
      refine mx_get (ci := 10) (C := RX10) (T := TX10) (N := 23) hx hb hown in_wsX100 hts hK hP 0 rfl rfl 0 (by decide) q_91 rfl (v := .ref a_m_told) rfl dX10_keep_28 ?_
      refine lv_bipush (v := 92) hx hb dX10_keep_31 (by decide) ?_
      refine lv_iload_n hx hb dX10_keep_33 rfl (lv_at hl 1 rfl) ?_
      refine lv_iadd hx hb dX10_keep_34 ?_
      obtain ⟨h_13, hw⟩ := hw
      refine mx_iald hx hb hK hP 1 0 rfl rfl h_13 (told (92 + v1).toNatClampNeg) rfl dX10_keep_35 ?_
      refine lv_topi (fun x_14 ex_14 => ?_)
      replace hw := hw x_14 ex_14
      obtain ⟨h_15, hw⟩ := hw
      obtain ⟨f_16, ef_16⟩ : ∃ y : Nat → Int32, y = upd told (78 + v1).toNatClampNeg x_14 := ⟨_, rfl⟩
      replace hw := hw f_16 ef_16
      refine mx_iast hx hb hK hP hD hS 1 0 rfl rfl h_15 f_16 ef_16 (ww_X10_keep a_m a_m_told a_m_kept a_m_isKept a_m_refused a_m_months a_m_heirs a_m_lasts a_m_cares a_m_bestCares a_m_ones a_m_others a_m_bytes a_m_anew a_m_values cI cB cZ cP cC above below retired manyLine bytesLong tokenAt tokenLong token value f_16) rfl dX10_keep_36 (fun H locs hP hD hS => ?_)
      obtain ⟨x_17, ex_17⟩ : ∃ y : Int32, y = v1 + 1 := ⟨_, rfl⟩
      replace hw := hw x_17 ex_17
      refine lv_iinc (v := x_17) (lv' := [(1, .int x_17), (0, .ref a_m)]) hx hb dX10_keep_37 hl (k := 1) rfl (by rw [ex_17]; rfl) (by decide) rfl (fun ls hl => ?_)
      refine lv_goto (tgt := 13) hx hb dX10_keep_40 (by decide) ?_
      exact ih x_17 f_16 _ _ _ hP hD hS (lv_sub hl [1, 0] rfl) hw
def wp_X10_keep (told : Nat → Int32) (Post : (Nat → Int32) → Prop) : Prop :=
  (((told 3) = 8 → (∃ k_20 : Nat, wp_X10_keep_L13 Post (fun (told_18 : Nat → Int32) => (∀ f_19 : Nat → Int32, f_19 = upd told_18 3 7 → (wp_X10_keep_J51 Post f_19))) k_20 0 told)) ∧ (¬ (told 3) = 8 → (wp_X10_keep_J51 Post told)))
set_option maxHeartbeats 4000000 in
set_option maxRecDepth 100000 in
theorem c_X10_keep (l : Launch) (D : va_G) (cI cB cZ cP cC : ClassId) (a_m a_m_told a_m_kept a_m_isKept a_m_refused a_m_months a_m_heirs a_m_lasts a_m_cares a_m_bestCares a_m_ones a_m_others a_m_bytes a_m_anew a_m_values : Nat) (above : Int64) (below : Int64) (retired : Int32) (manyLine : Int32) (bytesLong : Int32) (tokenAt : Int32) (tokenLong : Int32) (token : Int32) (value : Int32) (told : Nat → Int32)  (sz : Nat) (Post : (Nat → Int32) → Prop) (hw : wp_X10_keep told Post) :
    Met l yX10_keep (Cond.code yX10_keep cX10_keep 2 none :: wsAll) rm_X10_keep (va_Pc [.ref a_m] (mxP D (mxTy cI cB cZ cP cC) sz (ww_X10_keep a_m a_m_told a_m_kept a_m_isKept a_m_refused a_m_months a_m_heirs a_m_lasts a_m_cares a_m_bestCares a_m_ones a_m_others a_m_bytes a_m_anew a_m_values cI cB cZ cP cC above below retired manyLine bytesLong tokenAt tokenLong token value told))) (qq_X10_keep D a_m a_m_told a_m_kept a_m_isKept a_m_refused a_m_months a_m_heirs a_m_lasts a_m_cares a_m_bestCares a_m_ones a_m_others a_m_bytes a_m_anew a_m_values cI cB cZ cP cC above below retired manyLine bytesLong tokenAt tokenLong token value Post (va_A (ww_X10_keep a_m a_m_told a_m_kept a_m_isKept a_m_refused a_m_months a_m_heirs a_m_lasts a_m_cares a_m_bestCares a_m_ones a_m_others a_m_bytes a_m_anew a_m_values cI cB cZ cP cC above below retired manyLine bytesLong tokenAt tokenLong token value told) sz)) 0 0 (va_A (ww_X10_keep a_m a_m_told a_m_kept a_m_isKept a_m_refused a_m_months a_m_heirs a_m_lasts a_m_cares a_m_bestCares a_m_ones a_m_others a_m_bytes a_m_anew a_m_values cI cB cZ cP cC above below retired manyLine bytesLong tokenAt tokenLong token value told) sz) := by
  refine mx_of (Qc := qq_X10_keep D a_m a_m_told a_m_kept a_m_isKept a_m_refused a_m_months a_m_heirs a_m_lasts a_m_cares a_m_bestCares a_m_ones a_m_others a_m_bytes a_m_anew a_m_values cI cB cZ cP cC above below retired manyLine bytesLong tokenAt tokenLong token value Post) (by decide) (Nat.le_of_ble_eq_true rfl) ?_
  intro p e s m bl meth c A ls C0 hP hD hS hl
  replace C0 : mxC p s m [.ref a_m].toArray meth c cX10_keep RX10 none 2 D (mxTy cI cB cZ cP cC) A := C0
  obtain ⟨hx, hb, hr, hlocks, hml, hown, hts, hK, hA⟩ := id C0
  replace hl : lv_has ls 2 [(0, .ref a_m)] := hl
  unfold wp_X10_keep at hw
  refine lv_aload_n hx hb dX10_keep_0 rfl (lv_at hl 0 rfl) ?_
  refine mx_get (ci := 10) (C := RX10) (T := TX10) (N := 23) hx hb hown in_wsX100 hts hK hP 0 rfl rfl 0 (by decide) q_91 rfl (v := .ref a_m_told) rfl dX10_keep_1 ?_
  refine lv_iconst (v := 3) hx hb dX10_keep_4 (by decide) ?_
  refine mx_iald hx hb hK hP 1 0 rfl rfl (mx_lit rfl) (told 3) rfl dX10_keep_5 ?_
  refine lv_bipush (v := 8) hx hb dX10_keep_6 (by decide) ?_
  refine lv_icmp_ne (tgt := 51) hx hb dX10_keep_8 (by decide) (fun c_1 => ?_) (fun c_1 => ?_)
  · replace hw := hw.2 c_1
    exact k_X10_keep_J51 C0  told _ _ _ hP hD hS (lv_sub hl [0] rfl) hw
  · replace hw := hw.1 c_1
    refine lv_iconst (v := 0) hx hb dX10_keep_11 (by decide) ?_
    refine lv_istore_n (lv' := [(1, .int 0), (0, .ref a_m)]) hx hb dX10_keep_12 rfl hl (by decide) rfl (fun ls hl => ?_)
    obtain ⟨n0, hw⟩ := hw
    refine k_X10_keep_L13 C0 ?_ n0 0 told _ _ _ hP hD hS (lv_sub hl [1, 0] rfl) hw
    intro told_18 H locs ls hP hD hS hl hw
    refine lv_aload_n hx hb dX10_keep_43 rfl (lv_at hl 0 rfl) ?_
    refine mx_get (ci := 10) (C := RX10) (T := TX10) (N := 23) hx hb hown in_wsX100 hts hK hP 0 rfl rfl 0 (by decide) q_91 rfl (v := .ref a_m_told) rfl dX10_keep_44 ?_
    refine lv_iconst (v := 3) hx hb dX10_keep_47 (by decide) ?_
    refine lv_bipush (v := 7) hx hb dX10_keep_48 (by decide) ?_
    obtain ⟨f_19, ef_19⟩ : ∃ y : Nat → Int32, y = upd told_18 3 7 := ⟨_, rfl⟩
    replace hw := hw f_19 ef_19
    refine mx_iast hx hb hK hP hD hS 1 0 rfl rfl (mx_lit rfl) f_19 ef_19 (ww_X10_keep a_m a_m_told a_m_kept a_m_isKept a_m_refused a_m_months a_m_heirs a_m_lasts a_m_cares a_m_bestCares a_m_ones a_m_others a_m_bytes a_m_anew a_m_values cI cB cZ cP cC above below retired manyLine bytesLong tokenAt tokenLong token value f_19) rfl dX10_keep_50 (fun H locs hP hD hS => ?_)
    exact k_X10_keep_J51 C0  f_19 _ _ _ hP hD hS (lv_sub hl [0] rfl) hw
/-! PramStateModel.month(I)I -/
abbrev ww_X10_month (a_m a_m_told a_m_kept a_m_isKept a_m_refused a_m_months a_m_heirs a_m_lasts a_m_cares a_m_bestCares a_m_ones a_m_others a_m_bytes a_m_anew a_m_values : Nat) (cI cB cZ cP cC : ClassId) (above : Int64) (below : Int64) (retired : Int32) (manyLine : Int32) (bytesLong : Int32) (tokenAt : Int32) (tokenLong : Int32) (token : Int32) (value : Int32) (told : Nat → Int32) (refused : Nat → Int32) (months : Nat → Int32) : va_W := [(a_m, .inr (10, [.ref a_m_told, .ref a_m_kept, .ref a_m_isKept, .ref a_m_refused, .long above, .long below, .ref a_m_months, .int retired, .ref a_m_heirs, .ref a_m_lasts, .int manyLine, .ref a_m_cares, .ref a_m_bestCares, .ref a_m_ones, .ref a_m_others, .ref a_m_bytes, .int bytesLong, .int tokenAt, .int tokenLong, .int token, .int value, .ref a_m_anew, .ref a_m_values])), (a_m_told, .inl (cI, 190, .inl told)), (a_m_refused, .inl (cI, 3, .inl refused)), (a_m_months, .inl (cI, 6, .inl months))]
abbrev qq_X10_month (D : va_G) (a_m a_m_told a_m_kept a_m_isKept a_m_refused a_m_months a_m_heirs a_m_lasts a_m_cares a_m_bestCares a_m_ones a_m_others a_m_bytes a_m_anew a_m_values : Nat) (cI cB cZ cP cC : ClassId) (above : Int64) (below : Int64) (manyLine : Int32) (bytesLong : Int32) (tokenAt : Int32) (tokenLong : Int32) (token : Int32) (value : Int32) (Post : Int32 → Int32 → (Nat → Int32) → (Nat → Int32) → (Nat → Int32) → Prop) (A : Nat → Prop) : Array Value → State → Outcome → State → Prop := va_Qi (fun (r : Int32) (u : Int32 × (Nat → Int32) × (Nat → Int32) × (Nat → Int32)) => Post r u.1 u.2.1 u.2.2.1 u.2.2.2) (fun (u : Int32 × (Nat → Int32) × (Nat → Int32) × (Nat → Int32)) t => mxB D (mxTy cI cB cZ cP cC) A (ww_X10_month a_m a_m_told a_m_kept a_m_isKept a_m_refused a_m_months a_m_heirs a_m_lasts a_m_cares a_m_bestCares a_m_ones a_m_others a_m_bytes a_m_anew a_m_values cI cB cZ cP cC above below (u.1) manyLine bytesLong tokenAt tokenLong token value (u.2.1) (u.2.2.1) (u.2.2.2)) t) A
abbrev rm_X10_month : Room := { frames := 2, cells := 0, slots := 0, locals := 44 }
theorem hd_X10_month : yX10_month.cls = RX10 ∧ yX10_month.cls ≠ "java/lang/invoke/MethodHandle" ∧ yX10_month.cls ≠ "java/lang/invoke/VarHandle" ∧ (parseMethodDescriptor yX10_month.desc).map (fun d => d.parameters.length) = some 1 := by decide +kernel
def wp_X10_month_L29  (Post : Int32 → Int32 → (Nat → Int32) → (Nat → Int32) → (Nat → Int32) → Prop) (K_44 : Int32 → Int32 → (Nat → Int32) → (Nat → Int32) → (Nat → Int32) → Prop) : Nat → Int32 → Int32 → Int32 → (Nat → Int32) → (Nat → Int32) → (Nat → Int32) → Prop
  | 0, _, _, _, _, _, _ => False
  | n + 1, v1, v2, retired, told, refused, months => ((v1 ≤ v2 → K_44 v1 retired told refused months) ∧ (¬ v1 ≤ v2 → (wp_X10_goMonth told retired months (fun retired_7 months_8 => (∀ x_9 : Int32, x_9 = v2 + 1 → wp_X10_month_L29 Post K_44 n v1 x_9 retired_7 told refused months_8)))))
set_option maxHeartbeats 4000000 in
set_option maxRecDepth 100000 in
theorem k_X10_month_L29 {p : Program} {l : Launch} {e : Env} {s : State} {m : MethodId} {ar : Array Value} {bl : List Frame} {meth : Method} {c : Code} {D : va_G} {A : Nat → Prop} {cI cB cZ cP cC : ClassId} {a_m a_m_told a_m_kept a_m_isKept a_m_refused a_m_months a_m_heirs a_m_lasts a_m_cares a_m_bestCares a_m_ones a_m_others a_m_bytes a_m_anew a_m_values : Nat} {above : Int64} {below : Int64} {manyLine : Int32} {bytesLong : Int32} {tokenAt : Int32} {tokenLong : Int32} {token : Int32} {value : Int32} {Post : Int32 → Int32 → (Nat → Int32) → (Nat → Int32) → (Nat → Int32) → Prop} {K_44 : Int32 → Int32 → (Nat → Int32) → (Nat → Int32) → (Nat → Int32) → Prop} (C0 : mxC p s m ar meth c cX10_month RX10 (some .int) 3 D (mxTy cI cB cZ cP cC) A)
    (hK_44 : ∀ (v1 : Int32) (retired : Int32) (told : Nat → Int32) (refused : Nat → Int32) (months : Nat → Int32) (H : Heap) (locs : List Loc) (ls : Array Slot), va_P D vwCl (ww_X10_month a_m a_m_told a_m_kept a_m_isKept a_m_refused a_m_months a_m_heirs a_m_lasts a_m_cares a_m_bestCares a_m_ones a_m_others a_m_bytes a_m_anew a_m_values cI cB cZ cP cC above below retired manyLine bytesLong tokenAt tokenLong token value told refused months) H → va_D A (ww_X10_month a_m a_m_told a_m_kept a_m_isKept a_m_refused a_m_months a_m_heirs a_m_lasts a_m_cares a_m_bestCares a_m_ones a_m_others a_m_bytes a_m_anew a_m_values cI cB cZ cP cC above below retired manyLine bytesLong tokenAt tokenLong token value told refused months) → va_S A s.heap H locs → lv_has ls 3 [(0, .ref a_m), (1, .int v1)] → K_44 v1 retired told refused months → W p l e rm_X10_month s m ar bl meth c H locs 0 0 (MQ bl (qq_X10_month D a_m a_m_told a_m_kept a_m_isKept a_m_refused a_m_months a_m_heirs a_m_lasts a_m_cares a_m_bestCares a_m_ones a_m_others a_m_bytes a_m_anew a_m_values cI cB cZ cP cC above below manyLine bytesLong tokenAt tokenLong token value Post A) ar s 0 0 A) (F0 m 44 ls [])) :
    ∀ (n : Nat) (v1 : Int32) (v2 : Int32) (retired : Int32) (told : Nat → Int32) (refused : Nat → Int32) (months : Nat → Int32) (H : Heap) (locs : List Loc) (ls : Array Slot), va_P D vwCl (ww_X10_month a_m a_m_told a_m_kept a_m_isKept a_m_refused a_m_months a_m_heirs a_m_lasts a_m_cares a_m_bestCares a_m_ones a_m_others a_m_bytes a_m_anew a_m_values cI cB cZ cP cC above below retired manyLine bytesLong tokenAt tokenLong token value told refused months) H → va_D A (ww_X10_month a_m a_m_told a_m_kept a_m_isKept a_m_refused a_m_months a_m_heirs a_m_lasts a_m_cares a_m_bestCares a_m_ones a_m_others a_m_bytes a_m_anew a_m_values cI cB cZ cP cC above below retired manyLine bytesLong tokenAt tokenLong token value told refused months) → va_S A s.heap H locs → lv_has ls 3 [(0, .ref a_m), (1, .int v1), (2, .int v2)] → wp_X10_month_L29 Post K_44 n v1 v2 retired told refused months → W p l e rm_X10_month s m ar bl meth c H locs 0 0 (MQ bl (qq_X10_month D a_m a_m_told a_m_kept a_m_isKept a_m_refused a_m_months a_m_heirs a_m_lasts a_m_cares a_m_bestCares a_m_ones a_m_others a_m_bytes a_m_anew a_m_values cI cB cZ cP cC above below manyLine bytesLong tokenAt tokenLong token value Post A) ar s 0 0 A) (F0 m 29 ls []) := by
  obtain ⟨hx, hb, hr, hlocks, hml, hown, hts, hK, hA⟩ := id C0
  intro n
  induction n with
  | zero =>
    intro v1 v2 retired told refused months H locs ls hP hD hS hl hw
    exact absurd hw (fun h => h)
  | succ n ih =>
    intro v1 v2 retired told refused months H locs ls hP hD hS hl hw
    refine lv_iload_n hx hb dX10_month_29 rfl (lv_at hl 2 rfl) ?_
    refine lv_iload_n hx hb dX10_month_30 rfl (lv_at hl 1 rfl) ?_
    refine lv_icmp_ge (tgt := 44) hx hb dX10_month_31 (by decide) (fun c_6 => ?_) (fun c_6 => ?_)
    · replace hw := hw.1 c_6
      exact hK_44 v1 retired told refused months _ _ _ hP hD hS (lv_sub hl [0, 1] rfl) hw
    · replace hw := hw.2 c_6
      refine lv_aload_n hx hb dX10_month_34 rfl (lv_at hl 0 rfl) ?_
      refine mx_kv (mx_rV (rm := rm_X10_goMonth) (rest := []) (C := RX10) hx hb hml hown hts (c_X10_goMonth l D cI cB cZ cP cC a_m a_m_told a_m_kept a_m_isKept a_m_refused a_m_months a_m_heirs a_m_lasts a_m_cares a_m_bestCares a_m_ones a_m_others a_m_bytes a_m_anew a_m_values above below retired manyLine bytesLong tokenAt tokenLong token value told months _ _ hw) q_441 q_442 q_443 q_5 q_444 hd_X10_goMonth ⟨(Nat.le_of_ble_eq_true rfl), (Nat.le_of_ble_eq_true rfl)⟩ rfl rfl hK hP hD [0, 1, 3] rfl rfl 10 0 rfl rfl rfl rfl hl.1 rfl (Nat.le_of_ble_eq_true rfl) dX10_month_35 ⟨(Nat.le_of_ble_eq_true rfl), (Nat.le_of_ble_eq_true rfl)⟩) hP hD hS hA [0, 1, 3] [2] [1, 2, 0, 3] (fun u => ww_X10_month a_m a_m_told a_m_kept a_m_isKept a_m_refused a_m_months a_m_heirs a_m_lasts a_m_cares a_m_bestCares a_m_ones a_m_others a_m_bytes a_m_anew a_m_values cI cB cZ cP cC above below (u.1) manyLine bytesLong tokenAt tokenLong token value told refused (u.2)) rfl rfl rfl (by decide) rfl (fun _ => rfl) (fun u H locs hw hP hD hS => ?_)
      obtain ⟨retired_7, months_8⟩ := u
      try dsimp only at hw
      replace hP : va_P D vwCl (ww_X10_month a_m a_m_told a_m_kept a_m_isKept a_m_refused a_m_months a_m_heirs a_m_lasts a_m_cares a_m_bestCares a_m_ones a_m_others a_m_bytes a_m_anew a_m_values cI cB cZ cP cC above below retired_7 manyLine bytesLong tokenAt tokenLong token value told refused months_8) H := hP
      replace hD : va_D A (ww_X10_month a_m a_m_told a_m_kept a_m_isKept a_m_refused a_m_months a_m_heirs a_m_lasts a_m_cares a_m_bestCares a_m_ones a_m_others a_m_bytes a_m_anew a_m_values cI cB cZ cP cC above below retired_7 manyLine bytesLong tokenAt tokenLong token value told refused months_8) := hD
      obtain ⟨x_9, ex_9⟩ : ∃ y : Int32, y = v2 + 1 := ⟨_, rfl⟩
      replace hw := hw x_9 ex_9
      refine lv_iinc (v := x_9) (lv' := [(2, .int x_9), (0, .ref a_m), (1, .int v1)]) hx hb dX10_month_38 hl (k := 2) rfl (by rw [ex_9]; rfl) (by decide) rfl (fun ls hl => ?_)
      refine lv_goto (tgt := 29) hx hb dX10_month_41 (by decide) ?_
      exact ih v1 x_9 retired_7 told refused months_8 _ _ _ hP hD hS (lv_sub hl [1, 2, 0] rfl) hw
def wp_X10_month_L46  (Post : Int32 → Int32 → (Nat → Int32) → (Nat → Int32) → (Nat → Int32) → Prop) (K_74 : Int32 → Int32 → (Nat → Int32) → (Nat → Int32) → (Nat → Int32) → Prop) : Nat → Int32 → Int32 → Int32 → (Nat → Int32) → (Nat → Int32) → (Nat → Int32) → Prop
  | 0, _, _, _, _, _, _ => False
  | n + 1, v1, v2, retired, told, refused, months => (wp_X10_many told (fun r_15 => ((r_15 ≤ v2 → K_74 v1 retired told refused months) ∧ (¬ r_15 ≤ v2 → (vp_in v2 6 ∧ (∀ x_18 : Int32, x_18 = months v2.toNatClampNeg → (vp_in (4 + v2) 190 ∧ (∀ f_20 : Nat → Int32, f_20 = upd told (4 + v2).toNatClampNeg x_18 → (∀ x_21 : Int32, x_21 = v2 + 1 → wp_X10_month_L46 Post K_74 n v1 x_21 retired f_20 refused months)))))))))
set_option maxHeartbeats 4000000 in
set_option maxRecDepth 100000 in
theorem k_X10_month_L46 {p : Program} {l : Launch} {e : Env} {s : State} {m : MethodId} {ar : Array Value} {bl : List Frame} {meth : Method} {c : Code} {D : va_G} {A : Nat → Prop} {cI cB cZ cP cC : ClassId} {a_m a_m_told a_m_kept a_m_isKept a_m_refused a_m_months a_m_heirs a_m_lasts a_m_cares a_m_bestCares a_m_ones a_m_others a_m_bytes a_m_anew a_m_values : Nat} {above : Int64} {below : Int64} {manyLine : Int32} {bytesLong : Int32} {tokenAt : Int32} {tokenLong : Int32} {token : Int32} {value : Int32} {Post : Int32 → Int32 → (Nat → Int32) → (Nat → Int32) → (Nat → Int32) → Prop} {K_74 : Int32 → Int32 → (Nat → Int32) → (Nat → Int32) → (Nat → Int32) → Prop} (C0 : mxC p s m ar meth c cX10_month RX10 (some .int) 3 D (mxTy cI cB cZ cP cC) A)
    (hK_74 : ∀ (v1 : Int32) (retired : Int32) (told : Nat → Int32) (refused : Nat → Int32) (months : Nat → Int32) (H : Heap) (locs : List Loc) (ls : Array Slot), va_P D vwCl (ww_X10_month a_m a_m_told a_m_kept a_m_isKept a_m_refused a_m_months a_m_heirs a_m_lasts a_m_cares a_m_bestCares a_m_ones a_m_others a_m_bytes a_m_anew a_m_values cI cB cZ cP cC above below retired manyLine bytesLong tokenAt tokenLong token value told refused months) H → va_D A (ww_X10_month a_m a_m_told a_m_kept a_m_isKept a_m_refused a_m_months a_m_heirs a_m_lasts a_m_cares a_m_bestCares a_m_ones a_m_others a_m_bytes a_m_anew a_m_values cI cB cZ cP cC above below retired manyLine bytesLong tokenAt tokenLong token value told refused months) → va_S A s.heap H locs → lv_has ls 3 [(0, .ref a_m), (1, .int v1)] → K_74 v1 retired told refused months → W p l e rm_X10_month s m ar bl meth c H locs 0 0 (MQ bl (qq_X10_month D a_m a_m_told a_m_kept a_m_isKept a_m_refused a_m_months a_m_heirs a_m_lasts a_m_cares a_m_bestCares a_m_ones a_m_others a_m_bytes a_m_anew a_m_values cI cB cZ cP cC above below manyLine bytesLong tokenAt tokenLong token value Post A) ar s 0 0 A) (F0 m 74 ls [])) :
    ∀ (n : Nat) (v1 : Int32) (v2 : Int32) (retired : Int32) (told : Nat → Int32) (refused : Nat → Int32) (months : Nat → Int32) (H : Heap) (locs : List Loc) (ls : Array Slot), va_P D vwCl (ww_X10_month a_m a_m_told a_m_kept a_m_isKept a_m_refused a_m_months a_m_heirs a_m_lasts a_m_cares a_m_bestCares a_m_ones a_m_others a_m_bytes a_m_anew a_m_values cI cB cZ cP cC above below retired manyLine bytesLong tokenAt tokenLong token value told refused months) H → va_D A (ww_X10_month a_m a_m_told a_m_kept a_m_isKept a_m_refused a_m_months a_m_heirs a_m_lasts a_m_cares a_m_bestCares a_m_ones a_m_others a_m_bytes a_m_anew a_m_values cI cB cZ cP cC above below retired manyLine bytesLong tokenAt tokenLong token value told refused months) → va_S A s.heap H locs → lv_has ls 3 [(0, .ref a_m), (1, .int v1), (2, .int v2)] → wp_X10_month_L46 Post K_74 n v1 v2 retired told refused months → W p l e rm_X10_month s m ar bl meth c H locs 0 0 (MQ bl (qq_X10_month D a_m a_m_told a_m_kept a_m_isKept a_m_refused a_m_months a_m_heirs a_m_lasts a_m_cares a_m_bestCares a_m_ones a_m_others a_m_bytes a_m_anew a_m_values cI cB cZ cP cC above below manyLine bytesLong tokenAt tokenLong token value Post A) ar s 0 0 A) (F0 m 46 ls []) := by
  obtain ⟨hx, hb, hr, hlocks, hml, hown, hts, hK, hA⟩ := id C0
  intro n
  induction n with
  | zero =>
    intro v1 v2 retired told refused months H locs ls hP hD hS hl hw
    exact absurd hw (fun h => h)
  | succ n ih =>
    intro v1 v2 retired told refused months H locs ls hP hD hS hl hw
    refine lv_iload_n hx hb dX10_month_46 rfl (lv_at hl 2 rfl) ?_
    refine lv_aload_n hx hb dX10_month_47 rfl (lv_at hl 0 rfl) ?_
    refine mx_ki (mx_rV (rm := rm_X10_many) (rest := [.int v2]) (C := RX10) hx hb hml hown hts (c_X10_many l D cI cB cZ cP cC a_m a_m_told a_m_kept a_m_isKept a_m_refused a_m_months a_m_heirs a_m_lasts a_m_cares a_m_bestCares a_m_ones a_m_others a_m_bytes a_m_anew a_m_values above below retired manyLine bytesLong tokenAt tokenLong token value told _ _ hw) q_132 q_133 q_134 q_5 q_135 hd_X10_many ⟨(Nat.le_of_ble_eq_true rfl), (Nat.le_of_ble_eq_true rfl)⟩ rfl rfl hK hP hD [0, 1] rfl rfl 10 0 rfl rfl rfl rfl hl.1 rfl (Nat.le_of_ble_eq_true rfl) dX10_month_48 ⟨(Nat.le_of_ble_eq_true rfl), (Nat.le_of_ble_eq_true rfl)⟩) hP hD hS hA [0, 1] [2, 3] [2, 3, 0, 1] (fun _ => ww_X10_month a_m a_m_told a_m_kept a_m_isKept a_m_refused a_m_months a_m_heirs a_m_lasts a_m_cares a_m_bestCares a_m_ones a_m_others a_m_bytes a_m_anew a_m_values cI cB cZ cP cC above below retired manyLine bytesLong tokenAt tokenLong token value told refused months) rfl rfl rfl (by decide) rfl (fun _ => rfl) (fun r_15 u H locs hw hP hD hS => ?_)
    try dsimp only at hw
    replace hP : va_P D vwCl (ww_X10_month a_m a_m_told a_m_kept a_m_isKept a_m_refused a_m_months a_m_heirs a_m_lasts a_m_cares a_m_bestCares a_m_ones a_m_others a_m_bytes a_m_anew a_m_values cI cB cZ cP cC above below retired manyLine bytesLong tokenAt tokenLong token value told refused months) H := hP
    replace hD : va_D A (ww_X10_month a_m a_m_told a_m_kept a_m_isKept a_m_refused a_m_months a_m_heirs a_m_lasts a_m_cares a_m_bestCares a_m_ones a_m_others a_m_bytes a_m_anew a_m_values cI cB cZ cP cC above below retired manyLine bytesLong tokenAt tokenLong token value told refused months) := hD
    refine lv_icmp_ge (tgt := 74) hx hb dX10_month_51 (by decide) (fun c_16 => ?_) (fun c_16 => ?_)
    · replace hw := hw.1 c_16
      exact hK_74 v1 retired told refused months _ _ _ hP hD hS (lv_sub hl [0, 1] rfl) hw
    · replace hw := hw.2 c_16
      refine lv_aload_n hx hb dX10_month_54 rfl (lv_at hl 0 rfl) ?_
      refine mx_get (ci := 10) (C := RX10) (T := TX10) (N := 23) hx hb hown in_wsX100 hts hK hP 0 rfl rfl 0 (by decide) q_91 rfl (v := .ref a_m_told) rfl dX10_month_55 ?_
      refine lv_iconst (v := 4) hx hb dX10_month_58 (by decide) ?_
      refine lv_iload_n hx hb dX10_month_59 rfl (lv_at hl 2 rfl) ?_
      refine lv_iadd hx hb dX10_month_60 ?_
      refine lv_aload_n hx hb dX10_month_61 rfl (lv_at hl 0 rfl) ?_
      refine mx_get (ci := 10) (C := RX10) (T := TX10) (N := 23) hx hb hown in_wsX100 hts hK hP 0 rfl rfl 6 (by decide) q_96 rfl (v := .ref a_m_months) rfl dX10_month_62 ?_
      refine lv_iload_n hx hb dX10_month_65 rfl (lv_at hl 2 rfl) ?_
      obtain ⟨h_17, hw⟩ := hw
      refine mx_iald hx hb hK hP 3 0 rfl rfl h_17 (months v2.toNatClampNeg) rfl dX10_month_66 ?_
      refine lv_topi (fun x_18 ex_18 => ?_)
      replace hw := hw x_18 ex_18
      obtain ⟨h_19, hw⟩ := hw
      obtain ⟨f_20, ef_20⟩ : ∃ y : Nat → Int32, y = upd told (4 + v2).toNatClampNeg x_18 := ⟨_, rfl⟩
      replace hw := hw f_20 ef_20
      refine mx_iast hx hb hK hP hD hS 1 0 rfl rfl h_19 f_20 ef_20 (ww_X10_month a_m a_m_told a_m_kept a_m_isKept a_m_refused a_m_months a_m_heirs a_m_lasts a_m_cares a_m_bestCares a_m_ones a_m_others a_m_bytes a_m_anew a_m_values cI cB cZ cP cC above below retired manyLine bytesLong tokenAt tokenLong token value f_20 refused months) rfl dX10_month_67 (fun H locs hP hD hS => ?_)
      obtain ⟨x_21, ex_21⟩ : ∃ y : Int32, y = v2 + 1 := ⟨_, rfl⟩
      replace hw := hw x_21 ex_21
      refine lv_iinc (v := x_21) (lv' := [(2, .int x_21), (0, .ref a_m), (1, .int v1)]) hx hb dX10_month_68 hl (k := 2) rfl (by rw [ex_21]; rfl) (by decide) rfl (fun ls hl => ?_)
      refine lv_goto (tgt := 46) hx hb dX10_month_71 (by decide) ?_
      exact ih v1 x_21 retired f_20 refused months _ _ _ hP hD hS (lv_sub hl [1, 2, 0] rfl) hw
def wp_X10_month_J121  (Post : Int32 → Int32 → (Nat → Int32) → (Nat → Int32) → (Nat → Int32) → Prop)  (s0 : Int32) (s1 : Int32) (retired : Int32) (told : Nat → Int32) (refused : Nat → Int32) (months : Nat → Int32) : Prop :=
  (vp_in s1 190 ∧ (∀ f_30 : Nat → Int32, f_30 = upd told s1.toNatClampNeg s0 → (wp_X10_reigns retired f_30 months (fun r_31 => Post r_31 retired f_30 refused months))))
set_option maxHeartbeats 4000000 in
set_option maxRecDepth 100000 in
theorem k_X10_month_J121 {p : Program} {l : Launch} {e : Env} {s : State} {m : MethodId} {ar : Array Value} {bl : List Frame} {meth : Method} {c : Code} {D : va_G} {A : Nat → Prop} {cI cB cZ cP cC : ClassId} {a_m a_m_told a_m_kept a_m_isKept a_m_refused a_m_months a_m_heirs a_m_lasts a_m_cares a_m_bestCares a_m_ones a_m_others a_m_bytes a_m_anew a_m_values : Nat} {above : Int64} {below : Int64} {manyLine : Int32} {bytesLong : Int32} {tokenAt : Int32} {tokenLong : Int32} {token : Int32} {value : Int32} {Post : Int32 → Int32 → (Nat → Int32) → (Nat → Int32) → (Nat → Int32) → Prop} (C0 : mxC p s m ar meth c cX10_month RX10 (some .int) 3 D (mxTy cI cB cZ cP cC) A) :
    ∀ (s0 : Int32) (s1 : Int32) (retired : Int32) (told : Nat → Int32) (refused : Nat → Int32) (months : Nat → Int32) (H : Heap) (locs : List Loc) (ls : Array Slot), va_P D vwCl (ww_X10_month a_m a_m_told a_m_kept a_m_isKept a_m_refused a_m_months a_m_heirs a_m_lasts a_m_cares a_m_bestCares a_m_ones a_m_others a_m_bytes a_m_anew a_m_values cI cB cZ cP cC above below retired manyLine bytesLong tokenAt tokenLong token value told refused months) H → va_D A (ww_X10_month a_m a_m_told a_m_kept a_m_isKept a_m_refused a_m_months a_m_heirs a_m_lasts a_m_cares a_m_bestCares a_m_ones a_m_others a_m_bytes a_m_anew a_m_values cI cB cZ cP cC above below retired manyLine bytesLong tokenAt tokenLong token value told refused months) → va_S A s.heap H locs → lv_has ls 3 [(0, .ref a_m)] → wp_X10_month_J121 Post  s0 s1 retired told refused months → W p l e rm_X10_month s m ar bl meth c H locs 0 0 (MQ bl (qq_X10_month D a_m a_m_told a_m_kept a_m_isKept a_m_refused a_m_months a_m_heirs a_m_lasts a_m_cares a_m_bestCares a_m_ones a_m_others a_m_bytes a_m_anew a_m_values cI cB cZ cP cC above below manyLine bytesLong tokenAt tokenLong token value Post A) ar s 0 0 A) (F0 m 121 ls [.int s0, .int s1, .ref a_m_told]) := by
  obtain ⟨hx, hb, hr, hlocks, hml, hown, hts, hK, hA⟩ := id C0
  intro s0 s1 retired told refused months H locs ls hP hD hS hl hw
  obtain ⟨h_29, hw⟩ := hw
  obtain ⟨f_30, ef_30⟩ : ∃ y : Nat → Int32, y = upd told s1.toNatClampNeg s0 := ⟨_, rfl⟩
  replace hw := hw f_30 ef_30
  refine mx_iast hx hb hK hP hD hS 1 0 rfl rfl h_29 f_30 ef_30 (ww_X10_month a_m a_m_told a_m_kept a_m_isKept a_m_refused a_m_months a_m_heirs a_m_lasts a_m_cares a_m_bestCares a_m_ones a_m_others a_m_bytes a_m_anew a_m_values cI cB cZ cP cC above below retired manyLine bytesLong tokenAt tokenLong token value f_30 refused months) rfl dX10_month_121 (fun H locs hP hD hS => ?_)
  refine lv_aload_n hx hb dX10_month_122 rfl (lv_at hl 0 rfl) ?_
  refine mx_ki (mx_rV (rm := rm_X10_reigns) (rest := []) (C := RX10) hx hb hml hown hts (c_X10_reigns l D cI cB cZ cP cC a_m a_m_told a_m_kept a_m_isKept a_m_refused a_m_months a_m_heirs a_m_lasts a_m_cares a_m_bestCares a_m_ones a_m_others a_m_bytes a_m_anew a_m_values above below retired manyLine bytesLong tokenAt tokenLong token value f_30 months _ _ hw) q_455 q_456 q_457 q_5 q_458 hd_X10_reigns ⟨(Nat.le_of_ble_eq_true rfl), (Nat.le_of_ble_eq_true rfl)⟩ rfl rfl hK hP hD [0, 1, 3] rfl rfl 10 0 rfl rfl rfl rfl hl.1 rfl (Nat.le_of_ble_eq_true rfl) dX10_month_123 ⟨(Nat.le_of_ble_eq_true rfl), (Nat.le_of_ble_eq_true rfl)⟩) hP hD hS hA [0, 1, 3] [2] [1, 2, 0, 3] (fun _ => ww_X10_month a_m a_m_told a_m_kept a_m_isKept a_m_refused a_m_months a_m_heirs a_m_lasts a_m_cares a_m_bestCares a_m_ones a_m_others a_m_bytes a_m_anew a_m_values cI cB cZ cP cC above below retired manyLine bytesLong tokenAt tokenLong token value f_30 refused months) rfl rfl rfl (by decide) rfl (fun _ => rfl) (fun r_31 u H locs hw hP hD hS => ?_)
  try dsimp only at hw
  replace hP : va_P D vwCl (ww_X10_month a_m a_m_told a_m_kept a_m_isKept a_m_refused a_m_months a_m_heirs a_m_lasts a_m_cares a_m_bestCares a_m_ones a_m_others a_m_bytes a_m_anew a_m_values cI cB cZ cP cC above below retired manyLine bytesLong tokenAt tokenLong token value f_30 refused months) H := hP
  replace hD : va_D A (ww_X10_month a_m a_m_told a_m_kept a_m_isKept a_m_refused a_m_months a_m_heirs a_m_lasts a_m_cares a_m_bestCares a_m_ones a_m_others a_m_bytes a_m_anew a_m_values cI cB cZ cP cC above below retired manyLine bytesLong tokenAt tokenLong token value f_30 refused months) := hD
  exact mx_iret (retired, f_30, refused, months) hx hb hr hlocks rfl hw hK hP hD hS dX10_month_126
def wp_X10_month (retired : Int32) (told : Nat → Int32) (refused : Nat → Int32) (months : Nat → Int32) (v1 : Int32) (Post : Int32 → Int32 → (Nat → Int32) → (Nat → Int32) → (Nat → Int32) → Prop) : Prop :=
  (wp_X10_in (v1.toInt64) 1 60 (fun r_1 => ((r_1 = 0 → (wp_X10_bad refused (-2) (fun r_34 refused_35 => Post r_34 retired told refused_35 months))) ∧ (¬ r_1 = 0 → (wp_X10_keep told (fun told_3 => (wp_X10_layHand told_3 retired months (fun retired_4 months_5 => (∃ k_33 : Nat, wp_X10_month_L29 Post (fun (v1_10 : Int32) (retired_11 : Int32) (told_12 : Nat → Int32) (refused_13 : Nat → Int32) (months_14 : Nat → Int32) => (∃ k_32 : Nat, wp_X10_month_L46 Post (fun (v1_22 : Int32) (retired_23 : Int32) (told_24 : Nat → Int32) (refused_25 : Nat → Int32) (months_26 : Nat → Int32) => (∀ f_27 : Nat → Int32, f_27 = upd told_24 10 retired_23 → ((((f_27 17) + v1_22) ≤ 999 → (wp_X10_month_J121 Post ((f_27 17) + v1_22) 17 retired_23 f_27 refused_25 months_26)) ∧ (¬ ((f_27 17) + v1_22) ≤ 999 → (wp_X10_month_J121 Post 999 17 retired_23 f_27 refused_25 months_26))))) k_32 v1_10 0 retired_11 told_12 refused_13 months_14)) k_33 v1 0 retired_4 told_3 refused months_5)))))))))
set_option maxHeartbeats 4000000 in
set_option maxRecDepth 100000 in
theorem c_X10_month (l : Launch) (D : va_G) (cI cB cZ cP cC : ClassId) (a_m a_m_told a_m_kept a_m_isKept a_m_refused a_m_months a_m_heirs a_m_lasts a_m_cares a_m_bestCares a_m_ones a_m_others a_m_bytes a_m_anew a_m_values : Nat) (above : Int64) (below : Int64) (retired : Int32) (manyLine : Int32) (bytesLong : Int32) (tokenAt : Int32) (tokenLong : Int32) (token : Int32) (value : Int32) (told : Nat → Int32) (refused : Nat → Int32) (months : Nat → Int32) (v1 : Int32) (sz : Nat) (Post : Int32 → Int32 → (Nat → Int32) → (Nat → Int32) → (Nat → Int32) → Prop) (hw : wp_X10_month retired told refused months v1 Post) :
    Met l yX10_month (Cond.code yX10_month cX10_month 3 (some .int) :: wsAll) rm_X10_month (va_Pc [.ref a_m, .int v1] (mxP D (mxTy cI cB cZ cP cC) sz (ww_X10_month a_m a_m_told a_m_kept a_m_isKept a_m_refused a_m_months a_m_heirs a_m_lasts a_m_cares a_m_bestCares a_m_ones a_m_others a_m_bytes a_m_anew a_m_values cI cB cZ cP cC above below retired manyLine bytesLong tokenAt tokenLong token value told refused months))) (qq_X10_month D a_m a_m_told a_m_kept a_m_isKept a_m_refused a_m_months a_m_heirs a_m_lasts a_m_cares a_m_bestCares a_m_ones a_m_others a_m_bytes a_m_anew a_m_values cI cB cZ cP cC above below manyLine bytesLong tokenAt tokenLong token value Post (va_A (ww_X10_month a_m a_m_told a_m_kept a_m_isKept a_m_refused a_m_months a_m_heirs a_m_lasts a_m_cares a_m_bestCares a_m_ones a_m_others a_m_bytes a_m_anew a_m_values cI cB cZ cP cC above below retired manyLine bytesLong tokenAt tokenLong token value told refused months) sz)) 0 0 (va_A (ww_X10_month a_m a_m_told a_m_kept a_m_isKept a_m_refused a_m_months a_m_heirs a_m_lasts a_m_cares a_m_bestCares a_m_ones a_m_others a_m_bytes a_m_anew a_m_values cI cB cZ cP cC above below retired manyLine bytesLong tokenAt tokenLong token value told refused months) sz) := by
  refine mx_of (Qc := qq_X10_month D a_m a_m_told a_m_kept a_m_isKept a_m_refused a_m_months a_m_heirs a_m_lasts a_m_cares a_m_bestCares a_m_ones a_m_others a_m_bytes a_m_anew a_m_values cI cB cZ cP cC above below manyLine bytesLong tokenAt tokenLong token value Post) (by decide) (Nat.le_of_ble_eq_true rfl) ?_
  intro p e s m bl meth c A ls C0 hP hD hS hl
  replace C0 : mxC p s m [.ref a_m, .int v1].toArray meth c cX10_month RX10 (some .int) 3 D (mxTy cI cB cZ cP cC) A := C0
  obtain ⟨hx, hb, hr, hlocks, hml, hown, hts, hK, hA⟩ := id C0
  replace hl : lv_has ls 3 [(0, .ref a_m), (1, .int v1)] := hl
  unfold wp_X10_month at hw
  refine lv_iload_n hx hb dX10_month_0 rfl (lv_at hl 1 rfl) ?_
  refine lv_i2l (v := v1.toInt64) hx hb dX10_month_1 rfl ?_
  refine lv_lconst (v := 1) hx hb dX10_month_2 rfl ?_
  refine lv_ldc2 (v := 60) hx hb hown (hts _ q_431) dX10_month_3 ?_
  refine mx_ki (mx_rS (rm := rm_X10_in) (rest := []) hx hb hml hown hts (c_X10_in l D cI cB cZ cP cC (v1.toInt64) 1 60 _ _ hw) q_163 q_164 q_5 q_165 hd_X10_in ⟨(Nat.le_of_ble_eq_true rfl), (Nat.le_of_ble_eq_true rfl)⟩ rfl rfl hK hP hD [] rfl rfl rfl hl.1 rfl (Nat.le_of_ble_eq_true rfl) dX10_month_6 ⟨(Nat.le_of_ble_eq_true rfl), (Nat.le_of_ble_eq_true rfl)⟩) hP hD hS hA [] [0, 1, 2, 3] [0, 1, 2, 3] (fun _ => ww_X10_month a_m a_m_told a_m_kept a_m_isKept a_m_refused a_m_months a_m_heirs a_m_lasts a_m_cares a_m_bestCares a_m_ones a_m_others a_m_bytes a_m_anew a_m_values cI cB cZ cP cC above below retired manyLine bytesLong tokenAt tokenLong token value told refused months) rfl rfl rfl (by decide) rfl (fun _ => rfl) (fun r_1 u H locs hw hP hD hS => ?_)
  try dsimp only at hw
  replace hP : va_P D vwCl (ww_X10_month a_m a_m_told a_m_kept a_m_isKept a_m_refused a_m_months a_m_heirs a_m_lasts a_m_cares a_m_bestCares a_m_ones a_m_others a_m_bytes a_m_anew a_m_values cI cB cZ cP cC above below retired manyLine bytesLong tokenAt tokenLong token value told refused months) H := hP
  replace hD : va_D A (ww_X10_month a_m a_m_told a_m_kept a_m_isKept a_m_refused a_m_months a_m_heirs a_m_lasts a_m_cares a_m_bestCares a_m_ones a_m_others a_m_bytes a_m_anew a_m_values cI cB cZ cP cC above below retired manyLine bytesLong tokenAt tokenLong token value told refused months) := hD
  refine lv_if_ne (tgt := 19) hx hb dX10_month_9 (by decide) (fun c_2 => ?_) (fun c_2 => ?_)
  · replace hw := hw.2 c_2
    refine lv_aload_n hx hb dX10_month_19 rfl (lv_at hl 0 rfl) ?_
    refine mx_kv (mx_rV (rm := rm_X10_keep) (rest := []) (C := RX10) hx hb hml hown hts (c_X10_keep l D cI cB cZ cP cC a_m a_m_told a_m_kept a_m_isKept a_m_refused a_m_months a_m_heirs a_m_lasts a_m_cares a_m_bestCares a_m_ones a_m_others a_m_bytes a_m_anew a_m_values above below retired manyLine bytesLong tokenAt tokenLong token value told _ _ hw) q_433 q_434 q_435 q_5 q_436 hd_X10_keep ⟨(Nat.le_of_ble_eq_true rfl), (Nat.le_of_ble_eq_true rfl)⟩ rfl rfl hK hP hD [0, 1] rfl rfl 10 0 rfl rfl rfl rfl hl.1 rfl (Nat.le_of_ble_eq_true rfl) dX10_month_20 ⟨(Nat.le_of_ble_eq_true rfl), (Nat.le_of_ble_eq_true rfl)⟩) hP hD hS hA [0, 1] [2, 3] [2, 3, 0, 1] (fun u => ww_X10_month a_m a_m_told a_m_kept a_m_isKept a_m_refused a_m_months a_m_heirs a_m_lasts a_m_cares a_m_bestCares a_m_ones a_m_others a_m_bytes a_m_anew a_m_values cI cB cZ cP cC above below retired manyLine bytesLong tokenAt tokenLong token value u refused months) rfl rfl rfl (by decide) rfl (fun _ => rfl) (fun told_3 H locs hw hP hD hS => ?_)
    try dsimp only at hw
    replace hP : va_P D vwCl (ww_X10_month a_m a_m_told a_m_kept a_m_isKept a_m_refused a_m_months a_m_heirs a_m_lasts a_m_cares a_m_bestCares a_m_ones a_m_others a_m_bytes a_m_anew a_m_values cI cB cZ cP cC above below retired manyLine bytesLong tokenAt tokenLong token value told_3 refused months) H := hP
    replace hD : va_D A (ww_X10_month a_m a_m_told a_m_kept a_m_isKept a_m_refused a_m_months a_m_heirs a_m_lasts a_m_cares a_m_bestCares a_m_ones a_m_others a_m_bytes a_m_anew a_m_values cI cB cZ cP cC above below retired manyLine bytesLong tokenAt tokenLong token value told_3 refused months) := hD
    refine lv_aload_n hx hb dX10_month_23 rfl (lv_at hl 0 rfl) ?_
    refine mx_kv (mx_rV (rm := rm_X10_layHand) (rest := []) (C := RX10) hx hb hml hown hts (c_X10_layHand l D cI cB cZ cP cC a_m a_m_told a_m_kept a_m_isKept a_m_refused a_m_months a_m_heirs a_m_lasts a_m_cares a_m_bestCares a_m_ones a_m_others a_m_bytes a_m_anew a_m_values above below retired manyLine bytesLong tokenAt tokenLong token value told_3 months _ _ hw) q_437 q_438 q_439 q_5 q_440 hd_X10_layHand ⟨(Nat.le_of_ble_eq_true rfl), (Nat.le_of_ble_eq_true rfl)⟩ rfl rfl hK hP hD [0, 1, 3] rfl rfl 10 0 rfl rfl rfl rfl hl.1 rfl (Nat.le_of_ble_eq_true rfl) dX10_month_24 ⟨(Nat.le_of_ble_eq_true rfl), (Nat.le_of_ble_eq_true rfl)⟩) hP hD hS hA [0, 1, 3] [2] [1, 2, 0, 3] (fun u => ww_X10_month a_m a_m_told a_m_kept a_m_isKept a_m_refused a_m_months a_m_heirs a_m_lasts a_m_cares a_m_bestCares a_m_ones a_m_others a_m_bytes a_m_anew a_m_values cI cB cZ cP cC above below (u.1) manyLine bytesLong tokenAt tokenLong token value told_3 refused (u.2)) rfl rfl rfl (by decide) rfl (fun _ => rfl) (fun u H locs hw hP hD hS => ?_)
    obtain ⟨retired_4, months_5⟩ := u
    try dsimp only at hw
    replace hP : va_P D vwCl (ww_X10_month a_m a_m_told a_m_kept a_m_isKept a_m_refused a_m_months a_m_heirs a_m_lasts a_m_cares a_m_bestCares a_m_ones a_m_others a_m_bytes a_m_anew a_m_values cI cB cZ cP cC above below retired_4 manyLine bytesLong tokenAt tokenLong token value told_3 refused months_5) H := hP
    replace hD : va_D A (ww_X10_month a_m a_m_told a_m_kept a_m_isKept a_m_refused a_m_months a_m_heirs a_m_lasts a_m_cares a_m_bestCares a_m_ones a_m_others a_m_bytes a_m_anew a_m_values cI cB cZ cP cC above below retired_4 manyLine bytesLong tokenAt tokenLong token value told_3 refused months_5) := hD
    refine lv_iconst (v := 0) hx hb dX10_month_27 (by decide) ?_
    refine lv_istore_n (lv' := [(2, .int 0), (0, .ref a_m), (1, .int v1)]) hx hb dX10_month_28 rfl hl (by decide) rfl (fun ls hl => ?_)
    obtain ⟨n0, hw⟩ := hw
    refine k_X10_month_L29 C0 ?_ n0 v1 0 retired_4 told_3 refused months_5 _ _ _ hP hD hS (lv_sub hl [1, 2, 0] rfl) hw
    intro v1_10 retired_11 told_12 refused_13 months_14 H locs ls hP hD hS hl hw
    refine lv_iconst (v := 0) hx hb dX10_month_44 (by decide) ?_
    refine lv_istore_n (lv' := [(2, .int 0), (0, .ref a_m), (1, .int v1_10)]) hx hb dX10_month_45 rfl hl (by decide) rfl (fun ls hl => ?_)
    obtain ⟨n0, hw⟩ := hw
    refine k_X10_month_L46 C0 ?_ n0 v1_10 0 retired_11 told_12 refused_13 months_14 _ _ _ hP hD hS (lv_sub hl [1, 2, 0] rfl) hw
    intro v1_22 retired_23 told_24 refused_25 months_26 H locs ls hP hD hS hl hw
    refine lv_aload_n hx hb dX10_month_74 rfl (lv_at hl 0 rfl) ?_
    refine mx_get (ci := 10) (C := RX10) (T := TX10) (N := 23) hx hb hown in_wsX100 hts hK hP 0 rfl rfl 0 (by decide) q_91 rfl (v := .ref a_m_told) rfl dX10_month_75 ?_
    refine lv_bipush (v := 10) hx hb dX10_month_78 (by decide) ?_
    refine lv_aload_n hx hb dX10_month_80 rfl (lv_at hl 0 rfl) ?_
    refine mx_get (ci := 10) (C := RX10) (T := TX10) (N := 23) hx hb hown in_wsX100 hts hK hP 0 rfl rfl 7 (by decide) q_432 rfl (v := .int retired_23) rfl dX10_month_81 ?_
    obtain ⟨f_27, ef_27⟩ : ∃ y : Nat → Int32, y = upd told_24 10 retired_23 := ⟨_, rfl⟩
    replace hw := hw f_27 ef_27
    refine mx_iast hx hb hK hP hD hS 1 0 rfl rfl (mx_lit rfl) f_27 ef_27 (ww_X10_month a_m a_m_told a_m_kept a_m_isKept a_m_refused a_m_months a_m_heirs a_m_lasts a_m_cares a_m_bestCares a_m_ones a_m_others a_m_bytes a_m_anew a_m_values cI cB cZ cP cC above below retired_23 manyLine bytesLong tokenAt tokenLong token value f_27 refused_25 months_26) rfl dX10_month_84 (fun H locs hP hD hS => ?_)
    refine lv_aload_n hx hb dX10_month_85 rfl (lv_at hl 0 rfl) ?_
    refine mx_get (ci := 10) (C := RX10) (T := TX10) (N := 23) hx hb hown in_wsX100 hts hK hP 0 rfl rfl 0 (by decide) q_91 rfl (v := .ref a_m_told) rfl dX10_month_86 ?_
    refine lv_bipush (v := 17) hx hb dX10_month_89 (by decide) ?_
    refine lv_aload_n hx hb dX10_month_91 rfl (lv_at hl 0 rfl) ?_
    refine mx_get (ci := 10) (C := RX10) (T := TX10) (N := 23) hx hb hown in_wsX100 hts hK hP 0 rfl rfl 0 (by decide) q_91 rfl (v := .ref a_m_told) rfl dX10_month_92 ?_
    refine lv_bipush (v := 17) hx hb dX10_month_95 (by decide) ?_
    refine mx_iald hx hb hK hP 1 0 rfl rfl (mx_lit rfl) (f_27 17) rfl dX10_month_97 ?_
    refine lv_iload_n hx hb dX10_month_98 rfl (lv_at hl 1 rfl) ?_
    refine lv_iadd hx hb dX10_month_99 ?_
    refine lv_sipush (v := 999) hx hb dX10_month_100 (by decide) ?_
    refine lv_icmp_le (tgt := 112) hx hb dX10_month_103 (by decide) (fun c_28 => ?_) (fun c_28 => ?_)
    · replace hw := hw.1 c_28
      refine lv_aload_n hx hb dX10_month_112 rfl (lv_at hl 0 rfl) ?_
      refine mx_get (ci := 10) (C := RX10) (T := TX10) (N := 23) hx hb hown in_wsX100 hts hK hP 0 rfl rfl 0 (by decide) q_91 rfl (v := .ref a_m_told) rfl dX10_month_113 ?_
      refine lv_bipush (v := 17) hx hb dX10_month_116 (by decide) ?_
      refine mx_iald hx hb hK hP 1 0 rfl rfl (mx_lit rfl) (f_27 17) rfl dX10_month_118 ?_
      refine lv_iload_n hx hb dX10_month_119 rfl (lv_at hl 1 rfl) ?_
      refine lv_iadd hx hb dX10_month_120 ?_
      exact k_X10_month_J121 C0  ((f_27 17) + v1_22) 17 retired_23 f_27 refused_25 months_26 _ _ _ hP hD hS (lv_sub hl [0] rfl) hw
    · replace hw := hw.2 c_28
      refine lv_sipush (v := 999) hx hb dX10_month_106 (by decide) ?_
      refine lv_goto (tgt := 121) hx hb dX10_month_109 (by decide) ?_
      exact k_X10_month_J121 C0  999 17 retired_23 f_27 refused_25 months_26 _ _ _ hP hD hS (lv_sub hl [0] rfl) hw
  · replace hw := hw.1 c_2
    refine lv_aload_n hx hb dX10_month_12 rfl (lv_at hl 0 rfl) ?_
    refine lv_bipush (v := (-2)) hx hb dX10_month_13 (by decide) ?_
    refine mx_ki (mx_rV (rm := rm_X10_bad) (rest := []) (C := RX10) hx hb hml hown hts (c_X10_bad l D cI cB cZ cP cC a_m a_m_told a_m_kept a_m_isKept a_m_refused a_m_months a_m_heirs a_m_lasts a_m_cares a_m_bestCares a_m_ones a_m_others a_m_bytes a_m_anew a_m_values above below retired manyLine bytesLong tokenAt tokenLong token value refused (-2) _ _ hw) q_166 q_167 q_168 q_5 q_169 hd_X10_bad ⟨(Nat.le_of_ble_eq_true rfl), (Nat.le_of_ble_eq_true rfl)⟩ rfl rfl hK hP hD [0, 2] rfl rfl 10 0 rfl rfl rfl rfl hl.1 rfl (Nat.le_of_ble_eq_true rfl) dX10_month_15 ⟨(Nat.le_of_ble_eq_true rfl), (Nat.le_of_ble_eq_true rfl)⟩) hP hD hS hA [0, 2] [1, 3] [2, 0, 3, 1] (fun u => ww_X10_month a_m a_m_told a_m_kept a_m_isKept a_m_refused a_m_months a_m_heirs a_m_lasts a_m_cares a_m_bestCares a_m_ones a_m_others a_m_bytes a_m_anew a_m_values cI cB cZ cP cC above below retired manyLine bytesLong tokenAt tokenLong token value told u months) rfl rfl rfl (by decide) rfl (fun _ => rfl) (fun r_34 refused_35 H locs hw hP hD hS => ?_)
    try dsimp only at hw
    replace hP : va_P D vwCl (ww_X10_month a_m a_m_told a_m_kept a_m_isKept a_m_refused a_m_months a_m_heirs a_m_lasts a_m_cares a_m_bestCares a_m_ones a_m_others a_m_bytes a_m_anew a_m_values cI cB cZ cP cC above below retired manyLine bytesLong tokenAt tokenLong token value told refused_35 months) H := hP
    replace hD : va_D A (ww_X10_month a_m a_m_told a_m_kept a_m_isKept a_m_refused a_m_months a_m_heirs a_m_lasts a_m_cares a_m_bestCares a_m_ones a_m_others a_m_bytes a_m_anew a_m_values cI cB cZ cP cC above below retired manyLine bytesLong tokenAt tokenLong token value told refused_35 months) := hD
    exact mx_iret (retired, told, refused_35, months) hx hb hr hlocks rfl hw hK hP hD hS dX10_month_18
/-! PramStateModel.nurse(II)I -/
abbrev ww_X10_nurse (a_m a_m_told a_m_kept a_m_isKept a_m_refused a_m_months a_m_heirs a_m_lasts a_m_cares a_m_bestCares a_m_ones a_m_others a_m_bytes a_m_anew a_m_values : Nat) (cI cB cZ cP cC : ClassId) (above : Int64) (below : Int64) (retired : Int32) (manyLine : Int32) (bytesLong : Int32) (tokenAt : Int32) (tokenLong : Int32) (token : Int32) (value : Int32) (told : Nat → Int32) (refused : Nat → Int32) : va_W := [(a_m, .inr (10, [.ref a_m_told, .ref a_m_kept, .ref a_m_isKept, .ref a_m_refused, .long above, .long below, .ref a_m_months, .int retired, .ref a_m_heirs, .ref a_m_lasts, .int manyLine, .ref a_m_cares, .ref a_m_bestCares, .ref a_m_ones, .ref a_m_others, .ref a_m_bytes, .int bytesLong, .int tokenAt, .int tokenLong, .int token, .int value, .ref a_m_anew, .ref a_m_values])), (a_m_told, .inl (cI, 190, .inl told)), (a_m_refused, .inl (cI, 3, .inl refused))]
abbrev qq_X10_nurse (D : va_G) (a_m a_m_told a_m_kept a_m_isKept a_m_refused a_m_months a_m_heirs a_m_lasts a_m_cares a_m_bestCares a_m_ones a_m_others a_m_bytes a_m_anew a_m_values : Nat) (cI cB cZ cP cC : ClassId) (above : Int64) (below : Int64) (retired : Int32) (manyLine : Int32) (bytesLong : Int32) (tokenAt : Int32) (tokenLong : Int32) (token : Int32) (value : Int32) (Post : Int32 → (Nat → Int32) → (Nat → Int32) → Prop) (A : Nat → Prop) : Array Value → State → Outcome → State → Prop := va_Qi (fun (r : Int32) (u : (Nat → Int32) × (Nat → Int32)) => Post r u.1 u.2) (fun (u : (Nat → Int32) × (Nat → Int32)) t => mxB D (mxTy cI cB cZ cP cC) A (ww_X10_nurse a_m a_m_told a_m_kept a_m_isKept a_m_refused a_m_months a_m_heirs a_m_lasts a_m_cares a_m_bestCares a_m_ones a_m_others a_m_bytes a_m_anew a_m_values cI cB cZ cP cC above below retired manyLine bytesLong tokenAt tokenLong token value (u.1) (u.2)) t) A
abbrev rm_X10_nurse : Room := { frames := 2, cells := 0, slots := 0, locals := 46 }
theorem hd_X10_nurse : yX10_nurse.cls = RX10 ∧ yX10_nurse.cls ≠ "java/lang/invoke/MethodHandle" ∧ yX10_nurse.cls ≠ "java/lang/invoke/VarHandle" ∧ (parseMethodDescriptor yX10_nurse.desc).map (fun d => d.parameters.length) = some 2 := by decide +kernel
def wp_X10_nurse_J15  (Post : Int32 → (Nat → Int32) → (Nat → Int32) → Prop)  (told : Nat → Int32) (refused : Nat → Int32) : Prop :=
  (wp_X10_bad refused (-2) (fun r_3 refused_4 => Post r_3 told refused_4))
set_option maxHeartbeats 4000000 in
set_option maxRecDepth 100000 in
theorem k_X10_nurse_J15 {p : Program} {l : Launch} {e : Env} {s : State} {m : MethodId} {ar : Array Value} {bl : List Frame} {meth : Method} {c : Code} {D : va_G} {A : Nat → Prop} {cI cB cZ cP cC : ClassId} {a_m a_m_told a_m_kept a_m_isKept a_m_refused a_m_months a_m_heirs a_m_lasts a_m_cares a_m_bestCares a_m_ones a_m_others a_m_bytes a_m_anew a_m_values : Nat} {above : Int64} {below : Int64} {retired : Int32} {manyLine : Int32} {bytesLong : Int32} {tokenAt : Int32} {tokenLong : Int32} {token : Int32} {value : Int32} {Post : Int32 → (Nat → Int32) → (Nat → Int32) → Prop} (C0 : mxC p s m ar meth c cX10_nurse RX10 (some .int) 4 D (mxTy cI cB cZ cP cC) A) :
    ∀ (told : Nat → Int32) (refused : Nat → Int32) (H : Heap) (locs : List Loc) (ls : Array Slot), va_P D vwCl (ww_X10_nurse a_m a_m_told a_m_kept a_m_isKept a_m_refused a_m_months a_m_heirs a_m_lasts a_m_cares a_m_bestCares a_m_ones a_m_others a_m_bytes a_m_anew a_m_values cI cB cZ cP cC above below retired manyLine bytesLong tokenAt tokenLong token value told refused) H → va_D A (ww_X10_nurse a_m a_m_told a_m_kept a_m_isKept a_m_refused a_m_months a_m_heirs a_m_lasts a_m_cares a_m_bestCares a_m_ones a_m_others a_m_bytes a_m_anew a_m_values cI cB cZ cP cC above below retired manyLine bytesLong tokenAt tokenLong token value told refused) → va_S A s.heap H locs → lv_has ls 4 [(0, .ref a_m)] → wp_X10_nurse_J15 Post  told refused → W p l e rm_X10_nurse s m ar bl meth c H locs 0 0 (MQ bl (qq_X10_nurse D a_m a_m_told a_m_kept a_m_isKept a_m_refused a_m_months a_m_heirs a_m_lasts a_m_cares a_m_bestCares a_m_ones a_m_others a_m_bytes a_m_anew a_m_values cI cB cZ cP cC above below retired manyLine bytesLong tokenAt tokenLong token value Post A) ar s 0 0 A) (F0 m 15 ls []) := by
  obtain ⟨hx, hb, hr, hlocks, hml, hown, hts, hK, hA⟩ := id C0
  intro told refused H locs ls hP hD hS hl hw
  refine lv_aload_n hx hb dX10_nurse_15 rfl (lv_at hl 0 rfl) ?_
  refine lv_bipush (v := (-2)) hx hb dX10_nurse_16 (by decide) ?_
  refine mx_ki (mx_rV (rm := rm_X10_bad) (rest := []) (C := RX10) hx hb hml hown hts (c_X10_bad l D cI cB cZ cP cC a_m a_m_told a_m_kept a_m_isKept a_m_refused a_m_months a_m_heirs a_m_lasts a_m_cares a_m_bestCares a_m_ones a_m_others a_m_bytes a_m_anew a_m_values above below retired manyLine bytesLong tokenAt tokenLong token value refused (-2) _ _ hw) q_166 q_167 q_168 q_5 q_169 hd_X10_bad ⟨(Nat.le_of_ble_eq_true rfl), (Nat.le_of_ble_eq_true rfl)⟩ rfl rfl hK hP hD [0, 2] rfl rfl 10 0 rfl rfl rfl rfl hl.1 rfl (Nat.le_of_ble_eq_true rfl) dX10_nurse_18 ⟨(Nat.le_of_ble_eq_true rfl), (Nat.le_of_ble_eq_true rfl)⟩) hP hD hS hA [0, 2] [1] [1, 0, 2] (fun u => ww_X10_nurse a_m a_m_told a_m_kept a_m_isKept a_m_refused a_m_months a_m_heirs a_m_lasts a_m_cares a_m_bestCares a_m_ones a_m_others a_m_bytes a_m_anew a_m_values cI cB cZ cP cC above below retired manyLine bytesLong tokenAt tokenLong token value told u) rfl rfl rfl (by decide) rfl (fun _ => rfl) (fun r_3 refused_4 H locs hw hP hD hS => ?_)
  try dsimp only at hw
  replace hP : va_P D vwCl (ww_X10_nurse a_m a_m_told a_m_kept a_m_isKept a_m_refused a_m_months a_m_heirs a_m_lasts a_m_cares a_m_bestCares a_m_ones a_m_others a_m_bytes a_m_anew a_m_values cI cB cZ cP cC above below retired manyLine bytesLong tokenAt tokenLong token value told refused_4) H := hP
  replace hD : va_D A (ww_X10_nurse a_m a_m_told a_m_kept a_m_isKept a_m_refused a_m_months a_m_heirs a_m_lasts a_m_cares a_m_bestCares a_m_ones a_m_others a_m_bytes a_m_anew a_m_values cI cB cZ cP cC above below retired manyLine bytesLong tokenAt tokenLong token value told refused_4) := hD
  exact mx_iret (told, refused_4) hx hb hr hlocks rfl hw hK hP hD hS dX10_nurse_21
def wp_X10_nurse (told : Nat → Int32) (refused : Nat → Int32) (v1 : Int32) (v2 : Int32) (Post : Int32 → (Nat → Int32) → (Nat → Int32) → Prop) : Prop :=
  (wp_X10_isInfant told v1 (fun r_1 => ((r_1 = 0 → (wp_X10_nurse_J15 Post told refused)) ∧ (¬ r_1 = 0 → (wp_X10_isNurse v2 (fun r_5 => ((r_5 = 0 → (wp_X10_nurse_J15 Post told refused)) ∧ (¬ r_5 = 0 → (vp_in (11 + v1) 190 ∧ (∀ x_8 : Int32, x_8 = told (11 + v1).toNatClampNeg → (wp_X10_keep told (fun told_9 => (∀ f_10 : Nat → Int32, f_10 = upd told_9 (11 + v1).toNatClampNeg v2 → Post x_8 f_10 refused)))))))))))))
set_option maxHeartbeats 4000000 in
set_option maxRecDepth 100000 in
theorem c_X10_nurse (l : Launch) (D : va_G) (cI cB cZ cP cC : ClassId) (a_m a_m_told a_m_kept a_m_isKept a_m_refused a_m_months a_m_heirs a_m_lasts a_m_cares a_m_bestCares a_m_ones a_m_others a_m_bytes a_m_anew a_m_values : Nat) (above : Int64) (below : Int64) (retired : Int32) (manyLine : Int32) (bytesLong : Int32) (tokenAt : Int32) (tokenLong : Int32) (token : Int32) (value : Int32) (told : Nat → Int32) (refused : Nat → Int32) (v1 : Int32) (v2 : Int32) (sz : Nat) (Post : Int32 → (Nat → Int32) → (Nat → Int32) → Prop) (hw : wp_X10_nurse told refused v1 v2 Post) :
    Met l yX10_nurse (Cond.code yX10_nurse cX10_nurse 4 (some .int) :: wsAll) rm_X10_nurse (va_Pc [.ref a_m, .int v1, .int v2] (mxP D (mxTy cI cB cZ cP cC) sz (ww_X10_nurse a_m a_m_told a_m_kept a_m_isKept a_m_refused a_m_months a_m_heirs a_m_lasts a_m_cares a_m_bestCares a_m_ones a_m_others a_m_bytes a_m_anew a_m_values cI cB cZ cP cC above below retired manyLine bytesLong tokenAt tokenLong token value told refused))) (qq_X10_nurse D a_m a_m_told a_m_kept a_m_isKept a_m_refused a_m_months a_m_heirs a_m_lasts a_m_cares a_m_bestCares a_m_ones a_m_others a_m_bytes a_m_anew a_m_values cI cB cZ cP cC above below retired manyLine bytesLong tokenAt tokenLong token value Post (va_A (ww_X10_nurse a_m a_m_told a_m_kept a_m_isKept a_m_refused a_m_months a_m_heirs a_m_lasts a_m_cares a_m_bestCares a_m_ones a_m_others a_m_bytes a_m_anew a_m_values cI cB cZ cP cC above below retired manyLine bytesLong tokenAt tokenLong token value told refused) sz)) 0 0 (va_A (ww_X10_nurse a_m a_m_told a_m_kept a_m_isKept a_m_refused a_m_months a_m_heirs a_m_lasts a_m_cares a_m_bestCares a_m_ones a_m_others a_m_bytes a_m_anew a_m_values cI cB cZ cP cC above below retired manyLine bytesLong tokenAt tokenLong token value told refused) sz) := by
  refine mx_of (Qc := qq_X10_nurse D a_m a_m_told a_m_kept a_m_isKept a_m_refused a_m_months a_m_heirs a_m_lasts a_m_cares a_m_bestCares a_m_ones a_m_others a_m_bytes a_m_anew a_m_values cI cB cZ cP cC above below retired manyLine bytesLong tokenAt tokenLong token value Post) (by decide) (Nat.le_of_ble_eq_true rfl) ?_
  intro p e s m bl meth c A ls C0 hP hD hS hl
  replace C0 : mxC p s m [.ref a_m, .int v1, .int v2].toArray meth c cX10_nurse RX10 (some .int) 4 D (mxTy cI cB cZ cP cC) A := C0
  obtain ⟨hx, hb, hr, hlocks, hml, hown, hts, hK, hA⟩ := id C0
  replace hl : lv_has ls 4 [(0, .ref a_m), (1, .int v1), (2, .int v2)] := hl
  unfold wp_X10_nurse at hw
  refine lv_aload_n hx hb dX10_nurse_0 rfl (lv_at hl 0 rfl) ?_
  refine lv_iload_n hx hb dX10_nurse_1 rfl (lv_at hl 1 rfl) ?_
  refine mx_ki (mx_rV (rm := rm_X10_isInfant) (rest := []) (C := RX10) hx hb hml hown hts (c_X10_isInfant l D cI cB cZ cP cC a_m a_m_told a_m_kept a_m_isKept a_m_refused a_m_months a_m_heirs a_m_lasts a_m_cares a_m_bestCares a_m_ones a_m_others a_m_bytes a_m_anew a_m_values above below retired manyLine bytesLong tokenAt tokenLong token value told v1 _ _ hw) q_472 q_473 q_474 q_5 q_475 hd_X10_isInfant ⟨(Nat.le_of_ble_eq_true rfl), (Nat.le_of_ble_eq_true rfl)⟩ rfl rfl hK hP hD [0, 1] rfl rfl 10 0 rfl rfl rfl rfl hl.1 rfl (Nat.le_of_ble_eq_true rfl) dX10_nurse_2 ⟨(Nat.le_of_ble_eq_true rfl), (Nat.le_of_ble_eq_true rfl)⟩) hP hD hS hA [0, 1] [2] [1, 2, 0] (fun _ => ww_X10_nurse a_m a_m_told a_m_kept a_m_isKept a_m_refused a_m_months a_m_heirs a_m_lasts a_m_cares a_m_bestCares a_m_ones a_m_others a_m_bytes a_m_anew a_m_values cI cB cZ cP cC above below retired manyLine bytesLong tokenAt tokenLong token value told refused) rfl rfl rfl (by decide) rfl (fun _ => rfl) (fun r_1 u H locs hw hP hD hS => ?_)
  try dsimp only at hw
  replace hP : va_P D vwCl (ww_X10_nurse a_m a_m_told a_m_kept a_m_isKept a_m_refused a_m_months a_m_heirs a_m_lasts a_m_cares a_m_bestCares a_m_ones a_m_others a_m_bytes a_m_anew a_m_values cI cB cZ cP cC above below retired manyLine bytesLong tokenAt tokenLong token value told refused) H := hP
  replace hD : va_D A (ww_X10_nurse a_m a_m_told a_m_kept a_m_isKept a_m_refused a_m_months a_m_heirs a_m_lasts a_m_cares a_m_bestCares a_m_ones a_m_others a_m_bytes a_m_anew a_m_values cI cB cZ cP cC above below retired manyLine bytesLong tokenAt tokenLong token value told refused) := hD
  refine lv_if_eq (tgt := 15) hx hb dX10_nurse_5 (by decide) (fun c_2 => ?_) (fun c_2 => ?_)
  · replace hw := hw.1 c_2
    exact k_X10_nurse_J15 C0  told refused _ _ _ hP hD hS (lv_sub hl [0] rfl) hw
  · replace hw := hw.2 c_2
    refine lv_iload_n hx hb dX10_nurse_8 rfl (lv_at hl 2 rfl) ?_
    refine mx_ki (mx_rS (rm := rm_X10_isNurse) (rest := []) hx hb hml hown hts (c_X10_isNurse l D cI cB cZ cP cC v2 _ _ hw) q_191 q_192 q_5 q_193 hd_X10_isNurse ⟨(Nat.le_of_ble_eq_true rfl), (Nat.le_of_ble_eq_true rfl)⟩ rfl rfl hK hP hD [] rfl rfl rfl hl.1 rfl (Nat.le_of_ble_eq_true rfl) dX10_nurse_9 ⟨(Nat.le_of_ble_eq_true rfl), (Nat.le_of_ble_eq_true rfl)⟩) hP hD hS hA [] [0, 1, 2] [0, 1, 2] (fun _ => ww_X10_nurse a_m a_m_told a_m_kept a_m_isKept a_m_refused a_m_months a_m_heirs a_m_lasts a_m_cares a_m_bestCares a_m_ones a_m_others a_m_bytes a_m_anew a_m_values cI cB cZ cP cC above below retired manyLine bytesLong tokenAt tokenLong token value told refused) rfl rfl rfl (by decide) rfl (fun _ => rfl) (fun r_5 u H locs hw hP hD hS => ?_)
    try dsimp only at hw
    replace hP : va_P D vwCl (ww_X10_nurse a_m a_m_told a_m_kept a_m_isKept a_m_refused a_m_months a_m_heirs a_m_lasts a_m_cares a_m_bestCares a_m_ones a_m_others a_m_bytes a_m_anew a_m_values cI cB cZ cP cC above below retired manyLine bytesLong tokenAt tokenLong token value told refused) H := hP
    replace hD : va_D A (ww_X10_nurse a_m a_m_told a_m_kept a_m_isKept a_m_refused a_m_months a_m_heirs a_m_lasts a_m_cares a_m_bestCares a_m_ones a_m_others a_m_bytes a_m_anew a_m_values cI cB cZ cP cC above below retired manyLine bytesLong tokenAt tokenLong token value told refused) := hD
    refine lv_if_ne (tgt := 22) hx hb dX10_nurse_12 (by decide) (fun c_6 => ?_) (fun c_6 => ?_)
    · replace hw := hw.2 c_6
      refine lv_aload_n hx hb dX10_nurse_22 rfl (lv_at hl 0 rfl) ?_
      refine mx_get (ci := 10) (C := RX10) (T := TX10) (N := 23) hx hb hown in_wsX100 hts hK hP 0 rfl rfl 0 (by decide) q_91 rfl (v := .ref a_m_told) rfl dX10_nurse_23 ?_
      refine lv_bipush (v := 11) hx hb dX10_nurse_26 (by decide) ?_
      refine lv_iload_n hx hb dX10_nurse_28 rfl (lv_at hl 1 rfl) ?_
      refine lv_iadd hx hb dX10_nurse_29 ?_
      obtain ⟨h_7, hw⟩ := hw
      refine mx_iald hx hb hK hP 1 0 rfl rfl h_7 (told (11 + v1).toNatClampNeg) rfl dX10_nurse_30 ?_
      refine lv_topi (fun x_8 ex_8 => ?_)
      replace hw := hw x_8 ex_8
      refine lv_istore_n (lv' := [(3, .int x_8), (0, .ref a_m), (1, .int v1), (2, .int v2)]) hx hb dX10_nurse_31 rfl hl (by decide) rfl (fun ls hl => ?_)
      refine lv_aload_n hx hb dX10_nurse_32 rfl (lv_at hl 1 rfl) ?_
      refine mx_kv (mx_rV (rm := rm_X10_keep) (rest := []) (C := RX10) hx hb hml hown hts (c_X10_keep l D cI cB cZ cP cC a_m a_m_told a_m_kept a_m_isKept a_m_refused a_m_months a_m_heirs a_m_lasts a_m_cares a_m_bestCares a_m_ones a_m_others a_m_bytes a_m_anew a_m_values above below retired manyLine bytesLong tokenAt tokenLong token value told _ _ hw) q_433 q_434 q_435 q_5 q_436 hd_X10_keep ⟨(Nat.le_of_ble_eq_true rfl), (Nat.le_of_ble_eq_true rfl)⟩ rfl rfl hK hP hD [0, 1] rfl rfl 10 0 rfl rfl rfl rfl hl.1 rfl (Nat.le_of_ble_eq_true rfl) dX10_nurse_33 ⟨(Nat.le_of_ble_eq_true rfl), (Nat.le_of_ble_eq_true rfl)⟩) hP hD hS hA [0, 1] [2] [1, 2, 0] (fun u => ww_X10_nurse a_m a_m_told a_m_kept a_m_isKept a_m_refused a_m_months a_m_heirs a_m_lasts a_m_cares a_m_bestCares a_m_ones a_m_others a_m_bytes a_m_anew a_m_values cI cB cZ cP cC above below retired manyLine bytesLong tokenAt tokenLong token value u refused) rfl rfl rfl (by decide) rfl (fun _ => rfl) (fun told_9 H locs hw hP hD hS => ?_)
      try dsimp only at hw
      replace hP : va_P D vwCl (ww_X10_nurse a_m a_m_told a_m_kept a_m_isKept a_m_refused a_m_months a_m_heirs a_m_lasts a_m_cares a_m_bestCares a_m_ones a_m_others a_m_bytes a_m_anew a_m_values cI cB cZ cP cC above below retired manyLine bytesLong tokenAt tokenLong token value told_9 refused) H := hP
      replace hD : va_D A (ww_X10_nurse a_m a_m_told a_m_kept a_m_isKept a_m_refused a_m_months a_m_heirs a_m_lasts a_m_cares a_m_bestCares a_m_ones a_m_others a_m_bytes a_m_anew a_m_values cI cB cZ cP cC above below retired manyLine bytesLong tokenAt tokenLong token value told_9 refused) := hD
      refine lv_aload_n hx hb dX10_nurse_36 rfl (lv_at hl 1 rfl) ?_
      refine mx_get (ci := 10) (C := RX10) (T := TX10) (N := 23) hx hb hown in_wsX100 hts hK hP 0 rfl rfl 0 (by decide) q_91 rfl (v := .ref a_m_told) rfl dX10_nurse_37 ?_
      refine lv_bipush (v := 11) hx hb dX10_nurse_40 (by decide) ?_
      refine lv_iload_n hx hb dX10_nurse_42 rfl (lv_at hl 2 rfl) ?_
      refine lv_iadd hx hb dX10_nurse_43 ?_
      refine lv_iload_n hx hb dX10_nurse_44 rfl (lv_at hl 3 rfl) ?_
      obtain ⟨f_10, ef_10⟩ : ∃ y : Nat → Int32, y = upd told_9 (11 + v1).toNatClampNeg v2 := ⟨_, rfl⟩
      replace hw := hw f_10 ef_10
      refine mx_iast hx hb hK hP hD hS 1 0 rfl rfl h_7 f_10 ef_10 (ww_X10_nurse a_m a_m_told a_m_kept a_m_isKept a_m_refused a_m_months a_m_heirs a_m_lasts a_m_cares a_m_bestCares a_m_ones a_m_others a_m_bytes a_m_anew a_m_values cI cB cZ cP cC above below retired manyLine bytesLong tokenAt tokenLong token value f_10 refused) rfl dX10_nurse_45 (fun H locs hP hD hS => ?_)
      refine lv_iload_n hx hb dX10_nurse_46 rfl (lv_at hl 0 rfl) ?_
      exact mx_iret (f_10, refused) hx hb hr hlocks rfl hw hK hP hD hS dX10_nurse_47
    · replace hw := hw.1 c_6
      exact k_X10_nurse_J15 C0  told refused _ _ _ hP hD hS (lv_sub hl [0] rfl) hw
/-! PramStateModel.retire(I)I -/
abbrev ww_X10_retire (a_m a_m_told a_m_kept a_m_isKept a_m_refused a_m_months a_m_heirs a_m_lasts a_m_cares a_m_bestCares a_m_ones a_m_others a_m_bytes a_m_anew a_m_values : Nat) (cI cB cZ cP cC : ClassId) (above : Int64) (below : Int64) (retired : Int32) (manyLine : Int32) (bytesLong : Int32) (tokenAt : Int32) (tokenLong : Int32) (token : Int32) (value : Int32) (told : Nat → Int32) (refused : Nat → Int32) : va_W := [(a_m, .inr (10, [.ref a_m_told, .ref a_m_kept, .ref a_m_isKept, .ref a_m_refused, .long above, .long below, .ref a_m_months, .int retired, .ref a_m_heirs, .ref a_m_lasts, .int manyLine, .ref a_m_cares, .ref a_m_bestCares, .ref a_m_ones, .ref a_m_others, .ref a_m_bytes, .int bytesLong, .int tokenAt, .int tokenLong, .int token, .int value, .ref a_m_anew, .ref a_m_values])), (a_m_told, .inl (cI, 190, .inl told)), (a_m_refused, .inl (cI, 3, .inl refused))]
abbrev qq_X10_retire (D : va_G) (a_m a_m_told a_m_kept a_m_isKept a_m_refused a_m_months a_m_heirs a_m_lasts a_m_cares a_m_bestCares a_m_ones a_m_others a_m_bytes a_m_anew a_m_values : Nat) (cI cB cZ cP cC : ClassId) (above : Int64) (below : Int64) (retired : Int32) (manyLine : Int32) (bytesLong : Int32) (tokenAt : Int32) (tokenLong : Int32) (token : Int32) (value : Int32) (Post : Int32 → (Nat → Int32) → (Nat → Int32) → Prop) (A : Nat → Prop) : Array Value → State → Outcome → State → Prop := va_Qi (fun (r : Int32) (u : (Nat → Int32) × (Nat → Int32)) => Post r u.1 u.2) (fun (u : (Nat → Int32) × (Nat → Int32)) t => mxB D (mxTy cI cB cZ cP cC) A (ww_X10_retire a_m a_m_told a_m_kept a_m_isKept a_m_refused a_m_months a_m_heirs a_m_lasts a_m_cares a_m_bestCares a_m_ones a_m_others a_m_bytes a_m_anew a_m_values cI cB cZ cP cC above below retired manyLine bytesLong tokenAt tokenLong token value (u.1) (u.2)) t) A
abbrev rm_X10_retire : Room := { frames := 2, cells := 0, slots := 0, locals := 46 }
theorem hd_X10_retire : yX10_retire.cls = RX10 ∧ yX10_retire.cls ≠ "java/lang/invoke/MethodHandle" ∧ yX10_retire.cls ≠ "java/lang/invoke/VarHandle" ∧ (parseMethodDescriptor yX10_retire.desc).map (fun d => d.parameters.length) = some 1 := by decide +kernel
def wp_X10_retire (told : Nat → Int32) (refused : Nat → Int32) (v1 : Int32) (Post : Int32 → (Nat → Int32) → (Nat → Int32) → Prop) : Prop :=
  (wp_X10_isInfant told v1 (fun r_1 => ((r_1 = 0 → (wp_X10_bad refused (-2) (fun r_11 refused_12 => Post r_11 told refused_12))) ∧ (¬ r_1 = 0 → (wp_X10_has (told 10) v1 (fun r_3 => ((r_3 = 0 → (wp_X10_keep told (fun told_5 => (∀ x_6 : Int32, x_6 = (told_5 10) ||| (1 <<< (v1 &&& 31)) → (∀ f_7 : Nat → Int32, f_7 = upd told_5 10 x_6 → (wp_X10_bits (f_7 10) (fun r_8 => Post r_8 f_7 refused))))))) ∧ (¬ r_3 = 0 → (wp_X10_no refused (fun r_9 refused_10 => Post r_9 told refused_10))))))))))
set_option maxHeartbeats 4000000 in
set_option maxRecDepth 100000 in
theorem c_X10_retire (l : Launch) (D : va_G) (cI cB cZ cP cC : ClassId) (a_m a_m_told a_m_kept a_m_isKept a_m_refused a_m_months a_m_heirs a_m_lasts a_m_cares a_m_bestCares a_m_ones a_m_others a_m_bytes a_m_anew a_m_values : Nat) (above : Int64) (below : Int64) (retired : Int32) (manyLine : Int32) (bytesLong : Int32) (tokenAt : Int32) (tokenLong : Int32) (token : Int32) (value : Int32) (told : Nat → Int32) (refused : Nat → Int32) (v1 : Int32) (sz : Nat) (Post : Int32 → (Nat → Int32) → (Nat → Int32) → Prop) (hw : wp_X10_retire told refused v1 Post) :
    Met l yX10_retire (Cond.code yX10_retire cX10_retire 2 (some .int) :: wsAll) rm_X10_retire (va_Pc [.ref a_m, .int v1] (mxP D (mxTy cI cB cZ cP cC) sz (ww_X10_retire a_m a_m_told a_m_kept a_m_isKept a_m_refused a_m_months a_m_heirs a_m_lasts a_m_cares a_m_bestCares a_m_ones a_m_others a_m_bytes a_m_anew a_m_values cI cB cZ cP cC above below retired manyLine bytesLong tokenAt tokenLong token value told refused))) (qq_X10_retire D a_m a_m_told a_m_kept a_m_isKept a_m_refused a_m_months a_m_heirs a_m_lasts a_m_cares a_m_bestCares a_m_ones a_m_others a_m_bytes a_m_anew a_m_values cI cB cZ cP cC above below retired manyLine bytesLong tokenAt tokenLong token value Post (va_A (ww_X10_retire a_m a_m_told a_m_kept a_m_isKept a_m_refused a_m_months a_m_heirs a_m_lasts a_m_cares a_m_bestCares a_m_ones a_m_others a_m_bytes a_m_anew a_m_values cI cB cZ cP cC above below retired manyLine bytesLong tokenAt tokenLong token value told refused) sz)) 0 0 (va_A (ww_X10_retire a_m a_m_told a_m_kept a_m_isKept a_m_refused a_m_months a_m_heirs a_m_lasts a_m_cares a_m_bestCares a_m_ones a_m_others a_m_bytes a_m_anew a_m_values cI cB cZ cP cC above below retired manyLine bytesLong tokenAt tokenLong token value told refused) sz) := by
  refine mx_of (Qc := qq_X10_retire D a_m a_m_told a_m_kept a_m_isKept a_m_refused a_m_months a_m_heirs a_m_lasts a_m_cares a_m_bestCares a_m_ones a_m_others a_m_bytes a_m_anew a_m_values cI cB cZ cP cC above below retired manyLine bytesLong tokenAt tokenLong token value Post) (by decide) (Nat.le_of_ble_eq_true rfl) ?_
  intro p e s m bl meth c A ls C0 hP hD hS hl
  replace C0 : mxC p s m [.ref a_m, .int v1].toArray meth c cX10_retire RX10 (some .int) 2 D (mxTy cI cB cZ cP cC) A := C0
  obtain ⟨hx, hb, hr, hlocks, hml, hown, hts, hK, hA⟩ := id C0
  replace hl : lv_has ls 2 [(0, .ref a_m), (1, .int v1)] := hl
  unfold wp_X10_retire at hw
  refine lv_aload_n hx hb dX10_retire_0 rfl (lv_at hl 0 rfl) ?_
  refine lv_iload_n hx hb dX10_retire_1 rfl (lv_at hl 1 rfl) ?_
  refine mx_ki (mx_rV (rm := rm_X10_isInfant) (rest := []) (C := RX10) hx hb hml hown hts (c_X10_isInfant l D cI cB cZ cP cC a_m a_m_told a_m_kept a_m_isKept a_m_refused a_m_months a_m_heirs a_m_lasts a_m_cares a_m_bestCares a_m_ones a_m_others a_m_bytes a_m_anew a_m_values above below retired manyLine bytesLong tokenAt tokenLong token value told v1 _ _ hw) q_472 q_473 q_474 q_5 q_475 hd_X10_isInfant ⟨(Nat.le_of_ble_eq_true rfl), (Nat.le_of_ble_eq_true rfl)⟩ rfl rfl hK hP hD [0, 1] rfl rfl 10 0 rfl rfl rfl rfl hl.1 rfl (Nat.le_of_ble_eq_true rfl) dX10_retire_2 ⟨(Nat.le_of_ble_eq_true rfl), (Nat.le_of_ble_eq_true rfl)⟩) hP hD hS hA [0, 1] [2] [1, 2, 0] (fun _ => ww_X10_retire a_m a_m_told a_m_kept a_m_isKept a_m_refused a_m_months a_m_heirs a_m_lasts a_m_cares a_m_bestCares a_m_ones a_m_others a_m_bytes a_m_anew a_m_values cI cB cZ cP cC above below retired manyLine bytesLong tokenAt tokenLong token value told refused) rfl rfl rfl (by decide) rfl (fun _ => rfl) (fun r_1 u H locs hw hP hD hS => ?_)
  try dsimp only at hw
  replace hP : va_P D vwCl (ww_X10_retire a_m a_m_told a_m_kept a_m_isKept a_m_refused a_m_months a_m_heirs a_m_lasts a_m_cares a_m_bestCares a_m_ones a_m_others a_m_bytes a_m_anew a_m_values cI cB cZ cP cC above below retired manyLine bytesLong tokenAt tokenLong token value told refused) H := hP
  replace hD : va_D A (ww_X10_retire a_m a_m_told a_m_kept a_m_isKept a_m_refused a_m_months a_m_heirs a_m_lasts a_m_cares a_m_bestCares a_m_ones a_m_others a_m_bytes a_m_anew a_m_values cI cB cZ cP cC above below retired manyLine bytesLong tokenAt tokenLong token value told refused) := hD
  refine lv_if_ne (tgt := 15) hx hb dX10_retire_5 (by decide) (fun c_2 => ?_) (fun c_2 => ?_)
  · replace hw := hw.2 c_2
    refine lv_aload_n hx hb dX10_retire_15 rfl (lv_at hl 0 rfl) ?_
    refine mx_get (ci := 10) (C := RX10) (T := TX10) (N := 23) hx hb hown in_wsX100 hts hK hP 0 rfl rfl 0 (by decide) q_91 rfl (v := .ref a_m_told) rfl dX10_retire_16 ?_
    refine lv_bipush (v := 10) hx hb dX10_retire_19 (by decide) ?_
    refine mx_iald hx hb hK hP 1 0 rfl rfl (mx_lit rfl) (told 10) rfl dX10_retire_21 ?_
    refine lv_iload_n hx hb dX10_retire_22 rfl (lv_at hl 1 rfl) ?_
    refine mx_ki (mx_rS (rm := rm_X10_has) (rest := []) hx hb hml hown hts (c_X10_has l D cI cB cZ cP cC (told 10) v1 _ _ hw) q_445 q_446 q_5 q_447 hd_X10_has ⟨(Nat.le_of_ble_eq_true rfl), (Nat.le_of_ble_eq_true rfl)⟩ rfl rfl hK hP hD [] rfl rfl rfl hl.1 rfl (Nat.le_of_ble_eq_true rfl) dX10_retire_23 ⟨(Nat.le_of_ble_eq_true rfl), (Nat.le_of_ble_eq_true rfl)⟩) hP hD hS hA [] [0, 1, 2] [0, 1, 2] (fun _ => ww_X10_retire a_m a_m_told a_m_kept a_m_isKept a_m_refused a_m_months a_m_heirs a_m_lasts a_m_cares a_m_bestCares a_m_ones a_m_others a_m_bytes a_m_anew a_m_values cI cB cZ cP cC above below retired manyLine bytesLong tokenAt tokenLong token value told refused) rfl rfl rfl (by decide) rfl (fun _ => rfl) (fun r_3 u H locs hw hP hD hS => ?_)
    try dsimp only at hw
    replace hP : va_P D vwCl (ww_X10_retire a_m a_m_told a_m_kept a_m_isKept a_m_refused a_m_months a_m_heirs a_m_lasts a_m_cares a_m_bestCares a_m_ones a_m_others a_m_bytes a_m_anew a_m_values cI cB cZ cP cC above below retired manyLine bytesLong tokenAt tokenLong token value told refused) H := hP
    replace hD : va_D A (ww_X10_retire a_m a_m_told a_m_kept a_m_isKept a_m_refused a_m_months a_m_heirs a_m_lasts a_m_cares a_m_bestCares a_m_ones a_m_others a_m_bytes a_m_anew a_m_values cI cB cZ cP cC above below retired manyLine bytesLong tokenAt tokenLong token value told refused) := hD
    refine lv_if_eq (tgt := 34) hx hb dX10_retire_26 (by decide) (fun c_4 => ?_) (fun c_4 => ?_)
    · replace hw := hw.1 c_4
      refine lv_aload_n hx hb dX10_retire_34 rfl (lv_at hl 0 rfl) ?_
      refine mx_kv (mx_rV (rm := rm_X10_keep) (rest := []) (C := RX10) hx hb hml hown hts (c_X10_keep l D cI cB cZ cP cC a_m a_m_told a_m_kept a_m_isKept a_m_refused a_m_months a_m_heirs a_m_lasts a_m_cares a_m_bestCares a_m_ones a_m_others a_m_bytes a_m_anew a_m_values above below retired manyLine bytesLong tokenAt tokenLong token value told _ _ hw) q_433 q_434 q_435 q_5 q_436 hd_X10_keep ⟨(Nat.le_of_ble_eq_true rfl), (Nat.le_of_ble_eq_true rfl)⟩ rfl rfl hK hP hD [0, 1] rfl rfl 10 0 rfl rfl rfl rfl hl.1 rfl (Nat.le_of_ble_eq_true rfl) dX10_retire_35 ⟨(Nat.le_of_ble_eq_true rfl), (Nat.le_of_ble_eq_true rfl)⟩) hP hD hS hA [0, 1] [2] [1, 2, 0] (fun u => ww_X10_retire a_m a_m_told a_m_kept a_m_isKept a_m_refused a_m_months a_m_heirs a_m_lasts a_m_cares a_m_bestCares a_m_ones a_m_others a_m_bytes a_m_anew a_m_values cI cB cZ cP cC above below retired manyLine bytesLong tokenAt tokenLong token value u refused) rfl rfl rfl (by decide) rfl (fun _ => rfl) (fun told_5 H locs hw hP hD hS => ?_)
      try dsimp only at hw
      replace hP : va_P D vwCl (ww_X10_retire a_m a_m_told a_m_kept a_m_isKept a_m_refused a_m_months a_m_heirs a_m_lasts a_m_cares a_m_bestCares a_m_ones a_m_others a_m_bytes a_m_anew a_m_values cI cB cZ cP cC above below retired manyLine bytesLong tokenAt tokenLong token value told_5 refused) H := hP
      replace hD : va_D A (ww_X10_retire a_m a_m_told a_m_kept a_m_isKept a_m_refused a_m_months a_m_heirs a_m_lasts a_m_cares a_m_bestCares a_m_ones a_m_others a_m_bytes a_m_anew a_m_values cI cB cZ cP cC above below retired manyLine bytesLong tokenAt tokenLong token value told_5 refused) := hD
      refine lv_aload_n hx hb dX10_retire_38 rfl (lv_at hl 0 rfl) ?_
      refine mx_get (ci := 10) (C := RX10) (T := TX10) (N := 23) hx hb hown in_wsX100 hts hK hP 0 rfl rfl 0 (by decide) q_91 rfl (v := .ref a_m_told) rfl dX10_retire_39 ?_
      refine lv_bipush (v := 10) hx hb dX10_retire_42 (by decide) ?_
      refine lv_dup2_11 hx hb dX10_retire_44 rfl rfl ?_
      refine mx_iald hx hb hK hP 1 0 rfl rfl (mx_lit rfl) (told_5 10) rfl dX10_retire_45 ?_
      refine lv_iconst (v := 1) hx hb dX10_retire_46 (by decide) ?_
      refine lv_iload_n hx hb dX10_retire_47 rfl (lv_at hl 1 rfl) ?_
      refine lv_ishl hx hb dX10_retire_48 ?_
      refine lv_ior hx hb dX10_retire_49 ?_
      refine lv_topi (fun x_6 ex_6 => ?_)
      replace hw := hw x_6 ex_6
      obtain ⟨f_7, ef_7⟩ : ∃ y : Nat → Int32, y = upd told_5 10 x_6 := ⟨_, rfl⟩
      replace hw := hw f_7 ef_7
      refine mx_iast hx hb hK hP hD hS 1 0 rfl rfl (mx_lit rfl) f_7 ef_7 (ww_X10_retire a_m a_m_told a_m_kept a_m_isKept a_m_refused a_m_months a_m_heirs a_m_lasts a_m_cares a_m_bestCares a_m_ones a_m_others a_m_bytes a_m_anew a_m_values cI cB cZ cP cC above below retired manyLine bytesLong tokenAt tokenLong token value f_7 refused) rfl dX10_retire_50 (fun H locs hP hD hS => ?_)
      refine lv_aload_n hx hb dX10_retire_51 rfl (lv_at hl 0 rfl) ?_
      refine mx_get (ci := 10) (C := RX10) (T := TX10) (N := 23) hx hb hown in_wsX100 hts hK hP 0 rfl rfl 0 (by decide) q_91 rfl (v := .ref a_m_told) rfl dX10_retire_52 ?_
      refine lv_bipush (v := 10) hx hb dX10_retire_55 (by decide) ?_
      refine mx_iald hx hb hK hP 1 0 rfl rfl (mx_lit rfl) (f_7 10) rfl dX10_retire_57 ?_
      refine mx_ki (mx_rS (rm := rm_X10_bits) (rest := []) hx hb hml hown hts (c_X10_bits l D cI cB cZ cP cC (f_7 10) _ _ hw) q_502 q_503 q_5 q_504 hd_X10_bits ⟨(Nat.le_of_ble_eq_true rfl), (Nat.le_of_ble_eq_true rfl)⟩ rfl rfl hK hP hD [] rfl rfl rfl hl.1 rfl (Nat.le_of_ble_eq_true rfl) dX10_retire_58 ⟨(Nat.le_of_ble_eq_true rfl), (Nat.le_of_ble_eq_true rfl)⟩) hP hD hS hA [] [0, 1, 2] [0, 1, 2] (fun _ => ww_X10_retire a_m a_m_told a_m_kept a_m_isKept a_m_refused a_m_months a_m_heirs a_m_lasts a_m_cares a_m_bestCares a_m_ones a_m_others a_m_bytes a_m_anew a_m_values cI cB cZ cP cC above below retired manyLine bytesLong tokenAt tokenLong token value f_7 refused) rfl rfl rfl (by decide) rfl (fun _ => rfl) (fun r_8 u H locs hw hP hD hS => ?_)
      try dsimp only at hw
      replace hP : va_P D vwCl (ww_X10_retire a_m a_m_told a_m_kept a_m_isKept a_m_refused a_m_months a_m_heirs a_m_lasts a_m_cares a_m_bestCares a_m_ones a_m_others a_m_bytes a_m_anew a_m_values cI cB cZ cP cC above below retired manyLine bytesLong tokenAt tokenLong token value f_7 refused) H := hP
      replace hD : va_D A (ww_X10_retire a_m a_m_told a_m_kept a_m_isKept a_m_refused a_m_months a_m_heirs a_m_lasts a_m_cares a_m_bestCares a_m_ones a_m_others a_m_bytes a_m_anew a_m_values cI cB cZ cP cC above below retired manyLine bytesLong tokenAt tokenLong token value f_7 refused) := hD
      exact mx_iret (f_7, refused) hx hb hr hlocks rfl hw hK hP hD hS dX10_retire_61
    · replace hw := hw.2 c_4
      refine lv_aload_n hx hb dX10_retire_29 rfl (lv_at hl 0 rfl) ?_
      refine mx_ki (mx_rV (rm := rm_X10_no) (rest := []) (C := RX10) hx hb hml hown hts (c_X10_no l D cI cB cZ cP cC a_m a_m_told a_m_kept a_m_isKept a_m_refused a_m_months a_m_heirs a_m_lasts a_m_cares a_m_bestCares a_m_ones a_m_others a_m_bytes a_m_anew a_m_values above below retired manyLine bytesLong tokenAt tokenLong token value refused _ _ hw) q_498 q_499 q_500 q_5 q_501 hd_X10_no ⟨(Nat.le_of_ble_eq_true rfl), (Nat.le_of_ble_eq_true rfl)⟩ rfl rfl hK hP hD [0, 2] rfl rfl 10 0 rfl rfl rfl rfl hl.1 rfl (Nat.le_of_ble_eq_true rfl) dX10_retire_30 ⟨(Nat.le_of_ble_eq_true rfl), (Nat.le_of_ble_eq_true rfl)⟩) hP hD hS hA [0, 2] [1] [1, 0, 2] (fun u => ww_X10_retire a_m a_m_told a_m_kept a_m_isKept a_m_refused a_m_months a_m_heirs a_m_lasts a_m_cares a_m_bestCares a_m_ones a_m_others a_m_bytes a_m_anew a_m_values cI cB cZ cP cC above below retired manyLine bytesLong tokenAt tokenLong token value told u) rfl rfl rfl (by decide) rfl (fun _ => rfl) (fun r_9 refused_10 H locs hw hP hD hS => ?_)
      try dsimp only at hw
      replace hP : va_P D vwCl (ww_X10_retire a_m a_m_told a_m_kept a_m_isKept a_m_refused a_m_months a_m_heirs a_m_lasts a_m_cares a_m_bestCares a_m_ones a_m_others a_m_bytes a_m_anew a_m_values cI cB cZ cP cC above below retired manyLine bytesLong tokenAt tokenLong token value told refused_10) H := hP
      replace hD : va_D A (ww_X10_retire a_m a_m_told a_m_kept a_m_isKept a_m_refused a_m_months a_m_heirs a_m_lasts a_m_cares a_m_bestCares a_m_ones a_m_others a_m_bytes a_m_anew a_m_values cI cB cZ cP cC above below retired manyLine bytesLong tokenAt tokenLong token value told refused_10) := hD
      exact mx_iret (told, refused_10) hx hb hr hlocks rfl hw hK hP hD hS dX10_retire_33
  · replace hw := hw.1 c_2
    refine lv_aload_n hx hb dX10_retire_8 rfl (lv_at hl 0 rfl) ?_
    refine lv_bipush (v := (-2)) hx hb dX10_retire_9 (by decide) ?_
    refine mx_ki (mx_rV (rm := rm_X10_bad) (rest := []) (C := RX10) hx hb hml hown hts (c_X10_bad l D cI cB cZ cP cC a_m a_m_told a_m_kept a_m_isKept a_m_refused a_m_months a_m_heirs a_m_lasts a_m_cares a_m_bestCares a_m_ones a_m_others a_m_bytes a_m_anew a_m_values above below retired manyLine bytesLong tokenAt tokenLong token value refused (-2) _ _ hw) q_166 q_167 q_168 q_5 q_169 hd_X10_bad ⟨(Nat.le_of_ble_eq_true rfl), (Nat.le_of_ble_eq_true rfl)⟩ rfl rfl hK hP hD [0, 2] rfl rfl 10 0 rfl rfl rfl rfl hl.1 rfl (Nat.le_of_ble_eq_true rfl) dX10_retire_11 ⟨(Nat.le_of_ble_eq_true rfl), (Nat.le_of_ble_eq_true rfl)⟩) hP hD hS hA [0, 2] [1] [1, 0, 2] (fun u => ww_X10_retire a_m a_m_told a_m_kept a_m_isKept a_m_refused a_m_months a_m_heirs a_m_lasts a_m_cares a_m_bestCares a_m_ones a_m_others a_m_bytes a_m_anew a_m_values cI cB cZ cP cC above below retired manyLine bytesLong tokenAt tokenLong token value told u) rfl rfl rfl (by decide) rfl (fun _ => rfl) (fun r_11 refused_12 H locs hw hP hD hS => ?_)
    try dsimp only at hw
    replace hP : va_P D vwCl (ww_X10_retire a_m a_m_told a_m_kept a_m_isKept a_m_refused a_m_months a_m_heirs a_m_lasts a_m_cares a_m_bestCares a_m_ones a_m_others a_m_bytes a_m_anew a_m_values cI cB cZ cP cC above below retired manyLine bytesLong tokenAt tokenLong token value told refused_12) H := hP
    replace hD : va_D A (ww_X10_retire a_m a_m_told a_m_kept a_m_isKept a_m_refused a_m_months a_m_heirs a_m_lasts a_m_cares a_m_bestCares a_m_ones a_m_others a_m_bytes a_m_anew a_m_values cI cB cZ cP cC above below retired manyLine bytesLong tokenAt tokenLong token value told refused_12) := hD
    exact mx_iret (told, refused_12) hx hb hr hlocks rfl hw hK hP hD hS dX10_retire_14
/-! PramStateModel.undo()I -/
abbrev ww_X10_undo (a_m a_m_told a_m_kept a_m_isKept a_m_refused a_m_months a_m_heirs a_m_lasts a_m_cares a_m_bestCares a_m_ones a_m_others a_m_bytes a_m_anew a_m_values : Nat) (cI cB cZ cP cC : ClassId) (above : Int64) (below : Int64) (retired : Int32) (manyLine : Int32) (bytesLong : Int32) (tokenAt : Int32) (tokenLong : Int32) (token : Int32) (value : Int32) (told : Nat → Int32) (refused : Nat → Int32) : va_W := [(a_m, .inr (10, [.ref a_m_told, .ref a_m_kept, .ref a_m_isKept, .ref a_m_refused, .long above, .long below, .ref a_m_months, .int retired, .ref a_m_heirs, .ref a_m_lasts, .int manyLine, .ref a_m_cares, .ref a_m_bestCares, .ref a_m_ones, .ref a_m_others, .ref a_m_bytes, .int bytesLong, .int tokenAt, .int tokenLong, .int token, .int value, .ref a_m_anew, .ref a_m_values])), (a_m_told, .inl (cI, 190, .inl told)), (a_m_refused, .inl (cI, 3, .inl refused))]
abbrev qq_X10_undo (D : va_G) (a_m a_m_told a_m_kept a_m_isKept a_m_refused a_m_months a_m_heirs a_m_lasts a_m_cares a_m_bestCares a_m_ones a_m_others a_m_bytes a_m_anew a_m_values : Nat) (cI cB cZ cP cC : ClassId) (above : Int64) (below : Int64) (retired : Int32) (manyLine : Int32) (bytesLong : Int32) (tokenAt : Int32) (tokenLong : Int32) (token : Int32) (value : Int32) (Post : Int32 → (Nat → Int32) → (Nat → Int32) → Prop) (A : Nat → Prop) : Array Value → State → Outcome → State → Prop := va_Qi (fun (r : Int32) (u : (Nat → Int32) × (Nat → Int32)) => Post r u.1 u.2) (fun (u : (Nat → Int32) × (Nat → Int32)) t => mxB D (mxTy cI cB cZ cP cC) A (ww_X10_undo a_m a_m_told a_m_kept a_m_isKept a_m_refused a_m_months a_m_heirs a_m_lasts a_m_cares a_m_bestCares a_m_ones a_m_others a_m_bytes a_m_anew a_m_values cI cB cZ cP cC above below retired manyLine bytesLong tokenAt tokenLong token value (u.1) (u.2)) t) A
abbrev rm_X10_undo : Room := { frames := 1, cells := 0, slots := 0, locals := 20 }
theorem hd_X10_undo : yX10_undo.cls = RX10 ∧ yX10_undo.cls ≠ "java/lang/invoke/MethodHandle" ∧ yX10_undo.cls ≠ "java/lang/invoke/VarHandle" ∧ (parseMethodDescriptor yX10_undo.desc).map (fun d => d.parameters.length) = some 0 := by decide +kernel
def wp_X10_undo_L26  (Post : Int32 → (Nat → Int32) → (Nat → Int32) → Prop) (K_65 : (Nat → Int32) → (Nat → Int32) → Prop) : Nat → Int32 → (Nat → Int32) → (Nat → Int32) → Prop
  | 0, _, _, _ => False
  | n + 1, v1, told, refused => ((14 ≤ v1 → K_65 told refused) ∧ (¬ 14 ≤ v1 → (vp_in ((78 + (14 * (told 3))) + v1) 190 ∧ (∀ x_6 : Int32, x_6 = told ((78 + (14 * (told 3))) + v1).toNatClampNeg → (vp_in (4 + v1) 190 ∧ (∀ f_8 : Nat → Int32, f_8 = upd told (4 + v1).toNatClampNeg x_6 → (∀ x_9 : Int32, x_9 = v1 + 1 → wp_X10_undo_L26 Post K_65 n x_9 f_8 refused)))))))
set_option maxHeartbeats 4000000 in
set_option maxRecDepth 100000 in
theorem k_X10_undo_L26 {p : Program} {l : Launch} {e : Env} {s : State} {m : MethodId} {ar : Array Value} {bl : List Frame} {meth : Method} {c : Code} {D : va_G} {A : Nat → Prop} {cI cB cZ cP cC : ClassId} {a_m a_m_told a_m_kept a_m_isKept a_m_refused a_m_months a_m_heirs a_m_lasts a_m_cares a_m_bestCares a_m_ones a_m_others a_m_bytes a_m_anew a_m_values : Nat} {above : Int64} {below : Int64} {retired : Int32} {manyLine : Int32} {bytesLong : Int32} {tokenAt : Int32} {tokenLong : Int32} {token : Int32} {value : Int32} {Post : Int32 → (Nat → Int32) → (Nat → Int32) → Prop} {K_65 : (Nat → Int32) → (Nat → Int32) → Prop} (C0 : mxC p s m ar meth c cX10_undo RX10 (some .int) 2 D (mxTy cI cB cZ cP cC) A)
    (hK_65 : ∀ (told : Nat → Int32) (refused : Nat → Int32) (H : Heap) (locs : List Loc) (ls : Array Slot), va_P D vwCl (ww_X10_undo a_m a_m_told a_m_kept a_m_isKept a_m_refused a_m_months a_m_heirs a_m_lasts a_m_cares a_m_bestCares a_m_ones a_m_others a_m_bytes a_m_anew a_m_values cI cB cZ cP cC above below retired manyLine bytesLong tokenAt tokenLong token value told refused) H → va_D A (ww_X10_undo a_m a_m_told a_m_kept a_m_isKept a_m_refused a_m_months a_m_heirs a_m_lasts a_m_cares a_m_bestCares a_m_ones a_m_others a_m_bytes a_m_anew a_m_values cI cB cZ cP cC above below retired manyLine bytesLong tokenAt tokenLong token value told refused) → va_S A s.heap H locs → lv_has ls 2 [(0, .ref a_m)] → K_65 told refused → W p l e rm_X10_undo s m ar bl meth c H locs 0 0 (MQ bl (qq_X10_undo D a_m a_m_told a_m_kept a_m_isKept a_m_refused a_m_months a_m_heirs a_m_lasts a_m_cares a_m_bestCares a_m_ones a_m_others a_m_bytes a_m_anew a_m_values cI cB cZ cP cC above below retired manyLine bytesLong tokenAt tokenLong token value Post A) ar s 0 0 A) (F0 m 65 ls [])) :
    ∀ (n : Nat) (v1 : Int32) (told : Nat → Int32) (refused : Nat → Int32) (H : Heap) (locs : List Loc) (ls : Array Slot), va_P D vwCl (ww_X10_undo a_m a_m_told a_m_kept a_m_isKept a_m_refused a_m_months a_m_heirs a_m_lasts a_m_cares a_m_bestCares a_m_ones a_m_others a_m_bytes a_m_anew a_m_values cI cB cZ cP cC above below retired manyLine bytesLong tokenAt tokenLong token value told refused) H → va_D A (ww_X10_undo a_m a_m_told a_m_kept a_m_isKept a_m_refused a_m_months a_m_heirs a_m_lasts a_m_cares a_m_bestCares a_m_ones a_m_others a_m_bytes a_m_anew a_m_values cI cB cZ cP cC above below retired manyLine bytesLong tokenAt tokenLong token value told refused) → va_S A s.heap H locs → lv_has ls 2 [(0, .ref a_m), (1, .int v1)] → wp_X10_undo_L26 Post K_65 n v1 told refused → W p l e rm_X10_undo s m ar bl meth c H locs 0 0 (MQ bl (qq_X10_undo D a_m a_m_told a_m_kept a_m_isKept a_m_refused a_m_months a_m_heirs a_m_lasts a_m_cares a_m_bestCares a_m_ones a_m_others a_m_bytes a_m_anew a_m_values cI cB cZ cP cC above below retired manyLine bytesLong tokenAt tokenLong token value Post A) ar s 0 0 A) (F0 m 26 ls []) := by
  obtain ⟨hx, hb, hr, hlocks, hml, hown, hts, hK, hA⟩ := id C0
  intro n
  induction n with
  | zero =>
    intro v1 told refused H locs ls hP hD hS hl hw
    exact absurd hw (fun h => h)
  | succ n ih =>
    intro v1 told refused H locs ls hP hD hS hl hw
    refine lv_iload_n hx hb dX10_undo_26 rfl (lv_at hl 1 rfl) ?_
    refine lv_bipush (v := 14) hx hb dX10_undo_27 (by decide) ?_
    refine lv_icmp_ge (tgt := 65) hx hb dX10_undo_29 (by decide) (fun c_4 => ?_) (fun c_4 => ?_)
    · replace hw := hw.1 c_4
      exact hK_65 told refused _ _ _ hP hD hS (lv_sub hl [0] rfl) hw
    · replace hw := hw.2 c_4
      refine lv_aload_n hx hb dX10_undo_32 rfl (lv_at hl 0 rfl) ?_
      refine mx_get (ci := 10) (C := RX10) (T := TX10) (N := 23) hx hb hown in_wsX100 hts hK hP 0 rfl rfl 0 (by decide) q_91 rfl (v := .ref a_m_told) rfl dX10_undo_33 ?_
      refine lv_iconst (v := 4) hx hb dX10_undo_36 (by decide) ?_
      refine lv_iload_n hx hb dX10_undo_37 rfl (lv_at hl 1 rfl) ?_
      refine lv_iadd hx hb dX10_undo_38 ?_
      refine lv_aload_n hx hb dX10_undo_39 rfl (lv_at hl 0 rfl) ?_
      refine mx_get (ci := 10) (C := RX10) (T := TX10) (N := 23) hx hb hown in_wsX100 hts hK hP 0 rfl rfl 0 (by decide) q_91 rfl (v := .ref a_m_told) rfl dX10_undo_40 ?_
      refine lv_bipush (v := 78) hx hb dX10_undo_43 (by decide) ?_
      refine lv_bipush (v := 14) hx hb dX10_undo_45 (by decide) ?_
      refine lv_aload_n hx hb dX10_undo_47 rfl (lv_at hl 0 rfl) ?_
      refine mx_get (ci := 10) (C := RX10) (T := TX10) (N := 23) hx hb hown in_wsX100 hts hK hP 0 rfl rfl 0 (by decide) q_91 rfl (v := .ref a_m_told) rfl dX10_undo_48 ?_
      refine lv_iconst (v := 3) hx hb dX10_undo_51 (by decide) ?_
      refine mx_iald hx hb hK hP 1 0 rfl rfl (mx_lit rfl) (told 3) rfl dX10_undo_52 ?_
      refine lv_imul hx hb dX10_undo_53 ?_
      refine lv_iadd hx hb dX10_undo_54 ?_
      refine lv_iload_n hx hb dX10_undo_55 rfl (lv_at hl 1 rfl) ?_
      refine lv_iadd hx hb dX10_undo_56 ?_
      obtain ⟨h_5, hw⟩ := hw
      refine mx_iald hx hb hK hP 1 0 rfl rfl h_5 (told ((78 + (14 * (told 3))) + v1).toNatClampNeg) rfl dX10_undo_57 ?_
      refine lv_topi (fun x_6 ex_6 => ?_)
      replace hw := hw x_6 ex_6
      obtain ⟨h_7, hw⟩ := hw
      obtain ⟨f_8, ef_8⟩ : ∃ y : Nat → Int32, y = upd told (4 + v1).toNatClampNeg x_6 := ⟨_, rfl⟩
      replace hw := hw f_8 ef_8
      refine mx_iast hx hb hK hP hD hS 1 0 rfl rfl h_7 f_8 ef_8 (ww_X10_undo a_m a_m_told a_m_kept a_m_isKept a_m_refused a_m_months a_m_heirs a_m_lasts a_m_cares a_m_bestCares a_m_ones a_m_others a_m_bytes a_m_anew a_m_values cI cB cZ cP cC above below retired manyLine bytesLong tokenAt tokenLong token value f_8 refused) rfl dX10_undo_58 (fun H locs hP hD hS => ?_)
      obtain ⟨x_9, ex_9⟩ : ∃ y : Int32, y = v1 + 1 := ⟨_, rfl⟩
      replace hw := hw x_9 ex_9
      refine lv_iinc (v := x_9) (lv' := [(1, .int x_9), (0, .ref a_m)]) hx hb dX10_undo_59 hl (k := 1) rfl (by rw [ex_9]; rfl) (by decide) rfl (fun ls hl => ?_)
      refine lv_goto (tgt := 26) hx hb dX10_undo_62 (by decide) ?_
      exact ih x_9 f_8 refused _ _ _ hP hD hS (lv_sub hl [1, 0] rfl) hw
def wp_X10_undo (told : Nat → Int32) (refused : Nat → Int32) (Post : Int32 → (Nat → Int32) → (Nat → Int32) → Prop) : Prop :=
  (((told 3) = 0 → (wp_X10_no refused (fun r_13 refused_14 => Post r_13 told refused_14))) ∧ (¬ (told 3) = 0 → (∀ x_2 : Int32, x_2 = (told 3) - 1 → (∀ f_3 : Nat → Int32, f_3 = upd told 3 x_2 → (∃ k_12 : Nat, wp_X10_undo_L26 Post (fun (told_10 : Nat → Int32) (refused_11 : Nat → Int32) => Post (told_10 17) told_10 refused_11) k_12 0 f_3 refused)))))
set_option maxHeartbeats 4000000 in
set_option maxRecDepth 100000 in
theorem c_X10_undo (l : Launch) (D : va_G) (cI cB cZ cP cC : ClassId) (a_m a_m_told a_m_kept a_m_isKept a_m_refused a_m_months a_m_heirs a_m_lasts a_m_cares a_m_bestCares a_m_ones a_m_others a_m_bytes a_m_anew a_m_values : Nat) (above : Int64) (below : Int64) (retired : Int32) (manyLine : Int32) (bytesLong : Int32) (tokenAt : Int32) (tokenLong : Int32) (token : Int32) (value : Int32) (told : Nat → Int32) (refused : Nat → Int32)  (sz : Nat) (Post : Int32 → (Nat → Int32) → (Nat → Int32) → Prop) (hw : wp_X10_undo told refused Post) :
    Met l yX10_undo (Cond.code yX10_undo cX10_undo 2 (some .int) :: wsAll) rm_X10_undo (va_Pc [.ref a_m] (mxP D (mxTy cI cB cZ cP cC) sz (ww_X10_undo a_m a_m_told a_m_kept a_m_isKept a_m_refused a_m_months a_m_heirs a_m_lasts a_m_cares a_m_bestCares a_m_ones a_m_others a_m_bytes a_m_anew a_m_values cI cB cZ cP cC above below retired manyLine bytesLong tokenAt tokenLong token value told refused))) (qq_X10_undo D a_m a_m_told a_m_kept a_m_isKept a_m_refused a_m_months a_m_heirs a_m_lasts a_m_cares a_m_bestCares a_m_ones a_m_others a_m_bytes a_m_anew a_m_values cI cB cZ cP cC above below retired manyLine bytesLong tokenAt tokenLong token value Post (va_A (ww_X10_undo a_m a_m_told a_m_kept a_m_isKept a_m_refused a_m_months a_m_heirs a_m_lasts a_m_cares a_m_bestCares a_m_ones a_m_others a_m_bytes a_m_anew a_m_values cI cB cZ cP cC above below retired manyLine bytesLong tokenAt tokenLong token value told refused) sz)) 0 0 (va_A (ww_X10_undo a_m a_m_told a_m_kept a_m_isKept a_m_refused a_m_months a_m_heirs a_m_lasts a_m_cares a_m_bestCares a_m_ones a_m_others a_m_bytes a_m_anew a_m_values cI cB cZ cP cC above below retired manyLine bytesLong tokenAt tokenLong token value told refused) sz) := by
  refine mx_of (Qc := qq_X10_undo D a_m a_m_told a_m_kept a_m_isKept a_m_refused a_m_months a_m_heirs a_m_lasts a_m_cares a_m_bestCares a_m_ones a_m_others a_m_bytes a_m_anew a_m_values cI cB cZ cP cC above below retired manyLine bytesLong tokenAt tokenLong token value Post) (by decide) (Nat.le_of_ble_eq_true rfl) ?_
  intro p e s m bl meth c A ls C0 hP hD hS hl
  replace C0 : mxC p s m [.ref a_m].toArray meth c cX10_undo RX10 (some .int) 2 D (mxTy cI cB cZ cP cC) A := C0
  obtain ⟨hx, hb, hr, hlocks, hml, hown, hts, hK, hA⟩ := id C0
  replace hl : lv_has ls 2 [(0, .ref a_m)] := hl
  unfold wp_X10_undo at hw
  refine lv_aload_n hx hb dX10_undo_0 rfl (lv_at hl 0 rfl) ?_
  refine mx_get (ci := 10) (C := RX10) (T := TX10) (N := 23) hx hb hown in_wsX100 hts hK hP 0 rfl rfl 0 (by decide) q_91 rfl (v := .ref a_m_told) rfl dX10_undo_1 ?_
  refine lv_iconst (v := 3) hx hb dX10_undo_4 (by decide) ?_
  refine mx_iald hx hb hK hP 1 0 rfl rfl (mx_lit rfl) (told 3) rfl dX10_undo_5 ?_
  refine lv_if_ne (tgt := 14) hx hb dX10_undo_6 (by decide) (fun c_1 => ?_) (fun c_1 => ?_)
  · replace hw := hw.2 c_1
    refine lv_aload_n hx hb dX10_undo_14 rfl (lv_at hl 0 rfl) ?_
    refine mx_get (ci := 10) (C := RX10) (T := TX10) (N := 23) hx hb hown in_wsX100 hts hK hP 0 rfl rfl 0 (by decide) q_91 rfl (v := .ref a_m_told) rfl dX10_undo_15 ?_
    refine lv_iconst (v := 3) hx hb dX10_undo_18 (by decide) ?_
    refine lv_dup2_11 hx hb dX10_undo_19 rfl rfl ?_
    refine mx_iald hx hb hK hP 1 0 rfl rfl (mx_lit rfl) (told 3) rfl dX10_undo_20 ?_
    refine lv_iconst (v := 1) hx hb dX10_undo_21 (by decide) ?_
    refine lv_isub hx hb dX10_undo_22 ?_
    refine lv_topi (fun x_2 ex_2 => ?_)
    replace hw := hw x_2 ex_2
    obtain ⟨f_3, ef_3⟩ : ∃ y : Nat → Int32, y = upd told 3 x_2 := ⟨_, rfl⟩
    replace hw := hw f_3 ef_3
    refine mx_iast hx hb hK hP hD hS 1 0 rfl rfl (mx_lit rfl) f_3 ef_3 (ww_X10_undo a_m a_m_told a_m_kept a_m_isKept a_m_refused a_m_months a_m_heirs a_m_lasts a_m_cares a_m_bestCares a_m_ones a_m_others a_m_bytes a_m_anew a_m_values cI cB cZ cP cC above below retired manyLine bytesLong tokenAt tokenLong token value f_3 refused) rfl dX10_undo_23 (fun H locs hP hD hS => ?_)
    refine lv_iconst (v := 0) hx hb dX10_undo_24 (by decide) ?_
    refine lv_istore_n (lv' := [(1, .int 0), (0, .ref a_m)]) hx hb dX10_undo_25 rfl hl (by decide) rfl (fun ls hl => ?_)
    obtain ⟨n0, hw⟩ := hw
    refine k_X10_undo_L26 C0 ?_ n0 0 f_3 refused _ _ _ hP hD hS (lv_sub hl [1, 0] rfl) hw
    intro told_10 refused_11 H locs ls hP hD hS hl hw
    refine lv_aload_n hx hb dX10_undo_65 rfl (lv_at hl 0 rfl) ?_
    refine mx_get (ci := 10) (C := RX10) (T := TX10) (N := 23) hx hb hown in_wsX100 hts hK hP 0 rfl rfl 0 (by decide) q_91 rfl (v := .ref a_m_told) rfl dX10_undo_66 ?_
    refine lv_bipush (v := 17) hx hb dX10_undo_69 (by decide) ?_
    refine mx_iald hx hb hK hP 1 0 rfl rfl (mx_lit rfl) (told_10 17) rfl dX10_undo_71 ?_
    exact mx_iret (told_10, refused_11) hx hb hr hlocks rfl hw hK hP hD hS dX10_undo_72
  · replace hw := hw.1 c_1
    refine lv_aload_n hx hb dX10_undo_9 rfl (lv_at hl 0 rfl) ?_
    refine mx_ki (mx_rV (rm := rm_X10_no) (rest := []) (C := RX10) hx hb hml hown hts (c_X10_no l D cI cB cZ cP cC a_m a_m_told a_m_kept a_m_isKept a_m_refused a_m_months a_m_heirs a_m_lasts a_m_cares a_m_bestCares a_m_ones a_m_others a_m_bytes a_m_anew a_m_values above below retired manyLine bytesLong tokenAt tokenLong token value refused _ _ hw) q_498 q_499 q_500 q_5 q_501 hd_X10_no ⟨(Nat.le_of_ble_eq_true rfl), (Nat.le_of_ble_eq_true rfl)⟩ rfl rfl hK hP hD [0, 2] rfl rfl 10 0 rfl rfl rfl rfl hl.1 rfl (Nat.le_of_ble_eq_true rfl) dX10_undo_10 ⟨(Nat.le_of_ble_eq_true rfl), (Nat.le_of_ble_eq_true rfl)⟩) hP hD hS hA [0, 2] [1] [1, 0, 2] (fun u => ww_X10_undo a_m a_m_told a_m_kept a_m_isKept a_m_refused a_m_months a_m_heirs a_m_lasts a_m_cares a_m_bestCares a_m_ones a_m_others a_m_bytes a_m_anew a_m_values cI cB cZ cP cC above below retired manyLine bytesLong tokenAt tokenLong token value told u) rfl rfl rfl (by decide) rfl (fun _ => rfl) (fun r_13 refused_14 H locs hw hP hD hS => ?_)
    try dsimp only at hw
    replace hP : va_P D vwCl (ww_X10_undo a_m a_m_told a_m_kept a_m_isKept a_m_refused a_m_months a_m_heirs a_m_lasts a_m_cares a_m_bestCares a_m_ones a_m_others a_m_bytes a_m_anew a_m_values cI cB cZ cP cC above below retired manyLine bytesLong tokenAt tokenLong token value told refused_14) H := hP
    replace hD : va_D A (ww_X10_undo a_m a_m_told a_m_kept a_m_isKept a_m_refused a_m_months a_m_heirs a_m_lasts a_m_cares a_m_bestCares a_m_ones a_m_others a_m_bytes a_m_anew a_m_values cI cB cZ cP cC above below retired manyLine bytesLong tokenAt tokenLong token value told refused_14) := hD
    exact mx_iret (told, refused_14) hx hb hr hlocks rfl hw hK hP hD hS dX10_undo_13
/-! PramStateModel.of(II)I -/
abbrev ww_X10_of (a_m a_m_told a_m_kept a_m_isKept a_m_refused a_m_months a_m_heirs a_m_lasts a_m_cares a_m_bestCares a_m_ones a_m_others a_m_bytes a_m_anew a_m_values : Nat) (cI cB cZ cP cC : ClassId) (above : Int64) (below : Int64) (retired : Int32) (manyLine : Int32) (bytesLong : Int32) (tokenAt : Int32) (tokenLong : Int32) (token : Int32) (value : Int32) (told : Nat → Int32) (refused : Nat → Int32) : va_W := [(a_m, .inr (10, [.ref a_m_told, .ref a_m_kept, .ref a_m_isKept, .ref a_m_refused, .long above, .long below, .ref a_m_months, .int retired, .ref a_m_heirs, .ref a_m_lasts, .int manyLine, .ref a_m_cares, .ref a_m_bestCares, .ref a_m_ones, .ref a_m_others, .ref a_m_bytes, .int bytesLong, .int tokenAt, .int tokenLong, .int token, .int value, .ref a_m_anew, .ref a_m_values])), (a_m_told, .inl (cI, 190, .inl told)), (a_m_refused, .inl (cI, 3, .inl refused))]
abbrev qq_X10_of (D : va_G) (a_m a_m_told a_m_kept a_m_isKept a_m_refused a_m_months a_m_heirs a_m_lasts a_m_cares a_m_bestCares a_m_ones a_m_others a_m_bytes a_m_anew a_m_values : Nat) (cI cB cZ cP cC : ClassId) (above : Int64) (below : Int64) (retired : Int32) (manyLine : Int32) (bytesLong : Int32) (tokenAt : Int32) (tokenLong : Int32) (token : Int32) (value : Int32) (told : Nat → Int32) (Post : Int32 → (Nat → Int32) → Prop) (A : Nat → Prop) : Array Value → State → Outcome → State → Prop := va_Qi (fun (r : Int32) (u : (Nat → Int32)) => Post r u) (fun (u : (Nat → Int32)) t => mxB D (mxTy cI cB cZ cP cC) A (ww_X10_of a_m a_m_told a_m_kept a_m_isKept a_m_refused a_m_months a_m_heirs a_m_lasts a_m_cares a_m_bestCares a_m_ones a_m_others a_m_bytes a_m_anew a_m_values cI cB cZ cP cC above below retired manyLine bytesLong tokenAt tokenLong token value told u) t) A
abbrev rm_X10_of : Room := { frames := 2, cells := 0, slots := 0, locals := 46 }
theorem hd_X10_of : yX10_of.cls = RX10 ∧ yX10_of.cls ≠ "java/lang/invoke/MethodHandle" ∧ yX10_of.cls ≠ "java/lang/invoke/VarHandle" ∧ (parseMethodDescriptor yX10_of.desc).map (fun d => d.parameters.length) = some 2 := by decide +kernel
def wp_X10_of_J20 (told : Nat → Int32) (Post : Int32 → (Nat → Int32) → Prop)  (refused : Nat → Int32) : Prop :=
  (wp_X10_bad refused (-2) (fun r_3 refused_4 => Post r_3 refused_4))
set_option maxHeartbeats 4000000 in
set_option maxRecDepth 100000 in
theorem k_X10_of_J20 {p : Program} {l : Launch} {e : Env} {s : State} {m : MethodId} {ar : Array Value} {bl : List Frame} {meth : Method} {c : Code} {D : va_G} {A : Nat → Prop} {cI cB cZ cP cC : ClassId} {a_m a_m_told a_m_kept a_m_isKept a_m_refused a_m_months a_m_heirs a_m_lasts a_m_cares a_m_bestCares a_m_ones a_m_others a_m_bytes a_m_anew a_m_values : Nat} {above : Int64} {below : Int64} {retired : Int32} {manyLine : Int32} {bytesLong : Int32} {tokenAt : Int32} {tokenLong : Int32} {token : Int32} {value : Int32} {told : Nat → Int32} {Post : Int32 → (Nat → Int32) → Prop} (C0 : mxC p s m ar meth c cX10_of RX10 (some .int) 3 D (mxTy cI cB cZ cP cC) A) :
    ∀ (refused : Nat → Int32) (H : Heap) (locs : List Loc) (ls : Array Slot), va_P D vwCl (ww_X10_of a_m a_m_told a_m_kept a_m_isKept a_m_refused a_m_months a_m_heirs a_m_lasts a_m_cares a_m_bestCares a_m_ones a_m_others a_m_bytes a_m_anew a_m_values cI cB cZ cP cC above below retired manyLine bytesLong tokenAt tokenLong token value told refused) H → va_D A (ww_X10_of a_m a_m_told a_m_kept a_m_isKept a_m_refused a_m_months a_m_heirs a_m_lasts a_m_cares a_m_bestCares a_m_ones a_m_others a_m_bytes a_m_anew a_m_values cI cB cZ cP cC above below retired manyLine bytesLong tokenAt tokenLong token value told refused) → va_S A s.heap H locs → lv_has ls 3 [(0, .ref a_m)] → wp_X10_of_J20 told Post  refused → W p l e rm_X10_of s m ar bl meth c H locs 0 0 (MQ bl (qq_X10_of D a_m a_m_told a_m_kept a_m_isKept a_m_refused a_m_months a_m_heirs a_m_lasts a_m_cares a_m_bestCares a_m_ones a_m_others a_m_bytes a_m_anew a_m_values cI cB cZ cP cC above below retired manyLine bytesLong tokenAt tokenLong token value told Post A) ar s 0 0 A) (F0 m 20 ls []) := by
  obtain ⟨hx, hb, hr, hlocks, hml, hown, hts, hK, hA⟩ := id C0
  intro refused H locs ls hP hD hS hl hw
  refine lv_aload_n hx hb dX10_of_20 rfl (lv_at hl 0 rfl) ?_
  refine lv_bipush (v := (-2)) hx hb dX10_of_21 (by decide) ?_
  refine mx_ki (mx_rV (rm := rm_X10_bad) (rest := []) (C := RX10) hx hb hml hown hts (c_X10_bad l D cI cB cZ cP cC a_m a_m_told a_m_kept a_m_isKept a_m_refused a_m_months a_m_heirs a_m_lasts a_m_cares a_m_bestCares a_m_ones a_m_others a_m_bytes a_m_anew a_m_values above below retired manyLine bytesLong tokenAt tokenLong token value refused (-2) _ _ hw) q_166 q_167 q_168 q_5 q_169 hd_X10_bad ⟨(Nat.le_of_ble_eq_true rfl), (Nat.le_of_ble_eq_true rfl)⟩ rfl rfl hK hP hD [0, 2] rfl rfl 10 0 rfl rfl rfl rfl hl.1 rfl (Nat.le_of_ble_eq_true rfl) dX10_of_23 ⟨(Nat.le_of_ble_eq_true rfl), (Nat.le_of_ble_eq_true rfl)⟩) hP hD hS hA [0, 2] [1] [1, 0, 2] (fun u => ww_X10_of a_m a_m_told a_m_kept a_m_isKept a_m_refused a_m_months a_m_heirs a_m_lasts a_m_cares a_m_bestCares a_m_ones a_m_others a_m_bytes a_m_anew a_m_values cI cB cZ cP cC above below retired manyLine bytesLong tokenAt tokenLong token value told u) rfl rfl rfl (by decide) rfl (fun _ => rfl) (fun r_3 refused_4 H locs hw hP hD hS => ?_)
  try dsimp only at hw
  replace hP : va_P D vwCl (ww_X10_of a_m a_m_told a_m_kept a_m_isKept a_m_refused a_m_months a_m_heirs a_m_lasts a_m_cares a_m_bestCares a_m_ones a_m_others a_m_bytes a_m_anew a_m_values cI cB cZ cP cC above below retired manyLine bytesLong tokenAt tokenLong token value told refused_4) H := hP
  replace hD : va_D A (ww_X10_of a_m a_m_told a_m_kept a_m_isKept a_m_refused a_m_months a_m_heirs a_m_lasts a_m_cares a_m_bestCares a_m_ones a_m_others a_m_bytes a_m_anew a_m_values cI cB cZ cP cC above below retired manyLine bytesLong tokenAt tokenLong token value told refused_4) := hD
  exact mx_iret refused_4 hx hb hr hlocks rfl hw hK hP hD hS dX10_of_26
def wp_X10_of (told : Nat → Int32) (refused : Nat → Int32) (v1 : Int32) (v2 : Int32) (Post : Int32 → (Nat → Int32) → Prop) : Prop :=
  (wp_X10_isInfant told v1 (fun r_1 => ((r_1 = 0 → (wp_X10_of_J20 told Post refused)) ∧ (¬ r_1 = 0 → (wp_X10_in (v2.toInt64) 0 5 (fun r_5 => ((r_5 = 0 → (wp_X10_of_J20 told Post refused)) ∧ (¬ r_5 = 0 → ((v2.toInt = 0 → (wp_X10_kindOf told v1 (fun r_8 => Post r_8 refused))) ∧ (v2.toInt = 1 → (vp_in (4 + v1) 190 ∧ Post (told (4 + v1).toNatClampNeg) refused)) ∧ (v2.toInt = 2 → (vp_in (30 + v1) 190 ∧ Post (told (30 + v1).toNatClampNeg) refused)) ∧ (v2.toInt = 3 → (vp_in (11 + v1) 190 ∧ Post (told (11 + v1).toNatClampNeg) refused)) ∧ (v2.toInt = 4 → Post (((told 10) >>> (v1 &&& 31)) &&& 1) refused) ∧ ((v2.toInt < 0 ∨ 4 < v2.toInt) → (wp_X10_kindOf told v1 (fun r_12 => (wp_X10_walksAs r_12 (fun r_13 => Post r_13 refused))))))))))))))
set_option maxHeartbeats 4000000 in
set_option maxRecDepth 100000 in
theorem c_X10_of (l : Launch) (D : va_G) (cI cB cZ cP cC : ClassId) (a_m a_m_told a_m_kept a_m_isKept a_m_refused a_m_months a_m_heirs a_m_lasts a_m_cares a_m_bestCares a_m_ones a_m_others a_m_bytes a_m_anew a_m_values : Nat) (above : Int64) (below : Int64) (retired : Int32) (manyLine : Int32) (bytesLong : Int32) (tokenAt : Int32) (tokenLong : Int32) (token : Int32) (value : Int32) (told : Nat → Int32) (refused : Nat → Int32) (v1 : Int32) (v2 : Int32) (sz : Nat) (Post : Int32 → (Nat → Int32) → Prop) (hw : wp_X10_of told refused v1 v2 Post) :
    Met l yX10_of (Cond.code yX10_of cX10_of 3 (some .int) :: wsAll) rm_X10_of (va_Pc [.ref a_m, .int v1, .int v2] (mxP D (mxTy cI cB cZ cP cC) sz (ww_X10_of a_m a_m_told a_m_kept a_m_isKept a_m_refused a_m_months a_m_heirs a_m_lasts a_m_cares a_m_bestCares a_m_ones a_m_others a_m_bytes a_m_anew a_m_values cI cB cZ cP cC above below retired manyLine bytesLong tokenAt tokenLong token value told refused))) (qq_X10_of D a_m a_m_told a_m_kept a_m_isKept a_m_refused a_m_months a_m_heirs a_m_lasts a_m_cares a_m_bestCares a_m_ones a_m_others a_m_bytes a_m_anew a_m_values cI cB cZ cP cC above below retired manyLine bytesLong tokenAt tokenLong token value told Post (va_A (ww_X10_of a_m a_m_told a_m_kept a_m_isKept a_m_refused a_m_months a_m_heirs a_m_lasts a_m_cares a_m_bestCares a_m_ones a_m_others a_m_bytes a_m_anew a_m_values cI cB cZ cP cC above below retired manyLine bytesLong tokenAt tokenLong token value told refused) sz)) 0 0 (va_A (ww_X10_of a_m a_m_told a_m_kept a_m_isKept a_m_refused a_m_months a_m_heirs a_m_lasts a_m_cares a_m_bestCares a_m_ones a_m_others a_m_bytes a_m_anew a_m_values cI cB cZ cP cC above below retired manyLine bytesLong tokenAt tokenLong token value told refused) sz) := by
  refine mx_of (Qc := qq_X10_of D a_m a_m_told a_m_kept a_m_isKept a_m_refused a_m_months a_m_heirs a_m_lasts a_m_cares a_m_bestCares a_m_ones a_m_others a_m_bytes a_m_anew a_m_values cI cB cZ cP cC above below retired manyLine bytesLong tokenAt tokenLong token value told Post) (by decide) (Nat.le_of_ble_eq_true rfl) ?_
  intro p e s m bl meth c A ls C0 hP hD hS hl
  replace C0 : mxC p s m [.ref a_m, .int v1, .int v2].toArray meth c cX10_of RX10 (some .int) 3 D (mxTy cI cB cZ cP cC) A := C0
  obtain ⟨hx, hb, hr, hlocks, hml, hown, hts, hK, hA⟩ := id C0
  replace hl : lv_has ls 3 [(0, .ref a_m), (1, .int v1), (2, .int v2)] := hl
  unfold wp_X10_of at hw
  refine lv_aload_n hx hb dX10_of_0 rfl (lv_at hl 0 rfl) ?_
  refine lv_iload_n hx hb dX10_of_1 rfl (lv_at hl 1 rfl) ?_
  refine mx_ki (mx_rV (rm := rm_X10_isInfant) (rest := []) (C := RX10) hx hb hml hown hts (c_X10_isInfant l D cI cB cZ cP cC a_m a_m_told a_m_kept a_m_isKept a_m_refused a_m_months a_m_heirs a_m_lasts a_m_cares a_m_bestCares a_m_ones a_m_others a_m_bytes a_m_anew a_m_values above below retired manyLine bytesLong tokenAt tokenLong token value told v1 _ _ hw) q_472 q_473 q_474 q_5 q_475 hd_X10_isInfant ⟨(Nat.le_of_ble_eq_true rfl), (Nat.le_of_ble_eq_true rfl)⟩ rfl rfl hK hP hD [0, 1] rfl rfl 10 0 rfl rfl rfl rfl hl.1 rfl (Nat.le_of_ble_eq_true rfl) dX10_of_2 ⟨(Nat.le_of_ble_eq_true rfl), (Nat.le_of_ble_eq_true rfl)⟩) hP hD hS hA [0, 1] [2] [1, 2, 0] (fun _ => ww_X10_of a_m a_m_told a_m_kept a_m_isKept a_m_refused a_m_months a_m_heirs a_m_lasts a_m_cares a_m_bestCares a_m_ones a_m_others a_m_bytes a_m_anew a_m_values cI cB cZ cP cC above below retired manyLine bytesLong tokenAt tokenLong token value told refused) rfl rfl rfl (by decide) rfl (fun _ => rfl) (fun r_1 u H locs hw hP hD hS => ?_)
  try dsimp only at hw
  replace hP : va_P D vwCl (ww_X10_of a_m a_m_told a_m_kept a_m_isKept a_m_refused a_m_months a_m_heirs a_m_lasts a_m_cares a_m_bestCares a_m_ones a_m_others a_m_bytes a_m_anew a_m_values cI cB cZ cP cC above below retired manyLine bytesLong tokenAt tokenLong token value told refused) H := hP
  replace hD : va_D A (ww_X10_of a_m a_m_told a_m_kept a_m_isKept a_m_refused a_m_months a_m_heirs a_m_lasts a_m_cares a_m_bestCares a_m_ones a_m_others a_m_bytes a_m_anew a_m_values cI cB cZ cP cC above below retired manyLine bytesLong tokenAt tokenLong token value told refused) := hD
  refine lv_if_eq (tgt := 20) hx hb dX10_of_5 (by decide) (fun c_2 => ?_) (fun c_2 => ?_)
  · replace hw := hw.1 c_2
    exact k_X10_of_J20 C0  refused _ _ _ hP hD hS (lv_sub hl [0] rfl) hw
  · replace hw := hw.2 c_2
    refine lv_iload_n hx hb dX10_of_8 rfl (lv_at hl 2 rfl) ?_
    refine lv_i2l (v := v2.toInt64) hx hb dX10_of_9 rfl ?_
    refine lv_lconst (v := 0) hx hb dX10_of_10 rfl ?_
    refine lv_ldc2 (v := 5) hx hb hown (hts _ q_161) dX10_of_11 ?_
    refine mx_ki (mx_rS (rm := rm_X10_in) (rest := []) hx hb hml hown hts (c_X10_in l D cI cB cZ cP cC (v2.toInt64) 0 5 _ _ hw) q_163 q_164 q_5 q_165 hd_X10_in ⟨(Nat.le_of_ble_eq_true rfl), (Nat.le_of_ble_eq_true rfl)⟩ rfl rfl hK hP hD [] rfl rfl rfl hl.1 rfl (Nat.le_of_ble_eq_true rfl) dX10_of_14 ⟨(Nat.le_of_ble_eq_true rfl), (Nat.le_of_ble_eq_true rfl)⟩) hP hD hS hA [] [0, 1, 2] [0, 1, 2] (fun _ => ww_X10_of a_m a_m_told a_m_kept a_m_isKept a_m_refused a_m_months a_m_heirs a_m_lasts a_m_cares a_m_bestCares a_m_ones a_m_others a_m_bytes a_m_anew a_m_values cI cB cZ cP cC above below retired manyLine bytesLong tokenAt tokenLong token value told refused) rfl rfl rfl (by decide) rfl (fun _ => rfl) (fun r_5 u H locs hw hP hD hS => ?_)
    try dsimp only at hw
    replace hP : va_P D vwCl (ww_X10_of a_m a_m_told a_m_kept a_m_isKept a_m_refused a_m_months a_m_heirs a_m_lasts a_m_cares a_m_bestCares a_m_ones a_m_others a_m_bytes a_m_anew a_m_values cI cB cZ cP cC above below retired manyLine bytesLong tokenAt tokenLong token value told refused) H := hP
    replace hD : va_D A (ww_X10_of a_m a_m_told a_m_kept a_m_isKept a_m_refused a_m_months a_m_heirs a_m_lasts a_m_cares a_m_bestCares a_m_ones a_m_others a_m_bytes a_m_anew a_m_values cI cB cZ cP cC above below retired manyLine bytesLong tokenAt tokenLong token value told refused) := hD
    refine lv_if_ne (tgt := 27) hx hb dX10_of_17 (by decide) (fun c_6 => ?_) (fun c_6 => ?_)
    · replace hw := hw.2 c_6
      refine lv_iload_n hx hb dX10_of_27 rfl (lv_at hl 2 rfl) ?_
      rcases (show v2.toInt = 0 ∨ v2.toInt = 1 ∨ v2.toInt = 2 ∨ v2.toInt = 3 ∨ v2.toInt = 4 ∨ (v2.toInt < 0 ∨ 4 < v2.toInt) by omega) with e_7 | e_7 | e_7 | e_7 | e_7 | e_7
      · replace hw := hw.1 e_7
        refine lv_tableIn (tgt := 64) hx hb dX10_of_28 (by omega) (by omega) (by rw [e_7]; rfl) (by decide) ?_
        refine lv_aload_n hx hb dX10_of_64 rfl (lv_at hl 0 rfl) ?_
        refine lv_iload_n hx hb dX10_of_65 rfl (lv_at hl 1 rfl) ?_
        refine mx_ki (mx_rV (rm := rm_X10_kindOf) (rest := []) (C := RX10) hx hb hml hown hts (c_X10_kindOf l D cI cB cZ cP cC a_m a_m_told a_m_kept a_m_isKept a_m_refused a_m_months a_m_heirs a_m_lasts a_m_cares a_m_bestCares a_m_ones a_m_others a_m_bytes a_m_anew a_m_values above below retired manyLine bytesLong tokenAt tokenLong token value told v1 _ _ hw) q_448 q_449 q_450 q_5 q_451 hd_X10_kindOf ⟨(Nat.le_of_ble_eq_true rfl), (Nat.le_of_ble_eq_true rfl)⟩ rfl rfl hK hP hD [0, 1] rfl rfl 10 0 rfl rfl rfl rfl hl.1 rfl (Nat.le_of_ble_eq_true rfl) dX10_of_66 ⟨(Nat.le_of_ble_eq_true rfl), (Nat.le_of_ble_eq_true rfl)⟩) hP hD hS hA [0, 1] [2] [1, 2, 0] (fun _ => ww_X10_of a_m a_m_told a_m_kept a_m_isKept a_m_refused a_m_months a_m_heirs a_m_lasts a_m_cares a_m_bestCares a_m_ones a_m_others a_m_bytes a_m_anew a_m_values cI cB cZ cP cC above below retired manyLine bytesLong tokenAt tokenLong token value told refused) rfl rfl rfl (by decide) rfl (fun _ => rfl) (fun r_8 u H locs hw hP hD hS => ?_)
        try dsimp only at hw
        replace hP : va_P D vwCl (ww_X10_of a_m a_m_told a_m_kept a_m_isKept a_m_refused a_m_months a_m_heirs a_m_lasts a_m_cares a_m_bestCares a_m_ones a_m_others a_m_bytes a_m_anew a_m_values cI cB cZ cP cC above below retired manyLine bytesLong tokenAt tokenLong token value told refused) H := hP
        replace hD : va_D A (ww_X10_of a_m a_m_told a_m_kept a_m_isKept a_m_refused a_m_months a_m_heirs a_m_lasts a_m_cares a_m_bestCares a_m_ones a_m_others a_m_bytes a_m_anew a_m_values cI cB cZ cP cC above below retired manyLine bytesLong tokenAt tokenLong token value told refused) := hD
        exact mx_iret refused hx hb hr hlocks rfl hw hK hP hD hS dX10_of_69
      · replace hw := hw.2.1 e_7
        refine lv_tableIn (tgt := 70) hx hb dX10_of_28 (by omega) (by omega) (by rw [e_7]; rfl) (by decide) ?_
        refine lv_aload_n hx hb dX10_of_70 rfl (lv_at hl 0 rfl) ?_
        refine mx_get (ci := 10) (C := RX10) (T := TX10) (N := 23) hx hb hown in_wsX100 hts hK hP 0 rfl rfl 0 (by decide) q_91 rfl (v := .ref a_m_told) rfl dX10_of_71 ?_
        refine lv_iconst (v := 4) hx hb dX10_of_74 (by decide) ?_
        refine lv_iload_n hx hb dX10_of_75 rfl (lv_at hl 1 rfl) ?_
        refine lv_iadd hx hb dX10_of_76 ?_
        obtain ⟨h_9, hw⟩ := hw
        refine mx_iald hx hb hK hP 1 0 rfl rfl h_9 (told (4 + v1).toNatClampNeg) rfl dX10_of_77 ?_
        exact mx_iret refused hx hb hr hlocks rfl hw hK hP hD hS dX10_of_78
      · replace hw := hw.2.2.1 e_7
        refine lv_tableIn (tgt := 79) hx hb dX10_of_28 (by omega) (by omega) (by rw [e_7]; rfl) (by decide) ?_
        refine lv_aload_n hx hb dX10_of_79 rfl (lv_at hl 0 rfl) ?_
        refine mx_get (ci := 10) (C := RX10) (T := TX10) (N := 23) hx hb hown in_wsX100 hts hK hP 0 rfl rfl 0 (by decide) q_91 rfl (v := .ref a_m_told) rfl dX10_of_80 ?_
        refine lv_bipush (v := 30) hx hb dX10_of_83 (by decide) ?_
        refine lv_iload_n hx hb dX10_of_85 rfl (lv_at hl 1 rfl) ?_
        refine lv_iadd hx hb dX10_of_86 ?_
        obtain ⟨h_10, hw⟩ := hw
        refine mx_iald hx hb hK hP 1 0 rfl rfl h_10 (told (30 + v1).toNatClampNeg) rfl dX10_of_87 ?_
        exact mx_iret refused hx hb hr hlocks rfl hw hK hP hD hS dX10_of_88
      · replace hw := hw.2.2.2.1 e_7
        refine lv_tableIn (tgt := 89) hx hb dX10_of_28 (by omega) (by omega) (by rw [e_7]; rfl) (by decide) ?_
        refine lv_aload_n hx hb dX10_of_89 rfl (lv_at hl 0 rfl) ?_
        refine mx_get (ci := 10) (C := RX10) (T := TX10) (N := 23) hx hb hown in_wsX100 hts hK hP 0 rfl rfl 0 (by decide) q_91 rfl (v := .ref a_m_told) rfl dX10_of_90 ?_
        refine lv_bipush (v := 11) hx hb dX10_of_93 (by decide) ?_
        refine lv_iload_n hx hb dX10_of_95 rfl (lv_at hl 1 rfl) ?_
        refine lv_iadd hx hb dX10_of_96 ?_
        obtain ⟨h_11, hw⟩ := hw
        refine mx_iald hx hb hK hP 1 0 rfl rfl h_11 (told (11 + v1).toNatClampNeg) rfl dX10_of_97 ?_
        exact mx_iret refused hx hb hr hlocks rfl hw hK hP hD hS dX10_of_98
      · replace hw := hw.2.2.2.2.1 e_7
        refine lv_tableIn (tgt := 99) hx hb dX10_of_28 (by omega) (by omega) (by rw [e_7]; rfl) (by decide) ?_
        refine lv_aload_n hx hb dX10_of_99 rfl (lv_at hl 0 rfl) ?_
        refine mx_get (ci := 10) (C := RX10) (T := TX10) (N := 23) hx hb hown in_wsX100 hts hK hP 0 rfl rfl 0 (by decide) q_91 rfl (v := .ref a_m_told) rfl dX10_of_100 ?_
        refine lv_bipush (v := 10) hx hb dX10_of_103 (by decide) ?_
        refine mx_iald hx hb hK hP 1 0 rfl rfl (mx_lit rfl) (told 10) rfl dX10_of_105 ?_
        refine lv_iload_n hx hb dX10_of_106 rfl (lv_at hl 1 rfl) ?_
        refine lv_ishr hx hb dX10_of_107 ?_
        refine lv_iconst (v := 1) hx hb dX10_of_108 (by decide) ?_
        refine lv_iand hx hb dX10_of_109 ?_
        exact mx_iret refused hx hb hr hlocks rfl hw hK hP hD hS dX10_of_110
      · replace hw := hw.2.2.2.2.2 e_7
        refine lv_tableOut (tgt := 111) hx hb dX10_of_28 e_7 (by decide) ?_
        refine lv_aload_n hx hb dX10_of_111 rfl (lv_at hl 0 rfl) ?_
        refine lv_iload_n hx hb dX10_of_112 rfl (lv_at hl 1 rfl) ?_
        refine mx_ki (mx_rV (rm := rm_X10_kindOf) (rest := []) (C := RX10) hx hb hml hown hts (c_X10_kindOf l D cI cB cZ cP cC a_m a_m_told a_m_kept a_m_isKept a_m_refused a_m_months a_m_heirs a_m_lasts a_m_cares a_m_bestCares a_m_ones a_m_others a_m_bytes a_m_anew a_m_values above below retired manyLine bytesLong tokenAt tokenLong token value told v1 _ _ hw) q_448 q_449 q_450 q_5 q_451 hd_X10_kindOf ⟨(Nat.le_of_ble_eq_true rfl), (Nat.le_of_ble_eq_true rfl)⟩ rfl rfl hK hP hD [0, 1] rfl rfl 10 0 rfl rfl rfl rfl hl.1 rfl (Nat.le_of_ble_eq_true rfl) dX10_of_113 ⟨(Nat.le_of_ble_eq_true rfl), (Nat.le_of_ble_eq_true rfl)⟩) hP hD hS hA [0, 1] [2] [1, 2, 0] (fun _ => ww_X10_of a_m a_m_told a_m_kept a_m_isKept a_m_refused a_m_months a_m_heirs a_m_lasts a_m_cares a_m_bestCares a_m_ones a_m_others a_m_bytes a_m_anew a_m_values cI cB cZ cP cC above below retired manyLine bytesLong tokenAt tokenLong token value told refused) rfl rfl rfl (by decide) rfl (fun _ => rfl) (fun r_12 u H locs hw hP hD hS => ?_)
        try dsimp only at hw
        replace hP : va_P D vwCl (ww_X10_of a_m a_m_told a_m_kept a_m_isKept a_m_refused a_m_months a_m_heirs a_m_lasts a_m_cares a_m_bestCares a_m_ones a_m_others a_m_bytes a_m_anew a_m_values cI cB cZ cP cC above below retired manyLine bytesLong tokenAt tokenLong token value told refused) H := hP
        replace hD : va_D A (ww_X10_of a_m a_m_told a_m_kept a_m_isKept a_m_refused a_m_months a_m_heirs a_m_lasts a_m_cares a_m_bestCares a_m_ones a_m_others a_m_bytes a_m_anew a_m_values cI cB cZ cP cC above below retired manyLine bytesLong tokenAt tokenLong token value told refused) := hD
        refine mx_ki (mx_rS (rm := rm_X10_walksAs) (rest := []) hx hb hml hown hts (c_X10_walksAs l D cI cB cZ cP cC r_12 _ _ hw) q_452 q_453 q_5 q_454 hd_X10_walksAs ⟨(Nat.le_of_ble_eq_true rfl), (Nat.le_of_ble_eq_true rfl)⟩ rfl rfl hK hP hD [] rfl rfl rfl hl.1 rfl (Nat.le_of_ble_eq_true rfl) dX10_of_116 ⟨(Nat.le_of_ble_eq_true rfl), (Nat.le_of_ble_eq_true rfl)⟩) hP hD hS hA [] [0, 1, 2] [0, 1, 2] (fun _ => ww_X10_of a_m a_m_told a_m_kept a_m_isKept a_m_refused a_m_months a_m_heirs a_m_lasts a_m_cares a_m_bestCares a_m_ones a_m_others a_m_bytes a_m_anew a_m_values cI cB cZ cP cC above below retired manyLine bytesLong tokenAt tokenLong token value told refused) rfl rfl rfl (by decide) rfl (fun _ => rfl) (fun r_13 u H locs hw hP hD hS => ?_)
        try dsimp only at hw
        replace hP : va_P D vwCl (ww_X10_of a_m a_m_told a_m_kept a_m_isKept a_m_refused a_m_months a_m_heirs a_m_lasts a_m_cares a_m_bestCares a_m_ones a_m_others a_m_bytes a_m_anew a_m_values cI cB cZ cP cC above below retired manyLine bytesLong tokenAt tokenLong token value told refused) H := hP
        replace hD : va_D A (ww_X10_of a_m a_m_told a_m_kept a_m_isKept a_m_refused a_m_months a_m_heirs a_m_lasts a_m_cares a_m_bestCares a_m_ones a_m_others a_m_bytes a_m_anew a_m_values cI cB cZ cP cC above below retired manyLine bytesLong tokenAt tokenLong token value told refused) := hD
        exact mx_iret refused hx hb hr hlocks rfl hw hK hP hD hS dX10_of_119
    · replace hw := hw.1 c_6
      exact k_X10_of_J20 C0  refused _ _ _ hP hD hS (lv_sub hl [0] rfl) hw
/-! PramStateModel.hour(III)I -/
abbrev ww_X10_hour (a_m a_m_told a_m_kept a_m_isKept a_m_refused a_m_months a_m_heirs a_m_lasts a_m_cares a_m_bestCares a_m_ones a_m_others a_m_bytes a_m_anew a_m_values : Nat) (cI cB cZ cP cC : ClassId) (above : Int64) (below : Int64) (retired : Int32) (manyLine : Int32) (bytesLong : Int32) (tokenAt : Int32) (tokenLong : Int32) (token : Int32) (value : Int32) (told : Nat → Int32) (refused : Nat → Int32) : va_W := [(a_m, .inr (10, [.ref a_m_told, .ref a_m_kept, .ref a_m_isKept, .ref a_m_refused, .long above, .long below, .ref a_m_months, .int retired, .ref a_m_heirs, .ref a_m_lasts, .int manyLine, .ref a_m_cares, .ref a_m_bestCares, .ref a_m_ones, .ref a_m_others, .ref a_m_bytes, .int bytesLong, .int tokenAt, .int tokenLong, .int token, .int value, .ref a_m_anew, .ref a_m_values])), (a_m_told, .inl (cI, 190, .inl told)), (a_m_refused, .inl (cI, 3, .inl refused))]
abbrev qq_X10_hour (D : va_G) (a_m a_m_told a_m_kept a_m_isKept a_m_refused a_m_months a_m_heirs a_m_lasts a_m_cares a_m_bestCares a_m_ones a_m_others a_m_bytes a_m_anew a_m_values : Nat) (cI cB cZ cP cC : ClassId) (above : Int64) (below : Int64) (retired : Int32) (manyLine : Int32) (bytesLong : Int32) (tokenAt : Int32) (tokenLong : Int32) (token : Int32) (value : Int32) (told : Nat → Int32) (Post : Int32 → (Nat → Int32) → Prop) (A : Nat → Prop) : Array Value → State → Outcome → State → Prop := va_Qi (fun (r : Int32) (u : (Nat → Int32)) => Post r u) (fun (u : (Nat → Int32)) t => mxB D (mxTy cI cB cZ cP cC) A (ww_X10_hour a_m a_m_told a_m_kept a_m_isKept a_m_refused a_m_months a_m_heirs a_m_lasts a_m_cares a_m_bestCares a_m_ones a_m_others a_m_bytes a_m_anew a_m_values cI cB cZ cP cC above below retired manyLine bytesLong tokenAt tokenLong token value told u) t) A
abbrev rm_X10_hour : Room := { frames := 4, cells := 0, slots := 0, locals := 92 }
theorem hd_X10_hour : yX10_hour.cls = RX10 ∧ yX10_hour.cls ≠ "java/lang/invoke/MethodHandle" ∧ yX10_hour.cls ≠ "java/lang/invoke/VarHandle" ∧ (parseMethodDescriptor yX10_hour.desc).map (fun d => d.parameters.length) = some 3 := by decide +kernel
def wp_X10_hour_J25 (told : Nat → Int32) (Post : Int32 → (Nat → Int32) → Prop)  (refused : Nat → Int32) : Prop :=
  (wp_X10_bad refused (-2) (fun r_3 refused_4 => Post r_3 refused_4))
set_option maxHeartbeats 4000000 in
set_option maxRecDepth 100000 in
theorem k_X10_hour_J25 {p : Program} {l : Launch} {e : Env} {s : State} {m : MethodId} {ar : Array Value} {bl : List Frame} {meth : Method} {c : Code} {D : va_G} {A : Nat → Prop} {cI cB cZ cP cC : ClassId} {a_m a_m_told a_m_kept a_m_isKept a_m_refused a_m_months a_m_heirs a_m_lasts a_m_cares a_m_bestCares a_m_ones a_m_others a_m_bytes a_m_anew a_m_values : Nat} {above : Int64} {below : Int64} {retired : Int32} {manyLine : Int32} {bytesLong : Int32} {tokenAt : Int32} {tokenLong : Int32} {token : Int32} {value : Int32} {told : Nat → Int32} {Post : Int32 → (Nat → Int32) → Prop} (C0 : mxC p s m ar meth c cX10_hour RX10 (some .int) 4 D (mxTy cI cB cZ cP cC) A) :
    ∀ (refused : Nat → Int32) (H : Heap) (locs : List Loc) (ls : Array Slot), va_P D vwCl (ww_X10_hour a_m a_m_told a_m_kept a_m_isKept a_m_refused a_m_months a_m_heirs a_m_lasts a_m_cares a_m_bestCares a_m_ones a_m_others a_m_bytes a_m_anew a_m_values cI cB cZ cP cC above below retired manyLine bytesLong tokenAt tokenLong token value told refused) H → va_D A (ww_X10_hour a_m a_m_told a_m_kept a_m_isKept a_m_refused a_m_months a_m_heirs a_m_lasts a_m_cares a_m_bestCares a_m_ones a_m_others a_m_bytes a_m_anew a_m_values cI cB cZ cP cC above below retired manyLine bytesLong tokenAt tokenLong token value told refused) → va_S A s.heap H locs → lv_has ls 4 [(0, .ref a_m)] → wp_X10_hour_J25 told Post  refused → W p l e rm_X10_hour s m ar bl meth c H locs 0 0 (MQ bl (qq_X10_hour D a_m a_m_told a_m_kept a_m_isKept a_m_refused a_m_months a_m_heirs a_m_lasts a_m_cares a_m_bestCares a_m_ones a_m_others a_m_bytes a_m_anew a_m_values cI cB cZ cP cC above below retired manyLine bytesLong tokenAt tokenLong token value told Post A) ar s 0 0 A) (F0 m 25 ls []) := by
  obtain ⟨hx, hb, hr, hlocks, hml, hown, hts, hK, hA⟩ := id C0
  intro refused H locs ls hP hD hS hl hw
  refine lv_aload_n hx hb dX10_hour_25 rfl (lv_at hl 0 rfl) ?_
  refine lv_bipush (v := (-2)) hx hb dX10_hour_26 (by decide) ?_
  refine mx_ki (mx_rV (rm := rm_X10_bad) (rest := []) (C := RX10) hx hb hml hown hts (c_X10_bad l D cI cB cZ cP cC a_m a_m_told a_m_kept a_m_isKept a_m_refused a_m_months a_m_heirs a_m_lasts a_m_cares a_m_bestCares a_m_ones a_m_others a_m_bytes a_m_anew a_m_values above below retired manyLine bytesLong tokenAt tokenLong token value refused (-2) _ _ hw) q_166 q_167 q_168 q_5 q_169 hd_X10_bad ⟨(Nat.le_of_ble_eq_true rfl), (Nat.le_of_ble_eq_true rfl)⟩ rfl rfl hK hP hD [0, 2] rfl rfl 10 0 rfl rfl rfl rfl hl.1 rfl (Nat.le_of_ble_eq_true rfl) dX10_hour_28 ⟨(Nat.le_of_ble_eq_true rfl), (Nat.le_of_ble_eq_true rfl)⟩) hP hD hS hA [0, 2] [1] [1, 0, 2] (fun u => ww_X10_hour a_m a_m_told a_m_kept a_m_isKept a_m_refused a_m_months a_m_heirs a_m_lasts a_m_cares a_m_bestCares a_m_ones a_m_others a_m_bytes a_m_anew a_m_values cI cB cZ cP cC above below retired manyLine bytesLong tokenAt tokenLong token value told u) rfl rfl rfl (by decide) rfl (fun _ => rfl) (fun r_3 refused_4 H locs hw hP hD hS => ?_)
  try dsimp only at hw
  replace hP : va_P D vwCl (ww_X10_hour a_m a_m_told a_m_kept a_m_isKept a_m_refused a_m_months a_m_heirs a_m_lasts a_m_cares a_m_bestCares a_m_ones a_m_others a_m_bytes a_m_anew a_m_values cI cB cZ cP cC above below retired manyLine bytesLong tokenAt tokenLong token value told refused_4) H := hP
  replace hD : va_D A (ww_X10_hour a_m a_m_told a_m_kept a_m_isKept a_m_refused a_m_months a_m_heirs a_m_lasts a_m_cares a_m_bestCares a_m_ones a_m_others a_m_bytes a_m_anew a_m_values cI cB cZ cP cC above below retired manyLine bytesLong tokenAt tokenLong token value told refused_4) := hD
  exact mx_iret refused_4 hx hb hr hlocks rfl hw hK hP hD hS dX10_hour_31
def wp_X10_hour (told : Nat → Int32) (refused : Nat → Int32) (v1 : Int32) (v2 : Int32) (v3 : Int32) (Post : Int32 → (Nat → Int32) → Prop) : Prop :=
  (wp_X10_isInfant told v1 (fun r_1 => ((r_1 = 0 → (wp_X10_hour_J25 told Post refused)) ∧ (¬ r_1 = 0 → (wp_X10_isHour v2 (fun r_5 => ((r_5 = 0 → (wp_X10_hour_J25 told Post refused)) ∧ (¬ r_5 = 0 → (wp_X10_in (v3.toInt64) 0 1 (fun r_7 => ((r_7 = 0 → (wp_X10_hour_J25 told Post refused)) ∧ (¬ r_7 = 0 → ((v3 = 1 → (wp_X10_criesIn told v1 v2 (fun r_12 => Post r_12 refused))) ∧ (¬ v3 = 1 → (wp_X10_isAwake told v1 v2 (fun r_10 => ((r_10 = 0 → Post 1 refused) ∧ (¬ r_10 = 0 → Post 0 refused))))))))))))))))))
set_option maxHeartbeats 4000000 in
set_option maxRecDepth 100000 in
theorem c_X10_hour (l : Launch) (D : va_G) (cI cB cZ cP cC : ClassId) (a_m a_m_told a_m_kept a_m_isKept a_m_refused a_m_months a_m_heirs a_m_lasts a_m_cares a_m_bestCares a_m_ones a_m_others a_m_bytes a_m_anew a_m_values : Nat) (above : Int64) (below : Int64) (retired : Int32) (manyLine : Int32) (bytesLong : Int32) (tokenAt : Int32) (tokenLong : Int32) (token : Int32) (value : Int32) (told : Nat → Int32) (refused : Nat → Int32) (v1 : Int32) (v2 : Int32) (v3 : Int32) (sz : Nat) (Post : Int32 → (Nat → Int32) → Prop) (hw : wp_X10_hour told refused v1 v2 v3 Post) :
    Met l yX10_hour (Cond.code yX10_hour cX10_hour 4 (some .int) :: wsAll) rm_X10_hour (va_Pc [.ref a_m, .int v1, .int v2, .int v3] (mxP D (mxTy cI cB cZ cP cC) sz (ww_X10_hour a_m a_m_told a_m_kept a_m_isKept a_m_refused a_m_months a_m_heirs a_m_lasts a_m_cares a_m_bestCares a_m_ones a_m_others a_m_bytes a_m_anew a_m_values cI cB cZ cP cC above below retired manyLine bytesLong tokenAt tokenLong token value told refused))) (qq_X10_hour D a_m a_m_told a_m_kept a_m_isKept a_m_refused a_m_months a_m_heirs a_m_lasts a_m_cares a_m_bestCares a_m_ones a_m_others a_m_bytes a_m_anew a_m_values cI cB cZ cP cC above below retired manyLine bytesLong tokenAt tokenLong token value told Post (va_A (ww_X10_hour a_m a_m_told a_m_kept a_m_isKept a_m_refused a_m_months a_m_heirs a_m_lasts a_m_cares a_m_bestCares a_m_ones a_m_others a_m_bytes a_m_anew a_m_values cI cB cZ cP cC above below retired manyLine bytesLong tokenAt tokenLong token value told refused) sz)) 0 0 (va_A (ww_X10_hour a_m a_m_told a_m_kept a_m_isKept a_m_refused a_m_months a_m_heirs a_m_lasts a_m_cares a_m_bestCares a_m_ones a_m_others a_m_bytes a_m_anew a_m_values cI cB cZ cP cC above below retired manyLine bytesLong tokenAt tokenLong token value told refused) sz) := by
  refine mx_of (Qc := qq_X10_hour D a_m a_m_told a_m_kept a_m_isKept a_m_refused a_m_months a_m_heirs a_m_lasts a_m_cares a_m_bestCares a_m_ones a_m_others a_m_bytes a_m_anew a_m_values cI cB cZ cP cC above below retired manyLine bytesLong tokenAt tokenLong token value told Post) (by decide) (Nat.le_of_ble_eq_true rfl) ?_
  intro p e s m bl meth c A ls C0 hP hD hS hl
  replace C0 : mxC p s m [.ref a_m, .int v1, .int v2, .int v3].toArray meth c cX10_hour RX10 (some .int) 4 D (mxTy cI cB cZ cP cC) A := C0
  obtain ⟨hx, hb, hr, hlocks, hml, hown, hts, hK, hA⟩ := id C0
  replace hl : lv_has ls 4 [(0, .ref a_m), (1, .int v1), (2, .int v2), (3, .int v3)] := hl
  unfold wp_X10_hour at hw
  refine lv_aload_n hx hb dX10_hour_0 rfl (lv_at hl 0 rfl) ?_
  refine lv_iload_n hx hb dX10_hour_1 rfl (lv_at hl 1 rfl) ?_
  refine mx_ki (mx_rV (rm := rm_X10_isInfant) (rest := []) (C := RX10) hx hb hml hown hts (c_X10_isInfant l D cI cB cZ cP cC a_m a_m_told a_m_kept a_m_isKept a_m_refused a_m_months a_m_heirs a_m_lasts a_m_cares a_m_bestCares a_m_ones a_m_others a_m_bytes a_m_anew a_m_values above below retired manyLine bytesLong tokenAt tokenLong token value told v1 _ _ hw) q_472 q_473 q_474 q_5 q_475 hd_X10_isInfant ⟨(Nat.le_of_ble_eq_true rfl), (Nat.le_of_ble_eq_true rfl)⟩ rfl rfl hK hP hD [0, 1] rfl rfl 10 0 rfl rfl rfl rfl hl.1 rfl (Nat.le_of_ble_eq_true rfl) dX10_hour_2 ⟨(Nat.le_of_ble_eq_true rfl), (Nat.le_of_ble_eq_true rfl)⟩) hP hD hS hA [0, 1] [2] [1, 2, 0] (fun _ => ww_X10_hour a_m a_m_told a_m_kept a_m_isKept a_m_refused a_m_months a_m_heirs a_m_lasts a_m_cares a_m_bestCares a_m_ones a_m_others a_m_bytes a_m_anew a_m_values cI cB cZ cP cC above below retired manyLine bytesLong tokenAt tokenLong token value told refused) rfl rfl rfl (by decide) rfl (fun _ => rfl) (fun r_1 u H locs hw hP hD hS => ?_)
  try dsimp only at hw
  replace hP : va_P D vwCl (ww_X10_hour a_m a_m_told a_m_kept a_m_isKept a_m_refused a_m_months a_m_heirs a_m_lasts a_m_cares a_m_bestCares a_m_ones a_m_others a_m_bytes a_m_anew a_m_values cI cB cZ cP cC above below retired manyLine bytesLong tokenAt tokenLong token value told refused) H := hP
  replace hD : va_D A (ww_X10_hour a_m a_m_told a_m_kept a_m_isKept a_m_refused a_m_months a_m_heirs a_m_lasts a_m_cares a_m_bestCares a_m_ones a_m_others a_m_bytes a_m_anew a_m_values cI cB cZ cP cC above below retired manyLine bytesLong tokenAt tokenLong token value told refused) := hD
  refine lv_if_eq (tgt := 25) hx hb dX10_hour_5 (by decide) (fun c_2 => ?_) (fun c_2 => ?_)
  · replace hw := hw.1 c_2
    exact k_X10_hour_J25 C0  refused _ _ _ hP hD hS (lv_sub hl [0] rfl) hw
  · replace hw := hw.2 c_2
    refine lv_iload_n hx hb dX10_hour_8 rfl (lv_at hl 2 rfl) ?_
    refine mx_ki (mx_rS (rm := rm_X10_isHour) (rest := []) hx hb hml hown hts (c_X10_isHour l D cI cB cZ cP cC v2 _ _ hw) q_600 q_601 q_5 q_602 hd_X10_isHour ⟨(Nat.le_of_ble_eq_true rfl), (Nat.le_of_ble_eq_true rfl)⟩ rfl rfl hK hP hD [] rfl rfl rfl hl.1 rfl (Nat.le_of_ble_eq_true rfl) dX10_hour_9 ⟨(Nat.le_of_ble_eq_true rfl), (Nat.le_of_ble_eq_true rfl)⟩) hP hD hS hA [] [0, 1, 2] [0, 1, 2] (fun _ => ww_X10_hour a_m a_m_told a_m_kept a_m_isKept a_m_refused a_m_months a_m_heirs a_m_lasts a_m_cares a_m_bestCares a_m_ones a_m_others a_m_bytes a_m_anew a_m_values cI cB cZ cP cC above below retired manyLine bytesLong tokenAt tokenLong token value told refused) rfl rfl rfl (by decide) rfl (fun _ => rfl) (fun r_5 u H locs hw hP hD hS => ?_)
    try dsimp only at hw
    replace hP : va_P D vwCl (ww_X10_hour a_m a_m_told a_m_kept a_m_isKept a_m_refused a_m_months a_m_heirs a_m_lasts a_m_cares a_m_bestCares a_m_ones a_m_others a_m_bytes a_m_anew a_m_values cI cB cZ cP cC above below retired manyLine bytesLong tokenAt tokenLong token value told refused) H := hP
    replace hD : va_D A (ww_X10_hour a_m a_m_told a_m_kept a_m_isKept a_m_refused a_m_months a_m_heirs a_m_lasts a_m_cares a_m_bestCares a_m_ones a_m_others a_m_bytes a_m_anew a_m_values cI cB cZ cP cC above below retired manyLine bytesLong tokenAt tokenLong token value told refused) := hD
    refine lv_if_eq (tgt := 25) hx hb dX10_hour_12 (by decide) (fun c_6 => ?_) (fun c_6 => ?_)
    · replace hw := hw.1 c_6
      exact k_X10_hour_J25 C0  refused _ _ _ hP hD hS (lv_sub hl [0] rfl) hw
    · replace hw := hw.2 c_6
      refine lv_iload_n hx hb dX10_hour_15 rfl (lv_at hl 3 rfl) ?_
      refine lv_i2l (v := v3.toInt64) hx hb dX10_hour_16 rfl ?_
      refine lv_lconst (v := 0) hx hb dX10_hour_17 rfl ?_
      refine lv_lconst (v := 1) hx hb dX10_hour_18 rfl ?_
      refine mx_ki (mx_rS (rm := rm_X10_in) (rest := []) hx hb hml hown hts (c_X10_in l D cI cB cZ cP cC (v3.toInt64) 0 1 _ _ hw) q_163 q_164 q_5 q_165 hd_X10_in ⟨(Nat.le_of_ble_eq_true rfl), (Nat.le_of_ble_eq_true rfl)⟩ rfl rfl hK hP hD [] rfl rfl rfl hl.1 rfl (Nat.le_of_ble_eq_true rfl) dX10_hour_19 ⟨(Nat.le_of_ble_eq_true rfl), (Nat.le_of_ble_eq_true rfl)⟩) hP hD hS hA [] [0, 1, 2] [0, 1, 2] (fun _ => ww_X10_hour a_m a_m_told a_m_kept a_m_isKept a_m_refused a_m_months a_m_heirs a_m_lasts a_m_cares a_m_bestCares a_m_ones a_m_others a_m_bytes a_m_anew a_m_values cI cB cZ cP cC above below retired manyLine bytesLong tokenAt tokenLong token value told refused) rfl rfl rfl (by decide) rfl (fun _ => rfl) (fun r_7 u H locs hw hP hD hS => ?_)
      try dsimp only at hw
      replace hP : va_P D vwCl (ww_X10_hour a_m a_m_told a_m_kept a_m_isKept a_m_refused a_m_months a_m_heirs a_m_lasts a_m_cares a_m_bestCares a_m_ones a_m_others a_m_bytes a_m_anew a_m_values cI cB cZ cP cC above below retired manyLine bytesLong tokenAt tokenLong token value told refused) H := hP
      replace hD : va_D A (ww_X10_hour a_m a_m_told a_m_kept a_m_isKept a_m_refused a_m_months a_m_heirs a_m_lasts a_m_cares a_m_bestCares a_m_ones a_m_others a_m_bytes a_m_anew a_m_values cI cB cZ cP cC above below retired manyLine bytesLong tokenAt tokenLong token value told refused) := hD
      refine lv_if_ne (tgt := 32) hx hb dX10_hour_22 (by decide) (fun c_8 => ?_) (fun c_8 => ?_)
      · replace hw := hw.2 c_8
        refine lv_iload_n hx hb dX10_hour_32 rfl (lv_at hl 3 rfl) ?_
        refine lv_iconst (v := 1) hx hb dX10_hour_33 (by decide) ?_
        refine lv_icmp_ne (tgt := 46) hx hb dX10_hour_34 (by decide) (fun c_9 => ?_) (fun c_9 => ?_)
        · replace hw := hw.2 c_9
          refine lv_aload_n hx hb dX10_hour_46 rfl (lv_at hl 0 rfl) ?_
          refine lv_iload_n hx hb dX10_hour_47 rfl (lv_at hl 1 rfl) ?_
          refine lv_iload_n hx hb dX10_hour_48 rfl (lv_at hl 2 rfl) ?_
          refine mx_ki (mx_rV (rm := rm_X10_isAwake) (rest := []) (C := RX10) hx hb hml hown hts (c_X10_isAwake l D cI cB cZ cP cC a_m a_m_told a_m_kept a_m_isKept a_m_refused a_m_months a_m_heirs a_m_lasts a_m_cares a_m_bestCares a_m_ones a_m_others a_m_bytes a_m_anew a_m_values above below retired manyLine bytesLong tokenAt tokenLong token value told v1 v2 _ _ hw) q_608 q_609 q_610 q_5 q_611 hd_X10_isAwake ⟨(Nat.le_of_ble_eq_true rfl), (Nat.le_of_ble_eq_true rfl)⟩ rfl rfl hK hP hD [0, 1] rfl rfl 10 0 rfl rfl rfl rfl hl.1 rfl (Nat.le_of_ble_eq_true rfl) dX10_hour_49 ⟨(Nat.le_of_ble_eq_true rfl), (Nat.le_of_ble_eq_true rfl)⟩) hP hD hS hA [0, 1] [2] [1, 2, 0] (fun _ => ww_X10_hour a_m a_m_told a_m_kept a_m_isKept a_m_refused a_m_months a_m_heirs a_m_lasts a_m_cares a_m_bestCares a_m_ones a_m_others a_m_bytes a_m_anew a_m_values cI cB cZ cP cC above below retired manyLine bytesLong tokenAt tokenLong token value told refused) rfl rfl rfl (by decide) rfl (fun _ => rfl) (fun r_10 u H locs hw hP hD hS => ?_)
          try dsimp only at hw
          replace hP : va_P D vwCl (ww_X10_hour a_m a_m_told a_m_kept a_m_isKept a_m_refused a_m_months a_m_heirs a_m_lasts a_m_cares a_m_bestCares a_m_ones a_m_others a_m_bytes a_m_anew a_m_values cI cB cZ cP cC above below retired manyLine bytesLong tokenAt tokenLong token value told refused) H := hP
          replace hD : va_D A (ww_X10_hour a_m a_m_told a_m_kept a_m_isKept a_m_refused a_m_months a_m_heirs a_m_lasts a_m_cares a_m_bestCares a_m_ones a_m_others a_m_bytes a_m_anew a_m_values cI cB cZ cP cC above below retired manyLine bytesLong tokenAt tokenLong token value told refused) := hD
          refine lv_if_eq (tgt := 59) hx hb dX10_hour_52 (by decide) (fun c_11 => ?_) (fun c_11 => ?_)
          · replace hw := hw.1 c_11
            refine lv_iconst (v := 1) hx hb dX10_hour_59 (by decide) ?_
            exact mx_iret refused hx hb hr hlocks rfl hw hK hP hD hS dX10_hour_60
          · replace hw := hw.2 c_11
            refine lv_iconst (v := 0) hx hb dX10_hour_55 (by decide) ?_
            refine lv_goto (tgt := 60) hx hb dX10_hour_56 (by decide) ?_
            exact mx_iret refused hx hb hr hlocks rfl hw hK hP hD hS dX10_hour_60
        · replace hw := hw.1 c_9
          refine lv_aload_n hx hb dX10_hour_37 rfl (lv_at hl 0 rfl) ?_
          refine lv_iload_n hx hb dX10_hour_38 rfl (lv_at hl 1 rfl) ?_
          refine lv_iload_n hx hb dX10_hour_39 rfl (lv_at hl 2 rfl) ?_
          refine mx_ki (mx_rV (rm := rm_X10_criesIn) (rest := []) (C := RX10) hx hb hml hown hts (c_X10_criesIn l D cI cB cZ cP cC a_m a_m_told a_m_kept a_m_isKept a_m_refused a_m_months a_m_heirs a_m_lasts a_m_cares a_m_bestCares a_m_ones a_m_others a_m_bytes a_m_anew a_m_values above below retired manyLine bytesLong tokenAt tokenLong token value told v1 v2 _ _ hw) q_604 q_605 q_606 q_5 q_607 hd_X10_criesIn ⟨(Nat.le_of_ble_eq_true rfl), (Nat.le_of_ble_eq_true rfl)⟩ rfl rfl hK hP hD [0, 1] rfl rfl 10 0 rfl rfl rfl rfl hl.1 rfl (Nat.le_of_ble_eq_true rfl) dX10_hour_40 ⟨(Nat.le_of_ble_eq_true rfl), (Nat.le_of_ble_eq_true rfl)⟩) hP hD hS hA [0, 1] [2] [1, 2, 0] (fun _ => ww_X10_hour a_m a_m_told a_m_kept a_m_isKept a_m_refused a_m_months a_m_heirs a_m_lasts a_m_cares a_m_bestCares a_m_ones a_m_others a_m_bytes a_m_anew a_m_values cI cB cZ cP cC above below retired manyLine bytesLong tokenAt tokenLong token value told refused) rfl rfl rfl (by decide) rfl (fun _ => rfl) (fun r_12 u H locs hw hP hD hS => ?_)
          try dsimp only at hw
          replace hP : va_P D vwCl (ww_X10_hour a_m a_m_told a_m_kept a_m_isKept a_m_refused a_m_months a_m_heirs a_m_lasts a_m_cares a_m_bestCares a_m_ones a_m_others a_m_bytes a_m_anew a_m_values cI cB cZ cP cC above below retired manyLine bytesLong tokenAt tokenLong token value told refused) H := hP
          replace hD : va_D A (ww_X10_hour a_m a_m_told a_m_kept a_m_isKept a_m_refused a_m_months a_m_heirs a_m_lasts a_m_cares a_m_bestCares a_m_ones a_m_others a_m_bytes a_m_anew a_m_values cI cB cZ cP cC above below retired manyLine bytesLong tokenAt tokenLong token value told refused) := hD
          refine lv_goto (tgt := 60) hx hb dX10_hour_43 (by decide) ?_
          exact mx_iret refused hx hb hr hlocks rfl hw hK hP hD hS dX10_hour_60
      · replace hw := hw.1 c_8
        exact k_X10_hour_J25 C0  refused _ _ _ hP hD hS (lv_sub hl [0] rfl) hw
/-! PramStateModel.day(I)I -/
abbrev ww_X10_day (a_m a_m_told a_m_kept a_m_isKept a_m_refused a_m_months a_m_heirs a_m_lasts a_m_cares a_m_bestCares a_m_ones a_m_others a_m_bytes a_m_anew a_m_values : Nat) (cI cB cZ cP cC : ClassId) (above : Int64) (below : Int64) (retired : Int32) (manyLine : Int32) (bytesLong : Int32) (tokenAt : Int32) (tokenLong : Int32) (token : Int32) (value : Int32) (told : Nat → Int32) (refused : Nat → Int32) : va_W := [(a_m, .inr (10, [.ref a_m_told, .ref a_m_kept, .ref a_m_isKept, .ref a_m_refused, .long above, .long below, .ref a_m_months, .int retired, .ref a_m_heirs, .ref a_m_lasts, .int manyLine, .ref a_m_cares, .ref a_m_bestCares, .ref a_m_ones, .ref a_m_others, .ref a_m_bytes, .int bytesLong, .int tokenAt, .int tokenLong, .int token, .int value, .ref a_m_anew, .ref a_m_values])), (a_m_told, .inl (cI, 190, .inl told)), (a_m_refused, .inl (cI, 3, .inl refused))]
abbrev qq_X10_day (D : va_G) (a_m a_m_told a_m_kept a_m_isKept a_m_refused a_m_months a_m_heirs a_m_lasts a_m_cares a_m_bestCares a_m_ones a_m_others a_m_bytes a_m_anew a_m_values : Nat) (cI cB cZ cP cC : ClassId) (above : Int64) (below : Int64) (retired : Int32) (manyLine : Int32) (bytesLong : Int32) (tokenAt : Int32) (tokenLong : Int32) (token : Int32) (value : Int32) (told : Nat → Int32) (Post : Int32 → (Nat → Int32) → Prop) (A : Nat → Prop) : Array Value → State → Outcome → State → Prop := va_Qi (fun (r : Int32) (u : (Nat → Int32)) => Post r u) (fun (u : (Nat → Int32)) t => mxB D (mxTy cI cB cZ cP cC) A (ww_X10_day a_m a_m_told a_m_kept a_m_isKept a_m_refused a_m_months a_m_heirs a_m_lasts a_m_cares a_m_bestCares a_m_ones a_m_others a_m_bytes a_m_anew a_m_values cI cB cZ cP cC above below retired manyLine bytesLong tokenAt tokenLong token value told u) t) A
abbrev rm_X10_day : Room := { frames := 4, cells := 0, slots := 0, locals := 94 }
theorem hd_X10_day : yX10_day.cls = RX10 ∧ yX10_day.cls ≠ "java/lang/invoke/MethodHandle" ∧ yX10_day.cls ≠ "java/lang/invoke/VarHandle" ∧ (parseMethodDescriptor yX10_day.desc).map (fun d => d.parameters.length) = some 1 := by decide +kernel
def wp_X10_day (told : Nat → Int32) (refused : Nat → Int32) (v1 : Int32) (Post : Int32 → (Nat → Int32) → Prop) : Prop :=
  (wp_X10_isInfant told v1 (fun r_1 => ((r_1 = 0 → (wp_X10_bad refused (-2) (fun r_3 refused_4 => Post r_3 refused_4))) ∧ (¬ r_1 = 0 → (vp_in (11 + v1) 190 ∧ (wp_X10_dayBy told v1 (told (11 + v1).toNatClampNeg) (fun r_6 => Post r_6 refused)))))))
set_option maxHeartbeats 4000000 in
set_option maxRecDepth 100000 in
theorem c_X10_day (l : Launch) (D : va_G) (cI cB cZ cP cC : ClassId) (a_m a_m_told a_m_kept a_m_isKept a_m_refused a_m_months a_m_heirs a_m_lasts a_m_cares a_m_bestCares a_m_ones a_m_others a_m_bytes a_m_anew a_m_values : Nat) (above : Int64) (below : Int64) (retired : Int32) (manyLine : Int32) (bytesLong : Int32) (tokenAt : Int32) (tokenLong : Int32) (token : Int32) (value : Int32) (told : Nat → Int32) (refused : Nat → Int32) (v1 : Int32) (sz : Nat) (Post : Int32 → (Nat → Int32) → Prop) (hw : wp_X10_day told refused v1 Post) :
    Met l yX10_day (Cond.code yX10_day cX10_day 2 (some .int) :: wsAll) rm_X10_day (va_Pc [.ref a_m, .int v1] (mxP D (mxTy cI cB cZ cP cC) sz (ww_X10_day a_m a_m_told a_m_kept a_m_isKept a_m_refused a_m_months a_m_heirs a_m_lasts a_m_cares a_m_bestCares a_m_ones a_m_others a_m_bytes a_m_anew a_m_values cI cB cZ cP cC above below retired manyLine bytesLong tokenAt tokenLong token value told refused))) (qq_X10_day D a_m a_m_told a_m_kept a_m_isKept a_m_refused a_m_months a_m_heirs a_m_lasts a_m_cares a_m_bestCares a_m_ones a_m_others a_m_bytes a_m_anew a_m_values cI cB cZ cP cC above below retired manyLine bytesLong tokenAt tokenLong token value told Post (va_A (ww_X10_day a_m a_m_told a_m_kept a_m_isKept a_m_refused a_m_months a_m_heirs a_m_lasts a_m_cares a_m_bestCares a_m_ones a_m_others a_m_bytes a_m_anew a_m_values cI cB cZ cP cC above below retired manyLine bytesLong tokenAt tokenLong token value told refused) sz)) 0 0 (va_A (ww_X10_day a_m a_m_told a_m_kept a_m_isKept a_m_refused a_m_months a_m_heirs a_m_lasts a_m_cares a_m_bestCares a_m_ones a_m_others a_m_bytes a_m_anew a_m_values cI cB cZ cP cC above below retired manyLine bytesLong tokenAt tokenLong token value told refused) sz) := by
  refine mx_of (Qc := qq_X10_day D a_m a_m_told a_m_kept a_m_isKept a_m_refused a_m_months a_m_heirs a_m_lasts a_m_cares a_m_bestCares a_m_ones a_m_others a_m_bytes a_m_anew a_m_values cI cB cZ cP cC above below retired manyLine bytesLong tokenAt tokenLong token value told Post) (by decide) (Nat.le_of_ble_eq_true rfl) ?_
  intro p e s m bl meth c A ls C0 hP hD hS hl
  replace C0 : mxC p s m [.ref a_m, .int v1].toArray meth c cX10_day RX10 (some .int) 2 D (mxTy cI cB cZ cP cC) A := C0
  obtain ⟨hx, hb, hr, hlocks, hml, hown, hts, hK, hA⟩ := id C0
  replace hl : lv_has ls 2 [(0, .ref a_m), (1, .int v1)] := hl
  unfold wp_X10_day at hw
  refine lv_aload_n hx hb dX10_day_0 rfl (lv_at hl 0 rfl) ?_
  refine lv_iload_n hx hb dX10_day_1 rfl (lv_at hl 1 rfl) ?_
  refine mx_ki (mx_rV (rm := rm_X10_isInfant) (rest := []) (C := RX10) hx hb hml hown hts (c_X10_isInfant l D cI cB cZ cP cC a_m a_m_told a_m_kept a_m_isKept a_m_refused a_m_months a_m_heirs a_m_lasts a_m_cares a_m_bestCares a_m_ones a_m_others a_m_bytes a_m_anew a_m_values above below retired manyLine bytesLong tokenAt tokenLong token value told v1 _ _ hw) q_472 q_473 q_474 q_5 q_475 hd_X10_isInfant ⟨(Nat.le_of_ble_eq_true rfl), (Nat.le_of_ble_eq_true rfl)⟩ rfl rfl hK hP hD [0, 1] rfl rfl 10 0 rfl rfl rfl rfl hl.1 rfl (Nat.le_of_ble_eq_true rfl) dX10_day_2 ⟨(Nat.le_of_ble_eq_true rfl), (Nat.le_of_ble_eq_true rfl)⟩) hP hD hS hA [0, 1] [2] [1, 2, 0] (fun _ => ww_X10_day a_m a_m_told a_m_kept a_m_isKept a_m_refused a_m_months a_m_heirs a_m_lasts a_m_cares a_m_bestCares a_m_ones a_m_others a_m_bytes a_m_anew a_m_values cI cB cZ cP cC above below retired manyLine bytesLong tokenAt tokenLong token value told refused) rfl rfl rfl (by decide) rfl (fun _ => rfl) (fun r_1 u H locs hw hP hD hS => ?_)
  try dsimp only at hw
  replace hP : va_P D vwCl (ww_X10_day a_m a_m_told a_m_kept a_m_isKept a_m_refused a_m_months a_m_heirs a_m_lasts a_m_cares a_m_bestCares a_m_ones a_m_others a_m_bytes a_m_anew a_m_values cI cB cZ cP cC above below retired manyLine bytesLong tokenAt tokenLong token value told refused) H := hP
  replace hD : va_D A (ww_X10_day a_m a_m_told a_m_kept a_m_isKept a_m_refused a_m_months a_m_heirs a_m_lasts a_m_cares a_m_bestCares a_m_ones a_m_others a_m_bytes a_m_anew a_m_values cI cB cZ cP cC above below retired manyLine bytesLong tokenAt tokenLong token value told refused) := hD
  refine lv_if_eq (tgt := 25) hx hb dX10_day_5 (by decide) (fun c_2 => ?_) (fun c_2 => ?_)
  · replace hw := hw.1 c_2
    refine lv_aload_n hx hb dX10_day_25 rfl (lv_at hl 0 rfl) ?_
    refine lv_bipush (v := (-2)) hx hb dX10_day_26 (by decide) ?_
    refine mx_ki (mx_rV (rm := rm_X10_bad) (rest := []) (C := RX10) hx hb hml hown hts (c_X10_bad l D cI cB cZ cP cC a_m a_m_told a_m_kept a_m_isKept a_m_refused a_m_months a_m_heirs a_m_lasts a_m_cares a_m_bestCares a_m_ones a_m_others a_m_bytes a_m_anew a_m_values above below retired manyLine bytesLong tokenAt tokenLong token value refused (-2) _ _ hw) q_166 q_167 q_168 q_5 q_169 hd_X10_bad ⟨(Nat.le_of_ble_eq_true rfl), (Nat.le_of_ble_eq_true rfl)⟩ rfl rfl hK hP hD [0, 2] rfl rfl 10 0 rfl rfl rfl rfl hl.1 rfl (Nat.le_of_ble_eq_true rfl) dX10_day_28 ⟨(Nat.le_of_ble_eq_true rfl), (Nat.le_of_ble_eq_true rfl)⟩) hP hD hS hA [0, 2] [1] [1, 0, 2] (fun u => ww_X10_day a_m a_m_told a_m_kept a_m_isKept a_m_refused a_m_months a_m_heirs a_m_lasts a_m_cares a_m_bestCares a_m_ones a_m_others a_m_bytes a_m_anew a_m_values cI cB cZ cP cC above below retired manyLine bytesLong tokenAt tokenLong token value told u) rfl rfl rfl (by decide) rfl (fun _ => rfl) (fun r_3 refused_4 H locs hw hP hD hS => ?_)
    try dsimp only at hw
    replace hP : va_P D vwCl (ww_X10_day a_m a_m_told a_m_kept a_m_isKept a_m_refused a_m_months a_m_heirs a_m_lasts a_m_cares a_m_bestCares a_m_ones a_m_others a_m_bytes a_m_anew a_m_values cI cB cZ cP cC above below retired manyLine bytesLong tokenAt tokenLong token value told refused_4) H := hP
    replace hD : va_D A (ww_X10_day a_m a_m_told a_m_kept a_m_isKept a_m_refused a_m_months a_m_heirs a_m_lasts a_m_cares a_m_bestCares a_m_ones a_m_others a_m_bytes a_m_anew a_m_values cI cB cZ cP cC above below retired manyLine bytesLong tokenAt tokenLong token value told refused_4) := hD
    exact mx_iret refused_4 hx hb hr hlocks rfl hw hK hP hD hS dX10_day_31
  · replace hw := hw.2 c_2
    refine lv_aload_n hx hb dX10_day_8 rfl (lv_at hl 0 rfl) ?_
    refine lv_iload_n hx hb dX10_day_9 rfl (lv_at hl 1 rfl) ?_
    refine lv_aload_n hx hb dX10_day_10 rfl (lv_at hl 0 rfl) ?_
    refine mx_get (ci := 10) (C := RX10) (T := TX10) (N := 23) hx hb hown in_wsX100 hts hK hP 0 rfl rfl 0 (by decide) q_91 rfl (v := .ref a_m_told) rfl dX10_day_11 ?_
    refine lv_bipush (v := 11) hx hb dX10_day_14 (by decide) ?_
    refine lv_iload_n hx hb dX10_day_16 rfl (lv_at hl 1 rfl) ?_
    refine lv_iadd hx hb dX10_day_17 ?_
    obtain ⟨h_5, hw⟩ := hw
    refine mx_iald hx hb hK hP 1 0 rfl rfl h_5 (told (11 + v1).toNatClampNeg) rfl dX10_day_18 ?_
    refine mx_ki (mx_rV (rm := rm_X10_dayBy) (rest := []) (C := RX10) hx hb hml hown hts (c_X10_dayBy l D cI cB cZ cP cC a_m a_m_told a_m_kept a_m_isKept a_m_refused a_m_months a_m_heirs a_m_lasts a_m_cares a_m_bestCares a_m_ones a_m_others a_m_bytes a_m_anew a_m_values above below retired manyLine bytesLong tokenAt tokenLong token value told v1 (told (11 + v1).toNatClampNeg) _ _ hw) q_637 q_638 q_639 q_5 q_640 hd_X10_dayBy ⟨(Nat.le_of_ble_eq_true rfl), (Nat.le_of_ble_eq_true rfl)⟩ rfl rfl hK hP hD [0, 1] rfl rfl 10 0 rfl rfl rfl rfl hl.1 rfl (Nat.le_of_ble_eq_true rfl) dX10_day_19 ⟨(Nat.le_of_ble_eq_true rfl), (Nat.le_of_ble_eq_true rfl)⟩) hP hD hS hA [0, 1] [2] [1, 2, 0] (fun _ => ww_X10_day a_m a_m_told a_m_kept a_m_isKept a_m_refused a_m_months a_m_heirs a_m_lasts a_m_cares a_m_bestCares a_m_ones a_m_others a_m_bytes a_m_anew a_m_values cI cB cZ cP cC above below retired manyLine bytesLong tokenAt tokenLong token value told refused) rfl rfl rfl (by decide) rfl (fun _ => rfl) (fun r_6 u H locs hw hP hD hS => ?_)
    try dsimp only at hw
    replace hP : va_P D vwCl (ww_X10_day a_m a_m_told a_m_kept a_m_isKept a_m_refused a_m_months a_m_heirs a_m_lasts a_m_cares a_m_bestCares a_m_ones a_m_others a_m_bytes a_m_anew a_m_values cI cB cZ cP cC above below retired manyLine bytesLong tokenAt tokenLong token value told refused) H := hP
    replace hD : va_D A (ww_X10_day a_m a_m_told a_m_kept a_m_isKept a_m_refused a_m_months a_m_heirs a_m_lasts a_m_cares a_m_bestCares a_m_ones a_m_others a_m_bytes a_m_anew a_m_values cI cB cZ cP cC above below retired manyLine bytesLong tokenAt tokenLong token value told refused) := hD
    refine lv_goto (tgt := 31) hx hb dX10_day_22 (by decide) ?_
    exact mx_iret refused hx hb hr hlocks rfl hw hK hP hD hS dX10_day_31
/-! PramStateModel.reign(I)I -/
abbrev ww_X10_reign (a_m a_m_told a_m_kept a_m_isKept a_m_refused a_m_months a_m_heirs a_m_lasts a_m_cares a_m_bestCares a_m_ones a_m_others a_m_bytes a_m_anew a_m_values : Nat) (cI cB cZ cP cC : ClassId) (above : Int64) (below : Int64) (retired : Int32) (manyLine : Int32) (bytesLong : Int32) (tokenAt : Int32) (tokenLong : Int32) (token : Int32) (value : Int32) (told : Nat → Int32) (refused : Nat → Int32) (months : Nat → Int32) : va_W := [(a_m, .inr (10, [.ref a_m_told, .ref a_m_kept, .ref a_m_isKept, .ref a_m_refused, .long above, .long below, .ref a_m_months, .int retired, .ref a_m_heirs, .ref a_m_lasts, .int manyLine, .ref a_m_cares, .ref a_m_bestCares, .ref a_m_ones, .ref a_m_others, .ref a_m_bytes, .int bytesLong, .int tokenAt, .int tokenLong, .int token, .int value, .ref a_m_anew, .ref a_m_values])), (a_m_told, .inl (cI, 190, .inl told)), (a_m_refused, .inl (cI, 3, .inl refused)), (a_m_months, .inl (cI, 6, .inl months))]
abbrev qq_X10_reign (D : va_G) (a_m a_m_told a_m_kept a_m_isKept a_m_refused a_m_months a_m_heirs a_m_lasts a_m_cares a_m_bestCares a_m_ones a_m_others a_m_bytes a_m_anew a_m_values : Nat) (cI cB cZ cP cC : ClassId) (above : Int64) (below : Int64) (manyLine : Int32) (bytesLong : Int32) (tokenAt : Int32) (tokenLong : Int32) (token : Int32) (value : Int32) (told : Nat → Int32) (Post : Int32 → Int32 → (Nat → Int32) → (Nat → Int32) → Prop) (A : Nat → Prop) : Array Value → State → Outcome → State → Prop := va_Qi (fun (r : Int32) (u : Int32 × (Nat → Int32) × (Nat → Int32)) => Post r u.1 u.2.1 u.2.2) (fun (u : Int32 × (Nat → Int32) × (Nat → Int32)) t => mxB D (mxTy cI cB cZ cP cC) A (ww_X10_reign a_m a_m_told a_m_kept a_m_isKept a_m_refused a_m_months a_m_heirs a_m_lasts a_m_cares a_m_bestCares a_m_ones a_m_others a_m_bytes a_m_anew a_m_values cI cB cZ cP cC above below (u.1) manyLine bytesLong tokenAt tokenLong token value told (u.2.1) (u.2.2)) t) A
abbrev rm_X10_reign : Room := { frames := 2, cells := 0, slots := 0, locals := 44 }
theorem hd_X10_reign : yX10_reign.cls = RX10 ∧ yX10_reign.cls ≠ "java/lang/invoke/MethodHandle" ∧ yX10_reign.cls ≠ "java/lang/invoke/VarHandle" ∧ (parseMethodDescriptor yX10_reign.desc).map (fun d => d.parameters.length) = some 1 := by decide +kernel
def wp_X10_reign_L25 (told : Nat → Int32) (Post : Int32 → Int32 → (Nat → Int32) → (Nat → Int32) → Prop) (K_40 : Int32 → (Nat → Int32) → (Nat → Int32) → Prop) : Nat → Int32 → Int32 → Int32 → (Nat → Int32) → (Nat → Int32) → Prop
  | 0, _, _, _, _, _ => False
  | n + 1, v1, v2, retired, refused, months => ((v1 ≤ v2 → K_40 retired refused months) ∧ (¬ v1 ≤ v2 → (wp_X10_goMonth told retired months (fun retired_6 months_7 => (∀ x_8 : Int32, x_8 = v2 + 1 → wp_X10_reign_L25 told Post K_40 n v1 x_8 retired_6 refused months_7)))))
set_option maxHeartbeats 4000000 in
set_option maxRecDepth 100000 in
theorem k_X10_reign_L25 {p : Program} {l : Launch} {e : Env} {s : State} {m : MethodId} {ar : Array Value} {bl : List Frame} {meth : Method} {c : Code} {D : va_G} {A : Nat → Prop} {cI cB cZ cP cC : ClassId} {a_m a_m_told a_m_kept a_m_isKept a_m_refused a_m_months a_m_heirs a_m_lasts a_m_cares a_m_bestCares a_m_ones a_m_others a_m_bytes a_m_anew a_m_values : Nat} {above : Int64} {below : Int64} {manyLine : Int32} {bytesLong : Int32} {tokenAt : Int32} {tokenLong : Int32} {token : Int32} {value : Int32} {told : Nat → Int32} {Post : Int32 → Int32 → (Nat → Int32) → (Nat → Int32) → Prop} {K_40 : Int32 → (Nat → Int32) → (Nat → Int32) → Prop} (C0 : mxC p s m ar meth c cX10_reign RX10 (some .int) 3 D (mxTy cI cB cZ cP cC) A)
    (hK_40 : ∀ (retired : Int32) (refused : Nat → Int32) (months : Nat → Int32) (H : Heap) (locs : List Loc) (ls : Array Slot), va_P D vwCl (ww_X10_reign a_m a_m_told a_m_kept a_m_isKept a_m_refused a_m_months a_m_heirs a_m_lasts a_m_cares a_m_bestCares a_m_ones a_m_others a_m_bytes a_m_anew a_m_values cI cB cZ cP cC above below retired manyLine bytesLong tokenAt tokenLong token value told refused months) H → va_D A (ww_X10_reign a_m a_m_told a_m_kept a_m_isKept a_m_refused a_m_months a_m_heirs a_m_lasts a_m_cares a_m_bestCares a_m_ones a_m_others a_m_bytes a_m_anew a_m_values cI cB cZ cP cC above below retired manyLine bytesLong tokenAt tokenLong token value told refused months) → va_S A s.heap H locs → lv_has ls 3 [(0, .ref a_m)] → K_40 retired refused months → W p l e rm_X10_reign s m ar bl meth c H locs 0 0 (MQ bl (qq_X10_reign D a_m a_m_told a_m_kept a_m_isKept a_m_refused a_m_months a_m_heirs a_m_lasts a_m_cares a_m_bestCares a_m_ones a_m_others a_m_bytes a_m_anew a_m_values cI cB cZ cP cC above below manyLine bytesLong tokenAt tokenLong token value told Post A) ar s 0 0 A) (F0 m 40 ls [])) :
    ∀ (n : Nat) (v1 : Int32) (v2 : Int32) (retired : Int32) (refused : Nat → Int32) (months : Nat → Int32) (H : Heap) (locs : List Loc) (ls : Array Slot), va_P D vwCl (ww_X10_reign a_m a_m_told a_m_kept a_m_isKept a_m_refused a_m_months a_m_heirs a_m_lasts a_m_cares a_m_bestCares a_m_ones a_m_others a_m_bytes a_m_anew a_m_values cI cB cZ cP cC above below retired manyLine bytesLong tokenAt tokenLong token value told refused months) H → va_D A (ww_X10_reign a_m a_m_told a_m_kept a_m_isKept a_m_refused a_m_months a_m_heirs a_m_lasts a_m_cares a_m_bestCares a_m_ones a_m_others a_m_bytes a_m_anew a_m_values cI cB cZ cP cC above below retired manyLine bytesLong tokenAt tokenLong token value told refused months) → va_S A s.heap H locs → lv_has ls 3 [(0, .ref a_m), (1, .int v1), (2, .int v2)] → wp_X10_reign_L25 told Post K_40 n v1 v2 retired refused months → W p l e rm_X10_reign s m ar bl meth c H locs 0 0 (MQ bl (qq_X10_reign D a_m a_m_told a_m_kept a_m_isKept a_m_refused a_m_months a_m_heirs a_m_lasts a_m_cares a_m_bestCares a_m_ones a_m_others a_m_bytes a_m_anew a_m_values cI cB cZ cP cC above below manyLine bytesLong tokenAt tokenLong token value told Post A) ar s 0 0 A) (F0 m 25 ls []) := by
  obtain ⟨hx, hb, hr, hlocks, hml, hown, hts, hK, hA⟩ := id C0
  intro n
  induction n with
  | zero =>
    intro v1 v2 retired refused months H locs ls hP hD hS hl hw
    exact absurd hw (fun h => h)
  | succ n ih =>
    intro v1 v2 retired refused months H locs ls hP hD hS hl hw
    refine lv_iload_n hx hb dX10_reign_25 rfl (lv_at hl 2 rfl) ?_
    refine lv_iload_n hx hb dX10_reign_26 rfl (lv_at hl 1 rfl) ?_
    refine lv_icmp_ge (tgt := 40) hx hb dX10_reign_27 (by decide) (fun c_5 => ?_) (fun c_5 => ?_)
    · replace hw := hw.1 c_5
      exact hK_40 retired refused months _ _ _ hP hD hS (lv_sub hl [0] rfl) hw
    · replace hw := hw.2 c_5
      refine lv_aload_n hx hb dX10_reign_30 rfl (lv_at hl 0 rfl) ?_
      refine mx_kv (mx_rV (rm := rm_X10_goMonth) (rest := []) (C := RX10) hx hb hml hown hts (c_X10_goMonth l D cI cB cZ cP cC a_m a_m_told a_m_kept a_m_isKept a_m_refused a_m_months a_m_heirs a_m_lasts a_m_cares a_m_bestCares a_m_ones a_m_others a_m_bytes a_m_anew a_m_values above below retired manyLine bytesLong tokenAt tokenLong token value told months _ _ hw) q_441 q_442 q_443 q_5 q_444 hd_X10_goMonth ⟨(Nat.le_of_ble_eq_true rfl), (Nat.le_of_ble_eq_true rfl)⟩ rfl rfl hK hP hD [0, 1, 3] rfl rfl 10 0 rfl rfl rfl rfl hl.1 rfl (Nat.le_of_ble_eq_true rfl) dX10_reign_31 ⟨(Nat.le_of_ble_eq_true rfl), (Nat.le_of_ble_eq_true rfl)⟩) hP hD hS hA [0, 1, 3] [2] [1, 2, 0, 3] (fun u => ww_X10_reign a_m a_m_told a_m_kept a_m_isKept a_m_refused a_m_months a_m_heirs a_m_lasts a_m_cares a_m_bestCares a_m_ones a_m_others a_m_bytes a_m_anew a_m_values cI cB cZ cP cC above below (u.1) manyLine bytesLong tokenAt tokenLong token value told refused (u.2)) rfl rfl rfl (by decide) rfl (fun _ => rfl) (fun u H locs hw hP hD hS => ?_)
      obtain ⟨retired_6, months_7⟩ := u
      try dsimp only at hw
      replace hP : va_P D vwCl (ww_X10_reign a_m a_m_told a_m_kept a_m_isKept a_m_refused a_m_months a_m_heirs a_m_lasts a_m_cares a_m_bestCares a_m_ones a_m_others a_m_bytes a_m_anew a_m_values cI cB cZ cP cC above below retired_6 manyLine bytesLong tokenAt tokenLong token value told refused months_7) H := hP
      replace hD : va_D A (ww_X10_reign a_m a_m_told a_m_kept a_m_isKept a_m_refused a_m_months a_m_heirs a_m_lasts a_m_cares a_m_bestCares a_m_ones a_m_others a_m_bytes a_m_anew a_m_values cI cB cZ cP cC above below retired_6 manyLine bytesLong tokenAt tokenLong token value told refused months_7) := hD
      obtain ⟨x_8, ex_8⟩ : ∃ y : Int32, y = v2 + 1 := ⟨_, rfl⟩
      replace hw := hw x_8 ex_8
      refine lv_iinc (v := x_8) (lv' := [(2, .int x_8), (0, .ref a_m), (1, .int v1)]) hx hb dX10_reign_34 hl (k := 2) rfl (by rw [ex_8]; rfl) (by decide) rfl (fun ls hl => ?_)
      refine lv_goto (tgt := 25) hx hb dX10_reign_37 (by decide) ?_
      exact ih v1 x_8 retired_6 refused months_7 _ _ _ hP hD hS (lv_sub hl [1, 2, 0] rfl) hw
def wp_X10_reign (told : Nat → Int32) (retired : Int32) (refused : Nat → Int32) (months : Nat → Int32) (v1 : Int32) (Post : Int32 → Int32 → (Nat → Int32) → (Nat → Int32) → Prop) : Prop :=
  (wp_X10_in (v1.toInt64) 0 60 (fun r_1 => ((r_1 = 0 → (wp_X10_bad refused (-2) (fun r_14 refused_15 => Post r_14 retired refused_15 months))) ∧ (¬ r_1 = 0 → (wp_X10_layHand told retired months (fun retired_3 months_4 => (∃ k_13 : Nat, wp_X10_reign_L25 told Post (fun (retired_9 : Int32) (refused_10 : Nat → Int32) (months_11 : Nat → Int32) => (wp_X10_reigns retired_9 told months_11 (fun r_12 => Post r_12 retired_9 refused_10 months_11))) k_13 v1 0 retired_3 refused months_4)))))))
set_option maxHeartbeats 4000000 in
set_option maxRecDepth 100000 in
theorem c_X10_reign (l : Launch) (D : va_G) (cI cB cZ cP cC : ClassId) (a_m a_m_told a_m_kept a_m_isKept a_m_refused a_m_months a_m_heirs a_m_lasts a_m_cares a_m_bestCares a_m_ones a_m_others a_m_bytes a_m_anew a_m_values : Nat) (above : Int64) (below : Int64) (retired : Int32) (manyLine : Int32) (bytesLong : Int32) (tokenAt : Int32) (tokenLong : Int32) (token : Int32) (value : Int32) (told : Nat → Int32) (refused : Nat → Int32) (months : Nat → Int32) (v1 : Int32) (sz : Nat) (Post : Int32 → Int32 → (Nat → Int32) → (Nat → Int32) → Prop) (hw : wp_X10_reign told retired refused months v1 Post) :
    Met l yX10_reign (Cond.code yX10_reign cX10_reign 3 (some .int) :: wsAll) rm_X10_reign (va_Pc [.ref a_m, .int v1] (mxP D (mxTy cI cB cZ cP cC) sz (ww_X10_reign a_m a_m_told a_m_kept a_m_isKept a_m_refused a_m_months a_m_heirs a_m_lasts a_m_cares a_m_bestCares a_m_ones a_m_others a_m_bytes a_m_anew a_m_values cI cB cZ cP cC above below retired manyLine bytesLong tokenAt tokenLong token value told refused months))) (qq_X10_reign D a_m a_m_told a_m_kept a_m_isKept a_m_refused a_m_months a_m_heirs a_m_lasts a_m_cares a_m_bestCares a_m_ones a_m_others a_m_bytes a_m_anew a_m_values cI cB cZ cP cC above below manyLine bytesLong tokenAt tokenLong token value told Post (va_A (ww_X10_reign a_m a_m_told a_m_kept a_m_isKept a_m_refused a_m_months a_m_heirs a_m_lasts a_m_cares a_m_bestCares a_m_ones a_m_others a_m_bytes a_m_anew a_m_values cI cB cZ cP cC above below retired manyLine bytesLong tokenAt tokenLong token value told refused months) sz)) 0 0 (va_A (ww_X10_reign a_m a_m_told a_m_kept a_m_isKept a_m_refused a_m_months a_m_heirs a_m_lasts a_m_cares a_m_bestCares a_m_ones a_m_others a_m_bytes a_m_anew a_m_values cI cB cZ cP cC above below retired manyLine bytesLong tokenAt tokenLong token value told refused months) sz) := by
  refine mx_of (Qc := qq_X10_reign D a_m a_m_told a_m_kept a_m_isKept a_m_refused a_m_months a_m_heirs a_m_lasts a_m_cares a_m_bestCares a_m_ones a_m_others a_m_bytes a_m_anew a_m_values cI cB cZ cP cC above below manyLine bytesLong tokenAt tokenLong token value told Post) (by decide) (Nat.le_of_ble_eq_true rfl) ?_
  intro p e s m bl meth c A ls C0 hP hD hS hl
  replace C0 : mxC p s m [.ref a_m, .int v1].toArray meth c cX10_reign RX10 (some .int) 3 D (mxTy cI cB cZ cP cC) A := C0
  obtain ⟨hx, hb, hr, hlocks, hml, hown, hts, hK, hA⟩ := id C0
  replace hl : lv_has ls 3 [(0, .ref a_m), (1, .int v1)] := hl
  unfold wp_X10_reign at hw
  refine lv_iload_n hx hb dX10_reign_0 rfl (lv_at hl 1 rfl) ?_
  refine lv_i2l (v := v1.toInt64) hx hb dX10_reign_1 rfl ?_
  refine lv_lconst (v := 0) hx hb dX10_reign_2 rfl ?_
  refine lv_ldc2 (v := 60) hx hb hown (hts _ q_431) dX10_reign_3 ?_
  refine mx_ki (mx_rS (rm := rm_X10_in) (rest := []) hx hb hml hown hts (c_X10_in l D cI cB cZ cP cC (v1.toInt64) 0 60 _ _ hw) q_163 q_164 q_5 q_165 hd_X10_in ⟨(Nat.le_of_ble_eq_true rfl), (Nat.le_of_ble_eq_true rfl)⟩ rfl rfl hK hP hD [] rfl rfl rfl hl.1 rfl (Nat.le_of_ble_eq_true rfl) dX10_reign_6 ⟨(Nat.le_of_ble_eq_true rfl), (Nat.le_of_ble_eq_true rfl)⟩) hP hD hS hA [] [0, 1, 2, 3] [0, 1, 2, 3] (fun _ => ww_X10_reign a_m a_m_told a_m_kept a_m_isKept a_m_refused a_m_months a_m_heirs a_m_lasts a_m_cares a_m_bestCares a_m_ones a_m_others a_m_bytes a_m_anew a_m_values cI cB cZ cP cC above below retired manyLine bytesLong tokenAt tokenLong token value told refused months) rfl rfl rfl (by decide) rfl (fun _ => rfl) (fun r_1 u H locs hw hP hD hS => ?_)
  try dsimp only at hw
  replace hP : va_P D vwCl (ww_X10_reign a_m a_m_told a_m_kept a_m_isKept a_m_refused a_m_months a_m_heirs a_m_lasts a_m_cares a_m_bestCares a_m_ones a_m_others a_m_bytes a_m_anew a_m_values cI cB cZ cP cC above below retired manyLine bytesLong tokenAt tokenLong token value told refused months) H := hP
  replace hD : va_D A (ww_X10_reign a_m a_m_told a_m_kept a_m_isKept a_m_refused a_m_months a_m_heirs a_m_lasts a_m_cares a_m_bestCares a_m_ones a_m_others a_m_bytes a_m_anew a_m_values cI cB cZ cP cC above below retired manyLine bytesLong tokenAt tokenLong token value told refused months) := hD
  refine lv_if_ne (tgt := 19) hx hb dX10_reign_9 (by decide) (fun c_2 => ?_) (fun c_2 => ?_)
  · replace hw := hw.2 c_2
    refine lv_aload_n hx hb dX10_reign_19 rfl (lv_at hl 0 rfl) ?_
    refine mx_kv (mx_rV (rm := rm_X10_layHand) (rest := []) (C := RX10) hx hb hml hown hts (c_X10_layHand l D cI cB cZ cP cC a_m a_m_told a_m_kept a_m_isKept a_m_refused a_m_months a_m_heirs a_m_lasts a_m_cares a_m_bestCares a_m_ones a_m_others a_m_bytes a_m_anew a_m_values above below retired manyLine bytesLong tokenAt tokenLong token value told months _ _ hw) q_437 q_438 q_439 q_5 q_440 hd_X10_layHand ⟨(Nat.le_of_ble_eq_true rfl), (Nat.le_of_ble_eq_true rfl)⟩ rfl rfl hK hP hD [0, 1, 3] rfl rfl 10 0 rfl rfl rfl rfl hl.1 rfl (Nat.le_of_ble_eq_true rfl) dX10_reign_20 ⟨(Nat.le_of_ble_eq_true rfl), (Nat.le_of_ble_eq_true rfl)⟩) hP hD hS hA [0, 1, 3] [2] [1, 2, 0, 3] (fun u => ww_X10_reign a_m a_m_told a_m_kept a_m_isKept a_m_refused a_m_months a_m_heirs a_m_lasts a_m_cares a_m_bestCares a_m_ones a_m_others a_m_bytes a_m_anew a_m_values cI cB cZ cP cC above below (u.1) manyLine bytesLong tokenAt tokenLong token value told refused (u.2)) rfl rfl rfl (by decide) rfl (fun _ => rfl) (fun u H locs hw hP hD hS => ?_)
    obtain ⟨retired_3, months_4⟩ := u
    try dsimp only at hw
    replace hP : va_P D vwCl (ww_X10_reign a_m a_m_told a_m_kept a_m_isKept a_m_refused a_m_months a_m_heirs a_m_lasts a_m_cares a_m_bestCares a_m_ones a_m_others a_m_bytes a_m_anew a_m_values cI cB cZ cP cC above below retired_3 manyLine bytesLong tokenAt tokenLong token value told refused months_4) H := hP
    replace hD : va_D A (ww_X10_reign a_m a_m_told a_m_kept a_m_isKept a_m_refused a_m_months a_m_heirs a_m_lasts a_m_cares a_m_bestCares a_m_ones a_m_others a_m_bytes a_m_anew a_m_values cI cB cZ cP cC above below retired_3 manyLine bytesLong tokenAt tokenLong token value told refused months_4) := hD
    refine lv_iconst (v := 0) hx hb dX10_reign_23 (by decide) ?_
    refine lv_istore_n (lv' := [(2, .int 0), (0, .ref a_m), (1, .int v1)]) hx hb dX10_reign_24 rfl hl (by decide) rfl (fun ls hl => ?_)
    obtain ⟨n0, hw⟩ := hw
    refine k_X10_reign_L25 C0 ?_ n0 v1 0 retired_3 refused months_4 _ _ _ hP hD hS (lv_sub hl [1, 2, 0] rfl) hw
    intro retired_9 refused_10 months_11 H locs ls hP hD hS hl hw
    refine lv_aload_n hx hb dX10_reign_40 rfl (lv_at hl 0 rfl) ?_
    refine mx_ki (mx_rV (rm := rm_X10_reigns) (rest := []) (C := RX10) hx hb hml hown hts (c_X10_reigns l D cI cB cZ cP cC a_m a_m_told a_m_kept a_m_isKept a_m_refused a_m_months a_m_heirs a_m_lasts a_m_cares a_m_bestCares a_m_ones a_m_others a_m_bytes a_m_anew a_m_values above below retired_9 manyLine bytesLong tokenAt tokenLong token value told months_11 _ _ hw) q_455 q_456 q_457 q_5 q_458 hd_X10_reigns ⟨(Nat.le_of_ble_eq_true rfl), (Nat.le_of_ble_eq_true rfl)⟩ rfl rfl hK hP hD [0, 1, 3] rfl rfl 10 0 rfl rfl rfl rfl hl.1 rfl (Nat.le_of_ble_eq_true rfl) dX10_reign_41 ⟨(Nat.le_of_ble_eq_true rfl), (Nat.le_of_ble_eq_true rfl)⟩) hP hD hS hA [0, 1, 3] [2] [1, 2, 0, 3] (fun _ => ww_X10_reign a_m a_m_told a_m_kept a_m_isKept a_m_refused a_m_months a_m_heirs a_m_lasts a_m_cares a_m_bestCares a_m_ones a_m_others a_m_bytes a_m_anew a_m_values cI cB cZ cP cC above below retired_9 manyLine bytesLong tokenAt tokenLong token value told refused_10 months_11) rfl rfl rfl (by decide) rfl (fun _ => rfl) (fun r_12 u H locs hw hP hD hS => ?_)
    try dsimp only at hw
    replace hP : va_P D vwCl (ww_X10_reign a_m a_m_told a_m_kept a_m_isKept a_m_refused a_m_months a_m_heirs a_m_lasts a_m_cares a_m_bestCares a_m_ones a_m_others a_m_bytes a_m_anew a_m_values cI cB cZ cP cC above below retired_9 manyLine bytesLong tokenAt tokenLong token value told refused_10 months_11) H := hP
    replace hD : va_D A (ww_X10_reign a_m a_m_told a_m_kept a_m_isKept a_m_refused a_m_months a_m_heirs a_m_lasts a_m_cares a_m_bestCares a_m_ones a_m_others a_m_bytes a_m_anew a_m_values cI cB cZ cP cC above below retired_9 manyLine bytesLong tokenAt tokenLong token value told refused_10 months_11) := hD
    exact mx_iret (retired_9, refused_10, months_11) hx hb hr hlocks rfl hw hK hP hD hS dX10_reign_44
  · replace hw := hw.1 c_2
    refine lv_aload_n hx hb dX10_reign_12 rfl (lv_at hl 0 rfl) ?_
    refine lv_bipush (v := (-2)) hx hb dX10_reign_13 (by decide) ?_
    refine mx_ki (mx_rV (rm := rm_X10_bad) (rest := []) (C := RX10) hx hb hml hown hts (c_X10_bad l D cI cB cZ cP cC a_m a_m_told a_m_kept a_m_isKept a_m_refused a_m_months a_m_heirs a_m_lasts a_m_cares a_m_bestCares a_m_ones a_m_others a_m_bytes a_m_anew a_m_values above below retired manyLine bytesLong tokenAt tokenLong token value refused (-2) _ _ hw) q_166 q_167 q_168 q_5 q_169 hd_X10_bad ⟨(Nat.le_of_ble_eq_true rfl), (Nat.le_of_ble_eq_true rfl)⟩ rfl rfl hK hP hD [0, 2] rfl rfl 10 0 rfl rfl rfl rfl hl.1 rfl (Nat.le_of_ble_eq_true rfl) dX10_reign_15 ⟨(Nat.le_of_ble_eq_true rfl), (Nat.le_of_ble_eq_true rfl)⟩) hP hD hS hA [0, 2] [1, 3] [2, 0, 3, 1] (fun u => ww_X10_reign a_m a_m_told a_m_kept a_m_isKept a_m_refused a_m_months a_m_heirs a_m_lasts a_m_cares a_m_bestCares a_m_ones a_m_others a_m_bytes a_m_anew a_m_values cI cB cZ cP cC above below retired manyLine bytesLong tokenAt tokenLong token value told u months) rfl rfl rfl (by decide) rfl (fun _ => rfl) (fun r_14 refused_15 H locs hw hP hD hS => ?_)
    try dsimp only at hw
    replace hP : va_P D vwCl (ww_X10_reign a_m a_m_told a_m_kept a_m_isKept a_m_refused a_m_months a_m_heirs a_m_lasts a_m_cares a_m_bestCares a_m_ones a_m_others a_m_bytes a_m_anew a_m_values cI cB cZ cP cC above below retired manyLine bytesLong tokenAt tokenLong token value told refused_15 months) H := hP
    replace hD : va_D A (ww_X10_reign a_m a_m_told a_m_kept a_m_isKept a_m_refused a_m_months a_m_heirs a_m_lasts a_m_cares a_m_bestCares a_m_ones a_m_others a_m_bytes a_m_anew a_m_values cI cB cZ cP cC above below retired manyLine bytesLong tokenAt tokenLong token value told refused_15 months) := hD
    exact mx_iret (retired, refused_15, months) hx hb hr hlocks rfl hw hK hP hD hS dX10_reign_18
/-! PramStateModel.falls()I -/
abbrev ww_X10_falls (a_m a_m_told a_m_kept a_m_isKept a_m_refused a_m_months a_m_heirs a_m_lasts a_m_cares a_m_bestCares a_m_ones a_m_others a_m_bytes a_m_anew a_m_values : Nat) (cI cB cZ cP cC : ClassId) (above : Int64) (below : Int64) (retired : Int32) (manyLine : Int32) (bytesLong : Int32) (tokenAt : Int32) (tokenLong : Int32) (token : Int32) (value : Int32) (told : Nat → Int32) (months : Nat → Int32) : va_W := [(a_m, .inr (10, [.ref a_m_told, .ref a_m_kept, .ref a_m_isKept, .ref a_m_refused, .long above, .long below, .ref a_m_months, .int retired, .ref a_m_heirs, .ref a_m_lasts, .int manyLine, .ref a_m_cares, .ref a_m_bestCares, .ref a_m_ones, .ref a_m_others, .ref a_m_bytes, .int bytesLong, .int tokenAt, .int tokenLong, .int token, .int value, .ref a_m_anew, .ref a_m_values])), (a_m_told, .inl (cI, 190, .inl told)), (a_m_months, .inl (cI, 6, .inl months))]
abbrev qq_X10_falls (D : va_G) (a_m a_m_told a_m_kept a_m_isKept a_m_refused a_m_months a_m_heirs a_m_lasts a_m_cares a_m_bestCares a_m_ones a_m_others a_m_bytes a_m_anew a_m_values : Nat) (cI cB cZ cP cC : ClassId) (above : Int64) (below : Int64) (manyLine : Int32) (bytesLong : Int32) (tokenAt : Int32) (tokenLong : Int32) (token : Int32) (value : Int32) (told : Nat → Int32) (Post : Int32 → Int32 → (Nat → Int32) → Prop) (A : Nat → Prop) : Array Value → State → Outcome → State → Prop := va_Qi (fun (r : Int32) (u : Int32 × (Nat → Int32)) => Post r u.1 u.2) (fun (u : Int32 × (Nat → Int32)) t => mxB D (mxTy cI cB cZ cP cC) A (ww_X10_falls a_m a_m_told a_m_kept a_m_isKept a_m_refused a_m_months a_m_heirs a_m_lasts a_m_cares a_m_bestCares a_m_ones a_m_others a_m_bytes a_m_anew a_m_values cI cB cZ cP cC above below (u.1) manyLine bytesLong tokenAt tokenLong token value told (u.2)) t) A
abbrev rm_X10_falls : Room := { frames := 3, cells := 0, slots := 0, locals := 64 }
theorem hd_X10_falls : yX10_falls.cls = RX10 ∧ yX10_falls.cls ≠ "java/lang/invoke/MethodHandle" ∧ yX10_falls.cls ≠ "java/lang/invoke/VarHandle" ∧ (parseMethodDescriptor yX10_falls.desc).map (fun d => d.parameters.length) = some 0 := by decide +kernel
def wp_X10_falls_L7 (told : Nat → Int32) (Post : Int32 → Int32 → (Nat → Int32) → Prop)  : Nat → Int32 → Int32 → Int32 → (Nat → Int32) → Prop
  | 0, _, _, _, _ => False
  | n + 1, v1, v2, retired, months => ((60 < v2 → Post (-1) retired months) ∧ (¬ 60 < v2 → ((v1 = (-1) → Post (-1) retired months) ∧ (¬ v1 = (-1) → (wp_X10_goMonth told retired months (fun retired_6 months_7 => (wp_X10_reigns retired_6 told months_7 (fun r_8 => ((r_8 = v1 → (∀ x_10 : Int32, x_10 = v2 + 1 → wp_X10_falls_L7 told Post  n v1 x_10 retired_6 months_7)) ∧ (¬ r_8 = v1 → Post v2 retired_6 months_7))))))))))
set_option maxHeartbeats 4000000 in
set_option maxRecDepth 100000 in
theorem k_X10_falls_L7 {p : Program} {l : Launch} {e : Env} {s : State} {m : MethodId} {ar : Array Value} {bl : List Frame} {meth : Method} {c : Code} {D : va_G} {A : Nat → Prop} {cI cB cZ cP cC : ClassId} {a_m a_m_told a_m_kept a_m_isKept a_m_refused a_m_months a_m_heirs a_m_lasts a_m_cares a_m_bestCares a_m_ones a_m_others a_m_bytes a_m_anew a_m_values : Nat} {above : Int64} {below : Int64} {manyLine : Int32} {bytesLong : Int32} {tokenAt : Int32} {tokenLong : Int32} {token : Int32} {value : Int32} {told : Nat → Int32} {Post : Int32 → Int32 → (Nat → Int32) → Prop} (C0 : mxC p s m ar meth c cX10_falls RX10 (some .int) 3 D (mxTy cI cB cZ cP cC) A) :
    ∀ (n : Nat) (v1 : Int32) (v2 : Int32) (retired : Int32) (months : Nat → Int32) (H : Heap) (locs : List Loc) (ls : Array Slot), va_P D vwCl (ww_X10_falls a_m a_m_told a_m_kept a_m_isKept a_m_refused a_m_months a_m_heirs a_m_lasts a_m_cares a_m_bestCares a_m_ones a_m_others a_m_bytes a_m_anew a_m_values cI cB cZ cP cC above below retired manyLine bytesLong tokenAt tokenLong token value told months) H → va_D A (ww_X10_falls a_m a_m_told a_m_kept a_m_isKept a_m_refused a_m_months a_m_heirs a_m_lasts a_m_cares a_m_bestCares a_m_ones a_m_others a_m_bytes a_m_anew a_m_values cI cB cZ cP cC above below retired manyLine bytesLong tokenAt tokenLong token value told months) → va_S A s.heap H locs → lv_has ls 3 [(0, .ref a_m), (1, .int v1), (2, .int v2)] → wp_X10_falls_L7 told Post  n v1 v2 retired months → W p l e rm_X10_falls s m ar bl meth c H locs 0 0 (MQ bl (qq_X10_falls D a_m a_m_told a_m_kept a_m_isKept a_m_refused a_m_months a_m_heirs a_m_lasts a_m_cares a_m_bestCares a_m_ones a_m_others a_m_bytes a_m_anew a_m_values cI cB cZ cP cC above below manyLine bytesLong tokenAt tokenLong token value told Post A) ar s 0 0 A) (F0 m 7 ls []) := by
  obtain ⟨hx, hb, hr, hlocks, hml, hown, hts, hK, hA⟩ := id C0
  intro n
  induction n with
  | zero =>
    intro v1 v2 retired months H locs ls hP hD hS hl hw
    exact absurd hw (fun h => h)
  | succ n ih =>
    intro v1 v2 retired months H locs ls hP hD hS hl hw
    refine lv_iload_n hx hb dX10_falls_7 rfl (lv_at hl 2 rfl) ?_
    refine lv_bipush (v := 60) hx hb dX10_falls_8 (by decide) ?_
    refine lv_icmp_gt (tgt := 38) hx hb dX10_falls_10 (by decide) (fun c_4 => ?_) (fun c_4 => ?_)
    · replace hw := hw.1 c_4
      refine lv_iconst (v := (-1)) hx hb dX10_falls_38 (by decide) ?_
      exact mx_iret (retired, months) hx hb hr hlocks rfl hw hK hP hD hS dX10_falls_39
    · replace hw := hw.2 c_4
      refine lv_iload_n hx hb dX10_falls_13 rfl (lv_at hl 1 rfl) ?_
      refine lv_iconst (v := (-1)) hx hb dX10_falls_14 (by decide) ?_
      refine lv_icmp_eq (tgt := 38) hx hb dX10_falls_15 (by decide) (fun c_5 => ?_) (fun c_5 => ?_)
      · replace hw := hw.1 c_5
        refine lv_iconst (v := (-1)) hx hb dX10_falls_38 (by decide) ?_
        exact mx_iret (retired, months) hx hb hr hlocks rfl hw hK hP hD hS dX10_falls_39
      · replace hw := hw.2 c_5
        refine lv_aload_n hx hb dX10_falls_18 rfl (lv_at hl 0 rfl) ?_
        refine mx_kv (mx_rV (rm := rm_X10_goMonth) (rest := []) (C := RX10) hx hb hml hown hts (c_X10_goMonth l D cI cB cZ cP cC a_m a_m_told a_m_kept a_m_isKept a_m_refused a_m_months a_m_heirs a_m_lasts a_m_cares a_m_bestCares a_m_ones a_m_others a_m_bytes a_m_anew a_m_values above below retired manyLine bytesLong tokenAt tokenLong token value told months _ _ hw) q_441 q_442 q_443 q_5 q_444 hd_X10_goMonth ⟨(Nat.le_of_ble_eq_true rfl), (Nat.le_of_ble_eq_true rfl)⟩ rfl rfl hK hP hD [0, 1, 2] rfl rfl 10 0 rfl rfl rfl rfl hl.1 rfl (Nat.le_of_ble_eq_true rfl) dX10_falls_19 ⟨(Nat.le_of_ble_eq_true rfl), (Nat.le_of_ble_eq_true rfl)⟩) hP hD hS hA [0, 1, 2] [] [0, 1, 2] (fun u => ww_X10_falls a_m a_m_told a_m_kept a_m_isKept a_m_refused a_m_months a_m_heirs a_m_lasts a_m_cares a_m_bestCares a_m_ones a_m_others a_m_bytes a_m_anew a_m_values cI cB cZ cP cC above below (u.1) manyLine bytesLong tokenAt tokenLong token value told (u.2)) rfl rfl rfl (by decide) rfl (fun _ => rfl) (fun u H locs hw hP hD hS => ?_)
        obtain ⟨retired_6, months_7⟩ := u
        try dsimp only at hw
        replace hP : va_P D vwCl (ww_X10_falls a_m a_m_told a_m_kept a_m_isKept a_m_refused a_m_months a_m_heirs a_m_lasts a_m_cares a_m_bestCares a_m_ones a_m_others a_m_bytes a_m_anew a_m_values cI cB cZ cP cC above below retired_6 manyLine bytesLong tokenAt tokenLong token value told months_7) H := hP
        replace hD : va_D A (ww_X10_falls a_m a_m_told a_m_kept a_m_isKept a_m_refused a_m_months a_m_heirs a_m_lasts a_m_cares a_m_bestCares a_m_ones a_m_others a_m_bytes a_m_anew a_m_values cI cB cZ cP cC above below retired_6 manyLine bytesLong tokenAt tokenLong token value told months_7) := hD
        refine lv_aload_n hx hb dX10_falls_22 rfl (lv_at hl 0 rfl) ?_
        refine mx_ki (mx_rV (rm := rm_X10_reigns) (rest := []) (C := RX10) hx hb hml hown hts (c_X10_reigns l D cI cB cZ cP cC a_m a_m_told a_m_kept a_m_isKept a_m_refused a_m_months a_m_heirs a_m_lasts a_m_cares a_m_bestCares a_m_ones a_m_others a_m_bytes a_m_anew a_m_values above below retired_6 manyLine bytesLong tokenAt tokenLong token value told months_7 _ _ hw) q_455 q_456 q_457 q_5 q_458 hd_X10_reigns ⟨(Nat.le_of_ble_eq_true rfl), (Nat.le_of_ble_eq_true rfl)⟩ rfl rfl hK hP hD [0, 1, 2] rfl rfl 10 0 rfl rfl rfl rfl hl.1 rfl (Nat.le_of_ble_eq_true rfl) dX10_falls_23 ⟨(Nat.le_of_ble_eq_true rfl), (Nat.le_of_ble_eq_true rfl)⟩) hP hD hS hA [0, 1, 2] [] [0, 1, 2] (fun _ => ww_X10_falls a_m a_m_told a_m_kept a_m_isKept a_m_refused a_m_months a_m_heirs a_m_lasts a_m_cares a_m_bestCares a_m_ones a_m_others a_m_bytes a_m_anew a_m_values cI cB cZ cP cC above below retired_6 manyLine bytesLong tokenAt tokenLong token value told months_7) rfl rfl rfl (by decide) rfl (fun _ => rfl) (fun r_8 u H locs hw hP hD hS => ?_)
        try dsimp only at hw
        replace hP : va_P D vwCl (ww_X10_falls a_m a_m_told a_m_kept a_m_isKept a_m_refused a_m_months a_m_heirs a_m_lasts a_m_cares a_m_bestCares a_m_ones a_m_others a_m_bytes a_m_anew a_m_values cI cB cZ cP cC above below retired_6 manyLine bytesLong tokenAt tokenLong token value told months_7) H := hP
        replace hD : va_D A (ww_X10_falls a_m a_m_told a_m_kept a_m_isKept a_m_refused a_m_months a_m_heirs a_m_lasts a_m_cares a_m_bestCares a_m_ones a_m_others a_m_bytes a_m_anew a_m_values cI cB cZ cP cC above below retired_6 manyLine bytesLong tokenAt tokenLong token value told months_7) := hD
        refine lv_iload_n hx hb dX10_falls_26 rfl (lv_at hl 1 rfl) ?_
        refine lv_icmp_eq (tgt := 32) hx hb dX10_falls_27 (by decide) (fun c_9 => ?_) (fun c_9 => ?_)
        · replace hw := hw.1 c_9
          obtain ⟨x_10, ex_10⟩ : ∃ y : Int32, y = v2 + 1 := ⟨_, rfl⟩
          replace hw := hw x_10 ex_10
          refine lv_iinc (v := x_10) (lv' := [(2, .int x_10), (0, .ref a_m), (1, .int v1)]) hx hb dX10_falls_32 hl (k := 2) rfl (by rw [ex_10]; rfl) (by decide) rfl (fun ls hl => ?_)
          refine lv_goto (tgt := 7) hx hb dX10_falls_35 (by decide) ?_
          exact ih v1 x_10 retired_6 months_7 _ _ _ hP hD hS (lv_sub hl [1, 2, 0] rfl) hw
        · replace hw := hw.2 c_9
          refine lv_iload_n hx hb dX10_falls_30 rfl (lv_at hl 2 rfl) ?_
          exact mx_iret (retired_6, months_7) hx hb hr hlocks rfl hw hK hP hD hS dX10_falls_31
def wp_X10_falls (told : Nat → Int32) (retired : Int32) (months : Nat → Int32) (Post : Int32 → Int32 → (Nat → Int32) → Prop) : Prop :=
  (wp_X10_reignsNow told retired months (fun r_1 retired_2 months_3 => (∃ k_11 : Nat, wp_X10_falls_L7 told Post k_11 r_1 1 retired_2 months_3)))
set_option maxHeartbeats 4000000 in
set_option maxRecDepth 100000 in
theorem c_X10_falls (l : Launch) (D : va_G) (cI cB cZ cP cC : ClassId) (a_m a_m_told a_m_kept a_m_isKept a_m_refused a_m_months a_m_heirs a_m_lasts a_m_cares a_m_bestCares a_m_ones a_m_others a_m_bytes a_m_anew a_m_values : Nat) (above : Int64) (below : Int64) (retired : Int32) (manyLine : Int32) (bytesLong : Int32) (tokenAt : Int32) (tokenLong : Int32) (token : Int32) (value : Int32) (told : Nat → Int32) (months : Nat → Int32)  (sz : Nat) (Post : Int32 → Int32 → (Nat → Int32) → Prop) (hw : wp_X10_falls told retired months Post) :
    Met l yX10_falls (Cond.code yX10_falls cX10_falls 3 (some .int) :: wsAll) rm_X10_falls (va_Pc [.ref a_m] (mxP D (mxTy cI cB cZ cP cC) sz (ww_X10_falls a_m a_m_told a_m_kept a_m_isKept a_m_refused a_m_months a_m_heirs a_m_lasts a_m_cares a_m_bestCares a_m_ones a_m_others a_m_bytes a_m_anew a_m_values cI cB cZ cP cC above below retired manyLine bytesLong tokenAt tokenLong token value told months))) (qq_X10_falls D a_m a_m_told a_m_kept a_m_isKept a_m_refused a_m_months a_m_heirs a_m_lasts a_m_cares a_m_bestCares a_m_ones a_m_others a_m_bytes a_m_anew a_m_values cI cB cZ cP cC above below manyLine bytesLong tokenAt tokenLong token value told Post (va_A (ww_X10_falls a_m a_m_told a_m_kept a_m_isKept a_m_refused a_m_months a_m_heirs a_m_lasts a_m_cares a_m_bestCares a_m_ones a_m_others a_m_bytes a_m_anew a_m_values cI cB cZ cP cC above below retired manyLine bytesLong tokenAt tokenLong token value told months) sz)) 0 0 (va_A (ww_X10_falls a_m a_m_told a_m_kept a_m_isKept a_m_refused a_m_months a_m_heirs a_m_lasts a_m_cares a_m_bestCares a_m_ones a_m_others a_m_bytes a_m_anew a_m_values cI cB cZ cP cC above below retired manyLine bytesLong tokenAt tokenLong token value told months) sz) := by
  refine mx_of (Qc := qq_X10_falls D a_m a_m_told a_m_kept a_m_isKept a_m_refused a_m_months a_m_heirs a_m_lasts a_m_cares a_m_bestCares a_m_ones a_m_others a_m_bytes a_m_anew a_m_values cI cB cZ cP cC above below manyLine bytesLong tokenAt tokenLong token value told Post) (by decide) (Nat.le_of_ble_eq_true rfl) ?_
  intro p e s m bl meth c A ls C0 hP hD hS hl
  replace C0 : mxC p s m [.ref a_m].toArray meth c cX10_falls RX10 (some .int) 3 D (mxTy cI cB cZ cP cC) A := C0
  obtain ⟨hx, hb, hr, hlocks, hml, hown, hts, hK, hA⟩ := id C0
  replace hl : lv_has ls 3 [(0, .ref a_m)] := hl
  unfold wp_X10_falls at hw
  refine lv_aload_n hx hb dX10_falls_0 rfl (lv_at hl 0 rfl) ?_
  refine mx_ki (mx_rV (rm := rm_X10_reignsNow) (rest := []) (C := RX10) hx hb hml hown hts (c_X10_reignsNow l D cI cB cZ cP cC a_m a_m_told a_m_kept a_m_isKept a_m_refused a_m_months a_m_heirs a_m_lasts a_m_cares a_m_bestCares a_m_ones a_m_others a_m_bytes a_m_anew a_m_values above below retired manyLine bytesLong tokenAt tokenLong token value told months _ _ hw) q_657 q_658 q_659 q_5 q_660 hd_X10_reignsNow ⟨(Nat.le_of_ble_eq_true rfl), (Nat.le_of_ble_eq_true rfl)⟩ rfl rfl hK hP hD [0, 1, 2] rfl rfl 10 0 rfl rfl rfl rfl hl.1 rfl (Nat.le_of_ble_eq_true rfl) dX10_falls_1 ⟨(Nat.le_of_ble_eq_true rfl), (Nat.le_of_ble_eq_true rfl)⟩) hP hD hS hA [0, 1, 2] [] [0, 1, 2] (fun u => ww_X10_falls a_m a_m_told a_m_kept a_m_isKept a_m_refused a_m_months a_m_heirs a_m_lasts a_m_cares a_m_bestCares a_m_ones a_m_others a_m_bytes a_m_anew a_m_values cI cB cZ cP cC above below (u.1) manyLine bytesLong tokenAt tokenLong token value told (u.2)) rfl rfl rfl (by decide) rfl (fun _ => rfl) (fun r_1 u H locs hw hP hD hS => ?_)
  obtain ⟨retired_2, months_3⟩ := u
  try dsimp only at hw
  replace hP : va_P D vwCl (ww_X10_falls a_m a_m_told a_m_kept a_m_isKept a_m_refused a_m_months a_m_heirs a_m_lasts a_m_cares a_m_bestCares a_m_ones a_m_others a_m_bytes a_m_anew a_m_values cI cB cZ cP cC above below retired_2 manyLine bytesLong tokenAt tokenLong token value told months_3) H := hP
  replace hD : va_D A (ww_X10_falls a_m a_m_told a_m_kept a_m_isKept a_m_refused a_m_months a_m_heirs a_m_lasts a_m_cares a_m_bestCares a_m_ones a_m_others a_m_bytes a_m_anew a_m_values cI cB cZ cP cC above below retired_2 manyLine bytesLong tokenAt tokenLong token value told months_3) := hD
  refine lv_istore_n (lv' := [(1, .int r_1), (0, .ref a_m)]) hx hb dX10_falls_4 rfl hl (by decide) rfl (fun ls hl => ?_)
  refine lv_iconst (v := 1) hx hb dX10_falls_5 (by decide) ?_
  refine lv_istore_n (lv' := [(2, .int 1), (1, .int r_1), (0, .ref a_m)]) hx hb dX10_falls_6 rfl hl (by decide) rfl (fun ls hl => ?_)
  obtain ⟨n0, hw⟩ := hw
  refine k_X10_falls_L7 C0  n0 r_1 1 retired_2 months_3 _ _ _ hP hD hS (lv_sub hl [2, 1, 0] rfl) hw
