/-! PramStateModel.part(I)J -/
abbrev ww_X10_part (a_m a_m_told a_m_kept a_m_isKept a_m_refused a_m_months a_m_heirs a_m_lasts a_m_cares a_m_bestCares a_m_ones a_m_others a_m_bytes a_m_anew a_m_values : Nat) (cI cB cZ cP cC : ClassId) (above : Int64) (below : Int64) (retired : Int32) (manyLine : Int32) (bytesLong : Int32) (tokenAt : Int32) (tokenLong : Int32) (token : Int32) (value : Int32) (refused : Nat → Int32) : va_W := [(a_m, .inr (10, [.ref a_m_told, .ref a_m_kept, .ref a_m_isKept, .ref a_m_refused, .long above, .long below, .ref a_m_months, .int retired, .ref a_m_heirs, .ref a_m_lasts, .int manyLine, .ref a_m_cares, .ref a_m_bestCares, .ref a_m_ones, .ref a_m_others, .ref a_m_bytes, .int bytesLong, .int tokenAt, .int tokenLong, .int token, .int value, .ref a_m_anew, .ref a_m_values])), (a_m_refused, .inl (cI, 3, .inl refused))]
abbrev qq_X10_part (D : va_G) (a_m a_m_told a_m_kept a_m_isKept a_m_refused a_m_months a_m_heirs a_m_lasts a_m_cares a_m_bestCares a_m_ones a_m_others a_m_bytes a_m_anew a_m_values : Nat) (cI cB cZ cP cC : ClassId) (above : Int64) (below : Int64) (retired : Int32) (manyLine : Int32) (bytesLong : Int32) (tokenAt : Int32) (tokenLong : Int32) (token : Int32) (value : Int32) (Post : Int64 → (Nat → Int32) → Prop) (A : Nat → Prop) : Array Value → State → Outcome → State → Prop := va_Ql (fun (r : Int64) (u : (Nat → Int32)) => Post r u) (fun (u : (Nat → Int32)) t => mxB D (mxTy cI cB cZ cP cC) A (ww_X10_part a_m a_m_told a_m_kept a_m_isKept a_m_refused a_m_months a_m_heirs a_m_lasts a_m_cares a_m_bestCares a_m_ones a_m_others a_m_bytes a_m_anew a_m_values cI cB cZ cP cC above below retired manyLine bytesLong tokenAt tokenLong token value u) t) A
abbrev rm_X10_part : Room := { frames := 1, cells := 0, slots := 0, locals := 21 }
theorem hd_X10_part : yX10_part.cls = RX10 ∧ yX10_part.cls ≠ "java/lang/invoke/MethodHandle" ∧ yX10_part.cls ≠ "java/lang/invoke/VarHandle" ∧ (parseMethodDescriptor yX10_part.desc).map (fun d => d.parameters.length) = some 1 := by decide +kernel
def wp_X10_part (above : Int64) (below : Int64) (refused : Nat → Int32) (v1 : Int32) (Post : Int64 → (Nat → Int32) → Prop) : Prop :=
  ((v1 = 0 → Post above refused) ∧ (¬ v1 = 0 → ((v1 = 1 → Post below refused) ∧ (¬ v1 = 1 → (wp_X10_bad refused (-2) (fun r_3 refused_4 => Post (r_3.toInt64) refused_4))))))
set_option maxHeartbeats 4000000 in
set_option maxRecDepth 100000 in
theorem c_X10_part (l : Launch) (D : va_G) (cI cB cZ cP cC : ClassId) (a_m a_m_told a_m_kept a_m_isKept a_m_refused a_m_months a_m_heirs a_m_lasts a_m_cares a_m_bestCares a_m_ones a_m_others a_m_bytes a_m_anew a_m_values : Nat) (above : Int64) (below : Int64) (retired : Int32) (manyLine : Int32) (bytesLong : Int32) (tokenAt : Int32) (tokenLong : Int32) (token : Int32) (value : Int32) (refused : Nat → Int32) (v1 : Int32) (sz : Nat) (Post : Int64 → (Nat → Int32) → Prop) (hw : wp_X10_part above below refused v1 Post) :
    Met l yX10_part (Cond.code yX10_part cX10_part 2 (some .long) :: wsAll) rm_X10_part (va_Pc [.ref a_m, .int v1] (mxP D (mxTy cI cB cZ cP cC) sz (ww_X10_part a_m a_m_told a_m_kept a_m_isKept a_m_refused a_m_months a_m_heirs a_m_lasts a_m_cares a_m_bestCares a_m_ones a_m_others a_m_bytes a_m_anew a_m_values cI cB cZ cP cC above below retired manyLine bytesLong tokenAt tokenLong token value refused))) (qq_X10_part D a_m a_m_told a_m_kept a_m_isKept a_m_refused a_m_months a_m_heirs a_m_lasts a_m_cares a_m_bestCares a_m_ones a_m_others a_m_bytes a_m_anew a_m_values cI cB cZ cP cC above below retired manyLine bytesLong tokenAt tokenLong token value Post (va_A (ww_X10_part a_m a_m_told a_m_kept a_m_isKept a_m_refused a_m_months a_m_heirs a_m_lasts a_m_cares a_m_bestCares a_m_ones a_m_others a_m_bytes a_m_anew a_m_values cI cB cZ cP cC above below retired manyLine bytesLong tokenAt tokenLong token value refused) sz)) 0 0 (va_A (ww_X10_part a_m a_m_told a_m_kept a_m_isKept a_m_refused a_m_months a_m_heirs a_m_lasts a_m_cares a_m_bestCares a_m_ones a_m_others a_m_bytes a_m_anew a_m_values cI cB cZ cP cC above below retired manyLine bytesLong tokenAt tokenLong token value refused) sz) := by
  refine mx_of (Qc := qq_X10_part D a_m a_m_told a_m_kept a_m_isKept a_m_refused a_m_months a_m_heirs a_m_lasts a_m_cares a_m_bestCares a_m_ones a_m_others a_m_bytes a_m_anew a_m_values cI cB cZ cP cC above below retired manyLine bytesLong tokenAt tokenLong token value Post) (by decide) (Nat.le_of_ble_eq_true rfl) ?_
  intro p e s m bl meth c A ls C0 hP hD hS hl
  replace C0 : mxC p s m [.ref a_m, .int v1].toArray meth c cX10_part RX10 (some .long) 2 D (mxTy cI cB cZ cP cC) A := C0
  obtain ⟨hx, hb, hr, hlocks, hml, hown, hts, hK, hA⟩ := id C0
  replace hl : lv_has ls 2 [(0, .ref a_m), (1, .int v1)] := hl
  unfold wp_X10_part at hw
  refine lv_iload_n hx hb dX10_part_0 rfl (lv_at hl 1 rfl) ?_
  refine lv_if_ne (tgt := 11) hx hb dX10_part_1 (by decide) (fun c_1 => ?_) (fun c_1 => ?_)
  · replace hw := hw.2 c_1
    refine lv_iload_n hx hb dX10_part_11 rfl (lv_at hl 1 rfl) ?_
    refine lv_iconst (v := 1) hx hb dX10_part_12 (by decide) ?_
    refine lv_icmp_ne (tgt := 23) hx hb dX10_part_13 (by decide) (fun c_2 => ?_) (fun c_2 => ?_)
    · replace hw := hw.2 c_2
      refine lv_aload_n hx hb dX10_part_23 rfl (lv_at hl 0 rfl) ?_
      refine lv_bipush (v := (-2)) hx hb dX10_part_24 (by decide) ?_
      refine mx_ki (mx_rV (rm := rm_X10_bad) (rest := []) (C := RX10) hx hb hml hown hts (c_X10_bad l D cI cB cZ cP cC a_m a_m_told a_m_kept a_m_isKept a_m_refused a_m_months a_m_heirs a_m_lasts a_m_cares a_m_bestCares a_m_ones a_m_others a_m_bytes a_m_anew a_m_values above below retired manyLine bytesLong tokenAt tokenLong token value refused (-2) _ _ hw) q_166 q_167 q_168 q_5 q_169 hd_X10_bad ⟨(Nat.le_of_ble_eq_true rfl), (Nat.le_of_ble_eq_true rfl)⟩ rfl rfl hK hP hD [0, 1] rfl rfl 10 0 rfl rfl rfl rfl hl.1 rfl (Nat.le_of_ble_eq_true rfl) dX10_part_26 ⟨(Nat.le_of_ble_eq_true rfl), (Nat.le_of_ble_eq_true rfl)⟩) hP hD hS hA [0, 1] [] [0, 1] (fun u => ww_X10_part a_m a_m_told a_m_kept a_m_isKept a_m_refused a_m_months a_m_heirs a_m_lasts a_m_cares a_m_bestCares a_m_ones a_m_others a_m_bytes a_m_anew a_m_values cI cB cZ cP cC above below retired manyLine bytesLong tokenAt tokenLong token value u) rfl rfl rfl (by decide) rfl (fun _ => rfl) (fun r_3 refused_4 H locs hw hP hD hS => ?_)
      try dsimp only at hw
      replace hP : va_P D vwCl (ww_X10_part a_m a_m_told a_m_kept a_m_isKept a_m_refused a_m_months a_m_heirs a_m_lasts a_m_cares a_m_bestCares a_m_ones a_m_others a_m_bytes a_m_anew a_m_values cI cB cZ cP cC above below retired manyLine bytesLong tokenAt tokenLong token value refused_4) H := hP
      replace hD : va_D A (ww_X10_part a_m a_m_told a_m_kept a_m_isKept a_m_refused a_m_months a_m_heirs a_m_lasts a_m_cares a_m_bestCares a_m_ones a_m_others a_m_bytes a_m_anew a_m_values cI cB cZ cP cC above below retired manyLine bytesLong tokenAt tokenLong token value refused_4) := hD
      refine lv_i2l (v := r_3.toInt64) hx hb dX10_part_29 rfl ?_
      exact mx_lret refused_4 hx hb hr hlocks hw hK hP hD hS dX10_part_30
    · replace hw := hw.1 c_2
      refine lv_aload_n hx hb dX10_part_16 rfl (lv_at hl 0 rfl) ?_
      refine mx_get (ci := 10) (C := RX10) (T := TX10) (N := 23) hx hb hown in_wsX100 hts hK hP 0 rfl rfl 5 (by decide) q_95 rfl (v := .long below) rfl dX10_part_17 ?_
      refine lv_goto (tgt := 30) hx hb dX10_part_20 (by decide) ?_
      exact mx_lret refused hx hb hr hlocks hw hK hP hD hS dX10_part_30
  · replace hw := hw.1 c_1
    refine lv_aload_n hx hb dX10_part_4 rfl (lv_at hl 0 rfl) ?_
    refine mx_get (ci := 10) (C := RX10) (T := TX10) (N := 23) hx hb hown in_wsX100 hts hK hP 0 rfl rfl 4 (by decide) q_883 rfl (v := .long above) rfl dX10_part_5 ?_
    refine lv_goto (tgt := 30) hx hb dX10_part_8 (by decide) ?_
    exact mx_lret refused hx hb hr hlocks hw hK hP hD hS dX10_part_30
/-! PramStateModel.image(I)I -/
abbrev ww_X10_image (a_m a_m_told a_m_kept a_m_isKept a_m_refused a_m_months a_m_heirs a_m_lasts a_m_cares a_m_bestCares a_m_ones a_m_others a_m_bytes a_m_anew a_m_values : Nat) (cI cB cZ cP cC : ClassId) (above : Int64) (below : Int64) (retired : Int32) (manyLine : Int32) (bytesLong : Int32) (tokenAt : Int32) (tokenLong : Int32) (token : Int32) (value : Int32) (told : Nat → Int32) (kept : Nat → Int32) (isKept : Nat → Int32) (refused : Nat → Int32) : va_W := [(a_m, .inr (10, [.ref a_m_told, .ref a_m_kept, .ref a_m_isKept, .ref a_m_refused, .long above, .long below, .ref a_m_months, .int retired, .ref a_m_heirs, .ref a_m_lasts, .int manyLine, .ref a_m_cares, .ref a_m_bestCares, .ref a_m_ones, .ref a_m_others, .ref a_m_bytes, .int bytesLong, .int tokenAt, .int tokenLong, .int token, .int value, .ref a_m_anew, .ref a_m_values])), (a_m_told, .inl (cI, 190, .inl told)), (a_m_kept, .inl (cI, 380, .inl kept)), (a_m_isKept, .inl (cZ, 2, .inl isKept)), (a_m_refused, .inl (cI, 3, .inl refused))]
abbrev qq_X10_image (D : va_G) (a_m a_m_told a_m_kept a_m_isKept a_m_refused a_m_months a_m_heirs a_m_lasts a_m_cares a_m_bestCares a_m_ones a_m_others a_m_bytes a_m_anew a_m_values : Nat) (cI cB cZ cP cC : ClassId) (above : Int64) (below : Int64) (retired : Int32) (manyLine : Int32) (bytesLong : Int32) (tokenAt : Int32) (tokenLong : Int32) (token : Int32) (value : Int32) (told : Nat → Int32) (Post : Int32 → (Nat → Int32) → (Nat → Int32) → (Nat → Int32) → Prop) (A : Nat → Prop) : Array Value → State → Outcome → State → Prop := va_Qi (fun (r : Int32) (u : (Nat → Int32) × (Nat → Int32) × (Nat → Int32)) => Post r u.1 u.2.1 u.2.2) (fun (u : (Nat → Int32) × (Nat → Int32) × (Nat → Int32)) t => mxB D (mxTy cI cB cZ cP cC) A (ww_X10_image a_m a_m_told a_m_kept a_m_isKept a_m_refused a_m_months a_m_heirs a_m_lasts a_m_cares a_m_bestCares a_m_ones a_m_others a_m_bytes a_m_anew a_m_values cI cB cZ cP cC above below retired manyLine bytesLong tokenAt tokenLong token value told (u.1) (u.2.1) (u.2.2)) t) A
abbrev rm_X10_image : Room := { frames := 1, cells := 0, slots := 0, locals := 25 }
theorem hd_X10_image : yX10_image.cls = RX10 ∧ yX10_image.cls ≠ "java/lang/invoke/MethodHandle" ∧ yX10_image.cls ≠ "java/lang/invoke/VarHandle" ∧ (parseMethodDescriptor yX10_image.desc).map (fun d => d.parameters.length) = some 1 := by decide +kernel
def wp_X10_image_L19 (told : Nat → Int32) (Post : Int32 → (Nat → Int32) → (Nat → Int32) → (Nat → Int32) → Prop) (K_50 : Int32 → (Nat → Int32) → (Nat → Int32) → (Nat → Int32) → Prop) : Nat → Int32 → Int32 → (Nat → Int32) → (Nat → Int32) → (Nat → Int32) → Prop
  | 0, _, _, _, _, _ => False
  | n + 1, v1, v2, kept, isKept, refused => ((190 ≤ v2 → K_50 v1 kept isKept refused) ∧ (¬ 190 ≤ v2 → (vp_in v2 190 ∧ (∀ x_5 : Int32, x_5 = told v2.toNatClampNeg → (vp_in ((190 * v1) + v2) 380 ∧ (∀ f_7 : Nat → Int32, f_7 = upd kept ((190 * v1) + v2).toNatClampNeg x_5 → (∀ x_8 : Int32, x_8 = v2 + 1 → wp_X10_image_L19 told Post K_50 n v1 x_8 f_7 isKept refused)))))))
set_option maxHeartbeats 4000000 in
set_option maxRecDepth 100000 in
theorem k_X10_image_L19 {p : Program} {l : Launch} {e : Env} {s : State} {m : MethodId} {ar : Array Value} {bl : List Frame} {meth : Method} {c : Code} {D : va_G} {A : Nat → Prop} {cI cB cZ cP cC : ClassId} {a_m a_m_told a_m_kept a_m_isKept a_m_refused a_m_months a_m_heirs a_m_lasts a_m_cares a_m_bestCares a_m_ones a_m_others a_m_bytes a_m_anew a_m_values : Nat} {above : Int64} {below : Int64} {retired : Int32} {manyLine : Int32} {bytesLong : Int32} {tokenAt : Int32} {tokenLong : Int32} {token : Int32} {value : Int32} {told : Nat → Int32} {Post : Int32 → (Nat → Int32) → (Nat → Int32) → (Nat → Int32) → Prop} {K_50 : Int32 → (Nat → Int32) → (Nat → Int32) → (Nat → Int32) → Prop} (C0 : mxC p s m ar meth c cX10_image RX10 (some .int) 3 D (mxTy cI cB cZ cP cC) A)
    (hK_50 : ∀ (v1 : Int32) (kept : Nat → Int32) (isKept : Nat → Int32) (refused : Nat → Int32) (H : Heap) (locs : List Loc) (ls : Array Slot), va_P D vwCl (ww_X10_image a_m a_m_told a_m_kept a_m_isKept a_m_refused a_m_months a_m_heirs a_m_lasts a_m_cares a_m_bestCares a_m_ones a_m_others a_m_bytes a_m_anew a_m_values cI cB cZ cP cC above below retired manyLine bytesLong tokenAt tokenLong token value told kept isKept refused) H → va_D A (ww_X10_image a_m a_m_told a_m_kept a_m_isKept a_m_refused a_m_months a_m_heirs a_m_lasts a_m_cares a_m_bestCares a_m_ones a_m_others a_m_bytes a_m_anew a_m_values cI cB cZ cP cC above below retired manyLine bytesLong tokenAt tokenLong token value told kept isKept refused) → va_S A s.heap H locs → lv_has ls 3 [(0, .ref a_m), (1, .int v1)] → K_50 v1 kept isKept refused → W p l e rm_X10_image s m ar bl meth c H locs 0 0 (MQ bl (qq_X10_image D a_m a_m_told a_m_kept a_m_isKept a_m_refused a_m_months a_m_heirs a_m_lasts a_m_cares a_m_bestCares a_m_ones a_m_others a_m_bytes a_m_anew a_m_values cI cB cZ cP cC above below retired manyLine bytesLong tokenAt tokenLong token value told Post A) ar s 0 0 A) (F0 m 50 ls [])) :
    ∀ (n : Nat) (v1 : Int32) (v2 : Int32) (kept : Nat → Int32) (isKept : Nat → Int32) (refused : Nat → Int32) (H : Heap) (locs : List Loc) (ls : Array Slot), va_P D vwCl (ww_X10_image a_m a_m_told a_m_kept a_m_isKept a_m_refused a_m_months a_m_heirs a_m_lasts a_m_cares a_m_bestCares a_m_ones a_m_others a_m_bytes a_m_anew a_m_values cI cB cZ cP cC above below retired manyLine bytesLong tokenAt tokenLong token value told kept isKept refused) H → va_D A (ww_X10_image a_m a_m_told a_m_kept a_m_isKept a_m_refused a_m_months a_m_heirs a_m_lasts a_m_cares a_m_bestCares a_m_ones a_m_others a_m_bytes a_m_anew a_m_values cI cB cZ cP cC above below retired manyLine bytesLong tokenAt tokenLong token value told kept isKept refused) → va_S A s.heap H locs → lv_has ls 3 [(0, .ref a_m), (1, .int v1), (2, .int v2)] → wp_X10_image_L19 told Post K_50 n v1 v2 kept isKept refused → W p l e rm_X10_image s m ar bl meth c H locs 0 0 (MQ bl (qq_X10_image D a_m a_m_told a_m_kept a_m_isKept a_m_refused a_m_months a_m_heirs a_m_lasts a_m_cares a_m_bestCares a_m_ones a_m_others a_m_bytes a_m_anew a_m_values cI cB cZ cP cC above below retired manyLine bytesLong tokenAt tokenLong token value told Post A) ar s 0 0 A) (F0 m 19 ls []) := by
  obtain ⟨hx, hb, hr, hlocks, hml, hown, hts, hK, hA⟩ := id C0
  intro n
  induction n with
  | zero =>
    intro v1 v2 kept isKept refused H locs ls hP hD hS hl hw
    exact absurd hw (fun h => h)
  | succ n ih =>
    intro v1 v2 kept isKept refused H locs ls hP hD hS hl hw
    refine lv_iload_n hx hb dX10_image_19 rfl (lv_at hl 2 rfl) ?_
    refine lv_sipush (v := 190) hx hb dX10_image_20 (by decide) ?_
    refine lv_icmp_ge (tgt := 50) hx hb dX10_image_23 (by decide) (fun c_3 => ?_) (fun c_3 => ?_)
    · replace hw := hw.1 c_3
      exact hK_50 v1 kept isKept refused _ _ _ hP hD hS (lv_sub hl [0, 1] rfl) hw
    · replace hw := hw.2 c_3
      refine lv_aload_n hx hb dX10_image_26 rfl (lv_at hl 0 rfl) ?_
      refine mx_get (ci := 10) (C := RX10) (T := TX10) (N := 23) hx hb hown in_wsX100 hts hK hP 0 rfl rfl 1 (by decide) q_92 rfl (v := .ref a_m_kept) rfl dX10_image_27 ?_
      refine lv_sipush (v := 190) hx hb dX10_image_30 (by decide) ?_
      refine lv_iload_n hx hb dX10_image_33 rfl (lv_at hl 1 rfl) ?_
      refine lv_imul hx hb dX10_image_34 ?_
      refine lv_iload_n hx hb dX10_image_35 rfl (lv_at hl 2 rfl) ?_
      refine lv_iadd hx hb dX10_image_36 ?_
      refine lv_aload_n hx hb dX10_image_37 rfl (lv_at hl 0 rfl) ?_
      refine mx_get (ci := 10) (C := RX10) (T := TX10) (N := 23) hx hb hown in_wsX100 hts hK hP 0 rfl rfl 0 (by decide) q_91 rfl (v := .ref a_m_told) rfl dX10_image_38 ?_
      refine lv_iload_n hx hb dX10_image_41 rfl (lv_at hl 2 rfl) ?_
      obtain ⟨h_4, hw⟩ := hw
      refine mx_iald hx hb hK hP 1 0 rfl rfl h_4 (told v2.toNatClampNeg) rfl dX10_image_42 ?_
      refine lv_topi (fun x_5 ex_5 => ?_)
      replace hw := hw x_5 ex_5
      obtain ⟨h_6, hw⟩ := hw
      obtain ⟨f_7, ef_7⟩ : ∃ y : Nat → Int32, y = upd kept ((190 * v1) + v2).toNatClampNeg x_5 := ⟨_, rfl⟩
      replace hw := hw f_7 ef_7
      refine mx_iast hx hb hK hP hD hS 2 0 rfl rfl h_6 f_7 ef_7 (ww_X10_image a_m a_m_told a_m_kept a_m_isKept a_m_refused a_m_months a_m_heirs a_m_lasts a_m_cares a_m_bestCares a_m_ones a_m_others a_m_bytes a_m_anew a_m_values cI cB cZ cP cC above below retired manyLine bytesLong tokenAt tokenLong token value told f_7 isKept refused) rfl dX10_image_43 (fun H locs hP hD hS => ?_)
      obtain ⟨x_8, ex_8⟩ : ∃ y : Int32, y = v2 + 1 := ⟨_, rfl⟩
      replace hw := hw x_8 ex_8
      refine lv_iinc (v := x_8) (lv' := [(2, .int x_8), (0, .ref a_m), (1, .int v1)]) hx hb dX10_image_44 hl (k := 2) rfl (by rw [ex_8]; rfl) (by decide) rfl (fun ls hl => ?_)
      refine lv_goto (tgt := 19) hx hb dX10_image_47 (by decide) ?_
      exact ih v1 x_8 f_7 isKept refused _ _ _ hP hD hS (lv_sub hl [1, 2, 0] rfl) hw
def wp_X10_image (told : Nat → Int32) (kept : Nat → Int32) (isKept : Nat → Int32) (refused : Nat → Int32) (v1 : Int32) (Post : Int32 → (Nat → Int32) → (Nat → Int32) → (Nat → Int32) → Prop) : Prop :=
  (wp_X10_in (v1.toInt64) 0 1 (fun r_1 => ((r_1 = 0 → (wp_X10_bad refused (-2) (fun r_16 refused_17 => Post r_16 kept isKept refused_17))) ∧ (¬ r_1 = 0 → (∃ k_15 : Nat, wp_X10_image_L19 told Post (fun (v1_9 : Int32) (kept_10 : Nat → Int32) (isKept_11 : Nat → Int32) (refused_12 : Nat → Int32) => (vp_in v1_9 2 ∧ (∀ f_14 : Nat → Int32, f_14 = upd isKept_11 v1_9.toNatClampNeg (vp_nar .boolean 1) → Post 1 kept_10 f_14 refused_12))) k_15 v1 0 kept isKept refused)))))
set_option maxHeartbeats 4000000 in
set_option maxRecDepth 100000 in
theorem c_X10_image (l : Launch) (D : va_G) (cI cB cZ cP cC : ClassId) (a_m a_m_told a_m_kept a_m_isKept a_m_refused a_m_months a_m_heirs a_m_lasts a_m_cares a_m_bestCares a_m_ones a_m_others a_m_bytes a_m_anew a_m_values : Nat) (above : Int64) (below : Int64) (retired : Int32) (manyLine : Int32) (bytesLong : Int32) (tokenAt : Int32) (tokenLong : Int32) (token : Int32) (value : Int32) (told : Nat → Int32) (kept : Nat → Int32) (isKept : Nat → Int32) (refused : Nat → Int32) (v1 : Int32) (sz : Nat) (Post : Int32 → (Nat → Int32) → (Nat → Int32) → (Nat → Int32) → Prop) (hw : wp_X10_image told kept isKept refused v1 Post) :
    Met l yX10_image (Cond.code yX10_image cX10_image 3 (some .int) :: wsAll) rm_X10_image (va_Pc [.ref a_m, .int v1] (mxP D (mxTy cI cB cZ cP cC) sz (ww_X10_image a_m a_m_told a_m_kept a_m_isKept a_m_refused a_m_months a_m_heirs a_m_lasts a_m_cares a_m_bestCares a_m_ones a_m_others a_m_bytes a_m_anew a_m_values cI cB cZ cP cC above below retired manyLine bytesLong tokenAt tokenLong token value told kept isKept refused))) (qq_X10_image D a_m a_m_told a_m_kept a_m_isKept a_m_refused a_m_months a_m_heirs a_m_lasts a_m_cares a_m_bestCares a_m_ones a_m_others a_m_bytes a_m_anew a_m_values cI cB cZ cP cC above below retired manyLine bytesLong tokenAt tokenLong token value told Post (va_A (ww_X10_image a_m a_m_told a_m_kept a_m_isKept a_m_refused a_m_months a_m_heirs a_m_lasts a_m_cares a_m_bestCares a_m_ones a_m_others a_m_bytes a_m_anew a_m_values cI cB cZ cP cC above below retired manyLine bytesLong tokenAt tokenLong token value told kept isKept refused) sz)) 0 0 (va_A (ww_X10_image a_m a_m_told a_m_kept a_m_isKept a_m_refused a_m_months a_m_heirs a_m_lasts a_m_cares a_m_bestCares a_m_ones a_m_others a_m_bytes a_m_anew a_m_values cI cB cZ cP cC above below retired manyLine bytesLong tokenAt tokenLong token value told kept isKept refused) sz) := by
  refine mx_of (Qc := qq_X10_image D a_m a_m_told a_m_kept a_m_isKept a_m_refused a_m_months a_m_heirs a_m_lasts a_m_cares a_m_bestCares a_m_ones a_m_others a_m_bytes a_m_anew a_m_values cI cB cZ cP cC above below retired manyLine bytesLong tokenAt tokenLong token value told Post) (by decide) (Nat.le_of_ble_eq_true rfl) ?_
  intro p e s m bl meth c A ls C0 hP hD hS hl
  replace C0 : mxC p s m [.ref a_m, .int v1].toArray meth c cX10_image RX10 (some .int) 3 D (mxTy cI cB cZ cP cC) A := C0
  obtain ⟨hx, hb, hr, hlocks, hml, hown, hts, hK, hA⟩ := id C0
  replace hl : lv_has ls 3 [(0, .ref a_m), (1, .int v1)] := hl
  unfold wp_X10_image at hw
  refine lv_iload_n hx hb dX10_image_0 rfl (lv_at hl 1 rfl) ?_
  refine lv_i2l (v := v1.toInt64) hx hb dX10_image_1 rfl ?_
  refine lv_lconst (v := 0) hx hb dX10_image_2 rfl ?_
  refine lv_lconst (v := 1) hx hb dX10_image_3 rfl ?_
  refine mx_ki (mx_rS (rm := rm_X10_in) (rest := []) hx hb hml hown hts (c_X10_in l D cI cB cZ cP cC (v1.toInt64) 0 1 _ _ hw) q_163 q_164 q_5 q_165 hd_X10_in ⟨(Nat.le_of_ble_eq_true rfl), (Nat.le_of_ble_eq_true rfl)⟩ rfl rfl hK hP hD [] rfl rfl rfl hl.1 rfl (Nat.le_of_ble_eq_true rfl) dX10_image_4 ⟨(Nat.le_of_ble_eq_true rfl), (Nat.le_of_ble_eq_true rfl)⟩) hP hD hS hA [] [0, 1, 2, 3, 4] [0, 1, 2, 3, 4] (fun _ => ww_X10_image a_m a_m_told a_m_kept a_m_isKept a_m_refused a_m_months a_m_heirs a_m_lasts a_m_cares a_m_bestCares a_m_ones a_m_others a_m_bytes a_m_anew a_m_values cI cB cZ cP cC above below retired manyLine bytesLong tokenAt tokenLong token value told kept isKept refused) rfl rfl rfl (by decide) rfl (fun _ => rfl) (fun r_1 u H locs hw hP hD hS => ?_)
  try dsimp only at hw
  replace hP : va_P D vwCl (ww_X10_image a_m a_m_told a_m_kept a_m_isKept a_m_refused a_m_months a_m_heirs a_m_lasts a_m_cares a_m_bestCares a_m_ones a_m_others a_m_bytes a_m_anew a_m_values cI cB cZ cP cC above below retired manyLine bytesLong tokenAt tokenLong token value told kept isKept refused) H := hP
  replace hD : va_D A (ww_X10_image a_m a_m_told a_m_kept a_m_isKept a_m_refused a_m_months a_m_heirs a_m_lasts a_m_cares a_m_bestCares a_m_ones a_m_others a_m_bytes a_m_anew a_m_values cI cB cZ cP cC above below retired manyLine bytesLong tokenAt tokenLong token value told kept isKept refused) := hD
  refine lv_if_ne (tgt := 17) hx hb dX10_image_7 (by decide) (fun c_2 => ?_) (fun c_2 => ?_)
  · replace hw := hw.2 c_2
    refine lv_iconst (v := 0) hx hb dX10_image_17 (by decide) ?_
    refine lv_istore_n (lv' := [(2, .int 0), (0, .ref a_m), (1, .int v1)]) hx hb dX10_image_18 rfl hl (by decide) rfl (fun ls hl => ?_)
    obtain ⟨n0, hw⟩ := hw
    refine k_X10_image_L19 C0 ?_ n0 v1 0 kept isKept refused _ _ _ hP hD hS (lv_sub hl [1, 2, 0] rfl) hw
    intro v1_9 kept_10 isKept_11 refused_12 H locs ls hP hD hS hl hw
    refine lv_aload_n hx hb dX10_image_50 rfl (lv_at hl 0 rfl) ?_
    refine mx_get (ci := 10) (C := RX10) (T := TX10) (N := 23) hx hb hown in_wsX100 hts hK hP 0 rfl rfl 2 (by decide) q_93 rfl (v := .ref a_m_isKept) rfl dX10_image_51 ?_
    refine lv_iload_n hx hb dX10_image_54 rfl (lv_at hl 1 rfl) ?_
    refine lv_iconst (v := 1) hx hb dX10_image_55 (by decide) ?_
    obtain ⟨h_13, hw⟩ := hw
    obtain ⟨f_14, ef_14⟩ : ∃ y : Nat → Int32, y = upd isKept_11 v1_9.toNatClampNeg (vp_nar .boolean 1) := ⟨_, rfl⟩
    replace hw := hw f_14 ef_14
    refine mx_zast hx hb hK hP hD hS 3 2 rfl rfl h_13 f_14 ef_14 (ww_X10_image a_m a_m_told a_m_kept a_m_isKept a_m_refused a_m_months a_m_heirs a_m_lasts a_m_cares a_m_bestCares a_m_ones a_m_others a_m_bytes a_m_anew a_m_values cI cB cZ cP cC above below retired manyLine bytesLong tokenAt tokenLong token value told kept_10 f_14 refused_12) rfl dX10_image_56 (fun H locs hP hD hS => ?_)
    refine lv_iconst (v := 1) hx hb dX10_image_57 (by decide) ?_
    exact mx_iret (kept_10, f_14, refused_12) hx hb hr hlocks rfl hw hK hP hD hS dX10_image_58
  · replace hw := hw.1 c_2
    refine lv_aload_n hx hb dX10_image_10 rfl (lv_at hl 0 rfl) ?_
    refine lv_bipush (v := (-2)) hx hb dX10_image_11 (by decide) ?_
    refine mx_ki (mx_rV (rm := rm_X10_bad) (rest := []) (C := RX10) hx hb hml hown hts (c_X10_bad l D cI cB cZ cP cC a_m a_m_told a_m_kept a_m_isKept a_m_refused a_m_months a_m_heirs a_m_lasts a_m_cares a_m_bestCares a_m_ones a_m_others a_m_bytes a_m_anew a_m_values above below retired manyLine bytesLong tokenAt tokenLong token value refused (-2) _ _ hw) q_166 q_167 q_168 q_5 q_169 hd_X10_bad ⟨(Nat.le_of_ble_eq_true rfl), (Nat.le_of_ble_eq_true rfl)⟩ rfl rfl hK hP hD [0, 4] rfl rfl 10 0 rfl rfl rfl rfl hl.1 rfl (Nat.le_of_ble_eq_true rfl) dX10_image_13 ⟨(Nat.le_of_ble_eq_true rfl), (Nat.le_of_ble_eq_true rfl)⟩) hP hD hS hA [0, 4] [1, 2, 3] [3, 0, 1, 2, 4] (fun u => ww_X10_image a_m a_m_told a_m_kept a_m_isKept a_m_refused a_m_months a_m_heirs a_m_lasts a_m_cares a_m_bestCares a_m_ones a_m_others a_m_bytes a_m_anew a_m_values cI cB cZ cP cC above below retired manyLine bytesLong tokenAt tokenLong token value told kept isKept u) rfl rfl rfl (by decide) rfl (fun _ => rfl) (fun r_16 refused_17 H locs hw hP hD hS => ?_)
    try dsimp only at hw
    replace hP : va_P D vwCl (ww_X10_image a_m a_m_told a_m_kept a_m_isKept a_m_refused a_m_months a_m_heirs a_m_lasts a_m_cares a_m_bestCares a_m_ones a_m_others a_m_bytes a_m_anew a_m_values cI cB cZ cP cC above below retired manyLine bytesLong tokenAt tokenLong token value told kept isKept refused_17) H := hP
    replace hD : va_D A (ww_X10_image a_m a_m_told a_m_kept a_m_isKept a_m_refused a_m_months a_m_heirs a_m_lasts a_m_cares a_m_bestCares a_m_ones a_m_others a_m_bytes a_m_anew a_m_values cI cB cZ cP cC above below retired manyLine bytesLong tokenAt tokenLong token value told kept isKept refused_17) := hD
    exact mx_iret (kept, isKept, refused_17) hx hb hr hlocks rfl hw hK hP hD hS dX10_image_16
/-! PramStateModel.from(I)I -/
abbrev ww_X10_from (a_m a_m_told a_m_kept a_m_isKept a_m_refused a_m_months a_m_heirs a_m_lasts a_m_cares a_m_bestCares a_m_ones a_m_others a_m_bytes a_m_anew a_m_values : Nat) (cI cB cZ cP cC : ClassId) (above : Int64) (below : Int64) (retired : Int32) (manyLine : Int32) (bytesLong : Int32) (tokenAt : Int32) (tokenLong : Int32) (token : Int32) (value : Int32) (told : Nat → Int32) (kept : Nat → Int32) (isKept : Nat → Int32) (refused : Nat → Int32) : va_W := [(a_m, .inr (10, [.ref a_m_told, .ref a_m_kept, .ref a_m_isKept, .ref a_m_refused, .long above, .long below, .ref a_m_months, .int retired, .ref a_m_heirs, .ref a_m_lasts, .int manyLine, .ref a_m_cares, .ref a_m_bestCares, .ref a_m_ones, .ref a_m_others, .ref a_m_bytes, .int bytesLong, .int tokenAt, .int tokenLong, .int token, .int value, .ref a_m_anew, .ref a_m_values])), (a_m_told, .inl (cI, 190, .inl told)), (a_m_kept, .inl (cI, 380, .inl kept)), (a_m_isKept, .inl (cZ, 2, .inl isKept)), (a_m_refused, .inl (cI, 3, .inl refused))]
abbrev qq_X10_from (D : va_G) (a_m a_m_told a_m_kept a_m_isKept a_m_refused a_m_months a_m_heirs a_m_lasts a_m_cares a_m_bestCares a_m_ones a_m_others a_m_bytes a_m_anew a_m_values : Nat) (cI cB cZ cP cC : ClassId) (above : Int64) (below : Int64) (retired : Int32) (manyLine : Int32) (bytesLong : Int32) (tokenAt : Int32) (tokenLong : Int32) (token : Int32) (value : Int32) (kept : Nat → Int32) (isKept : Nat → Int32) (Post : Int32 → (Nat → Int32) → (Nat → Int32) → Prop) (A : Nat → Prop) : Array Value → State → Outcome → State → Prop := va_Qi (fun (r : Int32) (u : (Nat → Int32) × (Nat → Int32)) => Post r u.1 u.2) (fun (u : (Nat → Int32) × (Nat → Int32)) t => mxB D (mxTy cI cB cZ cP cC) A (ww_X10_from a_m a_m_told a_m_kept a_m_isKept a_m_refused a_m_months a_m_heirs a_m_lasts a_m_cares a_m_bestCares a_m_ones a_m_others a_m_bytes a_m_anew a_m_values cI cB cZ cP cC above below retired manyLine bytesLong tokenAt tokenLong token value (u.1) kept isKept (u.2)) t) A
abbrev rm_X10_from : Room := { frames := 1, cells := 0, slots := 0, locals := 25 }
theorem hd_X10_from : yX10_from.cls = RX10 ∧ yX10_from.cls ≠ "java/lang/invoke/MethodHandle" ∧ yX10_from.cls ≠ "java/lang/invoke/VarHandle" ∧ (parseMethodDescriptor yX10_from.desc).map (fun d => d.parameters.length) = some 1 := by decide +kernel
def wp_X10_from_L33 (kept : Nat → Int32) (isKept : Nat → Int32) (Post : Int32 → (Nat → Int32) → (Nat → Int32) → Prop)  : Nat → Int32 → Int32 → (Nat → Int32) → (Nat → Int32) → Prop
  | 0, _, _, _, _ => False
  | n + 1, v1, v2, told, refused => ((190 ≤ v2 → Post 1 told refused) ∧ (¬ 190 ≤ v2 → (vp_in ((190 * v1) + v2) 380 ∧ (∀ x_7 : Int32, x_7 = kept ((190 * v1) + v2).toNatClampNeg → (vp_in v2 190 ∧ (∀ f_9 : Nat → Int32, f_9 = upd told v2.toNatClampNeg x_7 → (∀ x_10 : Int32, x_10 = v2 + 1 → wp_X10_from_L33 kept isKept Post  n v1 x_10 f_9 refused)))))))
set_option maxHeartbeats 4000000 in
set_option maxRecDepth 100000 in
theorem k_X10_from_L33 {p : Program} {l : Launch} {e : Env} {s : State} {m : MethodId} {ar : Array Value} {bl : List Frame} {meth : Method} {c : Code} {D : va_G} {A : Nat → Prop} {cI cB cZ cP cC : ClassId} {a_m a_m_told a_m_kept a_m_isKept a_m_refused a_m_months a_m_heirs a_m_lasts a_m_cares a_m_bestCares a_m_ones a_m_others a_m_bytes a_m_anew a_m_values : Nat} {above : Int64} {below : Int64} {retired : Int32} {manyLine : Int32} {bytesLong : Int32} {tokenAt : Int32} {tokenLong : Int32} {token : Int32} {value : Int32} {kept : Nat → Int32} {isKept : Nat → Int32} {Post : Int32 → (Nat → Int32) → (Nat → Int32) → Prop} (C0 : mxC p s m ar meth c cX10_from RX10 (some .int) 3 D (mxTy cI cB cZ cP cC) A) :
    ∀ (n : Nat) (v1 : Int32) (v2 : Int32) (told : Nat → Int32) (refused : Nat → Int32) (H : Heap) (locs : List Loc) (ls : Array Slot), va_P D vwCl (ww_X10_from a_m a_m_told a_m_kept a_m_isKept a_m_refused a_m_months a_m_heirs a_m_lasts a_m_cares a_m_bestCares a_m_ones a_m_others a_m_bytes a_m_anew a_m_values cI cB cZ cP cC above below retired manyLine bytesLong tokenAt tokenLong token value told kept isKept refused) H → va_D A (ww_X10_from a_m a_m_told a_m_kept a_m_isKept a_m_refused a_m_months a_m_heirs a_m_lasts a_m_cares a_m_bestCares a_m_ones a_m_others a_m_bytes a_m_anew a_m_values cI cB cZ cP cC above below retired manyLine bytesLong tokenAt tokenLong token value told kept isKept refused) → va_S A s.heap H locs → lv_has ls 3 [(0, .ref a_m), (1, .int v1), (2, .int v2)] → wp_X10_from_L33 kept isKept Post  n v1 v2 told refused → W p l e rm_X10_from s m ar bl meth c H locs 0 0 (MQ bl (qq_X10_from D a_m a_m_told a_m_kept a_m_isKept a_m_refused a_m_months a_m_heirs a_m_lasts a_m_cares a_m_bestCares a_m_ones a_m_others a_m_bytes a_m_anew a_m_values cI cB cZ cP cC above below retired manyLine bytesLong tokenAt tokenLong token value kept isKept Post A) ar s 0 0 A) (F0 m 33 ls []) := by
  obtain ⟨hx, hb, hr, hlocks, hml, hown, hts, hK, hA⟩ := id C0
  intro n
  induction n with
  | zero =>
    intro v1 v2 told refused H locs ls hP hD hS hl hw
    exact absurd hw (fun h => h)
  | succ n ih =>
    intro v1 v2 told refused H locs ls hP hD hS hl hw
    refine lv_iload_n hx hb dX10_from_33 rfl (lv_at hl 2 rfl) ?_
    refine lv_sipush (v := 190) hx hb dX10_from_34 (by decide) ?_
    refine lv_icmp_ge (tgt := 64) hx hb dX10_from_37 (by decide) (fun c_5 => ?_) (fun c_5 => ?_)
    · replace hw := hw.1 c_5
      refine lv_iconst (v := 1) hx hb dX10_from_64 (by decide) ?_
      exact mx_iret (told, refused) hx hb hr hlocks rfl hw hK hP hD hS dX10_from_65
    · replace hw := hw.2 c_5
      refine lv_aload_n hx hb dX10_from_40 rfl (lv_at hl 0 rfl) ?_
      refine mx_get (ci := 10) (C := RX10) (T := TX10) (N := 23) hx hb hown in_wsX100 hts hK hP 0 rfl rfl 0 (by decide) q_91 rfl (v := .ref a_m_told) rfl dX10_from_41 ?_
      refine lv_iload_n hx hb dX10_from_44 rfl (lv_at hl 2 rfl) ?_
      refine lv_aload_n hx hb dX10_from_45 rfl (lv_at hl 0 rfl) ?_
      refine mx_get (ci := 10) (C := RX10) (T := TX10) (N := 23) hx hb hown in_wsX100 hts hK hP 0 rfl rfl 1 (by decide) q_92 rfl (v := .ref a_m_kept) rfl dX10_from_46 ?_
      refine lv_sipush (v := 190) hx hb dX10_from_49 (by decide) ?_
      refine lv_iload_n hx hb dX10_from_52 rfl (lv_at hl 1 rfl) ?_
      refine lv_imul hx hb dX10_from_53 ?_
      refine lv_iload_n hx hb dX10_from_54 rfl (lv_at hl 2 rfl) ?_
      refine lv_iadd hx hb dX10_from_55 ?_
      obtain ⟨h_6, hw⟩ := hw
      refine mx_iald hx hb hK hP 2 0 rfl rfl h_6 (kept ((190 * v1) + v2).toNatClampNeg) rfl dX10_from_56 ?_
      refine lv_topi (fun x_7 ex_7 => ?_)
      replace hw := hw x_7 ex_7
      obtain ⟨h_8, hw⟩ := hw
      obtain ⟨f_9, ef_9⟩ : ∃ y : Nat → Int32, y = upd told v2.toNatClampNeg x_7 := ⟨_, rfl⟩
      replace hw := hw f_9 ef_9
      refine mx_iast hx hb hK hP hD hS 1 0 rfl rfl h_8 f_9 ef_9 (ww_X10_from a_m a_m_told a_m_kept a_m_isKept a_m_refused a_m_months a_m_heirs a_m_lasts a_m_cares a_m_bestCares a_m_ones a_m_others a_m_bytes a_m_anew a_m_values cI cB cZ cP cC above below retired manyLine bytesLong tokenAt tokenLong token value f_9 kept isKept refused) rfl dX10_from_57 (fun H locs hP hD hS => ?_)
      obtain ⟨x_10, ex_10⟩ : ∃ y : Int32, y = v2 + 1 := ⟨_, rfl⟩
      replace hw := hw x_10 ex_10
      refine lv_iinc (v := x_10) (lv' := [(2, .int x_10), (0, .ref a_m), (1, .int v1)]) hx hb dX10_from_58 hl (k := 2) rfl (by rw [ex_10]; rfl) (by decide) rfl (fun ls hl => ?_)
      refine lv_goto (tgt := 33) hx hb dX10_from_61 (by decide) ?_
      exact ih v1 x_10 f_9 refused _ _ _ hP hD hS (lv_sub hl [1, 2, 0] rfl) hw
def wp_X10_from (kept : Nat → Int32) (isKept : Nat → Int32) (told : Nat → Int32) (refused : Nat → Int32) (v1 : Int32) (Post : Int32 → (Nat → Int32) → (Nat → Int32) → Prop) : Prop :=
  (wp_X10_in (v1.toInt64) 0 1 (fun r_1 => ((r_1 = 0 → (wp_X10_bad refused (-2) (fun r_14 refused_15 => Post r_14 told refused_15))) ∧ (¬ r_1 = 0 → (vp_in v1 2 ∧ (((isKept v1.toNatClampNeg) = 0 → (wp_X10_no refused (fun r_12 refused_13 => Post r_12 told refused_13))) ∧ (¬ (isKept v1.toNatClampNeg) = 0 → (∃ k_11 : Nat, wp_X10_from_L33 kept isKept Post k_11 v1 0 told refused))))))))
set_option maxHeartbeats 4000000 in
set_option maxRecDepth 100000 in
theorem c_X10_from (l : Launch) (D : va_G) (cI cB cZ cP cC : ClassId) (a_m a_m_told a_m_kept a_m_isKept a_m_refused a_m_months a_m_heirs a_m_lasts a_m_cares a_m_bestCares a_m_ones a_m_others a_m_bytes a_m_anew a_m_values : Nat) (above : Int64) (below : Int64) (retired : Int32) (manyLine : Int32) (bytesLong : Int32) (tokenAt : Int32) (tokenLong : Int32) (token : Int32) (value : Int32) (told : Nat → Int32) (kept : Nat → Int32) (isKept : Nat → Int32) (refused : Nat → Int32) (v1 : Int32) (sz : Nat) (Post : Int32 → (Nat → Int32) → (Nat → Int32) → Prop) (hw : wp_X10_from kept isKept told refused v1 Post) :
    Met l yX10_from (Cond.code yX10_from cX10_from 3 (some .int) :: wsAll) rm_X10_from (va_Pc [.ref a_m, .int v1] (mxP D (mxTy cI cB cZ cP cC) sz (ww_X10_from a_m a_m_told a_m_kept a_m_isKept a_m_refused a_m_months a_m_heirs a_m_lasts a_m_cares a_m_bestCares a_m_ones a_m_others a_m_bytes a_m_anew a_m_values cI cB cZ cP cC above below retired manyLine bytesLong tokenAt tokenLong token value told kept isKept refused))) (qq_X10_from D a_m a_m_told a_m_kept a_m_isKept a_m_refused a_m_months a_m_heirs a_m_lasts a_m_cares a_m_bestCares a_m_ones a_m_others a_m_bytes a_m_anew a_m_values cI cB cZ cP cC above below retired manyLine bytesLong tokenAt tokenLong token value kept isKept Post (va_A (ww_X10_from a_m a_m_told a_m_kept a_m_isKept a_m_refused a_m_months a_m_heirs a_m_lasts a_m_cares a_m_bestCares a_m_ones a_m_others a_m_bytes a_m_anew a_m_values cI cB cZ cP cC above below retired manyLine bytesLong tokenAt tokenLong token value told kept isKept refused) sz)) 0 0 (va_A (ww_X10_from a_m a_m_told a_m_kept a_m_isKept a_m_refused a_m_months a_m_heirs a_m_lasts a_m_cares a_m_bestCares a_m_ones a_m_others a_m_bytes a_m_anew a_m_values cI cB cZ cP cC above below retired manyLine bytesLong tokenAt tokenLong token value told kept isKept refused) sz) := by
  refine mx_of (Qc := qq_X10_from D a_m a_m_told a_m_kept a_m_isKept a_m_refused a_m_months a_m_heirs a_m_lasts a_m_cares a_m_bestCares a_m_ones a_m_others a_m_bytes a_m_anew a_m_values cI cB cZ cP cC above below retired manyLine bytesLong tokenAt tokenLong token value kept isKept Post) (by decide) (Nat.le_of_ble_eq_true rfl) ?_
  intro p e s m bl meth c A ls C0 hP hD hS hl
  replace C0 : mxC p s m [.ref a_m, .int v1].toArray meth c cX10_from RX10 (some .int) 3 D (mxTy cI cB cZ cP cC) A := C0
  obtain ⟨hx, hb, hr, hlocks, hml, hown, hts, hK, hA⟩ := id C0
  replace hl : lv_has ls 3 [(0, .ref a_m), (1, .int v1)] := hl
  unfold wp_X10_from at hw
  refine lv_iload_n hx hb dX10_from_0 rfl (lv_at hl 1 rfl) ?_
  refine lv_i2l (v := v1.toInt64) hx hb dX10_from_1 rfl ?_
  refine lv_lconst (v := 0) hx hb dX10_from_2 rfl ?_
  refine lv_lconst (v := 1) hx hb dX10_from_3 rfl ?_
  refine mx_ki (mx_rS (rm := rm_X10_in) (rest := []) hx hb hml hown hts (c_X10_in l D cI cB cZ cP cC (v1.toInt64) 0 1 _ _ hw) q_163 q_164 q_5 q_165 hd_X10_in ⟨(Nat.le_of_ble_eq_true rfl), (Nat.le_of_ble_eq_true rfl)⟩ rfl rfl hK hP hD [] rfl rfl rfl hl.1 rfl (Nat.le_of_ble_eq_true rfl) dX10_from_4 ⟨(Nat.le_of_ble_eq_true rfl), (Nat.le_of_ble_eq_true rfl)⟩) hP hD hS hA [] [0, 1, 2, 3, 4] [0, 1, 2, 3, 4] (fun _ => ww_X10_from a_m a_m_told a_m_kept a_m_isKept a_m_refused a_m_months a_m_heirs a_m_lasts a_m_cares a_m_bestCares a_m_ones a_m_others a_m_bytes a_m_anew a_m_values cI cB cZ cP cC above below retired manyLine bytesLong tokenAt tokenLong token value told kept isKept refused) rfl rfl rfl (by decide) rfl (fun _ => rfl) (fun r_1 u H locs hw hP hD hS => ?_)
  try dsimp only at hw
  replace hP : va_P D vwCl (ww_X10_from a_m a_m_told a_m_kept a_m_isKept a_m_refused a_m_months a_m_heirs a_m_lasts a_m_cares a_m_bestCares a_m_ones a_m_others a_m_bytes a_m_anew a_m_values cI cB cZ cP cC above below retired manyLine bytesLong tokenAt tokenLong token value told kept isKept refused) H := hP
  replace hD : va_D A (ww_X10_from a_m a_m_told a_m_kept a_m_isKept a_m_refused a_m_months a_m_heirs a_m_lasts a_m_cares a_m_bestCares a_m_ones a_m_others a_m_bytes a_m_anew a_m_values cI cB cZ cP cC above below retired manyLine bytesLong tokenAt tokenLong token value told kept isKept refused) := hD
  refine lv_if_ne (tgt := 17) hx hb dX10_from_7 (by decide) (fun c_2 => ?_) (fun c_2 => ?_)
  · replace hw := hw.2 c_2
    refine lv_aload_n hx hb dX10_from_17 rfl (lv_at hl 0 rfl) ?_
    refine mx_get (ci := 10) (C := RX10) (T := TX10) (N := 23) hx hb hown in_wsX100 hts hK hP 0 rfl rfl 2 (by decide) q_93 rfl (v := .ref a_m_isKept) rfl dX10_from_18 ?_
    refine lv_iload_n hx hb dX10_from_21 rfl (lv_at hl 1 rfl) ?_
    obtain ⟨h_3, hw⟩ := hw
    refine mx_zald hx hb hK hP 3 2 rfl rfl h_3 (isKept v1.toNatClampNeg) rfl dX10_from_22 ?_
    refine lv_if_ne (tgt := 31) hx hb dX10_from_23 (by decide) (fun c_4 => ?_) (fun c_4 => ?_)
    · replace hw := hw.2 c_4
      refine lv_iconst (v := 0) hx hb dX10_from_31 (by decide) ?_
      refine lv_istore_n (lv' := [(2, .int 0), (0, .ref a_m), (1, .int v1)]) hx hb dX10_from_32 rfl hl (by decide) rfl (fun ls hl => ?_)
      obtain ⟨n0, hw⟩ := hw
      refine k_X10_from_L33 C0  n0 v1 0 told refused _ _ _ hP hD hS (lv_sub hl [1, 2, 0] rfl) hw
    · replace hw := hw.1 c_4
      refine lv_aload_n hx hb dX10_from_26 rfl (lv_at hl 0 rfl) ?_
      refine mx_ki (mx_rV (rm := rm_X10_no) (rest := []) (C := RX10) hx hb hml hown hts (c_X10_no l D cI cB cZ cP cC a_m a_m_told a_m_kept a_m_isKept a_m_refused a_m_months a_m_heirs a_m_lasts a_m_cares a_m_bestCares a_m_ones a_m_others a_m_bytes a_m_anew a_m_values above below retired manyLine bytesLong tokenAt tokenLong token value refused _ _ hw) q_498 q_499 q_500 q_5 q_501 hd_X10_no ⟨(Nat.le_of_ble_eq_true rfl), (Nat.le_of_ble_eq_true rfl)⟩ rfl rfl hK hP hD [0, 4] rfl rfl 10 0 rfl rfl rfl rfl hl.1 rfl (Nat.le_of_ble_eq_true rfl) dX10_from_27 ⟨(Nat.le_of_ble_eq_true rfl), (Nat.le_of_ble_eq_true rfl)⟩) hP hD hS hA [0, 4] [1, 2, 3] [3, 0, 1, 2, 4] (fun u => ww_X10_from a_m a_m_told a_m_kept a_m_isKept a_m_refused a_m_months a_m_heirs a_m_lasts a_m_cares a_m_bestCares a_m_ones a_m_others a_m_bytes a_m_anew a_m_values cI cB cZ cP cC above below retired manyLine bytesLong tokenAt tokenLong token value told kept isKept u) rfl rfl rfl (by decide) rfl (fun _ => rfl) (fun r_12 refused_13 H locs hw hP hD hS => ?_)
      try dsimp only at hw
      replace hP : va_P D vwCl (ww_X10_from a_m a_m_told a_m_kept a_m_isKept a_m_refused a_m_months a_m_heirs a_m_lasts a_m_cares a_m_bestCares a_m_ones a_m_others a_m_bytes a_m_anew a_m_values cI cB cZ cP cC above below retired manyLine bytesLong tokenAt tokenLong token value told kept isKept refused_13) H := hP
      replace hD : va_D A (ww_X10_from a_m a_m_told a_m_kept a_m_isKept a_m_refused a_m_months a_m_heirs a_m_lasts a_m_cares a_m_bestCares a_m_ones a_m_others a_m_bytes a_m_anew a_m_values cI cB cZ cP cC above below retired manyLine bytesLong tokenAt tokenLong token value told kept isKept refused_13) := hD
      exact mx_iret (told, refused_13) hx hb hr hlocks rfl hw hK hP hD hS dX10_from_30
  · replace hw := hw.1 c_2
    refine lv_aload_n hx hb dX10_from_10 rfl (lv_at hl 0 rfl) ?_
    refine lv_bipush (v := (-2)) hx hb dX10_from_11 (by decide) ?_
    refine mx_ki (mx_rV (rm := rm_X10_bad) (rest := []) (C := RX10) hx hb hml hown hts (c_X10_bad l D cI cB cZ cP cC a_m a_m_told a_m_kept a_m_isKept a_m_refused a_m_months a_m_heirs a_m_lasts a_m_cares a_m_bestCares a_m_ones a_m_others a_m_bytes a_m_anew a_m_values above below retired manyLine bytesLong tokenAt tokenLong token value refused (-2) _ _ hw) q_166 q_167 q_168 q_5 q_169 hd_X10_bad ⟨(Nat.le_of_ble_eq_true rfl), (Nat.le_of_ble_eq_true rfl)⟩ rfl rfl hK hP hD [0, 4] rfl rfl 10 0 rfl rfl rfl rfl hl.1 rfl (Nat.le_of_ble_eq_true rfl) dX10_from_13 ⟨(Nat.le_of_ble_eq_true rfl), (Nat.le_of_ble_eq_true rfl)⟩) hP hD hS hA [0, 4] [1, 2, 3] [3, 0, 1, 2, 4] (fun u => ww_X10_from a_m a_m_told a_m_kept a_m_isKept a_m_refused a_m_months a_m_heirs a_m_lasts a_m_cares a_m_bestCares a_m_ones a_m_others a_m_bytes a_m_anew a_m_values cI cB cZ cP cC above below retired manyLine bytesLong tokenAt tokenLong token value told kept isKept u) rfl rfl rfl (by decide) rfl (fun _ => rfl) (fun r_14 refused_15 H locs hw hP hD hS => ?_)
    try dsimp only at hw
    replace hP : va_P D vwCl (ww_X10_from a_m a_m_told a_m_kept a_m_isKept a_m_refused a_m_months a_m_heirs a_m_lasts a_m_cares a_m_bestCares a_m_ones a_m_others a_m_bytes a_m_anew a_m_values cI cB cZ cP cC above below retired manyLine bytesLong tokenAt tokenLong token value told kept isKept refused_15) H := hP
    replace hD : va_D A (ww_X10_from a_m a_m_told a_m_kept a_m_isKept a_m_refused a_m_months a_m_heirs a_m_lasts a_m_cares a_m_bestCares a_m_ones a_m_others a_m_bytes a_m_anew a_m_values cI cB cZ cP cC above below retired manyLine bytesLong tokenAt tokenLong token value told kept isKept refused_15) := hD
    exact mx_iret (told, refused_15) hx hb hr hlocks rfl hw hK hP hD hS dX10_from_16
/-! PramStateModel.status(I)I -/
abbrev ww_X10_status (a_m a_m_told a_m_kept a_m_isKept a_m_refused a_m_months a_m_heirs a_m_lasts a_m_cares a_m_bestCares a_m_ones a_m_others a_m_bytes a_m_anew a_m_values : Nat) (cI cB cZ cP cC : ClassId) (above : Int64) (below : Int64) (retired : Int32) (manyLine : Int32) (bytesLong : Int32) (tokenAt : Int32) (tokenLong : Int32) (token : Int32) (value : Int32) (refused : Nat → Int32) : va_W := [(a_m, .inr (10, [.ref a_m_told, .ref a_m_kept, .ref a_m_isKept, .ref a_m_refused, .long above, .long below, .ref a_m_months, .int retired, .ref a_m_heirs, .ref a_m_lasts, .int manyLine, .ref a_m_cares, .ref a_m_bestCares, .ref a_m_ones, .ref a_m_others, .ref a_m_bytes, .int bytesLong, .int tokenAt, .int tokenLong, .int token, .int value, .ref a_m_anew, .ref a_m_values])), (a_m_refused, .inl (cI, 3, .inl refused))]
abbrev qq_X10_status (D : va_G) (a_m a_m_told a_m_kept a_m_isKept a_m_refused a_m_months a_m_heirs a_m_lasts a_m_cares a_m_bestCares a_m_ones a_m_others a_m_bytes a_m_anew a_m_values : Nat) (cI cB cZ cP cC : ClassId) (above : Int64) (below : Int64) (retired : Int32) (manyLine : Int32) (bytesLong : Int32) (tokenAt : Int32) (tokenLong : Int32) (token : Int32) (value : Int32) (Post : Int32 → (Nat → Int32) → Prop) (A : Nat → Prop) : Array Value → State → Outcome → State → Prop := va_Qi (fun (r : Int32) (u : (Nat → Int32)) => Post r u) (fun (u : (Nat → Int32)) t => mxB D (mxTy cI cB cZ cP cC) A (ww_X10_status a_m a_m_told a_m_kept a_m_isKept a_m_refused a_m_months a_m_heirs a_m_lasts a_m_cares a_m_bestCares a_m_ones a_m_others a_m_bytes a_m_anew a_m_values cI cB cZ cP cC above below retired manyLine bytesLong tokenAt tokenLong token value u) t) A
abbrev rm_X10_status : Room := { frames := 1, cells := 0, slots := 0, locals := 25 }
theorem hd_X10_status : yX10_status.cls = RX10 ∧ yX10_status.cls ≠ "java/lang/invoke/MethodHandle" ∧ yX10_status.cls ≠ "java/lang/invoke/VarHandle" ∧ (parseMethodDescriptor yX10_status.desc).map (fun d => d.parameters.length) = some 1 := by decide +kernel
def wp_X10_status (refused : Nat → Int32) (v1 : Int32) (Post : Int32 → (Nat → Int32) → Prop) : Prop :=
  (wp_X10_in (v1.toInt64) 0 2 (fun r_1 => ((r_1 = 0 → (wp_X10_bad refused (-1) (fun r_3 refused_4 => Post r_3 refused_4))) ∧ (¬ r_1 = 0 → (vp_in v1 3 ∧ Post (refused v1.toNatClampNeg) refused)))))
set_option maxHeartbeats 4000000 in
set_option maxRecDepth 100000 in
theorem c_X10_status (l : Launch) (D : va_G) (cI cB cZ cP cC : ClassId) (a_m a_m_told a_m_kept a_m_isKept a_m_refused a_m_months a_m_heirs a_m_lasts a_m_cares a_m_bestCares a_m_ones a_m_others a_m_bytes a_m_anew a_m_values : Nat) (above : Int64) (below : Int64) (retired : Int32) (manyLine : Int32) (bytesLong : Int32) (tokenAt : Int32) (tokenLong : Int32) (token : Int32) (value : Int32) (refused : Nat → Int32) (v1 : Int32) (sz : Nat) (Post : Int32 → (Nat → Int32) → Prop) (hw : wp_X10_status refused v1 Post) :
    Met l yX10_status (Cond.code yX10_status cX10_status 2 (some .int) :: wsAll) rm_X10_status (va_Pc [.ref a_m, .int v1] (mxP D (mxTy cI cB cZ cP cC) sz (ww_X10_status a_m a_m_told a_m_kept a_m_isKept a_m_refused a_m_months a_m_heirs a_m_lasts a_m_cares a_m_bestCares a_m_ones a_m_others a_m_bytes a_m_anew a_m_values cI cB cZ cP cC above below retired manyLine bytesLong tokenAt tokenLong token value refused))) (qq_X10_status D a_m a_m_told a_m_kept a_m_isKept a_m_refused a_m_months a_m_heirs a_m_lasts a_m_cares a_m_bestCares a_m_ones a_m_others a_m_bytes a_m_anew a_m_values cI cB cZ cP cC above below retired manyLine bytesLong tokenAt tokenLong token value Post (va_A (ww_X10_status a_m a_m_told a_m_kept a_m_isKept a_m_refused a_m_months a_m_heirs a_m_lasts a_m_cares a_m_bestCares a_m_ones a_m_others a_m_bytes a_m_anew a_m_values cI cB cZ cP cC above below retired manyLine bytesLong tokenAt tokenLong token value refused) sz)) 0 0 (va_A (ww_X10_status a_m a_m_told a_m_kept a_m_isKept a_m_refused a_m_months a_m_heirs a_m_lasts a_m_cares a_m_bestCares a_m_ones a_m_others a_m_bytes a_m_anew a_m_values cI cB cZ cP cC above below retired manyLine bytesLong tokenAt tokenLong token value refused) sz) := by
  refine mx_of (Qc := qq_X10_status D a_m a_m_told a_m_kept a_m_isKept a_m_refused a_m_months a_m_heirs a_m_lasts a_m_cares a_m_bestCares a_m_ones a_m_others a_m_bytes a_m_anew a_m_values cI cB cZ cP cC above below retired manyLine bytesLong tokenAt tokenLong token value Post) (by decide) (Nat.le_of_ble_eq_true rfl) ?_
  intro p e s m bl meth c A ls C0 hP hD hS hl
  replace C0 : mxC p s m [.ref a_m, .int v1].toArray meth c cX10_status RX10 (some .int) 2 D (mxTy cI cB cZ cP cC) A := C0
  obtain ⟨hx, hb, hr, hlocks, hml, hown, hts, hK, hA⟩ := id C0
  replace hl : lv_has ls 2 [(0, .ref a_m), (1, .int v1)] := hl
  unfold wp_X10_status at hw
  refine lv_iload_n hx hb dX10_status_0 rfl (lv_at hl 1 rfl) ?_
  refine lv_i2l (v := v1.toInt64) hx hb dX10_status_1 rfl ?_
  refine lv_lconst (v := 0) hx hb dX10_status_2 rfl ?_
  refine lv_ldc2 (v := 2) hx hb hown (hts _ q_936) dX10_status_3 ?_
  refine mx_ki (mx_rS (rm := rm_X10_in) (rest := []) hx hb hml hown hts (c_X10_in l D cI cB cZ cP cC (v1.toInt64) 0 2 _ _ hw) q_163 q_164 q_5 q_165 hd_X10_in ⟨(Nat.le_of_ble_eq_true rfl), (Nat.le_of_ble_eq_true rfl)⟩ rfl rfl hK hP hD [] rfl rfl rfl hl.1 rfl (Nat.le_of_ble_eq_true rfl) dX10_status_6 ⟨(Nat.le_of_ble_eq_true rfl), (Nat.le_of_ble_eq_true rfl)⟩) hP hD hS hA [] [0, 1] [0, 1] (fun _ => ww_X10_status a_m a_m_told a_m_kept a_m_isKept a_m_refused a_m_months a_m_heirs a_m_lasts a_m_cares a_m_bestCares a_m_ones a_m_others a_m_bytes a_m_anew a_m_values cI cB cZ cP cC above below retired manyLine bytesLong tokenAt tokenLong token value refused) rfl rfl rfl (by decide) rfl (fun _ => rfl) (fun r_1 u H locs hw hP hD hS => ?_)
  try dsimp only at hw
  replace hP : va_P D vwCl (ww_X10_status a_m a_m_told a_m_kept a_m_isKept a_m_refused a_m_months a_m_heirs a_m_lasts a_m_cares a_m_bestCares a_m_ones a_m_others a_m_bytes a_m_anew a_m_values cI cB cZ cP cC above below retired manyLine bytesLong tokenAt tokenLong token value refused) H := hP
  replace hD : va_D A (ww_X10_status a_m a_m_told a_m_kept a_m_isKept a_m_refused a_m_months a_m_heirs a_m_lasts a_m_cares a_m_bestCares a_m_ones a_m_others a_m_bytes a_m_anew a_m_values cI cB cZ cP cC above below retired manyLine bytesLong tokenAt tokenLong token value refused) := hD
  refine lv_if_eq (tgt := 21) hx hb dX10_status_9 (by decide) (fun c_2 => ?_) (fun c_2 => ?_)
  · replace hw := hw.1 c_2
    refine lv_aload_n hx hb dX10_status_21 rfl (lv_at hl 0 rfl) ?_
    refine lv_iconst (v := (-1)) hx hb dX10_status_22 (by decide) ?_
    refine mx_ki (mx_rV (rm := rm_X10_bad) (rest := []) (C := RX10) hx hb hml hown hts (c_X10_bad l D cI cB cZ cP cC a_m a_m_told a_m_kept a_m_isKept a_m_refused a_m_months a_m_heirs a_m_lasts a_m_cares a_m_bestCares a_m_ones a_m_others a_m_bytes a_m_anew a_m_values above below retired manyLine bytesLong tokenAt tokenLong token value refused (-1) _ _ hw) q_166 q_167 q_168 q_5 q_169 hd_X10_bad ⟨(Nat.le_of_ble_eq_true rfl), (Nat.le_of_ble_eq_true rfl)⟩ rfl rfl hK hP hD [0, 1] rfl rfl 10 0 rfl rfl rfl rfl hl.1 rfl (Nat.le_of_ble_eq_true rfl) dX10_status_23 ⟨(Nat.le_of_ble_eq_true rfl), (Nat.le_of_ble_eq_true rfl)⟩) hP hD hS hA [0, 1] [] [0, 1] (fun u => ww_X10_status a_m a_m_told a_m_kept a_m_isKept a_m_refused a_m_months a_m_heirs a_m_lasts a_m_cares a_m_bestCares a_m_ones a_m_others a_m_bytes a_m_anew a_m_values cI cB cZ cP cC above below retired manyLine bytesLong tokenAt tokenLong token value u) rfl rfl rfl (by decide) rfl (fun _ => rfl) (fun r_3 refused_4 H locs hw hP hD hS => ?_)
    try dsimp only at hw
    replace hP : va_P D vwCl (ww_X10_status a_m a_m_told a_m_kept a_m_isKept a_m_refused a_m_months a_m_heirs a_m_lasts a_m_cares a_m_bestCares a_m_ones a_m_others a_m_bytes a_m_anew a_m_values cI cB cZ cP cC above below retired manyLine bytesLong tokenAt tokenLong token value refused_4) H := hP
    replace hD : va_D A (ww_X10_status a_m a_m_told a_m_kept a_m_isKept a_m_refused a_m_months a_m_heirs a_m_lasts a_m_cares a_m_bestCares a_m_ones a_m_others a_m_bytes a_m_anew a_m_values cI cB cZ cP cC above below retired manyLine bytesLong tokenAt tokenLong token value refused_4) := hD
    exact mx_iret refused_4 hx hb hr hlocks rfl hw hK hP hD hS dX10_status_26
  · replace hw := hw.2 c_2
    refine lv_aload_n hx hb dX10_status_12 rfl (lv_at hl 0 rfl) ?_
    refine mx_get (ci := 10) (C := RX10) (T := TX10) (N := 23) hx hb hown in_wsX100 hts hK hP 0 rfl rfl 3 (by decide) q_94 rfl (v := .ref a_m_refused) rfl dX10_status_13 ?_
    refine lv_iload_n hx hb dX10_status_16 rfl (lv_at hl 1 rfl) ?_
    obtain ⟨h_5, hw⟩ := hw
    refine mx_iald hx hb hK hP 1 0 rfl rfl h_5 (refused v1.toNatClampNeg) rfl dX10_status_17 ?_
    refine lv_goto (tgt := 26) hx hb dX10_status_18 (by decide) ?_
    exact mx_iret refused hx hb hr hlocks rfl hw hK hP hD hS dX10_status_26
/-! PramStateModel.counted(I)I -/
abbrev ww_X10_counted (a_m a_m_told a_m_kept a_m_isKept a_m_refused a_m_months a_m_heirs a_m_lasts a_m_cares a_m_bestCares a_m_ones a_m_others a_m_bytes a_m_anew a_m_values : Nat) (cI cB cZ cP cC : ClassId) (above : Int64) (below : Int64) (retired : Int32) (manyLine : Int32) (bytesLong : Int32) (tokenAt : Int32) (tokenLong : Int32) (token : Int32) (value : Int32) (told : Nat → Int32) : va_W := [(a_m, .inr (10, [.ref a_m_told, .ref a_m_kept, .ref a_m_isKept, .ref a_m_refused, .long above, .long below, .ref a_m_months, .int retired, .ref a_m_heirs, .ref a_m_lasts, .int manyLine, .ref a_m_cares, .ref a_m_bestCares, .ref a_m_ones, .ref a_m_others, .ref a_m_bytes, .int bytesLong, .int tokenAt, .int tokenLong, .int token, .int value, .ref a_m_anew, .ref a_m_values])), (a_m_told, .inl (cI, 190, .inl told))]
abbrev qq_X10_counted (D : va_G) (a_m a_m_told a_m_kept a_m_isKept a_m_refused a_m_months a_m_heirs a_m_lasts a_m_cares a_m_bestCares a_m_ones a_m_others a_m_bytes a_m_anew a_m_values : Nat) (cI cB cZ cP cC : ClassId) (above : Int64) (below : Int64) (retired : Int32) (manyLine : Int32) (bytesLong : Int32) (tokenAt : Int32) (tokenLong : Int32) (token : Int32) (value : Int32) (told : Nat → Int32) (Post : Int32 → Prop) (A : Nat → Prop) : Array Value → State → Outcome → State → Prop := va_Qi (fun (r : Int32) (u : Unit) => Post r) (fun (u : Unit) t => mxB D (mxTy cI cB cZ cP cC) A (ww_X10_counted a_m a_m_told a_m_kept a_m_isKept a_m_refused a_m_months a_m_heirs a_m_lasts a_m_cares a_m_bestCares a_m_ones a_m_others a_m_bytes a_m_anew a_m_values cI cB cZ cP cC above below retired manyLine bytesLong tokenAt tokenLong token value told) t) A
abbrev rm_X10_counted : Room := { frames := 1, cells := 0, slots := 0, locals := 22 }
theorem hd_X10_counted : yX10_counted.cls = RX10 ∧ yX10_counted.cls ≠ "java/lang/invoke/MethodHandle" ∧ yX10_counted.cls ≠ "java/lang/invoke/VarHandle" ∧ (parseMethodDescriptor yX10_counted.desc).map (fun d => d.parameters.length) = some 1 := by decide +kernel
def wp_X10_counted (bytesLong : Int32) (told : Nat → Int32) (v1 : Int32) (Post : Int32 → Prop) : Prop :=
  ((v1.toInt = 0 → (wp_X10_many told (fun r_2 => Post r_2))) ∧ (v1.toInt = 1 → (wp_X10_bits (told 10) (fun r_3 => Post r_3))) ∧ (v1.toInt = 2 → Post (told 17)) ∧ (v1.toInt = 3 → Post (told 1)) ∧ (v1.toInt = 4 → Post (told 2)) ∧ (v1.toInt = 5 → Post (told 3)) ∧ ((v1.toInt < 0 ∨ 5 < v1.toInt) → Post bytesLong))
set_option maxHeartbeats 4000000 in
set_option maxRecDepth 100000 in
theorem c_X10_counted (l : Launch) (D : va_G) (cI cB cZ cP cC : ClassId) (a_m a_m_told a_m_kept a_m_isKept a_m_refused a_m_months a_m_heirs a_m_lasts a_m_cares a_m_bestCares a_m_ones a_m_others a_m_bytes a_m_anew a_m_values : Nat) (above : Int64) (below : Int64) (retired : Int32) (manyLine : Int32) (bytesLong : Int32) (tokenAt : Int32) (tokenLong : Int32) (token : Int32) (value : Int32) (told : Nat → Int32) (v1 : Int32) (sz : Nat) (Post : Int32 → Prop) (hw : wp_X10_counted bytesLong told v1 Post) :
    Met l yX10_counted (Cond.code yX10_counted cX10_counted 2 (some .int) :: wsAll) rm_X10_counted (va_Pc [.ref a_m, .int v1] (mxP D (mxTy cI cB cZ cP cC) sz (ww_X10_counted a_m a_m_told a_m_kept a_m_isKept a_m_refused a_m_months a_m_heirs a_m_lasts a_m_cares a_m_bestCares a_m_ones a_m_others a_m_bytes a_m_anew a_m_values cI cB cZ cP cC above below retired manyLine bytesLong tokenAt tokenLong token value told))) (qq_X10_counted D a_m a_m_told a_m_kept a_m_isKept a_m_refused a_m_months a_m_heirs a_m_lasts a_m_cares a_m_bestCares a_m_ones a_m_others a_m_bytes a_m_anew a_m_values cI cB cZ cP cC above below retired manyLine bytesLong tokenAt tokenLong token value told Post (va_A (ww_X10_counted a_m a_m_told a_m_kept a_m_isKept a_m_refused a_m_months a_m_heirs a_m_lasts a_m_cares a_m_bestCares a_m_ones a_m_others a_m_bytes a_m_anew a_m_values cI cB cZ cP cC above below retired manyLine bytesLong tokenAt tokenLong token value told) sz)) 0 0 (va_A (ww_X10_counted a_m a_m_told a_m_kept a_m_isKept a_m_refused a_m_months a_m_heirs a_m_lasts a_m_cares a_m_bestCares a_m_ones a_m_others a_m_bytes a_m_anew a_m_values cI cB cZ cP cC above below retired manyLine bytesLong tokenAt tokenLong token value told) sz) := by
  refine mx_of (Qc := qq_X10_counted D a_m a_m_told a_m_kept a_m_isKept a_m_refused a_m_months a_m_heirs a_m_lasts a_m_cares a_m_bestCares a_m_ones a_m_others a_m_bytes a_m_anew a_m_values cI cB cZ cP cC above below retired manyLine bytesLong tokenAt tokenLong token value told Post) (by decide) (Nat.le_of_ble_eq_true rfl) ?_
  intro p e s m bl meth c A ls C0 hP hD hS hl
  replace C0 : mxC p s m [.ref a_m, .int v1].toArray meth c cX10_counted RX10 (some .int) 2 D (mxTy cI cB cZ cP cC) A := C0
  obtain ⟨hx, hb, hr, hlocks, hml, hown, hts, hK, hA⟩ := id C0
  replace hl : lv_has ls 2 [(0, .ref a_m), (1, .int v1)] := hl
  unfold wp_X10_counted at hw
  refine lv_iload_n hx hb dX10_counted_0 rfl (lv_at hl 1 rfl) ?_
  rcases (show v1.toInt = 0 ∨ v1.toInt = 1 ∨ v1.toInt = 2 ∨ v1.toInt = 3 ∨ v1.toInt = 4 ∨ v1.toInt = 5 ∨ (v1.toInt < 0 ∨ 5 < v1.toInt) by omega) with e_1 | e_1 | e_1 | e_1 | e_1 | e_1 | e_1
  · replace hw := hw.1 e_1
    refine lv_tableIn (tgt := 40) hx hb dX10_counted_1 (by omega) (by omega) (by rw [e_1]; rfl) (by decide) ?_
    refine lv_aload_n hx hb dX10_counted_40 rfl (lv_at hl 0 rfl) ?_
    refine mx_ki (mx_rV (rm := rm_X10_many) (rest := []) (C := RX10) hx hb hml hown hts (c_X10_many l D cI cB cZ cP cC a_m a_m_told a_m_kept a_m_isKept a_m_refused a_m_months a_m_heirs a_m_lasts a_m_cares a_m_bestCares a_m_ones a_m_others a_m_bytes a_m_anew a_m_values above below retired manyLine bytesLong tokenAt tokenLong token value told _ _ hw) q_132 q_133 q_134 q_5 q_135 hd_X10_many ⟨(Nat.le_of_ble_eq_true rfl), (Nat.le_of_ble_eq_true rfl)⟩ rfl rfl hK hP hD [0, 1] rfl rfl 10 0 rfl rfl rfl rfl hl.1 rfl (Nat.le_of_ble_eq_true rfl) dX10_counted_41 ⟨(Nat.le_of_ble_eq_true rfl), (Nat.le_of_ble_eq_true rfl)⟩) hP hD hS hA [0, 1] [] [0, 1] (fun _ => ww_X10_counted a_m a_m_told a_m_kept a_m_isKept a_m_refused a_m_months a_m_heirs a_m_lasts a_m_cares a_m_bestCares a_m_ones a_m_others a_m_bytes a_m_anew a_m_values cI cB cZ cP cC above below retired manyLine bytesLong tokenAt tokenLong token value told) rfl rfl rfl (by decide) rfl (fun _ => rfl) (fun r_2 u H locs hw hP hD hS => ?_)
    try dsimp only at hw
    replace hP : va_P D vwCl (ww_X10_counted a_m a_m_told a_m_kept a_m_isKept a_m_refused a_m_months a_m_heirs a_m_lasts a_m_cares a_m_bestCares a_m_ones a_m_others a_m_bytes a_m_anew a_m_values cI cB cZ cP cC above below retired manyLine bytesLong tokenAt tokenLong token value told) H := hP
    replace hD : va_D A (ww_X10_counted a_m a_m_told a_m_kept a_m_isKept a_m_refused a_m_months a_m_heirs a_m_lasts a_m_cares a_m_bestCares a_m_ones a_m_others a_m_bytes a_m_anew a_m_values cI cB cZ cP cC above below retired manyLine bytesLong tokenAt tokenLong token value told) := hD
    exact mx_iret () hx hb hr hlocks rfl hw hK hP hD hS dX10_counted_44
  · replace hw := hw.2.1 e_1
    refine lv_tableIn (tgt := 45) hx hb dX10_counted_1 (by omega) (by omega) (by rw [e_1]; rfl) (by decide) ?_
    refine lv_aload_n hx hb dX10_counted_45 rfl (lv_at hl 0 rfl) ?_
    refine mx_get (ci := 10) (C := RX10) (T := TX10) (N := 23) hx hb hown in_wsX100 hts hK hP 0 rfl rfl 0 (by decide) q_91 rfl (v := .ref a_m_told) rfl dX10_counted_46 ?_
    refine lv_bipush (v := 10) hx hb dX10_counted_49 (by decide) ?_
    refine mx_iald hx hb hK hP 1 0 rfl rfl (mx_lit rfl) (told 10) rfl dX10_counted_51 ?_
    refine mx_ki (mx_rS (rm := rm_X10_bits) (rest := []) hx hb hml hown hts (c_X10_bits l D cI cB cZ cP cC (told 10) _ _ hw) q_502 q_503 q_5 q_504 hd_X10_bits ⟨(Nat.le_of_ble_eq_true rfl), (Nat.le_of_ble_eq_true rfl)⟩ rfl rfl hK hP hD [] rfl rfl rfl hl.1 rfl (Nat.le_of_ble_eq_true rfl) dX10_counted_52 ⟨(Nat.le_of_ble_eq_true rfl), (Nat.le_of_ble_eq_true rfl)⟩) hP hD hS hA [] [0, 1] [0, 1] (fun _ => ww_X10_counted a_m a_m_told a_m_kept a_m_isKept a_m_refused a_m_months a_m_heirs a_m_lasts a_m_cares a_m_bestCares a_m_ones a_m_others a_m_bytes a_m_anew a_m_values cI cB cZ cP cC above below retired manyLine bytesLong tokenAt tokenLong token value told) rfl rfl rfl (by decide) rfl (fun _ => rfl) (fun r_3 u H locs hw hP hD hS => ?_)
    try dsimp only at hw
    replace hP : va_P D vwCl (ww_X10_counted a_m a_m_told a_m_kept a_m_isKept a_m_refused a_m_months a_m_heirs a_m_lasts a_m_cares a_m_bestCares a_m_ones a_m_others a_m_bytes a_m_anew a_m_values cI cB cZ cP cC above below retired manyLine bytesLong tokenAt tokenLong token value told) H := hP
    replace hD : va_D A (ww_X10_counted a_m a_m_told a_m_kept a_m_isKept a_m_refused a_m_months a_m_heirs a_m_lasts a_m_cares a_m_bestCares a_m_ones a_m_others a_m_bytes a_m_anew a_m_values cI cB cZ cP cC above below retired manyLine bytesLong tokenAt tokenLong token value told) := hD
    exact mx_iret () hx hb hr hlocks rfl hw hK hP hD hS dX10_counted_55
  · replace hw := hw.2.2.1 e_1
    refine lv_tableIn (tgt := 56) hx hb dX10_counted_1 (by omega) (by omega) (by rw [e_1]; rfl) (by decide) ?_
    refine lv_aload_n hx hb dX10_counted_56 rfl (lv_at hl 0 rfl) ?_
    refine mx_get (ci := 10) (C := RX10) (T := TX10) (N := 23) hx hb hown in_wsX100 hts hK hP 0 rfl rfl 0 (by decide) q_91 rfl (v := .ref a_m_told) rfl dX10_counted_57 ?_
    refine lv_bipush (v := 17) hx hb dX10_counted_60 (by decide) ?_
    refine mx_iald hx hb hK hP 1 0 rfl rfl (mx_lit rfl) (told 17) rfl dX10_counted_62 ?_
    exact mx_iret () hx hb hr hlocks rfl hw hK hP hD hS dX10_counted_63
  · replace hw := hw.2.2.2.1 e_1
    refine lv_tableIn (tgt := 64) hx hb dX10_counted_1 (by omega) (by omega) (by rw [e_1]; rfl) (by decide) ?_
    refine lv_aload_n hx hb dX10_counted_64 rfl (lv_at hl 0 rfl) ?_
    refine mx_get (ci := 10) (C := RX10) (T := TX10) (N := 23) hx hb hown in_wsX100 hts hK hP 0 rfl rfl 0 (by decide) q_91 rfl (v := .ref a_m_told) rfl dX10_counted_65 ?_
    refine lv_iconst (v := 1) hx hb dX10_counted_68 (by decide) ?_
    refine mx_iald hx hb hK hP 1 0 rfl rfl (mx_lit rfl) (told 1) rfl dX10_counted_69 ?_
    exact mx_iret () hx hb hr hlocks rfl hw hK hP hD hS dX10_counted_70
  · replace hw := hw.2.2.2.2.1 e_1
    refine lv_tableIn (tgt := 71) hx hb dX10_counted_1 (by omega) (by omega) (by rw [e_1]; rfl) (by decide) ?_
    refine lv_aload_n hx hb dX10_counted_71 rfl (lv_at hl 0 rfl) ?_
    refine mx_get (ci := 10) (C := RX10) (T := TX10) (N := 23) hx hb hown in_wsX100 hts hK hP 0 rfl rfl 0 (by decide) q_91 rfl (v := .ref a_m_told) rfl dX10_counted_72 ?_
    refine lv_iconst (v := 2) hx hb dX10_counted_75 (by decide) ?_
    refine mx_iald hx hb hK hP 1 0 rfl rfl (mx_lit rfl) (told 2) rfl dX10_counted_76 ?_
    exact mx_iret () hx hb hr hlocks rfl hw hK hP hD hS dX10_counted_77
  · replace hw := hw.2.2.2.2.2.1 e_1
    refine lv_tableIn (tgt := 78) hx hb dX10_counted_1 (by omega) (by omega) (by rw [e_1]; rfl) (by decide) ?_
    refine lv_aload_n hx hb dX10_counted_78 rfl (lv_at hl 0 rfl) ?_
    refine mx_get (ci := 10) (C := RX10) (T := TX10) (N := 23) hx hb hown in_wsX100 hts hK hP 0 rfl rfl 0 (by decide) q_91 rfl (v := .ref a_m_told) rfl dX10_counted_79 ?_
    refine lv_iconst (v := 3) hx hb dX10_counted_82 (by decide) ?_
    refine mx_iald hx hb hK hP 1 0 rfl rfl (mx_lit rfl) (told 3) rfl dX10_counted_83 ?_
    exact mx_iret () hx hb hr hlocks rfl hw hK hP hD hS dX10_counted_84
  · replace hw := hw.2.2.2.2.2.2 e_1
    refine lv_tableOut (tgt := 85) hx hb dX10_counted_1 e_1 (by decide) ?_
    refine lv_aload_n hx hb dX10_counted_85 rfl (lv_at hl 0 rfl) ?_
    refine mx_get (ci := 10) (C := RX10) (T := TX10) (N := 23) hx hb hown in_wsX100 hts hK hP 0 rfl rfl 16 (by decide) q_209 rfl (v := .int bytesLong) rfl dX10_counted_86 ?_
    exact mx_iret () hx hb hr hlocks rfl hw hK hP hD hS dX10_counted_89
/-! PramStateModel.count(I)I -/
abbrev ww_X10_count (a_m a_m_told a_m_kept a_m_isKept a_m_refused a_m_months a_m_heirs a_m_lasts a_m_cares a_m_bestCares a_m_ones a_m_others a_m_bytes a_m_anew a_m_values : Nat) (cI cB cZ cP cC : ClassId) (above : Int64) (below : Int64) (retired : Int32) (manyLine : Int32) (bytesLong : Int32) (tokenAt : Int32) (tokenLong : Int32) (token : Int32) (value : Int32) (told : Nat → Int32) (refused : Nat → Int32) : va_W := [(a_m, .inr (10, [.ref a_m_told, .ref a_m_kept, .ref a_m_isKept, .ref a_m_refused, .long above, .long below, .ref a_m_months, .int retired, .ref a_m_heirs, .ref a_m_lasts, .int manyLine, .ref a_m_cares, .ref a_m_bestCares, .ref a_m_ones, .ref a_m_others, .ref a_m_bytes, .int bytesLong, .int tokenAt, .int tokenLong, .int token, .int value, .ref a_m_anew, .ref a_m_values])), (a_m_told, .inl (cI, 190, .inl told)), (a_m_refused, .inl (cI, 3, .inl refused))]
abbrev qq_X10_count (D : va_G) (a_m a_m_told a_m_kept a_m_isKept a_m_refused a_m_months a_m_heirs a_m_lasts a_m_cares a_m_bestCares a_m_ones a_m_others a_m_bytes a_m_anew a_m_values : Nat) (cI cB cZ cP cC : ClassId) (above : Int64) (below : Int64) (retired : Int32) (manyLine : Int32) (bytesLong : Int32) (tokenAt : Int32) (tokenLong : Int32) (token : Int32) (value : Int32) (told : Nat → Int32) (Post : Int32 → (Nat → Int32) → Prop) (A : Nat → Prop) : Array Value → State → Outcome → State → Prop := va_Qi (fun (r : Int32) (u : (Nat → Int32)) => Post r u) (fun (u : (Nat → Int32)) t => mxB D (mxTy cI cB cZ cP cC) A (ww_X10_count a_m a_m_told a_m_kept a_m_isKept a_m_refused a_m_months a_m_heirs a_m_lasts a_m_cares a_m_bestCares a_m_ones a_m_others a_m_bytes a_m_anew a_m_values cI cB cZ cP cC above below retired manyLine bytesLong tokenAt tokenLong token value told u) t) A
abbrev rm_X10_count : Room := { frames := 2, cells := 0, slots := 0, locals := 43 }
theorem hd_X10_count : yX10_count.cls = RX10 ∧ yX10_count.cls ≠ "java/lang/invoke/MethodHandle" ∧ yX10_count.cls ≠ "java/lang/invoke/VarHandle" ∧ (parseMethodDescriptor yX10_count.desc).map (fun d => d.parameters.length) = some 1 := by decide +kernel
def wp_X10_count (bytesLong : Int32) (told : Nat → Int32) (refused : Nat → Int32) (v1 : Int32) (Post : Int32 → (Nat → Int32) → Prop) : Prop :=
  (wp_X10_in (v1.toInt64) 0 6 (fun r_1 => ((r_1 = 0 → (wp_X10_bad refused (-2) (fun r_3 refused_4 => Post r_3 refused_4))) ∧ (¬ r_1 = 0 → (wp_X10_counted bytesLong told v1 (fun r_5 => Post r_5 refused))))))
set_option maxHeartbeats 4000000 in
set_option maxRecDepth 100000 in
theorem c_X10_count (l : Launch) (D : va_G) (cI cB cZ cP cC : ClassId) (a_m a_m_told a_m_kept a_m_isKept a_m_refused a_m_months a_m_heirs a_m_lasts a_m_cares a_m_bestCares a_m_ones a_m_others a_m_bytes a_m_anew a_m_values : Nat) (above : Int64) (below : Int64) (retired : Int32) (manyLine : Int32) (bytesLong : Int32) (tokenAt : Int32) (tokenLong : Int32) (token : Int32) (value : Int32) (told : Nat → Int32) (refused : Nat → Int32) (v1 : Int32) (sz : Nat) (Post : Int32 → (Nat → Int32) → Prop) (hw : wp_X10_count bytesLong told refused v1 Post) :
    Met l yX10_count (Cond.code yX10_count cX10_count 2 (some .int) :: wsAll) rm_X10_count (va_Pc [.ref a_m, .int v1] (mxP D (mxTy cI cB cZ cP cC) sz (ww_X10_count a_m a_m_told a_m_kept a_m_isKept a_m_refused a_m_months a_m_heirs a_m_lasts a_m_cares a_m_bestCares a_m_ones a_m_others a_m_bytes a_m_anew a_m_values cI cB cZ cP cC above below retired manyLine bytesLong tokenAt tokenLong token value told refused))) (qq_X10_count D a_m a_m_told a_m_kept a_m_isKept a_m_refused a_m_months a_m_heirs a_m_lasts a_m_cares a_m_bestCares a_m_ones a_m_others a_m_bytes a_m_anew a_m_values cI cB cZ cP cC above below retired manyLine bytesLong tokenAt tokenLong token value told Post (va_A (ww_X10_count a_m a_m_told a_m_kept a_m_isKept a_m_refused a_m_months a_m_heirs a_m_lasts a_m_cares a_m_bestCares a_m_ones a_m_others a_m_bytes a_m_anew a_m_values cI cB cZ cP cC above below retired manyLine bytesLong tokenAt tokenLong token value told refused) sz)) 0 0 (va_A (ww_X10_count a_m a_m_told a_m_kept a_m_isKept a_m_refused a_m_months a_m_heirs a_m_lasts a_m_cares a_m_bestCares a_m_ones a_m_others a_m_bytes a_m_anew a_m_values cI cB cZ cP cC above below retired manyLine bytesLong tokenAt tokenLong token value told refused) sz) := by
  refine mx_of (Qc := qq_X10_count D a_m a_m_told a_m_kept a_m_isKept a_m_refused a_m_months a_m_heirs a_m_lasts a_m_cares a_m_bestCares a_m_ones a_m_others a_m_bytes a_m_anew a_m_values cI cB cZ cP cC above below retired manyLine bytesLong tokenAt tokenLong token value told Post) (by decide) (Nat.le_of_ble_eq_true rfl) ?_
  intro p e s m bl meth c A ls C0 hP hD hS hl
  replace C0 : mxC p s m [.ref a_m, .int v1].toArray meth c cX10_count RX10 (some .int) 2 D (mxTy cI cB cZ cP cC) A := C0
  obtain ⟨hx, hb, hr, hlocks, hml, hown, hts, hK, hA⟩ := id C0
  replace hl : lv_has ls 2 [(0, .ref a_m), (1, .int v1)] := hl
  unfold wp_X10_count at hw
  refine lv_iload_n hx hb dX10_count_0 rfl (lv_at hl 1 rfl) ?_
  refine lv_i2l (v := v1.toInt64) hx hb dX10_count_1 rfl ?_
  refine lv_lconst (v := 0) hx hb dX10_count_2 rfl ?_
  refine lv_ldc2 (v := 6) hx hb hown (hts _ q_622) dX10_count_3 ?_
  refine mx_ki (mx_rS (rm := rm_X10_in) (rest := []) hx hb hml hown hts (c_X10_in l D cI cB cZ cP cC (v1.toInt64) 0 6 _ _ hw) q_163 q_164 q_5 q_165 hd_X10_in ⟨(Nat.le_of_ble_eq_true rfl), (Nat.le_of_ble_eq_true rfl)⟩ rfl rfl hK hP hD [] rfl rfl rfl hl.1 rfl (Nat.le_of_ble_eq_true rfl) dX10_count_6 ⟨(Nat.le_of_ble_eq_true rfl), (Nat.le_of_ble_eq_true rfl)⟩) hP hD hS hA [] [0, 1, 2] [0, 1, 2] (fun _ => ww_X10_count a_m a_m_told a_m_kept a_m_isKept a_m_refused a_m_months a_m_heirs a_m_lasts a_m_cares a_m_bestCares a_m_ones a_m_others a_m_bytes a_m_anew a_m_values cI cB cZ cP cC above below retired manyLine bytesLong tokenAt tokenLong token value told refused) rfl rfl rfl (by decide) rfl (fun _ => rfl) (fun r_1 u H locs hw hP hD hS => ?_)
  try dsimp only at hw
  replace hP : va_P D vwCl (ww_X10_count a_m a_m_told a_m_kept a_m_isKept a_m_refused a_m_months a_m_heirs a_m_lasts a_m_cares a_m_bestCares a_m_ones a_m_others a_m_bytes a_m_anew a_m_values cI cB cZ cP cC above below retired manyLine bytesLong tokenAt tokenLong token value told refused) H := hP
  replace hD : va_D A (ww_X10_count a_m a_m_told a_m_kept a_m_isKept a_m_refused a_m_months a_m_heirs a_m_lasts a_m_cares a_m_bestCares a_m_ones a_m_others a_m_bytes a_m_anew a_m_values cI cB cZ cP cC above below retired manyLine bytesLong tokenAt tokenLong token value told refused) := hD
  refine lv_if_eq (tgt := 20) hx hb dX10_count_9 (by decide) (fun c_2 => ?_) (fun c_2 => ?_)
  · replace hw := hw.1 c_2
    refine lv_aload_n hx hb dX10_count_20 rfl (lv_at hl 0 rfl) ?_
    refine lv_bipush (v := (-2)) hx hb dX10_count_21 (by decide) ?_
    refine mx_ki (mx_rV (rm := rm_X10_bad) (rest := []) (C := RX10) hx hb hml hown hts (c_X10_bad l D cI cB cZ cP cC a_m a_m_told a_m_kept a_m_isKept a_m_refused a_m_months a_m_heirs a_m_lasts a_m_cares a_m_bestCares a_m_ones a_m_others a_m_bytes a_m_anew a_m_values above below retired manyLine bytesLong tokenAt tokenLong token value refused (-2) _ _ hw) q_166 q_167 q_168 q_5 q_169 hd_X10_bad ⟨(Nat.le_of_ble_eq_true rfl), (Nat.le_of_ble_eq_true rfl)⟩ rfl rfl hK hP hD [0, 2] rfl rfl 10 0 rfl rfl rfl rfl hl.1 rfl (Nat.le_of_ble_eq_true rfl) dX10_count_23 ⟨(Nat.le_of_ble_eq_true rfl), (Nat.le_of_ble_eq_true rfl)⟩) hP hD hS hA [0, 2] [1] [1, 0, 2] (fun u => ww_X10_count a_m a_m_told a_m_kept a_m_isKept a_m_refused a_m_months a_m_heirs a_m_lasts a_m_cares a_m_bestCares a_m_ones a_m_others a_m_bytes a_m_anew a_m_values cI cB cZ cP cC above below retired manyLine bytesLong tokenAt tokenLong token value told u) rfl rfl rfl (by decide) rfl (fun _ => rfl) (fun r_3 refused_4 H locs hw hP hD hS => ?_)
    try dsimp only at hw
    replace hP : va_P D vwCl (ww_X10_count a_m a_m_told a_m_kept a_m_isKept a_m_refused a_m_months a_m_heirs a_m_lasts a_m_cares a_m_bestCares a_m_ones a_m_others a_m_bytes a_m_anew a_m_values cI cB cZ cP cC above below retired manyLine bytesLong tokenAt tokenLong token value told refused_4) H := hP
    replace hD : va_D A (ww_X10_count a_m a_m_told a_m_kept a_m_isKept a_m_refused a_m_months a_m_heirs a_m_lasts a_m_cares a_m_bestCares a_m_ones a_m_others a_m_bytes a_m_anew a_m_values cI cB cZ cP cC above below retired manyLine bytesLong tokenAt tokenLong token value told refused_4) := hD
    exact mx_iret refused_4 hx hb hr hlocks rfl hw hK hP hD hS dX10_count_26
  · replace hw := hw.2 c_2
    refine lv_aload_n hx hb dX10_count_12 rfl (lv_at hl 0 rfl) ?_
    refine lv_iload_n hx hb dX10_count_13 rfl (lv_at hl 1 rfl) ?_
    refine mx_ki (mx_rV (rm := rm_X10_counted) (rest := []) (C := RX10) hx hb hml hown hts (c_X10_counted l D cI cB cZ cP cC a_m a_m_told a_m_kept a_m_isKept a_m_refused a_m_months a_m_heirs a_m_lasts a_m_cares a_m_bestCares a_m_ones a_m_others a_m_bytes a_m_anew a_m_values above below retired manyLine bytesLong tokenAt tokenLong token value told v1 _ _ hw) q_949 q_950 q_951 q_5 q_952 hd_X10_counted ⟨(Nat.le_of_ble_eq_true rfl), (Nat.le_of_ble_eq_true rfl)⟩ rfl rfl hK hP hD [0, 1] rfl rfl 10 0 rfl rfl rfl rfl hl.1 rfl (Nat.le_of_ble_eq_true rfl) dX10_count_14 ⟨(Nat.le_of_ble_eq_true rfl), (Nat.le_of_ble_eq_true rfl)⟩) hP hD hS hA [0, 1] [2] [1, 2, 0] (fun _ => ww_X10_count a_m a_m_told a_m_kept a_m_isKept a_m_refused a_m_months a_m_heirs a_m_lasts a_m_cares a_m_bestCares a_m_ones a_m_others a_m_bytes a_m_anew a_m_values cI cB cZ cP cC above below retired manyLine bytesLong tokenAt tokenLong token value told refused) rfl rfl rfl (by decide) rfl (fun _ => rfl) (fun r_5 u H locs hw hP hD hS => ?_)
    try dsimp only at hw
    replace hP : va_P D vwCl (ww_X10_count a_m a_m_told a_m_kept a_m_isKept a_m_refused a_m_months a_m_heirs a_m_lasts a_m_cares a_m_bestCares a_m_ones a_m_others a_m_bytes a_m_anew a_m_values cI cB cZ cP cC above below retired manyLine bytesLong tokenAt tokenLong token value told refused) H := hP
    replace hD : va_D A (ww_X10_count a_m a_m_told a_m_kept a_m_isKept a_m_refused a_m_months a_m_heirs a_m_lasts a_m_cares a_m_bestCares a_m_ones a_m_others a_m_bytes a_m_anew a_m_values cI cB cZ cP cC above below retired manyLine bytesLong tokenAt tokenLong token value told refused) := hD
    refine lv_goto (tgt := 26) hx hb dX10_count_17 (by decide) ?_
    exact mx_iret refused hx hb hr hlocks rfl hw hK hP hD hS dX10_count_26
/-! PramStateModel.sums(JII)J -/
abbrev ww_X10_sums (a_m a_m_told a_m_kept a_m_isKept a_m_refused a_m_months a_m_heirs a_m_lasts a_m_cares a_m_bestCares a_m_ones a_m_others a_m_bytes a_m_anew a_m_values : Nat) (cI cB cZ cP cC : ClassId) (above : Int64) (below : Int64) (retired : Int32) (manyLine : Int32) (bytesLong : Int32) (tokenAt : Int32) (tokenLong : Int32) (token : Int32) (value : Int32) (told : Nat → Int32) : va_W := [(a_m, .inr (10, [.ref a_m_told, .ref a_m_kept, .ref a_m_isKept, .ref a_m_refused, .long above, .long below, .ref a_m_months, .int retired, .ref a_m_heirs, .ref a_m_lasts, .int manyLine, .ref a_m_cares, .ref a_m_bestCares, .ref a_m_ones, .ref a_m_others, .ref a_m_bytes, .int bytesLong, .int tokenAt, .int tokenLong, .int token, .int value, .ref a_m_anew, .ref a_m_values])), (a_m_told, .inl (cI, 190, .inl told))]
abbrev qq_X10_sums (D : va_G) (a_m a_m_told a_m_kept a_m_isKept a_m_refused a_m_months a_m_heirs a_m_lasts a_m_cares a_m_bestCares a_m_ones a_m_others a_m_bytes a_m_anew a_m_values : Nat) (cI cB cZ cP cC : ClassId) (above : Int64) (below : Int64) (retired : Int32) (manyLine : Int32) (bytesLong : Int32) (tokenAt : Int32) (tokenLong : Int32) (token : Int32) (value : Int32) (told : Nat → Int32) (Post : Int64 → Prop) (A : Nat → Prop) : Array Value → State → Outcome → State → Prop := va_Ql (fun (r : Int64) (u : Unit) => Post r) (fun (u : Unit) t => mxB D (mxTy cI cB cZ cP cC) A (ww_X10_sums a_m a_m_told a_m_kept a_m_isKept a_m_refused a_m_months a_m_heirs a_m_lasts a_m_cares a_m_bestCares a_m_ones a_m_others a_m_bytes a_m_anew a_m_values cI cB cZ cP cC above below retired manyLine bytesLong tokenAt tokenLong token value told) t) A
abbrev rm_X10_sums : Room := { frames := 0, cells := 0, slots := 0, locals := 0 }
theorem hd_X10_sums : yX10_sums.cls = RX10 ∧ yX10_sums.cls ≠ "java/lang/invoke/MethodHandle" ∧ yX10_sums.cls ≠ "java/lang/invoke/VarHandle" ∧ (parseMethodDescriptor yX10_sums.desc).map (fun d => d.parameters.length) = some 3 := by decide +kernel
def wp_X10_sums_L6 (told : Nat → Int32) (Post : Int64 → Prop)  : Nat → Int32 → Int32 → Int64 → Int32 → Prop
  | 0, _, _, _, _ => False
  | n + 1, v3, v4, v5, v7 => ((v4 ≤ v7 → Post v5) ∧ (¬ v4 ≤ v7 → (vp_in (v3 + v7) 190 ∧ (∀ x_3 : Int64, x_3 = (31 * v5) + ((told (v3 + v7).toNatClampNeg).toInt64) → (∀ x_4 : Int32, x_4 = v7 + 1 → wp_X10_sums_L6 told Post  n v3 v4 x_3 x_4)))))
set_option maxHeartbeats 4000000 in
set_option maxRecDepth 100000 in
theorem k_X10_sums_L6 {p : Program} {l : Launch} {e : Env} {s : State} {m : MethodId} {ar : Array Value} {bl : List Frame} {meth : Method} {c : Code} {D : va_G} {A : Nat → Prop} {cI cB cZ cP cC : ClassId} {a_m a_m_told a_m_kept a_m_isKept a_m_refused a_m_months a_m_heirs a_m_lasts a_m_cares a_m_bestCares a_m_ones a_m_others a_m_bytes a_m_anew a_m_values : Nat} {above : Int64} {below : Int64} {retired : Int32} {manyLine : Int32} {bytesLong : Int32} {tokenAt : Int32} {tokenLong : Int32} {token : Int32} {value : Int32} {told : Nat → Int32} {Post : Int64 → Prop} (C0 : mxC p s m ar meth c cX10_sums RX10 (some .long) 8 D (mxTy cI cB cZ cP cC) A) :
    ∀ (n : Nat) (v3 : Int32) (v4 : Int32) (v5 : Int64) (v7 : Int32) (H : Heap) (locs : List Loc) (ls : Array Slot), va_P D vwCl (ww_X10_sums a_m a_m_told a_m_kept a_m_isKept a_m_refused a_m_months a_m_heirs a_m_lasts a_m_cares a_m_bestCares a_m_ones a_m_others a_m_bytes a_m_anew a_m_values cI cB cZ cP cC above below retired manyLine bytesLong tokenAt tokenLong token value told) H → va_D A (ww_X10_sums a_m a_m_told a_m_kept a_m_isKept a_m_refused a_m_months a_m_heirs a_m_lasts a_m_cares a_m_bestCares a_m_ones a_m_others a_m_bytes a_m_anew a_m_values cI cB cZ cP cC above below retired manyLine bytesLong tokenAt tokenLong token value told) → va_S A s.heap H locs → lv_has ls 8 [(0, .ref a_m), (3, .int v3), (4, .int v4), (5, .long v5), (7, .int v7)] → wp_X10_sums_L6 told Post  n v3 v4 v5 v7 → W p l e rm_X10_sums s m ar bl meth c H locs 0 0 (MQ bl (qq_X10_sums D a_m a_m_told a_m_kept a_m_isKept a_m_refused a_m_months a_m_heirs a_m_lasts a_m_cares a_m_bestCares a_m_ones a_m_others a_m_bytes a_m_anew a_m_values cI cB cZ cP cC above below retired manyLine bytesLong tokenAt tokenLong token value told Post A) ar s 0 0 A) (F0 m 6 ls []) := by
  obtain ⟨hx, hb, hr, hlocks, hml, hown, hts, hK, hA⟩ := id C0
  intro n
  induction n with
  | zero =>
    intro v3 v4 v5 v7 H locs ls hP hD hS hl hw
    exact absurd hw (fun h => h)
  | succ n ih =>
    intro v3 v4 v5 v7 H locs ls hP hD hS hl hw
    refine lv_iload hx hb dX10_sums_6 (lv_at hl 4 rfl) ?_
    refine lv_iload hx hb dX10_sums_8 (lv_at hl 2 rfl) ?_
    refine lv_icmp_ge (tgt := 38) hx hb dX10_sums_10 (by decide) (fun c_1 => ?_) (fun c_1 => ?_)
    · replace hw := hw.1 c_1
      refine lv_lload hx hb dX10_sums_38 (lv_at hl 3 rfl) ?_
      exact mx_lret () hx hb hr hlocks hw hK hP hD hS dX10_sums_40
    · replace hw := hw.2 c_1
      refine lv_ldc2 (v := 31) hx hb hown (hts _ q_969) dX10_sums_13 ?_
      refine lv_lload hx hb dX10_sums_16 (lv_at hl 3 rfl) ?_
      refine lv_lmul hx hb dX10_sums_18 ?_
      refine lv_aload_n hx hb dX10_sums_19 rfl (lv_at hl 0 rfl) ?_
      refine mx_get (ci := 10) (C := RX10) (T := TX10) (N := 23) hx hb hown in_wsX100 hts hK hP 0 rfl rfl 0 (by decide) q_91 rfl (v := .ref a_m_told) rfl dX10_sums_20 ?_
      refine lv_iload_n hx hb dX10_sums_23 rfl (lv_at hl 1 rfl) ?_
      refine lv_iload hx hb dX10_sums_24 (lv_at hl 4 rfl) ?_
      refine lv_iadd hx hb dX10_sums_26 ?_
      obtain ⟨h_2, hw⟩ := hw
      refine mx_iald hx hb hK hP 1 0 rfl rfl h_2 (told (v3 + v7).toNatClampNeg) rfl dX10_sums_27 ?_
      refine lv_i2l (v := (told (v3 + v7).toNatClampNeg).toInt64) hx hb dX10_sums_28 rfl ?_
      refine lv_ladd hx hb dX10_sums_29 ?_
      refine lv_topl (fun x_3 ex_3 => ?_)
      replace hw := hw x_3 ex_3
      refine lv_lstore (lv' := [(5, .long x_3), (0, .ref a_m), (3, .int v3), (4, .int v4), (7, .int v7)]) hx hb dX10_sums_30 hl (by decide) rfl (fun ls hl => ?_)
      obtain ⟨x_4, ex_4⟩ : ∃ y : Int32, y = v7 + 1 := ⟨_, rfl⟩
      replace hw := hw x_4 ex_4
      refine lv_iinc (v := x_4) (lv' := [(7, .int x_4), (5, .long x_3), (0, .ref a_m), (3, .int v3), (4, .int v4)]) hx hb dX10_sums_32 hl (k := 4) rfl (by rw [ex_4]; rfl) (by decide) rfl (fun ls hl => ?_)
      refine lv_goto (tgt := 6) hx hb dX10_sums_35 (by decide) ?_
      exact ih v3 v4 x_3 x_4 _ _ _ hP hD hS (lv_sub hl [2, 3, 4, 1, 0] rfl) hw
def wp_X10_sums (told : Nat → Int32) (v1 : Int64) (v3 : Int32) (v4 : Int32) (Post : Int64 → Prop) : Prop :=
  (∃ k_5 : Nat, wp_X10_sums_L6 told Post k_5 v3 v4 v1 0)
set_option maxHeartbeats 4000000 in
set_option maxRecDepth 100000 in
theorem c_X10_sums (l : Launch) (D : va_G) (cI cB cZ cP cC : ClassId) (a_m a_m_told a_m_kept a_m_isKept a_m_refused a_m_months a_m_heirs a_m_lasts a_m_cares a_m_bestCares a_m_ones a_m_others a_m_bytes a_m_anew a_m_values : Nat) (above : Int64) (below : Int64) (retired : Int32) (manyLine : Int32) (bytesLong : Int32) (tokenAt : Int32) (tokenLong : Int32) (token : Int32) (value : Int32) (told : Nat → Int32) (v1 : Int64) (v3 : Int32) (v4 : Int32) (sz : Nat) (Post : Int64 → Prop) (hw : wp_X10_sums told v1 v3 v4 Post) :
    Met l yX10_sums (Cond.code yX10_sums cX10_sums 8 (some .long) :: wsAll) rm_X10_sums (va_Pc [.ref a_m, .long v1, .int v3, .int v4] (mxP D (mxTy cI cB cZ cP cC) sz (ww_X10_sums a_m a_m_told a_m_kept a_m_isKept a_m_refused a_m_months a_m_heirs a_m_lasts a_m_cares a_m_bestCares a_m_ones a_m_others a_m_bytes a_m_anew a_m_values cI cB cZ cP cC above below retired manyLine bytesLong tokenAt tokenLong token value told))) (qq_X10_sums D a_m a_m_told a_m_kept a_m_isKept a_m_refused a_m_months a_m_heirs a_m_lasts a_m_cares a_m_bestCares a_m_ones a_m_others a_m_bytes a_m_anew a_m_values cI cB cZ cP cC above below retired manyLine bytesLong tokenAt tokenLong token value told Post (va_A (ww_X10_sums a_m a_m_told a_m_kept a_m_isKept a_m_refused a_m_months a_m_heirs a_m_lasts a_m_cares a_m_bestCares a_m_ones a_m_others a_m_bytes a_m_anew a_m_values cI cB cZ cP cC above below retired manyLine bytesLong tokenAt tokenLong token value told) sz)) 0 0 (va_A (ww_X10_sums a_m a_m_told a_m_kept a_m_isKept a_m_refused a_m_months a_m_heirs a_m_lasts a_m_cares a_m_bestCares a_m_ones a_m_others a_m_bytes a_m_anew a_m_values cI cB cZ cP cC above below retired manyLine bytesLong tokenAt tokenLong token value told) sz) := by
  refine mx_of (Qc := qq_X10_sums D a_m a_m_told a_m_kept a_m_isKept a_m_refused a_m_months a_m_heirs a_m_lasts a_m_cares a_m_bestCares a_m_ones a_m_others a_m_bytes a_m_anew a_m_values cI cB cZ cP cC above below retired manyLine bytesLong tokenAt tokenLong token value told Post) (by decide) (Nat.le_of_ble_eq_true rfl) ?_
  intro p e s m bl meth c A ls C0 hP hD hS hl
  replace C0 : mxC p s m [.ref a_m, .long v1, .int v3, .int v4].toArray meth c cX10_sums RX10 (some .long) 8 D (mxTy cI cB cZ cP cC) A := C0
  obtain ⟨hx, hb, hr, hlocks, hml, hown, hts, hK, hA⟩ := id C0
  replace hl : lv_has ls 8 [(0, .ref a_m), (1, .long v1), (3, .int v3), (4, .int v4)] := hl
  unfold wp_X10_sums at hw
  refine lv_lload_n hx hb dX10_sums_0 rfl (lv_at hl 1 rfl) ?_
  refine lv_lstore (lv' := [(5, .long v1), (0, .ref a_m), (1, .long v1), (3, .int v3), (4, .int v4)]) hx hb dX10_sums_1 hl (by decide) rfl (fun ls hl => ?_)
  refine lv_iconst (v := 0) hx hb dX10_sums_3 (by decide) ?_
  refine lv_istore (lv' := [(7, .int 0), (5, .long v1), (0, .ref a_m), (1, .long v1), (3, .int v3), (4, .int v4)]) hx hb dX10_sums_4 hl (by decide) rfl (fun ls hl => ?_)
  obtain ⟨n0, hw⟩ := hw
  refine k_X10_sums_L6 C0  n0 v3 v4 v1 0 _ _ _ hP hD hS (lv_sub hl [2, 4, 5, 1, 0] rfl) hw
/-! PramStateModel.digest()J -/
abbrev ww_X10_digest (a_m a_m_told a_m_kept a_m_isKept a_m_refused a_m_months a_m_heirs a_m_lasts a_m_cares a_m_bestCares a_m_ones a_m_others a_m_bytes a_m_anew a_m_values : Nat) (cI cB cZ cP cC : ClassId) (above : Int64) (below : Int64) (retired : Int32) (manyLine : Int32) (bytesLong : Int32) (tokenAt : Int32) (tokenLong : Int32) (token : Int32) (value : Int32) (told : Nat → Int32) : va_W := [(a_m, .inr (10, [.ref a_m_told, .ref a_m_kept, .ref a_m_isKept, .ref a_m_refused, .long above, .long below, .ref a_m_months, .int retired, .ref a_m_heirs, .ref a_m_lasts, .int manyLine, .ref a_m_cares, .ref a_m_bestCares, .ref a_m_ones, .ref a_m_others, .ref a_m_bytes, .int bytesLong, .int tokenAt, .int tokenLong, .int token, .int value, .ref a_m_anew, .ref a_m_values])), (a_m_told, .inl (cI, 190, .inl told))]
abbrev qq_X10_digest (D : va_G) (a_m a_m_told a_m_kept a_m_isKept a_m_refused a_m_months a_m_heirs a_m_lasts a_m_cares a_m_bestCares a_m_ones a_m_others a_m_bytes a_m_anew a_m_values : Nat) (cI cB cZ cP cC : ClassId) (above : Int64) (below : Int64) (retired : Int32) (manyLine : Int32) (bytesLong : Int32) (tokenAt : Int32) (tokenLong : Int32) (token : Int32) (value : Int32) (told : Nat → Int32) (Post : Int64 → Prop) (A : Nat → Prop) : Array Value → State → Outcome → State → Prop := va_Ql (fun (r : Int64) (u : Unit) => Post r) (fun (u : Unit) t => mxB D (mxTy cI cB cZ cP cC) A (ww_X10_digest a_m a_m_told a_m_kept a_m_isKept a_m_refused a_m_months a_m_heirs a_m_lasts a_m_cares a_m_bestCares a_m_ones a_m_others a_m_bytes a_m_anew a_m_values cI cB cZ cP cC above below retired manyLine bytesLong tokenAt tokenLong token value told) t) A
abbrev rm_X10_digest : Room := { frames := 2, cells := 0, slots := 0, locals := 43 }
theorem hd_X10_digest : yX10_digest.cls = RX10 ∧ yX10_digest.cls ≠ "java/lang/invoke/MethodHandle" ∧ yX10_digest.cls ≠ "java/lang/invoke/VarHandle" ∧ (parseMethodDescriptor yX10_digest.desc).map (fun d => d.parameters.length) = some 0 := by decide +kernel
def wp_X10_digest_L6 (above : Int64) (below : Int64) (bytesLong : Int32) (told : Nat → Int32) (Post : Int64 → Prop) (K_31 : Int64 → Prop) : Nat → Int64 → Int32 → Prop
  | 0, _, _ => False
  | n + 1, v1, v3 => ((7 ≤ v3 → K_31 v1) ∧ (¬ 7 ≤ v3 → (wp_X10_counted bytesLong told v3 (fun r_2 => (∀ x_3 : Int64, x_3 = (31 * v1) + (r_2.toInt64) → (∀ x_4 : Int32, x_4 = v3 + 1 → wp_X10_digest_L6 above below bytesLong told Post K_31 n x_3 x_4))))))
set_option maxHeartbeats 4000000 in
set_option maxRecDepth 100000 in
theorem k_X10_digest_L6 {p : Program} {l : Launch} {e : Env} {s : State} {m : MethodId} {ar : Array Value} {bl : List Frame} {meth : Method} {c : Code} {D : va_G} {A : Nat → Prop} {cI cB cZ cP cC : ClassId} {a_m a_m_told a_m_kept a_m_isKept a_m_refused a_m_months a_m_heirs a_m_lasts a_m_cares a_m_bestCares a_m_ones a_m_others a_m_bytes a_m_anew a_m_values : Nat} {above : Int64} {below : Int64} {retired : Int32} {manyLine : Int32} {bytesLong : Int32} {tokenAt : Int32} {tokenLong : Int32} {token : Int32} {value : Int32} {told : Nat → Int32} {Post : Int64 → Prop} {K_31 : Int64 → Prop} (C0 : mxC p s m ar meth c cX10_digest RX10 (some .long) 4 D (mxTy cI cB cZ cP cC) A)
    (hK_31 : ∀ (v1 : Int64) (H : Heap) (locs : List Loc) (ls : Array Slot), va_P D vwCl (ww_X10_digest a_m a_m_told a_m_kept a_m_isKept a_m_refused a_m_months a_m_heirs a_m_lasts a_m_cares a_m_bestCares a_m_ones a_m_others a_m_bytes a_m_anew a_m_values cI cB cZ cP cC above below retired manyLine bytesLong tokenAt tokenLong token value told) H → va_D A (ww_X10_digest a_m a_m_told a_m_kept a_m_isKept a_m_refused a_m_months a_m_heirs a_m_lasts a_m_cares a_m_bestCares a_m_ones a_m_others a_m_bytes a_m_anew a_m_values cI cB cZ cP cC above below retired manyLine bytesLong tokenAt tokenLong token value told) → va_S A s.heap H locs → lv_has ls 4 [(0, .ref a_m), (1, .long v1)] → K_31 v1 → W p l e rm_X10_digest s m ar bl meth c H locs 0 0 (MQ bl (qq_X10_digest D a_m a_m_told a_m_kept a_m_isKept a_m_refused a_m_months a_m_heirs a_m_lasts a_m_cares a_m_bestCares a_m_ones a_m_others a_m_bytes a_m_anew a_m_values cI cB cZ cP cC above below retired manyLine bytesLong tokenAt tokenLong token value told Post A) ar s 0 0 A) (F0 m 31 ls [])) :
    ∀ (n : Nat) (v1 : Int64) (v3 : Int32) (H : Heap) (locs : List Loc) (ls : Array Slot), va_P D vwCl (ww_X10_digest a_m a_m_told a_m_kept a_m_isKept a_m_refused a_m_months a_m_heirs a_m_lasts a_m_cares a_m_bestCares a_m_ones a_m_others a_m_bytes a_m_anew a_m_values cI cB cZ cP cC above below retired manyLine bytesLong tokenAt tokenLong token value told) H → va_D A (ww_X10_digest a_m a_m_told a_m_kept a_m_isKept a_m_refused a_m_months a_m_heirs a_m_lasts a_m_cares a_m_bestCares a_m_ones a_m_others a_m_bytes a_m_anew a_m_values cI cB cZ cP cC above below retired manyLine bytesLong tokenAt tokenLong token value told) → va_S A s.heap H locs → lv_has ls 4 [(0, .ref a_m), (1, .long v1), (3, .int v3)] → wp_X10_digest_L6 above below bytesLong told Post K_31 n v1 v3 → W p l e rm_X10_digest s m ar bl meth c H locs 0 0 (MQ bl (qq_X10_digest D a_m a_m_told a_m_kept a_m_isKept a_m_refused a_m_months a_m_heirs a_m_lasts a_m_cares a_m_bestCares a_m_ones a_m_others a_m_bytes a_m_anew a_m_values cI cB cZ cP cC above below retired manyLine bytesLong tokenAt tokenLong token value told Post A) ar s 0 0 A) (F0 m 6 ls []) := by
  obtain ⟨hx, hb, hr, hlocks, hml, hown, hts, hK, hA⟩ := id C0
  intro n
  induction n with
  | zero =>
    intro v1 v3 H locs ls hP hD hS hl hw
    exact absurd hw (fun h => h)
  | succ n ih =>
    intro v1 v3 H locs ls hP hD hS hl hw
    refine lv_iload_n hx hb dX10_digest_6 rfl (lv_at hl 2 rfl) ?_
    refine lv_bipush (v := 7) hx hb dX10_digest_7 (by decide) ?_
    refine lv_icmp_ge (tgt := 31) hx hb dX10_digest_9 (by decide) (fun c_1 => ?_) (fun c_1 => ?_)
    · replace hw := hw.1 c_1
      exact hK_31 v1 _ _ _ hP hD hS (lv_sub hl [0, 1] rfl) hw
    · replace hw := hw.2 c_1
      refine lv_ldc2 (v := 31) hx hb hown (hts _ q_969) dX10_digest_12 ?_
      refine lv_lload_n hx hb dX10_digest_15 rfl (lv_at hl 1 rfl) ?_
      refine lv_lmul hx hb dX10_digest_16 ?_
      refine lv_aload_n hx hb dX10_digest_17 rfl (lv_at hl 0 rfl) ?_
      refine lv_iload_n hx hb dX10_digest_18 rfl (lv_at hl 2 rfl) ?_
      refine mx_ki (mx_rV (rm := rm_X10_counted) (rest := [.long (31 * v1)]) (C := RX10) hx hb hml hown hts (c_X10_counted l D cI cB cZ cP cC a_m a_m_told a_m_kept a_m_isKept a_m_refused a_m_months a_m_heirs a_m_lasts a_m_cares a_m_bestCares a_m_ones a_m_others a_m_bytes a_m_anew a_m_values above below retired manyLine bytesLong tokenAt tokenLong token value told v3 _ _ hw) q_949 q_950 q_951 q_5 q_952 hd_X10_counted ⟨(Nat.le_of_ble_eq_true rfl), (Nat.le_of_ble_eq_true rfl)⟩ rfl rfl hK hP hD [0, 1] rfl rfl 10 0 rfl rfl rfl rfl hl.1 rfl (Nat.le_of_ble_eq_true rfl) dX10_digest_19 ⟨(Nat.le_of_ble_eq_true rfl), (Nat.le_of_ble_eq_true rfl)⟩) hP hD hS hA [0, 1] [] [0, 1] (fun _ => ww_X10_digest a_m a_m_told a_m_kept a_m_isKept a_m_refused a_m_months a_m_heirs a_m_lasts a_m_cares a_m_bestCares a_m_ones a_m_others a_m_bytes a_m_anew a_m_values cI cB cZ cP cC above below retired manyLine bytesLong tokenAt tokenLong token value told) rfl rfl rfl (by decide) rfl (fun _ => rfl) (fun r_2 u H locs hw hP hD hS => ?_)
      try dsimp only at hw
      replace hP : va_P D vwCl (ww_X10_digest a_m a_m_told a_m_kept a_m_isKept a_m_refused a_m_months a_m_heirs a_m_lasts a_m_cares a_m_bestCares a_m_ones a_m_others a_m_bytes a_m_anew a_m_values cI cB cZ cP cC above below retired manyLine bytesLong tokenAt tokenLong token value told) H := hP
      replace hD : va_D A (ww_X10_digest a_m a_m_told a_m_kept a_m_isKept a_m_refused a_m_months a_m_heirs a_m_lasts a_m_cares a_m_bestCares a_m_ones a_m_others a_m_bytes a_m_anew a_m_values cI cB cZ cP cC above below retired manyLine bytesLong tokenAt tokenLong token value told) := hD
      refine lv_i2l (v := r_2.toInt64) hx hb dX10_digest_22 rfl ?_
      refine lv_ladd hx hb dX10_digest_23 ?_
      refine lv_topl (fun x_3 ex_3 => ?_)
      replace hw := hw x_3 ex_3
      refine lv_lstore_n (lv' := [(1, .long x_3), (0, .ref a_m), (3, .int v3)]) hx hb dX10_digest_24 rfl hl (by decide) rfl (fun ls hl => ?_)
      obtain ⟨x_4, ex_4⟩ : ∃ y : Int32, y = v3 + 1 := ⟨_, rfl⟩
      replace hw := hw x_4 ex_4
      refine lv_iinc (v := x_4) (lv' := [(3, .int x_4), (1, .long x_3), (0, .ref a_m)]) hx hb dX10_digest_25 hl (k := 2) rfl (by rw [ex_4]; rfl) (by decide) rfl (fun ls hl => ?_)
      refine lv_goto (tgt := 6) hx hb dX10_digest_28 (by decide) ?_
      exact ih x_3 x_4 _ _ _ hP hD hS (lv_sub hl [2, 1, 0] rfl) hw
def wp_X10_digest_L43 (above : Int64) (below : Int64) (bytesLong : Int32) (told : Nat → Int32) (Post : Int64 → Prop) (K_133 : Int64 → Prop) : Nat → Int64 → Int32 → Prop
  | 0, _, _ => False
  | n + 1, v1, v3 => (wp_X10_many told (fun r_7 => ((r_7 ≤ v3 → K_133 v1) ∧ (¬ r_7 ≤ v3 → (wp_X10_kindOf told v3 (fun r_9 => (vp_in (4 + v3) 190 ∧ (vp_in (30 + v3) 190 ∧ (∀ x_12 : Int64, x_12 = (31 * ((31 * ((31 * v1) + (r_9.toInt64))) + ((told (4 + v3).toNatClampNeg).toInt64))) + ((told (30 + v3).toNatClampNeg).toInt64) → (vp_in (11 + v3) 190 ∧ (∀ x_14 : Int64, x_14 = (31 * ((31 * x_12) + ((told (11 + v3).toNatClampNeg).toInt64))) + ((((told 10) >>> (v3 &&& 31)) &&& 1).toInt64) → (∀ x_15 : Int32, x_15 = v3 + 1 → wp_X10_digest_L43 above below bytesLong told Post K_133 n x_14 x_15))))))))))))
set_option maxHeartbeats 4000000 in
set_option maxRecDepth 100000 in
theorem k_X10_digest_L43 {p : Program} {l : Launch} {e : Env} {s : State} {m : MethodId} {ar : Array Value} {bl : List Frame} {meth : Method} {c : Code} {D : va_G} {A : Nat → Prop} {cI cB cZ cP cC : ClassId} {a_m a_m_told a_m_kept a_m_isKept a_m_refused a_m_months a_m_heirs a_m_lasts a_m_cares a_m_bestCares a_m_ones a_m_others a_m_bytes a_m_anew a_m_values : Nat} {above : Int64} {below : Int64} {retired : Int32} {manyLine : Int32} {bytesLong : Int32} {tokenAt : Int32} {tokenLong : Int32} {token : Int32} {value : Int32} {told : Nat → Int32} {Post : Int64 → Prop} {K_133 : Int64 → Prop} (C0 : mxC p s m ar meth c cX10_digest RX10 (some .long) 4 D (mxTy cI cB cZ cP cC) A)
    (hK_133 : ∀ (v1 : Int64) (H : Heap) (locs : List Loc) (ls : Array Slot), va_P D vwCl (ww_X10_digest a_m a_m_told a_m_kept a_m_isKept a_m_refused a_m_months a_m_heirs a_m_lasts a_m_cares a_m_bestCares a_m_ones a_m_others a_m_bytes a_m_anew a_m_values cI cB cZ cP cC above below retired manyLine bytesLong tokenAt tokenLong token value told) H → va_D A (ww_X10_digest a_m a_m_told a_m_kept a_m_isKept a_m_refused a_m_months a_m_heirs a_m_lasts a_m_cares a_m_bestCares a_m_ones a_m_others a_m_bytes a_m_anew a_m_values cI cB cZ cP cC above below retired manyLine bytesLong tokenAt tokenLong token value told) → va_S A s.heap H locs → lv_has ls 4 [(0, .ref a_m), (1, .long v1)] → K_133 v1 → W p l e rm_X10_digest s m ar bl meth c H locs 0 0 (MQ bl (qq_X10_digest D a_m a_m_told a_m_kept a_m_isKept a_m_refused a_m_months a_m_heirs a_m_lasts a_m_cares a_m_bestCares a_m_ones a_m_others a_m_bytes a_m_anew a_m_values cI cB cZ cP cC above below retired manyLine bytesLong tokenAt tokenLong token value told Post A) ar s 0 0 A) (F0 m 133 ls [])) :
    ∀ (n : Nat) (v1 : Int64) (v3 : Int32) (H : Heap) (locs : List Loc) (ls : Array Slot), va_P D vwCl (ww_X10_digest a_m a_m_told a_m_kept a_m_isKept a_m_refused a_m_months a_m_heirs a_m_lasts a_m_cares a_m_bestCares a_m_ones a_m_others a_m_bytes a_m_anew a_m_values cI cB cZ cP cC above below retired manyLine bytesLong tokenAt tokenLong token value told) H → va_D A (ww_X10_digest a_m a_m_told a_m_kept a_m_isKept a_m_refused a_m_months a_m_heirs a_m_lasts a_m_cares a_m_bestCares a_m_ones a_m_others a_m_bytes a_m_anew a_m_values cI cB cZ cP cC above below retired manyLine bytesLong tokenAt tokenLong token value told) → va_S A s.heap H locs → lv_has ls 4 [(0, .ref a_m), (1, .long v1), (3, .int v3)] → wp_X10_digest_L43 above below bytesLong told Post K_133 n v1 v3 → W p l e rm_X10_digest s m ar bl meth c H locs 0 0 (MQ bl (qq_X10_digest D a_m a_m_told a_m_kept a_m_isKept a_m_refused a_m_months a_m_heirs a_m_lasts a_m_cares a_m_bestCares a_m_ones a_m_others a_m_bytes a_m_anew a_m_values cI cB cZ cP cC above below retired manyLine bytesLong tokenAt tokenLong token value told Post A) ar s 0 0 A) (F0 m 43 ls []) := by
  obtain ⟨hx, hb, hr, hlocks, hml, hown, hts, hK, hA⟩ := id C0
  intro n
  induction n with
  | zero =>
    intro v1 v3 H locs ls hP hD hS hl hw
    exact absurd hw (fun h => h)
  | succ n ih =>
    intro v1 v3 H locs ls hP hD hS hl hw
    refine lv_iload_n hx hb dX10_digest_43 rfl (lv_at hl 2 rfl) ?_
    refine lv_aload_n hx hb dX10_digest_44 rfl (lv_at hl 0 rfl) ?_
    refine mx_ki (mx_rV (rm := rm_X10_many) (rest := [.int v3]) (C := RX10) hx hb hml hown hts (c_X10_many l D cI cB cZ cP cC a_m a_m_told a_m_kept a_m_isKept a_m_refused a_m_months a_m_heirs a_m_lasts a_m_cares a_m_bestCares a_m_ones a_m_others a_m_bytes a_m_anew a_m_values above below retired manyLine bytesLong tokenAt tokenLong token value told _ _ hw) q_132 q_133 q_134 q_5 q_135 hd_X10_many ⟨(Nat.le_of_ble_eq_true rfl), (Nat.le_of_ble_eq_true rfl)⟩ rfl rfl hK hP hD [0, 1] rfl rfl 10 0 rfl rfl rfl rfl hl.1 rfl (Nat.le_of_ble_eq_true rfl) dX10_digest_45 ⟨(Nat.le_of_ble_eq_true rfl), (Nat.le_of_ble_eq_true rfl)⟩) hP hD hS hA [0, 1] [] [0, 1] (fun _ => ww_X10_digest a_m a_m_told a_m_kept a_m_isKept a_m_refused a_m_months a_m_heirs a_m_lasts a_m_cares a_m_bestCares a_m_ones a_m_others a_m_bytes a_m_anew a_m_values cI cB cZ cP cC above below retired manyLine bytesLong tokenAt tokenLong token value told) rfl rfl rfl (by decide) rfl (fun _ => rfl) (fun r_7 u H locs hw hP hD hS => ?_)
    try dsimp only at hw
    replace hP : va_P D vwCl (ww_X10_digest a_m a_m_told a_m_kept a_m_isKept a_m_refused a_m_months a_m_heirs a_m_lasts a_m_cares a_m_bestCares a_m_ones a_m_others a_m_bytes a_m_anew a_m_values cI cB cZ cP cC above below retired manyLine bytesLong tokenAt tokenLong token value told) H := hP
    replace hD : va_D A (ww_X10_digest a_m a_m_told a_m_kept a_m_isKept a_m_refused a_m_months a_m_heirs a_m_lasts a_m_cares a_m_bestCares a_m_ones a_m_others a_m_bytes a_m_anew a_m_values cI cB cZ cP cC above below retired manyLine bytesLong tokenAt tokenLong token value told) := hD
    refine lv_icmp_ge (tgt := 133) hx hb dX10_digest_48 (by decide) (fun c_8 => ?_) (fun c_8 => ?_)
    · replace hw := hw.1 c_8
      exact hK_133 v1 _ _ _ hP hD hS (lv_sub hl [0, 1] rfl) hw
    · replace hw := hw.2 c_8
      refine lv_ldc2 (v := 31) hx hb hown (hts _ q_969) dX10_digest_51 ?_
      refine lv_ldc2 (v := 31) hx hb hown (hts _ q_969) dX10_digest_54 ?_
      refine lv_ldc2 (v := 31) hx hb hown (hts _ q_969) dX10_digest_57 ?_
      refine lv_lload_n hx hb dX10_digest_60 rfl (lv_at hl 1 rfl) ?_
      refine lv_lmul hx hb dX10_digest_61 ?_
      refine lv_aload_n hx hb dX10_digest_62 rfl (lv_at hl 0 rfl) ?_
      refine lv_iload_n hx hb dX10_digest_63 rfl (lv_at hl 2 rfl) ?_
      refine mx_ki (mx_rV (rm := rm_X10_kindOf) (rest := [.long (31 * v1), .long 31, .long 31]) (C := RX10) hx hb hml hown hts (c_X10_kindOf l D cI cB cZ cP cC a_m a_m_told a_m_kept a_m_isKept a_m_refused a_m_months a_m_heirs a_m_lasts a_m_cares a_m_bestCares a_m_ones a_m_others a_m_bytes a_m_anew a_m_values above below retired manyLine bytesLong tokenAt tokenLong token value told v3 _ _ hw) q_448 q_449 q_450 q_5 q_451 hd_X10_kindOf ⟨(Nat.le_of_ble_eq_true rfl), (Nat.le_of_ble_eq_true rfl)⟩ rfl rfl hK hP hD [0, 1] rfl rfl 10 0 rfl rfl rfl rfl hl.1 rfl (Nat.le_of_ble_eq_true rfl) dX10_digest_64 ⟨(Nat.le_of_ble_eq_true rfl), (Nat.le_of_ble_eq_true rfl)⟩) hP hD hS hA [0, 1] [] [0, 1] (fun _ => ww_X10_digest a_m a_m_told a_m_kept a_m_isKept a_m_refused a_m_months a_m_heirs a_m_lasts a_m_cares a_m_bestCares a_m_ones a_m_others a_m_bytes a_m_anew a_m_values cI cB cZ cP cC above below retired manyLine bytesLong tokenAt tokenLong token value told) rfl rfl rfl (by decide) rfl (fun _ => rfl) (fun r_9 u H locs hw hP hD hS => ?_)
      try dsimp only at hw
      replace hP : va_P D vwCl (ww_X10_digest a_m a_m_told a_m_kept a_m_isKept a_m_refused a_m_months a_m_heirs a_m_lasts a_m_cares a_m_bestCares a_m_ones a_m_others a_m_bytes a_m_anew a_m_values cI cB cZ cP cC above below retired manyLine bytesLong tokenAt tokenLong token value told) H := hP
      replace hD : va_D A (ww_X10_digest a_m a_m_told a_m_kept a_m_isKept a_m_refused a_m_months a_m_heirs a_m_lasts a_m_cares a_m_bestCares a_m_ones a_m_others a_m_bytes a_m_anew a_m_values cI cB cZ cP cC above below retired manyLine bytesLong tokenAt tokenLong token value told) := hD
      refine lv_i2l (v := r_9.toInt64) hx hb dX10_digest_67 rfl ?_
      refine lv_ladd hx hb dX10_digest_68 ?_
      refine lv_lmul hx hb dX10_digest_69 ?_
      refine lv_aload_n hx hb dX10_digest_70 rfl (lv_at hl 0 rfl) ?_
      refine mx_get (ci := 10) (C := RX10) (T := TX10) (N := 23) hx hb hown in_wsX100 hts hK hP 0 rfl rfl 0 (by decide) q_91 rfl (v := .ref a_m_told) rfl dX10_digest_71 ?_
      refine lv_iconst (v := 4) hx hb dX10_digest_74 (by decide) ?_
      refine lv_iload_n hx hb dX10_digest_75 rfl (lv_at hl 2 rfl) ?_
      refine lv_iadd hx hb dX10_digest_76 ?_
      obtain ⟨h_10, hw⟩ := hw
      refine mx_iald hx hb hK hP 1 0 rfl rfl h_10 (told (4 + v3).toNatClampNeg) rfl dX10_digest_77 ?_
      refine lv_i2l (v := (told (4 + v3).toNatClampNeg).toInt64) hx hb dX10_digest_78 rfl ?_
      refine lv_ladd hx hb dX10_digest_79 ?_
      refine lv_lmul hx hb dX10_digest_80 ?_
      refine lv_aload_n hx hb dX10_digest_81 rfl (lv_at hl 0 rfl) ?_
      refine mx_get (ci := 10) (C := RX10) (T := TX10) (N := 23) hx hb hown in_wsX100 hts hK hP 0 rfl rfl 0 (by decide) q_91 rfl (v := .ref a_m_told) rfl dX10_digest_82 ?_
      refine lv_bipush (v := 30) hx hb dX10_digest_85 (by decide) ?_
      refine lv_iload_n hx hb dX10_digest_87 rfl (lv_at hl 2 rfl) ?_
      refine lv_iadd hx hb dX10_digest_88 ?_
      obtain ⟨h_11, hw⟩ := hw
      refine mx_iald hx hb hK hP 1 0 rfl rfl h_11 (told (30 + v3).toNatClampNeg) rfl dX10_digest_89 ?_
      refine lv_i2l (v := (told (30 + v3).toNatClampNeg).toInt64) hx hb dX10_digest_90 rfl ?_
      refine lv_ladd hx hb dX10_digest_91 ?_
      refine lv_topl (fun x_12 ex_12 => ?_)
      replace hw := hw x_12 ex_12
      refine lv_lstore_n (lv' := [(1, .long x_12), (0, .ref a_m), (3, .int v3)]) hx hb dX10_digest_92 rfl hl (by decide) rfl (fun ls hl => ?_)
      refine lv_ldc2 (v := 31) hx hb hown (hts _ q_969) dX10_digest_93 ?_
      refine lv_ldc2 (v := 31) hx hb hown (hts _ q_969) dX10_digest_96 ?_
      refine lv_lload_n hx hb dX10_digest_99 rfl (lv_at hl 0 rfl) ?_
      refine lv_lmul hx hb dX10_digest_100 ?_
      refine lv_aload_n hx hb dX10_digest_101 rfl (lv_at hl 1 rfl) ?_
      refine mx_get (ci := 10) (C := RX10) (T := TX10) (N := 23) hx hb hown in_wsX100 hts hK hP 0 rfl rfl 0 (by decide) q_91 rfl (v := .ref a_m_told) rfl dX10_digest_102 ?_
      refine lv_bipush (v := 11) hx hb dX10_digest_105 (by decide) ?_
      refine lv_iload_n hx hb dX10_digest_107 rfl (lv_at hl 2 rfl) ?_
      refine lv_iadd hx hb dX10_digest_108 ?_
      obtain ⟨h_13, hw⟩ := hw
      refine mx_iald hx hb hK hP 1 0 rfl rfl h_13 (told (11 + v3).toNatClampNeg) rfl dX10_digest_109 ?_
      refine lv_i2l (v := (told (11 + v3).toNatClampNeg).toInt64) hx hb dX10_digest_110 rfl ?_
      refine lv_ladd hx hb dX10_digest_111 ?_
      refine lv_lmul hx hb dX10_digest_112 ?_
      refine lv_aload_n hx hb dX10_digest_113 rfl (lv_at hl 1 rfl) ?_
      refine mx_get (ci := 10) (C := RX10) (T := TX10) (N := 23) hx hb hown in_wsX100 hts hK hP 0 rfl rfl 0 (by decide) q_91 rfl (v := .ref a_m_told) rfl dX10_digest_114 ?_
      refine lv_bipush (v := 10) hx hb dX10_digest_117 (by decide) ?_
      refine mx_iald hx hb hK hP 1 0 rfl rfl (mx_lit rfl) (told 10) rfl dX10_digest_119 ?_
      refine lv_iload_n hx hb dX10_digest_120 rfl (lv_at hl 2 rfl) ?_
      refine lv_ishr hx hb dX10_digest_121 ?_
      refine lv_iconst (v := 1) hx hb dX10_digest_122 (by decide) ?_
      refine lv_iand hx hb dX10_digest_123 ?_
      refine lv_i2l (v := (((told 10) >>> (v3 &&& 31)) &&& 1).toInt64) hx hb dX10_digest_124 rfl ?_
      refine lv_ladd hx hb dX10_digest_125 ?_
      refine lv_topl (fun x_14 ex_14 => ?_)
      replace hw := hw x_14 ex_14
      refine lv_lstore_n (lv' := [(1, .long x_14), (0, .ref a_m), (3, .int v3)]) hx hb dX10_digest_126 rfl hl (by decide) rfl (fun ls hl => ?_)
      obtain ⟨x_15, ex_15⟩ : ∃ y : Int32, y = v3 + 1 := ⟨_, rfl⟩
      replace hw := hw x_15 ex_15
      refine lv_iinc (v := x_15) (lv' := [(3, .int x_15), (1, .long x_14), (0, .ref a_m)]) hx hb dX10_digest_127 hl (k := 2) rfl (by rw [ex_15]; rfl) (by decide) rfl (fun ls hl => ?_)
      refine lv_goto (tgt := 43) hx hb dX10_digest_130 (by decide) ?_
      exact ih x_14 x_15 _ _ _ hP hD hS (lv_sub hl [2, 1, 0] rfl) hw
def wp_X10_digest (above : Int64) (below : Int64) (bytesLong : Int32) (told : Nat → Int32) (Post : Int64 → Prop) : Prop :=
  (∃ k_20 : Nat, wp_X10_digest_L6 above below bytesLong told Post (fun (v1_5 : Int64) => (wp_X10_sums told v1_5 18 6 (fun r_6 => (∃ k_19 : Nat, wp_X10_digest_L43 above below bytesLong told Post (fun (v1_16 : Int64) => (wp_X10_sums told v1_16 36 (5 * (told 1)) (fun r_17 => (wp_X10_sums told r_17 66 (2 * (told 2)) (fun r_18 => Post ((31 * ((31 * r_18) + above)) + below)))))) k_19 r_6 0)))) k_20 1423 0)
set_option maxHeartbeats 4000000 in
set_option maxRecDepth 100000 in
theorem c_X10_digest (l : Launch) (D : va_G) (cI cB cZ cP cC : ClassId) (a_m a_m_told a_m_kept a_m_isKept a_m_refused a_m_months a_m_heirs a_m_lasts a_m_cares a_m_bestCares a_m_ones a_m_others a_m_bytes a_m_anew a_m_values : Nat) (above : Int64) (below : Int64) (retired : Int32) (manyLine : Int32) (bytesLong : Int32) (tokenAt : Int32) (tokenLong : Int32) (token : Int32) (value : Int32) (told : Nat → Int32)  (sz : Nat) (Post : Int64 → Prop) (hw : wp_X10_digest above below bytesLong told Post) :
    Met l yX10_digest (Cond.code yX10_digest cX10_digest 4 (some .long) :: wsAll) rm_X10_digest (va_Pc [.ref a_m] (mxP D (mxTy cI cB cZ cP cC) sz (ww_X10_digest a_m a_m_told a_m_kept a_m_isKept a_m_refused a_m_months a_m_heirs a_m_lasts a_m_cares a_m_bestCares a_m_ones a_m_others a_m_bytes a_m_anew a_m_values cI cB cZ cP cC above below retired manyLine bytesLong tokenAt tokenLong token value told))) (qq_X10_digest D a_m a_m_told a_m_kept a_m_isKept a_m_refused a_m_months a_m_heirs a_m_lasts a_m_cares a_m_bestCares a_m_ones a_m_others a_m_bytes a_m_anew a_m_values cI cB cZ cP cC above below retired manyLine bytesLong tokenAt tokenLong token value told Post (va_A (ww_X10_digest a_m a_m_told a_m_kept a_m_isKept a_m_refused a_m_months a_m_heirs a_m_lasts a_m_cares a_m_bestCares a_m_ones a_m_others a_m_bytes a_m_anew a_m_values cI cB cZ cP cC above below retired manyLine bytesLong tokenAt tokenLong token value told) sz)) 0 0 (va_A (ww_X10_digest a_m a_m_told a_m_kept a_m_isKept a_m_refused a_m_months a_m_heirs a_m_lasts a_m_cares a_m_bestCares a_m_ones a_m_others a_m_bytes a_m_anew a_m_values cI cB cZ cP cC above below retired manyLine bytesLong tokenAt tokenLong token value told) sz) := by
  refine mx_of (Qc := qq_X10_digest D a_m a_m_told a_m_kept a_m_isKept a_m_refused a_m_months a_m_heirs a_m_lasts a_m_cares a_m_bestCares a_m_ones a_m_others a_m_bytes a_m_anew a_m_values cI cB cZ cP cC above below retired manyLine bytesLong tokenAt tokenLong token value told Post) (by decide) (Nat.le_of_ble_eq_true rfl) ?_
  intro p e s m bl meth c A ls C0 hP hD hS hl
  replace C0 : mxC p s m [.ref a_m].toArray meth c cX10_digest RX10 (some .long) 4 D (mxTy cI cB cZ cP cC) A := C0
  obtain ⟨hx, hb, hr, hlocks, hml, hown, hts, hK, hA⟩ := id C0
  replace hl : lv_has ls 4 [(0, .ref a_m)] := hl
  unfold wp_X10_digest at hw
  refine lv_ldc2 (v := 1423) hx hb hown (hts _ q_968) dX10_digest_0 ?_
  refine lv_lstore_n (lv' := [(1, .long 1423), (0, .ref a_m)]) hx hb dX10_digest_3 rfl hl (by decide) rfl (fun ls hl => ?_)
  refine lv_iconst (v := 0) hx hb dX10_digest_4 (by decide) ?_
  refine lv_istore_n (lv' := [(3, .int 0), (1, .long 1423), (0, .ref a_m)]) hx hb dX10_digest_5 rfl hl (by decide) rfl (fun ls hl => ?_)
  obtain ⟨n0, hw⟩ := hw
  refine k_X10_digest_L6 C0 ?_ n0 1423 0 _ _ _ hP hD hS (lv_sub hl [2, 1, 0] rfl) hw
  intro v1_5 H locs ls hP hD hS hl hw
  refine lv_aload_n hx hb dX10_digest_31 rfl (lv_at hl 0 rfl) ?_
  refine lv_lload_n hx hb dX10_digest_32 rfl (lv_at hl 1 rfl) ?_
  refine lv_bipush (v := 18) hx hb dX10_digest_33 (by decide) ?_
  refine lv_bipush (v := 6) hx hb dX10_digest_35 (by decide) ?_
  refine mx_kl (mx_rV (rm := rm_X10_sums) (rest := []) (C := RX10) hx hb hml hown hts (c_X10_sums l D cI cB cZ cP cC a_m a_m_told a_m_kept a_m_isKept a_m_refused a_m_months a_m_heirs a_m_lasts a_m_cares a_m_bestCares a_m_ones a_m_others a_m_bytes a_m_anew a_m_values above below retired manyLine bytesLong tokenAt tokenLong token value told v1_5 18 6 _ _ hw) q_970 q_971 q_972 q_5 q_973 hd_X10_sums ⟨(Nat.le_of_ble_eq_true rfl), (Nat.le_of_ble_eq_true rfl)⟩ rfl rfl hK hP hD [0, 1] rfl rfl 10 0 rfl rfl rfl rfl hl.1 rfl (Nat.le_of_ble_eq_true rfl) dX10_digest_37 ⟨(Nat.le_of_ble_eq_true rfl), (Nat.le_of_ble_eq_true rfl)⟩) hP hD hS hA [0, 1] [] [0, 1] (fun _ => ww_X10_digest a_m a_m_told a_m_kept a_m_isKept a_m_refused a_m_months a_m_heirs a_m_lasts a_m_cares a_m_bestCares a_m_ones a_m_others a_m_bytes a_m_anew a_m_values cI cB cZ cP cC above below retired manyLine bytesLong tokenAt tokenLong token value told) rfl rfl rfl (by decide) rfl (fun _ => rfl) (fun r_6 u H locs hw hP hD hS => ?_)
  try dsimp only at hw
  replace hP : va_P D vwCl (ww_X10_digest a_m a_m_told a_m_kept a_m_isKept a_m_refused a_m_months a_m_heirs a_m_lasts a_m_cares a_m_bestCares a_m_ones a_m_others a_m_bytes a_m_anew a_m_values cI cB cZ cP cC above below retired manyLine bytesLong tokenAt tokenLong token value told) H := hP
  replace hD : va_D A (ww_X10_digest a_m a_m_told a_m_kept a_m_isKept a_m_refused a_m_months a_m_heirs a_m_lasts a_m_cares a_m_bestCares a_m_ones a_m_others a_m_bytes a_m_anew a_m_values cI cB cZ cP cC above below retired manyLine bytesLong tokenAt tokenLong token value told) := hD
  refine lv_lstore_n (lv' := [(1, .long r_6), (0, .ref a_m)]) hx hb dX10_digest_40 rfl hl (by decide) rfl (fun ls hl => ?_)
  refine lv_iconst (v := 0) hx hb dX10_digest_41 (by decide) ?_
  refine lv_istore_n (lv' := [(3, .int 0), (1, .long r_6), (0, .ref a_m)]) hx hb dX10_digest_42 rfl hl (by decide) rfl (fun ls hl => ?_)
  obtain ⟨n0, hw⟩ := hw
  refine k_X10_digest_L43 C0 ?_ n0 r_6 0 _ _ _ hP hD hS (lv_sub hl [2, 1, 0] rfl) hw
  intro v1_16 H locs ls hP hD hS hl hw
  refine lv_aload_n hx hb dX10_digest_133 rfl (lv_at hl 0 rfl) ?_
  refine lv_lload_n hx hb dX10_digest_134 rfl (lv_at hl 1 rfl) ?_
  refine lv_bipush (v := 36) hx hb dX10_digest_135 (by decide) ?_
  refine lv_iconst (v := 5) hx hb dX10_digest_137 (by decide) ?_
  refine lv_aload_n hx hb dX10_digest_138 rfl (lv_at hl 0 rfl) ?_
  refine mx_get (ci := 10) (C := RX10) (T := TX10) (N := 23) hx hb hown in_wsX100 hts hK hP 0 rfl rfl 0 (by decide) q_91 rfl (v := .ref a_m_told) rfl dX10_digest_139 ?_
  refine lv_iconst (v := 1) hx hb dX10_digest_142 (by decide) ?_
  refine mx_iald hx hb hK hP 1 0 rfl rfl (mx_lit rfl) (told 1) rfl dX10_digest_143 ?_
  refine lv_imul hx hb dX10_digest_144 ?_
  refine mx_kl (mx_rV (rm := rm_X10_sums) (rest := []) (C := RX10) hx hb hml hown hts (c_X10_sums l D cI cB cZ cP cC a_m a_m_told a_m_kept a_m_isKept a_m_refused a_m_months a_m_heirs a_m_lasts a_m_cares a_m_bestCares a_m_ones a_m_others a_m_bytes a_m_anew a_m_values above below retired manyLine bytesLong tokenAt tokenLong token value told v1_16 36 (5 * (told 1)) _ _ hw) q_970 q_971 q_972 q_5 q_973 hd_X10_sums ⟨(Nat.le_of_ble_eq_true rfl), (Nat.le_of_ble_eq_true rfl)⟩ rfl rfl hK hP hD [0, 1] rfl rfl 10 0 rfl rfl rfl rfl hl.1 rfl (Nat.le_of_ble_eq_true rfl) dX10_digest_145 ⟨(Nat.le_of_ble_eq_true rfl), (Nat.le_of_ble_eq_true rfl)⟩) hP hD hS hA [0, 1] [] [0, 1] (fun _ => ww_X10_digest a_m a_m_told a_m_kept a_m_isKept a_m_refused a_m_months a_m_heirs a_m_lasts a_m_cares a_m_bestCares a_m_ones a_m_others a_m_bytes a_m_anew a_m_values cI cB cZ cP cC above below retired manyLine bytesLong tokenAt tokenLong token value told) rfl rfl rfl (by decide) rfl (fun _ => rfl) (fun r_17 u H locs hw hP hD hS => ?_)
  try dsimp only at hw
  replace hP : va_P D vwCl (ww_X10_digest a_m a_m_told a_m_kept a_m_isKept a_m_refused a_m_months a_m_heirs a_m_lasts a_m_cares a_m_bestCares a_m_ones a_m_others a_m_bytes a_m_anew a_m_values cI cB cZ cP cC above below retired manyLine bytesLong tokenAt tokenLong token value told) H := hP
  replace hD : va_D A (ww_X10_digest a_m a_m_told a_m_kept a_m_isKept a_m_refused a_m_months a_m_heirs a_m_lasts a_m_cares a_m_bestCares a_m_ones a_m_others a_m_bytes a_m_anew a_m_values cI cB cZ cP cC above below retired manyLine bytesLong tokenAt tokenLong token value told) := hD
  refine lv_lstore_n (lv' := [(1, .long r_17), (0, .ref a_m)]) hx hb dX10_digest_148 rfl hl (by decide) rfl (fun ls hl => ?_)
  refine lv_aload_n hx hb dX10_digest_149 rfl (lv_at hl 1 rfl) ?_
  refine lv_lload_n hx hb dX10_digest_150 rfl (lv_at hl 0 rfl) ?_
  refine lv_bipush (v := 66) hx hb dX10_digest_151 (by decide) ?_
  refine lv_iconst (v := 2) hx hb dX10_digest_153 (by decide) ?_
  refine lv_aload_n hx hb dX10_digest_154 rfl (lv_at hl 1 rfl) ?_
  refine mx_get (ci := 10) (C := RX10) (T := TX10) (N := 23) hx hb hown in_wsX100 hts hK hP 0 rfl rfl 0 (by decide) q_91 rfl (v := .ref a_m_told) rfl dX10_digest_155 ?_
  refine lv_iconst (v := 2) hx hb dX10_digest_158 (by decide) ?_
  refine mx_iald hx hb hK hP 1 0 rfl rfl (mx_lit rfl) (told 2) rfl dX10_digest_159 ?_
  refine lv_imul hx hb dX10_digest_160 ?_
  refine mx_kl (mx_rV (rm := rm_X10_sums) (rest := []) (C := RX10) hx hb hml hown hts (c_X10_sums l D cI cB cZ cP cC a_m a_m_told a_m_kept a_m_isKept a_m_refused a_m_months a_m_heirs a_m_lasts a_m_cares a_m_bestCares a_m_ones a_m_others a_m_bytes a_m_anew a_m_values above below retired manyLine bytesLong tokenAt tokenLong token value told r_17 66 (2 * (told 2)) _ _ hw) q_970 q_971 q_972 q_5 q_973 hd_X10_sums ⟨(Nat.le_of_ble_eq_true rfl), (Nat.le_of_ble_eq_true rfl)⟩ rfl rfl hK hP hD [0, 1] rfl rfl 10 0 rfl rfl rfl rfl hl.1 rfl (Nat.le_of_ble_eq_true rfl) dX10_digest_161 ⟨(Nat.le_of_ble_eq_true rfl), (Nat.le_of_ble_eq_true rfl)⟩) hP hD hS hA [0, 1] [] [0, 1] (fun _ => ww_X10_digest a_m a_m_told a_m_kept a_m_isKept a_m_refused a_m_months a_m_heirs a_m_lasts a_m_cares a_m_bestCares a_m_ones a_m_others a_m_bytes a_m_anew a_m_values cI cB cZ cP cC above below retired manyLine bytesLong tokenAt tokenLong token value told) rfl rfl rfl (by decide) rfl (fun _ => rfl) (fun r_18 u H locs hw hP hD hS => ?_)
  try dsimp only at hw
  replace hP : va_P D vwCl (ww_X10_digest a_m a_m_told a_m_kept a_m_isKept a_m_refused a_m_months a_m_heirs a_m_lasts a_m_cares a_m_bestCares a_m_ones a_m_others a_m_bytes a_m_anew a_m_values cI cB cZ cP cC above below retired manyLine bytesLong tokenAt tokenLong token value told) H := hP
  replace hD : va_D A (ww_X10_digest a_m a_m_told a_m_kept a_m_isKept a_m_refused a_m_months a_m_heirs a_m_lasts a_m_cares a_m_bestCares a_m_ones a_m_others a_m_bytes a_m_anew a_m_values cI cB cZ cP cC above below retired manyLine bytesLong tokenAt tokenLong token value told) := hD
  refine lv_lstore_n (lv' := [(1, .long r_18), (0, .ref a_m)]) hx hb dX10_digest_164 rfl hl (by decide) rfl (fun ls hl => ?_)
  refine lv_ldc2 (v := 31) hx hb hown (hts _ q_969) dX10_digest_165 ?_
  refine lv_ldc2 (v := 31) hx hb hown (hts _ q_969) dX10_digest_168 ?_
  refine lv_lload_n hx hb dX10_digest_171 rfl (lv_at hl 0 rfl) ?_
  refine lv_lmul hx hb dX10_digest_172 ?_
  refine lv_aload_n hx hb dX10_digest_173 rfl (lv_at hl 1 rfl) ?_
  refine mx_get (ci := 10) (C := RX10) (T := TX10) (N := 23) hx hb hown in_wsX100 hts hK hP 0 rfl rfl 4 (by decide) q_883 rfl (v := .long above) rfl dX10_digest_174 ?_
  refine lv_ladd hx hb dX10_digest_177 ?_
  refine lv_lmul hx hb dX10_digest_178 ?_
  refine lv_aload_n hx hb dX10_digest_179 rfl (lv_at hl 1 rfl) ?_
  refine mx_get (ci := 10) (C := RX10) (T := TX10) (N := 23) hx hb hown in_wsX100 hts hK hP 0 rfl rfl 5 (by decide) q_95 rfl (v := .long below) rfl dX10_digest_180 ?_
  refine lv_ladd hx hb dX10_digest_183 ?_
  exact mx_lret () hx hb hr hlocks hw hK hP hD hS dX10_digest_184
