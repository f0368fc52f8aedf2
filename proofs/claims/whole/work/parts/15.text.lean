/-! PramState$CourtText.append(I)V -/
abbrev ww_X2_append (a_t a_t_bytes a_c : Nat) (cI cB cZ cP cC : ClassId) (length : Int32) (token : Int32) (start : Int32) (behind : Int32) (value : Int32) (bytes : Nat → Int32) : va_W := [(a_t, .inr (2, [.ref a_c, .int length, .ref a_t_bytes, .int token, .int start, .int behind, .int value])), (a_t_bytes, .inl (cB, 150, .inl bytes))]
abbrev qq_X2_append (D : va_G) (a_t a_t_bytes a_c : Nat) (cI cB cZ cP cC : ClassId) (token : Int32) (start : Int32) (behind : Int32) (value : Int32) (Post : Int32 → (Nat → Int32) → Prop) (A : Nat → Prop) : Array Value → State → Outcome → State → Prop := va_Qv (fun (u : Int32 × (Nat → Int32)) => Post u.1 u.2) (fun (u : Int32 × (Nat → Int32)) t => mxB D (mxTy cI cB cZ cP cC) A (ww_X2_append a_t a_t_bytes a_c cI cB cZ cP cC (u.1) token start behind value (u.2)) t) A
abbrev rm_X2_append : Room := { frames := 0, cells := 0, slots := 0, locals := 0 }
theorem hd_X2_append : yX2_append.cls = RX2 ∧ yX2_append.cls ≠ "java/lang/invoke/MethodHandle" ∧ yX2_append.cls ≠ "java/lang/invoke/VarHandle" ∧ (parseMethodDescriptor yX2_append.desc).map (fun d => d.parameters.length) = some 1 := by decide +kernel
def wp_X2_append (length : Int32) (bytes : Nat → Int32) (v1 : Int32) (Post : Int32 → (Nat → Int32) → Prop) : Prop :=
  ((length < 150 → (∀ x_2 : Int32, x_2 = v1.toInt8.toInt32 → (vp_in length 150 ∧ (∀ f_4 : Nat → Int32, f_4 = upd bytes length.toNatClampNeg (vp_nar .byte x_2) → (∀ x_5 : Int32, x_5 = length + 1 → Post x_5 f_4))))) ∧ (¬ length < 150 → Post length bytes))
set_option maxHeartbeats 4000000 in
set_option maxRecDepth 100000 in
theorem c_X2_append (l : Launch) (D : va_G) (cI cB cZ cP cC : ClassId) (a_t a_t_bytes a_c : Nat) (length : Int32) (token : Int32) (start : Int32) (behind : Int32) (value : Int32) (bytes : Nat → Int32) (v1 : Int32) (sz : Nat) (Post : Int32 → (Nat → Int32) → Prop) (hw : wp_X2_append length bytes v1 Post) :
    Met l yX2_append (Cond.code yX2_append cX2_append 2 none :: wsAll) rm_X2_append (va_Pc [.ref a_t, .int v1] (mxP D (mxTy cI cB cZ cP cC) sz (ww_X2_append a_t a_t_bytes a_c cI cB cZ cP cC length token start behind value bytes))) (qq_X2_append D a_t a_t_bytes a_c cI cB cZ cP cC token start behind value Post (va_A (ww_X2_append a_t a_t_bytes a_c cI cB cZ cP cC length token start behind value bytes) sz)) 0 0 (va_A (ww_X2_append a_t a_t_bytes a_c cI cB cZ cP cC length token start behind value bytes) sz) := by
  refine mx_of (Qc := qq_X2_append D a_t a_t_bytes a_c cI cB cZ cP cC token start behind value Post) (by decide) (Nat.le_of_ble_eq_true rfl) ?_
  intro p e s m bl meth c A ls C0 hP hD hS hl
  replace C0 : mxC p s m [.ref a_t, .int v1].toArray meth c cX2_append RX2 none 2 D (mxTy cI cB cZ cP cC) A := C0
  obtain ⟨hx, hb, hr, hlocks, hml, hown, hts, hK, hA⟩ := id C0
  replace hl : lv_has ls 2 [(0, .ref a_t), (1, .int v1)] := hl
  unfold wp_X2_append at hw
  refine lv_aload_n hx hb dX2_append_0 rfl (lv_at hl 0 rfl) ?_
  refine mx_get (ci := 2) (C := RX2) (T := TX2) (N := 7) hx hb hown in_wsX20 hts hK hP 0 rfl rfl 1 (by decide) q_203 rfl (v := .int length) rfl dX2_append_1 ?_
  refine lv_sipush (v := 150) hx hb dX2_append_4 (by decide) ?_
  refine lv_icmp_lt (tgt := 11) hx hb dX2_append_7 (by decide) (fun c_1 => ?_) (fun c_1 => ?_)
  · replace hw := hw.1 c_1
    refine lv_aload_n hx hb dX2_append_11 rfl (lv_at hl 0 rfl) ?_
    refine mx_get (ci := 2) (C := RX2) (T := TX2) (N := 7) hx hb hown in_wsX20 hts hK hP 0 rfl rfl 2 (by decide) q_79 rfl (v := .ref a_t_bytes) rfl dX2_append_12 ?_
    refine lv_aload_n hx hb dX2_append_15 rfl (lv_at hl 0 rfl) ?_
    refine mx_get (ci := 2) (C := RX2) (T := TX2) (N := 7) hx hb hown in_wsX20 hts hK hP 0 rfl rfl 1 (by decide) q_203 rfl (v := .int length) rfl dX2_append_16 ?_
    refine lv_iload_n hx hb dX2_append_19 rfl (lv_at hl 1 rfl) ?_
    refine lv_i2b (v := v1.toInt8.toInt32) hx hb dX2_append_20 rfl ?_
    refine lv_topi (fun x_2 ex_2 => ?_)
    replace hw := hw x_2 ex_2
    obtain ⟨h_3, hw⟩ := hw
    obtain ⟨f_4, ef_4⟩ : ∃ y : Nat → Int32, y = upd bytes length.toNatClampNeg (vp_nar .byte x_2) := ⟨_, rfl⟩
    replace hw := hw f_4 ef_4
    refine mx_bast hx hb hK hP hD hS 1 1 rfl rfl h_3 f_4 ef_4 (ww_X2_append a_t a_t_bytes a_c cI cB cZ cP cC length token start behind value f_4) rfl dX2_append_21 (fun H locs hP hD hS => ?_)
    refine lv_aload_n hx hb dX2_append_22 rfl (lv_at hl 0 rfl) ?_
    refine lv_dup hx hb dX2_append_23 rfl ?_
    refine mx_get (ci := 2) (C := RX2) (T := TX2) (N := 7) hx hb hown in_wsX20 hts hK hP 0 rfl rfl 1 (by decide) q_203 rfl (v := .int length) rfl dX2_append_24 ?_
    refine lv_iconst (v := 1) hx hb dX2_append_27 (by decide) ?_
    refine lv_iadd hx hb dX2_append_28 ?_
    refine lv_topi (fun x_5 ex_5 => ?_)
    replace hw := hw x_5 ex_5
    refine mx_put (ci := 2) (C := RX2) (T := TX2) (N := 7) hx hb hown in_wsX20 tyX2 tyX2_ok nmX2 hts hK hP hD hS 0 rfl rfl 1 (by decide) q_203 rfl rfl rfl rfl (Nat.le_of_ble_eq_true rfl) (ww_X2_append a_t a_t_bytes a_c cI cB cZ cP cC x_5 token start behind value f_4) rfl dX2_append_29 (fun H locs hP hD hS => ?_)
    exact mx_vret (x_5, f_4) hx hb hr hlocks hw hK hP hD hS dX2_append_32
  · replace hw := hw.2 c_1
    exact mx_vret (length, bytes) hx hb hr hlocks hw hK hP hD hS dX2_append_10
/-! PramState$CourtText.takeRun(CC)I -/
abbrev ww_X2_takeRun (a_t a_t_bytes a_c : Nat) (cI cB cZ cP cC : ClassId) (length : Int32) (token : Int32) (start : Int32) (behind : Int32) (value : Int32) (bytes : Nat → Int32) : va_W := [(a_t, .inr (2, [.ref a_c, .int length, .ref a_t_bytes, .int token, .int start, .int behind, .int value])), (a_t_bytes, .inl (cB, 150, .inl bytes))]
abbrev qq_X2_takeRun (D : va_G) (a_t a_t_bytes a_c : Nat) (cI cB cZ cP cC : ClassId) (length : Int32) (token : Int32) (start : Int32) (value : Int32) (bytes : Nat → Int32) (Post : Int32 → Int32 → Prop) (A : Nat → Prop) : Array Value → State → Outcome → State → Prop := va_Qi (fun (r : Int32) (u : Int32) => Post r u) (fun (u : Int32) t => mxB D (mxTy cI cB cZ cP cC) A (ww_X2_takeRun a_t a_t_bytes a_c cI cB cZ cP cC length token start u value bytes) t) A
abbrev rm_X2_takeRun : Room := { frames := 0, cells := 0, slots := 0, locals := 0 }
theorem hd_X2_takeRun : yX2_takeRun.cls = RX2 ∧ yX2_takeRun.cls ≠ "java/lang/invoke/MethodHandle" ∧ yX2_takeRun.cls ≠ "java/lang/invoke/VarHandle" ∧ (parseMethodDescriptor yX2_takeRun.desc).map (fun d => d.parameters.length) = some 2 := by decide +kernel
def wp_X2_takeRun_L5 (length : Int32) (bytes : Nat → Int32) (Post : Int32 → Int32 → Prop) (K_55 : Int32 → Int32 → Prop) : Nat → Int32 → Int32 → Int32 → Int32 → Prop
  | 0, _, _, _, _ => False
  | n + 1, v1, v2, v3, behind => ((length ≤ behind → K_55 v3 behind) ∧ (¬ length ≤ behind → (vp_in behind 150 ∧ (((bytes behind.toNatClampNeg) < v1 → K_55 v3 behind) ∧ (¬ (bytes behind.toNatClampNeg) < v1 → ((v2 < (bytes behind.toNatClampNeg) → K_55 v3 behind) ∧ (¬ v2 < (bytes behind.toNatClampNeg) → (∀ x_5 : Int32, x_5 = behind + 1 → wp_X2_takeRun_L5 length bytes Post K_55 n v1 v2 v3 x_5))))))))
set_option maxHeartbeats 4000000 in
set_option maxRecDepth 100000 in
theorem k_X2_takeRun_L5 {p : Program} {l : Launch} {e : Env} {s : State} {m : MethodId} {ar : Array Value} {bl : List Frame} {meth : Method} {c : Code} {D : va_G} {A : Nat → Prop} {cI cB cZ cP cC : ClassId} {a_t a_t_bytes a_c : Nat} {length : Int32} {token : Int32} {start : Int32} {value : Int32} {bytes : Nat → Int32} {Post : Int32 → Int32 → Prop} {K_55 : Int32 → Int32 → Prop} (C0 : mxC p s m ar meth c cX2_takeRun RX2 (some .int) 4 D (mxTy cI cB cZ cP cC) A)
    (hK_55 : ∀ (v3 : Int32) (behind : Int32) (H : Heap) (locs : List Loc) (ls : Array Slot), va_P D vwCl (ww_X2_takeRun a_t a_t_bytes a_c cI cB cZ cP cC length token start behind value bytes) H → va_D A (ww_X2_takeRun a_t a_t_bytes a_c cI cB cZ cP cC length token start behind value bytes) → va_S A s.heap H locs → lv_has ls 4 [(0, .ref a_t), (3, .int v3)] → K_55 v3 behind → W p l e rm_X2_takeRun s m ar bl meth c H locs 0 0 (MQ bl (qq_X2_takeRun D a_t a_t_bytes a_c cI cB cZ cP cC length token start value bytes Post A) ar s 0 0 A) (F0 m 55 ls [])) :
    ∀ (n : Nat) (v1 : Int32) (v2 : Int32) (v3 : Int32) (behind : Int32) (H : Heap) (locs : List Loc) (ls : Array Slot), va_P D vwCl (ww_X2_takeRun a_t a_t_bytes a_c cI cB cZ cP cC length token start behind value bytes) H → va_D A (ww_X2_takeRun a_t a_t_bytes a_c cI cB cZ cP cC length token start behind value bytes) → va_S A s.heap H locs → lv_has ls 4 [(0, .ref a_t), (1, .int v1), (2, .int v2), (3, .int v3)] → wp_X2_takeRun_L5 length bytes Post K_55 n v1 v2 v3 behind → W p l e rm_X2_takeRun s m ar bl meth c H locs 0 0 (MQ bl (qq_X2_takeRun D a_t a_t_bytes a_c cI cB cZ cP cC length token start value bytes Post A) ar s 0 0 A) (F0 m 5 ls []) := by
  obtain ⟨hx, hb, hr, hlocks, hml, hown, hts, hK, hA⟩ := id C0
  intro n
  induction n with
  | zero =>
    intro v1 v2 v3 behind H locs ls hP hD hS hl hw
    exact absurd hw (fun h => h)
  | succ n ih =>
    intro v1 v2 v3 behind H locs ls hP hD hS hl hw
    refine lv_aload_n hx hb dX2_takeRun_5 rfl (lv_at hl 0 rfl) ?_
    refine mx_get (ci := 2) (C := RX2) (T := TX2) (N := 7) hx hb hown in_wsX20 hts hK hP 0 rfl rfl 5 (by decide) q_227 rfl (v := .int behind) rfl dX2_takeRun_6 ?_
    refine lv_aload_n hx hb dX2_takeRun_9 rfl (lv_at hl 0 rfl) ?_
    refine mx_get (ci := 2) (C := RX2) (T := TX2) (N := 7) hx hb hown in_wsX20 hts hK hP 0 rfl rfl 1 (by decide) q_203 rfl (v := .int length) rfl dX2_takeRun_10 ?_
    refine lv_icmp_ge (tgt := 55) hx hb dX2_takeRun_13 (by decide) (fun c_1 => ?_) (fun c_1 => ?_)
    · replace hw := hw.1 c_1
      exact hK_55 v3 behind _ _ _ hP hD hS (lv_sub hl [0, 3] rfl) hw
    · replace hw := hw.2 c_1
      refine lv_aload_n hx hb dX2_takeRun_16 rfl (lv_at hl 0 rfl) ?_
      refine mx_get (ci := 2) (C := RX2) (T := TX2) (N := 7) hx hb hown in_wsX20 hts hK hP 0 rfl rfl 2 (by decide) q_79 rfl (v := .ref a_t_bytes) rfl dX2_takeRun_17 ?_
      refine lv_aload_n hx hb dX2_takeRun_20 rfl (lv_at hl 0 rfl) ?_
      refine mx_get (ci := 2) (C := RX2) (T := TX2) (N := 7) hx hb hown in_wsX20 hts hK hP 0 rfl rfl 5 (by decide) q_227 rfl (v := .int behind) rfl dX2_takeRun_21 ?_
      obtain ⟨h_2, hw⟩ := hw
      refine mx_bald hx hb hK hP 1 1 rfl rfl h_2 (bytes behind.toNatClampNeg) rfl dX2_takeRun_24 ?_
      refine lv_iload_n hx hb dX2_takeRun_25 rfl (lv_at hl 1 rfl) ?_
      refine lv_icmp_lt (tgt := 55) hx hb dX2_takeRun_26 (by decide) (fun c_3 => ?_) (fun c_3 => ?_)
      · replace hw := hw.1 c_3
        exact hK_55 v3 behind _ _ _ hP hD hS (lv_sub hl [0, 3] rfl) hw
      · replace hw := hw.2 c_3
        refine lv_aload_n hx hb dX2_takeRun_29 rfl (lv_at hl 0 rfl) ?_
        refine mx_get (ci := 2) (C := RX2) (T := TX2) (N := 7) hx hb hown in_wsX20 hts hK hP 0 rfl rfl 2 (by decide) q_79 rfl (v := .ref a_t_bytes) rfl dX2_takeRun_30 ?_
        refine lv_aload_n hx hb dX2_takeRun_33 rfl (lv_at hl 0 rfl) ?_
        refine mx_get (ci := 2) (C := RX2) (T := TX2) (N := 7) hx hb hown in_wsX20 hts hK hP 0 rfl rfl 5 (by decide) q_227 rfl (v := .int behind) rfl dX2_takeRun_34 ?_
        refine mx_bald hx hb hK hP 1 1 rfl rfl h_2 (bytes behind.toNatClampNeg) rfl dX2_takeRun_37 ?_
        refine lv_iload_n hx hb dX2_takeRun_38 rfl (lv_at hl 2 rfl) ?_
        refine lv_icmp_gt (tgt := 55) hx hb dX2_takeRun_39 (by decide) (fun c_4 => ?_) (fun c_4 => ?_)
        · replace hw := hw.1 c_4
          exact hK_55 v3 behind _ _ _ hP hD hS (lv_sub hl [0, 3] rfl) hw
        · replace hw := hw.2 c_4
          refine lv_aload_n hx hb dX2_takeRun_42 rfl (lv_at hl 0 rfl) ?_
          refine lv_dup hx hb dX2_takeRun_43 rfl ?_
          refine mx_get (ci := 2) (C := RX2) (T := TX2) (N := 7) hx hb hown in_wsX20 hts hK hP 0 rfl rfl 5 (by decide) q_227 rfl (v := .int behind) rfl dX2_takeRun_44 ?_
          refine lv_iconst (v := 1) hx hb dX2_takeRun_47 (by decide) ?_
          refine lv_iadd hx hb dX2_takeRun_48 ?_
          refine lv_topi (fun x_5 ex_5 => ?_)
          replace hw := hw x_5 ex_5
          refine mx_put (ci := 2) (C := RX2) (T := TX2) (N := 7) hx hb hown in_wsX20 tyX2 tyX2_ok nmX2 hts hK hP hD hS 0 rfl rfl 5 (by decide) q_227 rfl rfl rfl rfl (Nat.le_of_ble_eq_true rfl) (ww_X2_takeRun a_t a_t_bytes a_c cI cB cZ cP cC length token start x_5 value bytes) rfl dX2_takeRun_49 (fun H locs hP hD hS => ?_)
          refine lv_goto (tgt := 5) hx hb dX2_takeRun_52 (by decide) ?_
          exact ih v1 v2 v3 x_5 _ _ _ hP hD hS (lv_sub hl [0, 1, 2, 3] rfl) hw
def wp_X2_takeRun_J55 (length : Int32) (bytes : Nat → Int32) (Post : Int32 → Int32 → Prop)  (v3 : Int32) (behind : Int32) : Prop :=
  Post (behind - v3) behind
set_option maxHeartbeats 4000000 in
set_option maxRecDepth 100000 in
theorem k_X2_takeRun_J55 {p : Program} {l : Launch} {e : Env} {s : State} {m : MethodId} {ar : Array Value} {bl : List Frame} {meth : Method} {c : Code} {D : va_G} {A : Nat → Prop} {cI cB cZ cP cC : ClassId} {a_t a_t_bytes a_c : Nat} {length : Int32} {token : Int32} {start : Int32} {value : Int32} {bytes : Nat → Int32} {Post : Int32 → Int32 → Prop} (C0 : mxC p s m ar meth c cX2_takeRun RX2 (some .int) 4 D (mxTy cI cB cZ cP cC) A) :
    ∀ (v3 : Int32) (behind : Int32) (H : Heap) (locs : List Loc) (ls : Array Slot), va_P D vwCl (ww_X2_takeRun a_t a_t_bytes a_c cI cB cZ cP cC length token start behind value bytes) H → va_D A (ww_X2_takeRun a_t a_t_bytes a_c cI cB cZ cP cC length token start behind value bytes) → va_S A s.heap H locs → lv_has ls 4 [(0, .ref a_t), (3, .int v3)] → wp_X2_takeRun_J55 length bytes Post  v3 behind → W p l e rm_X2_takeRun s m ar bl meth c H locs 0 0 (MQ bl (qq_X2_takeRun D a_t a_t_bytes a_c cI cB cZ cP cC length token start value bytes Post A) ar s 0 0 A) (F0 m 55 ls []) := by
  obtain ⟨hx, hb, hr, hlocks, hml, hown, hts, hK, hA⟩ := id C0
  intro v3 behind H locs ls hP hD hS hl hw
  refine lv_aload_n hx hb dX2_takeRun_55 rfl (lv_at hl 0 rfl) ?_
  refine mx_get (ci := 2) (C := RX2) (T := TX2) (N := 7) hx hb hown in_wsX20 hts hK hP 0 rfl rfl 5 (by decide) q_227 rfl (v := .int behind) rfl dX2_takeRun_56 ?_
  refine lv_iload_n hx hb dX2_takeRun_59 rfl (lv_at hl 1 rfl) ?_
  refine lv_isub hx hb dX2_takeRun_60 ?_
  exact mx_iret behind hx hb hr hlocks rfl hw hK hP hD hS dX2_takeRun_61
def wp_X2_takeRun (length : Int32) (bytes : Nat → Int32) (behind : Int32) (v1 : Int32) (v2 : Int32) (Post : Int32 → Int32 → Prop) : Prop :=
  (∃ k_8 : Nat, wp_X2_takeRun_L5 length bytes Post (fun (v3_6 : Int32) (behind_7 : Int32) => (wp_X2_takeRun_J55 length bytes Post v3_6 behind_7)) k_8 v1 v2 behind behind)
set_option maxHeartbeats 4000000 in
set_option maxRecDepth 100000 in
theorem c_X2_takeRun (l : Launch) (D : va_G) (cI cB cZ cP cC : ClassId) (a_t a_t_bytes a_c : Nat) (length : Int32) (token : Int32) (start : Int32) (behind : Int32) (value : Int32) (bytes : Nat → Int32) (v1 : Int32) (v2 : Int32) (sz : Nat) (Post : Int32 → Int32 → Prop) (hw : wp_X2_takeRun length bytes behind v1 v2 Post) :
    Met l yX2_takeRun (Cond.code yX2_takeRun cX2_takeRun 4 (some .int) :: wsAll) rm_X2_takeRun (va_Pc [.ref a_t, .int v1, .int v2] (mxP D (mxTy cI cB cZ cP cC) sz (ww_X2_takeRun a_t a_t_bytes a_c cI cB cZ cP cC length token start behind value bytes))) (qq_X2_takeRun D a_t a_t_bytes a_c cI cB cZ cP cC length token start value bytes Post (va_A (ww_X2_takeRun a_t a_t_bytes a_c cI cB cZ cP cC length token start behind value bytes) sz)) 0 0 (va_A (ww_X2_takeRun a_t a_t_bytes a_c cI cB cZ cP cC length token start behind value bytes) sz) := by
  refine mx_of (Qc := qq_X2_takeRun D a_t a_t_bytes a_c cI cB cZ cP cC length token start value bytes Post) (by decide) (Nat.le_of_ble_eq_true rfl) ?_
  intro p e s m bl meth c A ls C0 hP hD hS hl
  replace C0 : mxC p s m [.ref a_t, .int v1, .int v2].toArray meth c cX2_takeRun RX2 (some .int) 4 D (mxTy cI cB cZ cP cC) A := C0
  obtain ⟨hx, hb, hr, hlocks, hml, hown, hts, hK, hA⟩ := id C0
  replace hl : lv_has ls 4 [(0, .ref a_t), (1, .int v1), (2, .int v2)] := hl
  unfold wp_X2_takeRun at hw
  refine lv_aload_n hx hb dX2_takeRun_0 rfl (lv_at hl 0 rfl) ?_
  refine mx_get (ci := 2) (C := RX2) (T := TX2) (N := 7) hx hb hown in_wsX20 hts hK hP 0 rfl rfl 5 (by decide) q_227 rfl (v := .int behind) rfl dX2_takeRun_1 ?_
  refine lv_istore_n (lv' := [(3, .int behind), (0, .ref a_t), (1, .int v1), (2, .int v2)]) hx hb dX2_takeRun_4 rfl hl (by decide) rfl (fun ls hl => ?_)
  obtain ⟨n0, hw⟩ := hw
  refine k_X2_takeRun_L5 C0 ?_ n0 v1 v2 behind behind _ _ _ hP hD hS (lv_sub hl [1, 2, 3, 0] rfl) hw
  intro v3_6 behind_7 H locs ls hP hD hS hl hw
  exact k_X2_takeRun_J55 C0  v3_6 behind_7 _ _ _ hP hD hS (lv_sub hl [0, 1] rfl) hw
/-! PramState$CourtText.advance()V -/
abbrev ww_X2_advance (a_t a_t_bytes a_c : Nat) (cI cB cZ cP cC : ClassId) (length : Int32) (token : Int32) (start : Int32) (behind : Int32) (value : Int32) (bytes : Nat → Int32) : va_W := [(a_t, .inr (2, [.ref a_c, .int length, .ref a_t_bytes, .int token, .int start, .int behind, .int value])), (a_t_bytes, .inl (cB, 150, .inl bytes))]
abbrev qq_X2_advance (D : va_G) (a_t a_t_bytes a_c : Nat) (cI cB cZ cP cC : ClassId) (length : Int32) (bytes : Nat → Int32) (Post : Int32 → Int32 → Int32 → Int32 → Prop) (A : Nat → Prop) : Array Value → State → Outcome → State → Prop := va_Qv (fun (u : Int32 × Int32 × Int32 × Int32) => Post u.1 u.2.1 u.2.2.1 u.2.2.2) (fun (u : Int32 × Int32 × Int32 × Int32) t => mxB D (mxTy cI cB cZ cP cC) A (ww_X2_advance a_t a_t_bytes a_c cI cB cZ cP cC length (u.1) (u.2.1) (u.2.2.1) (u.2.2.2) bytes) t) A
abbrev rm_X2_advance : Room := { frames := 1, cells := 0, slots := 0, locals := 23 }
theorem hd_X2_advance : yX2_advance.cls = RX2 ∧ yX2_advance.cls ≠ "java/lang/invoke/MethodHandle" ∧ yX2_advance.cls ≠ "java/lang/invoke/VarHandle" ∧ (parseMethodDescriptor yX2_advance.desc).map (fun d => d.parameters.length) = some 0 := by decide +kernel
def wp_X2_advance_J166 (length : Int32) (bytes : Nat → Int32) (Post : Int32 → Int32 → Int32 → Int32 → Prop)  (s0 : Int32) (token : Int32) (start : Int32) (behind : Int32) (value : Int32) : Prop :=
  (∀ x_12 : Int32, x_12 = behind + 1 → Post s0 start x_12 value)
set_option maxHeartbeats 4000000 in
set_option maxRecDepth 100000 in
theorem k_X2_advance_J166 {p : Program} {l : Launch} {e : Env} {s : State} {m : MethodId} {ar : Array Value} {bl : List Frame} {meth : Method} {c : Code} {D : va_G} {A : Nat → Prop} {cI cB cZ cP cC : ClassId} {a_t a_t_bytes a_c : Nat} {length : Int32} {bytes : Nat → Int32} {Post : Int32 → Int32 → Int32 → Int32 → Prop} (C0 : mxC p s m ar meth c cX2_advance RX2 none 1 D (mxTy cI cB cZ cP cC) A) :
    ∀ (s0 : Int32) (token : Int32) (start : Int32) (behind : Int32) (value : Int32) (H : Heap) (locs : List Loc) (ls : Array Slot), va_P D vwCl (ww_X2_advance a_t a_t_bytes a_c cI cB cZ cP cC length token start behind value bytes) H → va_D A (ww_X2_advance a_t a_t_bytes a_c cI cB cZ cP cC length token start behind value bytes) → va_S A s.heap H locs → lv_has ls 1 [(0, .ref a_t)] → wp_X2_advance_J166 length bytes Post  s0 token start behind value → W p l e rm_X2_advance s m ar bl meth c H locs 0 0 (MQ bl (qq_X2_advance D a_t a_t_bytes a_c cI cB cZ cP cC length bytes Post A) ar s 0 0 A) (F0 m 166 ls [.int s0, .ref a_t]) := by
  obtain ⟨hx, hb, hr, hlocks, hml, hown, hts, hK, hA⟩ := id C0
  intro s0 token start behind value H locs ls hP hD hS hl hw
  refine mx_put (ci := 2) (C := RX2) (T := TX2) (N := 7) hx hb hown in_wsX20 tyX2 tyX2_ok nmX2 hts hK hP hD hS 0 rfl rfl 3 (by decide) q_228 rfl rfl rfl rfl (Nat.le_of_ble_eq_true rfl) (ww_X2_advance a_t a_t_bytes a_c cI cB cZ cP cC length s0 start behind value bytes) rfl dX2_advance_166 (fun H locs hP hD hS => ?_)
  refine lv_aload_n hx hb dX2_advance_169 rfl (lv_at hl 0 rfl) ?_
  refine lv_dup hx hb dX2_advance_170 rfl ?_
  refine mx_get (ci := 2) (C := RX2) (T := TX2) (N := 7) hx hb hown in_wsX20 hts hK hP 0 rfl rfl 5 (by decide) q_227 rfl (v := .int behind) rfl dX2_advance_171 ?_
  refine lv_iconst (v := 1) hx hb dX2_advance_174 (by decide) ?_
  refine lv_iadd hx hb dX2_advance_175 ?_
  refine lv_topi (fun x_12 ex_12 => ?_)
  replace hw := hw x_12 ex_12
  refine mx_put (ci := 2) (C := RX2) (T := TX2) (N := 7) hx hb hown in_wsX20 tyX2 tyX2_ok nmX2 hts hK hP hD hS 0 rfl rfl 5 (by decide) q_227 rfl rfl rfl rfl (Nat.le_of_ble_eq_true rfl) (ww_X2_advance a_t a_t_bytes a_c cI cB cZ cP cC length s0 start x_12 value bytes) rfl dX2_advance_176 (fun H locs hP hD hS => ?_)
  exact mx_vret (s0, start, x_12, value) hx hb hr hlocks hw hK hP hD hS dX2_advance_179
def wp_X2_advance_J66 (length : Int32) (bytes : Nat → Int32) (Post : Int32 → Int32 → Int32 → Int32 → Prop)  (s0 : Int32) (token : Int32) (start : Int32) (behind : Int32) (value : Int32) : Prop :=
  (vp_in (behind - 1) 150 ∧ (∀ x_15 : Int32, x_15 = (bytes (behind - 1).toNatClampNeg) - 48 → (((behind - start) ≤ 1 → Post s0 start behind x_15) ∧ (¬ (behind - start) ≤ 1 → (vp_in start 150 ∧ (∀ x_18 : Int32, x_18 = x_15 + (10 * ((bytes start.toNatClampNeg) - 48)) → Post s0 start behind x_18))))))
set_option maxHeartbeats 4000000 in
set_option maxRecDepth 100000 in
theorem k_X2_advance_J66 {p : Program} {l : Launch} {e : Env} {s : State} {m : MethodId} {ar : Array Value} {bl : List Frame} {meth : Method} {c : Code} {D : va_G} {A : Nat → Prop} {cI cB cZ cP cC : ClassId} {a_t a_t_bytes a_c : Nat} {length : Int32} {bytes : Nat → Int32} {Post : Int32 → Int32 → Int32 → Int32 → Prop} (C0 : mxC p s m ar meth c cX2_advance RX2 none 1 D (mxTy cI cB cZ cP cC) A) :
    ∀ (s0 : Int32) (token : Int32) (start : Int32) (behind : Int32) (value : Int32) (H : Heap) (locs : List Loc) (ls : Array Slot), va_P D vwCl (ww_X2_advance a_t a_t_bytes a_c cI cB cZ cP cC length token start behind value bytes) H → va_D A (ww_X2_advance a_t a_t_bytes a_c cI cB cZ cP cC length token start behind value bytes) → va_S A s.heap H locs → lv_has ls 1 [(0, .ref a_t)] → wp_X2_advance_J66 length bytes Post  s0 token start behind value → W p l e rm_X2_advance s m ar bl meth c H locs 0 0 (MQ bl (qq_X2_advance D a_t a_t_bytes a_c cI cB cZ cP cC length bytes Post A) ar s 0 0 A) (F0 m 66 ls [.int s0, .ref a_t]) := by
  obtain ⟨hx, hb, hr, hlocks, hml, hown, hts, hK, hA⟩ := id C0
  intro s0 token start behind value H locs ls hP hD hS hl hw
  refine mx_put (ci := 2) (C := RX2) (T := TX2) (N := 7) hx hb hown in_wsX20 tyX2 tyX2_ok nmX2 hts hK hP hD hS 0 rfl rfl 3 (by decide) q_228 rfl rfl rfl rfl (Nat.le_of_ble_eq_true rfl) (ww_X2_advance a_t a_t_bytes a_c cI cB cZ cP cC length s0 start behind value bytes) rfl dX2_advance_66 (fun H locs hP hD hS => ?_)
  refine lv_aload_n hx hb dX2_advance_69 rfl (lv_at hl 0 rfl) ?_
  refine lv_aload_n hx hb dX2_advance_70 rfl (lv_at hl 0 rfl) ?_
  refine mx_get (ci := 2) (C := RX2) (T := TX2) (N := 7) hx hb hown in_wsX20 hts hK hP 0 rfl rfl 2 (by decide) q_79 rfl (v := .ref a_t_bytes) rfl dX2_advance_71 ?_
  refine lv_aload_n hx hb dX2_advance_74 rfl (lv_at hl 0 rfl) ?_
  refine mx_get (ci := 2) (C := RX2) (T := TX2) (N := 7) hx hb hown in_wsX20 hts hK hP 0 rfl rfl 5 (by decide) q_227 rfl (v := .int behind) rfl dX2_advance_75 ?_
  refine lv_iconst (v := 1) hx hb dX2_advance_78 (by decide) ?_
  refine lv_isub hx hb dX2_advance_79 ?_
  obtain ⟨h_14, hw⟩ := hw
  refine mx_bald hx hb hK hP 1 1 rfl rfl h_14 (bytes (behind - 1).toNatClampNeg) rfl dX2_advance_80 ?_
  refine lv_bipush (v := 48) hx hb dX2_advance_81 (by decide) ?_
  refine lv_isub hx hb dX2_advance_83 ?_
  refine lv_topi (fun x_15 ex_15 => ?_)
  replace hw := hw x_15 ex_15
  refine mx_put (ci := 2) (C := RX2) (T := TX2) (N := 7) hx hb hown in_wsX20 tyX2 tyX2_ok nmX2 hts hK hP hD hS 0 rfl rfl 6 (by decide) q_235 rfl rfl rfl rfl (Nat.le_of_ble_eq_true rfl) (ww_X2_advance a_t a_t_bytes a_c cI cB cZ cP cC length s0 start behind x_15 bytes) rfl dX2_advance_84 (fun H locs hP hD hS => ?_)
  refine lv_aload_n hx hb dX2_advance_87 rfl (lv_at hl 0 rfl) ?_
  refine mx_get (ci := 2) (C := RX2) (T := TX2) (N := 7) hx hb hown in_wsX20 hts hK hP 0 rfl rfl 5 (by decide) q_227 rfl (v := .int behind) rfl dX2_advance_88 ?_
  refine lv_aload_n hx hb dX2_advance_91 rfl (lv_at hl 0 rfl) ?_
  refine mx_get (ci := 2) (C := RX2) (T := TX2) (N := 7) hx hb hown in_wsX20 hts hK hP 0 rfl rfl 4 (by decide) q_229 rfl (v := .int start) rfl dX2_advance_92 ?_
  refine lv_isub hx hb dX2_advance_95 ?_
  refine lv_iconst (v := 1) hx hb dX2_advance_96 (by decide) ?_
  refine lv_icmp_le (tgt := 179) hx hb dX2_advance_97 (by decide) (fun c_16 => ?_) (fun c_16 => ?_)
  · replace hw := hw.1 c_16
    exact mx_vret (s0, start, behind, x_15) hx hb hr hlocks hw hK hP hD hS dX2_advance_179
  · replace hw := hw.2 c_16
    refine lv_aload_n hx hb dX2_advance_100 rfl (lv_at hl 0 rfl) ?_
    refine lv_dup hx hb dX2_advance_101 rfl ?_
    refine mx_get (ci := 2) (C := RX2) (T := TX2) (N := 7) hx hb hown in_wsX20 hts hK hP 0 rfl rfl 6 (by decide) q_235 rfl (v := .int x_15) rfl dX2_advance_102 ?_
    refine lv_bipush (v := 10) hx hb dX2_advance_105 (by decide) ?_
    refine lv_aload_n hx hb dX2_advance_107 rfl (lv_at hl 0 rfl) ?_
    refine mx_get (ci := 2) (C := RX2) (T := TX2) (N := 7) hx hb hown in_wsX20 hts hK hP 0 rfl rfl 2 (by decide) q_79 rfl (v := .ref a_t_bytes) rfl dX2_advance_108 ?_
    refine lv_aload_n hx hb dX2_advance_111 rfl (lv_at hl 0 rfl) ?_
    refine mx_get (ci := 2) (C := RX2) (T := TX2) (N := 7) hx hb hown in_wsX20 hts hK hP 0 rfl rfl 4 (by decide) q_229 rfl (v := .int start) rfl dX2_advance_112 ?_
    obtain ⟨h_17, hw⟩ := hw
    refine mx_bald hx hb hK hP 1 1 rfl rfl h_17 (bytes start.toNatClampNeg) rfl dX2_advance_115 ?_
    refine lv_bipush (v := 48) hx hb dX2_advance_116 (by decide) ?_
    refine lv_isub hx hb dX2_advance_118 ?_
    refine lv_imul hx hb dX2_advance_119 ?_
    refine lv_iadd hx hb dX2_advance_120 ?_
    refine lv_topi (fun x_18 ex_18 => ?_)
    replace hw := hw x_18 ex_18
    refine mx_put (ci := 2) (C := RX2) (T := TX2) (N := 7) hx hb hown in_wsX20 tyX2 tyX2_ok nmX2 hts hK hP hD hS 0 rfl rfl 6 (by decide) q_235 rfl rfl rfl rfl (Nat.le_of_ble_eq_true rfl) (ww_X2_advance a_t a_t_bytes a_c cI cB cZ cP cC length s0 start behind x_18 bytes) rfl dX2_advance_121 (fun H locs hP hD hS => ?_)
    refine lv_goto (tgt := 179) hx hb dX2_advance_124 (by decide) ?_
    exact mx_vret (s0, start, behind, x_18) hx hb hr hlocks hw hK hP hD hS dX2_advance_179
def wp_X2_advance (length : Int32) (bytes : Nat → Int32) (token : Int32) (start : Int32) (behind : Int32) (value : Int32) (Post : Int32 → Int32 → Int32 → Int32 → Prop) : Prop :=
  (wp_X2_takeRun length bytes behind 32 32 (fun r_1 behind_2 => (wp_X2_takeRun length bytes behind_2 97 122 (fun r_3 behind_4 => ((r_3 ≤ 0 → (wp_X2_takeRun length bytes behind_4 48 57 (fun r_6 behind_7 => ((r_6 ≤ 0 → ((behind_2 < length → (vp_in behind_2 150 ∧ (((bytes behind_2.toNatClampNeg) = 59 → (wp_X2_advance_J166 length bytes Post 3 token behind_2 behind_7 value)) ∧ (¬ (bytes behind_2.toNatClampNeg) = 59 → (wp_X2_advance_J166 length bytes Post 4 token behind_2 behind_7 value))))) ∧ (¬ behind_2 < length → Post 0 behind_2 behind_7 value))) ∧ (¬ r_6 ≤ 0 → ((2 < (behind_7 - behind_2) → (wp_X2_advance_J66 length bytes Post 4 token behind_2 behind_7 value)) ∧ (¬ 2 < (behind_7 - behind_2) → (wp_X2_advance_J66 length bytes Post 2 token behind_2 behind_7 value)))))))) ∧ (¬ r_3 ≤ 0 → Post 1 behind_2 behind_4 value))))))
set_option maxHeartbeats 4000000 in
set_option maxRecDepth 100000 in
theorem c_X2_advance (l : Launch) (D : va_G) (cI cB cZ cP cC : ClassId) (a_t a_t_bytes a_c : Nat) (length : Int32) (token : Int32) (start : Int32) (behind : Int32) (value : Int32) (bytes : Nat → Int32)  (sz : Nat) (Post : Int32 → Int32 → Int32 → Int32 → Prop) (hw : wp_X2_advance length bytes token start behind value Post) :
    Met l yX2_advance (Cond.code yX2_advance cX2_advance 1 none :: wsAll) rm_X2_advance (va_Pc [.ref a_t] (mxP D (mxTy cI cB cZ cP cC) sz (ww_X2_advance a_t a_t_bytes a_c cI cB cZ cP cC length token start behind value bytes))) (qq_X2_advance D a_t a_t_bytes a_c cI cB cZ cP cC length bytes Post (va_A (ww_X2_advance a_t a_t_bytes a_c cI cB cZ cP cC length token start behind value bytes) sz)) 0 0 (va_A (ww_X2_advance a_t a_t_bytes a_c cI cB cZ cP cC length token start behind value bytes) sz) := by
  refine mx_of (Qc := qq_X2_advance D a_t a_t_bytes a_c cI cB cZ cP cC length bytes Post) (by decide) (Nat.le_of_ble_eq_true rfl) ?_
  intro p e s m bl meth c A ls C0 hP hD hS hl
  replace C0 : mxC p s m [.ref a_t].toArray meth c cX2_advance RX2 none 1 D (mxTy cI cB cZ cP cC) A := C0
  obtain ⟨hx, hb, hr, hlocks, hml, hown, hts, hK, hA⟩ := id C0
  replace hl : lv_has ls 1 [(0, .ref a_t)] := hl
  unfold wp_X2_advance at hw
  refine lv_aload_n hx hb dX2_advance_0 rfl (lv_at hl 0 rfl) ?_
  refine lv_bipush (v := 32) hx hb dX2_advance_1 (by decide) ?_
  refine lv_bipush (v := 32) hx hb dX2_advance_3 (by decide) ?_
  refine mx_ki (mx_rV (rm := rm_X2_takeRun) (rest := []) (C := RX2) hx hb hml hown hts (c_X2_takeRun l D cI cB cZ cP cC a_t a_t_bytes a_c length token start behind value bytes 32 32 _ _ hw) q_236 q_237 q_238 q_39 q_239 hd_X2_takeRun ⟨(Nat.le_of_ble_eq_true rfl), (Nat.le_of_ble_eq_true rfl)⟩ rfl rfl hK hP hD [0, 1] rfl rfl 2 0 rfl rfl rfl rfl hl.1 rfl (Nat.le_of_ble_eq_true rfl) dX2_advance_5 ⟨(Nat.le_of_ble_eq_true rfl), (Nat.le_of_ble_eq_true rfl)⟩) hP hD hS hA [0, 1] [] [0, 1] (fun u => ww_X2_advance a_t a_t_bytes a_c cI cB cZ cP cC length token start u value bytes) rfl rfl rfl (by decide) rfl (fun _ => rfl) (fun r_1 behind_2 H locs hw hP hD hS => ?_)
  try dsimp only at hw
  replace hP : va_P D vwCl (ww_X2_advance a_t a_t_bytes a_c cI cB cZ cP cC length token start behind_2 value bytes) H := hP
  replace hD : va_D A (ww_X2_advance a_t a_t_bytes a_c cI cB cZ cP cC length token start behind_2 value bytes) := hD
  refine lv_pop hx hb dX2_advance_8 rfl ?_
  refine lv_aload_n hx hb dX2_advance_9 rfl (lv_at hl 0 rfl) ?_
  refine lv_aload_n hx hb dX2_advance_10 rfl (lv_at hl 0 rfl) ?_
  refine mx_get (ci := 2) (C := RX2) (T := TX2) (N := 7) hx hb hown in_wsX20 hts hK hP 0 rfl rfl 5 (by decide) q_227 rfl (v := .int behind_2) rfl dX2_advance_11 ?_
  refine mx_put (ci := 2) (C := RX2) (T := TX2) (N := 7) hx hb hown in_wsX20 tyX2 tyX2_ok nmX2 hts hK hP hD hS 0 rfl rfl 4 (by decide) q_229 rfl rfl rfl rfl (Nat.le_of_ble_eq_true rfl) (ww_X2_advance a_t a_t_bytes a_c cI cB cZ cP cC length token behind_2 behind_2 value bytes) rfl dX2_advance_14 (fun H locs hP hD hS => ?_)
  refine lv_aload_n hx hb dX2_advance_17 rfl (lv_at hl 0 rfl) ?_
  refine lv_bipush (v := 97) hx hb dX2_advance_18 (by decide) ?_
  refine lv_bipush (v := 122) hx hb dX2_advance_20 (by decide) ?_
  refine mx_ki (mx_rV (rm := rm_X2_takeRun) (rest := []) (C := RX2) hx hb hml hown hts (c_X2_takeRun l D cI cB cZ cP cC a_t a_t_bytes a_c length token behind_2 behind_2 value bytes 97 122 _ _ hw) q_236 q_237 q_238 q_39 q_239 hd_X2_takeRun ⟨(Nat.le_of_ble_eq_true rfl), (Nat.le_of_ble_eq_true rfl)⟩ rfl rfl hK hP hD [0, 1] rfl rfl 2 0 rfl rfl rfl rfl hl.1 rfl (Nat.le_of_ble_eq_true rfl) dX2_advance_22 ⟨(Nat.le_of_ble_eq_true rfl), (Nat.le_of_ble_eq_true rfl)⟩) hP hD hS hA [0, 1] [] [0, 1] (fun u => ww_X2_advance a_t a_t_bytes a_c cI cB cZ cP cC length token behind_2 u value bytes) rfl rfl rfl (by decide) rfl (fun _ => rfl) (fun r_3 behind_4 H locs hw hP hD hS => ?_)
  try dsimp only at hw
  replace hP : va_P D vwCl (ww_X2_advance a_t a_t_bytes a_c cI cB cZ cP cC length token behind_2 behind_4 value bytes) H := hP
  replace hD : va_D A (ww_X2_advance a_t a_t_bytes a_c cI cB cZ cP cC length token behind_2 behind_4 value bytes) := hD
  refine lv_if_le (tgt := 36) hx hb dX2_advance_25 (by decide) (fun c_5 => ?_) (fun c_5 => ?_)
  · replace hw := hw.1 c_5
    refine lv_aload_n hx hb dX2_advance_36 rfl (lv_at hl 0 rfl) ?_
    refine lv_bipush (v := 48) hx hb dX2_advance_37 (by decide) ?_
    refine lv_bipush (v := 57) hx hb dX2_advance_39 (by decide) ?_
    refine mx_ki (mx_rV (rm := rm_X2_takeRun) (rest := []) (C := RX2) hx hb hml hown hts (c_X2_takeRun l D cI cB cZ cP cC a_t a_t_bytes a_c length token behind_2 behind_4 value bytes 48 57 _ _ hw) q_236 q_237 q_238 q_39 q_239 hd_X2_takeRun ⟨(Nat.le_of_ble_eq_true rfl), (Nat.le_of_ble_eq_true rfl)⟩ rfl rfl hK hP hD [0, 1] rfl rfl 2 0 rfl rfl rfl rfl hl.1 rfl (Nat.le_of_ble_eq_true rfl) dX2_advance_41 ⟨(Nat.le_of_ble_eq_true rfl), (Nat.le_of_ble_eq_true rfl)⟩) hP hD hS hA [0, 1] [] [0, 1] (fun u => ww_X2_advance a_t a_t_bytes a_c cI cB cZ cP cC length token behind_2 u value bytes) rfl rfl rfl (by decide) rfl (fun _ => rfl) (fun r_6 behind_7 H locs hw hP hD hS => ?_)
    try dsimp only at hw
    replace hP : va_P D vwCl (ww_X2_advance a_t a_t_bytes a_c cI cB cZ cP cC length token behind_2 behind_7 value bytes) H := hP
    replace hD : va_D A (ww_X2_advance a_t a_t_bytes a_c cI cB cZ cP cC length token behind_2 behind_7 value bytes) := hD
    refine lv_if_le (tgt := 127) hx hb dX2_advance_44 (by decide) (fun c_8 => ?_) (fun c_8 => ?_)
    · replace hw := hw.1 c_8
      refine lv_aload_n hx hb dX2_advance_127 rfl (lv_at hl 0 rfl) ?_
      refine mx_get (ci := 2) (C := RX2) (T := TX2) (N := 7) hx hb hown in_wsX20 hts hK hP 0 rfl rfl 4 (by decide) q_229 rfl (v := .int behind_2) rfl dX2_advance_128 ?_
      refine lv_aload_n hx hb dX2_advance_131 rfl (lv_at hl 0 rfl) ?_
      refine mx_get (ci := 2) (C := RX2) (T := TX2) (N := 7) hx hb hown in_wsX20 hts hK hP 0 rfl rfl 1 (by decide) q_203 rfl (v := .int length) rfl dX2_advance_132 ?_
      refine lv_icmp_lt (tgt := 146) hx hb dX2_advance_135 (by decide) (fun c_9 => ?_) (fun c_9 => ?_)
      · replace hw := hw.1 c_9
        refine lv_aload_n hx hb dX2_advance_146 rfl (lv_at hl 0 rfl) ?_
        refine lv_aload_n hx hb dX2_advance_147 rfl (lv_at hl 0 rfl) ?_
        refine mx_get (ci := 2) (C := RX2) (T := TX2) (N := 7) hx hb hown in_wsX20 hts hK hP 0 rfl rfl 2 (by decide) q_79 rfl (v := .ref a_t_bytes) rfl dX2_advance_148 ?_
        refine lv_aload_n hx hb dX2_advance_151 rfl (lv_at hl 0 rfl) ?_
        refine mx_get (ci := 2) (C := RX2) (T := TX2) (N := 7) hx hb hown in_wsX20 hts hK hP 0 rfl rfl 4 (by decide) q_229 rfl (v := .int behind_2) rfl dX2_advance_152 ?_
        obtain ⟨h_10, hw⟩ := hw
        refine mx_bald hx hb hK hP 1 1 rfl rfl h_10 (bytes behind_2.toNatClampNeg) rfl dX2_advance_155 ?_
        refine lv_bipush (v := 59) hx hb dX2_advance_156 (by decide) ?_
        refine lv_icmp_ne (tgt := 165) hx hb dX2_advance_158 (by decide) (fun c_11 => ?_) (fun c_11 => ?_)
        · replace hw := hw.2 c_11
          refine lv_iconst (v := 4) hx hb dX2_advance_165 (by decide) ?_
          exact k_X2_advance_J166 C0  4 token behind_2 behind_7 value _ _ _ hP hD hS (lv_sub hl [0] rfl) hw
        · replace hw := hw.1 c_11
          refine lv_iconst (v := 3) hx hb dX2_advance_161 (by decide) ?_
          refine lv_goto (tgt := 166) hx hb dX2_advance_162 (by decide) ?_
          exact k_X2_advance_J166 C0  3 token behind_2 behind_7 value _ _ _ hP hD hS (lv_sub hl [0] rfl) hw
      · replace hw := hw.2 c_9
        refine lv_aload_n hx hb dX2_advance_138 rfl (lv_at hl 0 rfl) ?_
        refine lv_iconst (v := 0) hx hb dX2_advance_139 (by decide) ?_
        refine mx_put (ci := 2) (C := RX2) (T := TX2) (N := 7) hx hb hown in_wsX20 tyX2 tyX2_ok nmX2 hts hK hP hD hS 0 rfl rfl 3 (by decide) q_228 rfl rfl rfl rfl (Nat.le_of_ble_eq_true rfl) (ww_X2_advance a_t a_t_bytes a_c cI cB cZ cP cC length 0 behind_2 behind_7 value bytes) rfl dX2_advance_140 (fun H locs hP hD hS => ?_)
        refine lv_goto (tgt := 179) hx hb dX2_advance_143 (by decide) ?_
        exact mx_vret (0, behind_2, behind_7, value) hx hb hr hlocks hw hK hP hD hS dX2_advance_179
    · replace hw := hw.2 c_8
      refine lv_aload_n hx hb dX2_advance_47 rfl (lv_at hl 0 rfl) ?_
      refine lv_aload_n hx hb dX2_advance_48 rfl (lv_at hl 0 rfl) ?_
      refine mx_get (ci := 2) (C := RX2) (T := TX2) (N := 7) hx hb hown in_wsX20 hts hK hP 0 rfl rfl 5 (by decide) q_227 rfl (v := .int behind_7) rfl dX2_advance_49 ?_
      refine lv_aload_n hx hb dX2_advance_52 rfl (lv_at hl 0 rfl) ?_
      refine mx_get (ci := 2) (C := RX2) (T := TX2) (N := 7) hx hb hown in_wsX20 hts hK hP 0 rfl rfl 4 (by decide) q_229 rfl (v := .int behind_2) rfl dX2_advance_53 ?_
      refine lv_isub hx hb dX2_advance_56 ?_
      refine lv_iconst (v := 2) hx hb dX2_advance_57 (by decide) ?_
      refine lv_icmp_gt (tgt := 65) hx hb dX2_advance_58 (by decide) (fun c_13 => ?_) (fun c_13 => ?_)
      · replace hw := hw.1 c_13
        refine lv_iconst (v := 4) hx hb dX2_advance_65 (by decide) ?_
        exact k_X2_advance_J66 C0  4 token behind_2 behind_7 value _ _ _ hP hD hS (lv_sub hl [0] rfl) hw
      · replace hw := hw.2 c_13
        refine lv_iconst (v := 2) hx hb dX2_advance_61 (by decide) ?_
        refine lv_goto (tgt := 66) hx hb dX2_advance_62 (by decide) ?_
        exact k_X2_advance_J66 C0  2 token behind_2 behind_7 value _ _ _ hP hD hS (lv_sub hl [0] rfl) hw
  · replace hw := hw.2 c_5
    refine lv_aload_n hx hb dX2_advance_28 rfl (lv_at hl 0 rfl) ?_
    refine lv_iconst (v := 1) hx hb dX2_advance_29 (by decide) ?_
    refine mx_put (ci := 2) (C := RX2) (T := TX2) (N := 7) hx hb hown in_wsX20 tyX2 tyX2_ok nmX2 hts hK hP hD hS 0 rfl rfl 3 (by decide) q_228 rfl rfl rfl rfl (Nat.le_of_ble_eq_true rfl) (ww_X2_advance a_t a_t_bytes a_c cI cB cZ cP cC length 1 behind_2 behind_4 value bytes) rfl dX2_advance_30 (fun H locs hP hD hS => ?_)
    refine lv_goto (tgt := 179) hx hb dX2_advance_33 (by decide) ?_
    exact mx_vret (1, behind_2, behind_4, value) hx hb hr hlocks hw hK hP hD hS dX2_advance_179
/-! PramState$CourtText.number(I)I -/
abbrev ww_X2_number (a_t a_t_bytes a_c : Nat) (cI cB cZ cP cC : ClassId) (length : Int32) (token : Int32) (start : Int32) (behind : Int32) (value : Int32) (bytes : Nat → Int32) : va_W := [(a_t, .inr (2, [.ref a_c, .int length, .ref a_t_bytes, .int token, .int start, .int behind, .int value])), (a_t_bytes, .inl (cB, 150, .inl bytes))]
abbrev qq_X2_number (D : va_G) (a_t a_t_bytes a_c : Nat) (cI cB cZ cP cC : ClassId) (length : Int32) (bytes : Nat → Int32) (Post : Int32 → Int32 → Int32 → Int32 → Int32 → Prop) (A : Nat → Prop) : Array Value → State → Outcome → State → Prop := va_Qi (fun (r : Int32) (u : Int32 × Int32 × Int32 × Int32) => Post r u.1 u.2.1 u.2.2.1 u.2.2.2) (fun (u : Int32 × Int32 × Int32 × Int32) t => mxB D (mxTy cI cB cZ cP cC) A (ww_X2_number a_t a_t_bytes a_c cI cB cZ cP cC length (u.1) (u.2.1) (u.2.2.1) (u.2.2.2) bytes) t) A
abbrev rm_X2_number : Room := { frames := 2, cells := 0, slots := 0, locals := 43 }
theorem hd_X2_number : yX2_number.cls = RX2 ∧ yX2_number.cls ≠ "java/lang/invoke/MethodHandle" ∧ yX2_number.cls ≠ "java/lang/invoke/VarHandle" ∧ (parseMethodDescriptor yX2_number.desc).map (fun d => d.parameters.length) = some 1 := by decide +kernel
def wp_X2_number (length : Int32) (bytes : Nat → Int32) (token : Int32) (start : Int32) (behind : Int32) (value : Int32) (v1 : Int32) (Post : Int32 → Int32 → Int32 → Int32 → Int32 → Prop) : Prop :=
  ((token = 2 → ((value ≤ v1 → (wp_X2_advance length bytes token start behind value (fun token_3 start_4 behind_5 value_6 => Post value token_3 start_4 behind_5 value_6))) ∧ (¬ value ≤ v1 → Post (-1) token start behind value))) ∧ (¬ token = 2 → Post (-1) token start behind value))
set_option maxHeartbeats 4000000 in
set_option maxRecDepth 100000 in
theorem c_X2_number (l : Launch) (D : va_G) (cI cB cZ cP cC : ClassId) (a_t a_t_bytes a_c : Nat) (length : Int32) (token : Int32) (start : Int32) (behind : Int32) (value : Int32) (bytes : Nat → Int32) (v1 : Int32) (sz : Nat) (Post : Int32 → Int32 → Int32 → Int32 → Int32 → Prop) (hw : wp_X2_number length bytes token start behind value v1 Post) :
    Met l yX2_number (Cond.code yX2_number cX2_number 3 (some .int) :: wsAll) rm_X2_number (va_Pc [.ref a_t, .int v1] (mxP D (mxTy cI cB cZ cP cC) sz (ww_X2_number a_t a_t_bytes a_c cI cB cZ cP cC length token start behind value bytes))) (qq_X2_number D a_t a_t_bytes a_c cI cB cZ cP cC length bytes Post (va_A (ww_X2_number a_t a_t_bytes a_c cI cB cZ cP cC length token start behind value bytes) sz)) 0 0 (va_A (ww_X2_number a_t a_t_bytes a_c cI cB cZ cP cC length token start behind value bytes) sz) := by
  refine mx_of (Qc := qq_X2_number D a_t a_t_bytes a_c cI cB cZ cP cC length bytes Post) (by decide) (Nat.le_of_ble_eq_true rfl) ?_
  intro p e s m bl meth c A ls C0 hP hD hS hl
  replace C0 : mxC p s m [.ref a_t, .int v1].toArray meth c cX2_number RX2 (some .int) 3 D (mxTy cI cB cZ cP cC) A := C0
  obtain ⟨hx, hb, hr, hlocks, hml, hown, hts, hK, hA⟩ := id C0
  replace hl : lv_has ls 3 [(0, .ref a_t), (1, .int v1)] := hl
  unfold wp_X2_number at hw
  refine lv_aload_n hx hb dX2_number_0 rfl (lv_at hl 0 rfl) ?_
  refine mx_get (ci := 2) (C := RX2) (T := TX2) (N := 7) hx hb hown in_wsX20 hts hK hP 0 rfl rfl 3 (by decide) q_228 rfl (v := .int token) rfl dX2_number_1 ?_
  refine lv_iconst (v := 2) hx hb dX2_number_4 (by decide) ?_
  refine lv_icmp_ne (tgt := 16) hx hb dX2_number_5 (by decide) (fun c_1 => ?_) (fun c_1 => ?_)
  · replace hw := hw.2 c_1
    refine lv_iconst (v := (-1)) hx hb dX2_number_16 (by decide) ?_
    exact mx_iret (token, start, behind, value) hx hb hr hlocks rfl hw hK hP hD hS dX2_number_17
  · replace hw := hw.1 c_1
    refine lv_aload_n hx hb dX2_number_8 rfl (lv_at hl 0 rfl) ?_
    refine mx_get (ci := 2) (C := RX2) (T := TX2) (N := 7) hx hb hown in_wsX20 hts hK hP 0 rfl rfl 6 (by decide) q_235 rfl (v := .int value) rfl dX2_number_9 ?_
    refine lv_iload_n hx hb dX2_number_12 rfl (lv_at hl 1 rfl) ?_
    refine lv_icmp_le (tgt := 18) hx hb dX2_number_13 (by decide) (fun c_2 => ?_) (fun c_2 => ?_)
    · replace hw := hw.1 c_2
      refine lv_aload_n hx hb dX2_number_18 rfl (lv_at hl 0 rfl) ?_
      refine mx_get (ci := 2) (C := RX2) (T := TX2) (N := 7) hx hb hown in_wsX20 hts hK hP 0 rfl rfl 6 (by decide) q_235 rfl (v := .int value) rfl dX2_number_19 ?_
      refine lv_istore_n (lv' := [(2, .int value), (0, .ref a_t), (1, .int v1)]) hx hb dX2_number_22 rfl hl (by decide) rfl (fun ls hl => ?_)
      refine lv_aload_n hx hb dX2_number_23 rfl (lv_at hl 1 rfl) ?_
      refine mx_kv (mx_rV (rm := rm_X2_advance) (rest := []) (C := RX2) hx hb hml hown hts (c_X2_advance l D cI cB cZ cP cC a_t a_t_bytes a_c length token start behind value bytes _ _ hw) q_231 q_232 q_233 q_39 q_234 hd_X2_advance ⟨(Nat.le_of_ble_eq_true rfl), (Nat.le_of_ble_eq_true rfl)⟩ rfl rfl hK hP hD [0, 1] rfl rfl 2 0 rfl rfl rfl rfl hl.1 rfl (Nat.le_of_ble_eq_true rfl) dX2_number_24 ⟨(Nat.le_of_ble_eq_true rfl), (Nat.le_of_ble_eq_true rfl)⟩) hP hD hS hA [0, 1] [] [0, 1] (fun u => ww_X2_number a_t a_t_bytes a_c cI cB cZ cP cC length (u.1) (u.2.1) (u.2.2.1) (u.2.2.2) bytes) rfl rfl rfl (by decide) rfl (fun _ => rfl) (fun u H locs hw hP hD hS => ?_)
      obtain ⟨token_3, start_4, behind_5, value_6⟩ := u
      try dsimp only at hw
      replace hP : va_P D vwCl (ww_X2_number a_t a_t_bytes a_c cI cB cZ cP cC length token_3 start_4 behind_5 value_6 bytes) H := hP
      replace hD : va_D A (ww_X2_number a_t a_t_bytes a_c cI cB cZ cP cC length token_3 start_4 behind_5 value_6 bytes) := hD
      refine lv_iload_n hx hb dX2_number_27 rfl (lv_at hl 0 rfl) ?_
      exact mx_iret (token_3, start_4, behind_5, value_6) hx hb hr hlocks rfl hw hK hP hD hS dX2_number_28
    · replace hw := hw.2 c_2
      refine lv_iconst (v := (-1)) hx hb dX2_number_16 (by decide) ?_
      exact mx_iret (token, start, behind, value) hx hb hr hlocks rfl hw hK hP hD hS dX2_number_17
/-! PramState$CourtText.endItem()Z -/
abbrev ww_X2_endItem (a_t a_t_bytes a_c : Nat) (cI cB cZ cP cC : ClassId) (length : Int32) (token : Int32) (start : Int32) (behind : Int32) (value : Int32) (bytes : Nat → Int32) : va_W := [(a_t, .inr (2, [.ref a_c, .int length, .ref a_t_bytes, .int token, .int start, .int behind, .int value])), (a_t_bytes, .inl (cB, 150, .inl bytes))]
abbrev qq_X2_endItem (D : va_G) (a_t a_t_bytes a_c : Nat) (cI cB cZ cP cC : ClassId) (length : Int32) (bytes : Nat → Int32) (Post : Int32 → Int32 → Int32 → Int32 → Int32 → Prop) (A : Nat → Prop) : Array Value → State → Outcome → State → Prop := va_Qi (fun (r : Int32) (u : Int32 × Int32 × Int32 × Int32) => Post r u.1 u.2.1 u.2.2.1 u.2.2.2) (fun (u : Int32 × Int32 × Int32 × Int32) t => mxB D (mxTy cI cB cZ cP cC) A (ww_X2_endItem a_t a_t_bytes a_c cI cB cZ cP cC length (u.1) (u.2.1) (u.2.2.1) (u.2.2.2) bytes) t) A
abbrev rm_X2_endItem : Room := { frames := 2, cells := 0, slots := 0, locals := 43 }
theorem hd_X2_endItem : yX2_endItem.cls = RX2 ∧ yX2_endItem.cls ≠ "java/lang/invoke/MethodHandle" ∧ yX2_endItem.cls ≠ "java/lang/invoke/VarHandle" ∧ (parseMethodDescriptor yX2_endItem.desc).map (fun d => d.parameters.length) = some 0 := by decide +kernel
def wp_X2_endItem (length : Int32) (bytes : Nat → Int32) (token : Int32) (start : Int32) (behind : Int32) (value : Int32) (Post : Int32 → Int32 → Int32 → Int32 → Int32 → Prop) : Prop :=
  ((token = 3 → (wp_X2_advance length bytes token start behind value (fun token_2 start_3 behind_4 value_5 => Post 1 token_2 start_3 behind_4 value_5))) ∧ (¬ token = 3 → Post 0 token start behind value))
set_option maxHeartbeats 4000000 in
set_option maxRecDepth 100000 in
theorem c_X2_endItem (l : Launch) (D : va_G) (cI cB cZ cP cC : ClassId) (a_t a_t_bytes a_c : Nat) (length : Int32) (token : Int32) (start : Int32) (behind : Int32) (value : Int32) (bytes : Nat → Int32)  (sz : Nat) (Post : Int32 → Int32 → Int32 → Int32 → Int32 → Prop) (hw : wp_X2_endItem length bytes token start behind value Post) :
    Met l yX2_endItem (Cond.code yX2_endItem cX2_endItem 1 (some .boolean) :: wsAll) rm_X2_endItem (va_Pc [.ref a_t] (mxP D (mxTy cI cB cZ cP cC) sz (ww_X2_endItem a_t a_t_bytes a_c cI cB cZ cP cC length token start behind value bytes))) (qq_X2_endItem D a_t a_t_bytes a_c cI cB cZ cP cC length bytes Post (va_A (ww_X2_endItem a_t a_t_bytes a_c cI cB cZ cP cC length token start behind value bytes) sz)) 0 0 (va_A (ww_X2_endItem a_t a_t_bytes a_c cI cB cZ cP cC length token start behind value bytes) sz) := by
  refine mx_of (Qc := qq_X2_endItem D a_t a_t_bytes a_c cI cB cZ cP cC length bytes Post) (by decide) (Nat.le_of_ble_eq_true rfl) ?_
  intro p e s m bl meth c A ls C0 hP hD hS hl
  replace C0 : mxC p s m [.ref a_t].toArray meth c cX2_endItem RX2 (some .boolean) 1 D (mxTy cI cB cZ cP cC) A := C0
  obtain ⟨hx, hb, hr, hlocks, hml, hown, hts, hK, hA⟩ := id C0
  replace hl : lv_has ls 1 [(0, .ref a_t)] := hl
  unfold wp_X2_endItem at hw
  refine lv_aload_n hx hb dX2_endItem_0 rfl (lv_at hl 0 rfl) ?_
  refine mx_get (ci := 2) (C := RX2) (T := TX2) (N := 7) hx hb hown in_wsX20 hts hK hP 0 rfl rfl 3 (by decide) q_228 rfl (v := .int token) rfl dX2_endItem_1 ?_
  refine lv_iconst (v := 3) hx hb dX2_endItem_4 (by decide) ?_
  refine lv_icmp_eq (tgt := 10) hx hb dX2_endItem_5 (by decide) (fun c_1 => ?_) (fun c_1 => ?_)
  · replace hw := hw.1 c_1
    refine lv_aload_n hx hb dX2_endItem_10 rfl (lv_at hl 0 rfl) ?_
    refine mx_kv (mx_rV (rm := rm_X2_advance) (rest := []) (C := RX2) hx hb hml hown hts (c_X2_advance l D cI cB cZ cP cC a_t a_t_bytes a_c length token start behind value bytes _ _ hw) q_231 q_232 q_233 q_39 q_234 hd_X2_advance ⟨(Nat.le_of_ble_eq_true rfl), (Nat.le_of_ble_eq_true rfl)⟩ rfl rfl hK hP hD [0, 1] rfl rfl 2 0 rfl rfl rfl rfl hl.1 rfl (Nat.le_of_ble_eq_true rfl) dX2_endItem_11 ⟨(Nat.le_of_ble_eq_true rfl), (Nat.le_of_ble_eq_true rfl)⟩) hP hD hS hA [0, 1] [] [0, 1] (fun u => ww_X2_endItem a_t a_t_bytes a_c cI cB cZ cP cC length (u.1) (u.2.1) (u.2.2.1) (u.2.2.2) bytes) rfl rfl rfl (by decide) rfl (fun _ => rfl) (fun u H locs hw hP hD hS => ?_)
    obtain ⟨token_2, start_3, behind_4, value_5⟩ := u
    try dsimp only at hw
    replace hP : va_P D vwCl (ww_X2_endItem a_t a_t_bytes a_c cI cB cZ cP cC length token_2 start_3 behind_4 value_5 bytes) H := hP
    replace hD : va_D A (ww_X2_endItem a_t a_t_bytes a_c cI cB cZ cP cC length token_2 start_3 behind_4 value_5 bytes) := hD
    refine lv_iconst (v := 1) hx hb dX2_endItem_14 (by decide) ?_
    exact mx_iret (token_2, start_3, behind_4, value_5) hx hb hr hlocks rfl hw hK hP hD hS dX2_endItem_15
  · replace hw := hw.2 c_1
    refine lv_iconst (v := 0) hx hb dX2_endItem_8 (by decide) ?_
    exact mx_iret (token, start, behind, value) hx hb hr hlocks rfl hw hK hP hD hS dX2_endItem_9
/-! PramState$CourtText.readInfant()Z -/
abbrev ww_X2_readInfant (a_t a_t_bytes a_c a_c_kind a_c_months a_c_home a_c_nurse a_c_skills a_c_noteRow a_c_soundRow a_c_pastRow a_K : Nat) (cI cB cZ cP cC : ClassId) (length : Int32) (token : Int32) (start : Int32) (behind : Int32) (value : Int32) (bytes : Nat → Int32) (infants : Int32) (retired : Int32) (month : Int32) (notes : Int32) (sounds : Int32) (pasts : Int32) (kind : Nat → Int32) (months : Nat → Int32) (home : Nat → Int32) (nurse : Nat → Int32) : va_W := [(a_t, .inr (2, [.ref a_c, .int length, .ref a_t_bytes, .int token, .int start, .int behind, .int value])), (a_t_bytes, .inl (cB, 150, .inl bytes)), (a_c, .inr (1, [.ref a_K, .ref a_c_kind, .ref a_c_months, .ref a_c_home, .ref a_c_nurse, .ref a_c_skills, .ref a_c_noteRow, .ref a_c_soundRow, .ref a_c_pastRow, .int infants, .int retired, .int month, .int notes, .int sounds, .int pasts])), (a_c_kind, .inl (cI, 6, .inl kind)), (a_c_months, .inl (cI, 6, .inl months)), (a_c_home, .inl (cI, 6, .inl home)), (a_c_nurse, .inl (cI, 6, .inl nurse))]
abbrev qq_X2_readInfant (D : va_G) (a_t a_t_bytes a_c a_c_kind a_c_months a_c_home a_c_nurse a_c_skills a_c_noteRow a_c_soundRow a_c_pastRow a_K : Nat) (cI cB cZ cP cC : ClassId) (length : Int32) (bytes : Nat → Int32) (retired : Int32) (month : Int32) (notes : Int32) (sounds : Int32) (Post : Int32 → Int32 → Int32 → Int32 → Int32 → Int32 → Int32 → (Nat → Int32) → (Nat → Int32) → (Nat → Int32) → (Nat → Int32) → Prop) (A : Nat → Prop) : Array Value → State → Outcome → State → Prop := va_Qi (fun (r : Int32) (u : Int32 × Int32 × Int32 × Int32 × Int32 × Int32 × (Nat → Int32) × (Nat → Int32) × (Nat → Int32) × (Nat → Int32)) => Post r u.1 u.2.1 u.2.2.1 u.2.2.2.1 u.2.2.2.2.1 u.2.2.2.2.2.1 u.2.2.2.2.2.2.1 u.2.2.2.2.2.2.2.1 u.2.2.2.2.2.2.2.2.1 u.2.2.2.2.2.2.2.2.2) (fun (u : Int32 × Int32 × Int32 × Int32 × Int32 × Int32 × (Nat → Int32) × (Nat → Int32) × (Nat → Int32) × (Nat → Int32)) t => mxB D (mxTy cI cB cZ cP cC) A (ww_X2_readInfant a_t a_t_bytes a_c a_c_kind a_c_months a_c_home a_c_nurse a_c_skills a_c_noteRow a_c_soundRow a_c_pastRow a_K cI cB cZ cP cC length (u.1) (u.2.1) (u.2.2.1) (u.2.2.2.1) bytes (u.2.2.2.2.1) retired month notes sounds (u.2.2.2.2.2.1) (u.2.2.2.2.2.2.1) (u.2.2.2.2.2.2.2.1) (u.2.2.2.2.2.2.2.2.1) (u.2.2.2.2.2.2.2.2.2)) t) A
abbrev rm_X2_readInfant : Room := { frames := 3, cells := 0, slots := 0, locals := 65 }
theorem hd_X2_readInfant : yX2_readInfant.cls = RX2 ∧ yX2_readInfant.cls ≠ "java/lang/invoke/MethodHandle" ∧ yX2_readInfant.cls ≠ "java/lang/invoke/VarHandle" ∧ (parseMethodDescriptor yX2_readInfant.desc).map (fun d => d.parameters.length) = some 0 := by decide +kernel
def wp_X2_readInfant (length : Int32) (bytes : Nat → Int32) (token : Int32) (start : Int32) (behind : Int32) (value : Int32) (infants : Int32) (pasts : Int32) (kind : Nat → Int32) (months : Nat → Int32) (home : Nat → Int32) (nurse : Nat → Int32) (Post : Int32 → Int32 → Int32 → Int32 → Int32 → Int32 → Int32 → (Nat → Int32) → (Nat → Int32) → (Nat → Int32) → (Nat → Int32) → Prop) : Prop :=
  ((infants < 6 → (wp_X2_advance length bytes token start behind value (fun token_2 start_3 behind_4 value_5 => (wp_X2_number length bytes token_2 start_3 behind_4 value_5 5 (fun r_6 token_7 start_8 behind_9 value_10 => ((r_6 = (-1) → Post 0 token_7 start_8 behind_9 value_10 infants pasts kind months home nurse) ∧ (¬ r_6 = (-1) → (wp_X2_number length bytes token_7 start_8 behind_9 value_10 35 (fun r_12 token_13 start_14 behind_15 value_16 => ((r_12 = (-1) → Post 0 token_13 start_14 behind_15 value_16 infants pasts kind months home nurse) ∧ (¬ r_12 = (-1) → (wp_X2_number length bytes token_13 start_14 behind_15 value_16 5 (fun r_18 token_19 start_20 behind_21 value_22 => ((r_18 = (-1) → Post 0 token_19 start_20 behind_21 value_22 infants pasts kind months home nurse) ∧ (¬ r_18 = (-1) → (wp_X1_add infants pasts kind months home nurse r_6 r_12 r_18 (fun infants_24 pasts_25 kind_26 months_27 home_28 nurse_29 => (wp_X2_endItem length bytes token_19 start_20 behind_21 value_22 (fun r_30 token_31 start_32 behind_33 value_34 => ((r_30 = 0 ∨ r_30 = 1) ∧ Post r_30 token_31 start_32 behind_33 value_34 infants_24 pasts_25 kind_26 months_27 home_28 nurse_29)))))))))))))))))))) ∧ (¬ infants < 6 → Post 0 token start behind value infants pasts kind months home nurse))
set_option maxHeartbeats 4000000 in
set_option maxRecDepth 100000 in
theorem c_X2_readInfant (l : Launch) (D : va_G) (cI cB cZ cP cC : ClassId) (a_t a_t_bytes a_c a_c_kind a_c_months a_c_home a_c_nurse a_c_skills a_c_noteRow a_c_soundRow a_c_pastRow a_K : Nat) (length : Int32) (token : Int32) (start : Int32) (behind : Int32) (value : Int32) (bytes : Nat → Int32) (infants : Int32) (retired : Int32) (month : Int32) (notes : Int32) (sounds : Int32) (pasts : Int32) (kind : Nat → Int32) (months : Nat → Int32) (home : Nat → Int32) (nurse : Nat → Int32)  (sz : Nat) (Post : Int32 → Int32 → Int32 → Int32 → Int32 → Int32 → Int32 → (Nat → Int32) → (Nat → Int32) → (Nat → Int32) → (Nat → Int32) → Prop) (hw : wp_X2_readInfant length bytes token start behind value infants pasts kind months home nurse Post) :
    Met l yX2_readInfant (Cond.code yX2_readInfant cX2_readInfant 4 (some .boolean) :: wsAll) rm_X2_readInfant (va_Pc [.ref a_t] (mxP D (mxTy cI cB cZ cP cC) sz (ww_X2_readInfant a_t a_t_bytes a_c a_c_kind a_c_months a_c_home a_c_nurse a_c_skills a_c_noteRow a_c_soundRow a_c_pastRow a_K cI cB cZ cP cC length token start behind value bytes infants retired month notes sounds pasts kind months home nurse))) (qq_X2_readInfant D a_t a_t_bytes a_c a_c_kind a_c_months a_c_home a_c_nurse a_c_skills a_c_noteRow a_c_soundRow a_c_pastRow a_K cI cB cZ cP cC length bytes retired month notes sounds Post (va_A (ww_X2_readInfant a_t a_t_bytes a_c a_c_kind a_c_months a_c_home a_c_nurse a_c_skills a_c_noteRow a_c_soundRow a_c_pastRow a_K cI cB cZ cP cC length token start behind value bytes infants retired month notes sounds pasts kind months home nurse) sz)) 0 0 (va_A (ww_X2_readInfant a_t a_t_bytes a_c a_c_kind a_c_months a_c_home a_c_nurse a_c_skills a_c_noteRow a_c_soundRow a_c_pastRow a_K cI cB cZ cP cC length token start behind value bytes infants retired month notes sounds pasts kind months home nurse) sz) := by
  refine mx_of (Qc := qq_X2_readInfant D a_t a_t_bytes a_c a_c_kind a_c_months a_c_home a_c_nurse a_c_skills a_c_noteRow a_c_soundRow a_c_pastRow a_K cI cB cZ cP cC length bytes retired month notes sounds Post) (by decide) (Nat.le_of_ble_eq_true rfl) ?_
  intro p e s m bl meth c A ls C0 hP hD hS hl
  replace C0 : mxC p s m [.ref a_t].toArray meth c cX2_readInfant RX2 (some .boolean) 4 D (mxTy cI cB cZ cP cC) A := C0
  obtain ⟨hx, hb, hr, hlocks, hml, hown, hts, hK, hA⟩ := id C0
  replace hl : lv_has ls 4 [(0, .ref a_t)] := hl
  unfold wp_X2_readInfant at hw
  refine lv_aload_n hx hb dX2_readInfant_0 rfl (lv_at hl 0 rfl) ?_
  refine mx_get (ci := 2) (C := RX2) (T := TX2) (N := 7) hx hb hown in_wsX20 hts hK hP 0 rfl rfl 0 (by decide) q_80 rfl (v := .ref a_c) rfl dX2_readInfant_1 ?_
  refine mx_get (ci := 1) (C := RX1) (T := TX1) (N := 15) hx hb hown in_wsX10 hts hK hP 2 rfl rfl 9 (by decide) q_309 rfl (v := .int infants) rfl dX2_readInfant_4 ?_
  refine lv_bipush (v := 6) hx hb dX2_readInfant_7 (by decide) ?_
  refine lv_icmp_lt (tgt := 14) hx hb dX2_readInfant_9 (by decide) (fun c_1 => ?_) (fun c_1 => ?_)
  · replace hw := hw.1 c_1
    refine lv_aload_n hx hb dX2_readInfant_14 rfl (lv_at hl 0 rfl) ?_
    refine mx_kv (mx_rV (rm := rm_X2_advance) (rest := []) (C := RX2) hx hb hml hown hts (c_X2_advance l D cI cB cZ cP cC a_t a_t_bytes a_c length token start behind value bytes _ _ hw) q_231 q_232 q_233 q_39 q_234 hd_X2_advance ⟨(Nat.le_of_ble_eq_true rfl), (Nat.le_of_ble_eq_true rfl)⟩ rfl rfl hK hP hD [0, 1] rfl rfl 2 0 rfl rfl rfl rfl hl.1 rfl (Nat.le_of_ble_eq_true rfl) dX2_readInfant_15 ⟨(Nat.le_of_ble_eq_true rfl), (Nat.le_of_ble_eq_true rfl)⟩) hP hD hS hA [0, 1] [2, 3, 4, 5, 6] [5, 6, 0, 1, 2, 3, 4] (fun u => ww_X2_readInfant a_t a_t_bytes a_c a_c_kind a_c_months a_c_home a_c_nurse a_c_skills a_c_noteRow a_c_soundRow a_c_pastRow a_K cI cB cZ cP cC length (u.1) (u.2.1) (u.2.2.1) (u.2.2.2) bytes infants retired month notes sounds pasts kind months home nurse) rfl rfl rfl (by decide) rfl (fun _ => rfl) (fun u H locs hw hP hD hS => ?_)
    obtain ⟨token_2, start_3, behind_4, value_5⟩ := u
    try dsimp only at hw
    replace hP : va_P D vwCl (ww_X2_readInfant a_t a_t_bytes a_c a_c_kind a_c_months a_c_home a_c_nurse a_c_skills a_c_noteRow a_c_soundRow a_c_pastRow a_K cI cB cZ cP cC length token_2 start_3 behind_4 value_5 bytes infants retired month notes sounds pasts kind months home nurse) H := hP
    replace hD : va_D A (ww_X2_readInfant a_t a_t_bytes a_c a_c_kind a_c_months a_c_home a_c_nurse a_c_skills a_c_noteRow a_c_soundRow a_c_pastRow a_K cI cB cZ cP cC length token_2 start_3 behind_4 value_5 bytes infants retired month notes sounds pasts kind months home nurse) := hD
    refine lv_aload_n hx hb dX2_readInfant_18 rfl (lv_at hl 0 rfl) ?_
    refine lv_iconst (v := 5) hx hb dX2_readInfant_19 (by decide) ?_
    refine mx_ki (mx_rV (rm := rm_X2_number) (rest := []) (C := RX2) hx hb hml hown hts (c_X2_number l D cI cB cZ cP cC a_t a_t_bytes a_c length token_2 start_3 behind_4 value_5 bytes 5 _ _ hw) q_310 q_311 q_312 q_39 q_313 hd_X2_number ⟨(Nat.le_of_ble_eq_true rfl), (Nat.le_of_ble_eq_true rfl)⟩ rfl rfl hK hP hD [0, 1] rfl rfl 2 0 rfl rfl rfl rfl hl.1 rfl (Nat.le_of_ble_eq_true rfl) dX2_readInfant_20 ⟨(Nat.le_of_ble_eq_true rfl), (Nat.le_of_ble_eq_true rfl)⟩) hP hD hS hA [0, 1] [2, 3, 4, 5, 6] [5, 6, 0, 1, 2, 3, 4] (fun u => ww_X2_readInfant a_t a_t_bytes a_c a_c_kind a_c_months a_c_home a_c_nurse a_c_skills a_c_noteRow a_c_soundRow a_c_pastRow a_K cI cB cZ cP cC length (u.1) (u.2.1) (u.2.2.1) (u.2.2.2) bytes infants retired month notes sounds pasts kind months home nurse) rfl rfl rfl (by decide) rfl (fun _ => rfl) (fun r_6 u H locs hw hP hD hS => ?_)
    obtain ⟨token_7, start_8, behind_9, value_10⟩ := u
    try dsimp only at hw
    replace hP : va_P D vwCl (ww_X2_readInfant a_t a_t_bytes a_c a_c_kind a_c_months a_c_home a_c_nurse a_c_skills a_c_noteRow a_c_soundRow a_c_pastRow a_K cI cB cZ cP cC length token_7 start_8 behind_9 value_10 bytes infants retired month notes sounds pasts kind months home nurse) H := hP
    replace hD : va_D A (ww_X2_readInfant a_t a_t_bytes a_c a_c_kind a_c_months a_c_home a_c_nurse a_c_skills a_c_noteRow a_c_soundRow a_c_pastRow a_K cI cB cZ cP cC length token_7 start_8 behind_9 value_10 bytes infants retired month notes sounds pasts kind months home nurse) := hD
    refine lv_istore_n (lv' := [(1, .int r_6), (0, .ref a_t)]) hx hb dX2_readInfant_23 rfl hl (by decide) rfl (fun ls hl => ?_)
    refine lv_iload_n hx hb dX2_readInfant_24 rfl (lv_at hl 0 rfl) ?_
    refine lv_iconst (v := (-1)) hx hb dX2_readInfant_25 (by decide) ?_
    refine lv_icmp_ne (tgt := 31) hx hb dX2_readInfant_26 (by decide) (fun c_11 => ?_) (fun c_11 => ?_)
    · replace hw := hw.2 c_11
      refine lv_aload_n hx hb dX2_readInfant_31 rfl (lv_at hl 1 rfl) ?_
      refine lv_bipush (v := 35) hx hb dX2_readInfant_32 (by decide) ?_
      refine mx_ki (mx_rV (rm := rm_X2_number) (rest := []) (C := RX2) hx hb hml hown hts (c_X2_number l D cI cB cZ cP cC a_t a_t_bytes a_c length token_7 start_8 behind_9 value_10 bytes 35 _ _ hw) q_310 q_311 q_312 q_39 q_313 hd_X2_number ⟨(Nat.le_of_ble_eq_true rfl), (Nat.le_of_ble_eq_true rfl)⟩ rfl rfl hK hP hD [0, 1] rfl rfl 2 0 rfl rfl rfl rfl hl.1 rfl (Nat.le_of_ble_eq_true rfl) dX2_readInfant_34 ⟨(Nat.le_of_ble_eq_true rfl), (Nat.le_of_ble_eq_true rfl)⟩) hP hD hS hA [0, 1] [2, 3, 4, 5, 6] [5, 6, 0, 1, 2, 3, 4] (fun u => ww_X2_readInfant a_t a_t_bytes a_c a_c_kind a_c_months a_c_home a_c_nurse a_c_skills a_c_noteRow a_c_soundRow a_c_pastRow a_K cI cB cZ cP cC length (u.1) (u.2.1) (u.2.2.1) (u.2.2.2) bytes infants retired month notes sounds pasts kind months home nurse) rfl rfl rfl (by decide) rfl (fun _ => rfl) (fun r_12 u H locs hw hP hD hS => ?_)
      obtain ⟨token_13, start_14, behind_15, value_16⟩ := u
      try dsimp only at hw
      replace hP : va_P D vwCl (ww_X2_readInfant a_t a_t_bytes a_c a_c_kind a_c_months a_c_home a_c_nurse a_c_skills a_c_noteRow a_c_soundRow a_c_pastRow a_K cI cB cZ cP cC length token_13 start_14 behind_15 value_16 bytes infants retired month notes sounds pasts kind months home nurse) H := hP
      replace hD : va_D A (ww_X2_readInfant a_t a_t_bytes a_c a_c_kind a_c_months a_c_home a_c_nurse a_c_skills a_c_noteRow a_c_soundRow a_c_pastRow a_K cI cB cZ cP cC length token_13 start_14 behind_15 value_16 bytes infants retired month notes sounds pasts kind months home nurse) := hD
      refine lv_istore_n (lv' := [(2, .int r_12), (1, .int r_6), (0, .ref a_t)]) hx hb dX2_readInfant_37 rfl hl (by decide) rfl (fun ls hl => ?_)
      refine lv_iload_n hx hb dX2_readInfant_38 rfl (lv_at hl 0 rfl) ?_
      refine lv_iconst (v := (-1)) hx hb dX2_readInfant_39 (by decide) ?_
      refine lv_icmp_ne (tgt := 45) hx hb dX2_readInfant_40 (by decide) (fun c_17 => ?_) (fun c_17 => ?_)
      · replace hw := hw.2 c_17
        refine lv_aload_n hx hb dX2_readInfant_45 rfl (lv_at hl 2 rfl) ?_
        refine lv_iconst (v := 5) hx hb dX2_readInfant_46 (by decide) ?_
        refine mx_ki (mx_rV (rm := rm_X2_number) (rest := []) (C := RX2) hx hb hml hown hts (c_X2_number l D cI cB cZ cP cC a_t a_t_bytes a_c length token_13 start_14 behind_15 value_16 bytes 5 _ _ hw) q_310 q_311 q_312 q_39 q_313 hd_X2_number ⟨(Nat.le_of_ble_eq_true rfl), (Nat.le_of_ble_eq_true rfl)⟩ rfl rfl hK hP hD [0, 1] rfl rfl 2 0 rfl rfl rfl rfl hl.1 rfl (Nat.le_of_ble_eq_true rfl) dX2_readInfant_47 ⟨(Nat.le_of_ble_eq_true rfl), (Nat.le_of_ble_eq_true rfl)⟩) hP hD hS hA [0, 1] [2, 3, 4, 5, 6] [5, 6, 0, 1, 2, 3, 4] (fun u => ww_X2_readInfant a_t a_t_bytes a_c a_c_kind a_c_months a_c_home a_c_nurse a_c_skills a_c_noteRow a_c_soundRow a_c_pastRow a_K cI cB cZ cP cC length (u.1) (u.2.1) (u.2.2.1) (u.2.2.2) bytes infants retired month notes sounds pasts kind months home nurse) rfl rfl rfl (by decide) rfl (fun _ => rfl) (fun r_18 u H locs hw hP hD hS => ?_)
        obtain ⟨token_19, start_20, behind_21, value_22⟩ := u
        try dsimp only at hw
        replace hP : va_P D vwCl (ww_X2_readInfant a_t a_t_bytes a_c a_c_kind a_c_months a_c_home a_c_nurse a_c_skills a_c_noteRow a_c_soundRow a_c_pastRow a_K cI cB cZ cP cC length token_19 start_20 behind_21 value_22 bytes infants retired month notes sounds pasts kind months home nurse) H := hP
        replace hD : va_D A (ww_X2_readInfant a_t a_t_bytes a_c a_c_kind a_c_months a_c_home a_c_nurse a_c_skills a_c_noteRow a_c_soundRow a_c_pastRow a_K cI cB cZ cP cC length token_19 start_20 behind_21 value_22 bytes infants retired month notes sounds pasts kind months home nurse) := hD
        refine lv_istore_n (lv' := [(3, .int r_18), (2, .int r_12), (1, .int r_6), (0, .ref a_t)]) hx hb dX2_readInfant_50 rfl hl (by decide) rfl (fun ls hl => ?_)
        refine lv_iload_n hx hb dX2_readInfant_51 rfl (lv_at hl 0 rfl) ?_
        refine lv_iconst (v := (-1)) hx hb dX2_readInfant_52 (by decide) ?_
        refine lv_icmp_ne (tgt := 58) hx hb dX2_readInfant_53 (by decide) (fun c_23 => ?_) (fun c_23 => ?_)
        · replace hw := hw.2 c_23
          refine lv_aload_n hx hb dX2_readInfant_58 rfl (lv_at hl 3 rfl) ?_
          refine mx_get (ci := 2) (C := RX2) (T := TX2) (N := 7) hx hb hown in_wsX20 hts hK hP 0 rfl rfl 0 (by decide) q_80 rfl (v := .ref a_c) rfl dX2_readInfant_59 ?_
          refine lv_iload_n hx hb dX2_readInfant_62 rfl (lv_at hl 2 rfl) ?_
          refine lv_iload_n hx hb dX2_readInfant_63 rfl (lv_at hl 1 rfl) ?_
          refine lv_iload_n hx hb dX2_readInfant_64 rfl (lv_at hl 0 rfl) ?_
          refine mx_kv (mx_rV (rm := rm_X1_add) (rest := []) (C := RX1) hx hb hml hown hts (c_X1_add l D cI cB cZ cP cC a_c a_c_kind a_c_months a_c_home a_c_nurse a_c_skills a_c_noteRow a_c_soundRow a_c_pastRow a_K infants retired month notes sounds pasts kind months home nurse r_6 r_12 r_18 _ _ hw) q_314 q_154 q_155 q_32 q_156 hd_X1_add ⟨(Nat.le_of_ble_eq_true rfl), (Nat.le_of_ble_eq_true rfl)⟩ rfl rfl hK hP hD [2, 3, 4, 5, 6] rfl rfl 1 2 rfl rfl rfl rfl hl.1 rfl (Nat.le_of_ble_eq_true rfl) dX2_readInfant_65 ⟨(Nat.le_of_ble_eq_true rfl), (Nat.le_of_ble_eq_true rfl)⟩) hP hD hS hA [2, 3, 4, 5, 6] [0, 1] [0, 1, 2, 3, 4, 5, 6] (fun u => ww_X2_readInfant a_t a_t_bytes a_c a_c_kind a_c_months a_c_home a_c_nurse a_c_skills a_c_noteRow a_c_soundRow a_c_pastRow a_K cI cB cZ cP cC length token_19 start_20 behind_21 value_22 bytes (u.1) retired month notes sounds (u.2.1) (u.2.2.1) (u.2.2.2.1) (u.2.2.2.2.1) (u.2.2.2.2.2)) rfl rfl rfl (by decide) rfl (fun _ => rfl) (fun u H locs hw hP hD hS => ?_)
          obtain ⟨infants_24, pasts_25, kind_26, months_27, home_28, nurse_29⟩ := u
          try dsimp only at hw
          replace hP : va_P D vwCl (ww_X2_readInfant a_t a_t_bytes a_c a_c_kind a_c_months a_c_home a_c_nurse a_c_skills a_c_noteRow a_c_soundRow a_c_pastRow a_K cI cB cZ cP cC length token_19 start_20 behind_21 value_22 bytes infants_24 retired month notes sounds pasts_25 kind_26 months_27 home_28 nurse_29) H := hP
          replace hD : va_D A (ww_X2_readInfant a_t a_t_bytes a_c a_c_kind a_c_months a_c_home a_c_nurse a_c_skills a_c_noteRow a_c_soundRow a_c_pastRow a_K cI cB cZ cP cC length token_19 start_20 behind_21 value_22 bytes infants_24 retired month notes sounds pasts_25 kind_26 months_27 home_28 nurse_29) := hD
          refine lv_aload_n hx hb dX2_readInfant_68 rfl (lv_at hl 3 rfl) ?_
          refine mx_ki (mx_rV (rm := rm_X2_endItem) (rest := []) (C := RX2) hx hb hml hown hts (c_X2_endItem l D cI cB cZ cP cC a_t a_t_bytes a_c length token_19 start_20 behind_21 value_22 bytes _ _ hw) q_297 q_298 q_299 q_39 q_300 hd_X2_endItem ⟨(Nat.le_of_ble_eq_true rfl), (Nat.le_of_ble_eq_true rfl)⟩ rfl rfl hK hP hD [0, 1] rfl rfl 2 0 rfl rfl rfl rfl hl.1 rfl (Nat.le_of_ble_eq_true rfl) dX2_readInfant_69 ⟨(Nat.le_of_ble_eq_true rfl), (Nat.le_of_ble_eq_true rfl)⟩) hP hD hS hA [0, 1] [2, 3, 4, 5, 6] [5, 6, 0, 1, 2, 3, 4] (fun u => ww_X2_readInfant a_t a_t_bytes a_c a_c_kind a_c_months a_c_home a_c_nurse a_c_skills a_c_noteRow a_c_soundRow a_c_pastRow a_K cI cB cZ cP cC length (u.1) (u.2.1) (u.2.2.1) (u.2.2.2) bytes infants_24 retired month notes sounds pasts_25 kind_26 months_27 home_28 nurse_29) rfl rfl rfl (by decide) rfl (fun _ => rfl) (fun r_30 u H locs hw hP hD hS => ?_)
          obtain ⟨token_31, start_32, behind_33, value_34⟩ := u
          try dsimp only at hw
          replace hP : va_P D vwCl (ww_X2_readInfant a_t a_t_bytes a_c a_c_kind a_c_months a_c_home a_c_nurse a_c_skills a_c_noteRow a_c_soundRow a_c_pastRow a_K cI cB cZ cP cC length token_31 start_32 behind_33 value_34 bytes infants_24 retired month notes sounds pasts_25 kind_26 months_27 home_28 nurse_29) H := hP
          replace hD : va_D A (ww_X2_readInfant a_t a_t_bytes a_c a_c_kind a_c_months a_c_home a_c_nurse a_c_skills a_c_noteRow a_c_soundRow a_c_pastRow a_K cI cB cZ cP cC length token_31 start_32 behind_33 value_34 bytes infants_24 retired month notes sounds pasts_25 kind_26 months_27 home_28 nurse_29) := hD
          obtain ⟨h_35, hw⟩ := hw
          exact mx_iret (token_31, start_32, behind_33, value_34, infants_24, pasts_25, kind_26, months_27, home_28, nurse_29) hx hb hr hlocks (mx_narZ h_35) hw hK hP hD hS dX2_readInfant_72
        · replace hw := hw.1 c_23
          refine lv_iconst (v := 0) hx hb dX2_readInfant_56 (by decide) ?_
          exact mx_iret (token_19, start_20, behind_21, value_22, infants, pasts, kind, months, home, nurse) hx hb hr hlocks rfl hw hK hP hD hS dX2_readInfant_57
      · replace hw := hw.1 c_17
        refine lv_iconst (v := 0) hx hb dX2_readInfant_43 (by decide) ?_
        exact mx_iret (token_13, start_14, behind_15, value_16, infants, pasts, kind, months, home, nurse) hx hb hr hlocks rfl hw hK hP hD hS dX2_readInfant_44
    · replace hw := hw.1 c_11
      refine lv_iconst (v := 0) hx hb dX2_readInfant_29 (by decide) ?_
      exact mx_iret (token_7, start_8, behind_9, value_10, infants, pasts, kind, months, home, nurse) hx hb hr hlocks rfl hw hK hP hD hS dX2_readInfant_30
  · replace hw := hw.2 c_1
    refine lv_iconst (v := 0) hx hb dX2_readInfant_12 (by decide) ?_
    exact mx_iret (token, start, behind, value, infants, pasts, kind, months, home, nurse) hx hb hr hlocks rfl hw hK hP hD hS dX2_readInfant_13
/-! PramState$CourtText.readSkill()Z -/
abbrev ww_X2_readSkill (a_t a_t_bytes a_c a_c_kind a_c_months a_c_home a_c_nurse a_c_skills a_c_noteRow a_c_soundRow a_c_pastRow a_K : Nat) (cI cB cZ cP cC : ClassId) (length : Int32) (token : Int32) (start : Int32) (behind : Int32) (value : Int32) (bytes : Nat → Int32) (infants : Int32) (retired : Int32) (month : Int32) (notes : Int32) (sounds : Int32) (pasts : Int32) (skills : Nat → Int32) : va_W := [(a_t, .inr (2, [.ref a_c, .int length, .ref a_t_bytes, .int token, .int start, .int behind, .int value])), (a_t_bytes, .inl (cB, 150, .inl bytes)), (a_c, .inr (1, [.ref a_K, .ref a_c_kind, .ref a_c_months, .ref a_c_home, .ref a_c_nurse, .ref a_c_skills, .ref a_c_noteRow, .ref a_c_soundRow, .ref a_c_pastRow, .int infants, .int retired, .int month, .int notes, .int sounds, .int pasts])), (a_c_skills, .inl (cI, 6, .inl skills))]
abbrev qq_X2_readSkill (D : va_G) (a_t a_t_bytes a_c a_c_kind a_c_months a_c_home a_c_nurse a_c_skills a_c_noteRow a_c_soundRow a_c_pastRow a_K : Nat) (cI cB cZ cP cC : ClassId) (length : Int32) (bytes : Nat → Int32) (infants : Int32) (retired : Int32) (month : Int32) (notes : Int32) (sounds : Int32) (Post : Int32 → Int32 → Int32 → Int32 → Int32 → Int32 → (Nat → Int32) → Prop) (A : Nat → Prop) : Array Value → State → Outcome → State → Prop := va_Qi (fun (r : Int32) (u : Int32 × Int32 × Int32 × Int32 × Int32 × (Nat → Int32)) => Post r u.1 u.2.1 u.2.2.1 u.2.2.2.1 u.2.2.2.2.1 u.2.2.2.2.2) (fun (u : Int32 × Int32 × Int32 × Int32 × Int32 × (Nat → Int32)) t => mxB D (mxTy cI cB cZ cP cC) A (ww_X2_readSkill a_t a_t_bytes a_c a_c_kind a_c_months a_c_home a_c_nurse a_c_skills a_c_noteRow a_c_soundRow a_c_pastRow a_K cI cB cZ cP cC length (u.1) (u.2.1) (u.2.2.1) (u.2.2.2.1) bytes infants retired month notes sounds (u.2.2.2.2.1) (u.2.2.2.2.2)) t) A
abbrev rm_X2_readSkill : Room := { frames := 3, cells := 0, slots := 0, locals := 65 }
theorem hd_X2_readSkill : yX2_readSkill.cls = RX2 ∧ yX2_readSkill.cls ≠ "java/lang/invoke/MethodHandle" ∧ yX2_readSkill.cls ≠ "java/lang/invoke/VarHandle" ∧ (parseMethodDescriptor yX2_readSkill.desc).map (fun d => d.parameters.length) = some 0 := by decide +kernel
def wp_X2_readSkill (length : Int32) (bytes : Nat → Int32) (token : Int32) (start : Int32) (behind : Int32) (value : Int32) (pasts : Int32) (skills : Nat → Int32) (Post : Int32 → Int32 → Int32 → Int32 → Int32 → Int32 → (Nat → Int32) → Prop) : Prop :=
  (wp_X2_advance length bytes token start behind value (fun token_1 start_2 behind_3 value_4 => (wp_X2_number length bytes token_1 start_2 behind_3 value_4 5 (fun r_5 token_6 start_7 behind_8 value_9 => ((r_5 = (-1) → Post 0 token_6 start_7 behind_8 value_9 pasts skills) ∧ (¬ r_5 = (-1) → (wp_X2_number length bytes token_6 start_7 behind_8 value_9 9 (fun r_11 token_12 start_13 behind_14 value_15 => ((r_11 = (-1) → Post 0 token_12 start_13 behind_14 value_15 pasts skills) ∧ (¬ r_11 = (-1) → (wp_X1_setSkill pasts skills r_5 r_11 (fun pasts_17 skills_18 => (wp_X2_endItem length bytes token_12 start_13 behind_14 value_15 (fun r_19 token_20 start_21 behind_22 value_23 => ((r_19 = 0 ∨ r_19 = 1) ∧ Post r_19 token_20 start_21 behind_22 value_23 pasts_17 skills_18)))))))))))))))
set_option maxHeartbeats 4000000 in
set_option maxRecDepth 100000 in
theorem c_X2_readSkill (l : Launch) (D : va_G) (cI cB cZ cP cC : ClassId) (a_t a_t_bytes a_c a_c_kind a_c_months a_c_home a_c_nurse a_c_skills a_c_noteRow a_c_soundRow a_c_pastRow a_K : Nat) (length : Int32) (token : Int32) (start : Int32) (behind : Int32) (value : Int32) (bytes : Nat → Int32) (infants : Int32) (retired : Int32) (month : Int32) (notes : Int32) (sounds : Int32) (pasts : Int32) (skills : Nat → Int32)  (sz : Nat) (Post : Int32 → Int32 → Int32 → Int32 → Int32 → Int32 → (Nat → Int32) → Prop) (hw : wp_X2_readSkill length bytes token start behind value pasts skills Post) :
    Met l yX2_readSkill (Cond.code yX2_readSkill cX2_readSkill 3 (some .boolean) :: wsAll) rm_X2_readSkill (va_Pc [.ref a_t] (mxP D (mxTy cI cB cZ cP cC) sz (ww_X2_readSkill a_t a_t_bytes a_c a_c_kind a_c_months a_c_home a_c_nurse a_c_skills a_c_noteRow a_c_soundRow a_c_pastRow a_K cI cB cZ cP cC length token start behind value bytes infants retired month notes sounds pasts skills))) (qq_X2_readSkill D a_t a_t_bytes a_c a_c_kind a_c_months a_c_home a_c_nurse a_c_skills a_c_noteRow a_c_soundRow a_c_pastRow a_K cI cB cZ cP cC length bytes infants retired month notes sounds Post (va_A (ww_X2_readSkill a_t a_t_bytes a_c a_c_kind a_c_months a_c_home a_c_nurse a_c_skills a_c_noteRow a_c_soundRow a_c_pastRow a_K cI cB cZ cP cC length token start behind value bytes infants retired month notes sounds pasts skills) sz)) 0 0 (va_A (ww_X2_readSkill a_t a_t_bytes a_c a_c_kind a_c_months a_c_home a_c_nurse a_c_skills a_c_noteRow a_c_soundRow a_c_pastRow a_K cI cB cZ cP cC length token start behind value bytes infants retired month notes sounds pasts skills) sz) := by
  refine mx_of (Qc := qq_X2_readSkill D a_t a_t_bytes a_c a_c_kind a_c_months a_c_home a_c_nurse a_c_skills a_c_noteRow a_c_soundRow a_c_pastRow a_K cI cB cZ cP cC length bytes infants retired month notes sounds Post) (by decide) (Nat.le_of_ble_eq_true rfl) ?_
  intro p e s m bl meth c A ls C0 hP hD hS hl
  replace C0 : mxC p s m [.ref a_t].toArray meth c cX2_readSkill RX2 (some .boolean) 3 D (mxTy cI cB cZ cP cC) A := C0
  obtain ⟨hx, hb, hr, hlocks, hml, hown, hts, hK, hA⟩ := id C0
  replace hl : lv_has ls 3 [(0, .ref a_t)] := hl
  unfold wp_X2_readSkill at hw
  refine lv_aload_n hx hb dX2_readSkill_0 rfl (lv_at hl 0 rfl) ?_
  refine mx_kv (mx_rV (rm := rm_X2_advance) (rest := []) (C := RX2) hx hb hml hown hts (c_X2_advance l D cI cB cZ cP cC a_t a_t_bytes a_c length token start behind value bytes _ _ hw) q_231 q_232 q_233 q_39 q_234 hd_X2_advance ⟨(Nat.le_of_ble_eq_true rfl), (Nat.le_of_ble_eq_true rfl)⟩ rfl rfl hK hP hD [0, 1] rfl rfl 2 0 rfl rfl rfl rfl hl.1 rfl (Nat.le_of_ble_eq_true rfl) dX2_readSkill_1 ⟨(Nat.le_of_ble_eq_true rfl), (Nat.le_of_ble_eq_true rfl)⟩) hP hD hS hA [0, 1] [2, 3] [2, 3, 0, 1] (fun u => ww_X2_readSkill a_t a_t_bytes a_c a_c_kind a_c_months a_c_home a_c_nurse a_c_skills a_c_noteRow a_c_soundRow a_c_pastRow a_K cI cB cZ cP cC length (u.1) (u.2.1) (u.2.2.1) (u.2.2.2) bytes infants retired month notes sounds pasts skills) rfl rfl rfl (by decide) rfl (fun _ => rfl) (fun u H locs hw hP hD hS => ?_)
  obtain ⟨token_1, start_2, behind_3, value_4⟩ := u
  try dsimp only at hw
  replace hP : va_P D vwCl (ww_X2_readSkill a_t a_t_bytes a_c a_c_kind a_c_months a_c_home a_c_nurse a_c_skills a_c_noteRow a_c_soundRow a_c_pastRow a_K cI cB cZ cP cC length token_1 start_2 behind_3 value_4 bytes infants retired month notes sounds pasts skills) H := hP
  replace hD : va_D A (ww_X2_readSkill a_t a_t_bytes a_c a_c_kind a_c_months a_c_home a_c_nurse a_c_skills a_c_noteRow a_c_soundRow a_c_pastRow a_K cI cB cZ cP cC length token_1 start_2 behind_3 value_4 bytes infants retired month notes sounds pasts skills) := hD
  refine lv_aload_n hx hb dX2_readSkill_4 rfl (lv_at hl 0 rfl) ?_
  refine lv_iconst (v := 5) hx hb dX2_readSkill_5 (by decide) ?_
  refine mx_ki (mx_rV (rm := rm_X2_number) (rest := []) (C := RX2) hx hb hml hown hts (c_X2_number l D cI cB cZ cP cC a_t a_t_bytes a_c length token_1 start_2 behind_3 value_4 bytes 5 _ _ hw) q_310 q_311 q_312 q_39 q_313 hd_X2_number ⟨(Nat.le_of_ble_eq_true rfl), (Nat.le_of_ble_eq_true rfl)⟩ rfl rfl hK hP hD [0, 1] rfl rfl 2 0 rfl rfl rfl rfl hl.1 rfl (Nat.le_of_ble_eq_true rfl) dX2_readSkill_6 ⟨(Nat.le_of_ble_eq_true rfl), (Nat.le_of_ble_eq_true rfl)⟩) hP hD hS hA [0, 1] [2, 3] [2, 3, 0, 1] (fun u => ww_X2_readSkill a_t a_t_bytes a_c a_c_kind a_c_months a_c_home a_c_nurse a_c_skills a_c_noteRow a_c_soundRow a_c_pastRow a_K cI cB cZ cP cC length (u.1) (u.2.1) (u.2.2.1) (u.2.2.2) bytes infants retired month notes sounds pasts skills) rfl rfl rfl (by decide) rfl (fun _ => rfl) (fun r_5 u H locs hw hP hD hS => ?_)
  obtain ⟨token_6, start_7, behind_8, value_9⟩ := u
  try dsimp only at hw
  replace hP : va_P D vwCl (ww_X2_readSkill a_t a_t_bytes a_c a_c_kind a_c_months a_c_home a_c_nurse a_c_skills a_c_noteRow a_c_soundRow a_c_pastRow a_K cI cB cZ cP cC length token_6 start_7 behind_8 value_9 bytes infants retired month notes sounds pasts skills) H := hP
  replace hD : va_D A (ww_X2_readSkill a_t a_t_bytes a_c a_c_kind a_c_months a_c_home a_c_nurse a_c_skills a_c_noteRow a_c_soundRow a_c_pastRow a_K cI cB cZ cP cC length token_6 start_7 behind_8 value_9 bytes infants retired month notes sounds pasts skills) := hD
  refine lv_istore_n (lv' := [(1, .int r_5), (0, .ref a_t)]) hx hb dX2_readSkill_9 rfl hl (by decide) rfl (fun ls hl => ?_)
  refine lv_iload_n hx hb dX2_readSkill_10 rfl (lv_at hl 0 rfl) ?_
  refine lv_iconst (v := (-1)) hx hb dX2_readSkill_11 (by decide) ?_
  refine lv_icmp_ne (tgt := 17) hx hb dX2_readSkill_12 (by decide) (fun c_10 => ?_) (fun c_10 => ?_)
  · replace hw := hw.2 c_10
    refine lv_aload_n hx hb dX2_readSkill_17 rfl (lv_at hl 1 rfl) ?_
    refine lv_bipush (v := 9) hx hb dX2_readSkill_18 (by decide) ?_
    refine mx_ki (mx_rV (rm := rm_X2_number) (rest := []) (C := RX2) hx hb hml hown hts (c_X2_number l D cI cB cZ cP cC a_t a_t_bytes a_c length token_6 start_7 behind_8 value_9 bytes 9 _ _ hw) q_310 q_311 q_312 q_39 q_313 hd_X2_number ⟨(Nat.le_of_ble_eq_true rfl), (Nat.le_of_ble_eq_true rfl)⟩ rfl rfl hK hP hD [0, 1] rfl rfl 2 0 rfl rfl rfl rfl hl.1 rfl (Nat.le_of_ble_eq_true rfl) dX2_readSkill_20 ⟨(Nat.le_of_ble_eq_true rfl), (Nat.le_of_ble_eq_true rfl)⟩) hP hD hS hA [0, 1] [2, 3] [2, 3, 0, 1] (fun u => ww_X2_readSkill a_t a_t_bytes a_c a_c_kind a_c_months a_c_home a_c_nurse a_c_skills a_c_noteRow a_c_soundRow a_c_pastRow a_K cI cB cZ cP cC length (u.1) (u.2.1) (u.2.2.1) (u.2.2.2) bytes infants retired month notes sounds pasts skills) rfl rfl rfl (by decide) rfl (fun _ => rfl) (fun r_11 u H locs hw hP hD hS => ?_)
    obtain ⟨token_12, start_13, behind_14, value_15⟩ := u
    try dsimp only at hw
    replace hP : va_P D vwCl (ww_X2_readSkill a_t a_t_bytes a_c a_c_kind a_c_months a_c_home a_c_nurse a_c_skills a_c_noteRow a_c_soundRow a_c_pastRow a_K cI cB cZ cP cC length token_12 start_13 behind_14 value_15 bytes infants retired month notes sounds pasts skills) H := hP
    replace hD : va_D A (ww_X2_readSkill a_t a_t_bytes a_c a_c_kind a_c_months a_c_home a_c_nurse a_c_skills a_c_noteRow a_c_soundRow a_c_pastRow a_K cI cB cZ cP cC length token_12 start_13 behind_14 value_15 bytes infants retired month notes sounds pasts skills) := hD
    refine lv_istore_n (lv' := [(2, .int r_11), (1, .int r_5), (0, .ref a_t)]) hx hb dX2_readSkill_23 rfl hl (by decide) rfl (fun ls hl => ?_)
    refine lv_iload_n hx hb dX2_readSkill_24 rfl (lv_at hl 0 rfl) ?_
    refine lv_iconst (v := (-1)) hx hb dX2_readSkill_25 (by decide) ?_
    refine lv_icmp_ne (tgt := 31) hx hb dX2_readSkill_26 (by decide) (fun c_16 => ?_) (fun c_16 => ?_)
    · replace hw := hw.2 c_16
      refine lv_aload_n hx hb dX2_readSkill_31 rfl (lv_at hl 2 rfl) ?_
      refine mx_get (ci := 2) (C := RX2) (T := TX2) (N := 7) hx hb hown in_wsX20 hts hK hP 0 rfl rfl 0 (by decide) q_80 rfl (v := .ref a_c) rfl dX2_readSkill_32 ?_
      refine lv_iload_n hx hb dX2_readSkill_35 rfl (lv_at hl 1 rfl) ?_
      refine lv_iload_n hx hb dX2_readSkill_36 rfl (lv_at hl 0 rfl) ?_
      refine mx_kv (mx_rV (rm := rm_X1_setSkill) (rest := []) (C := RX1) hx hb hml hown hts (c_X1_setSkill l D cI cB cZ cP cC a_c a_c_kind a_c_months a_c_home a_c_nurse a_c_skills a_c_noteRow a_c_soundRow a_c_pastRow a_K infants retired month notes sounds pasts skills r_5 r_11 _ _ hw) q_319 q_183 q_184 q_32 q_185 hd_X1_setSkill ⟨(Nat.le_of_ble_eq_true rfl), (Nat.le_of_ble_eq_true rfl)⟩ rfl rfl hK hP hD [2, 3] rfl rfl 1 2 rfl rfl rfl rfl hl.1 rfl (Nat.le_of_ble_eq_true rfl) dX2_readSkill_37 ⟨(Nat.le_of_ble_eq_true rfl), (Nat.le_of_ble_eq_true rfl)⟩) hP hD hS hA [2, 3] [0, 1] [0, 1, 2, 3] (fun u => ww_X2_readSkill a_t a_t_bytes a_c a_c_kind a_c_months a_c_home a_c_nurse a_c_skills a_c_noteRow a_c_soundRow a_c_pastRow a_K cI cB cZ cP cC length token_12 start_13 behind_14 value_15 bytes infants retired month notes sounds (u.1) (u.2)) rfl rfl rfl (by decide) rfl (fun _ => rfl) (fun u H locs hw hP hD hS => ?_)
      obtain ⟨pasts_17, skills_18⟩ := u
      try dsimp only at hw
      replace hP : va_P D vwCl (ww_X2_readSkill a_t a_t_bytes a_c a_c_kind a_c_months a_c_home a_c_nurse a_c_skills a_c_noteRow a_c_soundRow a_c_pastRow a_K cI cB cZ cP cC length token_12 start_13 behind_14 value_15 bytes infants retired month notes sounds pasts_17 skills_18) H := hP
      replace hD : va_D A (ww_X2_readSkill a_t a_t_bytes a_c a_c_kind a_c_months a_c_home a_c_nurse a_c_skills a_c_noteRow a_c_soundRow a_c_pastRow a_K cI cB cZ cP cC length token_12 start_13 behind_14 value_15 bytes infants retired month notes sounds pasts_17 skills_18) := hD
      refine lv_aload_n hx hb dX2_readSkill_40 rfl (lv_at hl 2 rfl) ?_
      refine mx_ki (mx_rV (rm := rm_X2_endItem) (rest := []) (C := RX2) hx hb hml hown hts (c_X2_endItem l D cI cB cZ cP cC a_t a_t_bytes a_c length token_12 start_13 behind_14 value_15 bytes _ _ hw) q_297 q_298 q_299 q_39 q_300 hd_X2_endItem ⟨(Nat.le_of_ble_eq_true rfl), (Nat.le_of_ble_eq_true rfl)⟩ rfl rfl hK hP hD [0, 1] rfl rfl 2 0 rfl rfl rfl rfl hl.1 rfl (Nat.le_of_ble_eq_true rfl) dX2_readSkill_41 ⟨(Nat.le_of_ble_eq_true rfl), (Nat.le_of_ble_eq_true rfl)⟩) hP hD hS hA [0, 1] [2, 3] [2, 3, 0, 1] (fun u => ww_X2_readSkill a_t a_t_bytes a_c a_c_kind a_c_months a_c_home a_c_nurse a_c_skills a_c_noteRow a_c_soundRow a_c_pastRow a_K cI cB cZ cP cC length (u.1) (u.2.1) (u.2.2.1) (u.2.2.2) bytes infants retired month notes sounds pasts_17 skills_18) rfl rfl rfl (by decide) rfl (fun _ => rfl) (fun r_19 u H locs hw hP hD hS => ?_)
      obtain ⟨token_20, start_21, behind_22, value_23⟩ := u
      try dsimp only at hw
      replace hP : va_P D vwCl (ww_X2_readSkill a_t a_t_bytes a_c a_c_kind a_c_months a_c_home a_c_nurse a_c_skills a_c_noteRow a_c_soundRow a_c_pastRow a_K cI cB cZ cP cC length token_20 start_21 behind_22 value_23 bytes infants retired month notes sounds pasts_17 skills_18) H := hP
      replace hD : va_D A (ww_X2_readSkill a_t a_t_bytes a_c a_c_kind a_c_months a_c_home a_c_nurse a_c_skills a_c_noteRow a_c_soundRow a_c_pastRow a_K cI cB cZ cP cC length token_20 start_21 behind_22 value_23 bytes infants retired month notes sounds pasts_17 skills_18) := hD
      obtain ⟨h_24, hw⟩ := hw
      exact mx_iret (token_20, start_21, behind_22, value_23, pasts_17, skills_18) hx hb hr hlocks (mx_narZ h_24) hw hK hP hD hS dX2_readSkill_44
    · replace hw := hw.1 c_16
      refine lv_iconst (v := 0) hx hb dX2_readSkill_29 (by decide) ?_
      exact mx_iret (token_12, start_13, behind_14, value_15, pasts, skills) hx hb hr hlocks rfl hw hK hP hD hS dX2_readSkill_30
  · replace hw := hw.1 c_10
    refine lv_iconst (v := 0) hx hb dX2_readSkill_15 (by decide) ?_
    exact mx_iret (token_6, start_7, behind_8, value_9, pasts, skills) hx hb hr hlocks rfl hw hK hP hD hS dX2_readSkill_16
/-! PramState$CourtText.readNurse()Z -/
abbrev ww_X2_readNurse (a_t a_t_bytes a_c a_c_kind a_c_months a_c_home a_c_nurse a_c_skills a_c_noteRow a_c_soundRow a_c_pastRow a_K : Nat) (cI cB cZ cP cC : ClassId) (length : Int32) (token : Int32) (start : Int32) (behind : Int32) (value : Int32) (bytes : Nat → Int32) (infants : Int32) (retired : Int32) (month : Int32) (notes : Int32) (sounds : Int32) (pasts : Int32) (nurse : Nat → Int32) : va_W := [(a_t, .inr (2, [.ref a_c, .int length, .ref a_t_bytes, .int token, .int start, .int behind, .int value])), (a_t_bytes, .inl (cB, 150, .inl bytes)), (a_c, .inr (1, [.ref a_K, .ref a_c_kind, .ref a_c_months, .ref a_c_home, .ref a_c_nurse, .ref a_c_skills, .ref a_c_noteRow, .ref a_c_soundRow, .ref a_c_pastRow, .int infants, .int retired, .int month, .int notes, .int sounds, .int pasts])), (a_c_nurse, .inl (cI, 6, .inl nurse))]
abbrev qq_X2_readNurse (D : va_G) (a_t a_t_bytes a_c a_c_kind a_c_months a_c_home a_c_nurse a_c_skills a_c_noteRow a_c_soundRow a_c_pastRow a_K : Nat) (cI cB cZ cP cC : ClassId) (length : Int32) (bytes : Nat → Int32) (infants : Int32) (retired : Int32) (month : Int32) (notes : Int32) (sounds : Int32) (pasts : Int32) (Post : Int32 → Int32 → Int32 → Int32 → Int32 → (Nat → Int32) → Prop) (A : Nat → Prop) : Array Value → State → Outcome → State → Prop := va_Qi (fun (r : Int32) (u : Int32 × Int32 × Int32 × Int32 × (Nat → Int32)) => Post r u.1 u.2.1 u.2.2.1 u.2.2.2.1 u.2.2.2.2) (fun (u : Int32 × Int32 × Int32 × Int32 × (Nat → Int32)) t => mxB D (mxTy cI cB cZ cP cC) A (ww_X2_readNurse a_t a_t_bytes a_c a_c_kind a_c_months a_c_home a_c_nurse a_c_skills a_c_noteRow a_c_soundRow a_c_pastRow a_K cI cB cZ cP cC length (u.1) (u.2.1) (u.2.2.1) (u.2.2.2.1) bytes infants retired month notes sounds pasts (u.2.2.2.2)) t) A
abbrev rm_X2_readNurse : Room := { frames := 3, cells := 0, slots := 0, locals := 65 }
theorem hd_X2_readNurse : yX2_readNurse.cls = RX2 ∧ yX2_readNurse.cls ≠ "java/lang/invoke/MethodHandle" ∧ yX2_readNurse.cls ≠ "java/lang/invoke/VarHandle" ∧ (parseMethodDescriptor yX2_readNurse.desc).map (fun d => d.parameters.length) = some 0 := by decide +kernel
def wp_X2_readNurse (length : Int32) (bytes : Nat → Int32) (infants : Int32) (token : Int32) (start : Int32) (behind : Int32) (value : Int32) (nurse : Nat → Int32) (Post : Int32 → Int32 → Int32 → Int32 → Int32 → (Nat → Int32) → Prop) : Prop :=
  (wp_X2_advance length bytes token start behind value (fun token_1 start_2 behind_3 value_4 => (wp_X2_number length bytes token_1 start_2 behind_3 value_4 (infants - 1) (fun r_5 token_6 start_7 behind_8 value_9 => ((r_5 = (-1) → Post 0 token_6 start_7 behind_8 value_9 nurse) ∧ (¬ r_5 = (-1) → (wp_X2_number length bytes token_6 start_7 behind_8 value_9 5 (fun r_11 token_12 start_13 behind_14 value_15 => ((r_11 = (-1) → Post 0 token_12 start_13 behind_14 value_15 nurse) ∧ (¬ r_11 = (-1) → (vp_in r_5 6 ∧ (∀ f_18 : Nat → Int32, f_18 = upd nurse r_5.toNatClampNeg r_11 → (wp_X2_endItem length bytes token_12 start_13 behind_14 value_15 (fun r_19 token_20 start_21 behind_22 value_23 => ((r_19 = 0 ∨ r_19 = 1) ∧ Post r_19 token_20 start_21 behind_22 value_23 f_18)))))))))))))))
set_option maxHeartbeats 4000000 in
set_option maxRecDepth 100000 in
theorem c_X2_readNurse (l : Launch) (D : va_G) (cI cB cZ cP cC : ClassId) (a_t a_t_bytes a_c a_c_kind a_c_months a_c_home a_c_nurse a_c_skills a_c_noteRow a_c_soundRow a_c_pastRow a_K : Nat) (length : Int32) (token : Int32) (start : Int32) (behind : Int32) (value : Int32) (bytes : Nat → Int32) (infants : Int32) (retired : Int32) (month : Int32) (notes : Int32) (sounds : Int32) (pasts : Int32) (nurse : Nat → Int32)  (sz : Nat) (Post : Int32 → Int32 → Int32 → Int32 → Int32 → (Nat → Int32) → Prop) (hw : wp_X2_readNurse length bytes infants token start behind value nurse Post) :
    Met l yX2_readNurse (Cond.code yX2_readNurse cX2_readNurse 3 (some .boolean) :: wsAll) rm_X2_readNurse (va_Pc [.ref a_t] (mxP D (mxTy cI cB cZ cP cC) sz (ww_X2_readNurse a_t a_t_bytes a_c a_c_kind a_c_months a_c_home a_c_nurse a_c_skills a_c_noteRow a_c_soundRow a_c_pastRow a_K cI cB cZ cP cC length token start behind value bytes infants retired month notes sounds pasts nurse))) (qq_X2_readNurse D a_t a_t_bytes a_c a_c_kind a_c_months a_c_home a_c_nurse a_c_skills a_c_noteRow a_c_soundRow a_c_pastRow a_K cI cB cZ cP cC length bytes infants retired month notes sounds pasts Post (va_A (ww_X2_readNurse a_t a_t_bytes a_c a_c_kind a_c_months a_c_home a_c_nurse a_c_skills a_c_noteRow a_c_soundRow a_c_pastRow a_K cI cB cZ cP cC length token start behind value bytes infants retired month notes sounds pasts nurse) sz)) 0 0 (va_A (ww_X2_readNurse a_t a_t_bytes a_c a_c_kind a_c_months a_c_home a_c_nurse a_c_skills a_c_noteRow a_c_soundRow a_c_pastRow a_K cI cB cZ cP cC length token start behind value bytes infants retired month notes sounds pasts nurse) sz) := by
  refine mx_of (Qc := qq_X2_readNurse D a_t a_t_bytes a_c a_c_kind a_c_months a_c_home a_c_nurse a_c_skills a_c_noteRow a_c_soundRow a_c_pastRow a_K cI cB cZ cP cC length bytes infants retired month notes sounds pasts Post) (by decide) (Nat.le_of_ble_eq_true rfl) ?_
  intro p e s m bl meth c A ls C0 hP hD hS hl
  replace C0 : mxC p s m [.ref a_t].toArray meth c cX2_readNurse RX2 (some .boolean) 3 D (mxTy cI cB cZ cP cC) A := C0
  obtain ⟨hx, hb, hr, hlocks, hml, hown, hts, hK, hA⟩ := id C0
  replace hl : lv_has ls 3 [(0, .ref a_t)] := hl
  unfold wp_X2_readNurse at hw
  refine lv_aload_n hx hb dX2_readNurse_0 rfl (lv_at hl 0 rfl) ?_
  refine mx_kv (mx_rV (rm := rm_X2_advance) (rest := []) (C := RX2) hx hb hml hown hts (c_X2_advance l D cI cB cZ cP cC a_t a_t_bytes a_c length token start behind value bytes _ _ hw) q_231 q_232 q_233 q_39 q_234 hd_X2_advance ⟨(Nat.le_of_ble_eq_true rfl), (Nat.le_of_ble_eq_true rfl)⟩ rfl rfl hK hP hD [0, 1] rfl rfl 2 0 rfl rfl rfl rfl hl.1 rfl (Nat.le_of_ble_eq_true rfl) dX2_readNurse_1 ⟨(Nat.le_of_ble_eq_true rfl), (Nat.le_of_ble_eq_true rfl)⟩) hP hD hS hA [0, 1] [2, 3] [2, 3, 0, 1] (fun u => ww_X2_readNurse a_t a_t_bytes a_c a_c_kind a_c_months a_c_home a_c_nurse a_c_skills a_c_noteRow a_c_soundRow a_c_pastRow a_K cI cB cZ cP cC length (u.1) (u.2.1) (u.2.2.1) (u.2.2.2) bytes infants retired month notes sounds pasts nurse) rfl rfl rfl (by decide) rfl (fun _ => rfl) (fun u H locs hw hP hD hS => ?_)
  obtain ⟨token_1, start_2, behind_3, value_4⟩ := u
  try dsimp only at hw
  replace hP : va_P D vwCl (ww_X2_readNurse a_t a_t_bytes a_c a_c_kind a_c_months a_c_home a_c_nurse a_c_skills a_c_noteRow a_c_soundRow a_c_pastRow a_K cI cB cZ cP cC length token_1 start_2 behind_3 value_4 bytes infants retired month notes sounds pasts nurse) H := hP
  replace hD : va_D A (ww_X2_readNurse a_t a_t_bytes a_c a_c_kind a_c_months a_c_home a_c_nurse a_c_skills a_c_noteRow a_c_soundRow a_c_pastRow a_K cI cB cZ cP cC length token_1 start_2 behind_3 value_4 bytes infants retired month notes sounds pasts nurse) := hD
  refine lv_aload_n hx hb dX2_readNurse_4 rfl (lv_at hl 0 rfl) ?_
  refine lv_aload_n hx hb dX2_readNurse_5 rfl (lv_at hl 0 rfl) ?_
  refine mx_get (ci := 2) (C := RX2) (T := TX2) (N := 7) hx hb hown in_wsX20 hts hK hP 0 rfl rfl 0 (by decide) q_80 rfl (v := .ref a_c) rfl dX2_readNurse_6 ?_
  refine mx_get (ci := 1) (C := RX1) (T := TX1) (N := 15) hx hb hown in_wsX10 hts hK hP 2 rfl rfl 9 (by decide) q_309 rfl (v := .int infants) rfl dX2_readNurse_9 ?_
  refine lv_iconst (v := 1) hx hb dX2_readNurse_12 (by decide) ?_
  refine lv_isub hx hb dX2_readNurse_13 ?_
  refine mx_ki (mx_rV (rm := rm_X2_number) (rest := []) (C := RX2) hx hb hml hown hts (c_X2_number l D cI cB cZ cP cC a_t a_t_bytes a_c length token_1 start_2 behind_3 value_4 bytes (infants - 1) _ _ hw) q_310 q_311 q_312 q_39 q_313 hd_X2_number ⟨(Nat.le_of_ble_eq_true rfl), (Nat.le_of_ble_eq_true rfl)⟩ rfl rfl hK hP hD [0, 1] rfl rfl 2 0 rfl rfl rfl rfl hl.1 rfl (Nat.le_of_ble_eq_true rfl) dX2_readNurse_14 ⟨(Nat.le_of_ble_eq_true rfl), (Nat.le_of_ble_eq_true rfl)⟩) hP hD hS hA [0, 1] [2, 3] [2, 3, 0, 1] (fun u => ww_X2_readNurse a_t a_t_bytes a_c a_c_kind a_c_months a_c_home a_c_nurse a_c_skills a_c_noteRow a_c_soundRow a_c_pastRow a_K cI cB cZ cP cC length (u.1) (u.2.1) (u.2.2.1) (u.2.2.2) bytes infants retired month notes sounds pasts nurse) rfl rfl rfl (by decide) rfl (fun _ => rfl) (fun r_5 u H locs hw hP hD hS => ?_)
  obtain ⟨token_6, start_7, behind_8, value_9⟩ := u
  try dsimp only at hw
  replace hP : va_P D vwCl (ww_X2_readNurse a_t a_t_bytes a_c a_c_kind a_c_months a_c_home a_c_nurse a_c_skills a_c_noteRow a_c_soundRow a_c_pastRow a_K cI cB cZ cP cC length token_6 start_7 behind_8 value_9 bytes infants retired month notes sounds pasts nurse) H := hP
  replace hD : va_D A (ww_X2_readNurse a_t a_t_bytes a_c a_c_kind a_c_months a_c_home a_c_nurse a_c_skills a_c_noteRow a_c_soundRow a_c_pastRow a_K cI cB cZ cP cC length token_6 start_7 behind_8 value_9 bytes infants retired month notes sounds pasts nurse) := hD
  refine lv_istore_n (lv' := [(1, .int r_5), (0, .ref a_t)]) hx hb dX2_readNurse_17 rfl hl (by decide) rfl (fun ls hl => ?_)
  refine lv_iload_n hx hb dX2_readNurse_18 rfl (lv_at hl 0 rfl) ?_
  refine lv_iconst (v := (-1)) hx hb dX2_readNurse_19 (by decide) ?_
  refine lv_icmp_ne (tgt := 25) hx hb dX2_readNurse_20 (by decide) (fun c_10 => ?_) (fun c_10 => ?_)
  · replace hw := hw.2 c_10
    refine lv_aload_n hx hb dX2_readNurse_25 rfl (lv_at hl 1 rfl) ?_
    refine lv_iconst (v := 5) hx hb dX2_readNurse_26 (by decide) ?_
    refine mx_ki (mx_rV (rm := rm_X2_number) (rest := []) (C := RX2) hx hb hml hown hts (c_X2_number l D cI cB cZ cP cC a_t a_t_bytes a_c length token_6 start_7 behind_8 value_9 bytes 5 _ _ hw) q_310 q_311 q_312 q_39 q_313 hd_X2_number ⟨(Nat.le_of_ble_eq_true rfl), (Nat.le_of_ble_eq_true rfl)⟩ rfl rfl hK hP hD [0, 1] rfl rfl 2 0 rfl rfl rfl rfl hl.1 rfl (Nat.le_of_ble_eq_true rfl) dX2_readNurse_27 ⟨(Nat.le_of_ble_eq_true rfl), (Nat.le_of_ble_eq_true rfl)⟩) hP hD hS hA [0, 1] [2, 3] [2, 3, 0, 1] (fun u => ww_X2_readNurse a_t a_t_bytes a_c a_c_kind a_c_months a_c_home a_c_nurse a_c_skills a_c_noteRow a_c_soundRow a_c_pastRow a_K cI cB cZ cP cC length (u.1) (u.2.1) (u.2.2.1) (u.2.2.2) bytes infants retired month notes sounds pasts nurse) rfl rfl rfl (by decide) rfl (fun _ => rfl) (fun r_11 u H locs hw hP hD hS => ?_)
    obtain ⟨token_12, start_13, behind_14, value_15⟩ := u
    try dsimp only at hw
    replace hP : va_P D vwCl (ww_X2_readNurse a_t a_t_bytes a_c a_c_kind a_c_months a_c_home a_c_nurse a_c_skills a_c_noteRow a_c_soundRow a_c_pastRow a_K cI cB cZ cP cC length token_12 start_13 behind_14 value_15 bytes infants retired month notes sounds pasts nurse) H := hP
    replace hD : va_D A (ww_X2_readNurse a_t a_t_bytes a_c a_c_kind a_c_months a_c_home a_c_nurse a_c_skills a_c_noteRow a_c_soundRow a_c_pastRow a_K cI cB cZ cP cC length token_12 start_13 behind_14 value_15 bytes infants retired month notes sounds pasts nurse) := hD
    refine lv_istore_n (lv' := [(2, .int r_11), (1, .int r_5), (0, .ref a_t)]) hx hb dX2_readNurse_30 rfl hl (by decide) rfl (fun ls hl => ?_)
    refine lv_iload_n hx hb dX2_readNurse_31 rfl (lv_at hl 0 rfl) ?_
    refine lv_iconst (v := (-1)) hx hb dX2_readNurse_32 (by decide) ?_
    refine lv_icmp_ne (tgt := 38) hx hb dX2_readNurse_33 (by decide) (fun c_16 => ?_) (fun c_16 => ?_)
    · replace hw := hw.2 c_16
      refine lv_aload_n hx hb dX2_readNurse_38 rfl (lv_at hl 2 rfl) ?_
      refine mx_get (ci := 2) (C := RX2) (T := TX2) (N := 7) hx hb hown in_wsX20 hts hK hP 0 rfl rfl 0 (by decide) q_80 rfl (v := .ref a_c) rfl dX2_readNurse_39 ?_
      refine mx_get (ci := 1) (C := RX1) (T := TX1) (N := 15) hx hb hown in_wsX10 hts hK hP 2 rfl rfl 4 (by decide) q_324 rfl (v := .ref a_c_nurse) rfl dX2_readNurse_42 ?_
      refine lv_iload_n hx hb dX2_readNurse_45 rfl (lv_at hl 1 rfl) ?_
      refine lv_iload_n hx hb dX2_readNurse_46 rfl (lv_at hl 0 rfl) ?_
      obtain ⟨h_17, hw⟩ := hw
      obtain ⟨f_18, ef_18⟩ : ∃ y : Nat → Int32, y = upd nurse r_5.toNatClampNeg r_11 := ⟨_, rfl⟩
      replace hw := hw f_18 ef_18
      refine mx_iast hx hb hK hP hD hS 3 0 rfl rfl h_17 f_18 ef_18 (ww_X2_readNurse a_t a_t_bytes a_c a_c_kind a_c_months a_c_home a_c_nurse a_c_skills a_c_noteRow a_c_soundRow a_c_pastRow a_K cI cB cZ cP cC length token_12 start_13 behind_14 value_15 bytes infants retired month notes sounds pasts f_18) rfl dX2_readNurse_47 (fun H locs hP hD hS => ?_)
      refine lv_aload_n hx hb dX2_readNurse_48 rfl (lv_at hl 2 rfl) ?_
      refine mx_ki (mx_rV (rm := rm_X2_endItem) (rest := []) (C := RX2) hx hb hml hown hts (c_X2_endItem l D cI cB cZ cP cC a_t a_t_bytes a_c length token_12 start_13 behind_14 value_15 bytes _ _ hw) q_297 q_298 q_299 q_39 q_300 hd_X2_endItem ⟨(Nat.le_of_ble_eq_true rfl), (Nat.le_of_ble_eq_true rfl)⟩ rfl rfl hK hP hD [0, 1] rfl rfl 2 0 rfl rfl rfl rfl hl.1 rfl (Nat.le_of_ble_eq_true rfl) dX2_readNurse_49 ⟨(Nat.le_of_ble_eq_true rfl), (Nat.le_of_ble_eq_true rfl)⟩) hP hD hS hA [0, 1] [2, 3] [2, 3, 0, 1] (fun u => ww_X2_readNurse a_t a_t_bytes a_c a_c_kind a_c_months a_c_home a_c_nurse a_c_skills a_c_noteRow a_c_soundRow a_c_pastRow a_K cI cB cZ cP cC length (u.1) (u.2.1) (u.2.2.1) (u.2.2.2) bytes infants retired month notes sounds pasts f_18) rfl rfl rfl (by decide) rfl (fun _ => rfl) (fun r_19 u H locs hw hP hD hS => ?_)
      obtain ⟨token_20, start_21, behind_22, value_23⟩ := u
      try dsimp only at hw
      replace hP : va_P D vwCl (ww_X2_readNurse a_t a_t_bytes a_c a_c_kind a_c_months a_c_home a_c_nurse a_c_skills a_c_noteRow a_c_soundRow a_c_pastRow a_K cI cB cZ cP cC length token_20 start_21 behind_22 value_23 bytes infants retired month notes sounds pasts f_18) H := hP
      replace hD : va_D A (ww_X2_readNurse a_t a_t_bytes a_c a_c_kind a_c_months a_c_home a_c_nurse a_c_skills a_c_noteRow a_c_soundRow a_c_pastRow a_K cI cB cZ cP cC length token_20 start_21 behind_22 value_23 bytes infants retired month notes sounds pasts f_18) := hD
      obtain ⟨h_24, hw⟩ := hw
      exact mx_iret (token_20, start_21, behind_22, value_23, f_18) hx hb hr hlocks (mx_narZ h_24) hw hK hP hD hS dX2_readNurse_52
    · replace hw := hw.1 c_16
      refine lv_iconst (v := 0) hx hb dX2_readNurse_36 (by decide) ?_
      exact mx_iret (token_12, start_13, behind_14, value_15, nurse) hx hb hr hlocks rfl hw hK hP hD hS dX2_readNurse_37
  · replace hw := hw.1 c_10
    refine lv_iconst (v := 0) hx hb dX2_readNurse_23 (by decide) ?_
    exact mx_iret (token_6, start_7, behind_8, value_9, nurse) hx hb hr hlocks rfl hw hK hP hD hS dX2_readNurse_24
