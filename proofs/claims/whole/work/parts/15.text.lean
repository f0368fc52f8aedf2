/-! PramState$CourtText.append(I)V -/
abbrev ww_X2_append (a_t a_t_bytes a_c : Nat) (cI cB cZ cP cC : ClassId) (length : Int32) (token : Int32) (start : Int32) (behind : Int32) (value : Int32) (bytes : Nat → Int32) : va_W := [(a_t, .inr (2, [.ref a_c, .int length, .ref a_t_bytes, .int token, .int start, .int behind, .int value])), (a_t_bytes, .inl (cB, 150, .inl bytes))]
abbrev qq_X2_append (D : va_G) (a_t a_t_bytes a_c : Nat) (cI cB cZ cP cC : ClassId) (token : Int32) (start : Int32) (behind : Int32) (value : Int32) (Post : Int32 → (Nat → Int32) → Prop) (A : Nat → Prop) : Array Value → State → Outcome → State → Prop := va_Qv (fun (u : Int32 × (Nat → Int32)) => Post u.1 u.2) (fun (u : Int32 × (Nat → Int32)) t => mxB D (mxTy cI cB cZ cP cC) A (ww_X2_append a_t a_t_bytes a_c cI cB cZ cP cC (u.1) token start behind value (u.2)) t) A
abbrev rm_X2_append : Room := { frames := 0, cells := 0, slots := 0, locals := 0 }
theorem hd_X2_append : yX2_append.cls = RX2 ∧ yX2_append.cls ≠ "java/lang/invoke/MethodHandle" ∧ yX2_append.cls ≠ "java/lang/invoke/VarHandle" ∧ (parseMethodDescriptor yX2_append.desc).map (fun d => d.parameters.length) = some 1 := by decide +kernel
def wp_X2_append (length : Int32) (bytes : Nat → Int32) (v1 : Int32) (Post : Int32 → (Nat → Int32) → Prop) : Prop :=
  ((length < 150 → (∀ x_2 : Int32, x_2 = v1.toInt8.toInt32 → (vp_in length 150 ∧ (∀ f_4 : Nat → Int32, f_4 = upd bytes length.toNatClampNeg (vp_nar .byte x_2) → (∀ x_5 : Int32, x_5 = length + 1 → Post x_5 f_4))))) ∧ (¬ length < 150 → Post length bytes))
set_option maxHeartbeats 4000000 in
set_option maxRecDepth 100000 in
theorem c_X2_append (l : Launch) (D : va_G) (cI cB cZ cP cC : ClassId) (a_t a_t_bytes a_c : Nat) (length : Int32) (token : Int32) (start : Int32) (behind : Int32) (value : Int32) (bytes : Nat → Int32) (v1 : Int32) (sz : Nat) (Post : Int32 → (Nat → Int32) → Prop) (hw : wp_X2_append length bytes v1 Post) :
    Met l yX2_append (Cond.code yX2_append cX2_append 2 none :: wsAll) rm_X2_append (va_Pc [.ref a_t, .int v1] (mxP D (mxTy cI cB cZ cP cC) sz (ww_X2_append a_t a_t_bytes a_c cI cB cZ cP cC length token start behind value bytes))) (qq_X2_append D a_t a_t_bytes a_c cI cB cZ cP cC token start behind value Post (va_A (ww_X2_append a_t a_t_bytes a_c cI cB cZ cP cC length token start behind value bytes) sz)) 0 0 (va_A (ww_X2_append a_t a_t_bytes a_c cI cB cZ cP cC length token start behind value bytes) sz) := by
  refine mx_of (Qc := qq_X2_append D a_t a_t_bytes a_c cI cB cZ cP cC token start behind value Post) (by decide) (Nat.le_of_ble_eq_true rfl) ?_
  intro p e s m bl meth c A ls C0 hP hD hS hl
  replace C0 : mxC p s m [.ref a_t, .int v1].toArray meth c cX2_append RX2 none 2 D (mxTy cI cB cZ cP cC) A := C0
  obtain ⟨hx, hb, hr, hlocks, hml, hown, hts, hK, hA⟩ := id C0
  replace hl : lv_has ls 2 [(0, .ref a_t), (1, .int v1)] := hl
  unfold wp_X2_append at hw
  refine lv_aload_n hx hb dX2_append_0 rfl (lv_at hl 0 rfl) ?_
  refine mx_get (ci := 2) (C := RX2) (T := TX2) (N := 7) hx hb hown in_wsX20 hts hK hP 0 rfl rfl 1 (by decide) q_203 rfl (v := .int length) rfl dX2_append_1 ?_
  refine lv_sipush (v := 150) hx hb dX2_append_4 (by decide) ?_
  refine lv_icmp_lt (tgt := 11) hx hb dX2_append_7 (by decide) (fun c_1 => ?_) (fun c_1 => ?_)
  · replace hw := hw.1 c_1
    refine lv_aload_n hx hb dX2_append_11 rfl (lv_at hl 0 rfl) ?_
    refine mx_get (ci := 2) (C := RX2) (T := TX2) (N := 7) hx hb hown in_wsX20 hts hK hP 0 rfl rfl 2 (by decide) q_79 rfl (v := .ref a_t_bytes) rfl dX2_append_12 ?_
    refine lv_aload_n hx hb dX2_append_15 rfl (lv_at hl 0 rfl) ?_
    refine mx_get (ci := 2) (C := RX2) (T := TX2) (N := 7) hx hb hown in_wsX20 hts hK hP 0 rfl rfl 1 (by decide) q_203 rfl (v := .int length) rfl dX2_append_16 ?_
    refine lv_iload_n hx hb dX2_append_19 rfl (lv_at hl 1 rfl) ?_
    refine lv_i2b (v := v1.toInt8.toInt32) hx hb dX2_append_20 rfl ?_
    refine lv_topi (fun x_2 ex_2 => ?_)
    replace hw := hw x_2 ex_2
    obtain ⟨h_3, hw⟩ := hw
    obtain ⟨f_4, ef_4⟩ : ∃ y : Nat → Int32, y = upd bytes length.toNatClampNeg (vp_nar .byte x_2) := ⟨_, rfl⟩
    replace hw := hw f_4 ef_4
    refine mx_bast hx hb hK hP hD hS 1 1 rfl rfl h_3 f_4 ef_4 (ww_X2_append a_t a_t_bytes a_c cI cB cZ cP cC length token start behind value f_4) rfl dX2_append_21 (fun H locs hP hD hS => ?_)
    refine lv_aload_n hx hb dX2_append_22 rfl (lv_at hl 0 rfl) ?_
    refine lv_dup hx hb dX2_append_23 rfl ?_
    refine mx_get (ci := 2) (C := RX2) (T := TX2) (N := 7) hx hb hown in_wsX20 hts hK hP 0 rfl rfl 1 (by decide) q_203 rfl (v := .int length) rfl dX2_append_24 ?_
    refine lv_iconst (v := 1) hx hb dX2_append_27 (by decide) ?_
    refine lv_iadd hx hb dX2_append_28 ?_
    refine lv_topi (fun x_5 ex_5 => ?_)
    replace hw := hw x_5 ex_5
    refine mx_put (ci := 2) (C := RX2) (T := TX2) (N := 7) hx hb hown in_wsX20 tyX2 tyX2_ok nmX2 hts hK hP hD hS 0 rfl rfl 1 (by decide) q_203 rfl rfl rfl rfl (Nat.le_of_ble_eq_true rfl) (ww_X2_append a_t a_t_bytes a_c cI cB cZ cP cC x_5 token start behind value f_4) rfl dX2_append_29 (fun H locs hP hD hS => ?_)
    exact mx_vret (x_5, f_4) hx hb hr hlocks hw hK hP hD hS dX2_append_32
  · replace hw := hw.2 c_1
    exact mx_vret (length, bytes) hx hb hr hlocks hw hK hP hD hS dX2_append_10
/-! PramState$CourtText.takeRun(CC)I -/
abbrev ww_X2_takeRun (a_t a_t_bytes a_c : Nat) (cI cB cZ cP cC : ClassId) (length : Int32) (token : Int32) (start : Int32) (behind : Int32) (value : Int32) (bytes : Nat → Int32) : va_W := [(a_t, .inr (2, [.ref a_c, .int length, .ref a_t_bytes, .int token, .int start, .int behind, .int value])), (a_t_bytes, .inl (cB, 150, .inl bytes))]
abbrev qq_X2_takeRun (D : va_G) (a_t a_t_bytes a_c : Nat) (cI cB cZ cP cC : ClassId) (length : Int32) (token : Int32) (start : Int32) (value : Int32) (bytes : Nat → Int32) (Post : Int32 → Int32 → Prop) (A : Nat → Prop) : Array Value → State → Outcome → State → Prop := va_Qi (fun (r : Int32) (u : Int32) => Post r u) (fun (u : Int32) t => mxB D (mxTy cI cB cZ cP cC) A (ww_X2_takeRun a_t a_t_bytes a_c cI cB cZ cP cC length token start u value bytes) t) A
abbrev rm_X2_takeRun : Room := { frames := 0, cells := 0, slots := 0, locals := 0 }
theorem hd_X2_takeRun : yX2_takeRun.cls = RX2 ∧ yX2_takeRun.cls ≠ "java/lang/invoke/MethodHandle" ∧ yX2_takeRun.cls ≠ "java/lang/invoke/VarHandle" ∧ (parseMethodDescriptor yX2_takeRun.desc).map (fun d => d.parameters.length) = some 2 := by decide +kernel
def wp_X2_takeRun_L5 (length : Int32) (bytes : Nat → Int32) (Post : Int32 → Int32 → Prop) (K_55 : Int32 → Int32 → Prop) : Nat → Int32 → Int32 → Int32 → Int32 → Prop
  | 0, _, _, _, _ => False
  | n + 1, v1, v2, v3, behind => ((length ≤ behind → K_55 v3 behind) ∧ (¬ length ≤ behind → (vp_in behind 150 ∧ (((bytes behind.toNatClampNeg) < v1 → K_55 v3 behind) ∧ (¬ (bytes behind.toNatClampNeg) < v1 → ((v2 < (bytes behind.toNatClampNeg) → K_55 v3 behind) ∧ (¬ v2 < (bytes behind.toNatClampNeg) → (∀ x_5 : Int32, x_5 = behind + 1 → wp_X2_takeRun_L5 length bytes Post K_55 n v1 v2 v3 x_5))))))))
set_option maxHeartbeats 4000000 in
set_option maxRecDepth 100000 in
theorem k_X2_takeRun_L5 {p : Program} {l : Launch} {e : Env} {s : State} {m : MethodId} {ar : Array Value} {bl : List Frame} {meth : Method} {c : Code} {D : va_G} {A : Nat → Prop} {cI cB cZ cP cC : ClassId} {a_t a_t_bytes a_c : Nat} {length : Int32} {token : Int32} {start : Int32} {value : Int32} {bytes : Nat → Int32} {Post : Int32 → Int32 → Prop} {K_55 : Int32 → Int32 → Prop} (C0 : mxC p s m ar meth c cX2_takeRun RX2 (some .int) 4 D (mxTy cI cB cZ cP cC) A)
    (hK_55 : ∀ (v3 : Int32) (behind : Int32) (H : Heap) (locs : List Loc) (ls : Array Slot), va_P D vwCl (ww_X2_takeRun a_t a_t_bytes a_c cI cB cZ cP cC length token start behind value bytes) H → va_D A (ww_X2_takeRun a_t a_t_bytes a_c cI cB cZ cP cC length token start behind value bytes) → va_S A s.heap H locs → lv_has ls 4 [(0, .ref a_t), (3, .int v3)] → K_55 v3 behind → W p l e rm_X2_takeRun s m ar bl meth c H locs 0 0 (MQ bl (qq_X2_takeRun D a_t a_t_bytes a_c cI cB cZ cP cC length token start value bytes Post A) ar s 0 0 A) (F0 m 55 ls [])) :
    ∀ (n : Nat) (v1 : Int32) (v2 : Int32) (v3 : Int32) (behind : Int32) (H : Heap) (locs : List Loc) (ls : Array Slot), va_P D vwCl (ww_X2_takeRun a_t a_t_bytes a_c cI cB cZ cP cC length token start behind value bytes) H → va_D A (ww_X2_takeRun a_t a_t_bytes a_c cI cB cZ cP cC length token start behind value bytes) → va_S A s.heap H locs → lv_has ls 4 [(0, .ref a_t), (1, .int v1), (2, .int v2), (3, .int v3)] → wp_X2_takeRun_L5 length bytes Post K_55 n v1 v2 v3 behind → W p l e rm_X2_takeRun s m ar bl meth c H locs 0 0 (MQ bl (qq_X2_takeRun D a_t a_t_bytes a_c cI cB cZ cP cC length token start value bytes Post A) ar s 0 0 A) (F0 m 5 ls []) := by
  obtain ⟨hx, hb, hr, hlocks, hml, hown, hts, hK, hA⟩ := id C0
  intro n
  induction n with
  | zero =>
    intro v1 v2 v3 behind H locs ls hP hD hS hl hw
    exact absurd hw (fun h => h)
  | succ n ih =>
    intro v1 v2 v3 behind H locs ls hP hD hS hl hw
    refine lv_aload_n hx hb dX2_takeRun_5 rfl (lv_at hl 0 rfl) ?_
    refine mx_get (ci := 2) (C := RX2) (T := TX2) (N := 7) hx hb hown in_wsX20 hts hK hP 0 rfl rfl 5 (by decide) q_227 rfl (v := .int behind) rfl dX2_takeRun_6 ?_
    refine lv_aload_n hx hb dX2_takeRun_9 rfl (lv_at hl 0 rfl) ?_
    refine mx_get (ci := 2) (C := RX2) (T := TX2) (N := 7) hx hb hown in_wsX20 hts hK hP 0 rfl rfl 1 (by decide) q_203 rfl (v := .int length) rfl dX2_takeRun_10 ?_
    refine lv_icmp_ge (tgt := 55) hx hb dX2_takeRun_13 (by decide) (fun c_1 => ?_) (fun c_1 => ?_)
    · replace hw := hw.1 c_1
      exact hK_55 v3 behind _ _ _ hP hD hS (lv_sub hl [0, 3] rfl) hw
    · replace hw := hw.2 c_1
      refine lv_aload_n hx hb dX2_takeRun_16 rfl (lv_at hl 0 rfl) ?_
      refine mx_get (ci := 2) (C := RX2) (T := TX2) (N := 7) hx hb hown in_wsX20 hts hK hP 0 rfl rfl 2 (by decide) q_79 rfl (v := .ref a_t_bytes) rfl dX2_takeRun_17 ?_
      refine lv_aload_n hx hb dX2_takeRun_20 rfl (lv_at hl 0 rfl) ?_
      refine mx_get (ci := 2) (C := RX2) (T := TX2) (N := 7) hx hb hown in_wsX20 hts hK hP 0 rfl rfl 5 (by decide) q_227 rfl (v := .int behind) rfl dX2_takeRun_21 ?_
      obtain ⟨h_2, hw⟩ := hw
      refine mx_bald hx hb hK hP 1 1 rfl rfl h_2 (bytes behind.toNatClampNeg) rfl dX2_takeRun_24 ?_
      refine lv_iload_n hx hb dX2_takeRun_25 rfl (lv_at hl 1 rfl) ?_
      refine lv_icmp_lt (tgt := 55) hx hb dX2_takeRun_26 (by decide) (fun c_3 => ?_) (fun c_3 => ?_)
      · replace hw := hw.1 c_3
        exact hK_55 v3 behind _ _ _ hP hD hS (lv_sub hl [0, 3] rfl) hw
      · replace hw := hw.2 c_3
        refine lv_aload_n hx hb dX2_takeRun_29 rfl (lv_at hl 0 rfl) ?_
        refine mx_get (ci := 2) (C := RX2) (T := TX2) (N := 7) hx hb hown in_wsX20 hts hK hP 0 rfl rfl 2 (by decide) q_79 rfl (v := .ref a_t_bytes) rfl dX2_takeRun_30 ?_
        refine lv_aload_n hx hb dX2_takeRun_33 rfl (lv_at hl 0 rfl) ?_
        refine mx_get (ci := 2) (C := RX2) (T := TX2) (N := 7) hx hb hown in_wsX20 hts hK hP 0 rfl rfl 5 (by decide) q_227 rfl (v := .int behind) rfl dX2_takeRun_34 ?_
        refine mx_bald hx hb hK hP 1 1 rfl rfl h_2 (bytes behind.toNatClampNeg) rfl dX2_takeRun_37 ?_
        refine lv_iload_n hx hb dX2_takeRun_38 rfl (lv_at hl 2 rfl) ?_
        refine lv_icmp_gt (tgt := 55) hx hb dX2_takeRun_39 (by decide) (fun c_4 => ?_) (fun c_4 => ?_)
        · replace hw := hw.1 c_4
          exact hK_55 v3 behind _ _ _ hP hD hS (lv_sub hl [0, 3] rfl) hw
        · replace hw := hw.2 c_4
          refine lv_aload_n hx hb dX2_takeRun_42 rfl (lv_at hl 0 rfl) ?_
          refine lv_dup hx hb dX2_takeRun_43 rfl ?_
          refine mx_get (ci := 2) (C := RX2) (T := TX2) (N := 7) hx hb hown in_wsX20 hts hK hP 0 rfl rfl 5 (by decide) q_227 rfl (v := .int behind) rfl dX2_takeRun_44 ?_
          refine lv_iconst (v := 1) hx hb dX2_takeRun_47 (by decide) ?_
          refine lv_iadd hx hb dX2_takeRun_48 ?_
          refine lv_topi (fun x_5 ex_5 => ?_)
          replace hw := hw x_5 ex_5
          refine mx_put (ci := 2) (C := RX2) (T := TX2) (N := 7) hx hb hown in_wsX20 tyX2 tyX2_ok nmX2 hts hK hP hD hS 0 rfl rfl 5 (by decide) q_227 rfl rfl rfl rfl (Nat.le_of_ble_eq_true rfl) (ww_X2_takeRun a_t a_t_bytes a_c cI cB cZ cP cC length token start x_5 value bytes) rfl dX2_takeRun_49 (fun H locs hP hD hS => ?_)
          refine lv_goto (tgt := 5) hx hb dX2_takeRun_52 (by decide) ?_
          exact ih v1 v2 v3 x_5 _ _ _ hP hD hS (lv_sub hl [0, 1, 2, 3] rfl) hw
def wp_X2_takeRun_J55 (length : Int32) (bytes : Nat → Int32) (Post : Int32 → Int32 → Prop)  (v3 : Int32) (behind : Int32) : Prop :=
  Post (behind - v3) behind
set_option maxHeartbeats 4000000 in
set_option maxRecDepth 100000 in
theorem k_X2_takeRun_J55 {p : Program} {l : Launch} {e : Env} {s : State} {m : MethodId} {ar : Array Value} {bl : List Frame} {meth : Method} {c : Code} {D : va_G} {A : Nat → Prop} {cI cB cZ cP cC : ClassId} {a_t a_t_bytes a_c : Nat} {length : Int32} {token : Int32} {start : Int32} {value : Int32} {bytes : Nat → Int32} {Post : Int32 → Int32 → Prop} (C0 : mxC p s m ar meth c cX2_takeRun RX2 (some .int) 4 D (mxTy cI cB cZ cP cC) A) :
    ∀ (v3 : Int32) (behind : Int32) (H : Heap) (locs : List Loc) (ls : Array Slot), va_P D vwCl (ww_X2_takeRun a_t a_t_bytes a_c cI cB cZ cP cC length token start behind value bytes) H → va_D A (ww_X2_takeRun a_t a_t_bytes a_c cI cB cZ cP cC length token start behind value bytes) → va_S A s.heap H locs → lv_has ls 4 [(0, .ref a_t), (3, .int v3)] → wp_X2_takeRun_J55 length bytes Post  v3 behind → W p l e rm_X2_takeRun s m ar bl meth c H locs 0 0 (MQ bl (qq_X2_takeRun D a_t a_t_bytes a_c cI cB cZ cP cC length token start value bytes Post A) ar s 0 0 A) (F0 m 55 ls []) := by
  obtain ⟨hx, hb, hr, hlocks, hml, hown, hts, hK, hA⟩ := id C0
  intro v3 behind H locs ls hP hD hS hl hw
  refine lv_aload_n hx hb dX2_takeRun_55 rfl (lv_at hl 0 rfl) ?_
  refine mx_get (ci := 2) (C := RX2) (T := TX2) (N := 7) hx hb hown in_wsX20 hts hK hP 0 rfl rfl 5 (by decide) q_227 rfl (v := .int behind) rfl dX2_takeRun_56 ?_
  refine lv_iload_n hx hb dX2_takeRun_59 rfl (lv_at hl 1 rfl) ?_
  refine lv_isub hx hb dX2_takeRun_60 ?_
  exact mx_iret behind hx hb hr hlocks rfl hw hK hP hD hS dX2_takeRun_61
def wp_X2_takeRun (length : Int32) (bytes : Nat → Int32) (behind : Int32) (v1 : Int32) (v2 : Int32) (Post : Int32 → Int32 → Prop) : Prop :=
  (∃ k_8 : Nat, wp_X2_takeRun_L5 length bytes Post (fun (v3_6 : Int32) (behind_7 : Int32) => (wp_X2_takeRun_J55 length bytes Post v3_6 behind_7)) k_8 v1 v2 behind behind)
set_option maxHeartbeats 4000000 in
set_option maxRecDepth 100000 in
theorem c_X2_takeRun (l : Launch) (D : va_G) (cI cB cZ cP cC : ClassId) (a_t a_t_bytes a_c : Nat) (length : Int32) (token : Int32) (start : Int32) (behind : Int32) (value : Int32) (bytes : Nat → Int32) (v1 : Int32) (v2 : Int32) (sz : Nat) (Post : Int32 → Int32 → Prop) (hw : wp_X2_takeRun length bytes behind v1 v2 Post) :
    Met l yX2_takeRun (Cond.code yX2_takeRun cX2_takeRun 4 (some .int) :: wsAll) rm_X2_takeRun (va_Pc [.ref a_t, .int v1, .int v2] (mxP D (mxTy cI cB cZ cP cC) sz (ww_X2_takeRun a_t a_t_bytes a_c cI cB cZ cP cC length token start behind value bytes))) (qq_X2_takeRun D a_t a_t_bytes a_c cI cB cZ cP cC length token start value bytes Post (va_A (ww_X2_takeRun a_t a_t_bytes a_c cI cB cZ cP cC length token start behind value bytes) sz)) 0 0 (va_A (ww_X2_takeRun a_t a_t_bytes a_c cI cB cZ cP cC length token start behind value bytes) sz) := by
  refine mx_of (Qc := qq_X2_takeRun D a_t a_t_bytes a_c cI cB cZ cP cC length token start value bytes Post) (by decide) (Nat.le_of_ble_eq_true rfl) ?_
  intro p e s m bl meth c A ls C0 hP hD hS hl
  replace C0 : mxC p s m [.ref a_t, .int v1, .int v2].toArray meth c cX2_takeRun RX2 (some .int) 4 D (mxTy cI cB cZ cP cC) A := C0
  obtain ⟨hx, hb, hr, hlocks, hml, hown, hts, hK, hA⟩ := id C0
  replace hl : lv_has ls 4 [(0, .ref a_t), (1, .int v1), (2, .int v2)] := hl
  unfold wp_X2_takeRun at hw
  refine lv_aload_n hx hb dX2_takeRun_0 rfl (lv_at hl 0 rfl) ?_
  refine mx_get (ci := 2) (C := RX2) (T := TX2) (N := 7) hx hb hown in_wsX20 hts hK hP 0 rfl rfl 5 (by decide) q_227 rfl (v := .int behind) rfl dX2_takeRun_1 ?_
  refine lv_istore_n (lv' := [(3, .int behind), (0, .ref a_t), (1, .int v1), (2, .int v2)]) hx hb dX2_takeRun_4 rfl hl (by decide) rfl (fun ls hl => ?_)
  obtain ⟨n0, hw⟩ := hw
  refine k_X2_takeRun_L5 C0 ?_ n0 v1 v2 behind behind _ _ _ hP hD hS (lv_sub hl [1, 2, 3, 0] rfl) hw
  intro v3_6 behind_7 H locs ls hP hD hS hl hw
  exact k_X2_takeRun_J55 C0  v3_6 behind_7 _ _ _ hP hD hS (lv_sub hl [0, 1] rfl) hw
/-! PramState$CourtText.advance()V -/
abbrev ww_X2_advance (a_t a_t_bytes a_c : Nat) (cI cB cZ cP cC : ClassId) (length : Int32) (token : Int32) (start : Int32) (behind : Int32) (value : Int32) (bytes : Nat → Int32) : va_W := [(a_t, .inr (2, [.ref a_c, .int length, .ref a_t_bytes, .int token, .int start, .int behind, .int value])), (a_t_bytes, .inl (cB, 150, .inl bytes))]
abbrev qq_X2_advance (D : va_G) (a_t a_t_bytes a_c : Nat) (cI cB cZ cP cC : ClassId) (length : Int32) (bytes : Nat → Int32) (Post : Int32 → Int32 → Int32 → Int32 → Prop) (A : Nat → Prop) : Array Value → State → Outcome → State → Prop := va_Qv (fun (u : Int32 × Int32 × Int32 × Int32) => Post u.1 u.2.1 u.2.2.1 u.2.2.2) (fun (u : Int32 × Int32 × Int32 × Int32) t => mxB D (mxTy cI cB cZ cP cC) A (ww_X2_advance a_t a_t_bytes a_c cI cB cZ cP cC length (u.1) (u.2.1) (u.2.2.1) (u.2.2.2) bytes) t) A
abbrev rm_X2_advance : Room := { frames := 1, cells := 0, slots := 0, locals := 23 }
theorem hd_X2_advance : yX2_advance.cls = RX2 ∧ yX2_advance.cls ≠ "java/lang/invoke/MethodHandle" ∧ yX2_advance.cls ≠ "java/lang/invoke/VarHandle" ∧ (parseMethodDescriptor yX2_advance.desc).map (fun d => d.parameters.length) = some 0 := by decide +kernel
def wp_X2_advance_J166 (length : Int32) (bytes : Nat → Int32) (Post : Int32 → Int32 → Int32 → Int32 → Prop)  (s0 : Int32) (token : Int32) (start : Int32) (behind : Int32) (value : Int32) : Prop :=
  (∀ x_12 : Int32, x_12 = behind + 1 → Post s0 start x_12 value)
set_option maxHeartbeats 4000000 in
set_option maxRecDepth 100000 in
theorem k_X2_advance_J166 {p : Program} {l : Launch} {e : Env} {s : State} {m : MethodId} {ar : Array Value} {bl : List Frame} {meth : Method} {c : Code} {D : va_G} {A : Nat → Prop} {cI cB cZ cP cC : ClassId} {a_t a_t_bytes a_c : Nat} {length : Int32} {bytes : Nat → Int32} {Post : Int32 → Int32 → Int32 → Int32 → Prop} (C0 : mxC p s m ar meth c cX2_advance RX2 none 1 D (mxTy cI cB cZ cP cC) A) :
    ∀ (s0 : Int32) (token : Int32) (start : Int32) (behind : Int32) (value : Int32) (H : Heap) (locs : List Loc) (ls : Array Slot), va_P D vwCl (ww_X2_advance a_t a_t_bytes a_c cI cB cZ cP cC length token start behind value bytes) H → va_D A (ww_X2_advance a_t a_t_bytes a_c cI cB cZ cP cC length token start behind value bytes) → va_S A s.heap H locs → lv_has ls 1 [(0, .ref a_t)] → wp_X2_advance_J166 length bytes Post  s0 token start behind value → W p l e rm_X2_advance s m ar bl meth c H locs 0 0 (MQ bl (qq_X2_advance D a_t a_t_bytes a_c cI cB cZ cP cC length bytes Post A) ar s 0 0 A) (F0 m 166 ls [.int s0, .ref a_t]) := by
  obtain ⟨hx, hb, hr, hlocks, hml, hown, hts, hK, hA⟩ := id C0
  intro s0 token start behind value H locs ls hP hD hS hl hw
  refine mx_put (ci := 2) (C := RX2) (T := TX2) (N := 7) hx hb hown in_wsX20 tyX2 tyX2_ok nmX2 hts hK hP hD hS 0 rfl rfl 3 (by decide) q_228 rfl rfl rfl rfl (Nat.le_of_ble_eq_true rfl) (ww_X2_advance a_t a_t_bytes a_c cI cB cZ cP cC length s0 start behind value bytes) rfl dX2_advance_166 (fun H locs hP hD hS => ?_)
  refine lv_aload_n hx hb dX2_advance_169 rfl (lv_at hl 0 rfl) ?_
  refine lv_dup hx hb dX2_advance_170 rfl ?_
  refine mx_get (ci := 2) (C := RX2) (T := TX2) (N := 7) hx hb hown in_wsX20 hts hK hP 0 rfl rfl 5 (by decide) q_227 rfl (v := .int behind) rfl dX2_advance_171 ?_
  refine lv_iconst (v := 1) hx hb dX2_advance_174 (by decide) ?_
  refine lv_iadd hx hb dX2_advance_175 ?_
  refine lv_topi (fun x_12 ex_12 => ?_)
  replace hw := hw x_12 ex_12
  refine mx_put (ci := 2) (C := RX2) (T := TX2) (N := 7) hx hb hown in_wsX20 tyX2 tyX2_ok nmX2 hts hK hP hD hS 0 rfl rfl 5 (by decide) q_227 rfl rfl rfl rfl (Nat.le_of_ble_eq_true rfl) (ww_X2_advance a_t a_t_bytes a_c cI cB cZ cP cC length s0 start x_12 value bytes) rfl dX2_advance_176 (fun H locs hP hD hS => ?_)
  exact mx_vret (s0, start, x_12, value) hx hb hr hlocks hw hK hP hD hS dX2_advance_179
def wp_X2_advance_J66 (length : Int32) (bytes : Nat → Int32) (Post : Int32 → Int32 → Int32 → Int32 → Prop)  (s0 : Int32) (token : Int32) (start : Int32) (behind : Int32) (value : Int32) : Prop :=
  (vp_in (behind - 1) 150 ∧ (∀ x_15 : Int32, x_15 = (bytes (behind - 1).toNatClampNeg) - 48 → (((behind - start) ≤ 1 → Post s0 start behind x_15) ∧ (¬ (behind - start) ≤ 1 → (vp_in start 150 ∧ (∀ x_18 : Int32, x_18 = x_15 + (10 * ((bytes start.toNatClampNeg) - 48)) → Post s0 start behind x_18))))))
set_option maxHeartbeats 4000000 in
set_option maxRecDepth 100000 in
theorem k_X2_advance_J66 {p : Program} {l : Launch} {e : Env} {s : State} {m : MethodId} {ar : Array Value} {bl : List Frame} {meth : Method} {c : Code} {D : va_G} {A : Nat → Prop} {cI cB cZ cP cC : ClassId} {a_t a_t_bytes a_c : Nat} {length : Int32} {bytes : Nat → Int32} {Post : Int32 → Int32 → Int32 → Int32 → Prop} (C0 : mxC p s m ar meth c cX2_advance RX2 none 1 D (mxTy cI cB cZ cP cC) A) :
    ∀ (s0 : Int32) (token : Int32) (start : Int32) (behind : Int32) (value : Int32) (H : Heap) (locs : List Loc) (ls : Array Slot), va_P D vwCl (ww_X2_advance a_t a_t_bytes a_c cI cB cZ cP cC length token start behind value bytes) H → va_D A (ww_X2_advance a_t a_t_bytes a_c cI cB cZ cP cC length token start behind value bytes) → va_S A s.heap H locs → lv_has ls 1 [(0, .ref a_t)] → wp_X2_advance_J66 length bytes Post  s0 token start behind value → W p l e rm_X2_advance s m ar bl meth c H locs 0 0 (MQ bl (qq_X2_advance D a_t a_t_bytes a_c cI cB cZ cP cC length bytes Post A) ar s 0 0 A) (F0 m 66 ls [.int s0, .ref a_t]) := by
  obtain ⟨hx, hb, hr, hlocks, hml, hown, hts, hK, hA⟩ := id C0
  intro s0 token start behind value H locs ls hP hD hS hl hw
  refine mx_put (ci := 2) (C := RX2) (T := TX2) (N := 7) hx hb hown in_wsX20 tyX2 tyX2_ok nmX2 hts hK hP hD hS 0 rfl rfl 3 (by decide) q_228 rfl rfl rfl rfl (Nat.le_of_ble_eq_true rfl) (ww_X2_advance a_t a_t_bytes a_c cI cB cZ cP cC length s0 start behind value bytes) rfl dX2_advance_66 (fun H locs hP hD hS => ?_)
  refine lv_aload_n hx hb dX2_advance_69 rfl (lv_at hl 0 rfl) ?_
  refine lv_aload_n hx hb dX2_advance_70 rfl (lv_at hl 0 rfl) ?_
  refine mx_get (ci := 2) (C := RX2) (T := TX2) (N := 7) hx hb hown in_wsX20 hts hK hP 0 rfl rfl 2 (by decide) q_79 rfl (v := .ref a_t_bytes) rfl dX2_advance_71 ?_
  refine lv_aload_n hx hb dX2_advance_74 rfl (lv_at hl 0 rfl) ?_
  refine mx_get (ci := 2) (C := RX2) (T := TX2) (N := 7) hx hb hown in_wsX20 hts hK hP 0 rfl rfl 5 (by decide) q_227 rfl (v := .int behind) rfl dX2_advance_75 ?_
  refine lv_iconst (v := 1) hx hb dX2_advance_78 (by decide) ?_
  refine lv_isub hx hb dX2_advance_79 ?_
  obtain ⟨h_14, hw⟩ := hw
  refine mx_bald hx hb hK hP 1 1 rfl rfl h_14 (bytes (behind - 1).toNatClampNeg) rfl dX2_advance_80 ?_
  refine lv_bipush (v := 48) hx hb dX2_advance_81 (by decide) ?_
  refine lv_isub hx hb dX2_advance_83 ?_
  refine lv_topi (fun x_15 ex_15 => ?_)
  replace hw := hw x_15 ex_15
  refine mx_put (ci := 2) (C := RX2) (T := TX2) (N := 7) hx hb hown in_wsX20 tyX2 tyX2_ok nmX2 hts hK hP hD hS 0 rfl rfl 6 (by decide) q_235 rfl rfl rfl rfl (Nat.le_of_ble_eq_true rfl) (ww_X2_advance a_t a_t_bytes a_c cI cB cZ cP cC length s0 start behind x_15 bytes) rfl dX2_advance_84 (fun H locs hP hD hS => ?_)
  refine lv_aload_n hx hb dX2_advance_87 rfl (lv_at hl 0 rfl) ?_
  refine mx_get (ci := 2) (C := RX2) (T := TX2) (N := 7) hx hb hown in_wsX20 hts hK hP 0 rfl rfl 5 (by decide) q_227 rfl (v := .int behind) rfl dX2_advance_88 ?_
  refine lv_aload_n hx hb dX2_advance_91 rfl (lv_at hl 0 rfl) ?_
  refine mx_get (ci := 2) (C := RX2) (T := TX2) (N := 7) hx hb hown in_wsX20 hts hK hP 0 rfl rfl 4 (by decide) q_229 rfl (v := .int start) rfl dX2_advance_92 ?_
  refine lv_isub hx hb dX2_advance_95 ?_
  refine lv_iconst (v := 1) hx hb dX2_advance_96 (by decide) ?_
  refine lv_icmp_le (tgt := 179) hx hb dX2_advance_97 (by decide) (fun c_16 => ?_) (fun c_16 => ?_)
  · replace hw := hw.1 c_16
    exact mx_vret (s0, start, behind, x_15) hx hb hr hlocks hw hK hP hD hS dX2_advance_179
  · replace hw := hw.2 c_16
    refine lv_aload_n hx hb dX2_advance_100 rfl (lv_at hl 0 rfl) ?_
    refine lv_dup hx hb dX2_advance_101 rfl ?_
    refine mx_get (ci := 2) (C := RX2) (T := TX2) (N := 7) hx hb hown in_wsX20 hts hK hP 0 rfl rfl 6 (by decide) q_235 rfl (v := .int x_15) rfl dX2_advance_102 ?_
    refine lv_bipush (v := 10) hx hb dX2_advance_105 (by decide) ?_
    refine lv_aload_n hx hb dX2_advance_107 rfl (lv_at hl 0 rfl) ?_
    refine mx_get (ci := 2) (C := RX2) (T := TX2) (N := 7) hx hb hown in_wsX20 hts hK hP 0 rfl rfl 2 (by decide) q_79 rfl (v := .ref a_t_bytes) rfl dX2_advance_108 ?_
    refine lv_aload_n hx hb dX2_advance_111 rfl (lv_at hl 0 rfl) ?_
    refine mx_get (ci := 2) (C := RX2) (T := TX2) (N := 7) hx hb hown in_wsX20 hts hK hP 0 rfl rfl 4 (by decide) q_229 rfl (v := .int start) rfl dX2_advance_112 ?_
    obtain ⟨h_17, hw⟩ := hw
    refine mx_bald hx hb hK hP 1 1 rfl rfl h_17 (bytes start.toNatClampNeg) rfl dX2_advance_115 ?_
    refine lv_bipush (v := 48) hx hb dX2_advance_116 (by decide) ?_
    refine lv_isub hx hb dX2_advance_118 ?_
    refine lv_imul hx hb dX2_advance_119 ?_
    refine lv_iadd hx hb dX2_advance_120 ?_
    refine lv_topi (fun x_18 ex_18 => ?_)
    replace hw := hw x_18 ex_18
    refine mx_put (ci := 2) (C := RX2) (T := TX2) (N := 7) hx hb hown in_wsX20 tyX2 tyX2_ok nmX2 hts hK hP hD hS 0 rfl rfl 6 (by decide) q_235 rfl rfl rfl rfl (Nat.le_of_ble_eq_true rfl) (ww_X2_advance a_t a_t_bytes a_c cI cB cZ cP cC length s0 start behind x_18 bytes) rfl dX2_advance_121 (fun H locs hP hD hS => ?_)
    refine lv_goto (tgt := 179) hx hb dX2_advance_124 (by decide) ?_
    exact mx_vret (s0, start, behind, x_18) hx hb hr hlocks hw hK hP hD hS dX2_advance_179
def wp_X2_advance (length : Int32) (bytes : Nat → Int32) (token : Int32) (start : Int32) (behind : Int32) (value : Int32) (Post : Int32 → Int32 → Int32 → Int32 → Prop) : Prop :=
  (wp_X2_takeRun length bytes behind 32 32 (fun r_1 behind_2 => (wp_X2_takeRun length bytes behind_2 97 122 (fun r_3 behind_4 => ((r_3 ≤ 0 → (wp_X2_takeRun length bytes behind_4 48 57 (fun r_6 behind_7 => ((r_6 ≤ 0 → ((behind_2 < length → (vp_in behind_2 150 ∧ (((bytes behind_2.toNatClampNeg) = 59 → (wp_X2_advance_J166 length bytes Post 3 token behind_2 behind_7 value)) ∧ (¬ (bytes behind_2.toNatClampNeg) = 59 → (wp_X2_advance_J166 length bytes Post 4 token behind_2 behind_7 value))))) ∧ (¬ behind_2 < length → Post 0 behind_2 behind_7 value))) ∧ (¬ r_6 ≤ 0 → ((2 < (behind_7 - behind_2) → (wp_X2_advance_J66 length bytes Post 4 token behind_2 behind_7 value)) ∧ (¬ 2 < (behind_7 - behind_2) → (wp_X2_advance_J66 length bytes Post 2 token behind_2 behind_7 value)))))))) ∧ (¬ r_3 ≤ 0 → Post 1 behind_2 behind_4 value))))))
set_option maxHeartbeats 4000000 in
set_option maxRecDepth 100000 in
theorem c_X2_advance (l : Launch) (D : va_G) (cI cB cZ cP cC : ClassId) (a_t a_t_bytes a_c : Nat) (length : Int32) (token : Int32) (start : Int32) (behind : Int32) (value : Int32) (bytes : Nat → Int32)  (sz : Nat) (Post : Int32 → Int32 → Int32 → Int32 → Prop) (hw : wp_X2_advance length bytes token start behind value Post) :
    Met l yX2_advance (Cond.code yX2_advance cX2_advance 1 none :: wsAll) rm_X2_advance (va_Pc [.ref a_t] (mxP D (mxTy cI cB cZ cP cC) sz (ww_X2_advance a_t a_t_bytes a_c cI cB cZ cP cC length token start behind value bytes))) (qq_X2_advance D a_t a_t_bytes a_c cI cB cZ cP cC length bytes Post (va_A (ww_X2_advance a_t a_t_bytes a_c cI cB cZ cP cC length token start behind value bytes) sz)) 0 0 (va_A (ww_X2_advance a_t a_t_bytes a_c cI cB cZ cP cC length token start behind value bytes) sz) := by
  refine mx_of (Qc := qq_X2_advance D a_t a_t_bytes a_c cI cB cZ cP cC length bytes Post) (by decide) (Nat.le_of_ble_eq_true rfl) ?_
  intro p e s m bl meth c A ls C0 hP hD hS hl
  replace C0 : mxC p s m [.ref a_t].toArray meth c cX2_advance RX2 none 1 D (mxTy cI cB cZ cP cC) A := C0
  obtain ⟨hx, hb, hr, hlocks, hml, hown, hts, hK, hA⟩ := id C0
  replace hl : lv_has ls 1 [(0, .ref a_t)] := hl
  unfold wp_X2_advance at hw
  refine lv_aload_n hx hb dX2_advance_0 rfl (lv_at hl 0 rfl) ?_
  refine lv_bipush (v := 32) hx hb dX2_advance_1 (by decide) ?_
  refine lv_bipush (v := 32) hx hb dX2_advance_3 (by decide) ?_
  refine mx_ki (mx_rV (rm := rm_X2_takeRun) (rest := []) (C := RX2) hx hb hml hown hts (c_X2_takeRun l D cI cB cZ cP cC a_t a_t_bytes a_c length token start behind value bytes 32 32 _ _ hw) q_236 q_237 q_238 q_39 q_239 hd_X2_takeRun ⟨(Nat.le_of_ble_eq_true rfl), (Nat.le_of_ble_eq_true rfl)⟩ rfl rfl hK hP hD [0, 1] rfl rfl 2 0 rfl rfl rfl rfl hl.1 rfl (Nat.le_of_ble_eq_true rfl) dX2_advance_5 ⟨(Nat.le_of_ble_eq_true rfl), (Nat.le_of_ble_eq_true rfl)⟩) hP hD hS hA [0, 1] [] [0, 1] (fun u => ww_X2_advance a_t a_t_bytes a_c cI cB cZ cP cC length token start u value bytes) rfl rfl rfl (by decide) rfl (fun _ => rfl) (fun r_1 behind_2 H locs hw hP hD hS => ?_)
  try dsimp only at hw
  replace hP : va_P D vwCl (ww_X2_advance a_t a_t_bytes a_c cI cB cZ cP cC length token start behind_2 value bytes) H := hP
  replace hD : va_D A (ww_X2_advance a_t a_t_bytes a_c cI cB cZ cP cC length token start behind_2 value bytes) := hD
  refine lv_pop hx hb dX2_advance_8 rfl ?_
  refine lv_aload_n hx hb dX2_advance_9 rfl (lv_at hl 0 rfl) ?_
  refine lv_aload_n hx hb dX2_advance_10 rfl (lv_at hl 0 rfl) ?_
  refine mx_get (ci := 2) (C := RX2) (T := TX2) (N := 7) hx hb hown in_wsX20 hts hK hP 0 rfl rfl 5 (by decide) q_227 rfl (v := .int behind_2) rfl dX2_advance_11 ?_
  refine mx_put (ci := 2) (C := RX2) (T := TX2) (N := 7) hx hb hown in_wsX20 tyX2 tyX2_ok nmX2 hts hK hP hD hS 0 rfl rfl 4 (by decide) q_229 rfl rfl rfl rfl (Nat.le_of_ble_eq_true rfl) (ww_X2_advance a_t a_t_bytes a_c cI cB cZ cP cC length token behind_2 behind_2 value bytes) rfl dX2_advance_14 (fun H locs hP hD hS => ?_)
  refine lv_aload_n hx hb dX2_advance_17 rfl (lv_at hl 0 rfl) ?_
  refine lv_bipush (v := 97) hx hb dX2_advance_18 (by decide) ?_
  refine lv_bipush (v := 122) hx hb dX2_advance_20 (by decide) ?_
  refine mx_ki (mx_rV (rm := rm_X2_takeRun) (rest := []) (C := RX2) hx hb hml hown hts (c_X2_takeRun l D cI cB cZ cP cC a_t a_t_bytes a_c length token behind_2 behind_2 value bytes 97 122 _ _ hw) q_236 q_237 q_238 q_39 q_239 hd_X2_takeRun ⟨(Nat.le_of_ble_eq_true rfl), (Nat.le_of_ble_eq_true rfl)⟩ rfl rfl hK hP hD [0, 1] rfl rfl 2 0 rfl rfl rfl rfl hl.1 rfl (Nat.le_of_ble_eq_true rfl) dX2_advance_22 ⟨(Nat.le_of_ble_eq_true rfl), (Nat.le_of_ble_eq_true rfl)⟩) hP hD hS hA [0, 1] [] [0, 1] (fun u => ww_X2_advance a_t a_t_bytes a_c cI cB cZ cP cC length token behind_2 u value bytes) rfl rfl rfl (by decide) rfl (fun _ => rfl) (fun r_3 behind_4 H locs hw hP hD hS => ?_)
  try dsimp only at hw
  replace hP : va_P D vwCl (ww_X2_advance a_t a_t_bytes a_c cI cB cZ cP cC length token behind_2 behind_4 value bytes) H := hP
  replace hD : va_D A (ww_X2_advance a_t a_t_bytes a_c cI cB cZ cP cC length token behind_2 behind_4 value bytes) := hD
  refine lv_if_le (tgt := 36) hx hb dX2_advance_25 (by decide) (fun c_5 => ?_) (fun c_5 => ?_)
  · replace hw := hw.1 c_5
    refine lv_aload_n hx hb dX2_advance_36 rfl (lv_at hl 0 rfl) ?_
    refine lv_bipush (v := 48) hx hb dX2_advance_37 (by decide) ?_
    refine lv_bipush (v := 57) hx hb dX2_advance_39 (by decide) ?_
    refine mx_ki (mx_rV (rm := rm_X2_takeRun) (rest := []) (C := RX2) hx hb hml hown hts (c_X2_takeRun l D cI cB cZ cP cC a_t a_t_bytes a_c length token behind_2 behind_4 value bytes 48 57 _ _ hw) q_236 q_237 q_238 q_39 q_239 hd_X2_takeRun ⟨(Nat.le_of_ble_eq_true rfl), (Nat.le_of_ble_eq_true rfl)⟩ rfl rfl hK hP hD [0, 1] rfl rfl 2 0 rfl rfl rfl rfl hl.1 rfl (Nat.le_of_ble_eq_true rfl) dX2_advance_41 ⟨(Nat.le_of_ble_eq_true rfl), (Nat.le_of_ble_eq_true rfl)⟩) hP hD hS hA [0, 1] [] [0, 1] (fun u => ww_X2_advance a_t a_t_bytes a_c cI cB cZ cP cC length token behind_2 u value bytes) rfl rfl rfl (by decide) rfl (fun _ => rfl) (fun r_6 behind_7 H locs hw hP hD hS => ?_)
    try dsimp only at hw
    replace hP : va_P D vwCl (ww_X2_advance a_t a_t_bytes a_c cI cB cZ cP cC length token behind_2 behind_7 value bytes) H := hP
    replace hD : va_D A (ww_X2_advance a_t a_t_bytes a_c cI cB cZ cP cC length token behind_2 behind_7 value bytes) := hD
    refine lv_if_le (tgt := 127) hx hb dX2_advance_44 (by decide) (fun c_8 => ?_) (fun c_8 => ?_)
    · replace hw := hw.1 c_8
      refine lv_aload_n hx hb dX2_advance_127 rfl (lv_at hl 0 rfl) ?_
      refine mx_get (ci := 2) (C := RX2) (T := TX2) (N := 7) hx hb hown in_wsX20 hts hK hP 0 rfl rfl 4 (by decide) q_229 rfl (v := .int behind_2) rfl dX2_advance_128 ?_
      refine lv_aload_n hx hb dX2_advance_131 rfl (lv_at hl 0 rfl) ?_
      refine mx_get (ci := 2) (C := RX2) (T := TX2) (N := 7) hx hb hown in_wsX20 hts hK hP 0 rfl rfl 1 (by decide) q_203 rfl (v := .int length) rfl dX2_advance_132 ?_
      refine lv_icmp_lt (tgt := 146) hx hb dX2_advance_135 (by decide) (fun c_9 => ?_) (fun c_9 => ?_)
      · replace hw := hw.1 c_9
        refine lv_aload_n hx hb dX2_advance_146 rfl (lv_at hl 0 rfl) ?_
        refine lv_aload_n hx hb dX2_advance_147 rfl (lv_at hl 0 rfl) ?_
        refine mx_get (ci := 2) (C := RX2) (T := TX2) (N := 7) hx hb hown in_wsX20 hts hK hP 0 rfl rfl 2 (by decide) q_79 rfl (v := .ref a_t_bytes) rfl dX2_advance_148 ?_
        refine lv_aload_n hx hb dX2_advance_151 rfl (lv_at hl 0 rfl) ?_
        refine mx_get (ci := 2) (C := RX2) (T := TX2) (N := 7) hx hb hown in_wsX20 hts hK hP 0 rfl rfl 4 (by decide) q_229 rfl (v := .int behind_2) rfl dX2_advance_152 ?_
        obtain ⟨h_10, hw⟩ := hw
        refine mx_bald hx hb hK hP 1 1 rfl rfl h_10 (bytes behind_2.toNatClampNeg) rfl dX2_advance_155 ?_
        refine lv_bipush (v := 59) hx hb dX2_advance_156 (by decide) ?_
        refine lv_icmp_ne (tgt := 165) hx hb dX2_advance_158 (by decide) (fun c_11 => ?_) (fun c_11 => ?_)
        · replace hw := hw.2 c_11
          refine lv_iconst (v := 4) hx hb dX2_advance_165 (by decide) ?_
          exact k_X2_advance_J166 C0  4 token behind_2 behind_7 value _ _ _ hP hD hS (lv_sub hl [0] rfl) hw
        · replace hw := hw.1 c_11
          refine lv_iconst (v := 3) hx hb dX2_advance_161 (by decide) ?_
          refine lv_goto (tgt := 166) hx hb dX2_advance_162 (by decide) ?_
          exact k_X2_advance_J166 C0  3 token behind_2 behind_7 value _ _ _ hP hD hS (lv_sub hl [0] rfl) hw
      · replace hw := hw.2 c_9
        refine lv_aload_n hx hb dX2_advance_138 rfl (lv_at hl 0 rfl) ?_
        refine lv_iconst (v := 0) hx hb dX2_advance_139 (by decide) ?_
        refine mx_put (ci := 2) (C := RX2) (T := TX2) (N := 7) hx hb hown in_wsX20 tyX2 tyX2_ok nmX2 hts hK hP hD hS 0 rfl rfl 3 (by decide) q_228 rfl rfl rfl rfl (Nat.le_of_ble_eq_true rfl) (ww_X2_advance a_t a_t_bytes a_c cI cB cZ cP cC length 0 behind_2 behind_7 value bytes) rfl dX2_advance_140 (fun H locs hP hD hS => ?_)
        refine lv_goto (tgt := 179) hx hb dX2_advance_143 (by decide) ?_
        exact mx_vret (0, behind_2, behind_7, value) hx hb hr hlocks hw hK hP hD hS dX2_advance_179
    · replace hw := hw.2 c_8
      refine lv_aload_n hx hb dX2_advance_47 rfl (lv_at hl 0 rfl) ?_
      refine lv_aload_n hx hb dX2_advance_48 rfl (lv_at hl 0 rfl) ?_
      refine mx_get (ci := 2) (C := RX2) (T := TX2) (N := 7) hx hb hown in_wsX20 hts hK hP 0 rfl rfl 5 (by decide) q_227 rfl (v := .int behind_7) rfl dX2_advance_49 ?_
      refine lv_aload_n hx hb dX2_advance_52 rfl (lv_at hl 0 rfl) ?_
      refine mx_get (ci := 2) (C := RX2) (T := TX2) (N := 7) hx hb hown in_wsX20 hts hK hP 0 rfl rfl 4 (by decide) q_229 rfl (v := .int behind_2) rfl dX2_advance_53 ?_
      refine lv_isub hx hb dX2_advance_56 ?_
      refine lv_iconst (v := 2) hx hb dX2_advance_57 (by decide) ?_
      refine lv_icmp_gt (tgt := 65) hx hb dX2_advance_58 (by decide) (fun c_13 => ?_) (fun c_13 => ?_)
      · replace hw := hw.1 c_13
        refine lv_iconst (v := 4) hx hb dX2_advance_65 (by decide) ?_
        exact k_X2_advance_J66 C0  4 token behind_2 behind_7 value _ _ _ hP hD hS (lv_sub hl [0] rfl) hw
      · replace hw := hw.2 c_13
        refine lv_iconst (v := 2) hx hb dX2_advance_61 (by decide) ?_
        refine lv_goto (tgt := 66) hx hb dX2_advance_62 (by decide) ?_
        exact k_X2_advance_J66 C0  2 token behind_2 behind_7 value _ _ _ hP hD hS (lv_sub hl [0] rfl) hw
  · replace hw := hw.2 c_5
    refine lv_aload_n hx hb dX2_advance_28 rfl (lv_at hl 0 rfl) ?_
    refine lv_iconst (v := 1) hx hb dX2_advance_29 (by decide) ?_
    refine mx_put (ci := 2) (C := RX2) (T := TX2) (N := 7) hx hb hown in_wsX20 tyX2 tyX2_ok nmX2 hts hK hP hD hS 0 rfl rfl 3 (by decide) q_228 rfl rfl rfl rfl (Nat.le_of_ble_eq_true rfl) (ww_X2_advance a_t a_t_bytes a_c cI cB cZ cP cC length 1 behind_2 behind_4 value bytes) rfl dX2_advance_30 (fun H locs hP hD hS => ?_)
    refine lv_goto (tgt := 179) hx hb dX2_advance_33 (by decide) ?_
    exact mx_vret (1, behind_2, behind_4, value) hx hb hr hlocks hw hK hP hD hS dX2_advance_179
/-! PramState$CourtText.isWord(Ljava/lang/String;)Z -/
abbrev ww_X2_isWord (a_t a_t_bytes a_c : Nat) (cI cB cZ cP cC : ClassId) (length : Int32) (token : Int32) (start : Int32) (behind : Int32) (value : Int32) (bytes : Nat → Int32) : va_W := [(a_t, .inr (2, [.ref a_c, .int length, .ref a_t_bytes, .int token, .int start, .int behind, .int value])), (a_t_bytes, .inl (cB, 150, .inl bytes))]
abbrev qq_X2_isWord (D : va_G) (a_t a_t_bytes a_c : Nat) (cI cB cZ cP cC : ClassId) (length : Int32) (token : Int32) (start : Int32) (behind : Int32) (value : Int32) (bytes : Nat → Int32) (Post : Int32 → Prop) (A : Nat → Prop) : Array Value → State → Outcome → State → Prop := va_Qi (fun (r : Int32) (u : Unit) => Post r) (fun (u : Unit) t => mxB D (mxTy cI cB cZ cP cC) A (ww_X2_isWord a_t a_t_bytes a_c cI cB cZ cP cC length token start behind value bytes) t) A
abbrev rm_X2_isWord : Room := { frames := 4, cells := 0, slots := 0, locals := 85 }
theorem hd_X2_isWord : yX2_isWord.cls = RX2 ∧ yX2_isWord.cls ≠ "java/lang/invoke/MethodHandle" ∧ yX2_isWord.cls ≠ "java/lang/invoke/VarHandle" ∧ (parseMethodDescriptor yX2_isWord.desc).map (fun d => d.parameters.length) = some 1 := by decide +kernel
def wp_X2_isWord_L28 (j : Nat) (token : Int32) (start : Int32) (behind : Int32) (bytes : Nat → Int32) (Post : Int32 → Prop)  : Nat → Int32 → Prop
  | 0, _ => False
  | n + 1, v2 => (((nI (stLen.getD j 0)) ≤ v2 → Post 1) ∧ (¬ (nI (stLen.getD j 0)) ≤ v2 → (vp_in (start + v2) 150 ∧ (vp_in v2 (stLen.getD j 0) ∧ (((bytes (start + v2).toNatClampNeg) = (stCh j v2) → (∀ x_13 : Int32, x_13 = v2 + 1 → wp_X2_isWord_L28 j token start behind bytes Post  n x_13)) ∧ (¬ (bytes (start + v2).toNatClampNeg) = (stCh j v2) → Post 0))))))
set_option maxHeartbeats 4000000 in
set_option maxRecDepth 100000 in
theorem k_X2_isWord_L28 {p : Program} {l : Launch} {e : Env} {s : State} {m : MethodId} {ar : Array Value} {bl : List Frame} {meth : Method} {c : Code} {D : va_G} {A : Nat → Prop} {cI cB cZ cP cC : ClassId} {a_t a_t_bytes a_c : Nat} {j : Nat} {adK adV : Nat → Nat} {length : Int32} {token : Int32} {start : Int32} {behind : Int32} {value : Int32} {bytes : Nat → Int32} {Post : Int32 → Prop} (C0 : mxC p s m ar meth c cX2_isWord RX2 (some .boolean) 3 D (mxTy cI cB cZ cP cC) A) (hX : stX adK adV A s) (hj : j < 4) :
    ∀ (n : Nat) (v2 : Int32) (H : Heap) (locs : List Loc) (ls : Array Slot), va_P D vwCl (ww_X2_isWord a_t a_t_bytes a_c cI cB cZ cP cC length token start behind value bytes) H → va_D A (ww_X2_isWord a_t a_t_bytes a_c cI cB cZ cP cC length token start behind value bytes) → va_S A s.heap H locs → lv_has ls 3 [(0, .ref a_t), (1, .ref (adK j)), (2, .int v2)] → wp_X2_isWord_L28 j token start behind bytes Post  n v2 → W p l e rm_X2_isWord s m ar bl meth c H locs 0 0 (MQ bl (qq_X2_isWord D a_t a_t_bytes a_c cI cB cZ cP cC length token start behind value bytes Post A) ar s 0 0 A) (F0 m 28 ls []) := by
  obtain ⟨hx, hb, hr, hlocks, hml, hown, hts, hK, hA⟩ := id C0
  intro n
  induction n with
  | zero =>
    intro v2 H locs ls hP hD hS hl hw
    exact absurd hw (fun h => h)
  | succ n ih =>
    intro v2 H locs ls hP hD hS hl hw
    refine lv_iload_n hx hb dX2_isWord_28 rfl (lv_at hl 2 rfl) ?_
    refine lv_aload_n hx hb dX2_isWord_29 rfl (lv_at hl 1 rfl) ?_
    refine mx_ki (wc := []) (w1 := fun _ => []) (mx_rVX (rm := rm_J0_length) (rest := [.int v2]) (C := RJ0) (wc := []) hx hb hml hown hts hX hS hA (c_J0_length l D cI cB cZ cP cC adK adV j hj _ (fun r => r = nI (stLen.getD j 0)) rfl) q_248 q_249 q_250 q_251 q_252 hd_J0_length ⟨(Nat.le_of_ble_eq_true rfl), (Nat.le_of_ble_eq_true rfl)⟩ rfl rfl hK hP hD [] rfl rfl (vk_recv hX.1 hj hS) rfl hl.1 rfl (Nat.le_of_ble_eq_true rfl) dX2_isWord_30 ⟨(Nat.le_of_ble_eq_true rfl), (Nat.le_of_ble_eq_true rfl)⟩) hP hD hS hA [] [0, 1] [0, 1] (fun _ => ww_X2_isWord a_t a_t_bytes a_c cI cB cZ cP cC length token start behind value bytes) rfl rfl rfl (by decide) rfl (fun _ => rfl) (fun r_5 _ H locs e_6 hP hD hS => ?_)
    subst e_6
    replace hP : va_P D vwCl (ww_X2_isWord a_t a_t_bytes a_c cI cB cZ cP cC length token start behind value bytes) H := hP
    replace hD : va_D A (ww_X2_isWord a_t a_t_bytes a_c cI cB cZ cP cC length token start behind value bytes) := hD
    refine lv_icmp_ge (tgt := 63) hx hb dX2_isWord_33 (by decide) (fun c_7 => ?_) (fun c_7 => ?_)
    · replace hw := hw.1 c_7
      refine lv_iconst (v := 1) hx hb dX2_isWord_63 (by decide) ?_
      exact mx_iret () hx hb hr hlocks rfl hw hK hP hD hS dX2_isWord_64
    · replace hw := hw.2 c_7
      refine lv_aload_n hx hb dX2_isWord_36 rfl (lv_at hl 0 rfl) ?_
      refine mx_get (ci := 2) (C := RX2) (T := TX2) (N := 7) hx hb hown in_wsX20 hts hK hP 0 rfl rfl 2 (by decide) q_79 rfl (v := .ref a_t_bytes) rfl dX2_isWord_37 ?_
      refine lv_aload_n hx hb dX2_isWord_40 rfl (lv_at hl 0 rfl) ?_
      refine mx_get (ci := 2) (C := RX2) (T := TX2) (N := 7) hx hb hown in_wsX20 hts hK hP 0 rfl rfl 4 (by decide) q_229 rfl (v := .int start) rfl dX2_isWord_41 ?_
      refine lv_iload_n hx hb dX2_isWord_44 rfl (lv_at hl 2 rfl) ?_
      refine lv_iadd hx hb dX2_isWord_45 ?_
      obtain ⟨h_8, hw⟩ := hw
      refine mx_bald hx hb hK hP 1 1 rfl rfl h_8 (bytes (start + v2).toNatClampNeg) rfl dX2_isWord_46 ?_
      refine lv_aload_n hx hb dX2_isWord_47 rfl (lv_at hl 1 rfl) ?_
      refine lv_iload_n hx hb dX2_isWord_48 rfl (lv_at hl 2 rfl) ?_
      obtain ⟨h_9, hw⟩ := hw
      refine mx_ki (wc := []) (w1 := fun _ => []) (mx_rVX (rm := rm_J0_charAt) (rest := [.int (bytes (start + v2).toNatClampNeg)]) (C := RJ0) (wc := []) hx hb hml hown hts hX hS hA (c_J0_charAt l D cI cB cZ cP cC adK adV j hj v2 h_9 _ (fun r => r = stCh j v2) rfl) q_260 q_261 q_262 q_251 q_263 hd_J0_charAt ⟨(Nat.le_of_ble_eq_true rfl), (Nat.le_of_ble_eq_true rfl)⟩ rfl rfl hK hP hD [] rfl rfl (vk_recv hX.1 hj hS) rfl hl.1 rfl (Nat.le_of_ble_eq_true rfl) dX2_isWord_49 ⟨(Nat.le_of_ble_eq_true rfl), (Nat.le_of_ble_eq_true rfl)⟩) hP hD hS hA [] [0, 1] [0, 1] (fun _ => ww_X2_isWord a_t a_t_bytes a_c cI cB cZ cP cC length token start behind value bytes) rfl rfl rfl (by decide) rfl (fun _ => rfl) (fun r_10 _ H locs e_11 hP hD hS => ?_)
      subst e_11
      replace hP : va_P D vwCl (ww_X2_isWord a_t a_t_bytes a_c cI cB cZ cP cC length token start behind value bytes) H := hP
      replace hD : va_D A (ww_X2_isWord a_t a_t_bytes a_c cI cB cZ cP cC length token start behind value bytes) := hD
      refine lv_icmp_eq (tgt := 57) hx hb dX2_isWord_52 (by decide) (fun c_12 => ?_) (fun c_12 => ?_)
      · replace hw := hw.1 c_12
        obtain ⟨x_13, ex_13⟩ : ∃ y : Int32, y = v2 + 1 := ⟨_, rfl⟩
        replace hw := hw x_13 ex_13
        refine lv_iinc (v := x_13) (lv' := [(2, .int x_13), (0, .ref a_t), (1, .ref (adK j))]) hx hb dX2_isWord_57 hl (k := 2) rfl (by rw [ex_13]; rfl) (by decide) rfl (fun ls hl => ?_)
        refine lv_goto (tgt := 28) hx hb dX2_isWord_60 (by decide) ?_
        exact ih x_13 _ _ _ hP hD hS (lv_sub hl [1, 2, 0] rfl) hw
      · replace hw := hw.2 c_12
        refine lv_iconst (v := 0) hx hb dX2_isWord_55 (by decide) ?_
        exact mx_iret () hx hb hr hlocks rfl hw hK hP hD hS dX2_isWord_56
def wp_X2_isWord (j : Nat) (token : Int32) (start : Int32) (behind : Int32) (bytes : Nat → Int32) (Post : Int32 → Prop) : Prop :=
  ((token = 1 → (((behind - start) = (nI (stLen.getD j 0)) → (∃ k_14 : Nat, wp_X2_isWord_L28 j token start behind bytes Post k_14 0)) ∧ (¬ (behind - start) = (nI (stLen.getD j 0)) → Post 0))) ∧ (¬ token = 1 → Post 0))
set_option maxHeartbeats 4000000 in
set_option maxRecDepth 100000 in
theorem c_X2_isWord (l : Launch) (D : va_G) (cI cB cZ cP cC : ClassId) (adK adV : Nat → Nat) (j : Nat) (hj : j < 4) (a_t a_t_bytes a_c : Nat) (length : Int32) (token : Int32) (start : Int32) (behind : Int32) (value : Int32) (bytes : Nat → Int32)  (sz : Nat) (Post : Int32 → Prop) (hw : wp_X2_isWord j token start behind bytes Post) :
    Met l yX2_isWord (Cond.code yX2_isWord cX2_isWord 3 (some .boolean) :: wsAll) rm_X2_isWord (va_Pc [.ref a_t, .ref (adK j)] (mxPX D (mxTy cI cB cZ cP cC) sz (ww_X2_isWord a_t a_t_bytes a_c cI cB cZ cP cC length token start behind value bytes) adK adV)) (qq_X2_isWord D a_t a_t_bytes a_c cI cB cZ cP cC length token start behind value bytes Post (va_A (ww_X2_isWord a_t a_t_bytes a_c cI cB cZ cP cC length token start behind value bytes) sz)) 0 0 (va_A (ww_X2_isWord a_t a_t_bytes a_c cI cB cZ cP cC length token start behind value bytes) sz) := by
  refine mx_ofX (Qc := qq_X2_isWord D a_t a_t_bytes a_c cI cB cZ cP cC length token start behind value bytes Post) (by decide) (Nat.le_of_ble_eq_true rfl) ?_
  intro p e s m bl meth c A ls C0 hX hP hD hS hl
  replace C0 : mxC p s m [.ref a_t, .ref (adK j)].toArray meth c cX2_isWord RX2 (some .boolean) 3 D (mxTy cI cB cZ cP cC) A := C0
  obtain ⟨hx, hb, hr, hlocks, hml, hown, hts, hK, hA⟩ := id C0
  replace hl : lv_has ls 3 [(0, .ref a_t), (1, .ref (adK j))] := hl
  unfold wp_X2_isWord at hw
  refine lv_aload_n hx hb dX2_isWord_0 rfl (lv_at hl 0 rfl) ?_
  refine mx_get (ci := 2) (C := RX2) (T := TX2) (N := 7) hx hb hown in_wsX20 hts hK hP 0 rfl rfl 3 (by decide) q_228 rfl (v := .int token) rfl dX2_isWord_1 ?_
  refine lv_iconst (v := 1) hx hb dX2_isWord_4 (by decide) ?_
  refine lv_icmp_ne (tgt := 24) hx hb dX2_isWord_5 (by decide) (fun c_1 => ?_) (fun c_1 => ?_)
  · replace hw := hw.2 c_1
    refine lv_iconst (v := 0) hx hb dX2_isWord_24 (by decide) ?_
    exact mx_iret () hx hb hr hlocks rfl hw hK hP hD hS dX2_isWord_25
  · replace hw := hw.1 c_1
    refine lv_aload_n hx hb dX2_isWord_8 rfl (lv_at hl 0 rfl) ?_
    refine mx_get (ci := 2) (C := RX2) (T := TX2) (N := 7) hx hb hown in_wsX20 hts hK hP 0 rfl rfl 5 (by decide) q_227 rfl (v := .int behind) rfl dX2_isWord_9 ?_
    refine lv_aload_n hx hb dX2_isWord_12 rfl (lv_at hl 0 rfl) ?_
    refine mx_get (ci := 2) (C := RX2) (T := TX2) (N := 7) hx hb hown in_wsX20 hts hK hP 0 rfl rfl 4 (by decide) q_229 rfl (v := .int start) rfl dX2_isWord_13 ?_
    refine lv_isub hx hb dX2_isWord_16 ?_
    refine lv_aload_n hx hb dX2_isWord_17 rfl (lv_at hl 1 rfl) ?_
    refine mx_ki (wc := []) (w1 := fun _ => []) (mx_rVX (rm := rm_J0_length) (rest := [.int (behind - start)]) (C := RJ0) (wc := []) hx hb hml hown hts hX hS hA (c_J0_length l D cI cB cZ cP cC adK adV j hj _ (fun r => r = nI (stLen.getD j 0)) rfl) q_248 q_249 q_250 q_251 q_252 hd_J0_length ⟨(Nat.le_of_ble_eq_true rfl), (Nat.le_of_ble_eq_true rfl)⟩ rfl rfl hK hP hD [] rfl rfl (vk_recv hX.1 hj hS) rfl hl.1 rfl (Nat.le_of_ble_eq_true rfl) dX2_isWord_18 ⟨(Nat.le_of_ble_eq_true rfl), (Nat.le_of_ble_eq_true rfl)⟩) hP hD hS hA [] [0, 1] [0, 1] (fun _ => ww_X2_isWord a_t a_t_bytes a_c cI cB cZ cP cC length token start behind value bytes) rfl rfl rfl (by decide) rfl (fun _ => rfl) (fun r_2 _ H locs e_3 hP hD hS => ?_)
    subst e_3
    replace hP : va_P D vwCl (ww_X2_isWord a_t a_t_bytes a_c cI cB cZ cP cC length token start behind value bytes) H := hP
    replace hD : va_D A (ww_X2_isWord a_t a_t_bytes a_c cI cB cZ cP cC length token start behind value bytes) := hD
    refine lv_icmp_eq (tgt := 26) hx hb dX2_isWord_21 (by decide) (fun c_4 => ?_) (fun c_4 => ?_)
    · replace hw := hw.1 c_4
      refine lv_iconst (v := 0) hx hb dX2_isWord_26 (by decide) ?_
      refine lv_istore_n (lv' := [(2, .int 0), (0, .ref a_t), (1, .ref (adK j))]) hx hb dX2_isWord_27 rfl hl (by decide) rfl (fun ls hl => ?_)
      obtain ⟨n0, hw⟩ := hw
      refine k_X2_isWord_L28 C0 hX hj  n0 0 _ _ _ hP hD hS (lv_sub hl [1, 2, 0] rfl) hw
    · replace hw := hw.2 c_4
      refine lv_iconst (v := 0) hx hb dX2_isWord_24 (by decide) ?_
      exact mx_iret () hx hb hr hlocks rfl hw hK hP hD hS dX2_isWord_25
/-! PramState$CourtText.number(I)I -/
abbrev ww_X2_number (a_t a_t_bytes a_c : Nat) (cI cB cZ cP cC : ClassId) (length : Int32) (token : Int32) (start : Int32) (behind : Int32) (value : Int32) (bytes : Nat → Int32) : va_W := [(a_t, .inr (2, [.ref a_c, .int length, .ref a_t_bytes, .int token, .int start, .int behind, .int value])), (a_t_bytes, .inl (cB, 150, .inl bytes))]
abbrev qq_X2_number (D : va_G) (a_t a_t_bytes a_c : Nat) (cI cB cZ cP cC : ClassId) (length : Int32) (bytes : Nat → Int32) (Post : Int32 → Int32 → Int32 → Int32 → Int32 → Prop) (A : Nat → Prop) : Array Value → State → Outcome → State → Prop := va_Qi (fun (r : Int32) (u : Int32 × Int32 × Int32 × Int32) => Post r u.1 u.2.1 u.2.2.1 u.2.2.2) (fun (u : Int32 × Int32 × Int32 × Int32) t => mxB D (mxTy cI cB cZ cP cC) A (ww_X2_number a_t a_t_bytes a_c cI cB cZ cP cC length (u.1) (u.2.1) (u.2.2.1) (u.2.2.2) bytes) t) A
abbrev rm_X2_number : Room := { frames := 2, cells := 0, slots := 0, locals := 43 }
theorem hd_X2_number : yX2_number.cls = RX2 ∧ yX2_number.cls ≠ "java/lang/invoke/MethodHandle" ∧ yX2_number.cls ≠ "java/lang/invoke/VarHandle" ∧ (parseMethodDescriptor yX2_number.desc).map (fun d => d.parameters.length) = some 1 := by decide +kernel
def wp_X2_number (length : Int32) (bytes : Nat → Int32) (token : Int32) (start : Int32) (behind : Int32) (value : Int32) (v1 : Int32) (Post : Int32 → Int32 → Int32 → Int32 → Int32 → Prop) : Prop :=
  ((token = 2 → ((value ≤ v1 → (wp_X2_advance length bytes token start behind value (fun token_3 start_4 behind_5 value_6 => Post value token_3 start_4 behind_5 value_6))) ∧ (¬ value ≤ v1 → Post (-1) token start behind value))) ∧ (¬ token = 2 → Post (-1) token start behind value))
set_option maxHeartbeats 4000000 in
set_option maxRecDepth 100000 in
theorem c_X2_number (l : Launch) (D : va_G) (cI cB cZ cP cC : ClassId) (a_t a_t_bytes a_c : Nat) (length : Int32) (token : Int32) (start : Int32) (behind : Int32) (value : Int32) (bytes : Nat → Int32) (v1 : Int32) (sz : Nat) (Post : Int32 → Int32 → Int32 → Int32 → Int32 → Prop) (hw : wp_X2_number length bytes token start behind value v1 Post) :
    Met l yX2_number (Cond.code yX2_number cX2_number 3 (some .int) :: wsAll) rm_X2_number (va_Pc [.ref a_t, .int v1] (mxP D (mxTy cI cB cZ cP cC) sz (ww_X2_number a_t a_t_bytes a_c cI cB cZ cP cC length token start behind value bytes))) (qq_X2_number D a_t a_t_bytes a_c cI cB cZ cP cC length bytes Post (va_A (ww_X2_number a_t a_t_bytes a_c cI cB cZ cP cC length token start behind value bytes) sz)) 0 0 (va_A (ww_X2_number a_t a_t_bytes a_c cI cB cZ cP cC length token start behind value bytes) sz) := by
  refine mx_of (Qc := qq_X2_number D a_t a_t_bytes a_c cI cB cZ cP cC length bytes Post) (by decide) (Nat.le_of_ble_eq_true rfl) ?_
  intro p e s m bl meth c A ls C0 hP hD hS hl
  replace C0 : mxC p s m [.ref a_t, .int v1].toArray meth c cX2_number RX2 (some .int) 3 D (mxTy cI cB cZ cP cC) A := C0
  obtain ⟨hx, hb, hr, hlocks, hml, hown, hts, hK, hA⟩ := id C0
  replace hl : lv_has ls 3 [(0, .ref a_t), (1, .int v1)] := hl
  unfold wp_X2_number at hw
  refine lv_aload_n hx hb dX2_number_0 rfl (lv_at hl 0 rfl) ?_
  refine mx_get (ci := 2) (C := RX2) (T := TX2) (N := 7) hx hb hown in_wsX20 hts hK hP 0 rfl rfl 3 (by decide) q_228 rfl (v := .int token) rfl dX2_number_1 ?_
  refine lv_iconst (v := 2) hx hb dX2_number_4 (by decide) ?_
  refine lv_icmp_ne (tgt := 16) hx hb dX2_number_5 (by decide) (fun c_1 => ?_) (fun c_1 => ?_)
  · replace hw := hw.2 c_1
    refine lv_iconst (v := (-1)) hx hb dX2_number_16 (by decide) ?_
    exact mx_iret (token, start, behind, value) hx hb hr hlocks rfl hw hK hP hD hS dX2_number_17
  · replace hw := hw.1 c_1
    refine lv_aload_n hx hb dX2_number_8 rfl (lv_at hl 0 rfl) ?_
    refine mx_get (ci := 2) (C := RX2) (T := TX2) (N := 7) hx hb hown in_wsX20 hts hK hP 0 rfl rfl 6 (by decide) q_235 rfl (v := .int value) rfl dX2_number_9 ?_
    refine lv_iload_n hx hb dX2_number_12 rfl (lv_at hl 1 rfl) ?_
    refine lv_icmp_le (tgt := 18) hx hb dX2_number_13 (by decide) (fun c_2 => ?_) (fun c_2 => ?_)
    · replace hw := hw.1 c_2
      refine lv_aload_n hx hb dX2_number_18 rfl (lv_at hl 0 rfl) ?_
      refine mx_get (ci := 2) (C := RX2) (T := TX2) (N := 7) hx hb hown in_wsX20 hts hK hP 0 rfl rfl 6 (by decide) q_235 rfl (v := .int value) rfl dX2_number_19 ?_
      refine lv_istore_n (lv' := [(2, .int value), (0, .ref a_t), (1, .int v1)]) hx hb dX2_number_22 rfl hl (by decide) rfl (fun ls hl => ?_)
      refine lv_aload_n hx hb dX2_number_23 rfl (lv_at hl 1 rfl) ?_
      refine mx_kv (mx_rV (rm := rm_X2_advance) (rest := []) (C := RX2) hx hb hml hown hts (c_X2_advance l D cI cB cZ cP cC a_t a_t_bytes a_c length token start behind value bytes _ _ hw) q_231 q_232 q_233 q_39 q_234 hd_X2_advance ⟨(Nat.le_of_ble_eq_true rfl), (Nat.le_of_ble_eq_true rfl)⟩ rfl rfl hK hP hD [0, 1] rfl rfl 2 0 rfl rfl rfl rfl hl.1 rfl (Nat.le_of_ble_eq_true rfl) dX2_number_24 ⟨(Nat.le_of_ble_eq_true rfl), (Nat.le_of_ble_eq_true rfl)⟩) hP hD hS hA [0, 1] [] [0, 1] (fun u => ww_X2_number a_t a_t_bytes a_c cI cB cZ cP cC length (u.1) (u.2.1) (u.2.2.1) (u.2.2.2) bytes) rfl rfl rfl (by decide) rfl (fun _ => rfl) (fun u H locs hw hP hD hS => ?_)
      obtain ⟨token_3, start_4, behind_5, value_6⟩ := u
      try dsimp only at hw
      replace hP : va_P D vwCl (ww_X2_number a_t a_t_bytes a_c cI cB cZ cP cC length token_3 start_4 behind_5 value_6 bytes) H := hP
      replace hD : va_D A (ww_X2_number a_t a_t_bytes a_c cI cB cZ cP cC length token_3 start_4 behind_5 value_6 bytes) := hD
      refine lv_iload_n hx hb dX2_number_27 rfl (lv_at hl 0 rfl) ?_
      exact mx_iret (token_3, start_4, behind_5, value_6) hx hb hr hlocks rfl hw hK hP hD hS dX2_number_28
    · replace hw := hw.2 c_2
      refine lv_iconst (v := (-1)) hx hb dX2_number_16 (by decide) ?_
      exact mx_iret (token, start, behind, value) hx hb hr hlocks rfl hw hK hP hD hS dX2_number_17
/-! PramState$CourtText.endItem()Z -/
abbrev ww_X2_endItem (a_t a_t_bytes a_c : Nat) (cI cB cZ cP cC : ClassId) (length : Int32) (token : Int32) (start : Int32) (behind : Int32) (value : Int32) (bytes : Nat → Int32) : va_W := [(a_t, .inr (2, [.ref a_c, .int length, .ref a_t_bytes, .int token, .int start, .int behind, .int value])), (a_t_bytes, .inl (cB, 150, .inl bytes))]
abbrev qq_X2_endItem (D : va_G) (a_t a_t_bytes a_c : Nat) (cI cB cZ cP cC : ClassId) (length : Int32) (bytes : Nat → Int32) (Post : Int32 → Int32 → Int32 → Int32 → Int32 → Prop) (A : Nat → Prop) : Array Value → State → Outcome → State → Prop := va_Qi (fun (r : Int32) (u : Int32 × Int32 × Int32 × Int32) => Post r u.1 u.2.1 u.2.2.1 u.2.2.2) (fun (u : Int32 × Int32 × Int32 × Int32) t => mxB D (mxTy cI cB cZ cP cC) A (ww_X2_endItem a_t a_t_bytes a_c cI cB cZ cP cC length (u.1) (u.2.1) (u.2.2.1) (u.2.2.2) bytes) t) A
abbrev rm_X2_endItem : Room := { frames := 2, cells := 0, slots := 0, locals := 43 }
theorem hd_X2_endItem : yX2_endItem.cls = RX2 ∧ yX2_endItem.cls ≠ "java/lang/invoke/MethodHandle" ∧ yX2_endItem.cls ≠ "java/lang/invoke/VarHandle" ∧ (parseMethodDescriptor yX2_endItem.desc).map (fun d => d.parameters.length) = some 0 := by decide +kernel
def wp_X2_endItem (length : Int32) (bytes : Nat → Int32) (token : Int32) (start : Int32) (behind : Int32) (value : Int32) (Post : Int32 → Int32 → Int32 → Int32 → Int32 → Prop) : Prop :=
  ((token = 3 → (wp_X2_advance length bytes token start behind value (fun token_2 start_3 behind_4 value_5 => Post 1 token_2 start_3 behind_4 value_5))) ∧ (¬ token = 3 → Post 0 token start behind value))
set_option maxHeartbeats 4000000 in
set_option maxRecDepth 100000 in
theorem c_X2_endItem (l : Launch) (D : va_G) (cI cB cZ cP cC : ClassId) (a_t a_t_bytes a_c : Nat) (length : Int32) (token : Int32) (start : Int32) (behind : Int32) (value : Int32) (bytes : Nat → Int32)  (sz : Nat) (Post : Int32 → Int32 → Int32 → Int32 → Int32 → Prop) (hw : wp_X2_endItem length bytes token start behind value Post) :
    Met l yX2_endItem (Cond.code yX2_endItem cX2_endItem 1 (some .boolean) :: wsAll) rm_X2_endItem (va_Pc [.ref a_t] (mxP D (mxTy cI cB cZ cP cC) sz (ww_X2_endItem a_t a_t_bytes a_c cI cB cZ cP cC length token start behind value bytes))) (qq_X2_endItem D a_t a_t_bytes a_c cI cB cZ cP cC length bytes Post (va_A (ww_X2_endItem a_t a_t_bytes a_c cI cB cZ cP cC length token start behind value bytes) sz)) 0 0 (va_A (ww_X2_endItem a_t a_t_bytes a_c cI cB cZ cP cC length token start behind value bytes) sz) := by
  refine mx_of (Qc := qq_X2_endItem D a_t a_t_bytes a_c cI cB cZ cP cC length bytes Post) (by decide) (Nat.le_of_ble_eq_true rfl) ?_
  intro p e s m bl meth c A ls C0 hP hD hS hl
  replace C0 : mxC p s m [.ref a_t].toArray meth c cX2_endItem RX2 (some .boolean) 1 D (mxTy cI cB cZ cP cC) A := C0
  obtain ⟨hx, hb, hr, hlocks, hml, hown, hts, hK, hA⟩ := id C0
  replace hl : lv_has ls 1 [(0, .ref a_t)] := hl
  unfold wp_X2_endItem at hw
  refine lv_aload_n hx hb dX2_endItem_0 rfl (lv_at hl 0 rfl) ?_
  refine mx_get (ci := 2) (C := RX2) (T := TX2) (N := 7) hx hb hown in_wsX20 hts hK hP 0 rfl rfl 3 (by decide) q_228 rfl (v := .int token) rfl dX2_endItem_1 ?_
  refine lv_iconst (v := 3) hx hb dX2_endItem_4 (by decide) ?_
  refine lv_icmp_eq (tgt := 10) hx hb dX2_endItem_5 (by decide) (fun c_1 => ?_) (fun c_1 => ?_)
  · replace hw := hw.1 c_1
    refine lv_aload_n hx hb dX2_endItem_10 rfl (lv_at hl 0 rfl) ?_
    refine mx_kv (mx_rV (rm := rm_X2_advance) (rest := []) (C := RX2) hx hb hml hown hts (c_X2_advance l D cI cB cZ cP cC a_t a_t_bytes a_c length token start behind value bytes _ _ hw) q_231 q_232 q_233 q_39 q_234 hd_X2_advance ⟨(Nat.le_of_ble_eq_true rfl), (Nat.le_of_ble_eq_true rfl)⟩ rfl rfl hK hP hD [0, 1] rfl rfl 2 0 rfl rfl rfl rfl hl.1 rfl (Nat.le_of_ble_eq_true rfl) dX2_endItem_11 ⟨(Nat.le_of_ble_eq_true rfl), (Nat.le_of_ble_eq_true rfl)⟩) hP hD hS hA [0, 1] [] [0, 1] (fun u => ww_X2_endItem a_t a_t_bytes a_c cI cB cZ cP cC length (u.1) (u.2.1) (u.2.2.1) (u.2.2.2) bytes) rfl rfl rfl (by decide) rfl (fun _ => rfl) (fun u H locs hw hP hD hS => ?_)
    obtain ⟨token_2, start_3, behind_4, value_5⟩ := u
    try dsimp only at hw
    replace hP : va_P D vwCl (ww_X2_endItem a_t a_t_bytes a_c cI cB cZ cP cC length token_2 start_3 behind_4 value_5 bytes) H := hP
    replace hD : va_D A (ww_X2_endItem a_t a_t_bytes a_c cI cB cZ cP cC length token_2 start_3 behind_4 value_5 bytes) := hD
    refine lv_iconst (v := 1) hx hb dX2_endItem_14 (by decide) ?_
    exact mx_iret (token_2, start_3, behind_4, value_5) hx hb hr hlocks rfl hw hK hP hD hS dX2_endItem_15
  · replace hw := hw.2 c_1
    refine lv_iconst (v := 0) hx hb dX2_endItem_8 (by decide) ?_
    exact mx_iret (token, start, behind, value) hx hb hr hlocks rfl hw hK hP hD hS dX2_endItem_9
/-! PramState$CourtText.readNurse()Z -/
abbrev ww_X2_readNurse (a_t a_t_bytes a_c a_c_kind a_c_months a_c_home a_c_nurse a_c_skills a_c_noteRow a_c_soundRow a_c_pastRow a_K : Nat) (cI cB cZ cP cC : ClassId) (length : Int32) (token : Int32) (start : Int32) (behind : Int32) (value : Int32) (bytes : Nat → Int32) (infants : Int32) (retired : Int32) (month : Int32) (notes : Int32) (sounds : Int32) (pasts : Int32) (nurse : Nat → Int32) : va_W := [(a_t, .inr (2, [.ref a_c, .int length, .ref a_t_bytes, .int token, .int start, .int behind, .int value])), (a_t_bytes, .inl (cB, 150, .inl bytes)), (a_c, .inr (1, [.ref a_K, .ref a_c_kind, .ref a_c_months, .ref a_c_home, .ref a_c_nurse, .ref a_c_skills, .ref a_c_noteRow, .ref a_c_soundRow, .ref a_c_pastRow, .int infants, .int retired, .int month, .int notes, .int sounds, .int pasts])), (a_c_nurse, .inl (cI, 6, .inl nurse))]
abbrev qq_X2_readNurse (D : va_G) (a_t a_t_bytes a_c a_c_kind a_c_months a_c_home a_c_nurse a_c_skills a_c_noteRow a_c_soundRow a_c_pastRow a_K : Nat) (cI cB cZ cP cC : ClassId) (length : Int32) (bytes : Nat → Int32) (infants : Int32) (retired : Int32) (month : Int32) (notes : Int32) (sounds : Int32) (pasts : Int32) (Post : Int32 → Int32 → Int32 → Int32 → Int32 → (Nat → Int32) → Prop) (A : Nat → Prop) : Array Value → State → Outcome → State → Prop := va_Qi (fun (r : Int32) (u : Int32 × Int32 × Int32 × Int32 × (Nat → Int32)) => Post r u.1 u.2.1 u.2.2.1 u.2.2.2.1 u.2.2.2.2) (fun (u : Int32 × Int32 × Int32 × Int32 × (Nat → Int32)) t => mxB D (mxTy cI cB cZ cP cC) A (ww_X2_readNurse a_t a_t_bytes a_c a_c_kind a_c_months a_c_home a_c_nurse a_c_skills a_c_noteRow a_c_soundRow a_c_pastRow a_K cI cB cZ cP cC length (u.1) (u.2.1) (u.2.2.1) (u.2.2.2.1) bytes infants retired month notes sounds pasts (u.2.2.2.2)) t) A
abbrev rm_X2_readNurse : Room := { frames := 3, cells := 0, slots := 0, locals := 65 }
theorem hd_X2_readNurse : yX2_readNurse.cls = RX2 ∧ yX2_readNurse.cls ≠ "java/lang/invoke/MethodHandle" ∧ yX2_readNurse.cls ≠ "java/lang/invoke/VarHandle" ∧ (parseMethodDescriptor yX2_readNurse.desc).map (fun d => d.parameters.length) = some 0 := by decide +kernel
def wp_X2_readNurse (length : Int32) (bytes : Nat → Int32) (infants : Int32) (token : Int32) (start : Int32) (behind : Int32) (value : Int32) (nurse : Nat → Int32) (Post : Int32 → Int32 → Int32 → Int32 → Int32 → (Nat → Int32) → Prop) : Prop :=
  (wp_X2_advance length bytes token start behind value (fun token_1 start_2 behind_3 value_4 => (wp_X2_number length bytes token_1 start_2 behind_3 value_4 (infants - 1) (fun r_5 token_6 start_7 behind_8 value_9 => ((r_5 = (-1) → Post 0 token_6 start_7 behind_8 value_9 nurse) ∧ (¬ r_5 = (-1) → (wp_X2_number length bytes token_6 start_7 behind_8 value_9 5 (fun r_11 token_12 start_13 behind_14 value_15 => ((r_11 = (-1) → Post 0 token_12 start_13 behind_14 value_15 nurse) ∧ (¬ r_11 = (-1) → (vp_in r_5 6 ∧ (∀ f_18 : Nat → Int32, f_18 = upd nurse r_5.toNatClampNeg r_11 → (wp_X2_endItem length bytes token_12 start_13 behind_14 value_15 (fun r_19 token_20 start_21 behind_22 value_23 => ((r_19 = 0 ∨ r_19 = 1) ∧ Post r_19 token_20 start_21 behind_22 value_23 f_18)))))))))))))))
set_option maxHeartbeats 4000000 in
set_option maxRecDepth 100000 in
theorem c_X2_readNurse (l : Launch) (D : va_G) (cI cB cZ cP cC : ClassId) (a_t a_t_bytes a_c a_c_kind a_c_months a_c_home a_c_nurse a_c_skills a_c_noteRow a_c_soundRow a_c_pastRow a_K : Nat) (length : Int32) (token : Int32) (start : Int32) (behind : Int32) (value : Int32) (bytes : Nat → Int32) (infants : Int32) (retired : Int32) (month : Int32) (notes : Int32) (sounds : Int32) (pasts : Int32) (nurse : Nat → Int32)  (sz : Nat) (Post : Int32 → Int32 → Int32 → Int32 → Int32 → (Nat → Int32) → Prop) (hw : wp_X2_readNurse length bytes infants token start behind value nurse Post) :
    Met l yX2_readNurse (Cond.code yX2_readNurse cX2_readNurse 3 (some .boolean) :: wsAll) rm_X2_readNurse (va_Pc [.ref a_t] (mxP D (mxTy cI cB cZ cP cC) sz (ww_X2_readNurse a_t a_t_bytes a_c a_c_kind a_c_months a_c_home a_c_nurse a_c_skills a_c_noteRow a_c_soundRow a_c_pastRow a_K cI cB cZ cP cC length token start behind value bytes infants retired month notes sounds pasts nurse))) (qq_X2_readNurse D a_t a_t_bytes a_c a_c_kind a_c_months a_c_home a_c_nurse a_c_skills a_c_noteRow a_c_soundRow a_c_pastRow a_K cI cB cZ cP cC length bytes infants retired month notes sounds pasts Post (va_A (ww_X2_readNurse a_t a_t_bytes a_c a_c_kind a_c_months a_c_home a_c_nurse a_c_skills a_c_noteRow a_c_soundRow a_c_pastRow a_K cI cB cZ cP cC length token start behind value bytes infants retired month notes sounds pasts nurse) sz)) 0 0 (va_A (ww_X2_readNurse a_t a_t_bytes a_c a_c_kind a_c_months a_c_home a_c_nurse a_c_skills a_c_noteRow a_c_soundRow a_c_pastRow a_K cI cB cZ cP cC length token start behind value bytes infants retired month notes sounds pasts nurse) sz) := by
  refine mx_of (Qc := qq_X2_readNurse D a_t a_t_bytes a_c a_c_kind a_c_months a_c_home a_c_nurse a_c_skills a_c_noteRow a_c_soundRow a_c_pastRow a_K cI cB cZ cP cC length bytes infants retired month notes sounds pasts Post) (by decide) (Nat.le_of_ble_eq_true rfl) ?_
  intro p e s m bl meth c A ls C0 hP hD hS hl
  replace C0 : mxC p s m [.ref a_t].toArray meth c cX2_readNurse RX2 (some .boolean) 3 D (mxTy cI cB cZ cP cC) A := C0
  obtain ⟨hx, hb, hr, hlocks, hml, hown, hts, hK, hA⟩ := id C0
  replace hl : lv_has ls 3 [(0, .ref a_t)] := hl
  unfold wp_X2_readNurse at hw
  refine lv_aload_n hx hb dX2_readNurse_0 rfl (lv_at hl 0 rfl) ?_
  refine mx_kv (mx_rV (rm := rm_X2_advance) (rest := []) (C := RX2) hx hb hml hown hts (c_X2_advance l D cI cB cZ cP cC a_t a_t_bytes a_c length token start behind value bytes _ _ hw) q_231 q_232 q_233 q_39 q_234 hd_X2_advance ⟨(Nat.le_of_ble_eq_true rfl), (Nat.le_of_ble_eq_true rfl)⟩ rfl rfl hK hP hD [0, 1] rfl rfl 2 0 rfl rfl rfl rfl hl.1 rfl (Nat.le_of_ble_eq_true rfl) dX2_readNurse_1 ⟨(Nat.le_of_ble_eq_true rfl), (Nat.le_of_ble_eq_true rfl)⟩) hP hD hS hA [0, 1] [2, 3] [2, 3, 0, 1] (fun u => ww_X2_readNurse a_t a_t_bytes a_c a_c_kind a_c_months a_c_home a_c_nurse a_c_skills a_c_noteRow a_c_soundRow a_c_pastRow a_K cI cB cZ cP cC length (u.1) (u.2.1) (u.2.2.1) (u.2.2.2) bytes infants retired month notes sounds pasts nurse) rfl rfl rfl (by decide) rfl (fun _ => rfl) (fun u H locs hw hP hD hS => ?_)
  obtain ⟨token_1, start_2, behind_3, value_4⟩ := u
  try dsimp only at hw
  replace hP : va_P D vwCl (ww_X2_readNurse a_t a_t_bytes a_c a_c_kind a_c_months a_c_home a_c_nurse a_c_skills a_c_noteRow a_c_soundRow a_c_pastRow a_K cI cB cZ cP cC length token_1 start_2 behind_3 value_4 bytes infants retired month notes sounds pasts nurse) H := hP
  replace hD : va_D A (ww_X2_readNurse a_t a_t_bytes a_c a_c_kind a_c_months a_c_home a_c_nurse a_c_skills a_c_noteRow a_c_soundRow a_c_pastRow a_K cI cB cZ cP cC length token_1 start_2 behind_3 value_4 bytes infants retired month notes sounds pasts nurse) := hD
  refine lv_aload_n hx hb dX2_readNurse_4 rfl (lv_at hl 0 rfl) ?_
  refine lv_aload_n hx hb dX2_readNurse_5 rfl (lv_at hl 0 rfl) ?_
  refine mx_get (ci := 2) (C := RX2) (T := TX2) (N := 7) hx hb hown in_wsX20 hts hK hP 0 rfl rfl 0 (by decide) q_80 rfl (v := .ref a_c) rfl dX2_readNurse_6 ?_
  refine mx_get (ci := 1) (C := RX1) (T := TX1) (N := 15) hx hb hown in_wsX10 hts hK hP 2 rfl rfl 9 (by decide) q_309 rfl (v := .int infants) rfl dX2_readNurse_9 ?_
  refine lv_iconst (v := 1) hx hb dX2_readNurse_12 (by decide) ?_
  refine lv_isub hx hb dX2_readNurse_13 ?_
  refine mx_ki (mx_rV (rm := rm_X2_number) (rest := []) (C := RX2) hx hb hml hown hts (c_X2_number l D cI cB cZ cP cC a_t a_t_bytes a_c length token_1 start_2 behind_3 value_4 bytes (infants - 1) _ _ hw) q_310 q_311 q_312 q_39 q_313 hd_X2_number ⟨(Nat.le_of_ble_eq_true rfl), (Nat.le_of_ble_eq_true rfl)⟩ rfl rfl hK hP hD [0, 1] rfl rfl 2 0 rfl rfl rfl rfl hl.1 rfl (Nat.le_of_ble_eq_true rfl) dX2_readNurse_14 ⟨(Nat.le_of_ble_eq_true rfl), (Nat.le_of_ble_eq_true rfl)⟩) hP hD hS hA [0, 1] [2, 3] [2, 3, 0, 1] (fun u => ww_X2_readNurse a_t a_t_bytes a_c a_c_kind a_c_months a_c_home a_c_nurse a_c_skills a_c_noteRow a_c_soundRow a_c_pastRow a_K cI cB cZ cP cC length (u.1) (u.2.1) (u.2.2.1) (u.2.2.2) bytes infants retired month notes sounds pasts nurse) rfl rfl rfl (by decide) rfl (fun _ => rfl) (fun r_5 u H locs hw hP hD hS => ?_)
  obtain ⟨token_6, start_7, behind_8, value_9⟩ := u
  try dsimp only at hw
  replace hP : va_P D vwCl (ww_X2_readNurse a_t a_t_bytes a_c a_c_kind a_c_months a_c_home a_c_nurse a_c_skills a_c_noteRow a_c_soundRow a_c_pastRow a_K cI cB cZ cP cC length token_6 start_7 behind_8 value_9 bytes infants retired month notes sounds pasts nurse) H := hP
  replace hD : va_D A (ww_X2_readNurse a_t a_t_bytes a_c a_c_kind a_c_months a_c_home a_c_nurse a_c_skills a_c_noteRow a_c_soundRow a_c_pastRow a_K cI cB cZ cP cC length token_6 start_7 behind_8 value_9 bytes infants retired month notes sounds pasts nurse) := hD
  refine lv_istore_n (lv' := [(1, .int r_5), (0, .ref a_t)]) hx hb dX2_readNurse_17 rfl hl (by decide) rfl (fun ls hl => ?_)
  refine lv_iload_n hx hb dX2_readNurse_18 rfl (lv_at hl 0 rfl) ?_
  refine lv_iconst (v := (-1)) hx hb dX2_readNurse_19 (by decide) ?_
  refine lv_icmp_ne (tgt := 25) hx hb dX2_readNurse_20 (by decide) (fun c_10 => ?_) (fun c_10 => ?_)
  · replace hw := hw.2 c_10
    refine lv_aload_n hx hb dX2_readNurse_25 rfl (lv_at hl 1 rfl) ?_
    refine lv_iconst (v := 5) hx hb dX2_readNurse_26 (by decide) ?_
    refine mx_ki (mx_rV (rm := rm_X2_number) (rest := []) (C := RX2) hx hb hml hown hts (c_X2_number l D cI cB cZ cP cC a_t a_t_bytes a_c length token_6 start_7 behind_8 value_9 bytes 5 _ _ hw) q_310 q_311 q_312 q_39 q_313 hd_X2_number ⟨(Nat.le_of_ble_eq_true rfl), (Nat.le_of_ble_eq_true rfl)⟩ rfl rfl hK hP hD [0, 1] rfl rfl 2 0 rfl rfl rfl rfl hl.1 rfl (Nat.le_of_ble_eq_true rfl) dX2_readNurse_27 ⟨(Nat.le_of_ble_eq_true rfl), (Nat.le_of_ble_eq_true rfl)⟩) hP hD hS hA [0, 1] [2, 3] [2, 3, 0, 1] (fun u => ww_X2_readNurse a_t a_t_bytes a_c a_c_kind a_c_months a_c_home a_c_nurse a_c_skills a_c_noteRow a_c_soundRow a_c_pastRow a_K cI cB cZ cP cC length (u.1) (u.2.1) (u.2.2.1) (u.2.2.2) bytes infants retired month notes sounds pasts nurse) rfl rfl rfl (by decide) rfl (fun _ => rfl) (fun r_11 u H locs hw hP hD hS => ?_)
    obtain ⟨token_12, start_13, behind_14, value_15⟩ := u
    try dsimp only at hw
    replace hP : va_P D vwCl (ww_X2_readNurse a_t a_t_bytes a_c a_c_kind a_c_months a_c_home a_c_nurse a_c_skills a_c_noteRow a_c_soundRow a_c_pastRow a_K cI cB cZ cP cC length token_12 start_13 behind_14 value_15 bytes infants retired month notes sounds pasts nurse) H := hP
    replace hD : va_D A (ww_X2_readNurse a_t a_t_bytes a_c a_c_kind a_c_months a_c_home a_c_nurse a_c_skills a_c_noteRow a_c_soundRow a_c_pastRow a_K cI cB cZ cP cC length token_12 start_13 behind_14 value_15 bytes infants retired month notes sounds pasts nurse) := hD
    refine lv_istore_n (lv' := [(2, .int r_11), (1, .int r_5), (0, .ref a_t)]) hx hb dX2_readNurse_30 rfl hl (by decide) rfl (fun ls hl => ?_)
    refine lv_iload_n hx hb dX2_readNurse_31 rfl (lv_at hl 0 rfl) ?_
    refine lv_iconst (v := (-1)) hx hb dX2_readNurse_32 (by decide) ?_
    refine lv_icmp_ne (tgt := 38) hx hb dX2_readNurse_33 (by decide) (fun c_16 => ?_) (fun c_16 => ?_)
    · replace hw := hw.2 c_16
      refine lv_aload_n hx hb dX2_readNurse_38 rfl (lv_at hl 2 rfl) ?_
      refine mx_get (ci := 2) (C := RX2) (T := TX2) (N := 7) hx hb hown in_wsX20 hts hK hP 0 rfl rfl 0 (by decide) q_80 rfl (v := .ref a_c) rfl dX2_readNurse_39 ?_
      refine mx_get (ci := 1) (C := RX1) (T := TX1) (N := 15) hx hb hown in_wsX10 hts hK hP 2 rfl rfl 4 (by decide) q_324 rfl (v := .ref a_c_nurse) rfl dX2_readNurse_42 ?_
      refine lv_iload_n hx hb dX2_readNurse_45 rfl (lv_at hl 1 rfl) ?_
      refine lv_iload_n hx hb dX2_readNurse_46 rfl (lv_at hl 0 rfl) ?_
      obtain ⟨h_17, hw⟩ := hw
      obtain ⟨f_18, ef_18⟩ : ∃ y : Nat → Int32, y = upd nurse r_5.toNatClampNeg r_11 := ⟨_, rfl⟩
      replace hw := hw f_18 ef_18
      refine mx_iast hx hb hK hP hD hS 3 0 rfl rfl h_17 f_18 ef_18 (ww_X2_readNurse a_t a_t_bytes a_c a_c_kind a_c_months a_c_home a_c_nurse a_c_skills a_c_noteRow a_c_soundRow a_c_pastRow a_K cI cB cZ cP cC length token_12 start_13 behind_14 value_15 bytes infants retired month notes sounds pasts f_18) rfl dX2_readNurse_47 (fun H locs hP hD hS => ?_)
      refine lv_aload_n hx hb dX2_readNurse_48 rfl (lv_at hl 2 rfl) ?_
      refine mx_ki (mx_rV (rm := rm_X2_endItem) (rest := []) (C := RX2) hx hb hml hown hts (c_X2_endItem l D cI cB cZ cP cC a_t a_t_bytes a_c length token_12 start_13 behind_14 value_15 bytes _ _ hw) q_297 q_298 q_299 q_39 q_300 hd_X2_endItem ⟨(Nat.le_of_ble_eq_true rfl), (Nat.le_of_ble_eq_true rfl)⟩ rfl rfl hK hP hD [0, 1] rfl rfl 2 0 rfl rfl rfl rfl hl.1 rfl (Nat.le_of_ble_eq_true rfl) dX2_readNurse_49 ⟨(Nat.le_of_ble_eq_true rfl), (Nat.le_of_ble_eq_true rfl)⟩) hP hD hS hA [0, 1] [2, 3] [2, 3, 0, 1] (fun u => ww_X2_readNurse a_t a_t_bytes a_c a_c_kind a_c_months a_c_home a_c_nurse a_c_skills a_c_noteRow a_c_soundRow a_c_pastRow a_K cI cB cZ cP cC length (u.1) (u.2.1) (u.2.2.1) (u.2.2.2) bytes infants retired month notes sounds pasts f_18) rfl rfl rfl (by decide) rfl (fun _ => rfl) (fun r_19 u H locs hw hP hD hS => ?_)
      obtain ⟨token_20, start_21, behind_22, value_23⟩ := u
      try dsimp only at hw
      replace hP : va_P D vwCl (ww_X2_readNurse a_t a_t_bytes a_c a_c_kind a_c_months a_c_home a_c_nurse a_c_skills a_c_noteRow a_c_soundRow a_c_pastRow a_K cI cB cZ cP cC length token_20 start_21 behind_22 value_23 bytes infants retired month notes sounds pasts f_18) H := hP
      replace hD : va_D A (ww_X2_readNurse a_t a_t_bytes a_c a_c_kind a_c_months a_c_home a_c_nurse a_c_skills a_c_noteRow a_c_soundRow a_c_pastRow a_K cI cB cZ cP cC length token_20 start_21 behind_22 value_23 bytes infants retired month notes sounds pasts f_18) := hD
      obtain ⟨h_24, hw⟩ := hw
      exact mx_iret (token_20, start_21, behind_22, value_23, f_18) hx hb hr hlocks (mx_narZ h_24) hw hK hP hD hS dX2_readNurse_52
    · replace hw := hw.1 c_16
      refine lv_iconst (v := 0) hx hb dX2_readNurse_36 (by decide) ?_
      exact mx_iret (token_12, start_13, behind_14, value_15, nurse) hx hb hr hlocks rfl hw hK hP hD hS dX2_readNurse_37
  · replace hw := hw.1 c_10
    refine lv_iconst (v := 0) hx hb dX2_readNurse_23 (by decide) ?_
    exact mx_iret (token_6, start_7, behind_8, value_9, nurse) hx hb hr hlocks rfl hw hK hP hD hS dX2_readNurse_24
/-! PramState$CourtText.readSkill()Z -/
abbrev ww_X2_readSkill (a_t a_t_bytes a_c a_c_kind a_c_months a_c_home a_c_nurse a_c_skills a_c_noteRow a_c_soundRow a_c_pastRow a_K : Nat) (cI cB cZ cP cC : ClassId) (length : Int32) (token : Int32) (start : Int32) (behind : Int32) (value : Int32) (bytes : Nat → Int32) (infants : Int32) (retired : Int32) (month : Int32) (notes : Int32) (sounds : Int32) (pasts : Int32) (skills : Nat → Int32) : va_W := [(a_t, .inr (2, [.ref a_c, .int length, .ref a_t_bytes, .int token, .int start, .int behind, .int value])), (a_t_bytes, .inl (cB, 150, .inl bytes)), (a_c, .inr (1, [.ref a_K, .ref a_c_kind, .ref a_c_months, .ref a_c_home, .ref a_c_nurse, .ref a_c_skills, .ref a_c_noteRow, .ref a_c_soundRow, .ref a_c_pastRow, .int infants, .int retired, .int month, .int notes, .int sounds, .int pasts])), (a_c_skills, .inl (cI, 6, .inl skills))]
abbrev qq_X2_readSkill (D : va_G) (a_t a_t_bytes a_c a_c_kind a_c_months a_c_home a_c_nurse a_c_skills a_c_noteRow a_c_soundRow a_c_pastRow a_K : Nat) (cI cB cZ cP cC : ClassId) (length : Int32) (bytes : Nat → Int32) (infants : Int32) (retired : Int32) (month : Int32) (notes : Int32) (sounds : Int32) (Post : Int32 → Int32 → Int32 → Int32 → Int32 → Int32 → (Nat → Int32) → Prop) (A : Nat → Prop) : Array Value → State → Outcome → State → Prop := va_Qi (fun (r : Int32) (u : Int32 × Int32 × Int32 × Int32 × Int32 × (Nat → Int32)) => Post r u.1 u.2.1 u.2.2.1 u.2.2.2.1 u.2.2.2.2.1 u.2.2.2.2.2) (fun (u : Int32 × Int32 × Int32 × Int32 × Int32 × (Nat → Int32)) t => mxB D (mxTy cI cB cZ cP cC) A (ww_X2_readSkill a_t a_t_bytes a_c a_c_kind a_c_months a_c_home a_c_nurse a_c_skills a_c_noteRow a_c_soundRow a_c_pastRow a_K cI cB cZ cP cC length (u.1) (u.2.1) (u.2.2.1) (u.2.2.2.1) bytes infants retired month notes sounds (u.2.2.2.2.1) (u.2.2.2.2.2)) t) A
abbrev rm_X2_readSkill : Room := { frames := 3, cells := 0, slots := 0, locals := 65 }
theorem hd_X2_readSkill : yX2_readSkill.cls = RX2 ∧ yX2_readSkill.cls ≠ "java/lang/invoke/MethodHandle" ∧ yX2_readSkill.cls ≠ "java/lang/invoke/VarHandle" ∧ (parseMethodDescriptor yX2_readSkill.desc).map (fun d => d.parameters.length) = some 0 := by decide +kernel
def wp_X2_readSkill (length : Int32) (bytes : Nat → Int32) (token : Int32) (start : Int32) (behind : Int32) (value : Int32) (pasts : Int32) (skills : Nat → Int32) (Post : Int32 → Int32 → Int32 → Int32 → Int32 → Int32 → (Nat → Int32) → Prop) : Prop :=
  (wp_X2_advance length bytes token start behind value (fun token_1 start_2 behind_3 value_4 => (wp_X2_number length bytes token_1 start_2 behind_3 value_4 5 (fun r_5 token_6 start_7 behind_8 value_9 => ((r_5 = (-1) → Post 0 token_6 start_7 behind_8 value_9 pasts skills) ∧ (¬ r_5 = (-1) → (wp_X2_number length bytes token_6 start_7 behind_8 value_9 9 (fun r_11 token_12 start_13 behind_14 value_15 => ((r_11 = (-1) → Post 0 token_12 start_13 behind_14 value_15 pasts skills) ∧ (¬ r_11 = (-1) → (wp_X1_setSkill pasts skills r_5 r_11 (fun pasts_17 skills_18 => (wp_X2_endItem length bytes token_12 start_13 behind_14 value_15 (fun r_19 token_20 start_21 behind_22 value_23 => ((r_19 = 0 ∨ r_19 = 1) ∧ Post r_19 token_20 start_21 behind_22 value_23 pasts_17 skills_18)))))))))))))))
set_option maxHeartbeats 4000000 in
set_option maxRecDepth 100000 in
theorem c_X2_readSkill (l : Launch) (D : va_G) (cI cB cZ cP cC : ClassId) (a_t a_t_bytes a_c a_c_kind a_c_months a_c_home a_c_nurse a_c_skills a_c_noteRow a_c_soundRow a_c_pastRow a_K : Nat) (length : Int32) (token : Int32) (start : Int32) (behind : Int32) (value : Int32) (bytes : Nat → Int32) (infants : Int32) (retired : Int32) (month : Int32) (notes : Int32) (sounds : Int32) (pasts : Int32) (skills : Nat → Int32)  (sz : Nat) (Post : Int32 → Int32 → Int32 → Int32 → Int32 → Int32 → (Nat → Int32) → Prop) (hw : wp_X2_readSkill length bytes token start behind value pasts skills Post) :
    Met l yX2_readSkill (Cond.code yX2_readSkill cX2_readSkill 3 (some .boolean) :: wsAll) rm_X2_readSkill (va_Pc [.ref a_t] (mxP D (mxTy cI cB cZ cP cC) sz (ww_X2_readSkill a_t a_t_bytes a_c a_c_kind a_c_months a_c_home a_c_nurse a_c_skills a_c_noteRow a_c_soundRow a_c_pastRow a_K cI cB cZ cP cC length token start behind value bytes infants retired month notes sounds pasts skills))) (qq_X2_readSkill D a_t a_t_bytes a_c a_c_kind a_c_months a_c_home a_c_nurse a_c_skills a_c_noteRow a_c_soundRow a_c_pastRow a_K cI cB cZ cP cC length bytes infants retired month notes sounds Post (va_A (ww_X2_readSkill a_t a_t_bytes a_c a_c_kind a_c_months a_c_home a_c_nurse a_c_skills a_c_noteRow a_c_soundRow a_c_pastRow a_K cI cB cZ cP cC length token start behind value bytes infants retired month notes sounds pasts skills) sz)) 0 0 (va_A (ww_X2_readSkill a_t a_t_bytes a_c a_c_kind a_c_months a_c_home a_c_nurse a_c_skills a_c_noteRow a_c_soundRow a_c_pastRow a_K cI cB cZ cP cC length token start behind value bytes infants retired month notes sounds pasts skills) sz) := by
  refine mx_of (Qc := qq_X2_readSkill D a_t a_t_bytes a_c a_c_kind a_c_months a_c_home a_c_nurse a_c_skills a_c_noteRow a_c_soundRow a_c_pastRow a_K cI cB cZ cP cC length bytes infants retired month notes sounds Post) (by decide) (Nat.le_of_ble_eq_true rfl) ?_
  intro p e s m bl meth c A ls C0 hP hD hS hl
  replace C0 : mxC p s m [.ref a_t].toArray meth c cX2_readSkill RX2 (some .boolean) 3 D (mxTy cI cB cZ cP cC) A := C0
  obtain ⟨hx, hb, hr, hlocks, hml, hown, hts, hK, hA⟩ := id C0
  replace hl : lv_has ls 3 [(0, .ref a_t)] := hl
  unfold wp_X2_readSkill at hw
  refine lv_aload_n hx hb dX2_readSkill_0 rfl (lv_at hl 0 rfl) ?_
  refine mx_kv (mx_rV (rm := rm_X2_advance) (rest := []) (C := RX2) hx hb hml hown hts (c_X2_advance l D cI cB cZ cP cC a_t a_t_bytes a_c length token start behind value bytes _ _ hw) q_231 q_232 q_233 q_39 q_234 hd_X2_advance ⟨(Nat.le_of_ble_eq_true rfl), (Nat.le_of_ble_eq_true rfl)⟩ rfl rfl hK hP hD [0, 1] rfl rfl 2 0 rfl rfl rfl rfl hl.1 rfl (Nat.le_of_ble_eq_true rfl) dX2_readSkill_1 ⟨(Nat.le_of_ble_eq_true rfl), (Nat.le_of_ble_eq_true rfl)⟩) hP hD hS hA [0, 1] [2, 3] [2, 3, 0, 1] (fun u => ww_X2_readSkill a_t a_t_bytes a_c a_c_kind a_c_months a_c_home a_c_nurse a_c_skills a_c_noteRow a_c_soundRow a_c_pastRow a_K cI cB cZ cP cC length (u.1) (u.2.1) (u.2.2.1) (u.2.2.2) bytes infants retired month notes sounds pasts skills) rfl rfl rfl (by decide) rfl (fun _ => rfl) (fun u H locs hw hP hD hS => ?_)
  obtain ⟨token_1, start_2, behind_3, value_4⟩ := u
  try dsimp only at hw
  replace hP : va_P D vwCl (ww_X2_readSkill a_t a_t_bytes a_c a_c_kind a_c_months a_c_home a_c_nurse a_c_skills a_c_noteRow a_c_soundRow a_c_pastRow a_K cI cB cZ cP cC length token_1 start_2 behind_3 value_4 bytes infants retired month notes sounds pasts skills) H := hP
  replace hD : va_D A (ww_X2_readSkill a_t a_t_bytes a_c a_c_kind a_c_months a_c_home a_c_nurse a_c_skills a_c_noteRow a_c_soundRow a_c_pastRow a_K cI cB cZ cP cC length token_1 start_2 behind_3 value_4 bytes infants retired month notes sounds pasts skills) := hD
  refine lv_aload_n hx hb dX2_readSkill_4 rfl (lv_at hl 0 rfl) ?_
  refine lv_iconst (v := 5) hx hb dX2_readSkill_5 (by decide) ?_
  refine mx_ki (mx_rV (rm := rm_X2_number) (rest := []) (C := RX2) hx hb hml hown hts (c_X2_number l D cI cB cZ cP cC a_t a_t_bytes a_c length token_1 start_2 behind_3 value_4 bytes 5 _ _ hw) q_310 q_311 q_312 q_39 q_313 hd_X2_number ⟨(Nat.le_of_ble_eq_true rfl), (Nat.le_of_ble_eq_true rfl)⟩ rfl rfl hK hP hD [0, 1] rfl rfl 2 0 rfl rfl rfl rfl hl.1 rfl (Nat.le_of_ble_eq_true rfl) dX2_readSkill_6 ⟨(Nat.le_of_ble_eq_true rfl), (Nat.le_of_ble_eq_true rfl)⟩) hP hD hS hA [0, 1] [2, 3] [2, 3, 0, 1] (fun u => ww_X2_readSkill a_t a_t_bytes a_c a_c_kind a_c_months a_c_home a_c_nurse a_c_skills a_c_noteRow a_c_soundRow a_c_pastRow a_K cI cB cZ cP cC length (u.1) (u.2.1) (u.2.2.1) (u.2.2.2) bytes infants retired month notes sounds pasts skills) rfl rfl rfl (by decide) rfl (fun _ => rfl) (fun r_5 u H locs hw hP hD hS => ?_)
  obtain ⟨token_6, start_7, behind_8, value_9⟩ := u
  try dsimp only at hw
  replace hP : va_P D vwCl (ww_X2_readSkill a_t a_t_bytes a_c a_c_kind a_c_months a_c_home a_c_nurse a_c_skills a_c_noteRow a_c_soundRow a_c_pastRow a_K cI cB cZ cP cC length token_6 start_7 behind_8 value_9 bytes infants retired month notes sounds pasts skills) H := hP
  replace hD : va_D A (ww_X2_readSkill a_t a_t_bytes a_c a_c_kind a_c_months a_c_home a_c_nurse a_c_skills a_c_noteRow a_c_soundRow a_c_pastRow a_K cI cB cZ cP cC length token_6 start_7 behind_8 value_9 bytes infants retired month notes sounds pasts skills) := hD
  refine lv_istore_n (lv' := [(1, .int r_5), (0, .ref a_t)]) hx hb dX2_readSkill_9 rfl hl (by decide) rfl (fun ls hl => ?_)
  refine lv_iload_n hx hb dX2_readSkill_10 rfl (lv_at hl 0 rfl) ?_
  refine lv_iconst (v := (-1)) hx hb dX2_readSkill_11 (by decide) ?_
  refine lv_icmp_ne (tgt := 17) hx hb dX2_readSkill_12 (by decide) (fun c_10 => ?_) (fun c_10 => ?_)
  · replace hw := hw.2 c_10
    refine lv_aload_n hx hb dX2_readSkill_17 rfl (lv_at hl 1 rfl) ?_
    refine lv_bipush (v := 9) hx hb dX2_readSkill_18 (by decide) ?_
    refine mx_ki (mx_rV (rm := rm_X2_number) (rest := []) (C := RX2) hx hb hml hown hts (c_X2_number l D cI cB cZ cP cC a_t a_t_bytes a_c length token_6 start_7 behind_8 value_9 bytes 9 _ _ hw) q_310 q_311 q_312 q_39 q_313 hd_X2_number ⟨(Nat.le_of_ble_eq_true rfl), (Nat.le_of_ble_eq_true rfl)⟩ rfl rfl hK hP hD [0, 1] rfl rfl 2 0 rfl rfl rfl rfl hl.1 rfl (Nat.le_of_ble_eq_true rfl) dX2_readSkill_20 ⟨(Nat.le_of_ble_eq_true rfl), (Nat.le_of_ble_eq_true rfl)⟩) hP hD hS hA [0, 1] [2, 3] [2, 3, 0, 1] (fun u => ww_X2_readSkill a_t a_t_bytes a_c a_c_kind a_c_months a_c_home a_c_nurse a_c_skills a_c_noteRow a_c_soundRow a_c_pastRow a_K cI cB cZ cP cC length (u.1) (u.2.1) (u.2.2.1) (u.2.2.2) bytes infants retired month notes sounds pasts skills) rfl rfl rfl (by decide) rfl (fun _ => rfl) (fun r_11 u H locs hw hP hD hS => ?_)
    obtain ⟨token_12, start_13, behind_14, value_15⟩ := u
    try dsimp only at hw
    replace hP : va_P D vwCl (ww_X2_readSkill a_t a_t_bytes a_c a_c_kind a_c_months a_c_home a_c_nurse a_c_skills a_c_noteRow a_c_soundRow a_c_pastRow a_K cI cB cZ cP cC length token_12 start_13 behind_14 value_15 bytes infants retired month notes sounds pasts skills) H := hP
    replace hD : va_D A (ww_X2_readSkill a_t a_t_bytes a_c a_c_kind a_c_months a_c_home a_c_nurse a_c_skills a_c_noteRow a_c_soundRow a_c_pastRow a_K cI cB cZ cP cC length token_12 start_13 behind_14 value_15 bytes infants retired month notes sounds pasts skills) := hD
    refine lv_istore_n (lv' := [(2, .int r_11), (1, .int r_5), (0, .ref a_t)]) hx hb dX2_readSkill_23 rfl hl (by decide) rfl (fun ls hl => ?_)
    refine lv_iload_n hx hb dX2_readSkill_24 rfl (lv_at hl 0 rfl) ?_
    refine lv_iconst (v := (-1)) hx hb dX2_readSkill_25 (by decide) ?_
    refine lv_icmp_ne (tgt := 31) hx hb dX2_readSkill_26 (by decide) (fun c_16 => ?_) (fun c_16 => ?_)
    · replace hw := hw.2 c_16
      refine lv_aload_n hx hb dX2_readSkill_31 rfl (lv_at hl 2 rfl) ?_
      refine mx_get (ci := 2) (C := RX2) (T := TX2) (N := 7) hx hb hown in_wsX20 hts hK hP 0 rfl rfl 0 (by decide) q_80 rfl (v := .ref a_c) rfl dX2_readSkill_32 ?_
      refine lv_iload_n hx hb dX2_readSkill_35 rfl (lv_at hl 1 rfl) ?_
      refine lv_iload_n hx hb dX2_readSkill_36 rfl (lv_at hl 0 rfl) ?_
      refine mx_kv (mx_rV (rm := rm_X1_setSkill) (rest := []) (C := RX1) hx hb hml hown hts (c_X1_setSkill l D cI cB cZ cP cC a_c a_c_kind a_c_months a_c_home a_c_nurse a_c_skills a_c_noteRow a_c_soundRow a_c_pastRow a_K infants retired month notes sounds pasts skills r_5 r_11 _ _ hw) q_319 q_183 q_184 q_32 q_185 hd_X1_setSkill ⟨(Nat.le_of_ble_eq_true rfl), (Nat.le_of_ble_eq_true rfl)⟩ rfl rfl hK hP hD [2, 3] rfl rfl 1 2 rfl rfl rfl rfl hl.1 rfl (Nat.le_of_ble_eq_true rfl) dX2_readSkill_37 ⟨(Nat.le_of_ble_eq_true rfl), (Nat.le_of_ble_eq_true rfl)⟩) hP hD hS hA [2, 3] [0, 1] [0, 1, 2, 3] (fun u => ww_X2_readSkill a_t a_t_bytes a_c a_c_kind a_c_months a_c_home a_c_nurse a_c_skills a_c_noteRow a_c_soundRow a_c_pastRow a_K cI cB cZ cP cC length token_12 start_13 behind_14 value_15 bytes infants retired month notes sounds (u.1) (u.2)) rfl rfl rfl (by decide) rfl (fun _ => rfl) (fun u H locs hw hP hD hS => ?_)
      obtain ⟨pasts_17, skills_18⟩ := u
      try dsimp only at hw
      replace hP : va_P D vwCl (ww_X2_readSkill a_t a_t_bytes a_c a_c_kind a_c_months a_c_home a_c_nurse a_c_skills a_c_noteRow a_c_soundRow a_c_pastRow a_K cI cB cZ cP cC length token_12 start_13 behind_14 value_15 bytes infants retired month notes sounds pasts_17 skills_18) H := hP
      replace hD : va_D A (ww_X2_readSkill a_t a_t_bytes a_c a_c_kind a_c_months a_c_home a_c_nurse a_c_skills a_c_noteRow a_c_soundRow a_c_pastRow a_K cI cB cZ cP cC length token_12 start_13 behind_14 value_15 bytes infants retired month notes sounds pasts_17 skills_18) := hD
      refine lv_aload_n hx hb dX2_readSkill_40 rfl (lv_at hl 2 rfl) ?_
      refine mx_ki (mx_rV (rm := rm_X2_endItem) (rest := []) (C := RX2) hx hb hml hown hts (c_X2_endItem l D cI cB cZ cP cC a_t a_t_bytes a_c length token_12 start_13 behind_14 value_15 bytes _ _ hw) q_297 q_298 q_299 q_39 q_300 hd_X2_endItem ⟨(Nat.le_of_ble_eq_true rfl), (Nat.le_of_ble_eq_true rfl)⟩ rfl rfl hK hP hD [0, 1] rfl rfl 2 0 rfl rfl rfl rfl hl.1 rfl (Nat.le_of_ble_eq_true rfl) dX2_readSkill_41 ⟨(Nat.le_of_ble_eq_true rfl), (Nat.le_of_ble_eq_true rfl)⟩) hP hD hS hA [0, 1] [2, 3] [2, 3, 0, 1] (fun u => ww_X2_readSkill a_t a_t_bytes a_c a_c_kind a_c_months a_c_home a_c_nurse a_c_skills a_c_noteRow a_c_soundRow a_c_pastRow a_K cI cB cZ cP cC length (u.1) (u.2.1) (u.2.2.1) (u.2.2.2) bytes infants retired month notes sounds pasts_17 skills_18) rfl rfl rfl (by decide) rfl (fun _ => rfl) (fun r_19 u H locs hw hP hD hS => ?_)
      obtain ⟨token_20, start_21, behind_22, value_23⟩ := u
      try dsimp only at hw
      replace hP : va_P D vwCl (ww_X2_readSkill a_t a_t_bytes a_c a_c_kind a_c_months a_c_home a_c_nurse a_c_skills a_c_noteRow a_c_soundRow a_c_pastRow a_K cI cB cZ cP cC length token_20 start_21 behind_22 value_23 bytes infants retired month notes sounds pasts_17 skills_18) H := hP
      replace hD : va_D A (ww_X2_readSkill a_t a_t_bytes a_c a_c_kind a_c_months a_c_home a_c_nurse a_c_skills a_c_noteRow a_c_soundRow a_c_pastRow a_K cI cB cZ cP cC length token_20 start_21 behind_22 value_23 bytes infants retired month notes sounds pasts_17 skills_18) := hD
      obtain ⟨h_24, hw⟩ := hw
      exact mx_iret (token_20, start_21, behind_22, value_23, pasts_17, skills_18) hx hb hr hlocks (mx_narZ h_24) hw hK hP hD hS dX2_readSkill_44
    · replace hw := hw.1 c_16
      refine lv_iconst (v := 0) hx hb dX2_readSkill_29 (by decide) ?_
      exact mx_iret (token_12, start_13, behind_14, value_15, pasts, skills) hx hb hr hlocks rfl hw hK hP hD hS dX2_readSkill_30
  · replace hw := hw.1 c_10
    refine lv_iconst (v := 0) hx hb dX2_readSkill_15 (by decide) ?_
    exact mx_iret (token_6, start_7, behind_8, value_9, pasts, skills) hx hb hr hlocks rfl hw hK hP hD hS dX2_readSkill_16
/-! PramState$CourtText.readInfant()Z -/
abbrev ww_X2_readInfant (a_t a_t_bytes a_c a_c_kind a_c_months a_c_home a_c_nurse a_c_skills a_c_noteRow a_c_soundRow a_c_pastRow a_K : Nat) (cI cB cZ cP cC : ClassId) (length : Int32) (token : Int32) (start : Int32) (behind : Int32) (value : Int32) (bytes : Nat → Int32) (infants : Int32) (retired : Int32) (month : Int32) (notes : Int32) (sounds : Int32) (pasts : Int32) (kind : Nat → Int32) (months : Nat → Int32) (home : Nat → Int32) (nurse : Nat → Int32) : va_W := [(a_t, .inr (2, [.ref a_c, .int length, .ref a_t_bytes, .int token, .int start, .int behind, .int value])), (a_t_bytes, .inl (cB, 150, .inl bytes)), (a_c, .inr (1, [.ref a_K, .ref a_c_kind, .ref a_c_months, .ref a_c_home, .ref a_c_nurse, .ref a_c_skills, .ref a_c_noteRow, .ref a_c_soundRow, .ref a_c_pastRow, .int infants, .int retired, .int month, .int notes, .int sounds, .int pasts])), (a_c_kind, .inl (cI, 6, .inl kind)), (a_c_months, .inl (cI, 6, .inl months)), (a_c_home, .inl (cI, 6, .inl home)), (a_c_nurse, .inl (cI, 6, .inl nurse))]
abbrev qq_X2_readInfant (D : va_G) (a_t a_t_bytes a_c a_c_kind a_c_months a_c_home a_c_nurse a_c_skills a_c_noteRow a_c_soundRow a_c_pastRow a_K : Nat) (cI cB cZ cP cC : ClassId) (length : Int32) (bytes : Nat → Int32) (retired : Int32) (month : Int32) (notes : Int32) (sounds : Int32) (Post : Int32 → Int32 → Int32 → Int32 → Int32 → Int32 → Int32 → (Nat → Int32) → (Nat → Int32) → (Nat → Int32) → (Nat → Int32) → Prop) (A : Nat → Prop) : Array Value → State → Outcome → State → Prop := va_Qi (fun (r : Int32) (u : Int32 × Int32 × Int32 × Int32 × Int32 × Int32 × (Nat → Int32) × (Nat → Int32) × (Nat → Int32) × (Nat → Int32)) => Post r u.1 u.2.1 u.2.2.1 u.2.2.2.1 u.2.2.2.2.1 u.2.2.2.2.2.1 u.2.2.2.2.2.2.1 u.2.2.2.2.2.2.2.1 u.2.2.2.2.2.2.2.2.1 u.2.2.2.2.2.2.2.2.2) (fun (u : Int32 × Int32 × Int32 × Int32 × Int32 × Int32 × (Nat → Int32) × (Nat → Int32) × (Nat → Int32) × (Nat → Int32)) t => mxB D (mxTy cI cB cZ cP cC) A (ww_X2_readInfant a_t a_t_bytes a_c a_c_kind a_c_months a_c_home a_c_nurse a_c_skills a_c_noteRow a_c_soundRow a_c_pastRow a_K cI cB cZ cP cC length (u.1) (u.2.1) (u.2.2.1) (u.2.2.2.1) bytes (u.2.2.2.2.1) retired month notes sounds (u.2.2.2.2.2.1) (u.2.2.2.2.2.2.1) (u.2.2.2.2.2.2.2.1) (u.2.2.2.2.2.2.2.2.1) (u.2.2.2.2.2.2.2.2.2)) t) A
abbrev rm_X2_readInfant : Room := { frames := 3, cells := 0, slots := 0, locals := 65 }
theorem hd_X2_readInfant : yX2_readInfant.cls = RX2 ∧ yX2_readInfant.cls ≠ "java/lang/invoke/MethodHandle" ∧ yX2_readInfant.cls ≠ "java/lang/invoke/VarHandle" ∧ (parseMethodDescriptor yX2_readInfant.desc).map (fun d => d.parameters.length) = some 0 := by decide +kernel
def wp_X2_readInfant (length : Int32) (bytes : Nat → Int32) (token : Int32) (start : Int32) (behind : Int32) (value : Int32) (infants : Int32) (pasts : Int32) (kind : Nat → Int32) (months : Nat → Int32) (home : Nat → Int32) (nurse : Nat → Int32) (Post : Int32 → Int32 → Int32 → Int32 → Int32 → Int32 → Int32 → (Nat → Int32) → (Nat → Int32) → (Nat → Int32) → (Nat → Int32) → Prop) : Prop :=
  ((infants < 6 → (wp_X2_advance length bytes token start behind value (fun token_2 start_3 behind_4 value_5 => (wp_X2_number length bytes token_2 start_3 behind_4 value_5 5 (fun r_6 token_7 start_8 behind_9 value_10 => ((r_6 = (-1) → Post 0 token_7 start_8 behind_9 value_10 infants pasts kind months home nurse) ∧ (¬ r_6 = (-1) → (wp_X2_number length bytes token_7 start_8 behind_9 value_10 35 (fun r_12 token_13 start_14 behind_15 value_16 => ((r_12 = (-1) → Post 0 token_13 start_14 behind_15 value_16 infants pasts kind months home nurse) ∧ (¬ r_12 = (-1) → (wp_X2_number length bytes token_13 start_14 behind_15 value_16 5 (fun r_18 token_19 start_20 behind_21 value_22 => ((r_18 = (-1) → Post 0 token_19 start_20 behind_21 value_22 infants pasts kind months home nurse) ∧ (¬ r_18 = (-1) → (wp_X1_add infants pasts kind months home nurse r_6 r_12 r_18 (fun infants_24 pasts_25 kind_26 months_27 home_28 nurse_29 => (wp_X2_endItem length bytes token_19 start_20 behind_21 value_22 (fun r_30 token_31 start_32 behind_33 value_34 => ((r_30 = 0 ∨ r_30 = 1) ∧ Post r_30 token_31 start_32 behind_33 value_34 infants_24 pasts_25 kind_26 months_27 home_28 nurse_29)))))))))))))))))))) ∧ (¬ infants < 6 → Post 0 token start behind value infants pasts kind months home nurse))
set_option maxHeartbeats 4000000 in
set_option maxRecDepth 100000 in
theorem c_X2_readInfant (l : Launch) (D : va_G) (cI cB cZ cP cC : ClassId) (a_t a_t_bytes a_c a_c_kind a_c_months a_c_home a_c_nurse a_c_skills a_c_noteRow a_c_soundRow a_c_pastRow a_K : Nat) (length : Int32) (token : Int32) (start : Int32) (behind : Int32) (value : Int32) (bytes : Nat → Int32) (infants : Int32) (retired : Int32) (month : Int32) (notes : Int32) (sounds : Int32) (pasts : Int32) (kind : Nat → Int32) (months : Nat → Int32) (home : Nat → Int32) (nurse : Nat → Int32)  (sz : Nat) (Post : Int32 → Int32 → Int32 → Int32 → Int32 → Int32 → Int32 → (Nat → Int32) → (Nat → Int32) → (Nat → Int32) → (Nat → Int32) → Prop) (hw : wp_X2_readInfant length bytes token start behind value infants pasts kind months home nurse Post) :
    Met l yX2_readInfant (Cond.code yX2_readInfant cX2_readInfant 4 (some .boolean) :: wsAll) rm_X2_readInfant (va_Pc [.ref a_t] (mxP D (mxTy cI cB cZ cP cC) sz (ww_X2_readInfant a_t a_t_bytes a_c a_c_kind a_c_months a_c_home a_c_nurse a_c_skills a_c_noteRow a_c_soundRow a_c_pastRow a_K cI cB cZ cP cC length token start behind value bytes infants retired month notes sounds pasts kind months home nurse))) (qq_X2_readInfant D a_t a_t_bytes a_c a_c_kind a_c_months a_c_home a_c_nurse a_c_skills a_c_noteRow a_c_soundRow a_c_pastRow a_K cI cB cZ cP cC length bytes retired month notes sounds Post (va_A (ww_X2_readInfant a_t a_t_bytes a_c a_c_kind a_c_months a_c_home a_c_nurse a_c_skills a_c_noteRow a_c_soundRow a_c_pastRow a_K cI cB cZ cP cC length token start behind value bytes infants retired month notes sounds pasts kind months home nurse) sz)) 0 0 (va_A (ww_X2_readInfant a_t a_t_bytes a_c a_c_kind a_c_months a_c_home a_c_nurse a_c_skills a_c_noteRow a_c_soundRow a_c_pastRow a_K cI cB cZ cP cC length token start behind value bytes infants retired month notes sounds pasts kind months home nurse) sz) := by
  refine mx_of (Qc := qq_X2_readInfant D a_t a_t_bytes a_c a_c_kind a_c_months a_c_home a_c_nurse a_c_skills a_c_noteRow a_c_soundRow a_c_pastRow a_K cI cB cZ cP cC length bytes retired month notes sounds Post) (by decide) (Nat.le_of_ble_eq_true rfl) ?_
  intro p e s m bl meth c A ls C0 hP hD hS hl
  replace C0 : mxC p s m [.ref a_t].toArray meth c cX2_readInfant RX2 (some .boolean) 4 D (mxTy cI cB cZ cP cC) A := C0
  obtain ⟨hx, hb, hr, hlocks, hml, hown, hts, hK, hA⟩ := id C0
  replace hl : lv_has ls 4 [(0, .ref a_t)] := hl
  unfold wp_X2_readInfant at hw
  refine lv_aload_n hx hb dX2_readInfant_0 rfl (lv_at hl 0 rfl) ?_
  refine mx_get (ci := 2) (C := RX2) (T := TX2) (N := 7) hx hb hown in_wsX20 hts hK hP 0 rfl rfl 0 (by decide) q_80 rfl (v := .ref a_c) rfl dX2_readInfant_1 ?_
  refine mx_get (ci := 1) (C := RX1) (T := TX1) (N := 15) hx hb hown in_wsX10 hts hK hP 2 rfl rfl 9 (by decide) q_309 rfl (v := .int infants) rfl dX2_readInfant_4 ?_
  refine lv_bipush (v := 6) hx hb dX2_readInfant_7 (by decide) ?_
  refine lv_icmp_lt (tgt := 14) hx hb dX2_readInfant_9 (by decide) (fun c_1 => ?_) (fun c_1 => ?_)
  · replace hw := hw.1 c_1
    refine lv_aload_n hx hb dX2_readInfant_14 rfl (lv_at hl 0 rfl) ?_
    refine mx_kv (mx_rV (rm := rm_X2_advance) (rest := []) (C := RX2) hx hb hml hown hts (c_X2_advance l D cI cB cZ cP cC a_t a_t_bytes a_c length token start behind value bytes _ _ hw) q_231 q_232 q_233 q_39 q_234 hd_X2_advance ⟨(Nat.le_of_ble_eq_true rfl), (Nat.le_of_ble_eq_true rfl)⟩ rfl rfl hK hP hD [0, 1] rfl rfl 2 0 rfl rfl rfl rfl hl.1 rfl (Nat.le_of_ble_eq_true rfl) dX2_readInfant_15 ⟨(Nat.le_of_ble_eq_true rfl), (Nat.le_of_ble_eq_true rfl)⟩) hP hD hS hA [0, 1] [2, 3, 4, 5, 6] [5, 6, 0, 1, 2, 3, 4] (fun u => ww_X2_readInfant a_t a_t_bytes a_c a_c_kind a_c_months a_c_home a_c_nurse a_c_skills a_c_noteRow a_c_soundRow a_c_pastRow a_K cI cB cZ cP cC length (u.1) (u.2.1) (u.2.2.1) (u.2.2.2) bytes infants retired month notes sounds pasts kind months home nurse) rfl rfl rfl (by decide) rfl (fun _ => rfl) (fun u H locs hw hP hD hS => ?_)
    obtain ⟨token_2, start_3, behind_4, value_5⟩ := u
    try dsimp only at hw
    replace hP : va_P D vwCl (ww_X2_readInfant a_t a_t_bytes a_c a_c_kind a_c_months a_c_home a_c_nurse a_c_skills a_c_noteRow a_c_soundRow a_c_pastRow a_K cI cB cZ cP cC length token_2 start_3 behind_4 value_5 bytes infants retired month notes sounds pasts kind months home nurse) H := hP
    replace hD : va_D A (ww_X2_readInfant a_t a_t_bytes a_c a_c_kind a_c_months a_c_home a_c_nurse a_c_skills a_c_noteRow a_c_soundRow a_c_pastRow a_K cI cB cZ cP cC length token_2 start_3 behind_4 value_5 bytes infants retired month notes sounds pasts kind months home nurse) := hD
    refine lv_aload_n hx hb dX2_readInfant_18 rfl (lv_at hl 0 rfl) ?_
    refine lv_iconst (v := 5) hx hb dX2_readInfant_19 (by decide) ?_
    refine mx_ki (mx_rV (rm := rm_X2_number) (rest := []) (C := RX2) hx hb hml hown hts (c_X2_number l D cI cB cZ cP cC a_t a_t_bytes a_c length token_2 start_3 behind_4 value_5 bytes 5 _ _ hw) q_310 q_311 q_312 q_39 q_313 hd_X2_number ⟨(Nat.le_of_ble_eq_true rfl), (Nat.le_of_ble_eq_true rfl)⟩ rfl rfl hK hP hD [0, 1] rfl rfl 2 0 rfl rfl rfl rfl hl.1 rfl (Nat.le_of_ble_eq_true rfl) dX2_readInfant_20 ⟨(Nat.le_of_ble_eq_true rfl), (Nat.le_of_ble_eq_true rfl)⟩) hP hD hS hA [0, 1] [2, 3, 4, 5, 6] [5, 6, 0, 1, 2, 3, 4] (fun u => ww_X2_readInfant a_t a_t_bytes a_c a_c_kind a_c_months a_c_home a_c_nurse a_c_skills a_c_noteRow a_c_soundRow a_c_pastRow a_K cI cB cZ cP cC length (u.1) (u.2.1) (u.2.2.1) (u.2.2.2) bytes infants retired month notes sounds pasts kind months home nurse) rfl rfl rfl (by decide) rfl (fun _ => rfl) (fun r_6 u H locs hw hP hD hS => ?_)
    obtain ⟨token_7, start_8, behind_9, value_10⟩ := u
    try dsimp only at hw
    replace hP : va_P D vwCl (ww_X2_readInfant a_t a_t_bytes a_c a_c_kind a_c_months a_c_home a_c_nurse a_c_skills a_c_noteRow a_c_soundRow a_c_pastRow a_K cI cB cZ cP cC length token_7 start_8 behind_9 value_10 bytes infants retired month notes sounds pasts kind months home nurse) H := hP
    replace hD : va_D A (ww_X2_readInfant a_t a_t_bytes a_c a_c_kind a_c_months a_c_home a_c_nurse a_c_skills a_c_noteRow a_c_soundRow a_c_pastRow a_K cI cB cZ cP cC length token_7 start_8 behind_9 value_10 bytes infants retired month notes sounds pasts kind months home nurse) := hD
    refine lv_istore_n (lv' := [(1, .int r_6), (0, .ref a_t)]) hx hb dX2_readInfant_23 rfl hl (by decide) rfl (fun ls hl => ?_)
    refine lv_iload_n hx hb dX2_readInfant_24 rfl (lv_at hl 0 rfl) ?_
    refine lv_iconst (v := (-1)) hx hb dX2_readInfant_25 (by decide) ?_
    refine lv_icmp_ne (tgt := 31) hx hb dX2_readInfant_26 (by decide) (fun c_11 => ?_) (fun c_11 => ?_)
    · replace hw := hw.2 c_11
      refine lv_aload_n hx hb dX2_readInfant_31 rfl (lv_at hl 1 rfl) ?_
      refine lv_bipush (v := 35) hx hb dX2_readInfant_32 (by decide) ?_
      refine mx_ki (mx_rV (rm := rm_X2_number) (rest := []) (C := RX2) hx hb hml hown hts (c_X2_number l D cI cB cZ cP cC a_t a_t_bytes a_c length token_7 start_8 behind_9 value_10 bytes 35 _ _ hw) q_310 q_311 q_312 q_39 q_313 hd_X2_number ⟨(Nat.le_of_ble_eq_true rfl), (Nat.le_of_ble_eq_true rfl)⟩ rfl rfl hK hP hD [0, 1] rfl rfl 2 0 rfl rfl rfl rfl hl.1 rfl (Nat.le_of_ble_eq_true rfl) dX2_readInfant_34 ⟨(Nat.le_of_ble_eq_true rfl), (Nat.le_of_ble_eq_true rfl)⟩) hP hD hS hA [0, 1] [2, 3, 4, 5, 6] [5, 6, 0, 1, 2, 3, 4] (fun u => ww_X2_readInfant a_t a_t_bytes a_c a_c_kind a_c_months a_c_home a_c_nurse a_c_skills a_c_noteRow a_c_soundRow a_c_pastRow a_K cI cB cZ cP cC length (u.1) (u.2.1) (u.2.2.1) (u.2.2.2) bytes infants retired month notes sounds pasts kind months home nurse) rfl rfl rfl (by decide) rfl (fun _ => rfl) (fun r_12 u H locs hw hP hD hS => ?_)
      obtain ⟨token_13, start_14, behind_15, value_16⟩ := u
      try dsimp only at hw
      replace hP : va_P D vwCl (ww_X2_readInfant a_t a_t_bytes a_c a_c_kind a_c_months a_c_home a_c_nurse a_c_skills a_c_noteRow a_c_soundRow a_c_pastRow a_K cI cB cZ cP cC length token_13 start_14 behind_15 value_16 bytes infants retired month notes sounds pasts kind months home nurse) H := hP
      replace hD : va_D A (ww_X2_readInfant a_t a_t_bytes a_c a_c_kind a_c_months a_c_home a_c_nurse a_c_skills a_c_noteRow a_c_soundRow a_c_pastRow a_K cI cB cZ cP cC length token_13 start_14 behind_15 value_16 bytes infants retired month notes sounds pasts kind months home nurse) := hD
      refine lv_istore_n (lv' := [(2, .int r_12), (1, .int r_6), (0, .ref a_t)]) hx hb dX2_readInfant_37 rfl hl (by decide) rfl (fun ls hl => ?_)
      refine lv_iload_n hx hb dX2_readInfant_38 rfl (lv_at hl 0 rfl) ?_
      refine lv_iconst (v := (-1)) hx hb dX2_readInfant_39 (by decide) ?_
      refine lv_icmp_ne (tgt := 45) hx hb dX2_readInfant_40 (by decide) (fun c_17 => ?_) (fun c_17 => ?_)
      · replace hw := hw.2 c_17
        refine lv_aload_n hx hb dX2_readInfant_45 rfl (lv_at hl 2 rfl) ?_
        refine lv_iconst (v := 5) hx hb dX2_readInfant_46 (by decide) ?_
        refine mx_ki (mx_rV (rm := rm_X2_number) (rest := []) (C := RX2) hx hb hml hown hts (c_X2_number l D cI cB cZ cP cC a_t a_t_bytes a_c length token_13 start_14 behind_15 value_16 bytes 5 _ _ hw) q_310 q_311 q_312 q_39 q_313 hd_X2_number ⟨(Nat.le_of_ble_eq_true rfl), (Nat.le_of_ble_eq_true rfl)⟩ rfl rfl hK hP hD [0, 1] rfl rfl 2 0 rfl rfl rfl rfl hl.1 rfl (Nat.le_of_ble_eq_true rfl) dX2_readInfant_47 ⟨(Nat.le_of_ble_eq_true rfl), (Nat.le_of_ble_eq_true rfl)⟩) hP hD hS hA [0, 1] [2, 3, 4, 5, 6] [5, 6, 0, 1, 2, 3, 4] (fun u => ww_X2_readInfant a_t a_t_bytes a_c a_c_kind a_c_months a_c_home a_c_nurse a_c_skills a_c_noteRow a_c_soundRow a_c_pastRow a_K cI cB cZ cP cC length (u.1) (u.2.1) (u.2.2.1) (u.2.2.2) bytes infants retired month notes sounds pasts kind months home nurse) rfl rfl rfl (by decide) rfl (fun _ => rfl) (fun r_18 u H locs hw hP hD hS => ?_)
        obtain ⟨token_19, start_20, behind_21, value_22⟩ := u
        try dsimp only at hw
        replace hP : va_P D vwCl (ww_X2_readInfant a_t a_t_bytes a_c a_c_kind a_c_months a_c_home a_c_nurse a_c_skills a_c_noteRow a_c_soundRow a_c_pastRow a_K cI cB cZ cP cC length token_19 start_20 behind_21 value_22 bytes infants retired month notes sounds pasts kind months home nurse) H := hP
        replace hD : va_D A (ww_X2_readInfant a_t a_t_bytes a_c a_c_kind a_c_months a_c_home a_c_nurse a_c_skills a_c_noteRow a_c_soundRow a_c_pastRow a_K cI cB cZ cP cC length token_19 start_20 behind_21 value_22 bytes infants retired month notes sounds pasts kind months home nurse) := hD
        refine lv_istore_n (lv' := [(3, .int r_18), (2, .int r_12), (1, .int r_6), (0, .ref a_t)]) hx hb dX2_readInfant_50 rfl hl (by decide) rfl (fun ls hl => ?_)
        refine lv_iload_n hx hb dX2_readInfant_51 rfl (lv_at hl 0 rfl) ?_
        refine lv_iconst (v := (-1)) hx hb dX2_readInfant_52 (by decide) ?_
        refine lv_icmp_ne (tgt := 58) hx hb dX2_readInfant_53 (by decide) (fun c_23 => ?_) (fun c_23 => ?_)
        · replace hw := hw.2 c_23
          refine lv_aload_n hx hb dX2_readInfant_58 rfl (lv_at hl 3 rfl) ?_
          refine mx_get (ci := 2) (C := RX2) (T := TX2) (N := 7) hx hb hown in_wsX20 hts hK hP 0 rfl rfl 0 (by decide) q_80 rfl (v := .ref a_c) rfl dX2_readInfant_59 ?_
          refine lv_iload_n hx hb dX2_readInfant_62 rfl (lv_at hl 2 rfl) ?_
          refine lv_iload_n hx hb dX2_readInfant_63 rfl (lv_at hl 1 rfl) ?_
          refine lv_iload_n hx hb dX2_readInfant_64 rfl (lv_at hl 0 rfl) ?_
          refine mx_kv (mx_rV (rm := rm_X1_add) (rest := []) (C := RX1) hx hb hml hown hts (c_X1_add l D cI cB cZ cP cC a_c a_c_kind a_c_months a_c_home a_c_nurse a_c_skills a_c_noteRow a_c_soundRow a_c_pastRow a_K infants retired month notes sounds pasts kind months home nurse r_6 r_12 r_18 _ _ hw) q_314 q_154 q_155 q_32 q_156 hd_X1_add ⟨(Nat.le_of_ble_eq_true rfl), (Nat.le_of_ble_eq_true rfl)⟩ rfl rfl hK hP hD [2, 3, 4, 5, 6] rfl rfl 1 2 rfl rfl rfl rfl hl.1 rfl (Nat.le_of_ble_eq_true rfl) dX2_readInfant_65 ⟨(Nat.le_of_ble_eq_true rfl), (Nat.le_of_ble_eq_true rfl)⟩) hP hD hS hA [2, 3, 4, 5, 6] [0, 1] [0, 1, 2, 3, 4, 5, 6] (fun u => ww_X2_readInfant a_t a_t_bytes a_c a_c_kind a_c_months a_c_home a_c_nurse a_c_skills a_c_noteRow a_c_soundRow a_c_pastRow a_K cI cB cZ cP cC length token_19 start_20 behind_21 value_22 bytes (u.1) retired month notes sounds (u.2.1) (u.2.2.1) (u.2.2.2.1) (u.2.2.2.2.1) (u.2.2.2.2.2)) rfl rfl rfl (by decide) rfl (fun _ => rfl) (fun u H locs hw hP hD hS => ?_)
          obtain ⟨infants_24, pasts_25, kind_26, months_27, home_28, nurse_29⟩ := u
          try dsimp only at hw
          replace hP : va_P D vwCl (ww_X2_readInfant a_t a_t_bytes a_c a_c_kind a_c_months a_c_home a_c_nurse a_c_skills a_c_noteRow a_c_soundRow a_c_pastRow a_K cI cB cZ cP cC length token_19 start_20 behind_21 value_22 bytes infants_24 retired month notes sounds pasts_25 kind_26 months_27 home_28 nurse_29) H := hP
          replace hD : va_D A (ww_X2_readInfant a_t a_t_bytes a_c a_c_kind a_c_months a_c_home a_c_nurse a_c_skills a_c_noteRow a_c_soundRow a_c_pastRow a_K cI cB cZ cP cC length token_19 start_20 behind_21 value_22 bytes infants_24 retired month notes sounds pasts_25 kind_26 months_27 home_28 nurse_29) := hD
          refine lv_aload_n hx hb dX2_readInfant_68 rfl (lv_at hl 3 rfl) ?_
          refine mx_ki (mx_rV (rm := rm_X2_endItem) (rest := []) (C := RX2) hx hb hml hown hts (c_X2_endItem l D cI cB cZ cP cC a_t a_t_bytes a_c length token_19 start_20 behind_21 value_22 bytes _ _ hw) q_297 q_298 q_299 q_39 q_300 hd_X2_endItem ⟨(Nat.le_of_ble_eq_true rfl), (Nat.le_of_ble_eq_true rfl)⟩ rfl rfl hK hP hD [0, 1] rfl rfl 2 0 rfl rfl rfl rfl hl.1 rfl (Nat.le_of_ble_eq_true rfl) dX2_readInfant_69 ⟨(Nat.le_of_ble_eq_true rfl), (Nat.le_of_ble_eq_true rfl)⟩) hP hD hS hA [0, 1] [2, 3, 4, 5, 6] [5, 6, 0, 1, 2, 3, 4] (fun u => ww_X2_readInfant a_t a_t_bytes a_c a_c_kind a_c_months a_c_home a_c_nurse a_c_skills a_c_noteRow a_c_soundRow a_c_pastRow a_K cI cB cZ cP cC length (u.1) (u.2.1) (u.2.2.1) (u.2.2.2) bytes infants_24 retired month notes sounds pasts_25 kind_26 months_27 home_28 nurse_29) rfl rfl rfl (by decide) rfl (fun _ => rfl) (fun r_30 u H locs hw hP hD hS => ?_)
          obtain ⟨token_31, start_32, behind_33, value_34⟩ := u
          try dsimp only at hw
          replace hP : va_P D vwCl (ww_X2_readInfant a_t a_t_bytes a_c a_c_kind a_c_months a_c_home a_c_nurse a_c_skills a_c_noteRow a_c_soundRow a_c_pastRow a_K cI cB cZ cP cC length token_31 start_32 behind_33 value_34 bytes infants_24 retired month notes sounds pasts_25 kind_26 months_27 home_28 nurse_29) H := hP
          replace hD : va_D A (ww_X2_readInfant a_t a_t_bytes a_c a_c_kind a_c_months a_c_home a_c_nurse a_c_skills a_c_noteRow a_c_soundRow a_c_pastRow a_K cI cB cZ cP cC length token_31 start_32 behind_33 value_34 bytes infants_24 retired month notes sounds pasts_25 kind_26 months_27 home_28 nurse_29) := hD
          obtain ⟨h_35, hw⟩ := hw
          exact mx_iret (token_31, start_32, behind_33, value_34, infants_24, pasts_25, kind_26, months_27, home_28, nurse_29) hx hb hr hlocks (mx_narZ h_35) hw hK hP hD hS dX2_readInfant_72
        · replace hw := hw.1 c_23
          refine lv_iconst (v := 0) hx hb dX2_readInfant_56 (by decide) ?_
          exact mx_iret (token_19, start_20, behind_21, value_22, infants, pasts, kind, months, home, nurse) hx hb hr hlocks rfl hw hK hP hD hS dX2_readInfant_57
      · replace hw := hw.1 c_17
        refine lv_iconst (v := 0) hx hb dX2_readInfant_43 (by decide) ?_
        exact mx_iret (token_13, start_14, behind_15, value_16, infants, pasts, kind, months, home, nurse) hx hb hr hlocks rfl hw hK hP hD hS dX2_readInfant_44
    · replace hw := hw.1 c_11
      refine lv_iconst (v := 0) hx hb dX2_readInfant_29 (by decide) ?_
      exact mx_iret (token_7, start_8, behind_9, value_10, infants, pasts, kind, months, home, nurse) hx hb hr hlocks rfl hw hK hP hD hS dX2_readInfant_30
  · replace hw := hw.2 c_1
    refine lv_iconst (v := 0) hx hb dX2_readInfant_12 (by decide) ?_
    exact mx_iret (token, start, behind, value, infants, pasts, kind, months, home, nurse) hx hb hr hlocks rfl hw hK hP hD hS dX2_readInfant_13
/-! PramState$CourtText.readItem()Z -/
abbrev ww_X2_readItem (a_t a_t_bytes a_c a_c_kind a_c_months a_c_home a_c_nurse a_c_skills a_c_noteRow a_c_soundRow a_c_pastRow a_K : Nat) (cI cB cZ cP cC : ClassId) (length : Int32) (token : Int32) (start : Int32) (behind : Int32) (value : Int32) (bytes : Nat → Int32) (infants : Int32) (retired : Int32) (month : Int32) (notes : Int32) (sounds : Int32) (pasts : Int32) (kind : Nat → Int32) (months : Nat → Int32) (home : Nat → Int32) (nurse : Nat → Int32) (skills : Nat → Int32) : va_W := [(a_t, .inr (2, [.ref a_c, .int length, .ref a_t_bytes, .int token, .int start, .int behind, .int value])), (a_t_bytes, .inl (cB, 150, .inl bytes)), (a_c, .inr (1, [.ref a_K, .ref a_c_kind, .ref a_c_months, .ref a_c_home, .ref a_c_nurse, .ref a_c_skills, .ref a_c_noteRow, .ref a_c_soundRow, .ref a_c_pastRow, .int infants, .int retired, .int month, .int notes, .int sounds, .int pasts])), (a_c_kind, .inl (cI, 6, .inl kind)), (a_c_months, .inl (cI, 6, .inl months)), (a_c_home, .inl (cI, 6, .inl home)), (a_c_nurse, .inl (cI, 6, .inl nurse)), (a_c_skills, .inl (cI, 6, .inl skills))]
abbrev qq_X2_readItem (D : va_G) (a_t a_t_bytes a_c a_c_kind a_c_months a_c_home a_c_nurse a_c_skills a_c_noteRow a_c_soundRow a_c_pastRow a_K : Nat) (cI cB cZ cP cC : ClassId) (length : Int32) (bytes : Nat → Int32) (retired : Int32) (month : Int32) (notes : Int32) (sounds : Int32) (Post : Int32 → Int32 → Int32 → Int32 → Int32 → Int32 → Int32 → (Nat → Int32) → (Nat → Int32) → (Nat → Int32) → (Nat → Int32) → (Nat → Int32) → Prop) (A : Nat → Prop) : Array Value → State → Outcome → State → Prop := va_Qi (fun (r : Int32) (u : Int32 × Int32 × Int32 × Int32 × Int32 × Int32 × (Nat → Int32) × (Nat → Int32) × (Nat → Int32) × (Nat → Int32) × (Nat → Int32)) => Post r u.1 u.2.1 u.2.2.1 u.2.2.2.1 u.2.2.2.2.1 u.2.2.2.2.2.1 u.2.2.2.2.2.2.1 u.2.2.2.2.2.2.2.1 u.2.2.2.2.2.2.2.2.1 u.2.2.2.2.2.2.2.2.2.1 u.2.2.2.2.2.2.2.2.2.2) (fun (u : Int32 × Int32 × Int32 × Int32 × Int32 × Int32 × (Nat → Int32) × (Nat → Int32) × (Nat → Int32) × (Nat → Int32) × (Nat → Int32)) t => mxB D (mxTy cI cB cZ cP cC) A (ww_X2_readItem a_t a_t_bytes a_c a_c_kind a_c_months a_c_home a_c_nurse a_c_skills a_c_noteRow a_c_soundRow a_c_pastRow a_K cI cB cZ cP cC length (u.1) (u.2.1) (u.2.2.1) (u.2.2.2.1) bytes (u.2.2.2.2.1) retired month notes sounds (u.2.2.2.2.2.1) (u.2.2.2.2.2.2.1) (u.2.2.2.2.2.2.2.1) (u.2.2.2.2.2.2.2.2.1) (u.2.2.2.2.2.2.2.2.2.1) (u.2.2.2.2.2.2.2.2.2.2)) t) A
abbrev rm_X2_readItem : Room := { frames := 5, cells := 0, slots := 0, locals := 107 }
theorem hd_X2_readItem : yX2_readItem.cls = RX2 ∧ yX2_readItem.cls ≠ "java/lang/invoke/MethodHandle" ∧ yX2_readItem.cls ≠ "java/lang/invoke/VarHandle" ∧ (parseMethodDescriptor yX2_readItem.desc).map (fun d => d.parameters.length) = some 0 := by decide +kernel
def wp_X2_readItem (length : Int32) (bytes : Nat → Int32) (token : Int32) (start : Int32) (behind : Int32) (value : Int32) (infants : Int32) (pasts : Int32) (kind : Nat → Int32) (months : Nat → Int32) (home : Nat → Int32) (nurse : Nat → Int32) (skills : Nat → Int32) (Post : Int32 → Int32 → Int32 → Int32 → Int32 → Int32 → Int32 → (Nat → Int32) → (Nat → Int32) → (Nat → Int32) → (Nat → Int32) → (Nat → Int32) → Prop) : Prop :=
  (wp_X2_isWord 1 token start behind bytes (fun r_1 => ((r_1 = 0 → (wp_X2_isWord 2 token start behind bytes (fun r_3 => ((r_3 = 0 → (wp_X2_isWord 3 token start behind bytes (fun r_5 => ((r_5 = 0 → Post 0 token start behind value infants pasts kind months home nurse skills) ∧ (¬ r_5 = 0 → (wp_X2_readNurse length bytes infants token start behind value nurse (fun r_7 token_8 start_9 behind_10 value_11 nurse_12 => ((r_7 = 0 ∨ r_7 = 1) ∧ Post r_7 token_8 start_9 behind_10 value_11 infants pasts kind months home nurse_12 skills)))))))) ∧ (¬ r_3 = 0 → (wp_X2_readSkill length bytes token start behind value pasts skills (fun r_14 token_15 start_16 behind_17 value_18 pasts_19 skills_20 => ((r_14 = 0 ∨ r_14 = 1) ∧ Post r_14 token_15 start_16 behind_17 value_18 infants pasts_19 kind months home nurse skills_20)))))))) ∧ (¬ r_1 = 0 → (wp_X2_readInfant length bytes token start behind value infants pasts kind months home nurse (fun r_22 token_23 start_24 behind_25 value_26 infants_27 pasts_28 kind_29 months_30 home_31 nurse_32 => ((r_22 = 0 ∨ r_22 = 1) ∧ Post r_22 token_23 start_24 behind_25 value_26 infants_27 pasts_28 kind_29 months_30 home_31 nurse_32 skills)))))))
set_option maxHeartbeats 4000000 in
set_option maxRecDepth 100000 in
theorem c_X2_readItem (l : Launch) (D : va_G) (cI cB cZ cP cC : ClassId) (adK adV : Nat → Nat) (a_t a_t_bytes a_c a_c_kind a_c_months a_c_home a_c_nurse a_c_skills a_c_noteRow a_c_soundRow a_c_pastRow a_K : Nat) (length : Int32) (token : Int32) (start : Int32) (behind : Int32) (value : Int32) (bytes : Nat → Int32) (infants : Int32) (retired : Int32) (month : Int32) (notes : Int32) (sounds : Int32) (pasts : Int32) (kind : Nat → Int32) (months : Nat → Int32) (home : Nat → Int32) (nurse : Nat → Int32) (skills : Nat → Int32)  (sz : Nat) (Post : Int32 → Int32 → Int32 → Int32 → Int32 → Int32 → Int32 → (Nat → Int32) → (Nat → Int32) → (Nat → Int32) → (Nat → Int32) → (Nat → Int32) → Prop) (hw : wp_X2_readItem length bytes token start behind value infants pasts kind months home nurse skills Post) :
    Met l yX2_readItem (Cond.code yX2_readItem cX2_readItem 1 (some .boolean) :: wsAll) rm_X2_readItem (va_Pc [.ref a_t] (mxPX D (mxTy cI cB cZ cP cC) sz (ww_X2_readItem a_t a_t_bytes a_c a_c_kind a_c_months a_c_home a_c_nurse a_c_skills a_c_noteRow a_c_soundRow a_c_pastRow a_K cI cB cZ cP cC length token start behind value bytes infants retired month notes sounds pasts kind months home nurse skills) adK adV)) (qq_X2_readItem D a_t a_t_bytes a_c a_c_kind a_c_months a_c_home a_c_nurse a_c_skills a_c_noteRow a_c_soundRow a_c_pastRow a_K cI cB cZ cP cC length bytes retired month notes sounds Post (va_A (ww_X2_readItem a_t a_t_bytes a_c a_c_kind a_c_months a_c_home a_c_nurse a_c_skills a_c_noteRow a_c_soundRow a_c_pastRow a_K cI cB cZ cP cC length token start behind value bytes infants retired month notes sounds pasts kind months home nurse skills) sz)) 0 0 (va_A (ww_X2_readItem a_t a_t_bytes a_c a_c_kind a_c_months a_c_home a_c_nurse a_c_skills a_c_noteRow a_c_soundRow a_c_pastRow a_K cI cB cZ cP cC length token start behind value bytes infants retired month notes sounds pasts kind months home nurse skills) sz) := by
  refine mx_ofX (Qc := qq_X2_readItem D a_t a_t_bytes a_c a_c_kind a_c_months a_c_home a_c_nurse a_c_skills a_c_noteRow a_c_soundRow a_c_pastRow a_K cI cB cZ cP cC length bytes retired month notes sounds Post) (by decide) (Nat.le_of_ble_eq_true rfl) ?_
  intro p e s m bl meth c A ls C0 hX hP hD hS hl
  replace C0 : mxC p s m [.ref a_t].toArray meth c cX2_readItem RX2 (some .boolean) 1 D (mxTy cI cB cZ cP cC) A := C0
  obtain ⟨hx, hb, hr, hlocks, hml, hown, hts, hK, hA⟩ := id C0
  replace hl : lv_has ls 1 [(0, .ref a_t)] := hl
  unfold wp_X2_readItem at hw
  refine lv_aload_n hx hb dX2_readItem_0 rfl (lv_at hl 0 rfl) ?_
  refine va_ldcS (index := 56) hx hb hown (hX.2.2.2 1 (by decide)) dX2_readItem_1 ?_
  refine mx_ki (mx_rVX (rm := rm_X2_isWord) (rest := []) (C := RX2) hx hb hml hown hts hX hS hA (c_X2_isWord l D cI cB cZ cP cC adK adV 1 (by decide) a_t a_t_bytes a_c length token start behind value bytes _ _ hw) q_244 q_245 q_246 q_39 q_247 hd_X2_isWord ⟨(Nat.le_of_ble_eq_true rfl), (Nat.le_of_ble_eq_true rfl)⟩ rfl rfl hK hP hD [0, 1] rfl rfl (va_recv hK hP (ci := 2) (q0 := 0) rfl rfl) rfl hl.1 rfl (Nat.le_of_ble_eq_true rfl) dX2_readItem_3 ⟨(Nat.le_of_ble_eq_true rfl), (Nat.le_of_ble_eq_true rfl)⟩) hP hD hS hA [0, 1] [2, 3, 4, 5, 6, 7] [6, 7, 0, 1, 2, 3, 4, 5] (fun _ => ww_X2_readItem a_t a_t_bytes a_c a_c_kind a_c_months a_c_home a_c_nurse a_c_skills a_c_noteRow a_c_soundRow a_c_pastRow a_K cI cB cZ cP cC length token start behind value bytes infants retired month notes sounds pasts kind months home nurse skills) rfl rfl rfl (by decide) rfl (fun _ => rfl) (fun r_1 u H locs hw hP hD hS => ?_)
  try dsimp only at hw
  replace hP : va_P D vwCl (ww_X2_readItem a_t a_t_bytes a_c a_c_kind a_c_months a_c_home a_c_nurse a_c_skills a_c_noteRow a_c_soundRow a_c_pastRow a_K cI cB cZ cP cC length token start behind value bytes infants retired month notes sounds pasts kind months home nurse skills) H := hP
  replace hD : va_D A (ww_X2_readItem a_t a_t_bytes a_c a_c_kind a_c_months a_c_home a_c_nurse a_c_skills a_c_noteRow a_c_soundRow a_c_pastRow a_K cI cB cZ cP cC length token start behind value bytes infants retired month notes sounds pasts kind months home nurse skills) := hD
  refine lv_if_eq (tgt := 14) hx hb dX2_readItem_6 (by decide) (fun c_2 => ?_) (fun c_2 => ?_)
  · replace hw := hw.1 c_2
    refine lv_aload_n hx hb dX2_readItem_14 rfl (lv_at hl 0 rfl) ?_
    refine va_ldcS (index := 61) hx hb hown (hX.2.2.2 2 (by decide)) dX2_readItem_15 ?_
    refine mx_ki (mx_rVX (rm := rm_X2_isWord) (rest := []) (C := RX2) hx hb hml hown hts hX hS hA (c_X2_isWord l D cI cB cZ cP cC adK adV 2 (by decide) a_t a_t_bytes a_c length token start behind value bytes _ _ hw) q_244 q_245 q_246 q_39 q_247 hd_X2_isWord ⟨(Nat.le_of_ble_eq_true rfl), (Nat.le_of_ble_eq_true rfl)⟩ rfl rfl hK hP hD [0, 1] rfl rfl (va_recv hK hP (ci := 2) (q0 := 0) rfl rfl) rfl hl.1 rfl (Nat.le_of_ble_eq_true rfl) dX2_readItem_17 ⟨(Nat.le_of_ble_eq_true rfl), (Nat.le_of_ble_eq_true rfl)⟩) hP hD hS hA [0, 1] [2, 3, 4, 5, 6, 7] [6, 7, 0, 1, 2, 3, 4, 5] (fun _ => ww_X2_readItem a_t a_t_bytes a_c a_c_kind a_c_months a_c_home a_c_nurse a_c_skills a_c_noteRow a_c_soundRow a_c_pastRow a_K cI cB cZ cP cC length token start behind value bytes infants retired month notes sounds pasts kind months home nurse skills) rfl rfl rfl (by decide) rfl (fun _ => rfl) (fun r_3 u H locs hw hP hD hS => ?_)
    try dsimp only at hw
    replace hP : va_P D vwCl (ww_X2_readItem a_t a_t_bytes a_c a_c_kind a_c_months a_c_home a_c_nurse a_c_skills a_c_noteRow a_c_soundRow a_c_pastRow a_K cI cB cZ cP cC length token start behind value bytes infants retired month notes sounds pasts kind months home nurse skills) H := hP
    replace hD : va_D A (ww_X2_readItem a_t a_t_bytes a_c a_c_kind a_c_months a_c_home a_c_nurse a_c_skills a_c_noteRow a_c_soundRow a_c_pastRow a_K cI cB cZ cP cC length token start behind value bytes infants retired month notes sounds pasts kind months home nurse skills) := hD
    refine lv_if_eq (tgt := 28) hx hb dX2_readItem_20 (by decide) (fun c_4 => ?_) (fun c_4 => ?_)
    · replace hw := hw.1 c_4
      refine lv_aload_n hx hb dX2_readItem_28 rfl (lv_at hl 0 rfl) ?_
      refine va_ldcS (index := 66) hx hb hown (hX.2.2.2 3 (by decide)) dX2_readItem_29 ?_
      refine mx_ki (mx_rVX (rm := rm_X2_isWord) (rest := []) (C := RX2) hx hb hml hown hts hX hS hA (c_X2_isWord l D cI cB cZ cP cC adK adV 3 (by decide) a_t a_t_bytes a_c length token start behind value bytes _ _ hw) q_244 q_245 q_246 q_39 q_247 hd_X2_isWord ⟨(Nat.le_of_ble_eq_true rfl), (Nat.le_of_ble_eq_true rfl)⟩ rfl rfl hK hP hD [0, 1] rfl rfl (va_recv hK hP (ci := 2) (q0 := 0) rfl rfl) rfl hl.1 rfl (Nat.le_of_ble_eq_true rfl) dX2_readItem_31 ⟨(Nat.le_of_ble_eq_true rfl), (Nat.le_of_ble_eq_true rfl)⟩) hP hD hS hA [0, 1] [2, 3, 4, 5, 6, 7] [6, 7, 0, 1, 2, 3, 4, 5] (fun _ => ww_X2_readItem a_t a_t_bytes a_c a_c_kind a_c_months a_c_home a_c_nurse a_c_skills a_c_noteRow a_c_soundRow a_c_pastRow a_K cI cB cZ cP cC length token start behind value bytes infants retired month notes sounds pasts kind months home nurse skills) rfl rfl rfl (by decide) rfl (fun _ => rfl) (fun r_5 u H locs hw hP hD hS => ?_)
      try dsimp only at hw
      replace hP : va_P D vwCl (ww_X2_readItem a_t a_t_bytes a_c a_c_kind a_c_months a_c_home a_c_nurse a_c_skills a_c_noteRow a_c_soundRow a_c_pastRow a_K cI cB cZ cP cC length token start behind value bytes infants retired month notes sounds pasts kind months home nurse skills) H := hP
      replace hD : va_D A (ww_X2_readItem a_t a_t_bytes a_c a_c_kind a_c_months a_c_home a_c_nurse a_c_skills a_c_noteRow a_c_soundRow a_c_pastRow a_K cI cB cZ cP cC length token start behind value bytes infants retired month notes sounds pasts kind months home nurse skills) := hD
      refine lv_if_eq (tgt := 42) hx hb dX2_readItem_34 (by decide) (fun c_6 => ?_) (fun c_6 => ?_)
      · replace hw := hw.1 c_6
        refine lv_iconst (v := 0) hx hb dX2_readItem_42 (by decide) ?_
        exact mx_iret (token, start, behind, value, infants, pasts, kind, months, home, nurse, skills) hx hb hr hlocks rfl hw hK hP hD hS dX2_readItem_43
      · replace hw := hw.2 c_6
        refine lv_aload_n hx hb dX2_readItem_37 rfl (lv_at hl 0 rfl) ?_
        refine mx_ki (mx_rV (rm := rm_X2_readNurse) (rest := []) (C := RX2) hx hb hml hown hts (c_X2_readNurse l D cI cB cZ cP cC a_t a_t_bytes a_c a_c_kind a_c_months a_c_home a_c_nurse a_c_skills a_c_noteRow a_c_soundRow a_c_pastRow a_K length token start behind value bytes infants retired month notes sounds pasts nurse _ _ hw) q_320 q_321 q_322 q_39 q_323 hd_X2_readNurse ⟨(Nat.le_of_ble_eq_true rfl), (Nat.le_of_ble_eq_true rfl)⟩ rfl rfl hK hP hD [0, 1, 2, 6] rfl rfl 2 0 rfl rfl rfl rfl hl.1 rfl (Nat.le_of_ble_eq_true rfl) dX2_readItem_38 ⟨(Nat.le_of_ble_eq_true rfl), (Nat.le_of_ble_eq_true rfl)⟩) hP hD hS hA [0, 1, 2, 6] [3, 4, 5, 7] [4, 5, 6, 0, 1, 2, 7, 3] (fun u => ww_X2_readItem a_t a_t_bytes a_c a_c_kind a_c_months a_c_home a_c_nurse a_c_skills a_c_noteRow a_c_soundRow a_c_pastRow a_K cI cB cZ cP cC length (u.1) (u.2.1) (u.2.2.1) (u.2.2.2.1) bytes infants retired month notes sounds pasts kind months home (u.2.2.2.2) skills) rfl rfl rfl (by decide) rfl (fun _ => rfl) (fun r_7 u H locs hw hP hD hS => ?_)
        obtain ⟨token_8, start_9, behind_10, value_11, nurse_12⟩ := u
        try dsimp only at hw
        replace hP : va_P D vwCl (ww_X2_readItem a_t a_t_bytes a_c a_c_kind a_c_months a_c_home a_c_nurse a_c_skills a_c_noteRow a_c_soundRow a_c_pastRow a_K cI cB cZ cP cC length token_8 start_9 behind_10 value_11 bytes infants retired month notes sounds pasts kind months home nurse_12 skills) H := hP
        replace hD : va_D A (ww_X2_readItem a_t a_t_bytes a_c a_c_kind a_c_months a_c_home a_c_nurse a_c_skills a_c_noteRow a_c_soundRow a_c_pastRow a_K cI cB cZ cP cC length token_8 start_9 behind_10 value_11 bytes infants retired month notes sounds pasts kind months home nurse_12 skills) := hD
        obtain ⟨h_13, hw⟩ := hw
        exact mx_iret (token_8, start_9, behind_10, value_11, infants, pasts, kind, months, home, nurse_12, skills) hx hb hr hlocks (mx_narZ h_13) hw hK hP hD hS dX2_readItem_41
    · replace hw := hw.2 c_4
      refine lv_aload_n hx hb dX2_readItem_23 rfl (lv_at hl 0 rfl) ?_
      refine mx_ki (mx_rV (rm := rm_X2_readSkill) (rest := []) (C := RX2) hx hb hml hown hts (c_X2_readSkill l D cI cB cZ cP cC a_t a_t_bytes a_c a_c_kind a_c_months a_c_home a_c_nurse a_c_skills a_c_noteRow a_c_soundRow a_c_pastRow a_K length token start behind value bytes infants retired month notes sounds pasts skills _ _ hw) q_315 q_316 q_317 q_39 q_318 hd_X2_readSkill ⟨(Nat.le_of_ble_eq_true rfl), (Nat.le_of_ble_eq_true rfl)⟩ rfl rfl hK hP hD [0, 1, 2, 7] rfl rfl 2 0 rfl rfl rfl rfl hl.1 rfl (Nat.le_of_ble_eq_true rfl) dX2_readItem_24 ⟨(Nat.le_of_ble_eq_true rfl), (Nat.le_of_ble_eq_true rfl)⟩) hP hD hS hA [0, 1, 2, 7] [3, 4, 5, 6] [4, 5, 6, 0, 1, 2, 3, 7] (fun u => ww_X2_readItem a_t a_t_bytes a_c a_c_kind a_c_months a_c_home a_c_nurse a_c_skills a_c_noteRow a_c_soundRow a_c_pastRow a_K cI cB cZ cP cC length (u.1) (u.2.1) (u.2.2.1) (u.2.2.2.1) bytes infants retired month notes sounds (u.2.2.2.2.1) kind months home nurse (u.2.2.2.2.2)) rfl rfl rfl (by decide) rfl (fun _ => rfl) (fun r_14 u H locs hw hP hD hS => ?_)
      obtain ⟨token_15, start_16, behind_17, value_18, pasts_19, skills_20⟩ := u
      try dsimp only at hw
      replace hP : va_P D vwCl (ww_X2_readItem a_t a_t_bytes a_c a_c_kind a_c_months a_c_home a_c_nurse a_c_skills a_c_noteRow a_c_soundRow a_c_pastRow a_K cI cB cZ cP cC length token_15 start_16 behind_17 value_18 bytes infants retired month notes sounds pasts_19 kind months home nurse skills_20) H := hP
      replace hD : va_D A (ww_X2_readItem a_t a_t_bytes a_c a_c_kind a_c_months a_c_home a_c_nurse a_c_skills a_c_noteRow a_c_soundRow a_c_pastRow a_K cI cB cZ cP cC length token_15 start_16 behind_17 value_18 bytes infants retired month notes sounds pasts_19 kind months home nurse skills_20) := hD
      obtain ⟨h_21, hw⟩ := hw
      exact mx_iret (token_15, start_16, behind_17, value_18, infants, pasts_19, kind, months, home, nurse, skills_20) hx hb hr hlocks (mx_narZ h_21) hw hK hP hD hS dX2_readItem_27
  · replace hw := hw.2 c_2
    refine lv_aload_n hx hb dX2_readItem_9 rfl (lv_at hl 0 rfl) ?_
    refine mx_ki (mx_rV (rm := rm_X2_readInfant) (rest := []) (C := RX2) hx hb hml hown hts (c_X2_readInfant l D cI cB cZ cP cC a_t a_t_bytes a_c a_c_kind a_c_months a_c_home a_c_nurse a_c_skills a_c_noteRow a_c_soundRow a_c_pastRow a_K length token start behind value bytes infants retired month notes sounds pasts kind months home nurse _ _ hw) q_305 q_306 q_307 q_39 q_308 hd_X2_readInfant ⟨(Nat.le_of_ble_eq_true rfl), (Nat.le_of_ble_eq_true rfl)⟩ rfl rfl hK hP hD [0, 1, 2, 3, 4, 5, 6] rfl rfl 2 0 rfl rfl rfl rfl hl.1 rfl (Nat.le_of_ble_eq_true rfl) dX2_readItem_10 ⟨(Nat.le_of_ble_eq_true rfl), (Nat.le_of_ble_eq_true rfl)⟩) hP hD hS hA [0, 1, 2, 3, 4, 5, 6] [7] [1, 2, 3, 4, 5, 6, 7, 0] (fun u => ww_X2_readItem a_t a_t_bytes a_c a_c_kind a_c_months a_c_home a_c_nurse a_c_skills a_c_noteRow a_c_soundRow a_c_pastRow a_K cI cB cZ cP cC length (u.1) (u.2.1) (u.2.2.1) (u.2.2.2.1) bytes (u.2.2.2.2.1) retired month notes sounds (u.2.2.2.2.2.1) (u.2.2.2.2.2.2.1) (u.2.2.2.2.2.2.2.1) (u.2.2.2.2.2.2.2.2.1) (u.2.2.2.2.2.2.2.2.2) skills) rfl rfl rfl (by decide) rfl (fun _ => rfl) (fun r_22 u H locs hw hP hD hS => ?_)
    obtain ⟨token_23, start_24, behind_25, value_26, infants_27, pasts_28, kind_29, months_30, home_31, nurse_32⟩ := u
    try dsimp only at hw
    replace hP : va_P D vwCl (ww_X2_readItem a_t a_t_bytes a_c a_c_kind a_c_months a_c_home a_c_nurse a_c_skills a_c_noteRow a_c_soundRow a_c_pastRow a_K cI cB cZ cP cC length token_23 start_24 behind_25 value_26 bytes infants_27 retired month notes sounds pasts_28 kind_29 months_30 home_31 nurse_32 skills) H := hP
    replace hD : va_D A (ww_X2_readItem a_t a_t_bytes a_c a_c_kind a_c_months a_c_home a_c_nurse a_c_skills a_c_noteRow a_c_soundRow a_c_pastRow a_K cI cB cZ cP cC length token_23 start_24 behind_25 value_26 bytes infants_27 retired month notes sounds pasts_28 kind_29 months_30 home_31 nurse_32 skills) := hD
    obtain ⟨h_33, hw⟩ := hw
    exact mx_iret (token_23, start_24, behind_25, value_26, infants_27, pasts_28, kind_29, months_30, home_31, nurse_32, skills) hx hb hr hlocks (mx_narZ h_33) hw hK hP hD hS dX2_readItem_13
/-! PramState$CourtText.readOpening()Z -/
abbrev ww_X2_readOpening (a_t a_t_bytes a_c : Nat) (cI cB cZ cP cC : ClassId) (length : Int32) (token : Int32) (start : Int32) (behind : Int32) (value : Int32) (bytes : Nat → Int32) : va_W := [(a_t, .inr (2, [.ref a_c, .int length, .ref a_t_bytes, .int token, .int start, .int behind, .int value])), (a_t_bytes, .inl (cB, 150, .inl bytes))]
abbrev qq_X2_readOpening (D : va_G) (a_t a_t_bytes a_c : Nat) (cI cB cZ cP cC : ClassId) (length : Int32) (bytes : Nat → Int32) (Post : Int32 → Int32 → Int32 → Int32 → Int32 → Prop) (A : Nat → Prop) : Array Value → State → Outcome → State → Prop := va_Qi (fun (r : Int32) (u : Int32 × Int32 × Int32 × Int32) => Post r u.1 u.2.1 u.2.2.1 u.2.2.2) (fun (u : Int32 × Int32 × Int32 × Int32) t => mxB D (mxTy cI cB cZ cP cC) A (ww_X2_readOpening a_t a_t_bytes a_c cI cB cZ cP cC length (u.1) (u.2.1) (u.2.2.1) (u.2.2.2) bytes) t) A
abbrev rm_X2_readOpening : Room := { frames := 5, cells := 0, slots := 0, locals := 107 }
theorem hd_X2_readOpening : yX2_readOpening.cls = RX2 ∧ yX2_readOpening.cls ≠ "java/lang/invoke/MethodHandle" ∧ yX2_readOpening.cls ≠ "java/lang/invoke/VarHandle" ∧ (parseMethodDescriptor yX2_readOpening.desc).map (fun d => d.parameters.length) = some 0 := by decide +kernel
def wp_X2_readOpening (length : Int32) (bytes : Nat → Int32) (token : Int32) (start : Int32) (behind : Int32) (value : Int32) (Post : Int32 → Int32 → Int32 → Int32 → Int32 → Prop) : Prop :=
  (wp_X2_isWord 0 token start behind bytes (fun r_1 => ((r_1 = 0 → Post 0 token start behind value) ∧ (¬ r_1 = 0 → (wp_X2_advance length bytes token start behind value (fun token_3 start_4 behind_5 value_6 => (wp_X2_endItem length bytes token_3 start_4 behind_5 value_6 (fun r_7 token_8 start_9 behind_10 value_11 => ((r_7 = 0 ∨ r_7 = 1) ∧ Post r_7 token_8 start_9 behind_10 value_11)))))))))
set_option maxHeartbeats 4000000 in
set_option maxRecDepth 100000 in
theorem c_X2_readOpening (l : Launch) (D : va_G) (cI cB cZ cP cC : ClassId) (adK adV : Nat → Nat) (a_t a_t_bytes a_c : Nat) (length : Int32) (token : Int32) (start : Int32) (behind : Int32) (value : Int32) (bytes : Nat → Int32)  (sz : Nat) (Post : Int32 → Int32 → Int32 → Int32 → Int32 → Prop) (hw : wp_X2_readOpening length bytes token start behind value Post) :
    Met l yX2_readOpening (Cond.code yX2_readOpening cX2_readOpening 1 (some .boolean) :: wsAll) rm_X2_readOpening (va_Pc [.ref a_t] (mxPX D (mxTy cI cB cZ cP cC) sz (ww_X2_readOpening a_t a_t_bytes a_c cI cB cZ cP cC length token start behind value bytes) adK adV)) (qq_X2_readOpening D a_t a_t_bytes a_c cI cB cZ cP cC length bytes Post (va_A (ww_X2_readOpening a_t a_t_bytes a_c cI cB cZ cP cC length token start behind value bytes) sz)) 0 0 (va_A (ww_X2_readOpening a_t a_t_bytes a_c cI cB cZ cP cC length token start behind value bytes) sz) := by
  refine mx_ofX (Qc := qq_X2_readOpening D a_t a_t_bytes a_c cI cB cZ cP cC length bytes Post) (by decide) (Nat.le_of_ble_eq_true rfl) ?_
  intro p e s m bl meth c A ls C0 hX hP hD hS hl
  replace C0 : mxC p s m [.ref a_t].toArray meth c cX2_readOpening RX2 (some .boolean) 1 D (mxTy cI cB cZ cP cC) A := C0
  obtain ⟨hx, hb, hr, hlocks, hml, hown, hts, hK, hA⟩ := id C0
  replace hl : lv_has ls 1 [(0, .ref a_t)] := hl
  unfold wp_X2_readOpening at hw
  refine lv_aload_n hx hb dX2_readOpening_0 rfl (lv_at hl 0 rfl) ?_
  refine va_ldcS (index := 47) hx hb hown (hX.2.2.2 0 (by decide)) dX2_readOpening_1 ?_
  refine mx_ki (mx_rVX (rm := rm_X2_isWord) (rest := []) (C := RX2) hx hb hml hown hts hX hS hA (c_X2_isWord l D cI cB cZ cP cC adK adV 0 (by decide) a_t a_t_bytes a_c length token start behind value bytes _ _ hw) q_244 q_245 q_246 q_39 q_247 hd_X2_isWord ⟨(Nat.le_of_ble_eq_true rfl), (Nat.le_of_ble_eq_true rfl)⟩ rfl rfl hK hP hD [0, 1] rfl rfl (va_recv hK hP (ci := 2) (q0 := 0) rfl rfl) rfl hl.1 rfl (Nat.le_of_ble_eq_true rfl) dX2_readOpening_3 ⟨(Nat.le_of_ble_eq_true rfl), (Nat.le_of_ble_eq_true rfl)⟩) hP hD hS hA [0, 1] [] [0, 1] (fun _ => ww_X2_readOpening a_t a_t_bytes a_c cI cB cZ cP cC length token start behind value bytes) rfl rfl rfl (by decide) rfl (fun _ => rfl) (fun r_1 u H locs hw hP hD hS => ?_)
  try dsimp only at hw
  replace hP : va_P D vwCl (ww_X2_readOpening a_t a_t_bytes a_c cI cB cZ cP cC length token start behind value bytes) H := hP
  replace hD : va_D A (ww_X2_readOpening a_t a_t_bytes a_c cI cB cZ cP cC length token start behind value bytes) := hD
  refine lv_if_ne (tgt := 11) hx hb dX2_readOpening_6 (by decide) (fun c_2 => ?_) (fun c_2 => ?_)
  · replace hw := hw.2 c_2
    refine lv_aload_n hx hb dX2_readOpening_11 rfl (lv_at hl 0 rfl) ?_
    refine mx_kv (mx_rV (rm := rm_X2_advance) (rest := []) (C := RX2) hx hb hml hown hts (c_X2_advance l D cI cB cZ cP cC a_t a_t_bytes a_c length token start behind value bytes _ _ hw) q_231 q_232 q_233 q_39 q_234 hd_X2_advance ⟨(Nat.le_of_ble_eq_true rfl), (Nat.le_of_ble_eq_true rfl)⟩ rfl rfl hK hP hD [0, 1] rfl rfl 2 0 rfl rfl rfl rfl hl.1 rfl (Nat.le_of_ble_eq_true rfl) dX2_readOpening_12 ⟨(Nat.le_of_ble_eq_true rfl), (Nat.le_of_ble_eq_true rfl)⟩) hP hD hS hA [0, 1] [] [0, 1] (fun u => ww_X2_readOpening a_t a_t_bytes a_c cI cB cZ cP cC length (u.1) (u.2.1) (u.2.2.1) (u.2.2.2) bytes) rfl rfl rfl (by decide) rfl (fun _ => rfl) (fun u H locs hw hP hD hS => ?_)
    obtain ⟨token_3, start_4, behind_5, value_6⟩ := u
    try dsimp only at hw
    replace hP : va_P D vwCl (ww_X2_readOpening a_t a_t_bytes a_c cI cB cZ cP cC length token_3 start_4 behind_5 value_6 bytes) H := hP
    replace hD : va_D A (ww_X2_readOpening a_t a_t_bytes a_c cI cB cZ cP cC length token_3 start_4 behind_5 value_6 bytes) := hD
    refine lv_aload_n hx hb dX2_readOpening_15 rfl (lv_at hl 0 rfl) ?_
    refine mx_ki (mx_rV (rm := rm_X2_endItem) (rest := []) (C := RX2) hx hb hml hown hts (c_X2_endItem l D cI cB cZ cP cC a_t a_t_bytes a_c length token_3 start_4 behind_5 value_6 bytes _ _ hw) q_297 q_298 q_299 q_39 q_300 hd_X2_endItem ⟨(Nat.le_of_ble_eq_true rfl), (Nat.le_of_ble_eq_true rfl)⟩ rfl rfl hK hP hD [0, 1] rfl rfl 2 0 rfl rfl rfl rfl hl.1 rfl (Nat.le_of_ble_eq_true rfl) dX2_readOpening_16 ⟨(Nat.le_of_ble_eq_true rfl), (Nat.le_of_ble_eq_true rfl)⟩) hP hD hS hA [0, 1] [] [0, 1] (fun u => ww_X2_readOpening a_t a_t_bytes a_c cI cB cZ cP cC length (u.1) (u.2.1) (u.2.2.1) (u.2.2.2) bytes) rfl rfl rfl (by decide) rfl (fun _ => rfl) (fun r_7 u H locs hw hP hD hS => ?_)
    obtain ⟨token_8, start_9, behind_10, value_11⟩ := u
    try dsimp only at hw
    replace hP : va_P D vwCl (ww_X2_readOpening a_t a_t_bytes a_c cI cB cZ cP cC length token_8 start_9 behind_10 value_11 bytes) H := hP
    replace hD : va_D A (ww_X2_readOpening a_t a_t_bytes a_c cI cB cZ cP cC length token_8 start_9 behind_10 value_11 bytes) := hD
    obtain ⟨h_12, hw⟩ := hw
    exact mx_iret (token_8, start_9, behind_10, value_11) hx hb hr hlocks (mx_narZ h_12) hw hK hP hD hS dX2_readOpening_19
  · replace hw := hw.1 c_2
    refine lv_iconst (v := 0) hx hb dX2_readOpening_9 (by decide) ?_
    exact mx_iret (token, start, behind, value) hx hb hr hlocks rfl hw hK hP hD hS dX2_readOpening_10
/-! PramState$CourtText.readCourt()I -/
abbrev ww_X2_readCourt (a_t a_t_bytes a_c a_c_kind a_c_months a_c_home a_c_nurse a_c_skills a_c_noteRow a_c_soundRow a_c_pastRow a_K : Nat) (cI cB cZ cP cC : ClassId) (length : Int32) (token : Int32) (start : Int32) (behind : Int32) (value : Int32) (bytes : Nat → Int32) (infants : Int32) (retired : Int32) (month : Int32) (notes : Int32) (sounds : Int32) (pasts : Int32) (kind : Nat → Int32) (months : Nat → Int32) (home : Nat → Int32) (nurse : Nat → Int32) (skills : Nat → Int32) : va_W := [(a_t, .inr (2, [.ref a_c, .int length, .ref a_t_bytes, .int token, .int start, .int behind, .int value])), (a_t_bytes, .inl (cB, 150, .inl bytes)), (a_c, .inr (1, [.ref a_K, .ref a_c_kind, .ref a_c_months, .ref a_c_home, .ref a_c_nurse, .ref a_c_skills, .ref a_c_noteRow, .ref a_c_soundRow, .ref a_c_pastRow, .int infants, .int retired, .int month, .int notes, .int sounds, .int pasts])), (a_c_kind, .inl (cI, 6, .inl kind)), (a_c_months, .inl (cI, 6, .inl months)), (a_c_home, .inl (cI, 6, .inl home)), (a_c_nurse, .inl (cI, 6, .inl nurse)), (a_c_skills, .inl (cI, 6, .inl skills))]
abbrev qq_X2_readCourt (D : va_G) (a_t a_t_bytes a_c a_c_kind a_c_months a_c_home a_c_nurse a_c_skills a_c_noteRow a_c_soundRow a_c_pastRow a_K : Nat) (cI cB cZ cP cC : ClassId) (length : Int32) (bytes : Nat → Int32) (Post : Int32 → Int32 → Int32 → Int32 → Int32 → Int32 → Int32 → Int32 → Int32 → Int32 → Int32 → (Nat → Int32) → (Nat → Int32) → (Nat → Int32) → (Nat → Int32) → (Nat → Int32) → Prop) (A : Nat → Prop) : Array Value → State → Outcome → State → Prop := va_Qi (fun (r : Int32) (u : Int32 × Int32 × Int32 × Int32 × Int32 × Int32 × Int32 × Int32 × Int32 × Int32 × (Nat → Int32) × (Nat → Int32) × (Nat → Int32) × (Nat → Int32) × (Nat → Int32)) => Post r u.1 u.2.1 u.2.2.1 u.2.2.2.1 u.2.2.2.2.1 u.2.2.2.2.2.1 u.2.2.2.2.2.2.1 u.2.2.2.2.2.2.2.1 u.2.2.2.2.2.2.2.2.1 u.2.2.2.2.2.2.2.2.2.1 u.2.2.2.2.2.2.2.2.2.2.1 u.2.2.2.2.2.2.2.2.2.2.2.1 u.2.2.2.2.2.2.2.2.2.2.2.2.1 u.2.2.2.2.2.2.2.2.2.2.2.2.2.1 u.2.2.2.2.2.2.2.2.2.2.2.2.2.2) (fun (u : Int32 × Int32 × Int32 × Int32 × Int32 × Int32 × Int32 × Int32 × Int32 × Int32 × (Nat → Int32) × (Nat → Int32) × (Nat → Int32) × (Nat → Int32) × (Nat → Int32)) t => mxB D (mxTy cI cB cZ cP cC) A (ww_X2_readCourt a_t a_t_bytes a_c a_c_kind a_c_months a_c_home a_c_nurse a_c_skills a_c_noteRow a_c_soundRow a_c_pastRow a_K cI cB cZ cP cC length (u.1) (u.2.1) (u.2.2.1) (u.2.2.2.1) bytes (u.2.2.2.2.1) (u.2.2.2.2.2.1) (u.2.2.2.2.2.2.1) (u.2.2.2.2.2.2.2.1) (u.2.2.2.2.2.2.2.2.1) (u.2.2.2.2.2.2.2.2.2.1) (u.2.2.2.2.2.2.2.2.2.2.1) (u.2.2.2.2.2.2.2.2.2.2.2.1) (u.2.2.2.2.2.2.2.2.2.2.2.2.1) (u.2.2.2.2.2.2.2.2.2.2.2.2.2.1) (u.2.2.2.2.2.2.2.2.2.2.2.2.2.2)) t) A
abbrev rm_X2_readCourt : Room := { frames := 6, cells := 0, slots := 0, locals := 127 }
theorem hd_X2_readCourt : yX2_readCourt.cls = RX2 ∧ yX2_readCourt.cls ≠ "java/lang/invoke/MethodHandle" ∧ yX2_readCourt.cls ≠ "java/lang/invoke/VarHandle" ∧ (parseMethodDescriptor yX2_readCourt.desc).map (fun d => d.parameters.length) = some 0 := by decide +kernel
def wp_X2_readCourt_J56 (length : Int32) (bytes : Nat → Int32) (Post : Int32 → Int32 → Int32 → Int32 → Int32 → Int32 → Int32 → Int32 → Int32 → Int32 → Int32 → (Nat → Int32) → (Nat → Int32) → (Nat → Int32) → (Nat → Int32) → (Nat → Int32) → Prop) (K_20 : Int32 → Int32 → Int32 → Int32 → Int32 → Int32 → Int32 → Int32 → Int32 → Int32 → Int32 → Int32 → (Nat → Int32) → (Nat → Int32) → (Nat → Int32) → (Nat → Int32) → (Nat → Int32) → Prop) (K_61 : Int32 → Int32 → Int32 → Int32 → Int32 → Int32 → Int32 → Int32 → Int32 → Int32 → (Nat → Int32) → (Nat → Int32) → (Nat → Int32) → (Nat → Int32) → (Nat → Int32) → Prop) (v1 : Int32) (v2 : Int32) (s0 : Int32) (token : Int32) (start : Int32) (behind : Int32) (value : Int32) (infants : Int32) (retired : Int32) (month : Int32) (notes : Int32) (sounds : Int32) (pasts : Int32) (kind : Nat → Int32) (months : Nat → Int32) (home : Nat → Int32) (nurse : Nat → Int32) (skills : Nat → Int32) : Prop :=
  ((s0 = 0 → K_61 token start behind value infants retired month notes sounds pasts kind months home nurse skills) ∧ (¬ s0 = 0 → (∀ x_28 : Int32, x_28 = v1 + 1 → (∀ x_29 : Int32, x_29 = v2 + 1 → K_20 x_28 x_29 token start behind value infants retired month notes sounds pasts kind months home nurse skills))))
set_option maxHeartbeats 4000000 in
set_option maxRecDepth 100000 in
theorem k_X2_readCourt_J56 {p : Program} {l : Launch} {e : Env} {s : State} {m : MethodId} {ar : Array Value} {bl : List Frame} {meth : Method} {c : Code} {D : va_G} {A : Nat → Prop} {cI cB cZ cP cC : ClassId} {a_t a_t_bytes a_c a_c_kind a_c_months a_c_home a_c_nurse a_c_skills a_c_noteRow a_c_soundRow a_c_pastRow a_K : Nat} {adK adV : Nat → Nat} {length : Int32} {bytes : Nat → Int32} {Post : Int32 → Int32 → Int32 → Int32 → Int32 → Int32 → Int32 → Int32 → Int32 → Int32 → Int32 → (Nat → Int32) → (Nat → Int32) → (Nat → Int32) → (Nat → Int32) → (Nat → Int32) → Prop} {K_20 : Int32 → Int32 → Int32 → Int32 → Int32 → Int32 → Int32 → Int32 → Int32 → Int32 → Int32 → Int32 → (Nat → Int32) → (Nat → Int32) → (Nat → Int32) → (Nat → Int32) → (Nat → Int32) → Prop} {K_61 : Int32 → Int32 → Int32 → Int32 → Int32 → Int32 → Int32 → Int32 → Int32 → Int32 → (Nat → Int32) → (Nat → Int32) → (Nat → Int32) → (Nat → Int32) → (Nat → Int32) → Prop} (C0 : mxC p s m ar meth c cX2_readCourt RX2 (some .int) 4 D (mxTy cI cB cZ cP cC) A) (hX : stX adK adV A s)
    (hK_20 : ∀ (v1 : Int32) (v2 : Int32) (token : Int32) (start : Int32) (behind : Int32) (value : Int32) (infants : Int32) (retired : Int32) (month : Int32) (notes : Int32) (sounds : Int32) (pasts : Int32) (kind : Nat → Int32) (months : Nat → Int32) (home : Nat → Int32) (nurse : Nat → Int32) (skills : Nat → Int32) (H : Heap) (locs : List Loc) (ls : Array Slot), va_P D vwCl (ww_X2_readCourt a_t a_t_bytes a_c a_c_kind a_c_months a_c_home a_c_nurse a_c_skills a_c_noteRow a_c_soundRow a_c_pastRow a_K cI cB cZ cP cC length token start behind value bytes infants retired month notes sounds pasts kind months home nurse skills) H → va_D A (ww_X2_readCourt a_t a_t_bytes a_c a_c_kind a_c_months a_c_home a_c_nurse a_c_skills a_c_noteRow a_c_soundRow a_c_pastRow a_K cI cB cZ cP cC length token start behind value bytes infants retired month notes sounds pasts kind months home nurse skills) → va_S A s.heap H locs → lv_has ls 4 [(0, .ref a_t), (1, .int v1), (2, .int v2)] → K_20 v1 v2 token start behind value infants retired month notes sounds pasts kind months home nurse skills → W p l e rm_X2_readCourt s m ar bl meth c H locs 0 0 (MQ bl (qq_X2_readCourt D a_t a_t_bytes a_c a_c_kind a_c_months a_c_home a_c_nurse a_c_skills a_c_noteRow a_c_soundRow a_c_pastRow a_K cI cB cZ cP cC length bytes Post A) ar s 0 0 A) (F0 m 20 ls []))
    (hK_61 : ∀ (token : Int32) (start : Int32) (behind : Int32) (value : Int32) (infants : Int32) (retired : Int32) (month : Int32) (notes : Int32) (sounds : Int32) (pasts : Int32) (kind : Nat → Int32) (months : Nat → Int32) (home : Nat → Int32) (nurse : Nat → Int32) (skills : Nat → Int32) (H : Heap) (locs : List Loc) (ls : Array Slot), va_P D vwCl (ww_X2_readCourt a_t a_t_bytes a_c a_c_kind a_c_months a_c_home a_c_nurse a_c_skills a_c_noteRow a_c_soundRow a_c_pastRow a_K cI cB cZ cP cC length token start behind value bytes infants retired month notes sounds pasts kind months home nurse skills) H → va_D A (ww_X2_readCourt a_t a_t_bytes a_c a_c_kind a_c_months a_c_home a_c_nurse a_c_skills a_c_noteRow a_c_soundRow a_c_pastRow a_K cI cB cZ cP cC length token start behind value bytes infants retired month notes sounds pasts kind months home nurse skills) → va_S A s.heap H locs → lv_has ls 4 [(0, .ref a_t)] → K_61 token start behind value infants retired month notes sounds pasts kind months home nurse skills → W p l e rm_X2_readCourt s m ar bl meth c H locs 0 0 (MQ bl (qq_X2_readCourt D a_t a_t_bytes a_c a_c_kind a_c_months a_c_home a_c_nurse a_c_skills a_c_noteRow a_c_soundRow a_c_pastRow a_K cI cB cZ cP cC length bytes Post A) ar s 0 0 A) (F0 m 61 ls [])) :
    ∀ (v1 : Int32) (v2 : Int32) (s0 : Int32) (token : Int32) (start : Int32) (behind : Int32) (value : Int32) (infants : Int32) (retired : Int32) (month : Int32) (notes : Int32) (sounds : Int32) (pasts : Int32) (kind : Nat → Int32) (months : Nat → Int32) (home : Nat → Int32) (nurse : Nat → Int32) (skills : Nat → Int32) (H : Heap) (locs : List Loc) (ls : Array Slot), va_P D vwCl (ww_X2_readCourt a_t a_t_bytes a_c a_c_kind a_c_months a_c_home a_c_nurse a_c_skills a_c_noteRow a_c_soundRow a_c_pastRow a_K cI cB cZ cP cC length token start behind value bytes infants retired month notes sounds pasts kind months home nurse skills) H → va_D A (ww_X2_readCourt a_t a_t_bytes a_c a_c_kind a_c_months a_c_home a_c_nurse a_c_skills a_c_noteRow a_c_soundRow a_c_pastRow a_K cI cB cZ cP cC length token start behind value bytes infants retired month notes sounds pasts kind months home nurse skills) → va_S A s.heap H locs → lv_has ls 4 [(0, .ref a_t), (1, .int v1), (2, .int v2)] → wp_X2_readCourt_J56 length bytes Post K_20 K_61 v1 v2 s0 token start behind value infants retired month notes sounds pasts kind months home nurse skills → W p l e rm_X2_readCourt s m ar bl meth c H locs 0 0 (MQ bl (qq_X2_readCourt D a_t a_t_bytes a_c a_c_kind a_c_months a_c_home a_c_nurse a_c_skills a_c_noteRow a_c_soundRow a_c_pastRow a_K cI cB cZ cP cC length bytes Post A) ar s 0 0 A) (F0 m 56 ls [.int s0]) := by
  obtain ⟨hx, hb, hr, hlocks, hml, hown, hts, hK, hA⟩ := id C0
  intro v1 v2 s0 token start behind value infants retired month notes sounds pasts kind months home nurse skills H locs ls hP hD hS hl hw
  refine lv_istore_n (lv' := [(3, .int s0), (0, .ref a_t), (1, .int v1), (2, .int v2)]) hx hb dX2_readCourt_56 rfl hl (by decide) rfl (fun ls hl => ?_)
  refine lv_iload_n hx hb dX2_readCourt_57 rfl (lv_at hl 0 rfl) ?_
  refine lv_if_ne (tgt := 64) hx hb dX2_readCourt_58 (by decide) (fun c_27 => ?_) (fun c_27 => ?_)
  · replace hw := hw.2 c_27
    obtain ⟨x_28, ex_28⟩ : ∃ y : Int32, y = v1 + 1 := ⟨_, rfl⟩
    replace hw := hw x_28 ex_28
    refine lv_iinc (v := x_28) (lv' := [(1, .int x_28), (3, .int s0), (0, .ref a_t), (2, .int v2)]) hx hb dX2_readCourt_64 hl (k := 2) rfl (by rw [ex_28]; rfl) (by decide) rfl (fun ls hl => ?_)
    obtain ⟨x_29, ex_29⟩ : ∃ y : Int32, y = v2 + 1 := ⟨_, rfl⟩
    replace hw := hw x_29 ex_29
    refine lv_iinc (v := x_29) (lv' := [(2, .int x_29), (1, .int x_28), (3, .int s0), (0, .ref a_t)]) hx hb dX2_readCourt_67 hl (k := 3) rfl (by rw [ex_29]; rfl) (by decide) rfl (fun ls hl => ?_)
    refine lv_goto (tgt := 20) hx hb dX2_readCourt_70 (by decide) ?_
    exact hK_20 x_28 x_29 token start behind value infants retired month notes sounds pasts kind months home nurse skills _ _ _ hP hD hS (lv_sub hl [3, 1, 0] rfl) hw
  · replace hw := hw.1 c_27
    exact hK_61 token start behind value infants retired month notes sounds pasts kind months home nurse skills _ _ _ hP hD hS (lv_sub hl [1] rfl) hw
def wp_X2_readCourt_J41 (length : Int32) (bytes : Nat → Int32) (Post : Int32 → Int32 → Int32 → Int32 → Int32 → Int32 → Int32 → Int32 → Int32 → Int32 → Int32 → (Nat → Int32) → (Nat → Int32) → (Nat → Int32) → (Nat → Int32) → (Nat → Int32) → Prop) (K_20 : Int32 → Int32 → Int32 → Int32 → Int32 → Int32 → Int32 → Int32 → Int32 → Int32 → Int32 → Int32 → (Nat → Int32) → (Nat → Int32) → (Nat → Int32) → (Nat → Int32) → (Nat → Int32) → Prop) (K_61 : Int32 → Int32 → Int32 → Int32 → Int32 → Int32 → Int32 → Int32 → Int32 → Int32 → (Nat → Int32) → (Nat → Int32) → (Nat → Int32) → (Nat → Int32) → (Nat → Int32) → Prop) (v1 : Int32) (v2 : Int32) (token : Int32) (start : Int32) (behind : Int32) (value : Int32) (infants : Int32) (retired : Int32) (month : Int32) (notes : Int32) (sounds : Int32) (pasts : Int32) (kind : Nat → Int32) (months : Nat → Int32) (home : Nat → Int32) (nurse : Nat → Int32) (skills : Nat → Int32) : Prop :=
  ((v1 = 0 → (wp_X2_readOpening length bytes token start behind value (fun r_62 token_63 start_64 behind_65 value_66 => (wp_X2_readCourt_J56 length bytes Post K_20 K_61 v1 v2 r_62 token_63 start_64 behind_65 value_66 infants retired month notes sounds pasts kind months home nurse skills)))) ∧ (¬ v1 = 0 → (wp_X2_readItem length bytes token start behind value infants pasts kind months home nurse skills (fun r_15 token_16 start_17 behind_18 value_19 infants_20 pasts_21 kind_22 months_23 home_24 nurse_25 skills_26 => (wp_X2_readCourt_J56 length bytes Post K_20 K_61 v1 v2 r_15 token_16 start_17 behind_18 value_19 infants_20 retired month notes sounds pasts_21 kind_22 months_23 home_24 nurse_25 skills_26)))))
set_option maxHeartbeats 4000000 in
set_option maxRecDepth 100000 in
theorem k_X2_readCourt_J41 {p : Program} {l : Launch} {e : Env} {s : State} {m : MethodId} {ar : Array Value} {bl : List Frame} {meth : Method} {c : Code} {D : va_G} {A : Nat → Prop} {cI cB cZ cP cC : ClassId} {a_t a_t_bytes a_c a_c_kind a_c_months a_c_home a_c_nurse a_c_skills a_c_noteRow a_c_soundRow a_c_pastRow a_K : Nat} {adK adV : Nat → Nat} {length : Int32} {bytes : Nat → Int32} {Post : Int32 → Int32 → Int32 → Int32 → Int32 → Int32 → Int32 → Int32 → Int32 → Int32 → Int32 → (Nat → Int32) → (Nat → Int32) → (Nat → Int32) → (Nat → Int32) → (Nat → Int32) → Prop} {K_20 : Int32 → Int32 → Int32 → Int32 → Int32 → Int32 → Int32 → Int32 → Int32 → Int32 → Int32 → Int32 → (Nat → Int32) → (Nat → Int32) → (Nat → Int32) → (Nat → Int32) → (Nat → Int32) → Prop} {K_61 : Int32 → Int32 → Int32 → Int32 → Int32 → Int32 → Int32 → Int32 → Int32 → Int32 → (Nat → Int32) → (Nat → Int32) → (Nat → Int32) → (Nat → Int32) → (Nat → Int32) → Prop} (C0 : mxC p s m ar meth c cX2_readCourt RX2 (some .int) 4 D (mxTy cI cB cZ cP cC) A) (hX : stX adK adV A s)
    (hK_20 : ∀ (v1 : Int32) (v2 : Int32) (token : Int32) (start : Int32) (behind : Int32) (value : Int32) (infants : Int32) (retired : Int32) (month : Int32) (notes : Int32) (sounds : Int32) (pasts : Int32) (kind : Nat → Int32) (months : Nat → Int32) (home : Nat → Int32) (nurse : Nat → Int32) (skills : Nat → Int32) (H : Heap) (locs : List Loc) (ls : Array Slot), va_P D vwCl (ww_X2_readCourt a_t a_t_bytes a_c a_c_kind a_c_months a_c_home a_c_nurse a_c_skills a_c_noteRow a_c_soundRow a_c_pastRow a_K cI cB cZ cP cC length token start behind value bytes infants retired month notes sounds pasts kind months home nurse skills) H → va_D A (ww_X2_readCourt a_t a_t_bytes a_c a_c_kind a_c_months a_c_home a_c_nurse a_c_skills a_c_noteRow a_c_soundRow a_c_pastRow a_K cI cB cZ cP cC length token start behind value bytes infants retired month notes sounds pasts kind months home nurse skills) → va_S A s.heap H locs → lv_has ls 4 [(0, .ref a_t), (1, .int v1), (2, .int v2)] → K_20 v1 v2 token start behind value infants retired month notes sounds pasts kind months home nurse skills → W p l e rm_X2_readCourt s m ar bl meth c H locs 0 0 (MQ bl (qq_X2_readCourt D a_t a_t_bytes a_c a_c_kind a_c_months a_c_home a_c_nurse a_c_skills a_c_noteRow a_c_soundRow a_c_pastRow a_K cI cB cZ cP cC length bytes Post A) ar s 0 0 A) (F0 m 20 ls []))
    (hK_61 : ∀ (token : Int32) (start : Int32) (behind : Int32) (value : Int32) (infants : Int32) (retired : Int32) (month : Int32) (notes : Int32) (sounds : Int32) (pasts : Int32) (kind : Nat → Int32) (months : Nat → Int32) (home : Nat → Int32) (nurse : Nat → Int32) (skills : Nat → Int32) (H : Heap) (locs : List Loc) (ls : Array Slot), va_P D vwCl (ww_X2_readCourt a_t a_t_bytes a_c a_c_kind a_c_months a_c_home a_c_nurse a_c_skills a_c_noteRow a_c_soundRow a_c_pastRow a_K cI cB cZ cP cC length token start behind value bytes infants retired month notes sounds pasts kind months home nurse skills) H → va_D A (ww_X2_readCourt a_t a_t_bytes a_c a_c_kind a_c_months a_c_home a_c_nurse a_c_skills a_c_noteRow a_c_soundRow a_c_pastRow a_K cI cB cZ cP cC length token start behind value bytes infants retired month notes sounds pasts kind months home nurse skills) → va_S A s.heap H locs → lv_has ls 4 [(0, .ref a_t)] → K_61 token start behind value infants retired month notes sounds pasts kind months home nurse skills → W p l e rm_X2_readCourt s m ar bl meth c H locs 0 0 (MQ bl (qq_X2_readCourt D a_t a_t_bytes a_c a_c_kind a_c_months a_c_home a_c_nurse a_c_skills a_c_noteRow a_c_soundRow a_c_pastRow a_K cI cB cZ cP cC length bytes Post A) ar s 0 0 A) (F0 m 61 ls [])) :
    ∀ (v1 : Int32) (v2 : Int32) (token : Int32) (start : Int32) (behind : Int32) (value : Int32) (infants : Int32) (retired : Int32) (month : Int32) (notes : Int32) (sounds : Int32) (pasts : Int32) (kind : Nat → Int32) (months : Nat → Int32) (home : Nat → Int32) (nurse : Nat → Int32) (skills : Nat → Int32) (H : Heap) (locs : List Loc) (ls : Array Slot), va_P D vwCl (ww_X2_readCourt a_t a_t_bytes a_c a_c_kind a_c_months a_c_home a_c_nurse a_c_skills a_c_noteRow a_c_soundRow a_c_pastRow a_K cI cB cZ cP cC length token start behind value bytes infants retired month notes sounds pasts kind months home nurse skills) H → va_D A (ww_X2_readCourt a_t a_t_bytes a_c a_c_kind a_c_months a_c_home a_c_nurse a_c_skills a_c_noteRow a_c_soundRow a_c_pastRow a_K cI cB cZ cP cC length token start behind value bytes infants retired month notes sounds pasts kind months home nurse skills) → va_S A s.heap H locs → lv_has ls 4 [(0, .ref a_t), (1, .int v1), (2, .int v2)] → wp_X2_readCourt_J41 length bytes Post K_20 K_61 v1 v2 token start behind value infants retired month notes sounds pasts kind months home nurse skills → W p l e rm_X2_readCourt s m ar bl meth c H locs 0 0 (MQ bl (qq_X2_readCourt D a_t a_t_bytes a_c a_c_kind a_c_months a_c_home a_c_nurse a_c_skills a_c_noteRow a_c_soundRow a_c_pastRow a_K cI cB cZ cP cC length bytes Post A) ar s 0 0 A) (F0 m 41 ls []) := by
  obtain ⟨hx, hb, hr, hlocks, hml, hown, hts, hK, hA⟩ := id C0
  intro v1 v2 token start behind value infants retired month notes sounds pasts kind months home nurse skills H locs ls hP hD hS hl hw
  refine lv_iload_n hx hb dX2_readCourt_41 rfl (lv_at hl 1 rfl) ?_
  refine lv_if_ne (tgt := 52) hx hb dX2_readCourt_42 (by decide) (fun c_14 => ?_) (fun c_14 => ?_)
  · replace hw := hw.2 c_14
    refine lv_aload_n hx hb dX2_readCourt_52 rfl (lv_at hl 0 rfl) ?_
    refine mx_ki (mx_rVX (rm := rm_X2_readItem) (rest := []) (C := RX2) hx hb hml hown hts hX hS hA (c_X2_readItem l D cI cB cZ cP cC adK adV a_t a_t_bytes a_c a_c_kind a_c_months a_c_home a_c_nurse a_c_skills a_c_noteRow a_c_soundRow a_c_pastRow a_K length token start behind value bytes infants retired month notes sounds pasts kind months home nurse skills _ _ hw) q_301 q_302 q_303 q_39 q_304 hd_X2_readItem ⟨(Nat.le_of_ble_eq_true rfl), (Nat.le_of_ble_eq_true rfl)⟩ rfl rfl hK hP hD [0, 1, 2, 3, 4, 5, 6, 7] rfl rfl (va_recv hK hP (ci := 2) (q0 := 0) rfl rfl) rfl hl.1 rfl (Nat.le_of_ble_eq_true rfl) dX2_readCourt_53 ⟨(Nat.le_of_ble_eq_true rfl), (Nat.le_of_ble_eq_true rfl)⟩) hP hD hS hA [0, 1, 2, 3, 4, 5, 6, 7] [] [0, 1, 2, 3, 4, 5, 6, 7] (fun u => ww_X2_readCourt a_t a_t_bytes a_c a_c_kind a_c_months a_c_home a_c_nurse a_c_skills a_c_noteRow a_c_soundRow a_c_pastRow a_K cI cB cZ cP cC length (u.1) (u.2.1) (u.2.2.1) (u.2.2.2.1) bytes (u.2.2.2.2.1) retired month notes sounds (u.2.2.2.2.2.1) (u.2.2.2.2.2.2.1) (u.2.2.2.2.2.2.2.1) (u.2.2.2.2.2.2.2.2.1) (u.2.2.2.2.2.2.2.2.2.1) (u.2.2.2.2.2.2.2.2.2.2)) rfl rfl rfl (by decide) rfl (fun _ => rfl) (fun r_15 u H locs hw hP hD hS => ?_)
    obtain ⟨token_16, start_17, behind_18, value_19, infants_20, pasts_21, kind_22, months_23, home_24, nurse_25, skills_26⟩ := u
    try dsimp only at hw
    replace hP : va_P D vwCl (ww_X2_readCourt a_t a_t_bytes a_c a_c_kind a_c_months a_c_home a_c_nurse a_c_skills a_c_noteRow a_c_soundRow a_c_pastRow a_K cI cB cZ cP cC length token_16 start_17 behind_18 value_19 bytes infants_20 retired month notes sounds pasts_21 kind_22 months_23 home_24 nurse_25 skills_26) H := hP
    replace hD : va_D A (ww_X2_readCourt a_t a_t_bytes a_c a_c_kind a_c_months a_c_home a_c_nurse a_c_skills a_c_noteRow a_c_soundRow a_c_pastRow a_K cI cB cZ cP cC length token_16 start_17 behind_18 value_19 bytes infants_20 retired month notes sounds pasts_21 kind_22 months_23 home_24 nurse_25 skills_26) := hD
    refine k_X2_readCourt_J56 C0 hX ?_ ?_ v1 v2 r_15 token_16 start_17 behind_18 value_19 infants_20 retired month notes sounds pasts_21 kind_22 months_23 home_24 nurse_25 skills_26 _ _ _ hP hD hS (lv_sub hl [0, 1, 2] rfl) hw
    · intro v1_30 v2_31 token_32 start_33 behind_34 value_35 infants_36 retired_37 month_38 notes_39 sounds_40 pasts_41 kind_42 months_43 home_44 nurse_45 skills_46 H locs ls hP hD hS hl hw
      exact hK_20 v1_30 v2_31 token_32 start_33 behind_34 value_35 infants_36 retired_37 month_38 notes_39 sounds_40 pasts_41 kind_42 months_43 home_44 nurse_45 skills_46 _ _ _ hP hD hS (lv_sub hl [0, 1, 2] rfl) hw
    · intro token_47 start_48 behind_49 value_50 infants_51 retired_52 month_53 notes_54 sounds_55 pasts_56 kind_57 months_58 home_59 nurse_60 skills_61 H locs ls hP hD hS hl hw
      exact hK_61 token_47 start_48 behind_49 value_50 infants_51 retired_52 month_53 notes_54 sounds_55 pasts_56 kind_57 months_58 home_59 nurse_60 skills_61 _ _ _ hP hD hS (lv_sub hl [0] rfl) hw
  · replace hw := hw.1 c_14
    refine lv_aload_n hx hb dX2_readCourt_45 rfl (lv_at hl 0 rfl) ?_
    refine mx_ki (mx_rVX (rm := rm_X2_readOpening) (rest := []) (C := RX2) hx hb hml hown hts hX hS hA (c_X2_readOpening l D cI cB cZ cP cC adK adV a_t a_t_bytes a_c length token start behind value bytes _ _ hw) q_240 q_241 q_242 q_39 q_243 hd_X2_readOpening ⟨(Nat.le_of_ble_eq_true rfl), (Nat.le_of_ble_eq_true rfl)⟩ rfl rfl hK hP hD [0, 1] rfl rfl (va_recv hK hP (ci := 2) (q0 := 0) rfl rfl) rfl hl.1 rfl (Nat.le_of_ble_eq_true rfl) dX2_readCourt_46 ⟨(Nat.le_of_ble_eq_true rfl), (Nat.le_of_ble_eq_true rfl)⟩) hP hD hS hA [0, 1] [2, 3, 4, 5, 6, 7] [6, 7, 0, 1, 2, 3, 4, 5] (fun u => ww_X2_readCourt a_t a_t_bytes a_c a_c_kind a_c_months a_c_home a_c_nurse a_c_skills a_c_noteRow a_c_soundRow a_c_pastRow a_K cI cB cZ cP cC length (u.1) (u.2.1) (u.2.2.1) (u.2.2.2) bytes infants retired month notes sounds pasts kind months home nurse skills) rfl rfl rfl (by decide) rfl (fun _ => rfl) (fun r_62 u H locs hw hP hD hS => ?_)
    obtain ⟨token_63, start_64, behind_65, value_66⟩ := u
    try dsimp only at hw
    replace hP : va_P D vwCl (ww_X2_readCourt a_t a_t_bytes a_c a_c_kind a_c_months a_c_home a_c_nurse a_c_skills a_c_noteRow a_c_soundRow a_c_pastRow a_K cI cB cZ cP cC length token_63 start_64 behind_65 value_66 bytes infants retired month notes sounds pasts kind months home nurse skills) H := hP
    replace hD : va_D A (ww_X2_readCourt a_t a_t_bytes a_c a_c_kind a_c_months a_c_home a_c_nurse a_c_skills a_c_noteRow a_c_soundRow a_c_pastRow a_K cI cB cZ cP cC length token_63 start_64 behind_65 value_66 bytes infants retired month notes sounds pasts kind months home nurse skills) := hD
    refine lv_goto (tgt := 56) hx hb dX2_readCourt_49 (by decide) ?_
    refine k_X2_readCourt_J56 C0 hX ?_ ?_ v1 v2 r_62 token_63 start_64 behind_65 value_66 infants retired month notes sounds pasts kind months home nurse skills _ _ _ hP hD hS (lv_sub hl [0, 1, 2] rfl) hw
    · intro v1_67 v2_68 token_69 start_70 behind_71 value_72 infants_73 retired_74 month_75 notes_76 sounds_77 pasts_78 kind_79 months_80 home_81 nurse_82 skills_83 H locs ls hP hD hS hl hw
      exact hK_20 v1_67 v2_68 token_69 start_70 behind_71 value_72 infants_73 retired_74 month_75 notes_76 sounds_77 pasts_78 kind_79 months_80 home_81 nurse_82 skills_83 _ _ _ hP hD hS (lv_sub hl [0, 1, 2] rfl) hw
    · intro token_84 start_85 behind_86 value_87 infants_88 retired_89 month_90 notes_91 sounds_92 pasts_93 kind_94 months_95 home_96 nurse_97 skills_98 H locs ls hP hD hS hl hw
      exact hK_61 token_84 start_85 behind_86 value_87 infants_88 retired_89 month_90 notes_91 sounds_92 pasts_93 kind_94 months_95 home_96 nurse_97 skills_98 _ _ _ hP hD hS (lv_sub hl [0] rfl) hw
def wp_X2_readCourt_L20 (length : Int32) (bytes : Nat → Int32) (Post : Int32 → Int32 → Int32 → Int32 → Int32 → Int32 → Int32 → Int32 → Int32 → Int32 → Int32 → (Nat → Int32) → (Nat → Int32) → (Nat → Int32) → (Nat → Int32) → (Nat → Int32) → Prop) (K_73 : Int32 → Int32 → Int32 → Int32 → Int32 → Int32 → Int32 → Int32 → Int32 → Int32 → (Nat → Int32) → (Nat → Int32) → (Nat → Int32) → (Nat → Int32) → (Nat → Int32) → Prop) (K_61 : Int32 → Int32 → Int32 → Int32 → Int32 → Int32 → Int32 → Int32 → Int32 → Int32 → (Nat → Int32) → (Nat → Int32) → (Nat → Int32) → (Nat → Int32) → (Nat → Int32) → Prop) : Nat → Int32 → Int32 → Int32 → Int32 → Int32 → Int32 → Int32 → Int32 → Int32 → Int32 → Int32 → Int32 → (Nat → Int32) → (Nat → Int32) → (Nat → Int32) → (Nat → Int32) → (Nat → Int32) → Prop
  | 0, _, _, _, _, _, _, _, _, _, _, _, _, _, _, _, _, _ => False
  | n + 1, v1, v2, token, start, behind, value, infants, retired, month, notes, sounds, pasts, kind, months, home, nurse, skills => ((length < v2 → K_73 token start behind value infants retired month notes sounds pasts kind months home nurse skills) ∧ (¬ length < v2 → ((token = 0 → ((v1 ≤ 0 → (wp_X2_readCourt_J41 length bytes Post (fun (v1_132 : Int32) (v2_133 : Int32) (token_134 : Int32) (start_135 : Int32) (behind_136 : Int32) (value_137 : Int32) (infants_138 : Int32) (retired_139 : Int32) (month_140 : Int32) (notes_141 : Int32) (sounds_142 : Int32) (pasts_143 : Int32) (kind_144 : Nat → Int32) (months_145 : Nat → Int32) (home_146 : Nat → Int32) (nurse_147 : Nat → Int32) (skills_148 : Nat → Int32) => wp_X2_readCourt_L20 length bytes Post K_73 K_61 n v1_132 v2_133 token_134 start_135 behind_136 value_137 infants_138 retired_139 month_140 notes_141 sounds_142 pasts_143 kind_144 months_145 home_146 nurse_147 skills_148) K_61 v1 v2 token start behind value infants retired month notes sounds pasts kind months home nurse skills)) ∧ (¬ v1 ≤ 0 → Post v1 token start behind value infants retired month notes sounds pasts kind months home nurse skills))) ∧ (¬ token = 0 → (wp_X2_readCourt_J41 length bytes Post (fun (v1_99 : Int32) (v2_100 : Int32) (token_101 : Int32) (start_102 : Int32) (behind_103 : Int32) (value_104 : Int32) (infants_105 : Int32) (retired_106 : Int32) (month_107 : Int32) (notes_108 : Int32) (sounds_109 : Int32) (pasts_110 : Int32) (kind_111 : Nat → Int32) (months_112 : Nat → Int32) (home_113 : Nat → Int32) (nurse_114 : Nat → Int32) (skills_115 : Nat → Int32) => wp_X2_readCourt_L20 length bytes Post K_73 K_61 n v1_99 v2_100 token_101 start_102 behind_103 value_104 infants_105 retired_106 month_107 notes_108 sounds_109 pasts_110 kind_111 months_112 home_113 nurse_114 skills_115) K_61 v1 v2 token start behind value infants retired month notes sounds pasts kind months home nurse skills)))))
set_option maxHeartbeats 4000000 in
set_option maxRecDepth 100000 in
theorem k_X2_readCourt_L20 {p : Program} {l : Launch} {e : Env} {s : State} {m : MethodId} {ar : Array Value} {bl : List Frame} {meth : Method} {c : Code} {D : va_G} {A : Nat → Prop} {cI cB cZ cP cC : ClassId} {a_t a_t_bytes a_c a_c_kind a_c_months a_c_home a_c_nurse a_c_skills a_c_noteRow a_c_soundRow a_c_pastRow a_K : Nat} {adK adV : Nat → Nat} {length : Int32} {bytes : Nat → Int32} {Post : Int32 → Int32 → Int32 → Int32 → Int32 → Int32 → Int32 → Int32 → Int32 → Int32 → Int32 → (Nat → Int32) → (Nat → Int32) → (Nat → Int32) → (Nat → Int32) → (Nat → Int32) → Prop} {K_73 : Int32 → Int32 → Int32 → Int32 → Int32 → Int32 → Int32 → Int32 → Int32 → Int32 → (Nat → Int32) → (Nat → Int32) → (Nat → Int32) → (Nat → Int32) → (Nat → Int32) → Prop} {K_61 : Int32 → Int32 → Int32 → Int32 → Int32 → Int32 → Int32 → Int32 → Int32 → Int32 → (Nat → Int32) → (Nat → Int32) → (Nat → Int32) → (Nat → Int32) → (Nat → Int32) → Prop} (C0 : mxC p s m ar meth c cX2_readCourt RX2 (some .int) 4 D (mxTy cI cB cZ cP cC) A) (hX : stX adK adV A s)
    (hK_73 : ∀ (token : Int32) (start : Int32) (behind : Int32) (value : Int32) (infants : Int32) (retired : Int32) (month : Int32) (notes : Int32) (sounds : Int32) (pasts : Int32) (kind : Nat → Int32) (months : Nat → Int32) (home : Nat → Int32) (nurse : Nat → Int32) (skills : Nat → Int32) (H : Heap) (locs : List Loc) (ls : Array Slot), va_P D vwCl (ww_X2_readCourt a_t a_t_bytes a_c a_c_kind a_c_months a_c_home a_c_nurse a_c_skills a_c_noteRow a_c_soundRow a_c_pastRow a_K cI cB cZ cP cC length token start behind value bytes infants retired month notes sounds pasts kind months home nurse skills) H → va_D A (ww_X2_readCourt a_t a_t_bytes a_c a_c_kind a_c_months a_c_home a_c_nurse a_c_skills a_c_noteRow a_c_soundRow a_c_pastRow a_K cI cB cZ cP cC length token start behind value bytes infants retired month notes sounds pasts kind months home nurse skills) → va_S A s.heap H locs → lv_has ls 4 [(0, .ref a_t)] → K_73 token start behind value infants retired month notes sounds pasts kind months home nurse skills → W p l e rm_X2_readCourt s m ar bl meth c H locs 0 0 (MQ bl (qq_X2_readCourt D a_t a_t_bytes a_c a_c_kind a_c_months a_c_home a_c_nurse a_c_skills a_c_noteRow a_c_soundRow a_c_pastRow a_K cI cB cZ cP cC length bytes Post A) ar s 0 0 A) (F0 m 73 ls []))
    (hK_61 : ∀ (token : Int32) (start : Int32) (behind : Int32) (value : Int32) (infants : Int32) (retired : Int32) (month : Int32) (notes : Int32) (sounds : Int32) (pasts : Int32) (kind : Nat → Int32) (months : Nat → Int32) (home : Nat → Int32) (nurse : Nat → Int32) (skills : Nat → Int32) (H : Heap) (locs : List Loc) (ls : Array Slot), va_P D vwCl (ww_X2_readCourt a_t a_t_bytes a_c a_c_kind a_c_months a_c_home a_c_nurse a_c_skills a_c_noteRow a_c_soundRow a_c_pastRow a_K cI cB cZ cP cC length token start behind value bytes infants retired month notes sounds pasts kind months home nurse skills) H → va_D A (ww_X2_readCourt a_t a_t_bytes a_c a_c_kind a_c_months a_c_home a_c_nurse a_c_skills a_c_noteRow a_c_soundRow a_c_pastRow a_K cI cB cZ cP cC length token start behind value bytes infants retired month notes sounds pasts kind months home nurse skills) → va_S A s.heap H locs → lv_has ls 4 [(0, .ref a_t)] → K_61 token start behind value infants retired month notes sounds pasts kind months home nurse skills → W p l e rm_X2_readCourt s m ar bl meth c H locs 0 0 (MQ bl (qq_X2_readCourt D a_t a_t_bytes a_c a_c_kind a_c_months a_c_home a_c_nurse a_c_skills a_c_noteRow a_c_soundRow a_c_pastRow a_K cI cB cZ cP cC length bytes Post A) ar s 0 0 A) (F0 m 61 ls [])) :
    ∀ (n : Nat) (v1 : Int32) (v2 : Int32) (token : Int32) (start : Int32) (behind : Int32) (value : Int32) (infants : Int32) (retired : Int32) (month : Int32) (notes : Int32) (sounds : Int32) (pasts : Int32) (kind : Nat → Int32) (months : Nat → Int32) (home : Nat → Int32) (nurse : Nat → Int32) (skills : Nat → Int32) (H : Heap) (locs : List Loc) (ls : Array Slot), va_P D vwCl (ww_X2_readCourt a_t a_t_bytes a_c a_c_kind a_c_months a_c_home a_c_nurse a_c_skills a_c_noteRow a_c_soundRow a_c_pastRow a_K cI cB cZ cP cC length token start behind value bytes infants retired month notes sounds pasts kind months home nurse skills) H → va_D A (ww_X2_readCourt a_t a_t_bytes a_c a_c_kind a_c_months a_c_home a_c_nurse a_c_skills a_c_noteRow a_c_soundRow a_c_pastRow a_K cI cB cZ cP cC length token start behind value bytes infants retired month notes sounds pasts kind months home nurse skills) → va_S A s.heap H locs → lv_has ls 4 [(0, .ref a_t), (1, .int v1), (2, .int v2)] → wp_X2_readCourt_L20 length bytes Post K_73 K_61 n v1 v2 token start behind value infants retired month notes sounds pasts kind months home nurse skills → W p l e rm_X2_readCourt s m ar bl meth c H locs 0 0 (MQ bl (qq_X2_readCourt D a_t a_t_bytes a_c a_c_kind a_c_months a_c_home a_c_nurse a_c_skills a_c_noteRow a_c_soundRow a_c_pastRow a_K cI cB cZ cP cC length bytes Post A) ar s 0 0 A) (F0 m 20 ls []) := by
  obtain ⟨hx, hb, hr, hlocks, hml, hown, hts, hK, hA⟩ := id C0
  intro n
  induction n with
  | zero =>
    intro v1 v2 token start behind value infants retired month notes sounds pasts kind months home nurse skills H locs ls hP hD hS hl hw
    exact absurd hw (fun h => h)
  | succ n ih =>
    intro v1 v2 token start behind value infants retired month notes sounds pasts kind months home nurse skills H locs ls hP hD hS hl hw
    refine lv_iload_n hx hb dX2_readCourt_20 rfl (lv_at hl 2 rfl) ?_
    refine lv_aload_n hx hb dX2_readCourt_21 rfl (lv_at hl 0 rfl) ?_
    refine mx_get (ci := 2) (C := RX2) (T := TX2) (N := 7) hx hb hown in_wsX20 hts hK hP 0 rfl rfl 1 (by decide) q_203 rfl (v := .int length) rfl dX2_readCourt_22 ?_
    refine lv_icmp_gt (tgt := 73) hx hb dX2_readCourt_25 (by decide) (fun c_12 => ?_) (fun c_12 => ?_)
    · replace hw := hw.1 c_12
      exact hK_73 token start behind value infants retired month notes sounds pasts kind months home nurse skills _ _ _ hP hD hS (lv_sub hl [0] rfl) hw
    · replace hw := hw.2 c_12
      refine lv_aload_n hx hb dX2_readCourt_28 rfl (lv_at hl 0 rfl) ?_
      refine mx_get (ci := 2) (C := RX2) (T := TX2) (N := 7) hx hb hown in_wsX20 hts hK hP 0 rfl rfl 3 (by decide) q_228 rfl (v := .int token) rfl dX2_readCourt_29 ?_
      refine lv_if_ne (tgt := 41) hx hb dX2_readCourt_32 (by decide) (fun c_13 => ?_) (fun c_13 => ?_)
      · replace hw := hw.2 c_13
        refine k_X2_readCourt_J41 C0 hX ?_ ?_ v1 v2 token start behind value infants retired month notes sounds pasts kind months home nurse skills _ _ _ hP hD hS (lv_sub hl [0, 1, 2] rfl) hw
        · intro v1_99 v2_100 token_101 start_102 behind_103 value_104 infants_105 retired_106 month_107 notes_108 sounds_109 pasts_110 kind_111 months_112 home_113 nurse_114 skills_115 H locs ls hP hD hS hl hw
          exact ih v1_99 v2_100 token_101 start_102 behind_103 value_104 infants_105 retired_106 month_107 notes_108 sounds_109 pasts_110 kind_111 months_112 home_113 nurse_114 skills_115 _ _ _ hP hD hS (lv_sub hl [0, 1, 2] rfl) hw
        · intro token_116 start_117 behind_118 value_119 infants_120 retired_121 month_122 notes_123 sounds_124 pasts_125 kind_126 months_127 home_128 nurse_129 skills_130 H locs ls hP hD hS hl hw
          exact hK_61 token_116 start_117 behind_118 value_119 infants_120 retired_121 month_122 notes_123 sounds_124 pasts_125 kind_126 months_127 home_128 nurse_129 skills_130 _ _ _ hP hD hS (lv_sub hl [0] rfl) hw
      · replace hw := hw.1 c_13
        refine lv_iload_n hx hb dX2_readCourt_35 rfl (lv_at hl 1 rfl) ?_
        refine lv_if_le (tgt := 41) hx hb dX2_readCourt_36 (by decide) (fun c_131 => ?_) (fun c_131 => ?_)
        · replace hw := hw.1 c_131
          refine k_X2_readCourt_J41 C0 hX ?_ ?_ v1 v2 token start behind value infants retired month notes sounds pasts kind months home nurse skills _ _ _ hP hD hS (lv_sub hl [0, 1, 2] rfl) hw
          · intro v1_132 v2_133 token_134 start_135 behind_136 value_137 infants_138 retired_139 month_140 notes_141 sounds_142 pasts_143 kind_144 months_145 home_146 nurse_147 skills_148 H locs ls hP hD hS hl hw
            exact ih v1_132 v2_133 token_134 start_135 behind_136 value_137 infants_138 retired_139 month_140 notes_141 sounds_142 pasts_143 kind_144 months_145 home_146 nurse_147 skills_148 _ _ _ hP hD hS (lv_sub hl [0, 1, 2] rfl) hw
          · intro token_149 start_150 behind_151 value_152 infants_153 retired_154 month_155 notes_156 sounds_157 pasts_158 kind_159 months_160 home_161 nurse_162 skills_163 H locs ls hP hD hS hl hw
            exact hK_61 token_149 start_150 behind_151 value_152 infants_153 retired_154 month_155 notes_156 sounds_157 pasts_158 kind_159 months_160 home_161 nurse_162 skills_163 _ _ _ hP hD hS (lv_sub hl [0] rfl) hw
        · replace hw := hw.2 c_131
          refine lv_iload_n hx hb dX2_readCourt_39 rfl (lv_at hl 1 rfl) ?_
          exact mx_iret (token, start, behind, value, infants, retired, month, notes, sounds, pasts, kind, months, home, nurse, skills) hx hb hr hlocks rfl hw hK hP hD hS dX2_readCourt_40
def wp_X2_readCourt_J73 (length : Int32) (bytes : Nat → Int32) (Post : Int32 → Int32 → Int32 → Int32 → Int32 → Int32 → Int32 → Int32 → Int32 → Int32 → Int32 → (Nat → Int32) → (Nat → Int32) → (Nat → Int32) → (Nat → Int32) → (Nat → Int32) → Prop)  (token : Int32) (start : Int32) (behind : Int32) (value : Int32) (infants : Int32) (retired : Int32) (month : Int32) (notes : Int32) (sounds : Int32) (pasts : Int32) (kind : Nat → Int32) (months : Nat → Int32) (home : Nat → Int32) (nurse : Nat → Int32) (skills : Nat → Int32) : Prop :=
  Post ((-10) - start) token start behind value infants retired month notes sounds pasts kind months home nurse skills
set_option maxHeartbeats 4000000 in
set_option maxRecDepth 100000 in
theorem k_X2_readCourt_J73 {p : Program} {l : Launch} {e : Env} {s : State} {m : MethodId} {ar : Array Value} {bl : List Frame} {meth : Method} {c : Code} {D : va_G} {A : Nat → Prop} {cI cB cZ cP cC : ClassId} {a_t a_t_bytes a_c a_c_kind a_c_months a_c_home a_c_nurse a_c_skills a_c_noteRow a_c_soundRow a_c_pastRow a_K : Nat} {adK adV : Nat → Nat} {length : Int32} {bytes : Nat → Int32} {Post : Int32 → Int32 → Int32 → Int32 → Int32 → Int32 → Int32 → Int32 → Int32 → Int32 → Int32 → (Nat → Int32) → (Nat → Int32) → (Nat → Int32) → (Nat → Int32) → (Nat → Int32) → Prop} (C0 : mxC p s m ar meth c cX2_readCourt RX2 (some .int) 4 D (mxTy cI cB cZ cP cC) A) (hX : stX adK adV A s) :
    ∀ (token : Int32) (start : Int32) (behind : Int32) (value : Int32) (infants : Int32) (retired : Int32) (month : Int32) (notes : Int32) (sounds : Int32) (pasts : Int32) (kind : Nat → Int32) (months : Nat → Int32) (home : Nat → Int32) (nurse : Nat → Int32) (skills : Nat → Int32) (H : Heap) (locs : List Loc) (ls : Array Slot), va_P D vwCl (ww_X2_readCourt a_t a_t_bytes a_c a_c_kind a_c_months a_c_home a_c_nurse a_c_skills a_c_noteRow a_c_soundRow a_c_pastRow a_K cI cB cZ cP cC length token start behind value bytes infants retired month notes sounds pasts kind months home nurse skills) H → va_D A (ww_X2_readCourt a_t a_t_bytes a_c a_c_kind a_c_months a_c_home a_c_nurse a_c_skills a_c_noteRow a_c_soundRow a_c_pastRow a_K cI cB cZ cP cC length token start behind value bytes infants retired month notes sounds pasts kind months home nurse skills) → va_S A s.heap H locs → lv_has ls 4 [(0, .ref a_t)] → wp_X2_readCourt_J73 length bytes Post  token start behind value infants retired month notes sounds pasts kind months home nurse skills → W p l e rm_X2_readCourt s m ar bl meth c H locs 0 0 (MQ bl (qq_X2_readCourt D a_t a_t_bytes a_c a_c_kind a_c_months a_c_home a_c_nurse a_c_skills a_c_noteRow a_c_soundRow a_c_pastRow a_K cI cB cZ cP cC length bytes Post A) ar s 0 0 A) (F0 m 73 ls []) := by
  obtain ⟨hx, hb, hr, hlocks, hml, hown, hts, hK, hA⟩ := id C0
  intro token start behind value infants retired month notes sounds pasts kind months home nurse skills H locs ls hP hD hS hl hw
  refine lv_bipush (v := (-10)) hx hb dX2_readCourt_73 (by decide) ?_
  refine lv_aload_n hx hb dX2_readCourt_75 rfl (lv_at hl 0 rfl) ?_
  refine mx_get (ci := 2) (C := RX2) (T := TX2) (N := 7) hx hb hown in_wsX20 hts hK hP 0 rfl rfl 4 (by decide) q_229 rfl (v := .int start) rfl dX2_readCourt_76 ?_
  refine lv_isub hx hb dX2_readCourt_79 ?_
  exact mx_iret (token, start, behind, value, infants, retired, month, notes, sounds, pasts, kind, months, home, nurse, skills) hx hb hr hlocks rfl hw hK hP hD hS dX2_readCourt_80
def wp_X2_readCourt (length : Int32) (bytes : Nat → Int32) (token : Int32) (start : Int32) (behind : Int32) (value : Int32) (infants : Int32) (retired : Int32) (month : Int32) (notes : Int32) (sounds : Int32) (pasts : Int32) (kind : Nat → Int32) (months : Nat → Int32) (home : Nat → Int32) (nurse : Nat → Int32) (skills : Nat → Int32) (Post : Int32 → Int32 → Int32 → Int32 → Int32 → Int32 → Int32 → Int32 → Int32 → Int32 → Int32 → (Nat → Int32) → (Nat → Int32) → (Nat → Int32) → (Nat → Int32) → (Nat → Int32) → Prop) : Prop :=
  (wp_X1_begin infants retired month notes sounds pasts skills (fun infants_1 retired_2 month_3 notes_4 sounds_5 pasts_6 skills_7 => (wp_X2_advance length bytes token start 0 value (fun token_8 start_9 behind_10 value_11 => (∃ k_194 : Nat, wp_X2_readCourt_L20 length bytes Post (fun (token_164 : Int32) (start_165 : Int32) (behind_166 : Int32) (value_167 : Int32) (infants_168 : Int32) (retired_169 : Int32) (month_170 : Int32) (notes_171 : Int32) (sounds_172 : Int32) (pasts_173 : Int32) (kind_174 : Nat → Int32) (months_175 : Nat → Int32) (home_176 : Nat → Int32) (nurse_177 : Nat → Int32) (skills_178 : Nat → Int32) => (wp_X2_readCourt_J73 length bytes Post token_164 start_165 behind_166 value_167 infants_168 retired_169 month_170 notes_171 sounds_172 pasts_173 kind_174 months_175 home_176 nurse_177 skills_178)) (fun (token_179 : Int32) (start_180 : Int32) (behind_181 : Int32) (value_182 : Int32) (infants_183 : Int32) (retired_184 : Int32) (month_185 : Int32) (notes_186 : Int32) (sounds_187 : Int32) (pasts_188 : Int32) (kind_189 : Nat → Int32) (months_190 : Nat → Int32) (home_191 : Nat → Int32) (nurse_192 : Nat → Int32) (skills_193 : Nat → Int32) => (wp_X2_readCourt_J73 length bytes Post token_179 start_180 behind_181 value_182 infants_183 retired_184 month_185 notes_186 sounds_187 pasts_188 kind_189 months_190 home_191 nurse_192 skills_193)) k_194 0 0 token_8 start_9 behind_10 value_11 infants_1 retired_2 month_3 notes_4 sounds_5 pasts_6 kind months home nurse skills_7)))))
set_option maxHeartbeats 4000000 in
set_option maxRecDepth 100000 in
theorem c_X2_readCourt (l : Launch) (D : va_G) (cI cB cZ cP cC : ClassId) (adK adV : Nat → Nat) (a_t a_t_bytes a_c a_c_kind a_c_months a_c_home a_c_nurse a_c_skills a_c_noteRow a_c_soundRow a_c_pastRow a_K : Nat) (length : Int32) (token : Int32) (start : Int32) (behind : Int32) (value : Int32) (bytes : Nat → Int32) (infants : Int32) (retired : Int32) (month : Int32) (notes : Int32) (sounds : Int32) (pasts : Int32) (kind : Nat → Int32) (months : Nat → Int32) (home : Nat → Int32) (nurse : Nat → Int32) (skills : Nat → Int32)  (sz : Nat) (Post : Int32 → Int32 → Int32 → Int32 → Int32 → Int32 → Int32 → Int32 → Int32 → Int32 → Int32 → (Nat → Int32) → (Nat → Int32) → (Nat → Int32) → (Nat → Int32) → (Nat → Int32) → Prop) (hw : wp_X2_readCourt length bytes token start behind value infants retired month notes sounds pasts kind months home nurse skills Post) :
    Met l yX2_readCourt (Cond.code yX2_readCourt cX2_readCourt 4 (some .int) :: wsAll) rm_X2_readCourt (va_Pc [.ref a_t] (mxPX D (mxTy cI cB cZ cP cC) sz (ww_X2_readCourt a_t a_t_bytes a_c a_c_kind a_c_months a_c_home a_c_nurse a_c_skills a_c_noteRow a_c_soundRow a_c_pastRow a_K cI cB cZ cP cC length token start behind value bytes infants retired month notes sounds pasts kind months home nurse skills) adK adV)) (qq_X2_readCourt D a_t a_t_bytes a_c a_c_kind a_c_months a_c_home a_c_nurse a_c_skills a_c_noteRow a_c_soundRow a_c_pastRow a_K cI cB cZ cP cC length bytes Post (va_A (ww_X2_readCourt a_t a_t_bytes a_c a_c_kind a_c_months a_c_home a_c_nurse a_c_skills a_c_noteRow a_c_soundRow a_c_pastRow a_K cI cB cZ cP cC length token start behind value bytes infants retired month notes sounds pasts kind months home nurse skills) sz)) 0 0 (va_A (ww_X2_readCourt a_t a_t_bytes a_c a_c_kind a_c_months a_c_home a_c_nurse a_c_skills a_c_noteRow a_c_soundRow a_c_pastRow a_K cI cB cZ cP cC length token start behind value bytes infants retired month notes sounds pasts kind months home nurse skills) sz) := by
  refine mx_ofX (Qc := qq_X2_readCourt D a_t a_t_bytes a_c a_c_kind a_c_months a_c_home a_c_nurse a_c_skills a_c_noteRow a_c_soundRow a_c_pastRow a_K cI cB cZ cP cC length bytes Post) (by decide) (Nat.le_of_ble_eq_true rfl) ?_
  intro p e s m bl meth c A ls C0 hX hP hD hS hl
  replace C0 : mxC p s m [.ref a_t].toArray meth c cX2_readCourt RX2 (some .int) 4 D (mxTy cI cB cZ cP cC) A := C0
  obtain ⟨hx, hb, hr, hlocks, hml, hown, hts, hK, hA⟩ := id C0
  replace hl : lv_has ls 4 [(0, .ref a_t)] := hl
  unfold wp_X2_readCourt at hw
  refine lv_aload_n hx hb dX2_readCourt_0 rfl (lv_at hl 0 rfl) ?_
  refine lv_iconst (v := 0) hx hb dX2_readCourt_1 (by decide) ?_
  refine mx_put (ci := 2) (C := RX2) (T := TX2) (N := 7) hx hb hown in_wsX20 tyX2 tyX2_ok nmX2 hts hK hP hD hS 0 rfl rfl 5 (by decide) q_227 rfl rfl rfl rfl (Nat.le_of_ble_eq_true rfl) (ww_X2_readCourt a_t a_t_bytes a_c a_c_kind a_c_months a_c_home a_c_nurse a_c_skills a_c_noteRow a_c_soundRow a_c_pastRow a_K cI cB cZ cP cC length token start 0 value bytes infants retired month notes sounds pasts kind months home nurse skills) rfl dX2_readCourt_2 (fun H locs hP hD hS => ?_)
  refine lv_aload_n hx hb dX2_readCourt_5 rfl (lv_at hl 0 rfl) ?_
  refine mx_get (ci := 2) (C := RX2) (T := TX2) (N := 7) hx hb hown in_wsX20 hts hK hP 0 rfl rfl 0 (by decide) q_80 rfl (v := .ref a_c) rfl dX2_readCourt_6 ?_
  refine mx_kv (mx_rV (rm := rm_X1_begin) (rest := []) (C := RX1) hx hb hml hown hts (c_X1_begin l D cI cB cZ cP cC a_c a_c_kind a_c_months a_c_home a_c_nurse a_c_skills a_c_noteRow a_c_soundRow a_c_pastRow a_K infants retired month notes sounds pasts skills _ _ hw) q_230 q_115 q_116 q_32 q_117 hd_X1_begin ⟨(Nat.le_of_ble_eq_true rfl), (Nat.le_of_ble_eq_true rfl)⟩ rfl rfl hK hP hD [2, 7] rfl rfl 1 2 rfl rfl rfl rfl hl.1 rfl (Nat.le_of_ble_eq_true rfl) dX2_readCourt_9 ⟨(Nat.le_of_ble_eq_true rfl), (Nat.le_of_ble_eq_true rfl)⟩) hP hD hS hA [2, 7] [0, 1, 3, 4, 5, 6] [0, 1, 6, 2, 3, 4, 5, 7] (fun u => ww_X2_readCourt a_t a_t_bytes a_c a_c_kind a_c_months a_c_home a_c_nurse a_c_skills a_c_noteRow a_c_soundRow a_c_pastRow a_K cI cB cZ cP cC length token start 0 value bytes (u.1) (u.2.1) (u.2.2.1) (u.2.2.2.1) (u.2.2.2.2.1) (u.2.2.2.2.2.1) kind months home nurse (u.2.2.2.2.2.2)) rfl rfl rfl (by decide) rfl (fun _ => rfl) (fun u H locs hw hP hD hS => ?_)
  obtain ⟨infants_1, retired_2, month_3, notes_4, sounds_5, pasts_6, skills_7⟩ := u
  try dsimp only at hw
  replace hP : va_P D vwCl (ww_X2_readCourt a_t a_t_bytes a_c a_c_kind a_c_months a_c_home a_c_nurse a_c_skills a_c_noteRow a_c_soundRow a_c_pastRow a_K cI cB cZ cP cC length token start 0 value bytes infants_1 retired_2 month_3 notes_4 sounds_5 pasts_6 kind months home nurse skills_7) H := hP
  replace hD : va_D A (ww_X2_readCourt a_t a_t_bytes a_c a_c_kind a_c_months a_c_home a_c_nurse a_c_skills a_c_noteRow a_c_soundRow a_c_pastRow a_K cI cB cZ cP cC length token start 0 value bytes infants_1 retired_2 month_3 notes_4 sounds_5 pasts_6 kind months home nurse skills_7) := hD
  refine lv_aload_n hx hb dX2_readCourt_12 rfl (lv_at hl 0 rfl) ?_
  refine mx_kv (mx_rV (rm := rm_X2_advance) (rest := []) (C := RX2) hx hb hml hown hts (c_X2_advance l D cI cB cZ cP cC a_t a_t_bytes a_c length token start 0 value bytes _ _ hw) q_231 q_232 q_233 q_39 q_234 hd_X2_advance ⟨(Nat.le_of_ble_eq_true rfl), (Nat.le_of_ble_eq_true rfl)⟩ rfl rfl hK hP hD [0, 1] rfl rfl 2 0 rfl rfl rfl rfl hl.1 rfl (Nat.le_of_ble_eq_true rfl) dX2_readCourt_13 ⟨(Nat.le_of_ble_eq_true rfl), (Nat.le_of_ble_eq_true rfl)⟩) hP hD hS hA [0, 1] [2, 3, 4, 5, 6, 7] [6, 7, 0, 1, 2, 3, 4, 5] (fun u => ww_X2_readCourt a_t a_t_bytes a_c a_c_kind a_c_months a_c_home a_c_nurse a_c_skills a_c_noteRow a_c_soundRow a_c_pastRow a_K cI cB cZ cP cC length (u.1) (u.2.1) (u.2.2.1) (u.2.2.2) bytes infants_1 retired_2 month_3 notes_4 sounds_5 pasts_6 kind months home nurse skills_7) rfl rfl rfl (by decide) rfl (fun _ => rfl) (fun u H locs hw hP hD hS => ?_)
  obtain ⟨token_8, start_9, behind_10, value_11⟩ := u
  try dsimp only at hw
  replace hP : va_P D vwCl (ww_X2_readCourt a_t a_t_bytes a_c a_c_kind a_c_months a_c_home a_c_nurse a_c_skills a_c_noteRow a_c_soundRow a_c_pastRow a_K cI cB cZ cP cC length token_8 start_9 behind_10 value_11 bytes infants_1 retired_2 month_3 notes_4 sounds_5 pasts_6 kind months home nurse skills_7) H := hP
  replace hD : va_D A (ww_X2_readCourt a_t a_t_bytes a_c a_c_kind a_c_months a_c_home a_c_nurse a_c_skills a_c_noteRow a_c_soundRow a_c_pastRow a_K cI cB cZ cP cC length token_8 start_9 behind_10 value_11 bytes infants_1 retired_2 month_3 notes_4 sounds_5 pasts_6 kind months home nurse skills_7) := hD
  refine lv_iconst (v := 0) hx hb dX2_readCourt_16 (by decide) ?_
  refine lv_istore_n (lv' := [(1, .int 0), (0, .ref a_t)]) hx hb dX2_readCourt_17 rfl hl (by decide) rfl (fun ls hl => ?_)
  refine lv_iconst (v := 0) hx hb dX2_readCourt_18 (by decide) ?_
  refine lv_istore_n (lv' := [(2, .int 0), (1, .int 0), (0, .ref a_t)]) hx hb dX2_readCourt_19 rfl hl (by decide) rfl (fun ls hl => ?_)
  obtain ⟨n0, hw⟩ := hw
  refine k_X2_readCourt_L20 C0 hX ?_ ?_ n0 0 0 token_8 start_9 behind_10 value_11 infants_1 retired_2 month_3 notes_4 sounds_5 pasts_6 kind months home nurse skills_7 _ _ _ hP hD hS (lv_sub hl [2, 1, 0] rfl) hw
  · intro token_164 start_165 behind_166 value_167 infants_168 retired_169 month_170 notes_171 sounds_172 pasts_173 kind_174 months_175 home_176 nurse_177 skills_178 H locs ls hP hD hS hl hw
    exact k_X2_readCourt_J73 C0 hX  token_164 start_165 behind_166 value_167 infants_168 retired_169 month_170 notes_171 sounds_172 pasts_173 kind_174 months_175 home_176 nurse_177 skills_178 _ _ _ hP hD hS (lv_sub hl [0] rfl) hw
  · intro token_179 start_180 behind_181 value_182 infants_183 retired_184 month_185 notes_186 sounds_187 pasts_188 kind_189 months_190 home_191 nurse_192 skills_193 H locs ls hP hD hS hl hw
    refine lv_goto (tgt := 73) hx hb dX2_readCourt_61 (by decide) ?_
    exact k_X2_readCourt_J73 C0 hX  token_179 start_180 behind_181 value_182 infants_183 retired_184 month_185 notes_186 sounds_187 pasts_188 kind_189 months_190 home_191 nurse_192 skills_193 _ _ _ hP hD hS (lv_sub hl [0] rfl) hw
