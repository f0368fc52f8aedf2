/-! java/lang/Integer.bitCount(I)I -/
abbrev ww_J6_bitCount_0f7a4 (cI cB cZ cP cC : ClassId)  : va_W := []
abbrev qq_J6_bitCount_0f7a4 (D : va_G) (cI cB cZ cP cC : ClassId)  (Post : Int32 → Prop) (A : Nat → Prop) : Array Value → State → Outcome → State → Prop := va_Qi (fun (r : Int32) (u : Unit) => Post r) (fun (u : Unit) t => mxB D (mxTy cI cB cZ cP cC) A (ww_J6_bitCount_0f7a4 cI cB cZ cP cC) t) A
abbrev rm_J6_bitCount_0f7a4 : Room := { frames := 0, cells := 0, slots := 0, locals := 0 }
theorem hd_J6_bitCount_0f7a4 : yJ6_bitCount_0f7a4.cls ≠ "java/lang/invoke/MethodHandle" ∧ yJ6_bitCount_0f7a4.cls ≠ "java/lang/invoke/VarHandle" ∧ (parseMethodDescriptor yJ6_bitCount_0f7a4.desc).map (fun d => d.parameters.length) = some 1 := by decide +kernel
def wp_J6_bitCount_0f7a4 (v0 : Int32) (Post : Int32 → Prop) : Prop :=
  (∀ x_1 : Int32, x_1 = v0 - (((v0.toUInt32 >>> ((1 : Int32).toUInt32 &&& Int32.toUInt32 31)).toInt32) &&& 1431655765) → (∀ x_2 : Int32, x_2 = (x_1 &&& 858993459) + (((x_1.toUInt32 >>> ((2 : Int32).toUInt32 &&& Int32.toUInt32 31)).toInt32) &&& 858993459) → (∀ x_3 : Int32, x_3 = (x_2 + ((x_2.toUInt32 >>> ((4 : Int32).toUInt32 &&& Int32.toUInt32 31)).toInt32)) &&& 252645135 → (∀ x_4 : Int32, x_4 = x_3 + ((x_3.toUInt32 >>> ((8 : Int32).toUInt32 &&& Int32.toUInt32 31)).toInt32) → (∀ x_5 : Int32, x_5 = x_4 + ((x_4.toUInt32 >>> ((16 : Int32).toUInt32 &&& Int32.toUInt32 31)).toInt32) → Post (x_5 &&& 63))))))
set_option maxHeartbeats 4000000 in
set_option maxRecDepth 100000 in
theorem c_J6_bitCount_0f7a4 (l : Launch) (D : va_G) (cI cB cZ cP cC : ClassId)  (v0 : Int32) (sz : Nat) (Post : Int32 → Prop) (hw : wp_J6_bitCount_0f7a4 v0 Post) :
    Met l yJ6_bitCount_0f7a4 (Cond.code yJ6_bitCount_0f7a4 cJ6_bitCount_0f7a4 1 (some .int) :: wsAll) rm_J6_bitCount_0f7a4 (va_Pc [.int v0] (mxP D (mxTy cI cB cZ cP cC) sz (ww_J6_bitCount_0f7a4 cI cB cZ cP cC))) (qq_J6_bitCount_0f7a4 D cI cB cZ cP cC Post (va_A (ww_J6_bitCount_0f7a4 cI cB cZ cP cC) sz)) 0 0 (va_A (ww_J6_bitCount_0f7a4 cI cB cZ cP cC) sz) := by
  refine mx_of (Qc := qq_J6_bitCount_0f7a4 D cI cB cZ cP cC Post) (by decide) (Nat.le_of_ble_eq_true rfl) ?_
  intro p e s m bl meth c A ls C0 hP hD hS hl
  replace C0 : mxC p s m [.int v0].toArray meth c cJ6_bitCount_0f7a4 RJ6 (some .int) 1 D (mxTy cI cB cZ cP cC) A := C0
  obtain ⟨hx, hb, hr, hlocks, hml, hown, hts, hK, hA⟩ := id C0
  replace hl : lv_has ls 1 [(0, .int v0)] := hl
  unfold wp_J6_bitCount_0f7a4 at hw
  refine lv_iload_n hx hb dJ6_bitCount_0f7a4_0 rfl (lv_at hl 0 rfl) ?_
  refine lv_iload_n hx hb dJ6_bitCount_0f7a4_1 rfl (lv_at hl 0 rfl) ?_
  refine lv_iconst (v := 1) hx hb dJ6_bitCount_0f7a4_2 (by decide) ?_
  refine lv_iushr hx hb dJ6_bitCount_0f7a4_3 rfl ?_
  refine lv_ldcw (v := 1431655765) hx hb hown (hts _ q_491) dJ6_bitCount_0f7a4_4 ?_
  refine lv_iand hx hb dJ6_bitCount_0f7a4_7 ?_
  refine lv_isub hx hb dJ6_bitCount_0f7a4_8 ?_
  refine lv_topi (fun x_1 ex_1 => ?_)
  replace hw := hw x_1 ex_1
  refine lv_istore_n (lv' := [(0, .int x_1)]) hx hb dJ6_bitCount_0f7a4_9 rfl hl (by decide) rfl (fun ls hl => ?_)
  refine lv_iload_n hx hb dJ6_bitCount_0f7a4_10 rfl (lv_at hl 0 rfl) ?_
  refine lv_ldcw (v := 858993459) hx hb hown (hts _ q_492) dJ6_bitCount_0f7a4_11 ?_
  refine lv_iand hx hb dJ6_bitCount_0f7a4_14 ?_
  refine lv_iload_n hx hb dJ6_bitCount_0f7a4_15 rfl (lv_at hl 0 rfl) ?_
  refine lv_iconst (v := 2) hx hb dJ6_bitCount_0f7a4_16 (by decide) ?_
  refine lv_iushr hx hb dJ6_bitCount_0f7a4_17 rfl ?_
  refine lv_ldcw (v := 858993459) hx hb hown (hts _ q_492) dJ6_bitCount_0f7a4_18 ?_
  refine lv_iand hx hb dJ6_bitCount_0f7a4_21 ?_
  refine lv_iadd hx hb dJ6_bitCount_0f7a4_22 ?_
  refine lv_topi (fun x_2 ex_2 => ?_)
  replace hw := hw x_2 ex_2
  refine lv_istore_n (lv' := [(0, .int x_2)]) hx hb dJ6_bitCount_0f7a4_23 rfl hl (by decide) rfl (fun ls hl => ?_)
  refine lv_iload_n hx hb dJ6_bitCount_0f7a4_24 rfl (lv_at hl 0 rfl) ?_
  refine lv_iload_n hx hb dJ6_bitCount_0f7a4_25 rfl (lv_at hl 0 rfl) ?_
  refine lv_iconst (v := 4) hx hb dJ6_bitCount_0f7a4_26 (by decide) ?_
  refine lv_iushr hx hb dJ6_bitCount_0f7a4_27 rfl ?_
  refine lv_iadd hx hb dJ6_bitCount_0f7a4_28 ?_
  refine lv_ldcw (v := 252645135) hx hb hown (hts _ q_493) dJ6_bitCount_0f7a4_29 ?_
  refine lv_iand hx hb dJ6_bitCount_0f7a4_32 ?_
  refine lv_topi (fun x_3 ex_3 => ?_)
  replace hw := hw x_3 ex_3
  refine lv_istore_n (lv' := [(0, .int x_3)]) hx hb dJ6_bitCount_0f7a4_33 rfl hl (by decide) rfl (fun ls hl => ?_)
  refine lv_iload_n hx hb dJ6_bitCount_0f7a4_34 rfl (lv_at hl 0 rfl) ?_
  refine lv_iload_n hx hb dJ6_bitCount_0f7a4_35 rfl (lv_at hl 0 rfl) ?_
  refine lv_bipush (v := 8) hx hb dJ6_bitCount_0f7a4_36 (by decide) ?_
  refine lv_iushr hx hb dJ6_bitCount_0f7a4_38 rfl ?_
  refine lv_iadd hx hb dJ6_bitCount_0f7a4_39 ?_
  refine lv_topi (fun x_4 ex_4 => ?_)
  replace hw := hw x_4 ex_4
  refine lv_istore_n (lv' := [(0, .int x_4)]) hx hb dJ6_bitCount_0f7a4_40 rfl hl (by decide) rfl (fun ls hl => ?_)
  refine lv_iload_n hx hb dJ6_bitCount_0f7a4_41 rfl (lv_at hl 0 rfl) ?_
  refine lv_iload_n hx hb dJ6_bitCount_0f7a4_42 rfl (lv_at hl 0 rfl) ?_
  refine lv_bipush (v := 16) hx hb dJ6_bitCount_0f7a4_43 (by decide) ?_
  refine lv_iushr hx hb dJ6_bitCount_0f7a4_45 rfl ?_
  refine lv_iadd hx hb dJ6_bitCount_0f7a4_46 ?_
  refine lv_topi (fun x_5 ex_5 => ?_)
  replace hw := hw x_5 ex_5
  refine lv_istore_n (lv' := [(0, .int x_5)]) hx hb dJ6_bitCount_0f7a4_47 rfl hl (by decide) rfl (fun ls hl => ?_)
  refine lv_iload_n hx hb dJ6_bitCount_0f7a4_48 rfl (lv_at hl 0 rfl) ?_
  refine lv_bipush (v := 63) hx hb dJ6_bitCount_0f7a4_49 (by decide) ?_
  refine lv_iand hx hb dJ6_bitCount_0f7a4_51 ?_
  exact mx_iret () hx hb hr hlocks rfl hw hK hP hD hS dJ6_bitCount_0f7a4_52
/-! java/util/Arrays.fill([II)V -/
abbrev ww_J7_fill_53178 (a_v0 : Nat) (cI cB cZ cP cC : ClassId) (n_v0 : Nat) (row : Nat → Int32) : va_W := [(a_v0, .inl (cI, n_v0, .inl row))]
abbrev qq_J7_fill_53178 (D : va_G) (a_v0 : Nat) (cI cB cZ cP cC : ClassId) (n_v0 : Nat)  (Post : (Nat → Int32) → Prop) (A : Nat → Prop) : Array Value → State → Outcome → State → Prop := va_Qv (fun (u : (Nat → Int32)) => Post u) (fun (u : (Nat → Int32)) t => mxB D (mxTy cI cB cZ cP cC) A (ww_J7_fill_53178 a_v0 cI cB cZ cP cC n_v0 u) t) A
abbrev rm_J7_fill_53178 : Room := { frames := 0, cells := 0, slots := 0, locals := 0 }
theorem hd_J7_fill_53178 : yJ7_fill_53178.cls ≠ "java/lang/invoke/MethodHandle" ∧ yJ7_fill_53178.cls ≠ "java/lang/invoke/VarHandle" ∧ (parseMethodDescriptor yJ7_fill_53178.desc).map (fun d => d.parameters.length) = some 2 := by decide +kernel
def wp_J7_fill_53178_L5 (n_v0 : Nat) (Post : (Nat → Int32) → Prop)  : Nat → Int32 → Int32 → Int32 → (Nat → Int32) → Prop
  | 0, _, _, _, _ => False
  | n + 1, v1, v2, v3, row => ((v3 ≤ v2 → Post row) ∧ (¬ v3 ≤ v2 → (vp_in v2 n_v0 ∧ (∀ f_4 : Nat → Int32, f_4 = upd row v2.toNatClampNeg v1 → (∀ x_5 : Int32, x_5 = v2 + 1 → wp_J7_fill_53178_L5 n_v0 Post  n v1 x_5 v3 f_4)))))
set_option maxHeartbeats 4000000 in
set_option maxRecDepth 100000 in
theorem k_J7_fill_53178_L5 {p : Program} {l : Launch} {e : Env} {s : State} {m : MethodId} {ar : Array Value} {bl : List Frame} {meth : Method} {c : Code} {D : va_G} {A : Nat → Prop} {cI cB cZ cP cC : ClassId} {a_v0 : Nat} {n_v0 : Nat} {Post : (Nat → Int32) → Prop} (C0 : mxC p s m ar meth c cJ7_fill_53178 RJ7 none 4 D (mxTy cI cB cZ cP cC) A) :
    ∀ (n : Nat) (v1 : Int32) (v2 : Int32) (v3 : Int32) (row : Nat → Int32) (H : Heap) (locs : List Loc) (ls : Array Slot), va_P D vwCl (ww_J7_fill_53178 a_v0 cI cB cZ cP cC n_v0 row) H → va_D A (ww_J7_fill_53178 a_v0 cI cB cZ cP cC n_v0 row) → va_S A s.heap H locs → lv_has ls 4 [(0, .ref a_v0), (1, .int v1), (2, .int v2), (3, .int v3)] → wp_J7_fill_53178_L5 n_v0 Post  n v1 v2 v3 row → W p l e rm_J7_fill_53178 s m ar bl meth c H locs 0 0 (MQ bl (qq_J7_fill_53178 D a_v0 cI cB cZ cP cC n_v0 Post A) ar s 0 0 A) (F0 m 5 ls []) := by
  obtain ⟨hx, hb, hr, hlocks, hml, hown, hts, hK, hA⟩ := id C0
  intro n
  induction n with
  | zero =>
    intro v1 v2 v3 row H locs ls hP hD hS hl hw
    exact absurd hw (fun h => h)
  | succ n ih =>
    intro v1 v2 v3 row H locs ls hP hD hS hl hw
    refine lv_iload_n hx hb dJ7_fill_53178_5 rfl (lv_at hl 2 rfl) ?_
    refine lv_iload_n hx hb dJ7_fill_53178_6 rfl (lv_at hl 3 rfl) ?_
    refine lv_icmp_ge (tgt := 20) hx hb dJ7_fill_53178_7 (by decide) (fun c_2 => ?_) (fun c_2 => ?_)
    · replace hw := hw.1 c_2
      exact mx_vret row hx hb hr hlocks hw hK hP hD hS dJ7_fill_53178_20
    · replace hw := hw.2 c_2
      refine lv_aload_n hx hb dJ7_fill_53178_10 rfl (lv_at hl 0 rfl) ?_
      refine lv_iload_n hx hb dJ7_fill_53178_11 rfl (lv_at hl 2 rfl) ?_
      refine lv_iload_n hx hb dJ7_fill_53178_12 rfl (lv_at hl 1 rfl) ?_
      obtain ⟨h_3, hw⟩ := hw
      obtain ⟨f_4, ef_4⟩ : ∃ y : Nat → Int32, y = upd row v2.toNatClampNeg v1 := ⟨_, rfl⟩
      replace hw := hw f_4 ef_4
      refine mx_iast hx hb hK hP hD hS 0 0 rfl rfl h_3 f_4 ef_4 (ww_J7_fill_53178 a_v0 cI cB cZ cP cC n_v0 f_4) rfl dJ7_fill_53178_13 (fun H locs hP hD hS => ?_)
      obtain ⟨x_5, ex_5⟩ : ∃ y : Int32, y = v2 + 1 := ⟨_, rfl⟩
      replace hw := hw x_5 ex_5
      refine lv_iinc (v := x_5) (lv' := [(2, .int x_5), (0, .ref a_v0), (1, .int v1), (3, .int v3)]) hx hb dJ7_fill_53178_14 hl (k := 2) rfl (by rw [ex_5]; rfl) (by decide) rfl (fun ls hl => ?_)
      refine lv_goto (tgt := 5) hx hb dJ7_fill_53178_17 (by decide) ?_
      exact ih v1 x_5 v3 f_4 _ _ _ hP hD hS (lv_sub hl [1, 2, 0, 3] rfl) hw
def wp_J7_fill_53178 (n_v0 : Nat) (row : Nat → Int32) (v1 : Int32) (Post : (Nat → Int32) → Prop) : Prop :=
  (∀ x_1 : Int32, x_1 = nI n_v0 → (∃ k_6 : Nat, wp_J7_fill_53178_L5 n_v0 Post k_6 v1 0 x_1 row))
set_option maxHeartbeats 4000000 in
set_option maxRecDepth 100000 in
theorem c_J7_fill_53178 (l : Launch) (D : va_G) (cI cB cZ cP cC : ClassId) (a_v0 : Nat) (n_v0 : Nat) (row : Nat → Int32) (v1 : Int32) (sz : Nat) (Post : (Nat → Int32) → Prop) (hw : wp_J7_fill_53178 n_v0 row v1 Post) :
    Met l yJ7_fill_53178 (Cond.code yJ7_fill_53178 cJ7_fill_53178 4 none :: wsAll) rm_J7_fill_53178 (va_Pc [.ref a_v0, .int v1] (mxP D (mxTy cI cB cZ cP cC) sz (ww_J7_fill_53178 a_v0 cI cB cZ cP cC n_v0 row))) (qq_J7_fill_53178 D a_v0 cI cB cZ cP cC n_v0 Post (va_A (ww_J7_fill_53178 a_v0 cI cB cZ cP cC n_v0 row) sz)) 0 0 (va_A (ww_J7_fill_53178 a_v0 cI cB cZ cP cC n_v0 row) sz) := by
  refine mx_of (Qc := qq_J7_fill_53178 D a_v0 cI cB cZ cP cC n_v0 Post) (by decide) (Nat.le_of_ble_eq_true rfl) ?_
  intro p e s m bl meth c A ls C0 hP hD hS hl
  replace C0 : mxC p s m [.ref a_v0, .int v1].toArray meth c cJ7_fill_53178 RJ7 none 4 D (mxTy cI cB cZ cP cC) A := C0
  obtain ⟨hx, hb, hr, hlocks, hml, hown, hts, hK, hA⟩ := id C0
  replace hl : lv_has ls 4 [(0, .ref a_v0), (1, .int v1)] := hl
  unfold wp_J7_fill_53178 at hw
  refine lv_iconst (v := 0) hx hb dJ7_fill_53178_0 (by decide) ?_
  refine lv_istore_n (lv' := [(2, .int 0), (0, .ref a_v0), (1, .int v1)]) hx hb dJ7_fill_53178_1 rfl hl (by decide) rfl (fun ls hl => ?_)
  refine lv_aload_n hx hb dJ7_fill_53178_2 rfl (lv_at hl 1 rfl) ?_
  refine va_alen hx hb hK hP 0 0 rfl rfl (v := nI n_v0) rfl dJ7_fill_53178_3 ?_
  refine lv_topi (fun x_1 ex_1 => ?_)
  replace hw := hw x_1 ex_1
  refine lv_istore_n (lv' := [(3, .int x_1), (2, .int 0), (0, .ref a_v0), (1, .int v1)]) hx hb dJ7_fill_53178_4 rfl hl (by decide) rfl (fun ls hl => ?_)
  obtain ⟨n0, hw⟩ := hw
  refine k_J7_fill_53178_L5 C0  n0 v1 0 x_1 row _ _ _ hP hD hS (lv_sub hl [2, 3, 1, 0] rfl) hw
