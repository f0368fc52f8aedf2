/-! PramState$Plain.sleepsIn(I)Z -/
abbrev ww_X6_sleepsIn (a_k : Nat) (cI cB cZ cP cC : ClassId)  : va_W := []
abbrev qq_X6_sleepsIn (D : va_G) (a_k : Nat) (cI cB cZ cP cC : ClassId)  (Post : Int32 → Prop) (A : Nat → Prop) : Array Value → State → Outcome → State → Prop := va_Qi (fun (r : Int32) (u : Unit) => Post r) (fun (u : Unit) t => mxB D (mxTy cI cB cZ cP cC) A (ww_X6_sleepsIn a_k cI cB cZ cP cC) t) A
abbrev rm_X6_sleepsIn : Room := { frames := 0, cells := 0, slots := 0, locals := 0 }
theorem hd_X6_sleepsIn : yX6_sleepsIn.cls = RX6 ∧ yX6_sleepsIn.cls ≠ "java/lang/invoke/MethodHandle" ∧ yX6_sleepsIn.cls ≠ "java/lang/invoke/VarHandle" ∧ (parseMethodDescriptor yX6_sleepsIn.desc).map (fun d => d.parameters.length) = some 1 := by decide +kernel
theorem hds_X6_sleepsIn : yX6_sleepsIn.name ≠ "<init>" ∧ (parseMethodDescriptor yX6_sleepsIn.desc).map (fun d => d.parameters.length) = some 1 := by decide +kernel
theorem hdu_X6_sleepsIn : yX6_sleepsIn.cls ≠ "java/lang/invoke/MethodHandle" ∧ yX6_sleepsIn.cls ≠ "java/lang/invoke/VarHandle" ∧ (parseMethodDescriptor yX6_sleepsIn.desc).map (fun d => d.parameters.length) = some 1 := by decide +kernel
def wp_X6_sleepsIn (v1 : Int32) (Post : Int32 → Prop) : Prop :=
  ((19 ≤ v1 → Post 1) ∧ (¬ 19 ≤ v1 → ((v1 < 7 → Post 1) ∧ (¬ v1 < 7 → ((v1 = 12 → Post 1) ∧ (¬ v1 = 12 → ((v1 = 13 → Post 1) ∧ (¬ v1 = 13 → Post 0))))))))
set_option maxHeartbeats 4000000 in
set_option maxRecDepth 100000 in
theorem c_X6_sleepsIn (l : Launch) (D : va_G) (cI cB cZ cP cC : ClassId) (a_k : Nat)  (v1 : Int32) (sz : Nat) (Post : Int32 → Prop) (hw : wp_X6_sleepsIn v1 Post) :
    Met l yX6_sleepsIn (Cond.code yX6_sleepsIn cX6_sleepsIn 2 (some .boolean) :: wsAll) rm_X6_sleepsIn (va_Pc [.ref a_k, .int v1] (mxP D (mxTy cI cB cZ cP cC) sz (ww_X6_sleepsIn a_k cI cB cZ cP cC))) (qq_X6_sleepsIn D a_k cI cB cZ cP cC Post (va_A (ww_X6_sleepsIn a_k cI cB cZ cP cC) sz)) 0 0 (va_A (ww_X6_sleepsIn a_k cI cB cZ cP cC) sz) := by
  refine mx_of (Qc := qq_X6_sleepsIn D a_k cI cB cZ cP cC Post) (by decide) (Nat.le_of_ble_eq_true rfl) ?_
  intro p e s m bl meth c A ls C0 hP hD hS hl
  replace C0 : mxC p s m [.ref a_k, .int v1].toArray meth c cX6_sleepsIn RX6 (some .boolean) 2 D (mxTy cI cB cZ cP cC) A := C0
  obtain ⟨hx, hb, hr, hlocks, hml, hown, hts, hK, hA⟩ := id C0
  replace hl : lv_has ls 2 [(0, .ref a_k), (1, .int v1)] := hl
  unfold wp_X6_sleepsIn at hw
  refine lv_iload_n hx hb dX6_sleepsIn_0 rfl (lv_at hl 1 rfl) ?_
  refine lv_bipush (v := 19) hx hb dX6_sleepsIn_1 (by decide) ?_
  refine lv_icmp_ge (tgt := 24) hx hb dX6_sleepsIn_3 (by decide) (fun c_1 => ?_) (fun c_1 => ?_)
  · replace hw := hw.1 c_1
    refine lv_iconst (v := 1) hx hb dX6_sleepsIn_24 (by decide) ?_
    refine lv_goto (tgt := 29) hx hb dX6_sleepsIn_25 (by decide) ?_
    exact mx_iret () hx hb hr hlocks rfl hw hK hP hD hS dX6_sleepsIn_29
  · replace hw := hw.2 c_1
    refine lv_iload_n hx hb dX6_sleepsIn_6 rfl (lv_at hl 1 rfl) ?_
    refine lv_bipush (v := 7) hx hb dX6_sleepsIn_7 (by decide) ?_
    refine lv_icmp_lt (tgt := 24) hx hb dX6_sleepsIn_9 (by decide) (fun c_2 => ?_) (fun c_2 => ?_)
    · replace hw := hw.1 c_2
      refine lv_iconst (v := 1) hx hb dX6_sleepsIn_24 (by decide) ?_
      refine lv_goto (tgt := 29) hx hb dX6_sleepsIn_25 (by decide) ?_
      exact mx_iret () hx hb hr hlocks rfl hw hK hP hD hS dX6_sleepsIn_29
    · replace hw := hw.2 c_2
      refine lv_iload_n hx hb dX6_sleepsIn_12 rfl (lv_at hl 1 rfl) ?_
      refine lv_bipush (v := 12) hx hb dX6_sleepsIn_13 (by decide) ?_
      refine lv_icmp_eq (tgt := 24) hx hb dX6_sleepsIn_15 (by decide) (fun c_3 => ?_) (fun c_3 => ?_)
      · replace hw := hw.1 c_3
        refine lv_iconst (v := 1) hx hb dX6_sleepsIn_24 (by decide) ?_
        refine lv_goto (tgt := 29) hx hb dX6_sleepsIn_25 (by decide) ?_
        exact mx_iret () hx hb hr hlocks rfl hw hK hP hD hS dX6_sleepsIn_29
      · replace hw := hw.2 c_3
        refine lv_iload_n hx hb dX6_sleepsIn_18 rfl (lv_at hl 1 rfl) ?_
        refine lv_bipush (v := 13) hx hb dX6_sleepsIn_19 (by decide) ?_
        refine lv_icmp_ne (tgt := 28) hx hb dX6_sleepsIn_21 (by decide) (fun c_4 => ?_) (fun c_4 => ?_)
        · replace hw := hw.2 c_4
          refine lv_iconst (v := 0) hx hb dX6_sleepsIn_28 (by decide) ?_
          exact mx_iret () hx hb hr hlocks rfl hw hK hP hD hS dX6_sleepsIn_29
        · replace hw := hw.1 c_4
          refine lv_iconst (v := 1) hx hb dX6_sleepsIn_24 (by decide) ?_
          refine lv_goto (tgt := 29) hx hb dX6_sleepsIn_25 (by decide) ?_
          exact mx_iret () hx hb hr hlocks rfl hw hK hP hD hS dX6_sleepsIn_29
/-! PramState$Plain.criesAwake(I)I -/
abbrev ww_X6_criesAwake (a_k : Nat) (cI cB cZ cP cC : ClassId)  : va_W := []
abbrev qq_X6_criesAwake (D : va_G) (a_k : Nat) (cI cB cZ cP cC : ClassId)  (Post : Int32 → Prop) (A : Nat → Prop) : Array Value → State → Outcome → State → Prop := va_Qi (fun (r : Int32) (u : Unit) => Post r) (fun (u : Unit) t => mxB D (mxTy cI cB cZ cP cC) A (ww_X6_criesAwake a_k cI cB cZ cP cC) t) A
abbrev rm_X6_criesAwake : Room := { frames := 0, cells := 0, slots := 0, locals := 0 }
theorem hd_X6_criesAwake : yX6_criesAwake.cls = RX6 ∧ yX6_criesAwake.cls ≠ "java/lang/invoke/MethodHandle" ∧ yX6_criesAwake.cls ≠ "java/lang/invoke/VarHandle" ∧ (parseMethodDescriptor yX6_criesAwake.desc).map (fun d => d.parameters.length) = some 1 := by decide +kernel
theorem hds_X6_criesAwake : yX6_criesAwake.name ≠ "<init>" ∧ (parseMethodDescriptor yX6_criesAwake.desc).map (fun d => d.parameters.length) = some 1 := by decide +kernel
theorem hdu_X6_criesAwake : yX6_criesAwake.cls ≠ "java/lang/invoke/MethodHandle" ∧ yX6_criesAwake.cls ≠ "java/lang/invoke/VarHandle" ∧ (parseMethodDescriptor yX6_criesAwake.desc).map (fun d => d.parameters.length) = some 1 := by decide +kernel
def wp_X6_criesAwake (v1 : Int32) (Post : Int32 → Prop) : Prop :=
  ((6 ≤ v1 → Post 2) ∧ (¬ 6 ≤ v1 → Post 3))
set_option maxHeartbeats 4000000 in
set_option maxRecDepth 100000 in
theorem c_X6_criesAwake (l : Launch) (D : va_G) (cI cB cZ cP cC : ClassId) (a_k : Nat)  (v1 : Int32) (sz : Nat) (Post : Int32 → Prop) (hw : wp_X6_criesAwake v1 Post) :
    Met l yX6_criesAwake (Cond.code yX6_criesAwake cX6_criesAwake 2 (some .int) :: wsAll) rm_X6_criesAwake (va_Pc [.ref a_k, .int v1] (mxP D (mxTy cI cB cZ cP cC) sz (ww_X6_criesAwake a_k cI cB cZ cP cC))) (qq_X6_criesAwake D a_k cI cB cZ cP cC Post (va_A (ww_X6_criesAwake a_k cI cB cZ cP cC) sz)) 0 0 (va_A (ww_X6_criesAwake a_k cI cB cZ cP cC) sz) := by
  refine mx_of (Qc := qq_X6_criesAwake D a_k cI cB cZ cP cC Post) (by decide) (Nat.le_of_ble_eq_true rfl) ?_
  intro p e s m bl meth c A ls C0 hP hD hS hl
  replace C0 : mxC p s m [.ref a_k, .int v1].toArray meth c cX6_criesAwake RX6 (some .int) 2 D (mxTy cI cB cZ cP cC) A := C0
  obtain ⟨hx, hb, hr, hlocks, hml, hown, hts, hK, hA⟩ := id C0
  replace hl : lv_has ls 2 [(0, .ref a_k), (1, .int v1)] := hl
  unfold wp_X6_criesAwake at hw
  refine lv_iload_n hx hb dX6_criesAwake_0 rfl (lv_at hl 1 rfl) ?_
  refine lv_bipush (v := 6) hx hb dX6_criesAwake_1 (by decide) ?_
  refine lv_icmp_ge (tgt := 10) hx hb dX6_criesAwake_3 (by decide) (fun c_1 => ?_) (fun c_1 => ?_)
  · replace hw := hw.1 c_1
    refine lv_iconst (v := 2) hx hb dX6_criesAwake_10 (by decide) ?_
    exact mx_iret () hx hb hr hlocks rfl hw hK hP hD hS dX6_criesAwake_11
  · replace hw := hw.2 c_1
    refine lv_iconst (v := 3) hx hb dX6_criesAwake_6 (by decide) ?_
    refine lv_goto (tgt := 11) hx hb dX6_criesAwake_7 (by decide) ?_
    exact mx_iret () hx hb hr hlocks rfl hw hK hP hD hS dX6_criesAwake_11
/-! PramState$Plain.walksWith()I -/
abbrev ww_X6_walksWith (a_k : Nat) (cI cB cZ cP cC : ClassId)  : va_W := []
abbrev qq_X6_walksWith (D : va_G) (a_k : Nat) (cI cB cZ cP cC : ClassId)  (Post : Int32 → Prop) (A : Nat → Prop) : Array Value → State → Outcome → State → Prop := va_Qi (fun (r : Int32) (u : Unit) => Post r) (fun (u : Unit) t => mxB D (mxTy cI cB cZ cP cC) A (ww_X6_walksWith a_k cI cB cZ cP cC) t) A
abbrev rm_X6_walksWith : Room := { frames := 0, cells := 0, slots := 0, locals := 0 }
theorem hd_X6_walksWith : yX6_walksWith.cls = RX6 ∧ yX6_walksWith.cls ≠ "java/lang/invoke/MethodHandle" ∧ yX6_walksWith.cls ≠ "java/lang/invoke/VarHandle" ∧ (parseMethodDescriptor yX6_walksWith.desc).map (fun d => d.parameters.length) = some 0 := by decide +kernel
theorem hds_X6_walksWith : yX6_walksWith.name ≠ "<init>" ∧ (parseMethodDescriptor yX6_walksWith.desc).map (fun d => d.parameters.length) = some 0 := by decide +kernel
theorem hdu_X6_walksWith : yX6_walksWith.cls ≠ "java/lang/invoke/MethodHandle" ∧ yX6_walksWith.cls ≠ "java/lang/invoke/VarHandle" ∧ (parseMethodDescriptor yX6_walksWith.desc).map (fun d => d.parameters.length) = some 0 := by decide +kernel
def wp_X6_walksWith  (Post : Int32 → Prop) : Prop :=
  Post 14
set_option maxHeartbeats 4000000 in
set_option maxRecDepth 100000 in
theorem c_X6_walksWith (l : Launch) (D : va_G) (cI cB cZ cP cC : ClassId) (a_k : Nat)   (sz : Nat) (Post : Int32 → Prop) (hw : wp_X6_walksWith Post) :
    Met l yX6_walksWith (Cond.code yX6_walksWith cX6_walksWith 1 (some .int) :: wsAll) rm_X6_walksWith (va_Pc [.ref a_k] (mxP D (mxTy cI cB cZ cP cC) sz (ww_X6_walksWith a_k cI cB cZ cP cC))) (qq_X6_walksWith D a_k cI cB cZ cP cC Post (va_A (ww_X6_walksWith a_k cI cB cZ cP cC) sz)) 0 0 (va_A (ww_X6_walksWith a_k cI cB cZ cP cC) sz) := by
  refine mx_of (Qc := qq_X6_walksWith D a_k cI cB cZ cP cC Post) (by decide) (Nat.le_of_ble_eq_true rfl) ?_
  intro p e s m bl meth c A ls C0 hP hD hS hl
  replace C0 : mxC p s m [.ref a_k].toArray meth c cX6_walksWith RX6 (some .int) 1 D (mxTy cI cB cZ cP cC) A := C0
  obtain ⟨hx, hb, hr, hlocks, hml, hown, hts, hK, hA⟩ := id C0
  replace hl : lv_has ls 1 [(0, .ref a_k)] := hl
  unfold wp_X6_walksWith at hw
  refine lv_bipush (v := 14) hx hb dX6_walksWith_0 (by decide) ?_
  exact mx_iret () hx hb hr hlocks rfl hw hK hP hD hS dX6_walksWith_2
/-! PramState$Twin.criesAwake(I)I -/
abbrev ww_X8_criesAwake (a_k : Nat) (cI cB cZ cP cC : ClassId)  : va_W := [(a_k, .inr (8, []))]
abbrev qq_X8_criesAwake (D : va_G) (a_k : Nat) (cI cB cZ cP cC : ClassId)  (Post : Int32 → Prop) (A : Nat → Prop) : Array Value → State → Outcome → State → Prop := va_Qi (fun (r : Int32) (u : Unit) => Post r) (fun (u : Unit) t => mxB D (mxTy cI cB cZ cP cC) A (ww_X8_criesAwake a_k cI cB cZ cP cC) t) A
abbrev rm_X8_criesAwake : Room := { frames := 1, cells := 0, slots := 0, locals := 21 }
theorem hd_X8_criesAwake : yX8_criesAwake.cls = RX8 ∧ yX8_criesAwake.cls ≠ "java/lang/invoke/MethodHandle" ∧ yX8_criesAwake.cls ≠ "java/lang/invoke/VarHandle" ∧ (parseMethodDescriptor yX8_criesAwake.desc).map (fun d => d.parameters.length) = some 1 := by decide +kernel
theorem hds_X8_criesAwake : yX8_criesAwake.name ≠ "<init>" ∧ (parseMethodDescriptor yX8_criesAwake.desc).map (fun d => d.parameters.length) = some 1 := by decide +kernel
theorem hdu_X8_criesAwake : yX8_criesAwake.cls ≠ "java/lang/invoke/MethodHandle" ∧ yX8_criesAwake.cls ≠ "java/lang/invoke/VarHandle" ∧ (parseMethodDescriptor yX8_criesAwake.desc).map (fun d => d.parameters.length) = some 1 := by decide +kernel
def wp_X8_criesAwake (v1 : Int32) (Post : Int32 → Prop) : Prop :=
  (wp_X6_criesAwake v1 (fun r_1 => Post (2 * r_1)))
set_option maxHeartbeats 4000000 in
set_option maxRecDepth 100000 in
theorem c_X8_criesAwake (l : Launch) (D : va_G) (cI cB cZ cP cC : ClassId) (a_k : Nat)  (v1 : Int32) (sz : Nat) (Post : Int32 → Prop) (hw : wp_X8_criesAwake v1 Post) :
    Met l yX8_criesAwake (Cond.code yX8_criesAwake cX8_criesAwake 2 (some .int) :: wsAll) rm_X8_criesAwake (va_Pc [.ref a_k, .int v1] (mxP D (mxTy cI cB cZ cP cC) sz (ww_X8_criesAwake a_k cI cB cZ cP cC))) (qq_X8_criesAwake D a_k cI cB cZ cP cC Post (va_A (ww_X8_criesAwake a_k cI cB cZ cP cC) sz)) 0 0 (va_A (ww_X8_criesAwake a_k cI cB cZ cP cC) sz) := by
  refine mx_of (Qc := qq_X8_criesAwake D a_k cI cB cZ cP cC Post) (by decide) (Nat.le_of_ble_eq_true rfl) ?_
  intro p e s m bl meth c A ls C0 hP hD hS hl
  replace C0 : mxC p s m [.ref a_k, .int v1].toArray meth c cX8_criesAwake RX8 (some .int) 2 D (mxTy cI cB cZ cP cC) A := C0
  obtain ⟨hx, hb, hr, hlocks, hml, hown, hts, hK, hA⟩ := id C0
  replace hl : lv_has ls 2 [(0, .ref a_k), (1, .int v1)] := hl
  unfold wp_X8_criesAwake at hw
  refine lv_iconst (v := 2) hx hb dX8_criesAwake_0 (by decide) ?_
  refine lv_aload_n hx hb dX8_criesAwake_1 rfl (lv_at hl 0 rfl) ?_
  refine lv_iload_n hx hb dX8_criesAwake_2 rfl (lv_at hl 1 rfl) ?_
  refine mx_ki (mx_rSU (rm := rm_X6_criesAwake) (rest := [.int 2]) (C := RX8) hx hb hml hown hts (c_X6_criesAwake l D cI cB cZ cP cC a_k v1 _ _ hw) q_583 q_573 q_584 q_585 q_14 q_586 hds_X6_criesAwake ⟨(Nat.le_of_ble_eq_true rfl), (Nat.le_of_ble_eq_true rfl)⟩ rfl rfl hK hP hD [] rfl rfl 8 0 rfl rfl rfl rfl hl.1 rfl (Nat.le_of_ble_eq_true rfl) dX8_criesAwake_3 ⟨(Nat.le_of_ble_eq_true rfl), (Nat.le_of_ble_eq_true rfl)⟩) hP hD hS hA [] [0] [0] (fun _ => ww_X8_criesAwake a_k cI cB cZ cP cC) rfl rfl rfl (by decide) rfl (fun _ => rfl) (fun r_1 u H locs hw hP hD hS => ?_)
  try dsimp only at hw
  replace hP : va_P D vwCl (ww_X8_criesAwake a_k cI cB cZ cP cC) H := hP
  replace hD : va_D A (ww_X8_criesAwake a_k cI cB cZ cP cC) := hD
  refine lv_imul hx hb dX8_criesAwake_6 ?_
  exact mx_iret () hx hb hr hlocks rfl hw hK hP hD hS dX8_criesAwake_7
/-! PramState$Teether.sleepsIn(I)Z -/
abbrev ww_X7_sleepsIn (a_k : Nat) (cI cB cZ cP cC : ClassId)  : va_W := [(a_k, .inr (7, []))]
abbrev qq_X7_sleepsIn (D : va_G) (a_k : Nat) (cI cB cZ cP cC : ClassId)  (Post : Int32 → Prop) (A : Nat → Prop) : Array Value → State → Outcome → State → Prop := va_Qi (fun (r : Int32) (u : Unit) => Post r) (fun (u : Unit) t => mxB D (mxTy cI cB cZ cP cC) A (ww_X7_sleepsIn a_k cI cB cZ cP cC) t) A
abbrev rm_X7_sleepsIn : Room := { frames := 1, cells := 0, slots := 0, locals := 21 }
theorem hd_X7_sleepsIn : yX7_sleepsIn.cls = RX7 ∧ yX7_sleepsIn.cls ≠ "java/lang/invoke/MethodHandle" ∧ yX7_sleepsIn.cls ≠ "java/lang/invoke/VarHandle" ∧ (parseMethodDescriptor yX7_sleepsIn.desc).map (fun d => d.parameters.length) = some 1 := by decide +kernel
theorem hds_X7_sleepsIn : yX7_sleepsIn.name ≠ "<init>" ∧ (parseMethodDescriptor yX7_sleepsIn.desc).map (fun d => d.parameters.length) = some 1 := by decide +kernel
theorem hdu_X7_sleepsIn : yX7_sleepsIn.cls ≠ "java/lang/invoke/MethodHandle" ∧ yX7_sleepsIn.cls ≠ "java/lang/invoke/VarHandle" ∧ (parseMethodDescriptor yX7_sleepsIn.desc).map (fun d => d.parameters.length) = some 1 := by decide +kernel
def wp_X7_sleepsIn (v1 : Int32) (Post : Int32 → Prop) : Prop :=
  ((v1 = 2 → Post 0) ∧ (¬ v1 = 2 → ((v1 = 3 → Post 0) ∧ (¬ v1 = 3 → (wp_X6_sleepsIn v1 (fun r_3 => ((r_3 = 0 → Post 0) ∧ (¬ r_3 = 0 → Post 1))))))))
set_option maxHeartbeats 4000000 in
set_option maxRecDepth 100000 in
theorem c_X7_sleepsIn (l : Launch) (D : va_G) (cI cB cZ cP cC : ClassId) (a_k : Nat)  (v1 : Int32) (sz : Nat) (Post : Int32 → Prop) (hw : wp_X7_sleepsIn v1 Post) :
    Met l yX7_sleepsIn (Cond.code yX7_sleepsIn cX7_sleepsIn 2 (some .boolean) :: wsAll) rm_X7_sleepsIn (va_Pc [.ref a_k, .int v1] (mxP D (mxTy cI cB cZ cP cC) sz (ww_X7_sleepsIn a_k cI cB cZ cP cC))) (qq_X7_sleepsIn D a_k cI cB cZ cP cC Post (va_A (ww_X7_sleepsIn a_k cI cB cZ cP cC) sz)) 0 0 (va_A (ww_X7_sleepsIn a_k cI cB cZ cP cC) sz) := by
  refine mx_of (Qc := qq_X7_sleepsIn D a_k cI cB cZ cP cC Post) (by decide) (Nat.le_of_ble_eq_true rfl) ?_
  intro p e s m bl meth c A ls C0 hP hD hS hl
  replace C0 : mxC p s m [.ref a_k, .int v1].toArray meth c cX7_sleepsIn RX7 (some .boolean) 2 D (mxTy cI cB cZ cP cC) A := C0
  obtain ⟨hx, hb, hr, hlocks, hml, hown, hts, hK, hA⟩ := id C0
  replace hl : lv_has ls 2 [(0, .ref a_k), (1, .int v1)] := hl
  unfold wp_X7_sleepsIn at hw
  refine lv_iload_n hx hb dX7_sleepsIn_0 rfl (lv_at hl 1 rfl) ?_
  refine lv_iconst (v := 2) hx hb dX7_sleepsIn_1 (by decide) ?_
  refine lv_icmp_eq (tgt := 22) hx hb dX7_sleepsIn_2 (by decide) (fun c_1 => ?_) (fun c_1 => ?_)
  · replace hw := hw.1 c_1
    refine lv_iconst (v := 0) hx hb dX7_sleepsIn_22 (by decide) ?_
    exact mx_iret () hx hb hr hlocks rfl hw hK hP hD hS dX7_sleepsIn_23
  · replace hw := hw.2 c_1
    refine lv_iload_n hx hb dX7_sleepsIn_5 rfl (lv_at hl 1 rfl) ?_
    refine lv_iconst (v := 3) hx hb dX7_sleepsIn_6 (by decide) ?_
    refine lv_icmp_eq (tgt := 22) hx hb dX7_sleepsIn_7 (by decide) (fun c_2 => ?_) (fun c_2 => ?_)
    · replace hw := hw.1 c_2
      refine lv_iconst (v := 0) hx hb dX7_sleepsIn_22 (by decide) ?_
      exact mx_iret () hx hb hr hlocks rfl hw hK hP hD hS dX7_sleepsIn_23
    · replace hw := hw.2 c_2
      refine lv_aload_n hx hb dX7_sleepsIn_10 rfl (lv_at hl 0 rfl) ?_
      refine lv_iload_n hx hb dX7_sleepsIn_11 rfl (lv_at hl 1 rfl) ?_
      refine mx_ki (mx_rSU (rm := rm_X6_sleepsIn) (rest := []) (C := RX7) hx hb hml hown hts (c_X6_sleepsIn l D cI cB cZ cP cC a_k v1 _ _ hw) q_560 q_543 q_561 q_550 q_14 q_548 hds_X6_sleepsIn ⟨(Nat.le_of_ble_eq_true rfl), (Nat.le_of_ble_eq_true rfl)⟩ rfl rfl hK hP hD [] rfl rfl 7 0 rfl rfl rfl rfl hl.1 rfl (Nat.le_of_ble_eq_true rfl) dX7_sleepsIn_12 ⟨(Nat.le_of_ble_eq_true rfl), (Nat.le_of_ble_eq_true rfl)⟩) hP hD hS hA [] [0] [0] (fun _ => ww_X7_sleepsIn a_k cI cB cZ cP cC) rfl rfl rfl (by decide) rfl (fun _ => rfl) (fun r_3 u H locs hw hP hD hS => ?_)
      try dsimp only at hw
      replace hP : va_P D vwCl (ww_X7_sleepsIn a_k cI cB cZ cP cC) H := hP
      replace hD : va_D A (ww_X7_sleepsIn a_k cI cB cZ cP cC) := hD
      refine lv_if_eq (tgt := 22) hx hb dX7_sleepsIn_15 (by decide) (fun c_4 => ?_) (fun c_4 => ?_)
      · replace hw := hw.1 c_4
        refine lv_iconst (v := 0) hx hb dX7_sleepsIn_22 (by decide) ?_
        exact mx_iret () hx hb hr hlocks rfl hw hK hP hD hS dX7_sleepsIn_23
      · replace hw := hw.2 c_4
        refine lv_iconst (v := 1) hx hb dX7_sleepsIn_18 (by decide) ?_
        refine lv_goto (tgt := 23) hx hb dX7_sleepsIn_19 (by decide) ?_
        exact mx_iret () hx hb hr hlocks rfl hw hK hP hD hS dX7_sleepsIn_23
/-! PramState$Teether.criesAwake(I)I -/
abbrev ww_X7_criesAwake (a_k : Nat) (cI cB cZ cP cC : ClassId)  : va_W := [(a_k, .inr (7, []))]
abbrev qq_X7_criesAwake (D : va_G) (a_k : Nat) (cI cB cZ cP cC : ClassId)  (Post : Int32 → Prop) (A : Nat → Prop) : Array Value → State → Outcome → State → Prop := va_Qi (fun (r : Int32) (u : Unit) => Post r) (fun (u : Unit) t => mxB D (mxTy cI cB cZ cP cC) A (ww_X7_criesAwake a_k cI cB cZ cP cC) t) A
abbrev rm_X7_criesAwake : Room := { frames := 1, cells := 0, slots := 0, locals := 21 }
theorem hd_X7_criesAwake : yX7_criesAwake.cls = RX7 ∧ yX7_criesAwake.cls ≠ "java/lang/invoke/MethodHandle" ∧ yX7_criesAwake.cls ≠ "java/lang/invoke/VarHandle" ∧ (parseMethodDescriptor yX7_criesAwake.desc).map (fun d => d.parameters.length) = some 1 := by decide +kernel
theorem hds_X7_criesAwake : yX7_criesAwake.name ≠ "<init>" ∧ (parseMethodDescriptor yX7_criesAwake.desc).map (fun d => d.parameters.length) = some 1 := by decide +kernel
theorem hdu_X7_criesAwake : yX7_criesAwake.cls ≠ "java/lang/invoke/MethodHandle" ∧ yX7_criesAwake.cls ≠ "java/lang/invoke/VarHandle" ∧ (parseMethodDescriptor yX7_criesAwake.desc).map (fun d => d.parameters.length) = some 1 := by decide +kernel
def wp_X7_criesAwake (v1 : Int32) (Post : Int32 → Prop) : Prop :=
  (wp_X6_criesAwake v1 (fun r_1 => ((v1 < 6 → Post r_1) ∧ (¬ v1 < 6 → ((11 < v1 → Post r_1) ∧ (¬ 11 < v1 → Post (r_1 + 3)))))))
set_option maxHeartbeats 4000000 in
set_option maxRecDepth 100000 in
theorem c_X7_criesAwake (l : Launch) (D : va_G) (cI cB cZ cP cC : ClassId) (a_k : Nat)  (v1 : Int32) (sz : Nat) (Post : Int32 → Prop) (hw : wp_X7_criesAwake v1 Post) :
    Met l yX7_criesAwake (Cond.code yX7_criesAwake cX7_criesAwake 3 (some .int) :: wsAll) rm_X7_criesAwake (va_Pc [.ref a_k, .int v1] (mxP D (mxTy cI cB cZ cP cC) sz (ww_X7_criesAwake a_k cI cB cZ cP cC))) (qq_X7_criesAwake D a_k cI cB cZ cP cC Post (va_A (ww_X7_criesAwake a_k cI cB cZ cP cC) sz)) 0 0 (va_A (ww_X7_criesAwake a_k cI cB cZ cP cC) sz) := by
  refine mx_of (Qc := qq_X7_criesAwake D a_k cI cB cZ cP cC Post) (by decide) (Nat.le_of_ble_eq_true rfl) ?_
  intro p e s m bl meth c A ls C0 hP hD hS hl
  replace C0 : mxC p s m [.ref a_k, .int v1].toArray meth c cX7_criesAwake RX7 (some .int) 3 D (mxTy cI cB cZ cP cC) A := C0
  obtain ⟨hx, hb, hr, hlocks, hml, hown, hts, hK, hA⟩ := id C0
  replace hl : lv_has ls 3 [(0, .ref a_k), (1, .int v1)] := hl
  unfold wp_X7_criesAwake at hw
  refine lv_aload_n hx hb dX7_criesAwake_0 rfl (lv_at hl 0 rfl) ?_
  refine lv_iload_n hx hb dX7_criesAwake_1 rfl (lv_at hl 1 rfl) ?_
  refine mx_ki (mx_rSU (rm := rm_X6_criesAwake) (rest := []) (C := RX7) hx hb hml hown hts (c_X6_criesAwake l D cI cB cZ cP cC a_k v1 _ _ hw) q_594 q_573 q_561 q_585 q_14 q_586 hds_X6_criesAwake ⟨(Nat.le_of_ble_eq_true rfl), (Nat.le_of_ble_eq_true rfl)⟩ rfl rfl hK hP hD [] rfl rfl 7 0 rfl rfl rfl rfl hl.1 rfl (Nat.le_of_ble_eq_true rfl) dX7_criesAwake_2 ⟨(Nat.le_of_ble_eq_true rfl), (Nat.le_of_ble_eq_true rfl)⟩) hP hD hS hA [] [0] [0] (fun _ => ww_X7_criesAwake a_k cI cB cZ cP cC) rfl rfl rfl (by decide) rfl (fun _ => rfl) (fun r_1 u H locs hw hP hD hS => ?_)
  try dsimp only at hw
  replace hP : va_P D vwCl (ww_X7_criesAwake a_k cI cB cZ cP cC) H := hP
  replace hD : va_D A (ww_X7_criesAwake a_k cI cB cZ cP cC) := hD
  refine lv_istore_n (lv' := [(2, .int r_1), (0, .ref a_k), (1, .int v1)]) hx hb dX7_criesAwake_5 rfl hl (by decide) rfl (fun ls hl => ?_)
  refine lv_iload_n hx hb dX7_criesAwake_6 rfl (lv_at hl 2 rfl) ?_
  refine lv_bipush (v := 6) hx hb dX7_criesAwake_7 (by decide) ?_
  refine lv_icmp_lt (tgt := 24) hx hb dX7_criesAwake_9 (by decide) (fun c_2 => ?_) (fun c_2 => ?_)
  · replace hw := hw.1 c_2
    refine lv_iload_n hx hb dX7_criesAwake_24 rfl (lv_at hl 0 rfl) ?_
    exact mx_iret () hx hb hr hlocks rfl hw hK hP hD hS dX7_criesAwake_25
  · replace hw := hw.2 c_2
    refine lv_iload_n hx hb dX7_criesAwake_12 rfl (lv_at hl 2 rfl) ?_
    refine lv_bipush (v := 11) hx hb dX7_criesAwake_13 (by decide) ?_
    refine lv_icmp_gt (tgt := 24) hx hb dX7_criesAwake_15 (by decide) (fun c_3 => ?_) (fun c_3 => ?_)
    · replace hw := hw.1 c_3
      refine lv_iload_n hx hb dX7_criesAwake_24 rfl (lv_at hl 0 rfl) ?_
      exact mx_iret () hx hb hr hlocks rfl hw hK hP hD hS dX7_criesAwake_25
    · replace hw := hw.2 c_3
      refine lv_iload_n hx hb dX7_criesAwake_18 rfl (lv_at hl 0 rfl) ?_
      refine lv_iconst (v := 3) hx hb dX7_criesAwake_19 (by decide) ?_
      refine lv_iadd hx hb dX7_criesAwake_20 ?_
      refine lv_goto (tgt := 25) hx hb dX7_criesAwake_21 (by decide) ?_
      exact mx_iret () hx hb hr hlocks rfl hw hK hP hD hS dX7_criesAwake_25
/-! PramState$Early.walksWith()I -/
abbrev ww_X3_walksWith (a_k : Nat) (cI cB cZ cP cC : ClassId)  : va_W := [(a_k, .inr (3, []))]
abbrev qq_X3_walksWith (D : va_G) (a_k : Nat) (cI cB cZ cP cC : ClassId)  (Post : Int32 → Prop) (A : Nat → Prop) : Array Value → State → Outcome → State → Prop := va_Qi (fun (r : Int32) (u : Unit) => Post r) (fun (u : Unit) t => mxB D (mxTy cI cB cZ cP cC) A (ww_X3_walksWith a_k cI cB cZ cP cC) t) A
abbrev rm_X3_walksWith : Room := { frames := 1, cells := 0, slots := 0, locals := 20 }
theorem hd_X3_walksWith : yX3_walksWith.cls = RX3 ∧ yX3_walksWith.cls ≠ "java/lang/invoke/MethodHandle" ∧ yX3_walksWith.cls ≠ "java/lang/invoke/VarHandle" ∧ (parseMethodDescriptor yX3_walksWith.desc).map (fun d => d.parameters.length) = some 0 := by decide +kernel
theorem hds_X3_walksWith : yX3_walksWith.name ≠ "<init>" ∧ (parseMethodDescriptor yX3_walksWith.desc).map (fun d => d.parameters.length) = some 0 := by decide +kernel
theorem hdu_X3_walksWith : yX3_walksWith.cls ≠ "java/lang/invoke/MethodHandle" ∧ yX3_walksWith.cls ≠ "java/lang/invoke/VarHandle" ∧ (parseMethodDescriptor yX3_walksWith.desc).map (fun d => d.parameters.length) = some 0 := by decide +kernel
def wp_X3_walksWith  (Post : Int32 → Prop) : Prop :=
  (wp_X6_walksWith (fun r_1 => Post (r_1 - 3)))
set_option maxHeartbeats 4000000 in
set_option maxRecDepth 100000 in
theorem c_X3_walksWith (l : Launch) (D : va_G) (cI cB cZ cP cC : ClassId) (a_k : Nat)   (sz : Nat) (Post : Int32 → Prop) (hw : wp_X3_walksWith Post) :
    Met l yX3_walksWith (Cond.code yX3_walksWith cX3_walksWith 1 (some .int) :: wsAll) rm_X3_walksWith (va_Pc [.ref a_k] (mxP D (mxTy cI cB cZ cP cC) sz (ww_X3_walksWith a_k cI cB cZ cP cC))) (qq_X3_walksWith D a_k cI cB cZ cP cC Post (va_A (ww_X3_walksWith a_k cI cB cZ cP cC) sz)) 0 0 (va_A (ww_X3_walksWith a_k cI cB cZ cP cC) sz) := by
  refine mx_of (Qc := qq_X3_walksWith D a_k cI cB cZ cP cC Post) (by decide) (Nat.le_of_ble_eq_true rfl) ?_
  intro p e s m bl meth c A ls C0 hP hD hS hl
  replace C0 : mxC p s m [.ref a_k].toArray meth c cX3_walksWith RX3 (some .int) 1 D (mxTy cI cB cZ cP cC) A := C0
  obtain ⟨hx, hb, hr, hlocks, hml, hown, hts, hK, hA⟩ := id C0
  replace hl : lv_has ls 1 [(0, .ref a_k)] := hl
  unfold wp_X3_walksWith at hw
  refine lv_aload_n hx hb dX3_walksWith_0 rfl (lv_at hl 0 rfl) ?_
  refine mx_ki (mx_rSU (rm := rm_X6_walksWith) (rest := []) (C := RX3) hx hb hml hown hts (c_X6_walksWith l D cI cB cZ cP cC a_k _ _ hw) q_412 q_404 q_413 q_406 q_14 q_407 hds_X6_walksWith ⟨(Nat.le_of_ble_eq_true rfl), (Nat.le_of_ble_eq_true rfl)⟩ rfl rfl hK hP hD [] rfl rfl 3 0 rfl rfl rfl rfl hl.1 rfl (Nat.le_of_ble_eq_true rfl) dX3_walksWith_1 ⟨(Nat.le_of_ble_eq_true rfl), (Nat.le_of_ble_eq_true rfl)⟩) hP hD hS hA [] [0] [0] (fun _ => ww_X3_walksWith a_k cI cB cZ cP cC) rfl rfl rfl (by decide) rfl (fun _ => rfl) (fun r_1 u H locs hw hP hD hS => ?_)
  try dsimp only at hw
  replace hP : va_P D vwCl (ww_X3_walksWith a_k cI cB cZ cP cC) H := hP
  replace hD : va_D A (ww_X3_walksWith a_k cI cB cZ cP cC) := hD
  refine lv_iconst (v := 3) hx hb dX3_walksWith_4 (by decide) ?_
  refine lv_isub hx hb dX3_walksWith_5 ?_
  exact mx_iret () hx hb hr hlocks rfl hw hK hP hD hS dX3_walksWith_6
/-! PramState$Late.sleepsIn(I)Z -/
abbrev ww_X4_sleepsIn (a_k : Nat) (cI cB cZ cP cC : ClassId)  : va_W := [(a_k, .inr (4, []))]
abbrev qq_X4_sleepsIn (D : va_G) (a_k : Nat) (cI cB cZ cP cC : ClassId)  (Post : Int32 → Prop) (A : Nat → Prop) : Array Value → State → Outcome → State → Prop := va_Qi (fun (r : Int32) (u : Unit) => Post r) (fun (u : Unit) t => mxB D (mxTy cI cB cZ cP cC) A (ww_X4_sleepsIn a_k cI cB cZ cP cC) t) A
abbrev rm_X4_sleepsIn : Room := { frames := 1, cells := 0, slots := 0, locals := 21 }
theorem hd_X4_sleepsIn : yX4_sleepsIn.cls = RX4 ∧ yX4_sleepsIn.cls ≠ "java/lang/invoke/MethodHandle" ∧ yX4_sleepsIn.cls ≠ "java/lang/invoke/VarHandle" ∧ (parseMethodDescriptor yX4_sleepsIn.desc).map (fun d => d.parameters.length) = some 1 := by decide +kernel
theorem hds_X4_sleepsIn : yX4_sleepsIn.name ≠ "<init>" ∧ (parseMethodDescriptor yX4_sleepsIn.desc).map (fun d => d.parameters.length) = some 1 := by decide +kernel
theorem hdu_X4_sleepsIn : yX4_sleepsIn.cls ≠ "java/lang/invoke/MethodHandle" ∧ yX4_sleepsIn.cls ≠ "java/lang/invoke/VarHandle" ∧ (parseMethodDescriptor yX4_sleepsIn.desc).map (fun d => d.parameters.length) = some 1 := by decide +kernel
def wp_X4_sleepsIn (v1 : Int32) (Post : Int32 → Prop) : Prop :=
  ((v1 = 14 → Post 1) ∧ (¬ v1 = 14 → ((v1 = 12 → Post 0) ∧ (¬ v1 = 12 → (wp_X6_sleepsIn v1 (fun r_3 => ((r_3 = 0 → Post 0) ∧ (¬ r_3 = 0 → Post 1))))))))
set_option maxHeartbeats 4000000 in
set_option maxRecDepth 100000 in
theorem c_X4_sleepsIn (l : Launch) (D : va_G) (cI cB cZ cP cC : ClassId) (a_k : Nat)  (v1 : Int32) (sz : Nat) (Post : Int32 → Prop) (hw : wp_X4_sleepsIn v1 Post) :
    Met l yX4_sleepsIn (Cond.code yX4_sleepsIn cX4_sleepsIn 2 (some .boolean) :: wsAll) rm_X4_sleepsIn (va_Pc [.ref a_k, .int v1] (mxP D (mxTy cI cB cZ cP cC) sz (ww_X4_sleepsIn a_k cI cB cZ cP cC))) (qq_X4_sleepsIn D a_k cI cB cZ cP cC Post (va_A (ww_X4_sleepsIn a_k cI cB cZ cP cC) sz)) 0 0 (va_A (ww_X4_sleepsIn a_k cI cB cZ cP cC) sz) := by
  refine mx_of (Qc := qq_X4_sleepsIn D a_k cI cB cZ cP cC Post) (by decide) (Nat.le_of_ble_eq_true rfl) ?_
  intro p e s m bl meth c A ls C0 hP hD hS hl
  replace C0 : mxC p s m [.ref a_k, .int v1].toArray meth c cX4_sleepsIn RX4 (some .boolean) 2 D (mxTy cI cB cZ cP cC) A := C0
  obtain ⟨hx, hb, hr, hlocks, hml, hown, hts, hK, hA⟩ := id C0
  replace hl : lv_has ls 2 [(0, .ref a_k), (1, .int v1)] := hl
  unfold wp_X4_sleepsIn at hw
  refine lv_iload_n hx hb dX4_sleepsIn_0 rfl (lv_at hl 1 rfl) ?_
  refine lv_bipush (v := 14) hx hb dX4_sleepsIn_1 (by decide) ?_
  refine lv_icmp_eq (tgt := 20) hx hb dX4_sleepsIn_3 (by decide) (fun c_1 => ?_) (fun c_1 => ?_)
  · replace hw := hw.1 c_1
    refine lv_iconst (v := 1) hx hb dX4_sleepsIn_20 (by decide) ?_
    refine lv_goto (tgt := 25) hx hb dX4_sleepsIn_21 (by decide) ?_
    exact mx_iret () hx hb hr hlocks rfl hw hK hP hD hS dX4_sleepsIn_25
  · replace hw := hw.2 c_1
    refine lv_iload_n hx hb dX4_sleepsIn_6 rfl (lv_at hl 1 rfl) ?_
    refine lv_bipush (v := 12) hx hb dX4_sleepsIn_7 (by decide) ?_
    refine lv_icmp_eq (tgt := 24) hx hb dX4_sleepsIn_9 (by decide) (fun c_2 => ?_) (fun c_2 => ?_)
    · replace hw := hw.1 c_2
      refine lv_iconst (v := 0) hx hb dX4_sleepsIn_24 (by decide) ?_
      exact mx_iret () hx hb hr hlocks rfl hw hK hP hD hS dX4_sleepsIn_25
    · replace hw := hw.2 c_2
      refine lv_aload_n hx hb dX4_sleepsIn_12 rfl (lv_at hl 0 rfl) ?_
      refine lv_iload_n hx hb dX4_sleepsIn_13 rfl (lv_at hl 1 rfl) ?_
      refine mx_ki (mx_rSU (rm := rm_X6_sleepsIn) (rest := []) (C := RX4) hx hb hml hown hts (c_X6_sleepsIn l D cI cB cZ cP cC a_k v1 _ _ hw) q_554 q_543 q_418 q_550 q_14 q_548 hds_X6_sleepsIn ⟨(Nat.le_of_ble_eq_true rfl), (Nat.le_of_ble_eq_true rfl)⟩ rfl rfl hK hP hD [] rfl rfl 4 0 rfl rfl rfl rfl hl.1 rfl (Nat.le_of_ble_eq_true rfl) dX4_sleepsIn_14 ⟨(Nat.le_of_ble_eq_true rfl), (Nat.le_of_ble_eq_true rfl)⟩) hP hD hS hA [] [0] [0] (fun _ => ww_X4_sleepsIn a_k cI cB cZ cP cC) rfl rfl rfl (by decide) rfl (fun _ => rfl) (fun r_3 u H locs hw hP hD hS => ?_)
      try dsimp only at hw
      replace hP : va_P D vwCl (ww_X4_sleepsIn a_k cI cB cZ cP cC) H := hP
      replace hD : va_D A (ww_X4_sleepsIn a_k cI cB cZ cP cC) := hD
      refine lv_if_eq (tgt := 24) hx hb dX4_sleepsIn_17 (by decide) (fun c_4 => ?_) (fun c_4 => ?_)
      · replace hw := hw.1 c_4
        refine lv_iconst (v := 0) hx hb dX4_sleepsIn_24 (by decide) ?_
        exact mx_iret () hx hb hr hlocks rfl hw hK hP hD hS dX4_sleepsIn_25
      · replace hw := hw.2 c_4
        refine lv_iconst (v := 1) hx hb dX4_sleepsIn_20 (by decide) ?_
        refine lv_goto (tgt := 25) hx hb dX4_sleepsIn_21 (by decide) ?_
        exact mx_iret () hx hb hr hlocks rfl hw hK hP hD hS dX4_sleepsIn_25
/-! PramState$Late.walksWith()I -/
abbrev ww_X4_walksWith (a_k : Nat) (cI cB cZ cP cC : ClassId)  : va_W := [(a_k, .inr (4, []))]
abbrev qq_X4_walksWith (D : va_G) (a_k : Nat) (cI cB cZ cP cC : ClassId)  (Post : Int32 → Prop) (A : Nat → Prop) : Array Value → State → Outcome → State → Prop := va_Qi (fun (r : Int32) (u : Unit) => Post r) (fun (u : Unit) t => mxB D (mxTy cI cB cZ cP cC) A (ww_X4_walksWith a_k cI cB cZ cP cC) t) A
abbrev rm_X4_walksWith : Room := { frames := 1, cells := 0, slots := 0, locals := 20 }
theorem hd_X4_walksWith : yX4_walksWith.cls = RX4 ∧ yX4_walksWith.cls ≠ "java/lang/invoke/MethodHandle" ∧ yX4_walksWith.cls ≠ "java/lang/invoke/VarHandle" ∧ (parseMethodDescriptor yX4_walksWith.desc).map (fun d => d.parameters.length) = some 0 := by decide +kernel
theorem hds_X4_walksWith : yX4_walksWith.name ≠ "<init>" ∧ (parseMethodDescriptor yX4_walksWith.desc).map (fun d => d.parameters.length) = some 0 := by decide +kernel
theorem hdu_X4_walksWith : yX4_walksWith.cls ≠ "java/lang/invoke/MethodHandle" ∧ yX4_walksWith.cls ≠ "java/lang/invoke/VarHandle" ∧ (parseMethodDescriptor yX4_walksWith.desc).map (fun d => d.parameters.length) = some 0 := by decide +kernel
def wp_X4_walksWith  (Post : Int32 → Prop) : Prop :=
  (wp_X6_walksWith (fun r_1 => Post (r_1 + 4)))
set_option maxHeartbeats 4000000 in
set_option maxRecDepth 100000 in
theorem c_X4_walksWith (l : Launch) (D : va_G) (cI cB cZ cP cC : ClassId) (a_k : Nat)   (sz : Nat) (Post : Int32 → Prop) (hw : wp_X4_walksWith Post) :
    Met l yX4_walksWith (Cond.code yX4_walksWith cX4_walksWith 1 (some .int) :: wsAll) rm_X4_walksWith (va_Pc [.ref a_k] (mxP D (mxTy cI cB cZ cP cC) sz (ww_X4_walksWith a_k cI cB cZ cP cC))) (qq_X4_walksWith D a_k cI cB cZ cP cC Post (va_A (ww_X4_walksWith a_k cI cB cZ cP cC) sz)) 0 0 (va_A (ww_X4_walksWith a_k cI cB cZ cP cC) sz) := by
  refine mx_of (Qc := qq_X4_walksWith D a_k cI cB cZ cP cC Post) (by decide) (Nat.le_of_ble_eq_true rfl) ?_
  intro p e s m bl meth c A ls C0 hP hD hS hl
  replace C0 : mxC p s m [.ref a_k].toArray meth c cX4_walksWith RX4 (some .int) 1 D (mxTy cI cB cZ cP cC) A := C0
  obtain ⟨hx, hb, hr, hlocks, hml, hown, hts, hK, hA⟩ := id C0
  replace hl : lv_has ls 1 [(0, .ref a_k)] := hl
  unfold wp_X4_walksWith at hw
  refine lv_aload_n hx hb dX4_walksWith_0 rfl (lv_at hl 0 rfl) ?_
  refine mx_ki (mx_rSU (rm := rm_X6_walksWith) (rest := []) (C := RX4) hx hb hml hown hts (c_X6_walksWith l D cI cB cZ cP cC a_k _ _ hw) q_417 q_404 q_418 q_406 q_14 q_407 hds_X6_walksWith ⟨(Nat.le_of_ble_eq_true rfl), (Nat.le_of_ble_eq_true rfl)⟩ rfl rfl hK hP hD [] rfl rfl 4 0 rfl rfl rfl rfl hl.1 rfl (Nat.le_of_ble_eq_true rfl) dX4_walksWith_1 ⟨(Nat.le_of_ble_eq_true rfl), (Nat.le_of_ble_eq_true rfl)⟩) hP hD hS hA [] [0] [0] (fun _ => ww_X4_walksWith a_k cI cB cZ cP cC) rfl rfl rfl (by decide) rfl (fun _ => rfl) (fun r_1 u H locs hw hP hD hS => ?_)
  try dsimp only at hw
  replace hP : va_P D vwCl (ww_X4_walksWith a_k cI cB cZ cP cC) H := hP
  replace hD : va_D A (ww_X4_walksWith a_k cI cB cZ cP cC) := hD
  refine lv_iconst (v := 4) hx hb dX4_walksWith_4 (by decide) ?_
  refine lv_iadd hx hb dX4_walksWith_5 ?_
  exact mx_iret () hx hb hr hlocks rfl hw hK hP hD hS dX4_walksWith_6
/-! PramState$Bear.sleepsIn(I)Z -/
abbrev ww_X0_sleepsIn (a_k : Nat) (cI cB cZ cP cC : ClassId)  : va_W := [(a_k, .inr (0, []))]
abbrev qq_X0_sleepsIn (D : va_G) (a_k : Nat) (cI cB cZ cP cC : ClassId)  (Post : Int32 → Prop) (A : Nat → Prop) : Array Value → State → Outcome → State → Prop := va_Qi (fun (r : Int32) (u : Unit) => Post r) (fun (u : Unit) t => mxB D (mxTy cI cB cZ cP cC) A (ww_X0_sleepsIn a_k cI cB cZ cP cC) t) A
abbrev rm_X0_sleepsIn : Room := { frames := 1, cells := 0, slots := 0, locals := 21 }
theorem hd_X0_sleepsIn : yX0_sleepsIn.cls = RX0 ∧ yX0_sleepsIn.cls ≠ "java/lang/invoke/MethodHandle" ∧ yX0_sleepsIn.cls ≠ "java/lang/invoke/VarHandle" ∧ (parseMethodDescriptor yX0_sleepsIn.desc).map (fun d => d.parameters.length) = some 1 := by decide +kernel
theorem hds_X0_sleepsIn : yX0_sleepsIn.name ≠ "<init>" ∧ (parseMethodDescriptor yX0_sleepsIn.desc).map (fun d => d.parameters.length) = some 1 := by decide +kernel
theorem hdu_X0_sleepsIn : yX0_sleepsIn.cls ≠ "java/lang/invoke/MethodHandle" ∧ yX0_sleepsIn.cls ≠ "java/lang/invoke/VarHandle" ∧ (parseMethodDescriptor yX0_sleepsIn.desc).map (fun d => d.parameters.length) = some 1 := by decide +kernel
def wp_X0_sleepsIn (v1 : Int32) (Post : Int32 → Prop) : Prop :=
  ((v1 = 17 → Post 1) ∧ (¬ v1 = 17 → (wp_X6_sleepsIn v1 (fun r_2 => ((r_2 = 0 → Post 0) ∧ (¬ r_2 = 0 → Post 1))))))
set_option maxHeartbeats 4000000 in
set_option maxRecDepth 100000 in
theorem c_X0_sleepsIn (l : Launch) (D : va_G) (cI cB cZ cP cC : ClassId) (a_k : Nat)  (v1 : Int32) (sz : Nat) (Post : Int32 → Prop) (hw : wp_X0_sleepsIn v1 Post) :
    Met l yX0_sleepsIn (Cond.code yX0_sleepsIn cX0_sleepsIn 2 (some .boolean) :: wsAll) rm_X0_sleepsIn (va_Pc [.ref a_k, .int v1] (mxP D (mxTy cI cB cZ cP cC) sz (ww_X0_sleepsIn a_k cI cB cZ cP cC))) (qq_X0_sleepsIn D a_k cI cB cZ cP cC Post (va_A (ww_X0_sleepsIn a_k cI cB cZ cP cC) sz)) 0 0 (va_A (ww_X0_sleepsIn a_k cI cB cZ cP cC) sz) := by
  refine mx_of (Qc := qq_X0_sleepsIn D a_k cI cB cZ cP cC Post) (by decide) (Nat.le_of_ble_eq_true rfl) ?_
  intro p e s m bl meth c A ls C0 hP hD hS hl
  replace C0 : mxC p s m [.ref a_k, .int v1].toArray meth c cX0_sleepsIn RX0 (some .boolean) 2 D (mxTy cI cB cZ cP cC) A := C0
  obtain ⟨hx, hb, hr, hlocks, hml, hown, hts, hK, hA⟩ := id C0
  replace hl : lv_has ls 2 [(0, .ref a_k), (1, .int v1)] := hl
  unfold wp_X0_sleepsIn at hw
  refine lv_iload_n hx hb dX0_sleepsIn_0 rfl (lv_at hl 1 rfl) ?_
  refine lv_bipush (v := 17) hx hb dX0_sleepsIn_1 (by decide) ?_
  refine lv_icmp_eq (tgt := 14) hx hb dX0_sleepsIn_3 (by decide) (fun c_1 => ?_) (fun c_1 => ?_)
  · replace hw := hw.1 c_1
    refine lv_iconst (v := 1) hx hb dX0_sleepsIn_14 (by decide) ?_
    refine lv_goto (tgt := 19) hx hb dX0_sleepsIn_15 (by decide) ?_
    exact mx_iret () hx hb hr hlocks rfl hw hK hP hD hS dX0_sleepsIn_19
  · replace hw := hw.2 c_1
    refine lv_aload_n hx hb dX0_sleepsIn_6 rfl (lv_at hl 0 rfl) ?_
    refine lv_iload_n hx hb dX0_sleepsIn_7 rfl (lv_at hl 1 rfl) ?_
    refine mx_ki (mx_rBear (x := ⟨"PramState$Twin", "sleepsIn", "(I)Z"⟩) (rm := rm_X6_sleepsIn) (rest := []) (C := RX0) hx hb hml hown hts (c_X6_sleepsIn l D cI cB cZ cP cC a_k v1 _ _ hw) q_974 q_975 q_580 q_584 q_550 q_14 q_548 rfl hds_X6_sleepsIn ⟨(Nat.le_of_ble_eq_true rfl), (Nat.le_of_ble_eq_true rfl)⟩ rfl rfl hK hP hD [] rfl rfl 0 0 rfl rfl rfl rfl hl.1 rfl (Nat.le_of_ble_eq_true rfl) dX0_sleepsIn_8 ⟨(Nat.le_of_ble_eq_true rfl), (Nat.le_of_ble_eq_true rfl)⟩) hP hD hS hA [] [0] [0] (fun _ => ww_X0_sleepsIn a_k cI cB cZ cP cC) rfl rfl rfl (by decide) rfl (fun _ => rfl) (fun r_2 u H locs hw hP hD hS => ?_)
    try dsimp only at hw
    replace hP : va_P D vwCl (ww_X0_sleepsIn a_k cI cB cZ cP cC) H := hP
    replace hD : va_D A (ww_X0_sleepsIn a_k cI cB cZ cP cC) := hD
    refine lv_if_eq (tgt := 18) hx hb dX0_sleepsIn_11 (by decide) (fun c_3 => ?_) (fun c_3 => ?_)
    · replace hw := hw.1 c_3
      refine lv_iconst (v := 0) hx hb dX0_sleepsIn_18 (by decide) ?_
      exact mx_iret () hx hb hr hlocks rfl hw hK hP hD hS dX0_sleepsIn_19
    · replace hw := hw.2 c_3
      refine lv_iconst (v := 1) hx hb dX0_sleepsIn_14 (by decide) ?_
      refine lv_goto (tgt := 19) hx hb dX0_sleepsIn_15 (by decide) ?_
      exact mx_iret () hx hb hr hlocks rfl hw hK hP hD hS dX0_sleepsIn_19
/-! PramState$Twin.criesAwake(I)I -/
abbrev ww_X8_criesAwakeB (a_k : Nat) (cI cB cZ cP cC : ClassId)  : va_W := [(a_k, .inr (0, []))]
abbrev qq_X8_criesAwakeB (D : va_G) (a_k : Nat) (cI cB cZ cP cC : ClassId)  (Post : Int32 → Prop) (A : Nat → Prop) : Array Value → State → Outcome → State → Prop := va_Qi (fun (r : Int32) (u : Unit) => Post r) (fun (u : Unit) t => mxB D (mxTy cI cB cZ cP cC) A (ww_X8_criesAwakeB a_k cI cB cZ cP cC) t) A
abbrev rm_X8_criesAwakeB : Room := { frames := 1, cells := 0, slots := 0, locals := 21 }
theorem hd_X8_criesAwakeB : yX8_criesAwake.cls = RX8 ∧ yX8_criesAwake.cls ≠ "java/lang/invoke/MethodHandle" ∧ yX8_criesAwake.cls ≠ "java/lang/invoke/VarHandle" ∧ (parseMethodDescriptor yX8_criesAwake.desc).map (fun d => d.parameters.length) = some 1 := by decide +kernel
theorem hds_X8_criesAwakeB : yX8_criesAwake.name ≠ "<init>" ∧ (parseMethodDescriptor yX8_criesAwake.desc).map (fun d => d.parameters.length) = some 1 := by decide +kernel
theorem hdu_X8_criesAwakeB : yX8_criesAwake.cls ≠ "java/lang/invoke/MethodHandle" ∧ yX8_criesAwake.cls ≠ "java/lang/invoke/VarHandle" ∧ (parseMethodDescriptor yX8_criesAwake.desc).map (fun d => d.parameters.length) = some 1 := by decide +kernel
def wp_X8_criesAwakeB (v1 : Int32) (Post : Int32 → Prop) : Prop :=
  (wp_X6_criesAwake v1 (fun r_1 => Post (2 * r_1)))
set_option maxHeartbeats 4000000 in
set_option maxRecDepth 100000 in
theorem c_X8_criesAwakeB (l : Launch) (D : va_G) (cI cB cZ cP cC : ClassId) (a_k : Nat)  (v1 : Int32) (sz : Nat) (Post : Int32 → Prop) (hw : wp_X8_criesAwakeB v1 Post) :
    Met l yX8_criesAwake (Cond.code yX8_criesAwake cX8_criesAwake 2 (some .int) :: wsAll) rm_X8_criesAwakeB (va_Pc [.ref a_k, .int v1] (mxP D (mxTy cI cB cZ cP cC) sz (ww_X8_criesAwakeB a_k cI cB cZ cP cC))) (qq_X8_criesAwakeB D a_k cI cB cZ cP cC Post (va_A (ww_X8_criesAwakeB a_k cI cB cZ cP cC) sz)) 0 0 (va_A (ww_X8_criesAwakeB a_k cI cB cZ cP cC) sz) := by
  refine mx_of (Qc := qq_X8_criesAwakeB D a_k cI cB cZ cP cC Post) (by decide) (Nat.le_of_ble_eq_true rfl) ?_
  intro p e s m bl meth c A ls C0 hP hD hS hl
  replace C0 : mxC p s m [.ref a_k, .int v1].toArray meth c cX8_criesAwake RX8 (some .int) 2 D (mxTy cI cB cZ cP cC) A := C0
  obtain ⟨hx, hb, hr, hlocks, hml, hown, hts, hK, hA⟩ := id C0
  replace hl : lv_has ls 2 [(0, .ref a_k), (1, .int v1)] := hl
  unfold wp_X8_criesAwakeB at hw
  refine lv_iconst (v := 2) hx hb dX8_criesAwake_0 (by decide) ?_
  refine lv_aload_n hx hb dX8_criesAwake_1 rfl (lv_at hl 0 rfl) ?_
  refine lv_iload_n hx hb dX8_criesAwake_2 rfl (lv_at hl 1 rfl) ?_
  refine mx_ki (mx_rSU (rm := rm_X6_criesAwake) (rest := [.int 2]) (C := RX0) hx hb hml hown hts (c_X6_criesAwake l D cI cB cZ cP cC a_k v1 _ _ hw) q_583 q_573 q_584 q_585 q_14 q_586 hds_X6_criesAwake ⟨(Nat.le_of_ble_eq_true rfl), (Nat.le_of_ble_eq_true rfl)⟩ rfl rfl hK hP hD [] rfl rfl 0 0 rfl rfl rfl rfl hl.1 rfl (Nat.le_of_ble_eq_true rfl) dX8_criesAwake_3 ⟨(Nat.le_of_ble_eq_true rfl), (Nat.le_of_ble_eq_true rfl)⟩) hP hD hS hA [] [0] [0] (fun _ => ww_X8_criesAwakeB a_k cI cB cZ cP cC) rfl rfl rfl (by decide) rfl (fun _ => rfl) (fun r_1 u H locs hw hP hD hS => ?_)
  try dsimp only at hw
  replace hP : va_P D vwCl (ww_X8_criesAwakeB a_k cI cB cZ cP cC) H := hP
  replace hD : va_D A (ww_X8_criesAwakeB a_k cI cB cZ cP cC) := hD
  refine lv_imul hx hb dX8_criesAwake_6 ?_
  exact mx_iret () hx hb hr hlocks rfl hw hK hP hD hS dX8_criesAwake_7
/-! PramState$Bear.criesAwake(I)I -/
abbrev ww_X0_criesAwake (a_k : Nat) (cI cB cZ cP cC : ClassId)  : va_W := [(a_k, .inr (0, []))]
abbrev qq_X0_criesAwake (D : va_G) (a_k : Nat) (cI cB cZ cP cC : ClassId)  (Post : Int32 → Prop) (A : Nat → Prop) : Array Value → State → Outcome → State → Prop := va_Qi (fun (r : Int32) (u : Unit) => Post r) (fun (u : Unit) t => mxB D (mxTy cI cB cZ cP cC) A (ww_X0_criesAwake a_k cI cB cZ cP cC) t) A
abbrev rm_X0_criesAwake : Room := { frames := 2, cells := 0, slots := 0, locals := 42 }
theorem hd_X0_criesAwake : yX0_criesAwake.cls = RX0 ∧ yX0_criesAwake.cls ≠ "java/lang/invoke/MethodHandle" ∧ yX0_criesAwake.cls ≠ "java/lang/invoke/VarHandle" ∧ (parseMethodDescriptor yX0_criesAwake.desc).map (fun d => d.parameters.length) = some 1 := by decide +kernel
theorem hds_X0_criesAwake : yX0_criesAwake.name ≠ "<init>" ∧ (parseMethodDescriptor yX0_criesAwake.desc).map (fun d => d.parameters.length) = some 1 := by decide +kernel
theorem hdu_X0_criesAwake : yX0_criesAwake.cls ≠ "java/lang/invoke/MethodHandle" ∧ yX0_criesAwake.cls ≠ "java/lang/invoke/VarHandle" ∧ (parseMethodDescriptor yX0_criesAwake.desc).map (fun d => d.parameters.length) = some 1 := by decide +kernel
def wp_X0_criesAwake (v1 : Int32) (Post : Int32 → Prop) : Prop :=
  (wp_X8_criesAwakeB v1 (fun r_1 => Post (r_1 - 1)))
set_option maxHeartbeats 4000000 in
set_option maxRecDepth 100000 in
theorem c_X0_criesAwake (l : Launch) (D : va_G) (cI cB cZ cP cC : ClassId) (a_k : Nat)  (v1 : Int32) (sz : Nat) (Post : Int32 → Prop) (hw : wp_X0_criesAwake v1 Post) :
    Met l yX0_criesAwake (Cond.code yX0_criesAwake cX0_criesAwake 2 (some .int) :: wsAll) rm_X0_criesAwake (va_Pc [.ref a_k, .int v1] (mxP D (mxTy cI cB cZ cP cC) sz (ww_X0_criesAwake a_k cI cB cZ cP cC))) (qq_X0_criesAwake D a_k cI cB cZ cP cC Post (va_A (ww_X0_criesAwake a_k cI cB cZ cP cC) sz)) 0 0 (va_A (ww_X0_criesAwake a_k cI cB cZ cP cC) sz) := by
  refine mx_of (Qc := qq_X0_criesAwake D a_k cI cB cZ cP cC Post) (by decide) (Nat.le_of_ble_eq_true rfl) ?_
  intro p e s m bl meth c A ls C0 hP hD hS hl
  replace C0 : mxC p s m [.ref a_k, .int v1].toArray meth c cX0_criesAwake RX0 (some .int) 2 D (mxTy cI cB cZ cP cC) A := C0
  obtain ⟨hx, hb, hr, hlocks, hml, hown, hts, hK, hA⟩ := id C0
  replace hl : lv_has ls 2 [(0, .ref a_k), (1, .int v1)] := hl
  unfold wp_X0_criesAwake at hw
  refine lv_aload_n hx hb dX0_criesAwake_0 rfl (lv_at hl 0 rfl) ?_
  refine lv_iload_n hx hb dX0_criesAwake_1 rfl (lv_at hl 1 rfl) ?_
  refine mx_ki (mx_rSU (rm := rm_X8_criesAwakeB) (rest := []) (C := RX0) hx hb hml hown hts (c_X8_criesAwakeB l D cI cB cZ cP cC a_k v1 _ _ hw) q_578 q_579 q_580 q_581 q_17 q_582 hds_X8_criesAwakeB ⟨(Nat.le_of_ble_eq_true rfl), (Nat.le_of_ble_eq_true rfl)⟩ rfl rfl hK hP hD [0] rfl rfl 0 0 rfl rfl rfl rfl hl.1 rfl (Nat.le_of_ble_eq_true rfl) dX0_criesAwake_2 ⟨(Nat.le_of_ble_eq_true rfl), (Nat.le_of_ble_eq_true rfl)⟩) hP hD hS hA [0] [] [0] (fun _ => ww_X0_criesAwake a_k cI cB cZ cP cC) rfl rfl rfl (by decide) rfl (fun _ => rfl) (fun r_1 u H locs hw hP hD hS => ?_)
  try dsimp only at hw
  replace hP : va_P D vwCl (ww_X0_criesAwake a_k cI cB cZ cP cC) H := hP
  replace hD : va_D A (ww_X0_criesAwake a_k cI cB cZ cP cC) := hD
  refine lv_iconst (v := 1) hx hb dX0_criesAwake_5 (by decide) ?_
  refine lv_isub hx hb dX0_criesAwake_6 ?_
  exact mx_iret () hx hb hr hlocks rfl hw hK hP hD hS dX0_criesAwake_7
def wpv_sleepsIn (k : Nat) (v1 : Int32) (Post : Int32 → Prop) : Prop := (k = 0 → wp_X6_sleepsIn v1 Post) ∧ (k = 1 → wp_X6_sleepsIn v1 Post) ∧ (k = 2 → wp_X7_sleepsIn v1 Post) ∧ (k = 3 → wp_X6_sleepsIn v1 Post) ∧ (k = 4 → wp_X4_sleepsIn v1 Post) ∧ (k = 5 → wp_X0_sleepsIn v1 Post)
def wpv_criesAwake (k : Nat) (v1 : Int32) (Post : Int32 → Prop) : Prop := (k = 0 → wp_X6_criesAwake v1 Post) ∧ (k = 1 → wp_X8_criesAwake v1 Post) ∧ (k = 2 → wp_X7_criesAwake v1 Post) ∧ (k = 3 → wp_X6_criesAwake v1 Post) ∧ (k = 4 → wp_X6_criesAwake v1 Post) ∧ (k = 5 → wp_X0_criesAwake v1 Post)
def wpv_walksWith (k : Nat) (Post : Int32 → Prop) : Prop := (k = 0 → wp_X6_walksWith Post) ∧ (k = 1 → wp_X6_walksWith Post) ∧ (k = 2 → wp_X6_walksWith Post) ∧ (k = 3 → wp_X3_walksWith Post) ∧ (k = 4 → wp_X4_walksWith Post) ∧ (k = 5 → wp_X6_walksWith Post)
