/-! PramState$Court.begin()V -/
abbrev ww_X1_begin (a_c a_c_kind a_c_months a_c_home a_c_nurse a_c_skills a_c_noteRow a_c_soundRow a_c_pastRow a_K : Nat) (cI cB cZ cP cC : ClassId) (infants : Int32) (retired : Int32) (month : Int32) (notes : Int32) (sounds : Int32) (pasts : Int32) (skills : Nat → Int32) : va_W := [(a_c, .inr (1, [.ref a_K, .ref a_c_kind, .ref a_c_months, .ref a_c_home, .ref a_c_nurse, .ref a_c_skills, .ref a_c_noteRow, .ref a_c_soundRow, .ref a_c_pastRow, .int infants, .int retired, .int month, .int notes, .int sounds, .int pasts])), (a_c_skills, .inl (cI, 6, .inl skills))]
abbrev qq_X1_begin (D : va_G) (a_c a_c_kind a_c_months a_c_home a_c_nurse a_c_skills a_c_noteRow a_c_soundRow a_c_pastRow a_K : Nat) (cI cB cZ cP cC : ClassId)  (Post : Int32 → Int32 → Int32 → Int32 → Int32 → Int32 → (Nat → Int32) → Prop) (A : Nat → Prop) : Array Value → State → Outcome → State → Prop := va_Qv (fun (u : Int32 × Int32 × Int32 × Int32 × Int32 × Int32 × (Nat → Int32)) => Post u.1 u.2.1 u.2.2.1 u.2.2.2.1 u.2.2.2.2.1 u.2.2.2.2.2.1 u.2.2.2.2.2.2) (fun (u : Int32 × Int32 × Int32 × Int32 × Int32 × Int32 × (Nat → Int32)) t => mxB D (mxTy cI cB cZ cP cC) A (ww_X1_begin a_c a_c_kind a_c_months a_c_home a_c_nurse a_c_skills a_c_noteRow a_c_soundRow a_c_pastRow a_K cI cB cZ cP cC (u.1) (u.2.1) (u.2.2.1) (u.2.2.2.1) (u.2.2.2.2.1) (u.2.2.2.2.2.1) (u.2.2.2.2.2.2)) t) A
abbrev rm_X1_begin : Room := { frames := 1, cells := 0, slots := 0, locals := 23 }
theorem hd_X1_begin : yX1_begin.cls = RX1 ∧ yX1_begin.cls ≠ "java/lang/invoke/MethodHandle" ∧ yX1_begin.cls ≠ "java/lang/invoke/VarHandle" ∧ (parseMethodDescriptor yX1_begin.desc).map (fun d => d.parameters.length) = some 0 := by decide +kernel
def wp_X1_begin (infants : Int32) (retired : Int32) (month : Int32) (notes : Int32) (sounds : Int32) (pasts : Int32) (skills : Nat → Int32) (Post : Int32 → Int32 → Int32 → Int32 → Int32 → Int32 → (Nat → Int32) → Prop) : Prop :=
  (wp_J7_fill_53178 6 skills 0 (fun skills_1 => Post 0 0 0 0 0 0 skills_1))
set_option maxHeartbeats 4000000 in
set_option maxRecDepth 100000 in
theorem c_X1_begin (l : Launch) (D : va_G) (cI cB cZ cP cC : ClassId) (a_c a_c_kind a_c_months a_c_home a_c_nurse a_c_skills a_c_noteRow a_c_soundRow a_c_pastRow a_K : Nat) (infants : Int32) (retired : Int32) (month : Int32) (notes : Int32) (sounds : Int32) (pasts : Int32) (skills : Nat → Int32)  (sz : Nat) (Post : Int32 → Int32 → Int32 → Int32 → Int32 → Int32 → (Nat → Int32) → Prop) (hw : wp_X1_begin infants retired month notes sounds pasts skills Post) :
    Met l yX1_begin (Cond.code yX1_begin cX1_begin 1 none :: wsAll) rm_X1_begin (va_Pc [.ref a_c] (mxP D (mxTy cI cB cZ cP cC) sz (ww_X1_begin a_c a_c_kind a_c_months a_c_home a_c_nurse a_c_skills a_c_noteRow a_c_soundRow a_c_pastRow a_K cI cB cZ cP cC infants retired month notes sounds pasts skills))) (qq_X1_begin D a_c a_c_kind a_c_months a_c_home a_c_nurse a_c_skills a_c_noteRow a_c_soundRow a_c_pastRow a_K cI cB cZ cP cC Post (va_A (ww_X1_begin a_c a_c_kind a_c_months a_c_home a_c_nurse a_c_skills a_c_noteRow a_c_soundRow a_c_pastRow a_K cI cB cZ cP cC infants retired month notes sounds pasts skills) sz)) 0 0 (va_A (ww_X1_begin a_c a_c_kind a_c_months a_c_home a_c_nurse a_c_skills a_c_noteRow a_c_soundRow a_c_pastRow a_K cI cB cZ cP cC infants retired month notes sounds pasts skills) sz) := by
  refine mx_of (Qc := qq_X1_begin D a_c a_c_kind a_c_months a_c_home a_c_nurse a_c_skills a_c_noteRow a_c_soundRow a_c_pastRow a_K cI cB cZ cP cC Post) (by decide) (Nat.le_of_ble_eq_true rfl) ?_
  intro p e s m bl meth c A ls C0 hP hD hS hl
  replace C0 : mxC p s m [.ref a_c].toArray meth c cX1_begin RX1 none 1 D (mxTy cI cB cZ cP cC) A := C0
  obtain ⟨hx, hb, hr, hlocks, hml, hown, hts, hK, hA⟩ := id C0
  replace hl : lv_has ls 1 [(0, .ref a_c)] := hl
  unfold wp_X1_begin at hw
  refine lv_aload_n hx hb dX1_begin_0 rfl (lv_at hl 0 rfl) ?_
  refine lv_iconst (v := 0) hx hb dX1_begin_1 (by decide) ?_
  refine mx_put (ci := 1) (C := RX1) (T := TX1) (N := 15) hx hb hown in_wsX10 tyX1 tyX1_ok nmX1 hts hK hP hD hS 0 rfl rfl 9 (by decide) q_118 rfl rfl rfl rfl (Nat.le_of_ble_eq_true rfl) (ww_X1_begin a_c a_c_kind a_c_months a_c_home a_c_nurse a_c_skills a_c_noteRow a_c_soundRow a_c_pastRow a_K cI cB cZ cP cC 0 retired month notes sounds pasts skills) rfl dX1_begin_2 (fun H locs hP hD hS => ?_)
  refine lv_aload_n hx hb dX1_begin_5 rfl (lv_at hl 0 rfl) ?_
  refine lv_iconst (v := 0) hx hb dX1_begin_6 (by decide) ?_
  refine mx_put (ci := 1) (C := RX1) (T := TX1) (N := 15) hx hb hown in_wsX10 tyX1 tyX1_ok nmX1 hts hK hP hD hS 0 rfl rfl 10 (by decide) q_119 rfl rfl rfl rfl (Nat.le_of_ble_eq_true rfl) (ww_X1_begin a_c a_c_kind a_c_months a_c_home a_c_nurse a_c_skills a_c_noteRow a_c_soundRow a_c_pastRow a_K cI cB cZ cP cC 0 0 month notes sounds pasts skills) rfl dX1_begin_7 (fun H locs hP hD hS => ?_)
  refine lv_aload_n hx hb dX1_begin_10 rfl (lv_at hl 0 rfl) ?_
  refine lv_iconst (v := 0) hx hb dX1_begin_11 (by decide) ?_
  refine mx_put (ci := 1) (C := RX1) (T := TX1) (N := 15) hx hb hown in_wsX10 tyX1 tyX1_ok nmX1 hts hK hP hD hS 0 rfl rfl 11 (by decide) q_120 rfl rfl rfl rfl (Nat.le_of_ble_eq_true rfl) (ww_X1_begin a_c a_c_kind a_c_months a_c_home a_c_nurse a_c_skills a_c_noteRow a_c_soundRow a_c_pastRow a_K cI cB cZ cP cC 0 0 0 notes sounds pasts skills) rfl dX1_begin_12 (fun H locs hP hD hS => ?_)
  refine lv_aload_n hx hb dX1_begin_15 rfl (lv_at hl 0 rfl) ?_
  refine lv_iconst (v := 0) hx hb dX1_begin_16 (by decide) ?_
  refine mx_put (ci := 1) (C := RX1) (T := TX1) (N := 15) hx hb hown in_wsX10 tyX1 tyX1_ok nmX1 hts hK hP hD hS 0 rfl rfl 12 (by decide) q_121 rfl rfl rfl rfl (Nat.le_of_ble_eq_true rfl) (ww_X1_begin a_c a_c_kind a_c_months a_c_home a_c_nurse a_c_skills a_c_noteRow a_c_soundRow a_c_pastRow a_K cI cB cZ cP cC 0 0 0 0 sounds pasts skills) rfl dX1_begin_17 (fun H locs hP hD hS => ?_)
  refine lv_aload_n hx hb dX1_begin_20 rfl (lv_at hl 0 rfl) ?_
  refine lv_iconst (v := 0) hx hb dX1_begin_21 (by decide) ?_
  refine mx_put (ci := 1) (C := RX1) (T := TX1) (N := 15) hx hb hown in_wsX10 tyX1 tyX1_ok nmX1 hts hK hP hD hS 0 rfl rfl 13 (by decide) q_122 rfl rfl rfl rfl (Nat.le_of_ble_eq_true rfl) (ww_X1_begin a_c a_c_kind a_c_months a_c_home a_c_nurse a_c_skills a_c_noteRow a_c_soundRow a_c_pastRow a_K cI cB cZ cP cC 0 0 0 0 0 pasts skills) rfl dX1_begin_22 (fun H locs hP hD hS => ?_)
  refine lv_aload_n hx hb dX1_begin_25 rfl (lv_at hl 0 rfl) ?_
  refine lv_iconst (v := 0) hx hb dX1_begin_26 (by decide) ?_
  refine mx_put (ci := 1) (C := RX1) (T := TX1) (N := 15) hx hb hown in_wsX10 tyX1 tyX1_ok nmX1 hts hK hP hD hS 0 rfl rfl 14 (by decide) q_123 rfl rfl rfl rfl (Nat.le_of_ble_eq_true rfl) (ww_X1_begin a_c a_c_kind a_c_months a_c_home a_c_nurse a_c_skills a_c_noteRow a_c_soundRow a_c_pastRow a_K cI cB cZ cP cC 0 0 0 0 0 0 skills) rfl dX1_begin_27 (fun H locs hP hD hS => ?_)
  refine lv_aload_n hx hb dX1_begin_30 rfl (lv_at hl 0 rfl) ?_
  refine mx_get (ci := 1) (C := RX1) (T := TX1) (N := 15) hx hb hown in_wsX10 hts hK hP 0 rfl rfl 5 (by decide) q_69 rfl (v := .ref a_c_skills) rfl dX1_begin_31 ?_
  refine lv_iconst (v := 0) hx hb dX1_begin_34 (by decide) ?_
  refine mx_kv (mx_rS (rm := rm_J7_fill_53178) (rest := []) hx hb hml hown hts (c_J7_fill_53178 l D cI cB cZ cP cC a_c_skills 6 skills 0 _ _ hw) q_124 q_125 q_126 q_127 hd_J7_fill_53178 ⟨(Nat.le_of_ble_eq_true rfl), (Nat.le_of_ble_eq_true rfl)⟩ rfl rfl hK hP hD [1] rfl rfl rfl hl.1 rfl (Nat.le_of_ble_eq_true rfl) dX1_begin_35 ⟨(Nat.le_of_ble_eq_true rfl), (Nat.le_of_ble_eq_true rfl)⟩) hP hD hS hA [1] [0] [0, 1] (fun u => ww_X1_begin a_c a_c_kind a_c_months a_c_home a_c_nurse a_c_skills a_c_noteRow a_c_soundRow a_c_pastRow a_K cI cB cZ cP cC 0 0 0 0 0 0 u) rfl rfl rfl (by decide) rfl (fun _ => rfl) (fun skills_1 H locs hw hP hD hS => ?_)
  try dsimp only at hw
  replace hP : va_P D vwCl (ww_X1_begin a_c a_c_kind a_c_months a_c_home a_c_nurse a_c_skills a_c_noteRow a_c_soundRow a_c_pastRow a_K cI cB cZ cP cC 0 0 0 0 0 0 skills_1) H := hP
  replace hD : va_D A (ww_X1_begin a_c a_c_kind a_c_months a_c_home a_c_nurse a_c_skills a_c_noteRow a_c_soundRow a_c_pastRow a_K cI cB cZ cP cC 0 0 0 0 0 0 skills_1) := hD
  exact mx_vret (0, 0, 0, 0, 0, 0, skills_1) hx hb hr hlocks hw hK hP hD hS dX1_begin_38
/-! PramState$Court.copyFrom(LPramState$Court;)V -/
abbrev ww_X1_copyFrom (a_c a_c_kind a_c_months a_c_home a_c_nurse a_c_skills a_c_noteRow a_c_soundRow a_c_pastRow a_K a_o a_o_kind a_o_months a_o_home a_o_nurse a_o_skills a_o_noteRow a_o_soundRow a_o_pastRow : Nat) (cI cB cZ cP cC : ClassId) (infants : Int32) (retired : Int32) (month : Int32) (notes : Int32) (sounds : Int32) (pasts : Int32) (kind : Nat → Int32) (months : Nat → Int32) (home : Nat → Int32) (nurse : Nat → Int32) (skills : Nat → Int32) (noteRow : Nat → Int32) (soundRow : Nat → Int32) (pastRow : Nat → Int32) (o_infants : Int32) (o_retired : Int32) (o_month : Int32) (o_notes : Int32) (o_sounds : Int32) (o_pasts : Int32) (o_kind : Nat → Int32) (o_months : Nat → Int32) (o_home : Nat → Int32) (o_nurse : Nat → Int32) (o_skills : Nat → Int32) (o_noteRow : Nat → Int32) (o_soundRow : Nat → Int32) (o_pastRow : Nat → Int32) : va_W := [(a_c, .inr (1, [.ref a_K, .ref a_c_kind, .ref a_c_months, .ref a_c_home, .ref a_c_nurse, .ref a_c_skills, .ref a_c_noteRow, .ref a_c_soundRow, .ref a_c_pastRow, .int infants, .int retired, .int month, .int notes, .int sounds, .int pasts])), (a_c_kind, .inl (cI, 6, .inl kind)), (a_c_months, .inl (cI, 6, .inl months)), (a_c_home, .inl (cI, 6, .inl home)), (a_c_nurse, .inl (cI, 6, .inl nurse)), (a_c_skills, .inl (cI, 6, .inl skills)), (a_c_noteRow, .inl (cI, 30, .inl noteRow)), (a_c_soundRow, .inl (cI, 12, .inl soundRow)), (a_c_pastRow, .inl (cI, 112, .inl pastRow)), (a_o, .inr (1, [.ref a_K, .ref a_o_kind, .ref a_o_months, .ref a_o_home, .ref a_o_nurse, .ref a_o_skills, .ref a_o_noteRow, .ref a_o_soundRow, .ref a_o_pastRow, .int o_infants, .int o_retired, .int o_month, .int o_notes, .int o_sounds, .int o_pasts])), (a_o_kind, .inl (cI, 6, .inl o_kind)), (a_o_months, .inl (cI, 6, .inl o_months)), (a_o_home, .inl (cI, 6, .inl o_home)), (a_o_nurse, .inl (cI, 6, .inl o_nurse)), (a_o_skills, .inl (cI, 6, .inl o_skills)), (a_o_noteRow, .inl (cI, 30, .inl o_noteRow)), (a_o_soundRow, .inl (cI, 12, .inl o_soundRow)), (a_o_pastRow, .inl (cI, 112, .inl o_pastRow))]
abbrev qq_X1_copyFrom (D : va_G) (a_c a_c_kind a_c_months a_c_home a_c_nurse a_c_skills a_c_noteRow a_c_soundRow a_c_pastRow a_K a_o a_o_kind a_o_months a_o_home a_o_nurse a_o_skills a_o_noteRow a_o_soundRow a_o_pastRow : Nat) (cI cB cZ cP cC : ClassId) (o_infants : Int32) (o_retired : Int32) (o_month : Int32) (o_notes : Int32) (o_sounds : Int32) (o_pasts : Int32) (o_kind : Nat → Int32) (o_months : Nat → Int32) (o_home : Nat → Int32) (o_nurse : Nat → Int32) (o_skills : Nat → Int32) (o_noteRow : Nat → Int32) (o_soundRow : Nat → Int32) (o_pastRow : Nat → Int32) (Post : Int32 → Int32 → Int32 → Int32 → Int32 → Int32 → (Nat → Int32) → (Nat → Int32) → (Nat → Int32) → (Nat → Int32) → (Nat → Int32) → (Nat → Int32) → (Nat → Int32) → (Nat → Int32) → Prop) (A : Nat → Prop) : Array Value → State → Outcome → State → Prop := va_Qv (fun (u : Int32 × Int32 × Int32 × Int32 × Int32 × Int32 × (Nat → Int32) × (Nat → Int32) × (Nat → Int32) × (Nat → Int32) × (Nat → Int32) × (Nat → Int32) × (Nat → Int32) × (Nat → Int32)) => Post u.1 u.2.1 u.2.2.1 u.2.2.2.1 u.2.2.2.2.1 u.2.2.2.2.2.1 u.2.2.2.2.2.2.1 u.2.2.2.2.2.2.2.1 u.2.2.2.2.2.2.2.2.1 u.2.2.2.2.2.2.2.2.2.1 u.2.2.2.2.2.2.2.2.2.2.1 u.2.2.2.2.2.2.2.2.2.2.2.1 u.2.2.2.2.2.2.2.2.2.2.2.2.1 u.2.2.2.2.2.2.2.2.2.2.2.2.2) (fun (u : Int32 × Int32 × Int32 × Int32 × Int32 × Int32 × (Nat → Int32) × (Nat → Int32) × (Nat → Int32) × (Nat → Int32) × (Nat → Int32) × (Nat → Int32) × (Nat → Int32) × (Nat → Int32)) t => mxB D (mxTy cI cB cZ cP cC) A (ww_X1_copyFrom a_c a_c_kind a_c_months a_c_home a_c_nurse a_c_skills a_c_noteRow a_c_soundRow a_c_pastRow a_K a_o a_o_kind a_o_months a_o_home a_o_nurse a_o_skills a_o_noteRow a_o_soundRow a_o_pastRow cI cB cZ cP cC (u.1) (u.2.1) (u.2.2.1) (u.2.2.2.1) (u.2.2.2.2.1) (u.2.2.2.2.2.1) (u.2.2.2.2.2.2.1) (u.2.2.2.2.2.2.2.1) (u.2.2.2.2.2.2.2.2.1) (u.2.2.2.2.2.2.2.2.2.1) (u.2.2.2.2.2.2.2.2.2.2.1) (u.2.2.2.2.2.2.2.2.2.2.2.1) (u.2.2.2.2.2.2.2.2.2.2.2.2.1) (u.2.2.2.2.2.2.2.2.2.2.2.2.2) o_infants o_retired o_month o_notes o_sounds o_pasts o_kind o_months o_home o_nurse o_skills o_noteRow o_soundRow o_pastRow) t) A
abbrev rm_X1_copyFrom : Room := { frames := 1, cells := 0, slots := 0, locals := 60 }
theorem hd_X1_copyFrom : yX1_copyFrom.cls = RX1 ∧ yX1_copyFrom.cls ≠ "java/lang/invoke/MethodHandle" ∧ yX1_copyFrom.cls ≠ "java/lang/invoke/VarHandle" ∧ (parseMethodDescriptor yX1_copyFrom.desc).map (fun d => d.parameters.length) = some 1 := by decide +kernel
def wp_X1_copyFrom (o_infants : Int32) (o_retired : Int32) (o_month : Int32) (o_notes : Int32) (o_sounds : Int32) (o_pasts : Int32) (o_kind : Nat → Int32) (o_months : Nat → Int32) (o_home : Nat → Int32) (o_nurse : Nat → Int32) (o_skills : Nat → Int32) (o_noteRow : Nat → Int32) (o_soundRow : Nat → Int32) (o_pastRow : Nat → Int32) (infants : Int32) (retired : Int32) (month : Int32) (notes : Int32) (sounds : Int32) (pasts : Int32) (kind : Nat → Int32) (months : Nat → Int32) (home : Nat → Int32) (nurse : Nat → Int32) (skills : Nat → Int32) (noteRow : Nat → Int32) (soundRow : Nat → Int32) (pastRow : Nat → Int32) (Post : Int32 → Int32 → Int32 → Int32 → Int32 → Int32 → (Nat → Int32) → (Nat → Int32) → (Nat → Int32) → (Nat → Int32) → (Nat → Int32) → (Nat → Int32) → (Nat → Int32) → (Nat → Int32) → Prop) : Prop :=
  (∀ f_1 : Nat → Int32, f_1 = va_cpy o_kind kind 0 0 6 → (∀ f_2 : Nat → Int32, f_2 = va_cpy o_months months 0 0 6 → (∀ f_3 : Nat → Int32, f_3 = va_cpy o_home home 0 0 6 → (∀ f_4 : Nat → Int32, f_4 = va_cpy o_nurse nurse 0 0 6 → (∀ f_5 : Nat → Int32, f_5 = va_cpy o_skills skills 0 0 6 → (∀ f_6 : Nat → Int32, f_6 = va_cpy o_noteRow noteRow 0 0 30 → (∀ f_7 : Nat → Int32, f_7 = va_cpy o_soundRow soundRow 0 0 12 → (∀ f_8 : Nat → Int32, f_8 = va_cpy o_pastRow pastRow 0 0 112 → Post o_infants o_retired o_month o_notes o_sounds o_pasts f_1 f_2 f_3 f_4 f_5 f_6 f_7 f_8))))))))
set_option maxHeartbeats 4000000 in
set_option maxRecDepth 100000 in
theorem c_X1_copyFrom (l : Launch) (D : va_G) (cI cB cZ cP cC : ClassId) (a_c a_c_kind a_c_months a_c_home a_c_nurse a_c_skills a_c_noteRow a_c_soundRow a_c_pastRow a_K a_o a_o_kind a_o_months a_o_home a_o_nurse a_o_skills a_o_noteRow a_o_soundRow a_o_pastRow : Nat) (infants : Int32) (retired : Int32) (month : Int32) (notes : Int32) (sounds : Int32) (pasts : Int32) (kind : Nat → Int32) (months : Nat → Int32) (home : Nat → Int32) (nurse : Nat → Int32) (skills : Nat → Int32) (noteRow : Nat → Int32) (soundRow : Nat → Int32) (pastRow : Nat → Int32) (o_infants : Int32) (o_retired : Int32) (o_month : Int32) (o_notes : Int32) (o_sounds : Int32) (o_pasts : Int32) (o_kind : Nat → Int32) (o_months : Nat → Int32) (o_home : Nat → Int32) (o_nurse : Nat → Int32) (o_skills : Nat → Int32) (o_noteRow : Nat → Int32) (o_soundRow : Nat → Int32) (o_pastRow : Nat → Int32)  (sz : Nat) (Post : Int32 → Int32 → Int32 → Int32 → Int32 → Int32 → (Nat → Int32) → (Nat → Int32) → (Nat → Int32) → (Nat → Int32) → (Nat → Int32) → (Nat → Int32) → (Nat → Int32) → (Nat → Int32) → Prop) (hw : wp_X1_copyFrom o_infants o_retired o_month o_notes o_sounds o_pasts o_kind o_months o_home o_nurse o_skills o_noteRow o_soundRow o_pastRow infants retired month notes sounds pasts kind months home nurse skills noteRow soundRow pastRow Post) :
    Met l yX1_copyFrom (Cond.code yX1_copyFrom cX1_copyFrom 2 none :: wsAll) rm_X1_copyFrom (va_Pc [.ref a_c, .ref a_o] (mxP D (mxTy cI cB cZ cP cC) sz (ww_X1_copyFrom a_c a_c_kind a_c_months a_c_home a_c_nurse a_c_skills a_c_noteRow a_c_soundRow a_c_pastRow a_K a_o a_o_kind a_o_months a_o_home a_o_nurse a_o_skills a_o_noteRow a_o_soundRow a_o_pastRow cI cB cZ cP cC infants retired month notes sounds pasts kind months home nurse skills noteRow soundRow pastRow o_infants o_retired o_month o_notes o_sounds o_pasts o_kind o_months o_home o_nurse o_skills o_noteRow o_soundRow o_pastRow))) (qq_X1_copyFrom D a_c a_c_kind a_c_months a_c_home a_c_nurse a_c_skills a_c_noteRow a_c_soundRow a_c_pastRow a_K a_o a_o_kind a_o_months a_o_home a_o_nurse a_o_skills a_o_noteRow a_o_soundRow a_o_pastRow cI cB cZ cP cC o_infants o_retired o_month o_notes o_sounds o_pasts o_kind o_months o_home o_nurse o_skills o_noteRow o_soundRow o_pastRow Post (va_A (ww_X1_copyFrom a_c a_c_kind a_c_months a_c_home a_c_nurse a_c_skills a_c_noteRow a_c_soundRow a_c_pastRow a_K a_o a_o_kind a_o_months a_o_home a_o_nurse a_o_skills a_o_noteRow a_o_soundRow a_o_pastRow cI cB cZ cP cC infants retired month notes sounds pasts kind months home nurse skills noteRow soundRow pastRow o_infants o_retired o_month o_notes o_sounds o_pasts o_kind o_months o_home o_nurse o_skills o_noteRow o_soundRow o_pastRow) sz)) 0 0 (va_A (ww_X1_copyFrom a_c a_c_kind a_c_months a_c_home a_c_nurse a_c_skills a_c_noteRow a_c_soundRow a_c_pastRow a_K a_o a_o_kind a_o_months a_o_home a_o_nurse a_o_skills a_o_noteRow a_o_soundRow a_o_pastRow cI cB cZ cP cC infants retired month notes sounds pasts kind months home nurse skills noteRow soundRow pastRow o_infants o_retired o_month o_notes o_sounds o_pasts o_kind o_months o_home o_nurse o_skills o_noteRow o_soundRow o_pastRow) sz) := by
  refine mx_of (Qc := qq_X1_copyFrom D a_c a_c_kind a_c_months a_c_home a_c_nurse a_c_skills a_c_noteRow a_c_soundRow a_c_pastRow a_K a_o a_o_kind a_o_months a_o_home a_o_nurse a_o_skills a_o_noteRow a_o_soundRow a_o_pastRow cI cB cZ cP cC o_infants o_retired o_month o_notes o_sounds o_pasts o_kind o_months o_home o_nurse o_skills o_noteRow o_soundRow o_pastRow Post) (by decide) (Nat.le_of_ble_eq_true rfl) ?_
  intro p e s m bl meth c A ls C0 hP hD hS hl
  replace C0 : mxC p s m [.ref a_c, .ref a_o].toArray meth c cX1_copyFrom RX1 none 2 D (mxTy cI cB cZ cP cC) A := C0
  obtain ⟨hx, hb, hr, hlocks, hml, hown, hts, hK, hA⟩ := id C0
  replace hl : lv_has ls 2 [(0, .ref a_c), (1, .ref a_o)] := hl
  unfold wp_X1_copyFrom at hw
  refine lv_aload_n hx hb dX1_copyFrom_0 rfl (lv_at hl 1 rfl) ?_
  refine mx_get (ci := 1) (C := RX1) (T := TX1) (N := 15) hx hb hown in_wsX10 hts hK hP 9 rfl rfl 1 (by decide) q_65 rfl (v := .ref a_o_kind) rfl dX1_copyFrom_1 ?_
  refine lv_iconst (v := 0) hx hb dX1_copyFrom_4 (by decide) ?_
  refine lv_aload_n hx hb dX1_copyFrom_5 rfl (lv_at hl 0 rfl) ?_
  refine mx_get (ci := 1) (C := RX1) (T := TX1) (N := 15) hx hb hown in_wsX10 hts hK hP 0 rfl rfl 1 (by decide) q_65 rfl (v := .ref a_c_kind) rfl dX1_copyFrom_6 ?_
  refine lv_iconst (v := 0) hx hb dX1_copyFrom_9 (by decide) ?_
  refine lv_bipush (v := 6) hx hb dX1_copyFrom_10 (by decide) ?_
  obtain ⟨f_1, ef_1⟩ : ∃ y : Nat → Int32, y = va_cpy o_kind kind 0 0 6 := ⟨_, rfl⟩
  replace hw := hw f_1 ef_1
  refine mx_copy hx hb hml hl.1 hown hts q_329 q_330 q_331 q_332 hK hP hD hS 10 1 0 rfl rfl rfl (by decide) (by decide) (by decide) (by decide) (by decide) f_1 ef_1 (ww_X1_copyFrom a_c a_c_kind a_c_months a_c_home a_c_nurse a_c_skills a_c_noteRow a_c_soundRow a_c_pastRow a_K a_o a_o_kind a_o_months a_o_home a_o_nurse a_o_skills a_o_noteRow a_o_soundRow a_o_pastRow cI cB cZ cP cC infants retired month notes sounds pasts f_1 months home nurse skills noteRow soundRow pastRow o_infants o_retired o_month o_notes o_sounds o_pasts o_kind o_months o_home o_nurse o_skills o_noteRow o_soundRow o_pastRow) rfl (Nat.le_of_ble_eq_true rfl) (Nat.le_of_ble_eq_true rfl) dX1_copyFrom_12 (fun H locs hP hD hS => ?_)
  refine lv_aload_n hx hb dX1_copyFrom_15 rfl (lv_at hl 1 rfl) ?_
  refine mx_get (ci := 1) (C := RX1) (T := TX1) (N := 15) hx hb hown in_wsX10 hts hK hP 9 rfl rfl 2 (by decide) q_66 rfl (v := .ref a_o_months) rfl dX1_copyFrom_16 ?_
  refine lv_iconst (v := 0) hx hb dX1_copyFrom_19 (by decide) ?_
  refine lv_aload_n hx hb dX1_copyFrom_20 rfl (lv_at hl 0 rfl) ?_
  refine mx_get (ci := 1) (C := RX1) (T := TX1) (N := 15) hx hb hown in_wsX10 hts hK hP 0 rfl rfl 2 (by decide) q_66 rfl (v := .ref a_c_months) rfl dX1_copyFrom_21 ?_
  refine lv_iconst (v := 0) hx hb dX1_copyFrom_24 (by decide) ?_
  refine lv_bipush (v := 6) hx hb dX1_copyFrom_25 (by decide) ?_
  obtain ⟨f_2, ef_2⟩ : ∃ y : Nat → Int32, y = va_cpy o_months months 0 0 6 := ⟨_, rfl⟩
  replace hw := hw f_2 ef_2
  refine mx_copy hx hb hml hl.1 hown hts q_329 q_330 q_331 q_332 hK hP hD hS 11 2 0 rfl rfl rfl (by decide) (by decide) (by decide) (by decide) (by decide) f_2 ef_2 (ww_X1_copyFrom a_c a_c_kind a_c_months a_c_home a_c_nurse a_c_skills a_c_noteRow a_c_soundRow a_c_pastRow a_K a_o a_o_kind a_o_months a_o_home a_o_nurse a_o_skills a_o_noteRow a_o_soundRow a_o_pastRow cI cB cZ cP cC infants retired month notes sounds pasts f_1 f_2 home nurse skills noteRow soundRow pastRow o_infants o_retired o_month o_notes o_sounds o_pasts o_kind o_months o_home o_nurse o_skills o_noteRow o_soundRow o_pastRow) rfl (Nat.le_of_ble_eq_true rfl) (Nat.le_of_ble_eq_true rfl) dX1_copyFrom_27 (fun H locs hP hD hS => ?_)
  refine lv_aload_n hx hb dX1_copyFrom_30 rfl (lv_at hl 1 rfl) ?_
  refine mx_get (ci := 1) (C := RX1) (T := TX1) (N := 15) hx hb hown in_wsX10 hts hK hP 9 rfl rfl 3 (by decide) q_67 rfl (v := .ref a_o_home) rfl dX1_copyFrom_31 ?_
  refine lv_iconst (v := 0) hx hb dX1_copyFrom_34 (by decide) ?_
  refine lv_aload_n hx hb dX1_copyFrom_35 rfl (lv_at hl 0 rfl) ?_
  refine mx_get (ci := 1) (C := RX1) (T := TX1) (N := 15) hx hb hown in_wsX10 hts hK hP 0 rfl rfl 3 (by decide) q_67 rfl (v := .ref a_c_home) rfl dX1_copyFrom_36 ?_
  refine lv_iconst (v := 0) hx hb dX1_copyFrom_39 (by decide) ?_
  refine lv_bipush (v := 6) hx hb dX1_copyFrom_40 (by decide) ?_
  obtain ⟨f_3, ef_3⟩ : ∃ y : Nat → Int32, y = va_cpy o_home home 0 0 6 := ⟨_, rfl⟩
  replace hw := hw f_3 ef_3
  refine mx_copy hx hb hml hl.1 hown hts q_329 q_330 q_331 q_332 hK hP hD hS 12 3 0 rfl rfl rfl (by decide) (by decide) (by decide) (by decide) (by decide) f_3 ef_3 (ww_X1_copyFrom a_c a_c_kind a_c_months a_c_home a_c_nurse a_c_skills a_c_noteRow a_c_soundRow a_c_pastRow a_K a_o a_o_kind a_o_months a_o_home a_o_nurse a_o_skills a_o_noteRow a_o_soundRow a_o_pastRow cI cB cZ cP cC infants retired month notes sounds pasts f_1 f_2 f_3 nurse skills noteRow soundRow pastRow o_infants o_retired o_month o_notes o_sounds o_pasts o_kind o_months o_home o_nurse o_skills o_noteRow o_soundRow o_pastRow) rfl (Nat.le_of_ble_eq_true rfl) (Nat.le_of_ble_eq_true rfl) dX1_copyFrom_42 (fun H locs hP hD hS => ?_)
  refine lv_aload_n hx hb dX1_copyFrom_45 rfl (lv_at hl 1 rfl) ?_
  refine mx_get (ci := 1) (C := RX1) (T := TX1) (N := 15) hx hb hown in_wsX10 hts hK hP 9 rfl rfl 4 (by decide) q_68 rfl (v := .ref a_o_nurse) rfl dX1_copyFrom_46 ?_
  refine lv_iconst (v := 0) hx hb dX1_copyFrom_49 (by decide) ?_
  refine lv_aload_n hx hb dX1_copyFrom_50 rfl (lv_at hl 0 rfl) ?_
  refine mx_get (ci := 1) (C := RX1) (T := TX1) (N := 15) hx hb hown in_wsX10 hts hK hP 0 rfl rfl 4 (by decide) q_68 rfl (v := .ref a_c_nurse) rfl dX1_copyFrom_51 ?_
  refine lv_iconst (v := 0) hx hb dX1_copyFrom_54 (by decide) ?_
  refine lv_bipush (v := 6) hx hb dX1_copyFrom_55 (by decide) ?_
  obtain ⟨f_4, ef_4⟩ : ∃ y : Nat → Int32, y = va_cpy o_nurse nurse 0 0 6 := ⟨_, rfl⟩
  replace hw := hw f_4 ef_4
  refine mx_copy hx hb hml hl.1 hown hts q_329 q_330 q_331 q_332 hK hP hD hS 13 4 0 rfl rfl rfl (by decide) (by decide) (by decide) (by decide) (by decide) f_4 ef_4 (ww_X1_copyFrom a_c a_c_kind a_c_months a_c_home a_c_nurse a_c_skills a_c_noteRow a_c_soundRow a_c_pastRow a_K a_o a_o_kind a_o_months a_o_home a_o_nurse a_o_skills a_o_noteRow a_o_soundRow a_o_pastRow cI cB cZ cP cC infants retired month notes sounds pasts f_1 f_2 f_3 f_4 skills noteRow soundRow pastRow o_infants o_retired o_month o_notes o_sounds o_pasts o_kind o_months o_home o_nurse o_skills o_noteRow o_soundRow o_pastRow) rfl (Nat.le_of_ble_eq_true rfl) (Nat.le_of_ble_eq_true rfl) dX1_copyFrom_57 (fun H locs hP hD hS => ?_)
  refine lv_aload_n hx hb dX1_copyFrom_60 rfl (lv_at hl 1 rfl) ?_
  refine mx_get (ci := 1) (C := RX1) (T := TX1) (N := 15) hx hb hown in_wsX10 hts hK hP 9 rfl rfl 5 (by decide) q_69 rfl (v := .ref a_o_skills) rfl dX1_copyFrom_61 ?_
  refine lv_iconst (v := 0) hx hb dX1_copyFrom_64 (by decide) ?_
  refine lv_aload_n hx hb dX1_copyFrom_65 rfl (lv_at hl 0 rfl) ?_
  refine mx_get (ci := 1) (C := RX1) (T := TX1) (N := 15) hx hb hown in_wsX10 hts hK hP 0 rfl rfl 5 (by decide) q_69 rfl (v := .ref a_c_skills) rfl dX1_copyFrom_66 ?_
  refine lv_iconst (v := 0) hx hb dX1_copyFrom_69 (by decide) ?_
  refine lv_bipush (v := 6) hx hb dX1_copyFrom_70 (by decide) ?_
  obtain ⟨f_5, ef_5⟩ : ∃ y : Nat → Int32, y = va_cpy o_skills skills 0 0 6 := ⟨_, rfl⟩
  replace hw := hw f_5 ef_5
  refine mx_copy hx hb hml hl.1 hown hts q_329 q_330 q_331 q_332 hK hP hD hS 14 5 0 rfl rfl rfl (by decide) (by decide) (by decide) (by decide) (by decide) f_5 ef_5 (ww_X1_copyFrom a_c a_c_kind a_c_months a_c_home a_c_nurse a_c_skills a_c_noteRow a_c_soundRow a_c_pastRow a_K a_o a_o_kind a_o_months a_o_home a_o_nurse a_o_skills a_o_noteRow a_o_soundRow a_o_pastRow cI cB cZ cP cC infants retired month notes sounds pasts f_1 f_2 f_3 f_4 f_5 noteRow soundRow pastRow o_infants o_retired o_month o_notes o_sounds o_pasts o_kind o_months o_home o_nurse o_skills o_noteRow o_soundRow o_pastRow) rfl (Nat.le_of_ble_eq_true rfl) (Nat.le_of_ble_eq_true rfl) dX1_copyFrom_72 (fun H locs hP hD hS => ?_)
  refine lv_aload_n hx hb dX1_copyFrom_75 rfl (lv_at hl 1 rfl) ?_
  refine mx_get (ci := 1) (C := RX1) (T := TX1) (N := 15) hx hb hown in_wsX10 hts hK hP 9 rfl rfl 6 (by decide) q_70 rfl (v := .ref a_o_noteRow) rfl dX1_copyFrom_76 ?_
  refine lv_iconst (v := 0) hx hb dX1_copyFrom_79 (by decide) ?_
  refine lv_aload_n hx hb dX1_copyFrom_80 rfl (lv_at hl 0 rfl) ?_
  refine mx_get (ci := 1) (C := RX1) (T := TX1) (N := 15) hx hb hown in_wsX10 hts hK hP 0 rfl rfl 6 (by decide) q_70 rfl (v := .ref a_c_noteRow) rfl dX1_copyFrom_81 ?_
  refine lv_iconst (v := 0) hx hb dX1_copyFrom_84 (by decide) ?_
  refine lv_bipush (v := 30) hx hb dX1_copyFrom_85 (by decide) ?_
  obtain ⟨f_6, ef_6⟩ : ∃ y : Nat → Int32, y = va_cpy o_noteRow noteRow 0 0 30 := ⟨_, rfl⟩
  replace hw := hw f_6 ef_6
  refine mx_copy hx hb hml hl.1 hown hts q_329 q_330 q_331 q_332 hK hP hD hS 15 6 0 rfl rfl rfl (by decide) (by decide) (by decide) (by decide) (by decide) f_6 ef_6 (ww_X1_copyFrom a_c a_c_kind a_c_months a_c_home a_c_nurse a_c_skills a_c_noteRow a_c_soundRow a_c_pastRow a_K a_o a_o_kind a_o_months a_o_home a_o_nurse a_o_skills a_o_noteRow a_o_soundRow a_o_pastRow cI cB cZ cP cC infants retired month notes sounds pasts f_1 f_2 f_3 f_4 f_5 f_6 soundRow pastRow o_infants o_retired o_month o_notes o_sounds o_pasts o_kind o_months o_home o_nurse o_skills o_noteRow o_soundRow o_pastRow) rfl (Nat.le_of_ble_eq_true rfl) (Nat.le_of_ble_eq_true rfl) dX1_copyFrom_87 (fun H locs hP hD hS => ?_)
  refine lv_aload_n hx hb dX1_copyFrom_90 rfl (lv_at hl 1 rfl) ?_
  refine mx_get (ci := 1) (C := RX1) (T := TX1) (N := 15) hx hb hown in_wsX10 hts hK hP 9 rfl rfl 7 (by decide) q_71 rfl (v := .ref a_o_soundRow) rfl dX1_copyFrom_91 ?_
  refine lv_iconst (v := 0) hx hb dX1_copyFrom_94 (by decide) ?_
  refine lv_aload_n hx hb dX1_copyFrom_95 rfl (lv_at hl 0 rfl) ?_
  refine mx_get (ci := 1) (C := RX1) (T := TX1) (N := 15) hx hb hown in_wsX10 hts hK hP 0 rfl rfl 7 (by decide) q_71 rfl (v := .ref a_c_soundRow) rfl dX1_copyFrom_96 ?_
  refine lv_iconst (v := 0) hx hb dX1_copyFrom_99 (by decide) ?_
  refine lv_bipush (v := 12) hx hb dX1_copyFrom_100 (by decide) ?_
  obtain ⟨f_7, ef_7⟩ : ∃ y : Nat → Int32, y = va_cpy o_soundRow soundRow 0 0 12 := ⟨_, rfl⟩
  replace hw := hw f_7 ef_7
  refine mx_copy hx hb hml hl.1 hown hts q_329 q_330 q_331 q_332 hK hP hD hS 16 7 0 rfl rfl rfl (by decide) (by decide) (by decide) (by decide) (by decide) f_7 ef_7 (ww_X1_copyFrom a_c a_c_kind a_c_months a_c_home a_c_nurse a_c_skills a_c_noteRow a_c_soundRow a_c_pastRow a_K a_o a_o_kind a_o_months a_o_home a_o_nurse a_o_skills a_o_noteRow a_o_soundRow a_o_pastRow cI cB cZ cP cC infants retired month notes sounds pasts f_1 f_2 f_3 f_4 f_5 f_6 f_7 pastRow o_infants o_retired o_month o_notes o_sounds o_pasts o_kind o_months o_home o_nurse o_skills o_noteRow o_soundRow o_pastRow) rfl (Nat.le_of_ble_eq_true rfl) (Nat.le_of_ble_eq_true rfl) dX1_copyFrom_102 (fun H locs hP hD hS => ?_)
  refine lv_aload_n hx hb dX1_copyFrom_105 rfl (lv_at hl 1 rfl) ?_
  refine mx_get (ci := 1) (C := RX1) (T := TX1) (N := 15) hx hb hown in_wsX10 hts hK hP 9 rfl rfl 8 (by decide) q_72 rfl (v := .ref a_o_pastRow) rfl dX1_copyFrom_106 ?_
  refine lv_iconst (v := 0) hx hb dX1_copyFrom_109 (by decide) ?_
  refine lv_aload_n hx hb dX1_copyFrom_110 rfl (lv_at hl 0 rfl) ?_
  refine mx_get (ci := 1) (C := RX1) (T := TX1) (N := 15) hx hb hown in_wsX10 hts hK hP 0 rfl rfl 8 (by decide) q_72 rfl (v := .ref a_c_pastRow) rfl dX1_copyFrom_111 ?_
  refine lv_iconst (v := 0) hx hb dX1_copyFrom_114 (by decide) ?_
  refine lv_bipush (v := 112) hx hb dX1_copyFrom_115 (by decide) ?_
  obtain ⟨f_8, ef_8⟩ : ∃ y : Nat → Int32, y = va_cpy o_pastRow pastRow 0 0 112 := ⟨_, rfl⟩
  replace hw := hw f_8 ef_8
  refine mx_copy hx hb hml hl.1 hown hts q_329 q_330 q_331 q_332 hK hP hD hS 17 8 0 rfl rfl rfl (by decide) (by decide) (by decide) (by decide) (by decide) f_8 ef_8 (ww_X1_copyFrom a_c a_c_kind a_c_months a_c_home a_c_nurse a_c_skills a_c_noteRow a_c_soundRow a_c_pastRow a_K a_o a_o_kind a_o_months a_o_home a_o_nurse a_o_skills a_o_noteRow a_o_soundRow a_o_pastRow cI cB cZ cP cC infants retired month notes sounds pasts f_1 f_2 f_3 f_4 f_5 f_6 f_7 f_8 o_infants o_retired o_month o_notes o_sounds o_pasts o_kind o_months o_home o_nurse o_skills o_noteRow o_soundRow o_pastRow) rfl (Nat.le_of_ble_eq_true rfl) (Nat.le_of_ble_eq_true rfl) dX1_copyFrom_117 (fun H locs hP hD hS => ?_)
  refine lv_aload_n hx hb dX1_copyFrom_120 rfl (lv_at hl 0 rfl) ?_
  refine lv_aload_n hx hb dX1_copyFrom_121 rfl (lv_at hl 1 rfl) ?_
  refine mx_get (ci := 1) (C := RX1) (T := TX1) (N := 15) hx hb hown in_wsX10 hts hK hP 9 rfl rfl 9 (by decide) q_118 rfl (v := .int o_infants) rfl dX1_copyFrom_122 ?_
  refine mx_put (ci := 1) (C := RX1) (T := TX1) (N := 15) hx hb hown in_wsX10 tyX1 tyX1_ok nmX1 hts hK hP hD hS 0 rfl rfl 9 (by decide) q_118 rfl rfl rfl rfl (Nat.le_of_ble_eq_true rfl) (ww_X1_copyFrom a_c a_c_kind a_c_months a_c_home a_c_nurse a_c_skills a_c_noteRow a_c_soundRow a_c_pastRow a_K a_o a_o_kind a_o_months a_o_home a_o_nurse a_o_skills a_o_noteRow a_o_soundRow a_o_pastRow cI cB cZ cP cC o_infants retired month notes sounds pasts f_1 f_2 f_3 f_4 f_5 f_6 f_7 f_8 o_infants o_retired o_month o_notes o_sounds o_pasts o_kind o_months o_home o_nurse o_skills o_noteRow o_soundRow o_pastRow) rfl dX1_copyFrom_125 (fun H locs hP hD hS => ?_)
  refine lv_aload_n hx hb dX1_copyFrom_128 rfl (lv_at hl 0 rfl) ?_
  refine lv_aload_n hx hb dX1_copyFrom_129 rfl (lv_at hl 1 rfl) ?_
  refine mx_get (ci := 1) (C := RX1) (T := TX1) (N := 15) hx hb hown in_wsX10 hts hK hP 9 rfl rfl 10 (by decide) q_119 rfl (v := .int o_retired) rfl dX1_copyFrom_130 ?_
  refine mx_put (ci := 1) (C := RX1) (T := TX1) (N := 15) hx hb hown in_wsX10 tyX1 tyX1_ok nmX1 hts hK hP hD hS 0 rfl rfl 10 (by decide) q_119 rfl rfl rfl rfl (Nat.le_of_ble_eq_true rfl) (ww_X1_copyFrom a_c a_c_kind a_c_months a_c_home a_c_nurse a_c_skills a_c_noteRow a_c_soundRow a_c_pastRow a_K a_o a_o_kind a_o_months a_o_home a_o_nurse a_o_skills a_o_noteRow a_o_soundRow a_o_pastRow cI cB cZ cP cC o_infants o_retired month notes sounds pasts f_1 f_2 f_3 f_4 f_5 f_6 f_7 f_8 o_infants o_retired o_month o_notes o_sounds o_pasts o_kind o_months o_home o_nurse o_skills o_noteRow o_soundRow o_pastRow) rfl dX1_copyFrom_133 (fun H locs hP hD hS => ?_)
  refine lv_aload_n hx hb dX1_copyFrom_136 rfl (lv_at hl 0 rfl) ?_
  refine lv_aload_n hx hb dX1_copyFrom_137 rfl (lv_at hl 1 rfl) ?_
  refine mx_get (ci := 1) (C := RX1) (T := TX1) (N := 15) hx hb hown in_wsX10 hts hK hP 9 rfl rfl 11 (by decide) q_120 rfl (v := .int o_month) rfl dX1_copyFrom_138 ?_
  refine mx_put (ci := 1) (C := RX1) (T := TX1) (N := 15) hx hb hown in_wsX10 tyX1 tyX1_ok nmX1 hts hK hP hD hS 0 rfl rfl 11 (by decide) q_120 rfl rfl rfl rfl (Nat.le_of_ble_eq_true rfl) (ww_X1_copyFrom a_c a_c_kind a_c_months a_c_home a_c_nurse a_c_skills a_c_noteRow a_c_soundRow a_c_pastRow a_K a_o a_o_kind a_o_months a_o_home a_o_nurse a_o_skills a_o_noteRow a_o_soundRow a_o_pastRow cI cB cZ cP cC o_infants o_retired o_month notes sounds pasts f_1 f_2 f_3 f_4 f_5 f_6 f_7 f_8 o_infants o_retired o_month o_notes o_sounds o_pasts o_kind o_months o_home o_nurse o_skills o_noteRow o_soundRow o_pastRow) rfl dX1_copyFrom_141 (fun H locs hP hD hS => ?_)
  refine lv_aload_n hx hb dX1_copyFrom_144 rfl (lv_at hl 0 rfl) ?_
  refine lv_aload_n hx hb dX1_copyFrom_145 rfl (lv_at hl 1 rfl) ?_
  refine mx_get (ci := 1) (C := RX1) (T := TX1) (N := 15) hx hb hown in_wsX10 hts hK hP 9 rfl rfl 12 (by decide) q_121 rfl (v := .int o_notes) rfl dX1_copyFrom_146 ?_
  refine mx_put (ci := 1) (C := RX1) (T := TX1) (N := 15) hx hb hown in_wsX10 tyX1 tyX1_ok nmX1 hts hK hP hD hS 0 rfl rfl 12 (by decide) q_121 rfl rfl rfl rfl (Nat.le_of_ble_eq_true rfl) (ww_X1_copyFrom a_c a_c_kind a_c_months a_c_home a_c_nurse a_c_skills a_c_noteRow a_c_soundRow a_c_pastRow a_K a_o a_o_kind a_o_months a_o_home a_o_nurse a_o_skills a_o_noteRow a_o_soundRow a_o_pastRow cI cB cZ cP cC o_infants o_retired o_month o_notes sounds pasts f_1 f_2 f_3 f_4 f_5 f_6 f_7 f_8 o_infants o_retired o_month o_notes o_sounds o_pasts o_kind o_months o_home o_nurse o_skills o_noteRow o_soundRow o_pastRow) rfl dX1_copyFrom_149 (fun H locs hP hD hS => ?_)
  refine lv_aload_n hx hb dX1_copyFrom_152 rfl (lv_at hl 0 rfl) ?_
  refine lv_aload_n hx hb dX1_copyFrom_153 rfl (lv_at hl 1 rfl) ?_
  refine mx_get (ci := 1) (C := RX1) (T := TX1) (N := 15) hx hb hown in_wsX10 hts hK hP 9 rfl rfl 13 (by decide) q_122 rfl (v := .int o_sounds) rfl dX1_copyFrom_154 ?_
  refine mx_put (ci := 1) (C := RX1) (T := TX1) (N := 15) hx hb hown in_wsX10 tyX1 tyX1_ok nmX1 hts hK hP hD hS 0 rfl rfl 13 (by decide) q_122 rfl rfl rfl rfl (Nat.le_of_ble_eq_true rfl) (ww_X1_copyFrom a_c a_c_kind a_c_months a_c_home a_c_nurse a_c_skills a_c_noteRow a_c_soundRow a_c_pastRow a_K a_o a_o_kind a_o_months a_o_home a_o_nurse a_o_skills a_o_noteRow a_o_soundRow a_o_pastRow cI cB cZ cP cC o_infants o_retired o_month o_notes o_sounds pasts f_1 f_2 f_3 f_4 f_5 f_6 f_7 f_8 o_infants o_retired o_month o_notes o_sounds o_pasts o_kind o_months o_home o_nurse o_skills o_noteRow o_soundRow o_pastRow) rfl dX1_copyFrom_157 (fun H locs hP hD hS => ?_)
  refine lv_aload_n hx hb dX1_copyFrom_160 rfl (lv_at hl 0 rfl) ?_
  refine lv_aload_n hx hb dX1_copyFrom_161 rfl (lv_at hl 1 rfl) ?_
  refine mx_get (ci := 1) (C := RX1) (T := TX1) (N := 15) hx hb hown in_wsX10 hts hK hP 9 rfl rfl 14 (by decide) q_123 rfl (v := .int o_pasts) rfl dX1_copyFrom_162 ?_
  refine mx_put (ci := 1) (C := RX1) (T := TX1) (N := 15) hx hb hown in_wsX10 tyX1 tyX1_ok nmX1 hts hK hP hD hS 0 rfl rfl 14 (by decide) q_123 rfl rfl rfl rfl (Nat.le_of_ble_eq_true rfl) (ww_X1_copyFrom a_c a_c_kind a_c_months a_c_home a_c_nurse a_c_skills a_c_noteRow a_c_soundRow a_c_pastRow a_K a_o a_o_kind a_o_months a_o_home a_o_nurse a_o_skills a_o_noteRow a_o_soundRow a_o_pastRow cI cB cZ cP cC o_infants o_retired o_month o_notes o_sounds o_pasts f_1 f_2 f_3 f_4 f_5 f_6 f_7 f_8 o_infants o_retired o_month o_notes o_sounds o_pasts o_kind o_months o_home o_nurse o_skills o_noteRow o_soundRow o_pastRow) rfl dX1_copyFrom_165 (fun H locs hP hD hS => ?_)
  exact mx_vret (o_infants, o_retired, o_month, o_notes, o_sounds, o_pasts, f_1, f_2, f_3, f_4, f_5, f_6, f_7, f_8) hx hb hr hlocks hw hK hP hD hS dX1_copyFrom_168
/-! PramState$Court.add(III)V -/
abbrev ww_X1_add (a_c a_c_kind a_c_months a_c_home a_c_nurse a_c_skills a_c_noteRow a_c_soundRow a_c_pastRow a_K : Nat) (cI cB cZ cP cC : ClassId) (infants : Int32) (retired : Int32) (month : Int32) (notes : Int32) (sounds : Int32) (pasts : Int32) (kind : Nat → Int32) (months : Nat → Int32) (home : Nat → Int32) (nurse : Nat → Int32) : va_W := [(a_c, .inr (1, [.ref a_K, .ref a_c_kind, .ref a_c_months, .ref a_c_home, .ref a_c_nurse, .ref a_c_skills, .ref a_c_noteRow, .ref a_c_soundRow, .ref a_c_pastRow, .int infants, .int retired, .int month, .int notes, .int sounds, .int pasts])), (a_c_kind, .inl (cI, 6, .inl kind)), (a_c_months, .inl (cI, 6, .inl months)), (a_c_home, .inl (cI, 6, .inl home)), (a_c_nurse, .inl (cI, 6, .inl nurse))]
abbrev qq_X1_add (D : va_G) (a_c a_c_kind a_c_months a_c_home a_c_nurse a_c_skills a_c_noteRow a_c_soundRow a_c_pastRow a_K : Nat) (cI cB cZ cP cC : ClassId) (retired : Int32) (month : Int32) (notes : Int32) (sounds : Int32) (Post : Int32 → Int32 → (Nat → Int32) → (Nat → Int32) → (Nat → Int32) → (Nat → Int32) → Prop) (A : Nat → Prop) : Array Value → State → Outcome → State → Prop := va_Qv (fun (u : Int32 × Int32 × (Nat → Int32) × (Nat → Int32) × (Nat → Int32) × (Nat → Int32)) => Post u.1 u.2.1 u.2.2.1 u.2.2.2.1 u.2.2.2.2.1 u.2.2.2.2.2) (fun (u : Int32 × Int32 × (Nat → Int32) × (Nat → Int32) × (Nat → Int32) × (Nat → Int32)) t => mxB D (mxTy cI cB cZ cP cC) A (ww_X1_add a_c a_c_kind a_c_months a_c_home a_c_nurse a_c_skills a_c_noteRow a_c_soundRow a_c_pastRow a_K cI cB cZ cP cC (u.1) retired month notes sounds (u.2.1) (u.2.2.1) (u.2.2.2.1) (u.2.2.2.2.1) (u.2.2.2.2.2)) t) A
abbrev rm_X1_add : Room := { frames := 0, cells := 0, slots := 0, locals := 0 }
theorem hd_X1_add : yX1_add.cls = RX1 ∧ yX1_add.cls ≠ "java/lang/invoke/MethodHandle" ∧ yX1_add.cls ≠ "java/lang/invoke/VarHandle" ∧ (parseMethodDescriptor yX1_add.desc).map (fun d => d.parameters.length) = some 3 := by decide +kernel
def wp_X1_add (infants : Int32) (pasts : Int32) (kind : Nat → Int32) (months : Nat → Int32) (home : Nat → Int32) (nurse : Nat → Int32) (v1 : Int32) (v2 : Int32) (v3 : Int32) (Post : Int32 → Int32 → (Nat → Int32) → (Nat → Int32) → (Nat → Int32) → (Nat → Int32) → Prop) : Prop :=
  ((infants < 6 → (vp_in infants 6 ∧ (∀ f_3 : Nat → Int32, f_3 = upd kind infants.toNatClampNeg v1 → (∀ f_4 : Nat → Int32, f_4 = upd months infants.toNatClampNeg v2 → (∀ f_5 : Nat → Int32, f_5 = upd home infants.toNatClampNeg v3 → (∀ f_6 : Nat → Int32, f_6 = upd nurse infants.toNatClampNeg infants → (∀ x_7 : Int32, x_7 = infants + 1 → Post x_7 0 f_3 f_4 f_5 f_6))))))) ∧ (¬ infants < 6 → Post infants pasts kind months home nurse))
set_option maxHeartbeats 4000000 in
set_option maxRecDepth 100000 in
theorem c_X1_add (l : Launch) (D : va_G) (cI cB cZ cP cC : ClassId) (a_c a_c_kind a_c_months a_c_home a_c_nurse a_c_skills a_c_noteRow a_c_soundRow a_c_pastRow a_K : Nat) (infants : Int32) (retired : Int32) (month : Int32) (notes : Int32) (sounds : Int32) (pasts : Int32) (kind : Nat → Int32) (months : Nat → Int32) (home : Nat → Int32) (nurse : Nat → Int32) (v1 : Int32) (v2 : Int32) (v3 : Int32) (sz : Nat) (Post : Int32 → Int32 → (Nat → Int32) → (Nat → Int32) → (Nat → Int32) → (Nat → Int32) → Prop) (hw : wp_X1_add infants pasts kind months home nurse v1 v2 v3 Post) :
    Met l yX1_add (Cond.code yX1_add cX1_add 5 none :: wsAll) rm_X1_add (va_Pc [.ref a_c, .int v1, .int v2, .int v3] (mxP D (mxTy cI cB cZ cP cC) sz (ww_X1_add a_c a_c_kind a_c_months a_c_home a_c_nurse a_c_skills a_c_noteRow a_c_soundRow a_c_pastRow a_K cI cB cZ cP cC infants retired month notes sounds pasts kind months home nurse))) (qq_X1_add D a_c a_c_kind a_c_months a_c_home a_c_nurse a_c_skills a_c_noteRow a_c_soundRow a_c_pastRow a_K cI cB cZ cP cC retired month notes sounds Post (va_A (ww_X1_add a_c a_c_kind a_c_months a_c_home a_c_nurse a_c_skills a_c_noteRow a_c_soundRow a_c_pastRow a_K cI cB cZ cP cC infants retired month notes sounds pasts kind months home nurse) sz)) 0 0 (va_A (ww_X1_add a_c a_c_kind a_c_months a_c_home a_c_nurse a_c_skills a_c_noteRow a_c_soundRow a_c_pastRow a_K cI cB cZ cP cC infants retired month notes sounds pasts kind months home nurse) sz) := by
  refine mx_of (Qc := qq_X1_add D a_c a_c_kind a_c_months a_c_home a_c_nurse a_c_skills a_c_noteRow a_c_soundRow a_c_pastRow a_K cI cB cZ cP cC retired month notes sounds Post) (by decide) (Nat.le_of_ble_eq_true rfl) ?_
  intro p e s m bl meth c A ls C0 hP hD hS hl
  replace C0 : mxC p s m [.ref a_c, .int v1, .int v2, .int v3].toArray meth c cX1_add RX1 none 5 D (mxTy cI cB cZ cP cC) A := C0
  obtain ⟨hx, hb, hr, hlocks, hml, hown, hts, hK, hA⟩ := id C0
  replace hl : lv_has ls 5 [(0, .ref a_c), (1, .int v1), (2, .int v2), (3, .int v3)] := hl
  unfold wp_X1_add at hw
  refine lv_aload_n hx hb dX1_add_0 rfl (lv_at hl 0 rfl) ?_
  refine mx_get (ci := 1) (C := RX1) (T := TX1) (N := 15) hx hb hown in_wsX10 hts hK hP 0 rfl rfl 9 (by decide) q_118 rfl (v := .int infants) rfl dX1_add_1 ?_
  refine lv_istore (lv' := [(4, .int infants), (0, .ref a_c), (1, .int v1), (2, .int v2), (3, .int v3)]) hx hb dX1_add_4 hl (by decide) rfl (fun ls hl => ?_)
  refine lv_iload hx hb dX1_add_6 (lv_at hl 0 rfl) ?_
  refine lv_bipush (v := 6) hx hb dX1_add_8 (by decide) ?_
  refine lv_icmp_lt (tgt := 14) hx hb dX1_add_10 (by decide) (fun c_1 => ?_) (fun c_1 => ?_)
  · replace hw := hw.1 c_1
    refine lv_aload_n hx hb dX1_add_14 rfl (lv_at hl 1 rfl) ?_
    refine mx_get (ci := 1) (C := RX1) (T := TX1) (N := 15) hx hb hown in_wsX10 hts hK hP 0 rfl rfl 1 (by decide) q_65 rfl (v := .ref a_c_kind) rfl dX1_add_15 ?_
    refine lv_iload hx hb dX1_add_18 (lv_at hl 0 rfl) ?_
    refine lv_iload_n hx hb dX1_add_20 rfl (lv_at hl 2 rfl) ?_
    obtain ⟨h_2, hw⟩ := hw
    obtain ⟨f_3, ef_3⟩ : ∃ y : Nat → Int32, y = upd kind infants.toNatClampNeg v1 := ⟨_, rfl⟩
    replace hw := hw f_3 ef_3
    refine mx_iast hx hb hK hP hD hS 1 0 rfl rfl h_2 f_3 ef_3 (ww_X1_add a_c a_c_kind a_c_months a_c_home a_c_nurse a_c_skills a_c_noteRow a_c_soundRow a_c_pastRow a_K cI cB cZ cP cC infants retired month notes sounds pasts f_3 months home nurse) rfl dX1_add_21 (fun H locs hP hD hS => ?_)
    refine lv_aload_n hx hb dX1_add_22 rfl (lv_at hl 1 rfl) ?_
    refine mx_get (ci := 1) (C := RX1) (T := TX1) (N := 15) hx hb hown in_wsX10 hts hK hP 0 rfl rfl 2 (by decide) q_66 rfl (v := .ref a_c_months) rfl dX1_add_23 ?_
    refine lv_iload hx hb dX1_add_26 (lv_at hl 0 rfl) ?_
    refine lv_iload_n hx hb dX1_add_28 rfl (lv_at hl 3 rfl) ?_
    obtain ⟨f_4, ef_4⟩ : ∃ y : Nat → Int32, y = upd months infants.toNatClampNeg v2 := ⟨_, rfl⟩
    replace hw := hw f_4 ef_4
    refine mx_iast hx hb hK hP hD hS 2 0 rfl rfl h_2 f_4 ef_4 (ww_X1_add a_c a_c_kind a_c_months a_c_home a_c_nurse a_c_skills a_c_noteRow a_c_soundRow a_c_pastRow a_K cI cB cZ cP cC infants retired month notes sounds pasts f_3 f_4 home nurse) rfl dX1_add_29 (fun H locs hP hD hS => ?_)
    refine lv_aload_n hx hb dX1_add_30 rfl (lv_at hl 1 rfl) ?_
    refine mx_get (ci := 1) (C := RX1) (T := TX1) (N := 15) hx hb hown in_wsX10 hts hK hP 0 rfl rfl 3 (by decide) q_67 rfl (v := .ref a_c_home) rfl dX1_add_31 ?_
    refine lv_iload hx hb dX1_add_34 (lv_at hl 0 rfl) ?_
    refine lv_iload_n hx hb dX1_add_36 rfl (lv_at hl 4 rfl) ?_
    obtain ⟨f_5, ef_5⟩ : ∃ y : Nat → Int32, y = upd home infants.toNatClampNeg v3 := ⟨_, rfl⟩
    replace hw := hw f_5 ef_5
    refine mx_iast hx hb hK hP hD hS 3 0 rfl rfl h_2 f_5 ef_5 (ww_X1_add a_c a_c_kind a_c_months a_c_home a_c_nurse a_c_skills a_c_noteRow a_c_soundRow a_c_pastRow a_K cI cB cZ cP cC infants retired month notes sounds pasts f_3 f_4 f_5 nurse) rfl dX1_add_37 (fun H locs hP hD hS => ?_)
    refine lv_aload_n hx hb dX1_add_38 rfl (lv_at hl 1 rfl) ?_
    refine mx_get (ci := 1) (C := RX1) (T := TX1) (N := 15) hx hb hown in_wsX10 hts hK hP 0 rfl rfl 4 (by decide) q_68 rfl (v := .ref a_c_nurse) rfl dX1_add_39 ?_
    refine lv_iload hx hb dX1_add_42 (lv_at hl 0 rfl) ?_
    refine lv_iload hx hb dX1_add_44 (lv_at hl 0 rfl) ?_
    obtain ⟨f_6, ef_6⟩ : ∃ y : Nat → Int32, y = upd nurse infants.toNatClampNeg infants := ⟨_, rfl⟩
    replace hw := hw f_6 ef_6
    refine mx_iast hx hb hK hP hD hS 4 0 rfl rfl h_2 f_6 ef_6 (ww_X1_add a_c a_c_kind a_c_months a_c_home a_c_nurse a_c_skills a_c_noteRow a_c_soundRow a_c_pastRow a_K cI cB cZ cP cC infants retired month notes sounds pasts f_3 f_4 f_5 f_6) rfl dX1_add_46 (fun H locs hP hD hS => ?_)
    refine lv_aload_n hx hb dX1_add_47 rfl (lv_at hl 1 rfl) ?_
    refine lv_iload hx hb dX1_add_48 (lv_at hl 0 rfl) ?_
    refine lv_iconst (v := 1) hx hb dX1_add_50 (by decide) ?_
    refine lv_iadd hx hb dX1_add_51 ?_
    refine lv_topi (fun x_7 ex_7 => ?_)
    replace hw := hw x_7 ex_7
    refine mx_put (ci := 1) (C := RX1) (T := TX1) (N := 15) hx hb hown in_wsX10 tyX1 tyX1_ok nmX1 hts hK hP hD hS 0 rfl rfl 9 (by decide) q_118 rfl rfl rfl rfl (Nat.le_of_ble_eq_true rfl) (ww_X1_add a_c a_c_kind a_c_months a_c_home a_c_nurse a_c_skills a_c_noteRow a_c_soundRow a_c_pastRow a_K cI cB cZ cP cC x_7 retired month notes sounds pasts f_3 f_4 f_5 f_6) rfl dX1_add_52 (fun H locs hP hD hS => ?_)
    refine lv_aload_n hx hb dX1_add_55 rfl (lv_at hl 1 rfl) ?_
    refine lv_iconst (v := 0) hx hb dX1_add_56 (by decide) ?_
    refine mx_put (ci := 1) (C := RX1) (T := TX1) (N := 15) hx hb hown in_wsX10 tyX1 tyX1_ok nmX1 hts hK hP hD hS 0 rfl rfl 14 (by decide) q_123 rfl rfl rfl rfl (Nat.le_of_ble_eq_true rfl) (ww_X1_add a_c a_c_kind a_c_months a_c_home a_c_nurse a_c_skills a_c_noteRow a_c_soundRow a_c_pastRow a_K cI cB cZ cP cC x_7 retired month notes sounds 0 f_3 f_4 f_5 f_6) rfl dX1_add_57 (fun H locs hP hD hS => ?_)
    exact mx_vret (x_7, 0, f_3, f_4, f_5, f_6) hx hb hr hlocks hw hK hP hD hS dX1_add_60
  · replace hw := hw.2 c_1
    exact mx_vret (infants, pasts, kind, months, home, nurse) hx hb hr hlocks hw hK hP hD hS dX1_add_13
/-! PramState$Court.setSkill(II)V -/
abbrev ww_X1_setSkill (a_c a_c_kind a_c_months a_c_home a_c_nurse a_c_skills a_c_noteRow a_c_soundRow a_c_pastRow a_K : Nat) (cI cB cZ cP cC : ClassId) (infants : Int32) (retired : Int32) (month : Int32) (notes : Int32) (sounds : Int32) (pasts : Int32) (skills : Nat → Int32) : va_W := [(a_c, .inr (1, [.ref a_K, .ref a_c_kind, .ref a_c_months, .ref a_c_home, .ref a_c_nurse, .ref a_c_skills, .ref a_c_noteRow, .ref a_c_soundRow, .ref a_c_pastRow, .int infants, .int retired, .int month, .int notes, .int sounds, .int pasts])), (a_c_skills, .inl (cI, 6, .inl skills))]
abbrev qq_X1_setSkill (D : va_G) (a_c a_c_kind a_c_months a_c_home a_c_nurse a_c_skills a_c_noteRow a_c_soundRow a_c_pastRow a_K : Nat) (cI cB cZ cP cC : ClassId) (infants : Int32) (retired : Int32) (month : Int32) (notes : Int32) (sounds : Int32) (Post : Int32 → (Nat → Int32) → Prop) (A : Nat → Prop) : Array Value → State → Outcome → State → Prop := va_Qv (fun (u : Int32 × (Nat → Int32)) => Post u.1 u.2) (fun (u : Int32 × (Nat → Int32)) t => mxB D (mxTy cI cB cZ cP cC) A (ww_X1_setSkill a_c a_c_kind a_c_months a_c_home a_c_nurse a_c_skills a_c_noteRow a_c_soundRow a_c_pastRow a_K cI cB cZ cP cC infants retired month notes sounds (u.1) (u.2)) t) A
abbrev rm_X1_setSkill : Room := { frames := 0, cells := 0, slots := 0, locals := 0 }
theorem hd_X1_setSkill : yX1_setSkill.cls = RX1 ∧ yX1_setSkill.cls ≠ "java/lang/invoke/MethodHandle" ∧ yX1_setSkill.cls ≠ "java/lang/invoke/VarHandle" ∧ (parseMethodDescriptor yX1_setSkill.desc).map (fun d => d.parameters.length) = some 2 := by decide +kernel
def wp_X1_setSkill (pasts : Int32) (skills : Nat → Int32) (v1 : Int32) (v2 : Int32) (Post : Int32 → (Nat → Int32) → Prop) : Prop :=
  (vp_in v1 6 ∧ (∀ f_2 : Nat → Int32, f_2 = upd skills v1.toNatClampNeg v2 → Post 0 f_2))
set_option maxHeartbeats 4000000 in
set_option maxRecDepth 100000 in
theorem c_X1_setSkill (l : Launch) (D : va_G) (cI cB cZ cP cC : ClassId) (a_c a_c_kind a_c_months a_c_home a_c_nurse a_c_skills a_c_noteRow a_c_soundRow a_c_pastRow a_K : Nat) (infants : Int32) (retired : Int32) (month : Int32) (notes : Int32) (sounds : Int32) (pasts : Int32) (skills : Nat → Int32) (v1 : Int32) (v2 : Int32) (sz : Nat) (Post : Int32 → (Nat → Int32) → Prop) (hw : wp_X1_setSkill pasts skills v1 v2 Post) :
    Met l yX1_setSkill (Cond.code yX1_setSkill cX1_setSkill 3 none :: wsAll) rm_X1_setSkill (va_Pc [.ref a_c, .int v1, .int v2] (mxP D (mxTy cI cB cZ cP cC) sz (ww_X1_setSkill a_c a_c_kind a_c_months a_c_home a_c_nurse a_c_skills a_c_noteRow a_c_soundRow a_c_pastRow a_K cI cB cZ cP cC infants retired month notes sounds pasts skills))) (qq_X1_setSkill D a_c a_c_kind a_c_months a_c_home a_c_nurse a_c_skills a_c_noteRow a_c_soundRow a_c_pastRow a_K cI cB cZ cP cC infants retired month notes sounds Post (va_A (ww_X1_setSkill a_c a_c_kind a_c_months a_c_home a_c_nurse a_c_skills a_c_noteRow a_c_soundRow a_c_pastRow a_K cI cB cZ cP cC infants retired month notes sounds pasts skills) sz)) 0 0 (va_A (ww_X1_setSkill a_c a_c_kind a_c_months a_c_home a_c_nurse a_c_skills a_c_noteRow a_c_soundRow a_c_pastRow a_K cI cB cZ cP cC infants retired month notes sounds pasts skills) sz) := by
  refine mx_of (Qc := qq_X1_setSkill D a_c a_c_kind a_c_months a_c_home a_c_nurse a_c_skills a_c_noteRow a_c_soundRow a_c_pastRow a_K cI cB cZ cP cC infants retired month notes sounds Post) (by decide) (Nat.le_of_ble_eq_true rfl) ?_
  intro p e s m bl meth c A ls C0 hP hD hS hl
  replace C0 : mxC p s m [.ref a_c, .int v1, .int v2].toArray meth c cX1_setSkill RX1 none 3 D (mxTy cI cB cZ cP cC) A := C0
  obtain ⟨hx, hb, hr, hlocks, hml, hown, hts, hK, hA⟩ := id C0
  replace hl : lv_has ls 3 [(0, .ref a_c), (1, .int v1), (2, .int v2)] := hl
  unfold wp_X1_setSkill at hw
  refine lv_aload_n hx hb dX1_setSkill_0 rfl (lv_at hl 0 rfl) ?_
  refine mx_get (ci := 1) (C := RX1) (T := TX1) (N := 15) hx hb hown in_wsX10 hts hK hP 0 rfl rfl 5 (by decide) q_69 rfl (v := .ref a_c_skills) rfl dX1_setSkill_1 ?_
  refine lv_iload_n hx hb dX1_setSkill_4 rfl (lv_at hl 1 rfl) ?_
  refine lv_iload_n hx hb dX1_setSkill_5 rfl (lv_at hl 2 rfl) ?_
  obtain ⟨h_1, hw⟩ := hw
  obtain ⟨f_2, ef_2⟩ : ∃ y : Nat → Int32, y = upd skills v1.toNatClampNeg v2 := ⟨_, rfl⟩
  replace hw := hw f_2 ef_2
  refine mx_iast hx hb hK hP hD hS 1 0 rfl rfl h_1 f_2 ef_2 (ww_X1_setSkill a_c a_c_kind a_c_months a_c_home a_c_nurse a_c_skills a_c_noteRow a_c_soundRow a_c_pastRow a_K cI cB cZ cP cC infants retired month notes sounds pasts f_2) rfl dX1_setSkill_6 (fun H locs hP hD hS => ?_)
  refine lv_aload_n hx hb dX1_setSkill_7 rfl (lv_at hl 0 rfl) ?_
  refine lv_iconst (v := 0) hx hb dX1_setSkill_8 (by decide) ?_
  refine mx_put (ci := 1) (C := RX1) (T := TX1) (N := 15) hx hb hown in_wsX10 tyX1 tyX1_ok nmX1 hts hK hP hD hS 0 rfl rfl 14 (by decide) q_123 rfl rfl rfl rfl (Nat.le_of_ble_eq_true rfl) (ww_X1_setSkill a_c a_c_kind a_c_months a_c_home a_c_nurse a_c_skills a_c_noteRow a_c_soundRow a_c_pastRow a_K cI cB cZ cP cC infants retired month notes sounds 0 f_2) rfl dX1_setSkill_9 (fun H locs hP hD hS => ?_)
  exact mx_vret (0, f_2) hx hb hr hlocks hw hK hP hD hS dX1_setSkill_12
/-! PramState$Court.addNote(IIIII)V -/
abbrev ww_X1_addNote (a_c a_c_kind a_c_months a_c_home a_c_nurse a_c_skills a_c_noteRow a_c_soundRow a_c_pastRow a_K : Nat) (cI cB cZ cP cC : ClassId) (infants : Int32) (retired : Int32) (month : Int32) (notes : Int32) (sounds : Int32) (pasts : Int32) (noteRow : Nat → Int32) : va_W := [(a_c, .inr (1, [.ref a_K, .ref a_c_kind, .ref a_c_months, .ref a_c_home, .ref a_c_nurse, .ref a_c_skills, .ref a_c_noteRow, .ref a_c_soundRow, .ref a_c_pastRow, .int infants, .int retired, .int month, .int notes, .int sounds, .int pasts])), (a_c_noteRow, .inl (cI, 30, .inl noteRow))]
abbrev qq_X1_addNote (D : va_G) (a_c a_c_kind a_c_months a_c_home a_c_nurse a_c_skills a_c_noteRow a_c_soundRow a_c_pastRow a_K : Nat) (cI cB cZ cP cC : ClassId) (infants : Int32) (retired : Int32) (month : Int32) (sounds : Int32) (pasts : Int32) (Post : Int32 → (Nat → Int32) → Prop) (A : Nat → Prop) : Array Value → State → Outcome → State → Prop := va_Qv (fun (u : Int32 × (Nat → Int32)) => Post u.1 u.2) (fun (u : Int32 × (Nat → Int32)) t => mxB D (mxTy cI cB cZ cP cC) A (ww_X1_addNote a_c a_c_kind a_c_months a_c_home a_c_nurse a_c_skills a_c_noteRow a_c_soundRow a_c_pastRow a_K cI cB cZ cP cC infants retired month (u.1) sounds pasts (u.2)) t) A
abbrev rm_X1_addNote : Room := { frames := 0, cells := 0, slots := 0, locals := 0 }
theorem hd_X1_addNote : yX1_addNote.cls = RX1 ∧ yX1_addNote.cls ≠ "java/lang/invoke/MethodHandle" ∧ yX1_addNote.cls ≠ "java/lang/invoke/VarHandle" ∧ (parseMethodDescriptor yX1_addNote.desc).map (fun d => d.parameters.length) = some 5 := by decide +kernel
def wp_X1_addNote (notes : Int32) (noteRow : Nat → Int32) (v1 : Int32) (v2 : Int32) (v3 : Int32) (v4 : Int32) (v5 : Int32) (Post : Int32 → (Nat → Int32) → Prop) : Prop :=
  ((notes < 6 → (∀ x_2 : Int32, x_2 = notes * 5 → (vp_in x_2 30 ∧ (∀ f_4 : Nat → Int32, f_4 = upd noteRow x_2.toNatClampNeg v1 → (vp_in (x_2 + 1) 30 ∧ (∀ f_6 : Nat → Int32, f_6 = upd f_4 (x_2 + 1).toNatClampNeg v2 → (vp_in (x_2 + 2) 30 ∧ (∀ f_8 : Nat → Int32, f_8 = upd f_6 (x_2 + 2).toNatClampNeg v3 → (vp_in (x_2 + 3) 30 ∧ (∀ f_10 : Nat → Int32, f_10 = upd f_8 (x_2 + 3).toNatClampNeg v4 → (vp_in (x_2 + 4) 30 ∧ (∀ f_12 : Nat → Int32, f_12 = upd f_10 (x_2 + 4).toNatClampNeg v5 → (∀ x_13 : Int32, x_13 = notes + 1 → Post x_13 f_12))))))))))))) ∧ (¬ notes < 6 → Post notes noteRow))
set_option maxHeartbeats 4000000 in
set_option maxRecDepth 100000 in
theorem c_X1_addNote (l : Launch) (D : va_G) (cI cB cZ cP cC : ClassId) (a_c a_c_kind a_c_months a_c_home a_c_nurse a_c_skills a_c_noteRow a_c_soundRow a_c_pastRow a_K : Nat) (infants : Int32) (retired : Int32) (month : Int32) (notes : Int32) (sounds : Int32) (pasts : Int32) (noteRow : Nat → Int32) (v1 : Int32) (v2 : Int32) (v3 : Int32) (v4 : Int32) (v5 : Int32) (sz : Nat) (Post : Int32 → (Nat → Int32) → Prop) (hw : wp_X1_addNote notes noteRow v1 v2 v3 v4 v5 Post) :
    Met l yX1_addNote (Cond.code yX1_addNote cX1_addNote 7 none :: wsAll) rm_X1_addNote (va_Pc [.ref a_c, .int v1, .int v2, .int v3, .int v4, .int v5] (mxP D (mxTy cI cB cZ cP cC) sz (ww_X1_addNote a_c a_c_kind a_c_months a_c_home a_c_nurse a_c_skills a_c_noteRow a_c_soundRow a_c_pastRow a_K cI cB cZ cP cC infants retired month notes sounds pasts noteRow))) (qq_X1_addNote D a_c a_c_kind a_c_months a_c_home a_c_nurse a_c_skills a_c_noteRow a_c_soundRow a_c_pastRow a_K cI cB cZ cP cC infants retired month sounds pasts Post (va_A (ww_X1_addNote a_c a_c_kind a_c_months a_c_home a_c_nurse a_c_skills a_c_noteRow a_c_soundRow a_c_pastRow a_K cI cB cZ cP cC infants retired month notes sounds pasts noteRow) sz)) 0 0 (va_A (ww_X1_addNote a_c a_c_kind a_c_months a_c_home a_c_nurse a_c_skills a_c_noteRow a_c_soundRow a_c_pastRow a_K cI cB cZ cP cC infants retired month notes sounds pasts noteRow) sz) := by
  refine mx_of (Qc := qq_X1_addNote D a_c a_c_kind a_c_months a_c_home a_c_nurse a_c_skills a_c_noteRow a_c_soundRow a_c_pastRow a_K cI cB cZ cP cC infants retired month sounds pasts Post) (by decide) (Nat.le_of_ble_eq_true rfl) ?_
  intro p e s m bl meth c A ls C0 hP hD hS hl
  replace C0 : mxC p s m [.ref a_c, .int v1, .int v2, .int v3, .int v4, .int v5].toArray meth c cX1_addNote RX1 none 7 D (mxTy cI cB cZ cP cC) A := C0
  obtain ⟨hx, hb, hr, hlocks, hml, hown, hts, hK, hA⟩ := id C0
  replace hl : lv_has ls 7 [(0, .ref a_c), (1, .int v1), (2, .int v2), (3, .int v3), (4, .int v4), (5, .int v5)] := hl
  unfold wp_X1_addNote at hw
  refine lv_aload_n hx hb dX1_addNote_0 rfl (lv_at hl 0 rfl) ?_
  refine mx_get (ci := 1) (C := RX1) (T := TX1) (N := 15) hx hb hown in_wsX10 hts hK hP 0 rfl rfl 12 (by decide) q_121 rfl (v := .int notes) rfl dX1_addNote_1 ?_
  refine lv_bipush (v := 6) hx hb dX1_addNote_4 (by decide) ?_
  refine lv_icmp_lt (tgt := 10) hx hb dX1_addNote_6 (by decide) (fun c_1 => ?_) (fun c_1 => ?_)
  · replace hw := hw.1 c_1
    refine lv_aload_n hx hb dX1_addNote_10 rfl (lv_at hl 0 rfl) ?_
    refine mx_get (ci := 1) (C := RX1) (T := TX1) (N := 15) hx hb hown in_wsX10 hts hK hP 0 rfl rfl 12 (by decide) q_121 rfl (v := .int notes) rfl dX1_addNote_11 ?_
    refine lv_iconst (v := 5) hx hb dX1_addNote_14 (by decide) ?_
    refine lv_imul hx hb dX1_addNote_15 ?_
    refine lv_topi (fun x_2 ex_2 => ?_)
    replace hw := hw x_2 ex_2
    refine lv_istore (lv' := [(6, .int x_2), (0, .ref a_c), (1, .int v1), (2, .int v2), (3, .int v3), (4, .int v4), (5, .int v5)]) hx hb dX1_addNote_16 hl (by decide) rfl (fun ls hl => ?_)
    refine lv_aload_n hx hb dX1_addNote_18 rfl (lv_at hl 1 rfl) ?_
    refine mx_get (ci := 1) (C := RX1) (T := TX1) (N := 15) hx hb hown in_wsX10 hts hK hP 0 rfl rfl 6 (by decide) q_70 rfl (v := .ref a_c_noteRow) rfl dX1_addNote_19 ?_
    refine lv_iload hx hb dX1_addNote_22 (lv_at hl 0 rfl) ?_
    refine lv_iload_n hx hb dX1_addNote_24 rfl (lv_at hl 2 rfl) ?_
    obtain ⟨h_3, hw⟩ := hw
    obtain ⟨f_4, ef_4⟩ : ∃ y : Nat → Int32, y = upd noteRow x_2.toNatClampNeg v1 := ⟨_, rfl⟩
    replace hw := hw f_4 ef_4
    refine mx_iast hx hb hK hP hD hS 1 0 rfl rfl h_3 f_4 ef_4 (ww_X1_addNote a_c a_c_kind a_c_months a_c_home a_c_nurse a_c_skills a_c_noteRow a_c_soundRow a_c_pastRow a_K cI cB cZ cP cC infants retired month notes sounds pasts f_4) rfl dX1_addNote_25 (fun H locs hP hD hS => ?_)
    refine lv_aload_n hx hb dX1_addNote_26 rfl (lv_at hl 1 rfl) ?_
    refine mx_get (ci := 1) (C := RX1) (T := TX1) (N := 15) hx hb hown in_wsX10 hts hK hP 0 rfl rfl 6 (by decide) q_70 rfl (v := .ref a_c_noteRow) rfl dX1_addNote_27 ?_
    refine lv_iload hx hb dX1_addNote_30 (lv_at hl 0 rfl) ?_
    refine lv_iconst (v := 1) hx hb dX1_addNote_32 (by decide) ?_
    refine lv_iadd hx hb dX1_addNote_33 ?_
    refine lv_iload_n hx hb dX1_addNote_34 rfl (lv_at hl 3 rfl) ?_
    obtain ⟨h_5, hw⟩ := hw
    obtain ⟨f_6, ef_6⟩ : ∃ y : Nat → Int32, y = upd f_4 (x_2 + 1).toNatClampNeg v2 := ⟨_, rfl⟩
    replace hw := hw f_6 ef_6
    refine mx_iast hx hb hK hP hD hS 1 0 rfl rfl h_5 f_6 ef_6 (ww_X1_addNote a_c a_c_kind a_c_months a_c_home a_c_nurse a_c_skills a_c_noteRow a_c_soundRow a_c_pastRow a_K cI cB cZ cP cC infants retired month notes sounds pasts f_6) rfl dX1_addNote_35 (fun H locs hP hD hS => ?_)
    refine lv_aload_n hx hb dX1_addNote_36 rfl (lv_at hl 1 rfl) ?_
    refine mx_get (ci := 1) (C := RX1) (T := TX1) (N := 15) hx hb hown in_wsX10 hts hK hP 0 rfl rfl 6 (by decide) q_70 rfl (v := .ref a_c_noteRow) rfl dX1_addNote_37 ?_
    refine lv_iload hx hb dX1_addNote_40 (lv_at hl 0 rfl) ?_
    refine lv_iconst (v := 2) hx hb dX1_addNote_42 (by decide) ?_
    refine lv_iadd hx hb dX1_addNote_43 ?_
    refine lv_iload_n hx hb dX1_addNote_44 rfl (lv_at hl 4 rfl) ?_
    obtain ⟨h_7, hw⟩ := hw
    obtain ⟨f_8, ef_8⟩ : ∃ y : Nat → Int32, y = upd f_6 (x_2 + 2).toNatClampNeg v3 := ⟨_, rfl⟩
    replace hw := hw f_8 ef_8
    refine mx_iast hx hb hK hP hD hS 1 0 rfl rfl h_7 f_8 ef_8 (ww_X1_addNote a_c a_c_kind a_c_months a_c_home a_c_nurse a_c_skills a_c_noteRow a_c_soundRow a_c_pastRow a_K cI cB cZ cP cC infants retired month notes sounds pasts f_8) rfl dX1_addNote_45 (fun H locs hP hD hS => ?_)
    refine lv_aload_n hx hb dX1_addNote_46 rfl (lv_at hl 1 rfl) ?_
    refine mx_get (ci := 1) (C := RX1) (T := TX1) (N := 15) hx hb hown in_wsX10 hts hK hP 0 rfl rfl 6 (by decide) q_70 rfl (v := .ref a_c_noteRow) rfl dX1_addNote_47 ?_
    refine lv_iload hx hb dX1_addNote_50 (lv_at hl 0 rfl) ?_
    refine lv_iconst (v := 3) hx hb dX1_addNote_52 (by decide) ?_
    refine lv_iadd hx hb dX1_addNote_53 ?_
    refine lv_iload hx hb dX1_addNote_54 (lv_at hl 5 rfl) ?_
    obtain ⟨h_9, hw⟩ := hw
    obtain ⟨f_10, ef_10⟩ : ∃ y : Nat → Int32, y = upd f_8 (x_2 + 3).toNatClampNeg v4 := ⟨_, rfl⟩
    replace hw := hw f_10 ef_10
    refine mx_iast hx hb hK hP hD hS 1 0 rfl rfl h_9 f_10 ef_10 (ww_X1_addNote a_c a_c_kind a_c_months a_c_home a_c_nurse a_c_skills a_c_noteRow a_c_soundRow a_c_pastRow a_K cI cB cZ cP cC infants retired month notes sounds pasts f_10) rfl dX1_addNote_56 (fun H locs hP hD hS => ?_)
    refine lv_aload_n hx hb dX1_addNote_57 rfl (lv_at hl 1 rfl) ?_
    refine mx_get (ci := 1) (C := RX1) (T := TX1) (N := 15) hx hb hown in_wsX10 hts hK hP 0 rfl rfl 6 (by decide) q_70 rfl (v := .ref a_c_noteRow) rfl dX1_addNote_58 ?_
    refine lv_iload hx hb dX1_addNote_61 (lv_at hl 0 rfl) ?_
    refine lv_iconst (v := 4) hx hb dX1_addNote_63 (by decide) ?_
    refine lv_iadd hx hb dX1_addNote_64 ?_
    refine lv_iload hx hb dX1_addNote_65 (lv_at hl 6 rfl) ?_
    obtain ⟨h_11, hw⟩ := hw
    obtain ⟨f_12, ef_12⟩ : ∃ y : Nat → Int32, y = upd f_10 (x_2 + 4).toNatClampNeg v5 := ⟨_, rfl⟩
    replace hw := hw f_12 ef_12
    refine mx_iast hx hb hK hP hD hS 1 0 rfl rfl h_11 f_12 ef_12 (ww_X1_addNote a_c a_c_kind a_c_months a_c_home a_c_nurse a_c_skills a_c_noteRow a_c_soundRow a_c_pastRow a_K cI cB cZ cP cC infants retired month notes sounds pasts f_12) rfl dX1_addNote_67 (fun H locs hP hD hS => ?_)
    refine lv_aload_n hx hb dX1_addNote_68 rfl (lv_at hl 1 rfl) ?_
    refine lv_dup hx hb dX1_addNote_69 rfl ?_
    refine mx_get (ci := 1) (C := RX1) (T := TX1) (N := 15) hx hb hown in_wsX10 hts hK hP 0 rfl rfl 12 (by decide) q_121 rfl (v := .int notes) rfl dX1_addNote_70 ?_
    refine lv_iconst (v := 1) hx hb dX1_addNote_73 (by decide) ?_
    refine lv_iadd hx hb dX1_addNote_74 ?_
    refine lv_topi (fun x_13 ex_13 => ?_)
    replace hw := hw x_13 ex_13
    refine mx_put (ci := 1) (C := RX1) (T := TX1) (N := 15) hx hb hown in_wsX10 tyX1 tyX1_ok nmX1 hts hK hP hD hS 0 rfl rfl 12 (by decide) q_121 rfl rfl rfl rfl (Nat.le_of_ble_eq_true rfl) (ww_X1_addNote a_c a_c_kind a_c_months a_c_home a_c_nurse a_c_skills a_c_noteRow a_c_soundRow a_c_pastRow a_K cI cB cZ cP cC infants retired month x_13 sounds pasts f_12) rfl dX1_addNote_75 (fun H locs hP hD hS => ?_)
    exact mx_vret (x_13, f_12) hx hb hr hlocks hw hK hP hD hS dX1_addNote_78
  · replace hw := hw.2 c_1
    exact mx_vret (notes, noteRow) hx hb hr hlocks hw hK hP hD hS dX1_addNote_9
/-! PramState$Court.addSound(II)V -/
abbrev ww_X1_addSound (a_c a_c_kind a_c_months a_c_home a_c_nurse a_c_skills a_c_noteRow a_c_soundRow a_c_pastRow a_K : Nat) (cI cB cZ cP cC : ClassId) (infants : Int32) (retired : Int32) (month : Int32) (notes : Int32) (sounds : Int32) (pasts : Int32) (soundRow : Nat → Int32) : va_W := [(a_c, .inr (1, [.ref a_K, .ref a_c_kind, .ref a_c_months, .ref a_c_home, .ref a_c_nurse, .ref a_c_skills, .ref a_c_noteRow, .ref a_c_soundRow, .ref a_c_pastRow, .int infants, .int retired, .int month, .int notes, .int sounds, .int pasts])), (a_c_soundRow, .inl (cI, 12, .inl soundRow))]
abbrev qq_X1_addSound (D : va_G) (a_c a_c_kind a_c_months a_c_home a_c_nurse a_c_skills a_c_noteRow a_c_soundRow a_c_pastRow a_K : Nat) (cI cB cZ cP cC : ClassId) (infants : Int32) (retired : Int32) (month : Int32) (notes : Int32) (pasts : Int32) (Post : Int32 → (Nat → Int32) → Prop) (A : Nat → Prop) : Array Value → State → Outcome → State → Prop := va_Qv (fun (u : Int32 × (Nat → Int32)) => Post u.1 u.2) (fun (u : Int32 × (Nat → Int32)) t => mxB D (mxTy cI cB cZ cP cC) A (ww_X1_addSound a_c a_c_kind a_c_months a_c_home a_c_nurse a_c_skills a_c_noteRow a_c_soundRow a_c_pastRow a_K cI cB cZ cP cC infants retired month notes (u.1) pasts (u.2)) t) A
abbrev rm_X1_addSound : Room := { frames := 0, cells := 0, slots := 0, locals := 0 }
theorem hd_X1_addSound : yX1_addSound.cls = RX1 ∧ yX1_addSound.cls ≠ "java/lang/invoke/MethodHandle" ∧ yX1_addSound.cls ≠ "java/lang/invoke/VarHandle" ∧ (parseMethodDescriptor yX1_addSound.desc).map (fun d => d.parameters.length) = some 2 := by decide +kernel
def wp_X1_addSound (sounds : Int32) (soundRow : Nat → Int32) (v1 : Int32) (v2 : Int32) (Post : Int32 → (Nat → Int32) → Prop) : Prop :=
  ((sounds < 6 → (∀ x_2 : Int32, x_2 = sounds * 2 → (vp_in x_2 12 ∧ (∀ f_4 : Nat → Int32, f_4 = upd soundRow x_2.toNatClampNeg v1 → (vp_in (x_2 + 1) 12 ∧ (∀ f_6 : Nat → Int32, f_6 = upd f_4 (x_2 + 1).toNatClampNeg v2 → (∀ x_7 : Int32, x_7 = sounds + 1 → Post x_7 f_6))))))) ∧ (¬ sounds < 6 → Post sounds soundRow))
set_option maxHeartbeats 4000000 in
set_option maxRecDepth 100000 in
theorem c_X1_addSound (l : Launch) (D : va_G) (cI cB cZ cP cC : ClassId) (a_c a_c_kind a_c_months a_c_home a_c_nurse a_c_skills a_c_noteRow a_c_soundRow a_c_pastRow a_K : Nat) (infants : Int32) (retired : Int32) (month : Int32) (notes : Int32) (sounds : Int32) (pasts : Int32) (soundRow : Nat → Int32) (v1 : Int32) (v2 : Int32) (sz : Nat) (Post : Int32 → (Nat → Int32) → Prop) (hw : wp_X1_addSound sounds soundRow v1 v2 Post) :
    Met l yX1_addSound (Cond.code yX1_addSound cX1_addSound 4 none :: wsAll) rm_X1_addSound (va_Pc [.ref a_c, .int v1, .int v2] (mxP D (mxTy cI cB cZ cP cC) sz (ww_X1_addSound a_c a_c_kind a_c_months a_c_home a_c_nurse a_c_skills a_c_noteRow a_c_soundRow a_c_pastRow a_K cI cB cZ cP cC infants retired month notes sounds pasts soundRow))) (qq_X1_addSound D a_c a_c_kind a_c_months a_c_home a_c_nurse a_c_skills a_c_noteRow a_c_soundRow a_c_pastRow a_K cI cB cZ cP cC infants retired month notes pasts Post (va_A (ww_X1_addSound a_c a_c_kind a_c_months a_c_home a_c_nurse a_c_skills a_c_noteRow a_c_soundRow a_c_pastRow a_K cI cB cZ cP cC infants retired month notes sounds pasts soundRow) sz)) 0 0 (va_A (ww_X1_addSound a_c a_c_kind a_c_months a_c_home a_c_nurse a_c_skills a_c_noteRow a_c_soundRow a_c_pastRow a_K cI cB cZ cP cC infants retired month notes sounds pasts soundRow) sz) := by
  refine mx_of (Qc := qq_X1_addSound D a_c a_c_kind a_c_months a_c_home a_c_nurse a_c_skills a_c_noteRow a_c_soundRow a_c_pastRow a_K cI cB cZ cP cC infants retired month notes pasts Post) (by decide) (Nat.le_of_ble_eq_true rfl) ?_
  intro p e s m bl meth c A ls C0 hP hD hS hl
  replace C0 : mxC p s m [.ref a_c, .int v1, .int v2].toArray meth c cX1_addSound RX1 none 4 D (mxTy cI cB cZ cP cC) A := C0
  obtain ⟨hx, hb, hr, hlocks, hml, hown, hts, hK, hA⟩ := id C0
  replace hl : lv_has ls 4 [(0, .ref a_c), (1, .int v1), (2, .int v2)] := hl
  unfold wp_X1_addSound at hw
  refine lv_aload_n hx hb dX1_addSound_0 rfl (lv_at hl 0 rfl) ?_
  refine mx_get (ci := 1) (C := RX1) (T := TX1) (N := 15) hx hb hown in_wsX10 hts hK hP 0 rfl rfl 13 (by decide) q_122 rfl (v := .int sounds) rfl dX1_addSound_1 ?_
  refine lv_bipush (v := 6) hx hb dX1_addSound_4 (by decide) ?_
  refine lv_icmp_lt (tgt := 10) hx hb dX1_addSound_6 (by decide) (fun c_1 => ?_) (fun c_1 => ?_)
  · replace hw := hw.1 c_1
    refine lv_aload_n hx hb dX1_addSound_10 rfl (lv_at hl 0 rfl) ?_
    refine mx_get (ci := 1) (C := RX1) (T := TX1) (N := 15) hx hb hown in_wsX10 hts hK hP 0 rfl rfl 13 (by decide) q_122 rfl (v := .int sounds) rfl dX1_addSound_11 ?_
    refine lv_iconst (v := 2) hx hb dX1_addSound_14 (by decide) ?_
    refine lv_imul hx hb dX1_addSound_15 ?_
    refine lv_topi (fun x_2 ex_2 => ?_)
    replace hw := hw x_2 ex_2
    refine lv_istore_n (lv' := [(3, .int x_2), (0, .ref a_c), (1, .int v1), (2, .int v2)]) hx hb dX1_addSound_16 rfl hl (by decide) rfl (fun ls hl => ?_)
    refine lv_aload_n hx hb dX1_addSound_17 rfl (lv_at hl 1 rfl) ?_
    refine mx_get (ci := 1) (C := RX1) (T := TX1) (N := 15) hx hb hown in_wsX10 hts hK hP 0 rfl rfl 7 (by decide) q_71 rfl (v := .ref a_c_soundRow) rfl dX1_addSound_18 ?_
    refine lv_iload_n hx hb dX1_addSound_21 rfl (lv_at hl 0 rfl) ?_
    refine lv_iload_n hx hb dX1_addSound_22 rfl (lv_at hl 2 rfl) ?_
    obtain ⟨h_3, hw⟩ := hw
    obtain ⟨f_4, ef_4⟩ : ∃ y : Nat → Int32, y = upd soundRow x_2.toNatClampNeg v1 := ⟨_, rfl⟩
    replace hw := hw f_4 ef_4
    refine mx_iast hx hb hK hP hD hS 1 0 rfl rfl h_3 f_4 ef_4 (ww_X1_addSound a_c a_c_kind a_c_months a_c_home a_c_nurse a_c_skills a_c_noteRow a_c_soundRow a_c_pastRow a_K cI cB cZ cP cC infants retired month notes sounds pasts f_4) rfl dX1_addSound_23 (fun H locs hP hD hS => ?_)
    refine lv_aload_n hx hb dX1_addSound_24 rfl (lv_at hl 1 rfl) ?_
    refine mx_get (ci := 1) (C := RX1) (T := TX1) (N := 15) hx hb hown in_wsX10 hts hK hP 0 rfl rfl 7 (by decide) q_71 rfl (v := .ref a_c_soundRow) rfl dX1_addSound_25 ?_
    refine lv_iload_n hx hb dX1_addSound_28 rfl (lv_at hl 0 rfl) ?_
    refine lv_iconst (v := 1) hx hb dX1_addSound_29 (by decide) ?_
    refine lv_iadd hx hb dX1_addSound_30 ?_
    refine lv_iload_n hx hb dX1_addSound_31 rfl (lv_at hl 3 rfl) ?_
    obtain ⟨h_5, hw⟩ := hw
    obtain ⟨f_6, ef_6⟩ : ∃ y : Nat → Int32, y = upd f_4 (x_2 + 1).toNatClampNeg v2 := ⟨_, rfl⟩
    replace hw := hw f_6 ef_6
    refine mx_iast hx hb hK hP hD hS 1 0 rfl rfl h_5 f_6 ef_6 (ww_X1_addSound a_c a_c_kind a_c_months a_c_home a_c_nurse a_c_skills a_c_noteRow a_c_soundRow a_c_pastRow a_K cI cB cZ cP cC infants retired month notes sounds pasts f_6) rfl dX1_addSound_32 (fun H locs hP hD hS => ?_)
    refine lv_aload_n hx hb dX1_addSound_33 rfl (lv_at hl 1 rfl) ?_
    refine lv_dup hx hb dX1_addSound_34 rfl ?_
    refine mx_get (ci := 1) (C := RX1) (T := TX1) (N := 15) hx hb hown in_wsX10 hts hK hP 0 rfl rfl 13 (by decide) q_122 rfl (v := .int sounds) rfl dX1_addSound_35 ?_
    refine lv_iconst (v := 1) hx hb dX1_addSound_38 (by decide) ?_
    refine lv_iadd hx hb dX1_addSound_39 ?_
    refine lv_topi (fun x_7 ex_7 => ?_)
    replace hw := hw x_7 ex_7
    refine mx_put (ci := 1) (C := RX1) (T := TX1) (N := 15) hx hb hown in_wsX10 tyX1 tyX1_ok nmX1 hts hK hP hD hS 0 rfl rfl 13 (by decide) q_122 rfl rfl rfl rfl (Nat.le_of_ble_eq_true rfl) (ww_X1_addSound a_c a_c_kind a_c_months a_c_home a_c_nurse a_c_skills a_c_noteRow a_c_soundRow a_c_pastRow a_K cI cB cZ cP cC infants retired month notes x_7 pasts f_6) rfl dX1_addSound_40 (fun H locs hP hD hS => ?_)
    exact mx_vret (x_7, f_6) hx hb hr hlocks hw hK hP hD hS dX1_addSound_43
  · replace hw := hw.2 c_1
    exact mx_vret (sounds, soundRow) hx hb hr hlocks hw hK hP hD hS dX1_addSound_9
/-! PramState$Court.remember()V -/
abbrev ww_X1_remember (a_c a_c_kind a_c_months a_c_home a_c_nurse a_c_skills a_c_noteRow a_c_soundRow a_c_pastRow a_K : Nat) (cI cB cZ cP cC : ClassId) (infants : Int32) (retired : Int32) (month : Int32) (notes : Int32) (sounds : Int32) (pasts : Int32) (months : Nat → Int32) (nurse : Nat → Int32) (pastRow : Nat → Int32) : va_W := [(a_c, .inr (1, [.ref a_K, .ref a_c_kind, .ref a_c_months, .ref a_c_home, .ref a_c_nurse, .ref a_c_skills, .ref a_c_noteRow, .ref a_c_soundRow, .ref a_c_pastRow, .int infants, .int retired, .int month, .int notes, .int sounds, .int pasts])), (a_c_months, .inl (cI, 6, .inl months)), (a_c_nurse, .inl (cI, 6, .inl nurse)), (a_c_pastRow, .inl (cI, 112, .inl pastRow))]
abbrev qq_X1_remember (D : va_G) (a_c a_c_kind a_c_months a_c_home a_c_nurse a_c_skills a_c_noteRow a_c_soundRow a_c_pastRow a_K : Nat) (cI cB cZ cP cC : ClassId) (infants : Int32) (retired : Int32) (month : Int32) (notes : Int32) (sounds : Int32) (months : Nat → Int32) (nurse : Nat → Int32) (Post : Int32 → (Nat → Int32) → Prop) (A : Nat → Prop) : Array Value → State → Outcome → State → Prop := va_Qv (fun (u : Int32 × (Nat → Int32)) => Post u.1 u.2) (fun (u : Int32 × (Nat → Int32)) t => mxB D (mxTy cI cB cZ cP cC) A (ww_X1_remember a_c a_c_kind a_c_months a_c_home a_c_nurse a_c_skills a_c_noteRow a_c_soundRow a_c_pastRow a_K cI cB cZ cP cC infants retired month notes sounds (u.1) months nurse (u.2)) t) A
abbrev rm_X1_remember : Room := { frames := 1, cells := 0, slots := 0, locals := 60 }
theorem hd_X1_remember : yX1_remember.cls = RX1 ∧ yX1_remember.cls ≠ "java/lang/invoke/MethodHandle" ∧ yX1_remember.cls ≠ "java/lang/invoke/VarHandle" ∧ (parseMethodDescriptor yX1_remember.desc).map (fun d => d.parameters.length) = some 0 := by decide +kernel
def wp_X1_remember_J31 (retired : Int32) (month : Int32) (months : Nat → Int32) (nurse : Nat → Int32) (Post : Int32 → (Nat → Int32) → Prop)  (pasts : Int32) (pastRow : Nat → Int32) : Prop :=
  (∀ x_2 : Int32, x_2 = pasts * 14 → (vp_in x_2 112 ∧ (∀ f_4 : Nat → Int32, f_4 = upd pastRow x_2.toNatClampNeg month → (vp_in (x_2 + 1) 112 ∧ (∀ f_6 : Nat → Int32, f_6 = upd f_4 (x_2 + 1).toNatClampNeg retired → (¬ (x_2 + 2) < 0 ∧ ((x_2 + 2).toNatClampNeg + 6 ≤ 112 ∧ (∀ f_9 : Nat → Int32, f_9 = va_cpy months f_6 0 (x_2 + 2).toNatClampNeg 6 → (¬ ((x_2 + 2) + 6) < 0 ∧ (((x_2 + 2) + 6).toNatClampNeg + 6 ≤ 112 ∧ (∀ f_12 : Nat → Int32, f_12 = va_cpy nurse f_9 0 ((x_2 + 2) + 6).toNatClampNeg 6 → (∀ x_13 : Int32, x_13 = pasts + 1 → Post x_13 f_12))))))))))))
set_option maxHeartbeats 4000000 in
set_option maxRecDepth 100000 in
theorem k_X1_remember_J31 {p : Program} {l : Launch} {e : Env} {s : State} {m : MethodId} {ar : Array Value} {bl : List Frame} {meth : Method} {c : Code} {D : va_G} {A : Nat → Prop} {cI cB cZ cP cC : ClassId} {a_c a_c_kind a_c_months a_c_home a_c_nurse a_c_skills a_c_noteRow a_c_soundRow a_c_pastRow a_K : Nat} {infants : Int32} {retired : Int32} {month : Int32} {notes : Int32} {sounds : Int32} {months : Nat → Int32} {nurse : Nat → Int32} {Post : Int32 → (Nat → Int32) → Prop} (C0 : mxC p s m ar meth c cX1_remember RX1 none 2 D (mxTy cI cB cZ cP cC) A) :
    ∀ (pasts : Int32) (pastRow : Nat → Int32) (H : Heap) (locs : List Loc) (ls : Array Slot), va_P D vwCl (ww_X1_remember a_c a_c_kind a_c_months a_c_home a_c_nurse a_c_skills a_c_noteRow a_c_soundRow a_c_pastRow a_K cI cB cZ cP cC infants retired month notes sounds pasts months nurse pastRow) H → va_D A (ww_X1_remember a_c a_c_kind a_c_months a_c_home a_c_nurse a_c_skills a_c_noteRow a_c_soundRow a_c_pastRow a_K cI cB cZ cP cC infants retired month notes sounds pasts months nurse pastRow) → va_S A s.heap H locs → lv_has ls 2 [(0, .ref a_c)] → wp_X1_remember_J31 retired month months nurse Post  pasts pastRow → W p l e rm_X1_remember s m ar bl meth c H locs 0 0 (MQ bl (qq_X1_remember D a_c a_c_kind a_c_months a_c_home a_c_nurse a_c_skills a_c_noteRow a_c_soundRow a_c_pastRow a_K cI cB cZ cP cC infants retired month notes sounds months nurse Post A) ar s 0 0 A) (F0 m 31 ls []) := by
  obtain ⟨hx, hb, hr, hlocks, hml, hown, hts, hK, hA⟩ := id C0
  intro pasts pastRow H locs ls hP hD hS hl hw
  refine lv_aload_n hx hb dX1_remember_31 rfl (lv_at hl 0 rfl) ?_
  refine mx_get (ci := 1) (C := RX1) (T := TX1) (N := 15) hx hb hown in_wsX10 hts hK hP 0 rfl rfl 14 (by decide) q_123 rfl (v := .int pasts) rfl dX1_remember_32 ?_
  refine lv_bipush (v := 14) hx hb dX1_remember_35 (by decide) ?_
  refine lv_imul hx hb dX1_remember_37 ?_
  refine lv_topi (fun x_2 ex_2 => ?_)
  replace hw := hw x_2 ex_2
  refine lv_istore_n (lv' := [(1, .int x_2), (0, .ref a_c)]) hx hb dX1_remember_38 rfl hl (by decide) rfl (fun ls hl => ?_)
  refine lv_aload_n hx hb dX1_remember_39 rfl (lv_at hl 1 rfl) ?_
  refine mx_get (ci := 1) (C := RX1) (T := TX1) (N := 15) hx hb hown in_wsX10 hts hK hP 0 rfl rfl 8 (by decide) q_72 rfl (v := .ref a_c_pastRow) rfl dX1_remember_40 ?_
  refine lv_iload_n hx hb dX1_remember_43 rfl (lv_at hl 0 rfl) ?_
  refine lv_aload_n hx hb dX1_remember_44 rfl (lv_at hl 1 rfl) ?_
  refine mx_get (ci := 1) (C := RX1) (T := TX1) (N := 15) hx hb hown in_wsX10 hts hK hP 0 rfl rfl 11 (by decide) q_120 rfl (v := .int month) rfl dX1_remember_45 ?_
  obtain ⟨h_3, hw⟩ := hw
  obtain ⟨f_4, ef_4⟩ : ∃ y : Nat → Int32, y = upd pastRow x_2.toNatClampNeg month := ⟨_, rfl⟩
  replace hw := hw f_4 ef_4
  refine mx_iast hx hb hK hP hD hS 3 0 rfl rfl h_3 f_4 ef_4 (ww_X1_remember a_c a_c_kind a_c_months a_c_home a_c_nurse a_c_skills a_c_noteRow a_c_soundRow a_c_pastRow a_K cI cB cZ cP cC infants retired month notes sounds pasts months nurse f_4) rfl dX1_remember_48 (fun H locs hP hD hS => ?_)
  refine lv_aload_n hx hb dX1_remember_49 rfl (lv_at hl 1 rfl) ?_
  refine mx_get (ci := 1) (C := RX1) (T := TX1) (N := 15) hx hb hown in_wsX10 hts hK hP 0 rfl rfl 8 (by decide) q_72 rfl (v := .ref a_c_pastRow) rfl dX1_remember_50 ?_
  refine lv_iload_n hx hb dX1_remember_53 rfl (lv_at hl 0 rfl) ?_
  refine lv_iconst (v := 1) hx hb dX1_remember_54 (by decide) ?_
  refine lv_iadd hx hb dX1_remember_55 ?_
  refine lv_aload_n hx hb dX1_remember_56 rfl (lv_at hl 1 rfl) ?_
  refine mx_get (ci := 1) (C := RX1) (T := TX1) (N := 15) hx hb hown in_wsX10 hts hK hP 0 rfl rfl 10 (by decide) q_119 rfl (v := .int retired) rfl dX1_remember_57 ?_
  obtain ⟨h_5, hw⟩ := hw
  obtain ⟨f_6, ef_6⟩ : ∃ y : Nat → Int32, y = upd f_4 (x_2 + 1).toNatClampNeg retired := ⟨_, rfl⟩
  replace hw := hw f_6 ef_6
  refine mx_iast hx hb hK hP hD hS 3 0 rfl rfl h_5 f_6 ef_6 (ww_X1_remember a_c a_c_kind a_c_months a_c_home a_c_nurse a_c_skills a_c_noteRow a_c_soundRow a_c_pastRow a_K cI cB cZ cP cC infants retired month notes sounds pasts months nurse f_6) rfl dX1_remember_60 (fun H locs hP hD hS => ?_)
  refine lv_aload_n hx hb dX1_remember_61 rfl (lv_at hl 1 rfl) ?_
  refine mx_get (ci := 1) (C := RX1) (T := TX1) (N := 15) hx hb hown in_wsX10 hts hK hP 0 rfl rfl 2 (by decide) q_66 rfl (v := .ref a_c_months) rfl dX1_remember_62 ?_
  refine lv_iconst (v := 0) hx hb dX1_remember_65 (by decide) ?_
  refine lv_aload_n hx hb dX1_remember_66 rfl (lv_at hl 1 rfl) ?_
  refine mx_get (ci := 1) (C := RX1) (T := TX1) (N := 15) hx hb hown in_wsX10 hts hK hP 0 rfl rfl 8 (by decide) q_72 rfl (v := .ref a_c_pastRow) rfl dX1_remember_67 ?_
  refine lv_iload_n hx hb dX1_remember_70 rfl (lv_at hl 0 rfl) ?_
  refine lv_iconst (v := 2) hx hb dX1_remember_71 (by decide) ?_
  refine lv_iadd hx hb dX1_remember_72 ?_
  refine lv_bipush (v := 6) hx hb dX1_remember_73 (by decide) ?_
  obtain ⟨h_7, hw⟩ := hw
  obtain ⟨h_8, hw⟩ := hw
  obtain ⟨f_9, ef_9⟩ : ∃ y : Nat → Int32, y = va_cpy months f_6 0 (x_2 + 2).toNatClampNeg 6 := ⟨_, rfl⟩
  replace hw := hw f_9 ef_9
  refine mx_copy hx hb hml hl.1 hown hts q_329 q_330 q_331 q_332 hK hP hD hS 1 3 0 rfl rfl rfl (by decide) h_7 (by decide) (by decide) h_8 f_9 ef_9 (ww_X1_remember a_c a_c_kind a_c_months a_c_home a_c_nurse a_c_skills a_c_noteRow a_c_soundRow a_c_pastRow a_K cI cB cZ cP cC infants retired month notes sounds pasts months nurse f_9) rfl (Nat.le_of_ble_eq_true rfl) (Nat.le_of_ble_eq_true rfl) dX1_remember_75 (fun H locs hP hD hS => ?_)
  refine lv_aload_n hx hb dX1_remember_78 rfl (lv_at hl 1 rfl) ?_
  refine mx_get (ci := 1) (C := RX1) (T := TX1) (N := 15) hx hb hown in_wsX10 hts hK hP 0 rfl rfl 4 (by decide) q_68 rfl (v := .ref a_c_nurse) rfl dX1_remember_79 ?_
  refine lv_iconst (v := 0) hx hb dX1_remember_82 (by decide) ?_
  refine lv_aload_n hx hb dX1_remember_83 rfl (lv_at hl 1 rfl) ?_
  refine mx_get (ci := 1) (C := RX1) (T := TX1) (N := 15) hx hb hown in_wsX10 hts hK hP 0 rfl rfl 8 (by decide) q_72 rfl (v := .ref a_c_pastRow) rfl dX1_remember_84 ?_
  refine lv_iload_n hx hb dX1_remember_87 rfl (lv_at hl 0 rfl) ?_
  refine lv_iconst (v := 2) hx hb dX1_remember_88 (by decide) ?_
  refine lv_iadd hx hb dX1_remember_89 ?_
  refine lv_bipush (v := 6) hx hb dX1_remember_90 (by decide) ?_
  refine lv_iadd hx hb dX1_remember_92 ?_
  refine lv_bipush (v := 6) hx hb dX1_remember_93 (by decide) ?_
  obtain ⟨h_10, hw⟩ := hw
  obtain ⟨h_11, hw⟩ := hw
  obtain ⟨f_12, ef_12⟩ : ∃ y : Nat → Int32, y = va_cpy nurse f_9 0 ((x_2 + 2) + 6).toNatClampNeg 6 := ⟨_, rfl⟩
  replace hw := hw f_12 ef_12
  refine mx_copy hx hb hml hl.1 hown hts q_329 q_330 q_331 q_332 hK hP hD hS 2 3 0 rfl rfl rfl (by decide) h_10 (by decide) (by decide) h_11 f_12 ef_12 (ww_X1_remember a_c a_c_kind a_c_months a_c_home a_c_nurse a_c_skills a_c_noteRow a_c_soundRow a_c_pastRow a_K cI cB cZ cP cC infants retired month notes sounds pasts months nurse f_12) rfl (Nat.le_of_ble_eq_true rfl) (Nat.le_of_ble_eq_true rfl) dX1_remember_95 (fun H locs hP hD hS => ?_)
  refine lv_aload_n hx hb dX1_remember_98 rfl (lv_at hl 1 rfl) ?_
  refine lv_dup hx hb dX1_remember_99 rfl ?_
  refine mx_get (ci := 1) (C := RX1) (T := TX1) (N := 15) hx hb hown in_wsX10 hts hK hP 0 rfl rfl 14 (by decide) q_123 rfl (v := .int pasts) rfl dX1_remember_100 ?_
  refine lv_iconst (v := 1) hx hb dX1_remember_103 (by decide) ?_
  refine lv_iadd hx hb dX1_remember_104 ?_
  refine lv_topi (fun x_13 ex_13 => ?_)
  replace hw := hw x_13 ex_13
  refine mx_put (ci := 1) (C := RX1) (T := TX1) (N := 15) hx hb hown in_wsX10 tyX1 tyX1_ok nmX1 hts hK hP hD hS 0 rfl rfl 14 (by decide) q_123 rfl rfl rfl rfl (Nat.le_of_ble_eq_true rfl) (ww_X1_remember a_c a_c_kind a_c_months a_c_home a_c_nurse a_c_skills a_c_noteRow a_c_soundRow a_c_pastRow a_K cI cB cZ cP cC infants retired month notes sounds x_13 months nurse f_12) rfl dX1_remember_105 (fun H locs hP hD hS => ?_)
  exact mx_vret (x_13, f_12) hx hb hr hlocks hw hK hP hD hS dX1_remember_108
def wp_X1_remember (retired : Int32) (month : Int32) (months : Nat → Int32) (nurse : Nat → Int32) (pasts : Int32) (pastRow : Nat → Int32) (Post : Int32 → (Nat → Int32) → Prop) : Prop :=
  ((pasts < 8 → (wp_X1_remember_J31 retired month months nurse Post pasts pastRow)) ∧ (¬ pasts < 8 → (∀ f_14 : Nat → Int32, f_14 = va_cpy pastRow pastRow 14 0 98 → (wp_X1_remember_J31 retired month months nurse Post 7 f_14))))
set_option maxHeartbeats 4000000 in
set_option maxRecDepth 100000 in
theorem c_X1_remember (l : Launch) (D : va_G) (cI cB cZ cP cC : ClassId) (a_c a_c_kind a_c_months a_c_home a_c_nurse a_c_skills a_c_noteRow a_c_soundRow a_c_pastRow a_K : Nat) (infants : Int32) (retired : Int32) (month : Int32) (notes : Int32) (sounds : Int32) (pasts : Int32) (months : Nat → Int32) (nurse : Nat → Int32) (pastRow : Nat → Int32)  (sz : Nat) (Post : Int32 → (Nat → Int32) → Prop) (hw : wp_X1_remember retired month months nurse pasts pastRow Post) :
    Met l yX1_remember (Cond.code yX1_remember cX1_remember 2 none :: wsAll) rm_X1_remember (va_Pc [.ref a_c] (mxP D (mxTy cI cB cZ cP cC) sz (ww_X1_remember a_c a_c_kind a_c_months a_c_home a_c_nurse a_c_skills a_c_noteRow a_c_soundRow a_c_pastRow a_K cI cB cZ cP cC infants retired month notes sounds pasts months nurse pastRow))) (qq_X1_remember D a_c a_c_kind a_c_months a_c_home a_c_nurse a_c_skills a_c_noteRow a_c_soundRow a_c_pastRow a_K cI cB cZ cP cC infants retired month notes sounds months nurse Post (va_A (ww_X1_remember a_c a_c_kind a_c_months a_c_home a_c_nurse a_c_skills a_c_noteRow a_c_soundRow a_c_pastRow a_K cI cB cZ cP cC infants retired month notes sounds pasts months nurse pastRow) sz)) 0 0 (va_A (ww_X1_remember a_c a_c_kind a_c_months a_c_home a_c_nurse a_c_skills a_c_noteRow a_c_soundRow a_c_pastRow a_K cI cB cZ cP cC infants retired month notes sounds pasts months nurse pastRow) sz) := by
  refine mx_of (Qc := qq_X1_remember D a_c a_c_kind a_c_months a_c_home a_c_nurse a_c_skills a_c_noteRow a_c_soundRow a_c_pastRow a_K cI cB cZ cP cC infants retired month notes sounds months nurse Post) (by decide) (Nat.le_of_ble_eq_true rfl) ?_
  intro p e s m bl meth c A ls C0 hP hD hS hl
  replace C0 : mxC p s m [.ref a_c].toArray meth c cX1_remember RX1 none 2 D (mxTy cI cB cZ cP cC) A := C0
  obtain ⟨hx, hb, hr, hlocks, hml, hown, hts, hK, hA⟩ := id C0
  replace hl : lv_has ls 2 [(0, .ref a_c)] := hl
  unfold wp_X1_remember at hw
  refine lv_aload_n hx hb dX1_remember_0 rfl (lv_at hl 0 rfl) ?_
  refine mx_get (ci := 1) (C := RX1) (T := TX1) (N := 15) hx hb hown in_wsX10 hts hK hP 0 rfl rfl 14 (by decide) q_123 rfl (v := .int pasts) rfl dX1_remember_1 ?_
  refine lv_bipush (v := 8) hx hb dX1_remember_4 (by decide) ?_
  refine lv_icmp_lt (tgt := 31) hx hb dX1_remember_6 (by decide) (fun c_1 => ?_) (fun c_1 => ?_)
  · replace hw := hw.1 c_1
    exact k_X1_remember_J31 C0  pasts pastRow _ _ _ hP hD hS (lv_sub hl [0] rfl) hw
  · replace hw := hw.2 c_1
    refine lv_aload_n hx hb dX1_remember_9 rfl (lv_at hl 0 rfl) ?_
    refine mx_get (ci := 1) (C := RX1) (T := TX1) (N := 15) hx hb hown in_wsX10 hts hK hP 0 rfl rfl 8 (by decide) q_72 rfl (v := .ref a_c_pastRow) rfl dX1_remember_10 ?_
    refine lv_bipush (v := 14) hx hb dX1_remember_13 (by decide) ?_
    refine lv_aload_n hx hb dX1_remember_15 rfl (lv_at hl 0 rfl) ?_
    refine mx_get (ci := 1) (C := RX1) (T := TX1) (N := 15) hx hb hown in_wsX10 hts hK hP 0 rfl rfl 8 (by decide) q_72 rfl (v := .ref a_c_pastRow) rfl dX1_remember_16 ?_
    refine lv_iconst (v := 0) hx hb dX1_remember_19 (by decide) ?_
    refine lv_bipush (v := 98) hx hb dX1_remember_20 (by decide) ?_
    obtain ⟨f_14, ef_14⟩ : ∃ y : Nat → Int32, y = va_cpy pastRow pastRow 14 0 98 := ⟨_, rfl⟩
    replace hw := hw f_14 ef_14
    refine mx_copy hx hb hml hl.1 hown hts q_329 q_330 q_331 q_332 hK hP hD hS 3 3 0 rfl rfl rfl (by decide) (by decide) (by decide) (by decide) (by decide) f_14 ef_14 (ww_X1_remember a_c a_c_kind a_c_months a_c_home a_c_nurse a_c_skills a_c_noteRow a_c_soundRow a_c_pastRow a_K cI cB cZ cP cC infants retired month notes sounds pasts months nurse f_14) rfl (Nat.le_of_ble_eq_true rfl) (Nat.le_of_ble_eq_true rfl) dX1_remember_22 (fun H locs hP hD hS => ?_)
    refine lv_aload_n hx hb dX1_remember_25 rfl (lv_at hl 0 rfl) ?_
    refine lv_bipush (v := 7) hx hb dX1_remember_26 (by decide) ?_
    refine mx_put (ci := 1) (C := RX1) (T := TX1) (N := 15) hx hb hown in_wsX10 tyX1 tyX1_ok nmX1 hts hK hP hD hS 0 rfl rfl 14 (by decide) q_123 rfl rfl rfl rfl (Nat.le_of_ble_eq_true rfl) (ww_X1_remember a_c a_c_kind a_c_months a_c_home a_c_nurse a_c_skills a_c_noteRow a_c_soundRow a_c_pastRow a_K cI cB cZ cP cC infants retired month notes sounds 7 months nurse f_14) rfl dX1_remember_28 (fun H locs hP hD hS => ?_)
    exact k_X1_remember_J31 C0  7 f_14 _ _ _ hP hD hS (lv_sub hl [0] rfl) hw
/-! PramState$Court.recall()V -/
abbrev ww_X1_recall (a_c a_c_kind a_c_months a_c_home a_c_nurse a_c_skills a_c_noteRow a_c_soundRow a_c_pastRow a_K : Nat) (cI cB cZ cP cC : ClassId) (infants : Int32) (retired : Int32) (month : Int32) (notes : Int32) (sounds : Int32) (pasts : Int32) (months : Nat → Int32) (nurse : Nat → Int32) (pastRow : Nat → Int32) : va_W := [(a_c, .inr (1, [.ref a_K, .ref a_c_kind, .ref a_c_months, .ref a_c_home, .ref a_c_nurse, .ref a_c_skills, .ref a_c_noteRow, .ref a_c_soundRow, .ref a_c_pastRow, .int infants, .int retired, .int month, .int notes, .int sounds, .int pasts])), (a_c_months, .inl (cI, 6, .inl months)), (a_c_nurse, .inl (cI, 6, .inl nurse)), (a_c_pastRow, .inl (cI, 112, .inl pastRow))]
abbrev qq_X1_recall (D : va_G) (a_c a_c_kind a_c_months a_c_home a_c_nurse a_c_skills a_c_noteRow a_c_soundRow a_c_pastRow a_K : Nat) (cI cB cZ cP cC : ClassId) (infants : Int32) (notes : Int32) (sounds : Int32) (pastRow : Nat → Int32) (Post : Int32 → Int32 → Int32 → (Nat → Int32) → (Nat → Int32) → Prop) (A : Nat → Prop) : Array Value → State → Outcome → State → Prop := va_Qv (fun (u : Int32 × Int32 × Int32 × (Nat → Int32) × (Nat → Int32)) => Post u.1 u.2.1 u.2.2.1 u.2.2.2.1 u.2.2.2.2) (fun (u : Int32 × Int32 × Int32 × (Nat → Int32) × (Nat → Int32)) t => mxB D (mxTy cI cB cZ cP cC) A (ww_X1_recall a_c a_c_kind a_c_months a_c_home a_c_nurse a_c_skills a_c_noteRow a_c_soundRow a_c_pastRow a_K cI cB cZ cP cC infants (u.1) (u.2.1) notes sounds (u.2.2.1) (u.2.2.2.1) (u.2.2.2.2) pastRow) t) A
abbrev rm_X1_recall : Room := { frames := 1, cells := 0, slots := 0, locals := 60 }
theorem hd_X1_recall : yX1_recall.cls = RX1 ∧ yX1_recall.cls ≠ "java/lang/invoke/MethodHandle" ∧ yX1_recall.cls ≠ "java/lang/invoke/VarHandle" ∧ (parseMethodDescriptor yX1_recall.desc).map (fun d => d.parameters.length) = some 0 := by decide +kernel
def wp_X1_recall (pastRow : Nat → Int32) (retired : Int32) (month : Int32) (pasts : Int32) (months : Nat → Int32) (nurse : Nat → Int32) (Post : Int32 → Int32 → Int32 → (Nat → Int32) → (Nat → Int32) → Prop) : Prop :=
  ((0 < pasts → (∀ x_2 : Int32, x_2 = pasts - 1 → (∀ x_3 : Int32, x_3 = x_2 * 14 → (vp_in x_3 112 ∧ (∀ x_5 : Int32, x_5 = pastRow x_3.toNatClampNeg → (vp_in (x_3 + 1) 112 ∧ (∀ x_7 : Int32, x_7 = pastRow (x_3 + 1).toNatClampNeg → (¬ (x_3 + 2) < 0 ∧ ((x_3 + 2).toNatClampNeg + 6 ≤ 112 ∧ (∀ f_10 : Nat → Int32, f_10 = va_cpy pastRow months (x_3 + 2).toNatClampNeg 0 6 → (¬ ((x_3 + 2) + 6) < 0 ∧ (((x_3 + 2) + 6).toNatClampNeg + 6 ≤ 112 ∧ (∀ f_13 : Nat → Int32, f_13 = va_cpy pastRow nurse ((x_3 + 2) + 6).toNatClampNeg 0 6 → Post x_7 x_5 x_2 f_10 f_13))))))))))))) ∧ (¬ 0 < pasts → Post retired month pasts months nurse))
set_option maxHeartbeats 4000000 in
set_option maxRecDepth 100000 in
theorem c_X1_recall (l : Launch) (D : va_G) (cI cB cZ cP cC : ClassId) (a_c a_c_kind a_c_months a_c_home a_c_nurse a_c_skills a_c_noteRow a_c_soundRow a_c_pastRow a_K : Nat) (infants : Int32) (retired : Int32) (month : Int32) (notes : Int32) (sounds : Int32) (pasts : Int32) (months : Nat → Int32) (nurse : Nat → Int32) (pastRow : Nat → Int32)  (sz : Nat) (Post : Int32 → Int32 → Int32 → (Nat → Int32) → (Nat → Int32) → Prop) (hw : wp_X1_recall pastRow retired month pasts months nurse Post) :
    Met l yX1_recall (Cond.code yX1_recall cX1_recall 2 none :: wsAll) rm_X1_recall (va_Pc [.ref a_c] (mxP D (mxTy cI cB cZ cP cC) sz (ww_X1_recall a_c a_c_kind a_c_months a_c_home a_c_nurse a_c_skills a_c_noteRow a_c_soundRow a_c_pastRow a_K cI cB cZ cP cC infants retired month notes sounds pasts months nurse pastRow))) (qq_X1_recall D a_c a_c_kind a_c_months a_c_home a_c_nurse a_c_skills a_c_noteRow a_c_soundRow a_c_pastRow a_K cI cB cZ cP cC infants notes sounds pastRow Post (va_A (ww_X1_recall a_c a_c_kind a_c_months a_c_home a_c_nurse a_c_skills a_c_noteRow a_c_soundRow a_c_pastRow a_K cI cB cZ cP cC infants retired month notes sounds pasts months nurse pastRow) sz)) 0 0 (va_A (ww_X1_recall a_c a_c_kind a_c_months a_c_home a_c_nurse a_c_skills a_c_noteRow a_c_soundRow a_c_pastRow a_K cI cB cZ cP cC infants retired month notes sounds pasts months nurse pastRow) sz) := by
  refine mx_of (Qc := qq_X1_recall D a_c a_c_kind a_c_months a_c_home a_c_nurse a_c_skills a_c_noteRow a_c_soundRow a_c_pastRow a_K cI cB cZ cP cC infants notes sounds pastRow Post) (by decide) (Nat.le_of_ble_eq_true rfl) ?_
  intro p e s m bl meth c A ls C0 hP hD hS hl
  replace C0 : mxC p s m [.ref a_c].toArray meth c cX1_recall RX1 none 2 D (mxTy cI cB cZ cP cC) A := C0
  obtain ⟨hx, hb, hr, hlocks, hml, hown, hts, hK, hA⟩ := id C0
  replace hl : lv_has ls 2 [(0, .ref a_c)] := hl
  unfold wp_X1_recall at hw
  refine lv_aload_n hx hb dX1_recall_0 rfl (lv_at hl 0 rfl) ?_
  refine mx_get (ci := 1) (C := RX1) (T := TX1) (N := 15) hx hb hown in_wsX10 hts hK hP 0 rfl rfl 14 (by decide) q_123 rfl (v := .int pasts) rfl dX1_recall_1 ?_
  refine lv_if_gt (tgt := 8) hx hb dX1_recall_4 (by decide) (fun c_1 => ?_) (fun c_1 => ?_)
  · replace hw := hw.1 c_1
    refine lv_aload_n hx hb dX1_recall_8 rfl (lv_at hl 0 rfl) ?_
    refine lv_dup hx hb dX1_recall_9 rfl ?_
    refine mx_get (ci := 1) (C := RX1) (T := TX1) (N := 15) hx hb hown in_wsX10 hts hK hP 0 rfl rfl 14 (by decide) q_123 rfl (v := .int pasts) rfl dX1_recall_10 ?_
    refine lv_iconst (v := 1) hx hb dX1_recall_13 (by decide) ?_
    refine lv_isub hx hb dX1_recall_14 ?_
    refine lv_topi (fun x_2 ex_2 => ?_)
    replace hw := hw x_2 ex_2
    refine mx_put (ci := 1) (C := RX1) (T := TX1) (N := 15) hx hb hown in_wsX10 tyX1 tyX1_ok nmX1 hts hK hP hD hS 0 rfl rfl 14 (by decide) q_123 rfl rfl rfl rfl (Nat.le_of_ble_eq_true rfl) (ww_X1_recall a_c a_c_kind a_c_months a_c_home a_c_nurse a_c_skills a_c_noteRow a_c_soundRow a_c_pastRow a_K cI cB cZ cP cC infants retired month notes sounds x_2 months nurse pastRow) rfl dX1_recall_15 (fun H locs hP hD hS => ?_)
    refine lv_aload_n hx hb dX1_recall_18 rfl (lv_at hl 0 rfl) ?_
    refine mx_get (ci := 1) (C := RX1) (T := TX1) (N := 15) hx hb hown in_wsX10 hts hK hP 0 rfl rfl 14 (by decide) q_123 rfl (v := .int x_2) rfl dX1_recall_19 ?_
    refine lv_bipush (v := 14) hx hb dX1_recall_22 (by decide) ?_
    refine lv_imul hx hb dX1_recall_24 ?_
    refine lv_topi (fun x_3 ex_3 => ?_)
    replace hw := hw x_3 ex_3
    refine lv_istore_n (lv' := [(1, .int x_3), (0, .ref a_c)]) hx hb dX1_recall_25 rfl hl (by decide) rfl (fun ls hl => ?_)
    refine lv_aload_n hx hb dX1_recall_26 rfl (lv_at hl 1 rfl) ?_
    refine lv_aload_n hx hb dX1_recall_27 rfl (lv_at hl 1 rfl) ?_
    refine mx_get (ci := 1) (C := RX1) (T := TX1) (N := 15) hx hb hown in_wsX10 hts hK hP 0 rfl rfl 8 (by decide) q_72 rfl (v := .ref a_c_pastRow) rfl dX1_recall_28 ?_
    refine lv_iload_n hx hb dX1_recall_31 rfl (lv_at hl 0 rfl) ?_
    obtain ⟨h_4, hw⟩ := hw
    refine mx_iald hx hb hK hP 3 0 rfl rfl h_4 (pastRow x_3.toNatClampNeg) rfl dX1_recall_32 ?_
    refine lv_topi (fun x_5 ex_5 => ?_)
    replace hw := hw x_5 ex_5
    refine mx_put (ci := 1) (C := RX1) (T := TX1) (N := 15) hx hb hown in_wsX10 tyX1 tyX1_ok nmX1 hts hK hP hD hS 0 rfl rfl 11 (by decide) q_120 rfl rfl rfl rfl (Nat.le_of_ble_eq_true rfl) (ww_X1_recall a_c a_c_kind a_c_months a_c_home a_c_nurse a_c_skills a_c_noteRow a_c_soundRow a_c_pastRow a_K cI cB cZ cP cC infants retired x_5 notes sounds x_2 months nurse pastRow) rfl dX1_recall_33 (fun H locs hP hD hS => ?_)
    refine lv_aload_n hx hb dX1_recall_36 rfl (lv_at hl 1 rfl) ?_
    refine lv_aload_n hx hb dX1_recall_37 rfl (lv_at hl 1 rfl) ?_
    refine mx_get (ci := 1) (C := RX1) (T := TX1) (N := 15) hx hb hown in_wsX10 hts hK hP 0 rfl rfl 8 (by decide) q_72 rfl (v := .ref a_c_pastRow) rfl dX1_recall_38 ?_
    refine lv_iload_n hx hb dX1_recall_41 rfl (lv_at hl 0 rfl) ?_
    refine lv_iconst (v := 1) hx hb dX1_recall_42 (by decide) ?_
    refine lv_iadd hx hb dX1_recall_43 ?_
    obtain ⟨h_6, hw⟩ := hw
    refine mx_iald hx hb hK hP 3 0 rfl rfl h_6 (pastRow (x_3 + 1).toNatClampNeg) rfl dX1_recall_44 ?_
    refine lv_topi (fun x_7 ex_7 => ?_)
    replace hw := hw x_7 ex_7
    refine mx_put (ci := 1) (C := RX1) (T := TX1) (N := 15) hx hb hown in_wsX10 tyX1 tyX1_ok nmX1 hts hK hP hD hS 0 rfl rfl 10 (by decide) q_119 rfl rfl rfl rfl (Nat.le_of_ble_eq_true rfl) (ww_X1_recall a_c a_c_kind a_c_months a_c_home a_c_nurse a_c_skills a_c_noteRow a_c_soundRow a_c_pastRow a_K cI cB cZ cP cC infants x_7 x_5 notes sounds x_2 months nurse pastRow) rfl dX1_recall_45 (fun H locs hP hD hS => ?_)
    refine lv_aload_n hx hb dX1_recall_48 rfl (lv_at hl 1 rfl) ?_
    refine mx_get (ci := 1) (C := RX1) (T := TX1) (N := 15) hx hb hown in_wsX10 hts hK hP 0 rfl rfl 8 (by decide) q_72 rfl (v := .ref a_c_pastRow) rfl dX1_recall_49 ?_
    refine lv_iload_n hx hb dX1_recall_52 rfl (lv_at hl 0 rfl) ?_
    refine lv_iconst (v := 2) hx hb dX1_recall_53 (by decide) ?_
    refine lv_iadd hx hb dX1_recall_54 ?_
    refine lv_aload_n hx hb dX1_recall_55 rfl (lv_at hl 1 rfl) ?_
    refine mx_get (ci := 1) (C := RX1) (T := TX1) (N := 15) hx hb hown in_wsX10 hts hK hP 0 rfl rfl 2 (by decide) q_66 rfl (v := .ref a_c_months) rfl dX1_recall_56 ?_
    refine lv_iconst (v := 0) hx hb dX1_recall_59 (by decide) ?_
    refine lv_bipush (v := 6) hx hb dX1_recall_60 (by decide) ?_
    obtain ⟨h_8, hw⟩ := hw
    obtain ⟨h_9, hw⟩ := hw
    obtain ⟨f_10, ef_10⟩ : ∃ y : Nat → Int32, y = va_cpy pastRow months (x_3 + 2).toNatClampNeg 0 6 := ⟨_, rfl⟩
    replace hw := hw f_10 ef_10
    refine mx_copy hx hb hml hl.1 hown hts q_329 q_330 q_331 q_332 hK hP hD hS 3 1 0 rfl rfl rfl h_8 (by decide) (by decide) h_9 (by decide) f_10 ef_10 (ww_X1_recall a_c a_c_kind a_c_months a_c_home a_c_nurse a_c_skills a_c_noteRow a_c_soundRow a_c_pastRow a_K cI cB cZ cP cC infants x_7 x_5 notes sounds x_2 f_10 nurse pastRow) rfl (Nat.le_of_ble_eq_true rfl) (Nat.le_of_ble_eq_true rfl) dX1_recall_62 (fun H locs hP hD hS => ?_)
    refine lv_aload_n hx hb dX1_recall_65 rfl (lv_at hl 1 rfl) ?_
    refine mx_get (ci := 1) (C := RX1) (T := TX1) (N := 15) hx hb hown in_wsX10 hts hK hP 0 rfl rfl 8 (by decide) q_72 rfl (v := .ref a_c_pastRow) rfl dX1_recall_66 ?_
    refine lv_iload_n hx hb dX1_recall_69 rfl (lv_at hl 0 rfl) ?_
    refine lv_iconst (v := 2) hx hb dX1_recall_70 (by decide) ?_
    refine lv_iadd hx hb dX1_recall_71 ?_
    refine lv_bipush (v := 6) hx hb dX1_recall_72 (by decide) ?_
    refine lv_iadd hx hb dX1_recall_74 ?_
    refine lv_aload_n hx hb dX1_recall_75 rfl (lv_at hl 1 rfl) ?_
    refine mx_get (ci := 1) (C := RX1) (T := TX1) (N := 15) hx hb hown in_wsX10 hts hK hP 0 rfl rfl 4 (by decide) q_68 rfl (v := .ref a_c_nurse) rfl dX1_recall_76 ?_
    refine lv_iconst (v := 0) hx hb dX1_recall_79 (by decide) ?_
    refine lv_bipush (v := 6) hx hb dX1_recall_80 (by decide) ?_
    obtain ⟨h_11, hw⟩ := hw
    obtain ⟨h_12, hw⟩ := hw
    obtain ⟨f_13, ef_13⟩ : ∃ y : Nat → Int32, y = va_cpy pastRow nurse ((x_3 + 2) + 6).toNatClampNeg 0 6 := ⟨_, rfl⟩
    replace hw := hw f_13 ef_13
    refine mx_copy hx hb hml hl.1 hown hts q_329 q_330 q_331 q_332 hK hP hD hS 3 2 0 rfl rfl rfl h_11 (by decide) (by decide) h_12 (by decide) f_13 ef_13 (ww_X1_recall a_c a_c_kind a_c_months a_c_home a_c_nurse a_c_skills a_c_noteRow a_c_soundRow a_c_pastRow a_K cI cB cZ cP cC infants x_7 x_5 notes sounds x_2 f_10 f_13 pastRow) rfl (Nat.le_of_ble_eq_true rfl) (Nat.le_of_ble_eq_true rfl) dX1_recall_82 (fun H locs hP hD hS => ?_)
    exact mx_vret (x_7, x_5, x_2, f_10, f_13) hx hb hr hlocks hw hK hP hD hS dX1_recall_85
  · replace hw := hw.2 c_1
    exact mx_vret (retired, month, pasts, months, nurse) hx hb hr hlocks hw hK hP hD hS dX1_recall_7
/-! PramState$Court.isRetired(I)Z -/
abbrev ww_X1_isRetired (a_c a_c_kind a_c_months a_c_home a_c_nurse a_c_skills a_c_noteRow a_c_soundRow a_c_pastRow a_K : Nat) (cI cB cZ cP cC : ClassId) (infants : Int32) (retired : Int32) (month : Int32) (notes : Int32) (sounds : Int32) (pasts : Int32) : va_W := [(a_c, .inr (1, [.ref a_K, .ref a_c_kind, .ref a_c_months, .ref a_c_home, .ref a_c_nurse, .ref a_c_skills, .ref a_c_noteRow, .ref a_c_soundRow, .ref a_c_pastRow, .int infants, .int retired, .int month, .int notes, .int sounds, .int pasts]))]
abbrev qq_X1_isRetired (D : va_G) (a_c a_c_kind a_c_months a_c_home a_c_nurse a_c_skills a_c_noteRow a_c_soundRow a_c_pastRow a_K : Nat) (cI cB cZ cP cC : ClassId) (infants : Int32) (retired : Int32) (month : Int32) (notes : Int32) (sounds : Int32) (pasts : Int32) (Post : Int32 → Prop) (A : Nat → Prop) : Array Value → State → Outcome → State → Prop := va_Qi (fun (r : Int32) (u : Unit) => Post r) (fun (u : Unit) t => mxB D (mxTy cI cB cZ cP cC) A (ww_X1_isRetired a_c a_c_kind a_c_months a_c_home a_c_nurse a_c_skills a_c_noteRow a_c_soundRow a_c_pastRow a_K cI cB cZ cP cC infants retired month notes sounds pasts) t) A
abbrev rm_X1_isRetired : Room := { frames := 0, cells := 0, slots := 0, locals := 0 }
theorem hd_X1_isRetired : yX1_isRetired.cls = RX1 ∧ yX1_isRetired.cls ≠ "java/lang/invoke/MethodHandle" ∧ yX1_isRetired.cls ≠ "java/lang/invoke/VarHandle" ∧ (parseMethodDescriptor yX1_isRetired.desc).map (fun d => d.parameters.length) = some 1 := by decide +kernel
def wp_X1_isRetired (retired : Int32) (v1 : Int32) (Post : Int32 → Prop) : Prop :=
  ((((retired >>> (v1 &&& 31)) &&& 1) = 1 → Post 1) ∧ (¬ ((retired >>> (v1 &&& 31)) &&& 1) = 1 → Post 0))
set_option maxHeartbeats 4000000 in
set_option maxRecDepth 100000 in
theorem c_X1_isRetired (l : Launch) (D : va_G) (cI cB cZ cP cC : ClassId) (a_c a_c_kind a_c_months a_c_home a_c_nurse a_c_skills a_c_noteRow a_c_soundRow a_c_pastRow a_K : Nat) (infants : Int32) (retired : Int32) (month : Int32) (notes : Int32) (sounds : Int32) (pasts : Int32) (v1 : Int32) (sz : Nat) (Post : Int32 → Prop) (hw : wp_X1_isRetired retired v1 Post) :
    Met l yX1_isRetired (Cond.code yX1_isRetired cX1_isRetired 2 (some .boolean) :: wsAll) rm_X1_isRetired (va_Pc [.ref a_c, .int v1] (mxP D (mxTy cI cB cZ cP cC) sz (ww_X1_isRetired a_c a_c_kind a_c_months a_c_home a_c_nurse a_c_skills a_c_noteRow a_c_soundRow a_c_pastRow a_K cI cB cZ cP cC infants retired month notes sounds pasts))) (qq_X1_isRetired D a_c a_c_kind a_c_months a_c_home a_c_nurse a_c_skills a_c_noteRow a_c_soundRow a_c_pastRow a_K cI cB cZ cP cC infants retired month notes sounds pasts Post (va_A (ww_X1_isRetired a_c a_c_kind a_c_months a_c_home a_c_nurse a_c_skills a_c_noteRow a_c_soundRow a_c_pastRow a_K cI cB cZ cP cC infants retired month notes sounds pasts) sz)) 0 0 (va_A (ww_X1_isRetired a_c a_c_kind a_c_months a_c_home a_c_nurse a_c_skills a_c_noteRow a_c_soundRow a_c_pastRow a_K cI cB cZ cP cC infants retired month notes sounds pasts) sz) := by
  refine mx_of (Qc := qq_X1_isRetired D a_c a_c_kind a_c_months a_c_home a_c_nurse a_c_skills a_c_noteRow a_c_soundRow a_c_pastRow a_K cI cB cZ cP cC infants retired month notes sounds pasts Post) (by decide) (Nat.le_of_ble_eq_true rfl) ?_
  intro p e s m bl meth c A ls C0 hP hD hS hl
  replace C0 : mxC p s m [.ref a_c, .int v1].toArray meth c cX1_isRetired RX1 (some .boolean) 2 D (mxTy cI cB cZ cP cC) A := C0
  obtain ⟨hx, hb, hr, hlocks, hml, hown, hts, hK, hA⟩ := id C0
  replace hl : lv_has ls 2 [(0, .ref a_c), (1, .int v1)] := hl
  unfold wp_X1_isRetired at hw
  refine lv_aload_n hx hb dX1_isRetired_0 rfl (lv_at hl 0 rfl) ?_
  refine mx_get (ci := 1) (C := RX1) (T := TX1) (N := 15) hx hb hown in_wsX10 hts hK hP 0 rfl rfl 10 (by decide) q_119 rfl (v := .int retired) rfl dX1_isRetired_1 ?_
  refine lv_iload_n hx hb dX1_isRetired_4 rfl (lv_at hl 1 rfl) ?_
  refine lv_ishr hx hb dX1_isRetired_5 ?_
  refine lv_iconst (v := 1) hx hb dX1_isRetired_6 (by decide) ?_
  refine lv_iand hx hb dX1_isRetired_7 ?_
  refine lv_iconst (v := 1) hx hb dX1_isRetired_8 (by decide) ?_
  refine lv_icmp_ne (tgt := 16) hx hb dX1_isRetired_9 (by decide) (fun c_1 => ?_) (fun c_1 => ?_)
  · replace hw := hw.2 c_1
    refine lv_iconst (v := 0) hx hb dX1_isRetired_16 (by decide) ?_
    exact mx_iret () hx hb hr hlocks rfl hw hK hP hD hS dX1_isRetired_17
  · replace hw := hw.1 c_1
    refine lv_iconst (v := 1) hx hb dX1_isRetired_12 (by decide) ?_
    refine lv_goto (tgt := 17) hx hb dX1_isRetired_13 (by decide) ?_
    exact mx_iret () hx hb hr hlocks rfl hw hK hP hD hS dX1_isRetired_17
/-! PramState$Court.walkingAge(I)I -/
abbrev ww_X1_walkingAge (a_c a_c_kind a_c_months a_c_home a_c_nurse a_c_skills a_c_noteRow a_c_soundRow a_c_pastRow a_K a_k0 a_k1 a_k2 a_k3 a_k4 a_k5 : Nat) (cI cB cZ cP cC : ClassId) (infants : Int32) (retired : Int32) (month : Int32) (notes : Int32) (sounds : Int32) (pasts : Int32) (kind : Nat → Int32) : va_W := [(a_c, .inr (1, [.ref a_K, .ref a_c_kind, .ref a_c_months, .ref a_c_home, .ref a_c_nurse, .ref a_c_skills, .ref a_c_noteRow, .ref a_c_soundRow, .ref a_c_pastRow, .int infants, .int retired, .int month, .int notes, .int sounds, .int pasts])), (a_c_kind, .inl (cI, 6, .inl kind)), (a_K, .inl (cP, 6, .inr (.inr (.inr (.inr (mx_kf a_k0 a_k1 a_k2 a_k3 a_k4 a_k5)))))), (a_k0, .inr (6, [])), (a_k1, .inr (8, [])), (a_k2, .inr (7, [])), (a_k3, .inr (3, [])), (a_k4, .inr (4, [])), (a_k5, .inr (0, []))]
abbrev qq_X1_walkingAge (D : va_G) (a_c a_c_kind a_c_months a_c_home a_c_nurse a_c_skills a_c_noteRow a_c_soundRow a_c_pastRow a_K a_k0 a_k1 a_k2 a_k3 a_k4 a_k5 : Nat) (cI cB cZ cP cC : ClassId) (infants : Int32) (retired : Int32) (month : Int32) (notes : Int32) (sounds : Int32) (pasts : Int32) (kind : Nat → Int32) (Post : Int32 → Prop) (A : Nat → Prop) : Array Value → State → Outcome → State → Prop := va_Qi (fun (r : Int32) (u : Unit) => Post r) (fun (u : Unit) t => mxB D (mxTy cI cB cZ cP cC) A (ww_X1_walkingAge a_c a_c_kind a_c_months a_c_home a_c_nurse a_c_skills a_c_noteRow a_c_soundRow a_c_pastRow a_K a_k0 a_k1 a_k2 a_k3 a_k4 a_k5 cI cB cZ cP cC infants retired month notes sounds pasts kind) t) A
abbrev rm_X1_walkingAge : Room := { frames := 2, cells := 0, slots := 0, locals := 40 }
theorem hd_X1_walkingAge : yX1_walkingAge.cls = RX1 ∧ yX1_walkingAge.cls ≠ "java/lang/invoke/MethodHandle" ∧ yX1_walkingAge.cls ≠ "java/lang/invoke/VarHandle" ∧ (parseMethodDescriptor yX1_walkingAge.desc).map (fun d => d.parameters.length) = some 1 := by decide +kernel
def wp_X1_walkingAge_J14 (kind : Nat → Int32) (Post : Int32 → Prop)  (s0 : Int32) : Prop :=
  Post s0
set_option maxHeartbeats 4000000 in
set_option maxRecDepth 100000 in
theorem k_X1_walkingAge_J14 {p : Program} {l : Launch} {e : Env} {s : State} {m : MethodId} {ar : Array Value} {bl : List Frame} {meth : Method} {c : Code} {D : va_G} {A : Nat → Prop} {cI cB cZ cP cC : ClassId} {a_c a_c_kind a_c_months a_c_home a_c_nurse a_c_skills a_c_noteRow a_c_soundRow a_c_pastRow a_K a_k0 a_k1 a_k2 a_k3 a_k4 a_k5 : Nat} {infants : Int32} {retired : Int32} {month : Int32} {notes : Int32} {sounds : Int32} {pasts : Int32} {kind : Nat → Int32} {Post : Int32 → Prop} (C0 : mxC p s m ar meth c cX1_walkingAge RX1 (some .int) 2 D (mxTy cI cB cZ cP cC) A) :
    ∀ (s0 : Int32) (H : Heap) (locs : List Loc) (ls : Array Slot), va_P D vwCl (ww_X1_walkingAge a_c a_c_kind a_c_months a_c_home a_c_nurse a_c_skills a_c_noteRow a_c_soundRow a_c_pastRow a_K a_k0 a_k1 a_k2 a_k3 a_k4 a_k5 cI cB cZ cP cC infants retired month notes sounds pasts kind) H → va_D A (ww_X1_walkingAge a_c a_c_kind a_c_months a_c_home a_c_nurse a_c_skills a_c_noteRow a_c_soundRow a_c_pastRow a_K a_k0 a_k1 a_k2 a_k3 a_k4 a_k5 cI cB cZ cP cC infants retired month notes sounds pasts kind) → va_S A s.heap H locs → lv_has ls 2 [] → wp_X1_walkingAge_J14 kind Post  s0 → W p l e rm_X1_walkingAge s m ar bl meth c H locs 0 0 (MQ bl (qq_X1_walkingAge D a_c a_c_kind a_c_months a_c_home a_c_nurse a_c_skills a_c_noteRow a_c_soundRow a_c_pastRow a_K a_k0 a_k1 a_k2 a_k3 a_k4 a_k5 cI cB cZ cP cC infants retired month notes sounds pasts kind Post A) ar s 0 0 A) (F0 m 14 ls [.int s0]) := by
  obtain ⟨hx, hb, hr, hlocks, hml, hown, hts, hK, hA⟩ := id C0
  intro s0 H locs ls hP hD hS hl hw
  exact mx_iret () hx hb hr hlocks rfl hw hK hP hD hS dX1_walkingAge_14
def wp_X1_walkingAge (kind : Nat → Int32) (v1 : Int32) (Post : Int32 → Prop) : Prop :=
  (vp_in v1 6 ∧ (vp_in (kind v1.toNatClampNeg) 6 ∧ (wpv_walksWith (kind v1.toNatClampNeg).toNatClampNeg  (fun r_4 => (wp_X1_walkingAge_J14 kind Post r_4)))))
set_option maxHeartbeats 4000000 in
set_option maxRecDepth 100000 in
theorem c_X1_walkingAge (l : Launch) (D : va_G) (cI cB cZ cP cC : ClassId) (a_c a_c_kind a_c_months a_c_home a_c_nurse a_c_skills a_c_noteRow a_c_soundRow a_c_pastRow a_K a_k0 a_k1 a_k2 a_k3 a_k4 a_k5 : Nat) (infants : Int32) (retired : Int32) (month : Int32) (notes : Int32) (sounds : Int32) (pasts : Int32) (kind : Nat → Int32) (v1 : Int32) (sz : Nat) (Post : Int32 → Prop) (hw : wp_X1_walkingAge kind v1 Post) :
    Met l yX1_walkingAge (Cond.code yX1_walkingAge cX1_walkingAge 2 (some .int) :: wsAll) rm_X1_walkingAge (va_Pc [.ref a_c, .int v1] (mxP D (mxTy cI cB cZ cP cC) sz (ww_X1_walkingAge a_c a_c_kind a_c_months a_c_home a_c_nurse a_c_skills a_c_noteRow a_c_soundRow a_c_pastRow a_K a_k0 a_k1 a_k2 a_k3 a_k4 a_k5 cI cB cZ cP cC infants retired month notes sounds pasts kind))) (qq_X1_walkingAge D a_c a_c_kind a_c_months a_c_home a_c_nurse a_c_skills a_c_noteRow a_c_soundRow a_c_pastRow a_K a_k0 a_k1 a_k2 a_k3 a_k4 a_k5 cI cB cZ cP cC infants retired month notes sounds pasts kind Post (va_A (ww_X1_walkingAge a_c a_c_kind a_c_months a_c_home a_c_nurse a_c_skills a_c_noteRow a_c_soundRow a_c_pastRow a_K a_k0 a_k1 a_k2 a_k3 a_k4 a_k5 cI cB cZ cP cC infants retired month notes sounds pasts kind) sz)) 0 0 (va_A (ww_X1_walkingAge a_c a_c_kind a_c_months a_c_home a_c_nurse a_c_skills a_c_noteRow a_c_soundRow a_c_pastRow a_K a_k0 a_k1 a_k2 a_k3 a_k4 a_k5 cI cB cZ cP cC infants retired month notes sounds pasts kind) sz) := by
  refine mx_of (Qc := qq_X1_walkingAge D a_c a_c_kind a_c_months a_c_home a_c_nurse a_c_skills a_c_noteRow a_c_soundRow a_c_pastRow a_K a_k0 a_k1 a_k2 a_k3 a_k4 a_k5 cI cB cZ cP cC infants retired month notes sounds pasts kind Post) (by decide) (Nat.le_of_ble_eq_true rfl) ?_
  intro p e s m bl meth c A ls C0 hP hD hS hl
  replace C0 : mxC p s m [.ref a_c, .int v1].toArray meth c cX1_walkingAge RX1 (some .int) 2 D (mxTy cI cB cZ cP cC) A := C0
  obtain ⟨hx, hb, hr, hlocks, hml, hown, hts, hK, hA⟩ := id C0
  replace hl : lv_has ls 2 [(0, .ref a_c), (1, .int v1)] := hl
  unfold wp_X1_walkingAge at hw
  refine lv_aload_n hx hb dX1_walkingAge_0 rfl (lv_at hl 0 rfl) ?_
  refine mx_get (ci := 1) (C := RX1) (T := TX1) (N := 15) hx hb hown in_wsX10 hts hK hP 0 rfl rfl 0 (by decide) q_73 rfl (v := .ref a_K) rfl dX1_walkingAge_1 ?_
  refine lv_aload_n hx hb dX1_walkingAge_4 rfl (lv_at hl 0 rfl) ?_
  refine mx_get (ci := 1) (C := RX1) (T := TX1) (N := 15) hx hb hown in_wsX10 hts hK hP 0 rfl rfl 1 (by decide) q_65 rfl (v := .ref a_c_kind) rfl dX1_walkingAge_5 ?_
  refine lv_iload_n hx hb dX1_walkingAge_8 rfl (lv_at hl 1 rfl) ?_
  obtain ⟨h_1, hw⟩ := hw
  refine mx_iald hx hb hK hP 1 0 rfl rfl h_1 (kind v1.toNatClampNeg) rfl dX1_walkingAge_9 ?_
  obtain ⟨h_2, hw⟩ := hw
  refine mx_aldq hx hb hK hP 2 3 rfl rfl h_2 (mx_ka a_k0 a_k1 a_k2 a_k3 a_k4 a_k5 (kind v1.toNatClampNeg).toNatClampNeg) (mx_kf_at h_2) dX1_walkingAge_10 ?_
  rcases mx_six h_2 with e_3 | e_3 | e_3 | e_3 | e_3 | e_3
  · replace hw := hw.1 e_3
    refine W.eq (g2 := F0 m 11 ls [.ref a_k0]) (by rw [e_3]; rfl) ?_
    refine mx_ki (mx_rV (rm := rm_X6_walksWith) (rest := []) (C := RX6) hx hb hml hown hts (c_X6_walksWith l D cI cB cZ cP cC a_k0 _ _ hw) q_419 q_406 q_420 q_14 q_407 hd_X6_walksWith ⟨(Nat.le_of_ble_eq_true rfl), (Nat.le_of_ble_eq_true rfl)⟩ rfl rfl hK hP hD [] rfl rfl 6 3 rfl rfl rfl rfl hl.1 rfl (Nat.le_of_ble_eq_true rfl) dX1_walkingAge_11 ⟨(Nat.le_of_ble_eq_true rfl), (Nat.le_of_ble_eq_true rfl)⟩) hP hD hS hA [] [0, 1, 2, 3, 4, 5, 6, 7, 8] [0, 1, 2, 3, 4, 5, 6, 7, 8] (fun _ => ww_X1_walkingAge a_c a_c_kind a_c_months a_c_home a_c_nurse a_c_skills a_c_noteRow a_c_soundRow a_c_pastRow a_K a_k0 a_k1 a_k2 a_k3 a_k4 a_k5 cI cB cZ cP cC infants retired month notes sounds pasts kind) rfl rfl rfl (by decide) rfl (fun _ => rfl) (fun r_4 u H locs hw hP hD hS => ?_)
    try dsimp only at hw
    replace hP : va_P D vwCl (ww_X1_walkingAge a_c a_c_kind a_c_months a_c_home a_c_nurse a_c_skills a_c_noteRow a_c_soundRow a_c_pastRow a_K a_k0 a_k1 a_k2 a_k3 a_k4 a_k5 cI cB cZ cP cC infants retired month notes sounds pasts kind) H := hP
    replace hD : va_D A (ww_X1_walkingAge a_c a_c_kind a_c_months a_c_home a_c_nurse a_c_skills a_c_noteRow a_c_soundRow a_c_pastRow a_K a_k0 a_k1 a_k2 a_k3 a_k4 a_k5 cI cB cZ cP cC infants retired month notes sounds pasts kind) := hD
    exact k_X1_walkingAge_J14 C0  r_4 _ _ _ hP hD hS (lv_sub hl [] rfl) hw
  · replace hw := hw.2.1 e_3
    refine W.eq (g2 := F0 m 11 ls [.ref a_k1]) (by rw [e_3]; rfl) ?_
    refine mx_ki (mx_rU (x := yX6_walksWith) (y := yX6_walksWith) (rm := rm_X6_walksWith) (rest := []) (C := RX8) hx hb hml hown hts (c_X6_walksWith l D cI cB cZ cP cC a_k1 _ _ hw) q_419 q_404 q_406 q_422 q_406 q_14 q_407 q_407 hdu_X6_walksWith ⟨(Nat.le_of_ble_eq_true rfl), (Nat.le_of_ble_eq_true rfl)⟩ rfl rfl hK hP hD [] rfl rfl 8 4 rfl rfl rfl rfl hl.1 rfl (Nat.le_of_ble_eq_true rfl) dX1_walkingAge_11 ⟨(Nat.le_of_ble_eq_true rfl), (Nat.le_of_ble_eq_true rfl)⟩) hP hD hS hA [] [0, 1, 2, 3, 4, 5, 6, 7, 8] [0, 1, 2, 3, 4, 5, 6, 7, 8] (fun _ => ww_X1_walkingAge a_c a_c_kind a_c_months a_c_home a_c_nurse a_c_skills a_c_noteRow a_c_soundRow a_c_pastRow a_K a_k0 a_k1 a_k2 a_k3 a_k4 a_k5 cI cB cZ cP cC infants retired month notes sounds pasts kind) rfl rfl rfl (by decide) rfl (fun _ => rfl) (fun r_4 u H locs hw hP hD hS => ?_)
    try dsimp only at hw
    replace hP : va_P D vwCl (ww_X1_walkingAge a_c a_c_kind a_c_months a_c_home a_c_nurse a_c_skills a_c_noteRow a_c_soundRow a_c_pastRow a_K a_k0 a_k1 a_k2 a_k3 a_k4 a_k5 cI cB cZ cP cC infants retired month notes sounds pasts kind) H := hP
    replace hD : va_D A (ww_X1_walkingAge a_c a_c_kind a_c_months a_c_home a_c_nurse a_c_skills a_c_noteRow a_c_soundRow a_c_pastRow a_K a_k0 a_k1 a_k2 a_k3 a_k4 a_k5 cI cB cZ cP cC infants retired month notes sounds pasts kind) := hD
    exact k_X1_walkingAge_J14 C0  r_4 _ _ _ hP hD hS (lv_sub hl [] rfl) hw
  · replace hw := hw.2.2.1 e_3
    refine W.eq (g2 := F0 m 11 ls [.ref a_k2]) (by rw [e_3]; rfl) ?_
    refine mx_ki (mx_rU (x := yX6_walksWith) (y := yX6_walksWith) (rm := rm_X6_walksWith) (rest := []) (C := RX7) hx hb hml hown hts (c_X6_walksWith l D cI cB cZ cP cC a_k2 _ _ hw) q_419 q_404 q_406 q_421 q_406 q_14 q_407 q_407 hdu_X6_walksWith ⟨(Nat.le_of_ble_eq_true rfl), (Nat.le_of_ble_eq_true rfl)⟩ rfl rfl hK hP hD [] rfl rfl 7 5 rfl rfl rfl rfl hl.1 rfl (Nat.le_of_ble_eq_true rfl) dX1_walkingAge_11 ⟨(Nat.le_of_ble_eq_true rfl), (Nat.le_of_ble_eq_true rfl)⟩) hP hD hS hA [] [0, 1, 2, 3, 4, 5, 6, 7, 8] [0, 1, 2, 3, 4, 5, 6, 7, 8] (fun _ => ww_X1_walkingAge a_c a_c_kind a_c_months a_c_home a_c_nurse a_c_skills a_c_noteRow a_c_soundRow a_c_pastRow a_K a_k0 a_k1 a_k2 a_k3 a_k4 a_k5 cI cB cZ cP cC infants retired month notes sounds pasts kind) rfl rfl rfl (by decide) rfl (fun _ => rfl) (fun r_4 u H locs hw hP hD hS => ?_)
    try dsimp only at hw
    replace hP : va_P D vwCl (ww_X1_walkingAge a_c a_c_kind a_c_months a_c_home a_c_nurse a_c_skills a_c_noteRow a_c_soundRow a_c_pastRow a_K a_k0 a_k1 a_k2 a_k3 a_k4 a_k5 cI cB cZ cP cC infants retired month notes sounds pasts kind) H := hP
    replace hD : va_D A (ww_X1_walkingAge a_c a_c_kind a_c_months a_c_home a_c_nurse a_c_skills a_c_noteRow a_c_soundRow a_c_pastRow a_K a_k0 a_k1 a_k2 a_k3 a_k4 a_k5 cI cB cZ cP cC infants retired month notes sounds pasts kind) := hD
    exact k_X1_walkingAge_J14 C0  r_4 _ _ _ hP hD hS (lv_sub hl [] rfl) hw
  · replace hw := hw.2.2.2.1 e_3
    refine W.eq (g2 := F0 m 11 ls [.ref a_k3]) (by rw [e_3]; rfl) ?_
    refine mx_ki (mx_rU (x := yX6_walksWith) (y := yX3_walksWith) (rm := rm_X3_walksWith) (rest := []) (C := RX3) hx hb hml hown hts (c_X3_walksWith l D cI cB cZ cP cC a_k3 _ _ hw) q_419 q_404 q_406 q_409 q_410 q_23 q_411 q_407 hdu_X6_walksWith ⟨(Nat.le_of_ble_eq_true rfl), (Nat.le_of_ble_eq_true rfl)⟩ rfl rfl hK hP hD [6] rfl rfl 3 6 rfl rfl rfl rfl hl.1 rfl (Nat.le_of_ble_eq_true rfl) dX1_walkingAge_11 ⟨(Nat.le_of_ble_eq_true rfl), (Nat.le_of_ble_eq_true rfl)⟩) hP hD hS hA [6] [0, 1, 2, 3, 4, 5, 7, 8] [0, 1, 2, 3, 4, 5, 8, 6, 7] (fun _ => ww_X1_walkingAge a_c a_c_kind a_c_months a_c_home a_c_nurse a_c_skills a_c_noteRow a_c_soundRow a_c_pastRow a_K a_k0 a_k1 a_k2 a_k3 a_k4 a_k5 cI cB cZ cP cC infants retired month notes sounds pasts kind) rfl rfl rfl (by decide) rfl (fun _ => rfl) (fun r_4 u H locs hw hP hD hS => ?_)
    try dsimp only at hw
    replace hP : va_P D vwCl (ww_X1_walkingAge a_c a_c_kind a_c_months a_c_home a_c_nurse a_c_skills a_c_noteRow a_c_soundRow a_c_pastRow a_K a_k0 a_k1 a_k2 a_k3 a_k4 a_k5 cI cB cZ cP cC infants retired month notes sounds pasts kind) H := hP
    replace hD : va_D A (ww_X1_walkingAge a_c a_c_kind a_c_months a_c_home a_c_nurse a_c_skills a_c_noteRow a_c_soundRow a_c_pastRow a_K a_k0 a_k1 a_k2 a_k3 a_k4 a_k5 cI cB cZ cP cC infants retired month notes sounds pasts kind) := hD
    exact k_X1_walkingAge_J14 C0  r_4 _ _ _ hP hD hS (lv_sub hl [] rfl) hw
  · replace hw := hw.2.2.2.2.1 e_3
    refine W.eq (g2 := F0 m 11 ls [.ref a_k4]) (by rw [e_3]; rfl) ?_
    refine mx_ki (mx_rU (x := yX6_walksWith) (y := yX4_walksWith) (rm := rm_X4_walksWith) (rest := []) (C := RX4) hx hb hml hown hts (c_X4_walksWith l D cI cB cZ cP cC a_k4 _ _ hw) q_419 q_404 q_406 q_414 q_415 q_26 q_416 q_407 hdu_X6_walksWith ⟨(Nat.le_of_ble_eq_true rfl), (Nat.le_of_ble_eq_true rfl)⟩ rfl rfl hK hP hD [7] rfl rfl 4 7 rfl rfl rfl rfl hl.1 rfl (Nat.le_of_ble_eq_true rfl) dX1_walkingAge_11 ⟨(Nat.le_of_ble_eq_true rfl), (Nat.le_of_ble_eq_true rfl)⟩) hP hD hS hA [7] [0, 1, 2, 3, 4, 5, 6, 8] [0, 1, 2, 3, 4, 5, 6, 8, 7] (fun _ => ww_X1_walkingAge a_c a_c_kind a_c_months a_c_home a_c_nurse a_c_skills a_c_noteRow a_c_soundRow a_c_pastRow a_K a_k0 a_k1 a_k2 a_k3 a_k4 a_k5 cI cB cZ cP cC infants retired month notes sounds pasts kind) rfl rfl rfl (by decide) rfl (fun _ => rfl) (fun r_4 u H locs hw hP hD hS => ?_)
    try dsimp only at hw
    replace hP : va_P D vwCl (ww_X1_walkingAge a_c a_c_kind a_c_months a_c_home a_c_nurse a_c_skills a_c_noteRow a_c_soundRow a_c_pastRow a_K a_k0 a_k1 a_k2 a_k3 a_k4 a_k5 cI cB cZ cP cC infants retired month notes sounds pasts kind) H := hP
    replace hD : va_D A (ww_X1_walkingAge a_c a_c_kind a_c_months a_c_home a_c_nurse a_c_skills a_c_noteRow a_c_soundRow a_c_pastRow a_K a_k0 a_k1 a_k2 a_k3 a_k4 a_k5 cI cB cZ cP cC infants retired month notes sounds pasts kind) := hD
    exact k_X1_walkingAge_J14 C0  r_4 _ _ _ hP hD hS (lv_sub hl [] rfl) hw
  · replace hw := hw.2.2.2.2.2 e_3
    refine W.eq (g2 := F0 m 11 ls [.ref a_k5]) (by rw [e_3]; rfl) ?_
    refine mx_ki (mx_rU (x := yX6_walksWith) (y := yX6_walksWith) (rm := rm_X6_walksWith) (rest := []) (C := RX0) hx hb hml hown hts (c_X6_walksWith l D cI cB cZ cP cC a_k5 _ _ hw) q_419 q_404 q_406 q_405 q_406 q_14 q_407 q_407 hdu_X6_walksWith ⟨(Nat.le_of_ble_eq_true rfl), (Nat.le_of_ble_eq_true rfl)⟩ rfl rfl hK hP hD [] rfl rfl 0 8 rfl rfl rfl rfl hl.1 rfl (Nat.le_of_ble_eq_true rfl) dX1_walkingAge_11 ⟨(Nat.le_of_ble_eq_true rfl), (Nat.le_of_ble_eq_true rfl)⟩) hP hD hS hA [] [0, 1, 2, 3, 4, 5, 6, 7, 8] [0, 1, 2, 3, 4, 5, 6, 7, 8] (fun _ => ww_X1_walkingAge a_c a_c_kind a_c_months a_c_home a_c_nurse a_c_skills a_c_noteRow a_c_soundRow a_c_pastRow a_K a_k0 a_k1 a_k2 a_k3 a_k4 a_k5 cI cB cZ cP cC infants retired month notes sounds pasts kind) rfl rfl rfl (by decide) rfl (fun _ => rfl) (fun r_4 u H locs hw hP hD hS => ?_)
    try dsimp only at hw
    replace hP : va_P D vwCl (ww_X1_walkingAge a_c a_c_kind a_c_months a_c_home a_c_nurse a_c_skills a_c_noteRow a_c_soundRow a_c_pastRow a_K a_k0 a_k1 a_k2 a_k3 a_k4 a_k5 cI cB cZ cP cC infants retired month notes sounds pasts kind) H := hP
    replace hD : va_D A (ww_X1_walkingAge a_c a_c_kind a_c_months a_c_home a_c_nurse a_c_skills a_c_noteRow a_c_soundRow a_c_pastRow a_K a_k0 a_k1 a_k2 a_k3 a_k4 a_k5 cI cB cZ cP cC infants retired month notes sounds pasts kind) := hD
    exact k_X1_walkingAge_J14 C0  r_4 _ _ _ hP hD hS (lv_sub hl [] rfl) hw
/-! PramState$Court.passMonth()V -/
abbrev ww_X1_passMonth (a_c a_c_kind a_c_months a_c_home a_c_nurse a_c_skills a_c_noteRow a_c_soundRow a_c_pastRow a_K a_k0 a_k1 a_k2 a_k3 a_k4 a_k5 : Nat) (cI cB cZ cP cC : ClassId) (infants : Int32) (retired : Int32) (month : Int32) (notes : Int32) (sounds : Int32) (pasts : Int32) (kind : Nat → Int32) (months : Nat → Int32) : va_W := [(a_c, .inr (1, [.ref a_K, .ref a_c_kind, .ref a_c_months, .ref a_c_home, .ref a_c_nurse, .ref a_c_skills, .ref a_c_noteRow, .ref a_c_soundRow, .ref a_c_pastRow, .int infants, .int retired, .int month, .int notes, .int sounds, .int pasts])), (a_c_kind, .inl (cI, 6, .inl kind)), (a_c_months, .inl (cI, 6, .inl months)), (a_K, .inl (cP, 6, .inr (.inr (.inr (.inr (mx_kf a_k0 a_k1 a_k2 a_k3 a_k4 a_k5)))))), (a_k0, .inr (6, [])), (a_k1, .inr (8, [])), (a_k2, .inr (7, [])), (a_k3, .inr (3, [])), (a_k4, .inr (4, [])), (a_k5, .inr (0, []))]
abbrev qq_X1_passMonth (D : va_G) (a_c a_c_kind a_c_months a_c_home a_c_nurse a_c_skills a_c_noteRow a_c_soundRow a_c_pastRow a_K a_k0 a_k1 a_k2 a_k3 a_k4 a_k5 : Nat) (cI cB cZ cP cC : ClassId) (infants : Int32) (notes : Int32) (sounds : Int32) (pasts : Int32) (kind : Nat → Int32) (Post : Int32 → Int32 → (Nat → Int32) → Prop) (A : Nat → Prop) : Array Value → State → Outcome → State → Prop := va_Qv (fun (u : Int32 × Int32 × (Nat → Int32)) => Post u.1 u.2.1 u.2.2) (fun (u : Int32 × Int32 × (Nat → Int32)) t => mxB D (mxTy cI cB cZ cP cC) A (ww_X1_passMonth a_c a_c_kind a_c_months a_c_home a_c_nurse a_c_skills a_c_noteRow a_c_soundRow a_c_pastRow a_K a_k0 a_k1 a_k2 a_k3 a_k4 a_k5 cI cB cZ cP cC infants (u.1) (u.2.1) notes sounds pasts kind (u.2.2)) t) A
abbrev rm_X1_passMonth : Room := { frames := 3, cells := 0, slots := 0, locals := 61 }
theorem hd_X1_passMonth : yX1_passMonth.cls = RX1 ∧ yX1_passMonth.cls ≠ "java/lang/invoke/MethodHandle" ∧ yX1_passMonth.cls ≠ "java/lang/invoke/VarHandle" ∧ (parseMethodDescriptor yX1_passMonth.desc).map (fun d => d.parameters.length) = some 0 := by decide +kernel
def wp_X1_passMonth_J57 (infants : Int32) (kind : Nat → Int32) (Post : Int32 → Int32 → (Nat → Int32) → Prop) (K_2 : Int32 → Int32 → Int32 → (Nat → Int32) → Prop) (v1 : Int32) (retired : Int32) (month : Int32) (months : Nat → Int32) : Prop :=
  (∀ x_9 : Int32, x_9 = v1 + 1 → K_2 x_9 retired month months)
set_option maxHeartbeats 4000000 in
set_option maxRecDepth 100000 in
theorem k_X1_passMonth_J57 {p : Program} {l : Launch} {e : Env} {s : State} {m : MethodId} {ar : Array Value} {bl : List Frame} {meth : Method} {c : Code} {D : va_G} {A : Nat → Prop} {cI cB cZ cP cC : ClassId} {a_c a_c_kind a_c_months a_c_home a_c_nurse a_c_skills a_c_noteRow a_c_soundRow a_c_pastRow a_K a_k0 a_k1 a_k2 a_k3 a_k4 a_k5 : Nat} {infants : Int32} {notes : Int32} {sounds : Int32} {pasts : Int32} {kind : Nat → Int32} {Post : Int32 → Int32 → (Nat → Int32) → Prop} {K_2 : Int32 → Int32 → Int32 → (Nat → Int32) → Prop} (C0 : mxC p s m ar meth c cX1_passMonth RX1 none 2 D (mxTy cI cB cZ cP cC) A)
    (hK_2 : ∀ (v1 : Int32) (retired : Int32) (month : Int32) (months : Nat → Int32) (H : Heap) (locs : List Loc) (ls : Array Slot), va_P D vwCl (ww_X1_passMonth a_c a_c_kind a_c_months a_c_home a_c_nurse a_c_skills a_c_noteRow a_c_soundRow a_c_pastRow a_K a_k0 a_k1 a_k2 a_k3 a_k4 a_k5 cI cB cZ cP cC infants retired month notes sounds pasts kind months) H → va_D A (ww_X1_passMonth a_c a_c_kind a_c_months a_c_home a_c_nurse a_c_skills a_c_noteRow a_c_soundRow a_c_pastRow a_K a_k0 a_k1 a_k2 a_k3 a_k4 a_k5 cI cB cZ cP cC infants retired month notes sounds pasts kind months) → va_S A s.heap H locs → lv_has ls 2 [(0, .ref a_c), (1, .int v1)] → K_2 v1 retired month months → W p l e rm_X1_passMonth s m ar bl meth c H locs 0 0 (MQ bl (qq_X1_passMonth D a_c a_c_kind a_c_months a_c_home a_c_nurse a_c_skills a_c_noteRow a_c_soundRow a_c_pastRow a_K a_k0 a_k1 a_k2 a_k3 a_k4 a_k5 cI cB cZ cP cC infants notes sounds pasts kind Post A) ar s 0 0 A) (F0 m 2 ls [])) :
    ∀ (v1 : Int32) (retired : Int32) (month : Int32) (months : Nat → Int32) (H : Heap) (locs : List Loc) (ls : Array Slot), va_P D vwCl (ww_X1_passMonth a_c a_c_kind a_c_months a_c_home a_c_nurse a_c_skills a_c_noteRow a_c_soundRow a_c_pastRow a_K a_k0 a_k1 a_k2 a_k3 a_k4 a_k5 cI cB cZ cP cC infants retired month notes sounds pasts kind months) H → va_D A (ww_X1_passMonth a_c a_c_kind a_c_months a_c_home a_c_nurse a_c_skills a_c_noteRow a_c_soundRow a_c_pastRow a_K a_k0 a_k1 a_k2 a_k3 a_k4 a_k5 cI cB cZ cP cC infants retired month notes sounds pasts kind months) → va_S A s.heap H locs → lv_has ls 2 [(0, .ref a_c), (1, .int v1)] → wp_X1_passMonth_J57 infants kind Post K_2 v1 retired month months → W p l e rm_X1_passMonth s m ar bl meth c H locs 0 0 (MQ bl (qq_X1_passMonth D a_c a_c_kind a_c_months a_c_home a_c_nurse a_c_skills a_c_noteRow a_c_soundRow a_c_pastRow a_K a_k0 a_k1 a_k2 a_k3 a_k4 a_k5 cI cB cZ cP cC infants notes sounds pasts kind Post A) ar s 0 0 A) (F0 m 57 ls []) := by
  obtain ⟨hx, hb, hr, hlocks, hml, hown, hts, hK, hA⟩ := id C0
  intro v1 retired month months H locs ls hP hD hS hl hw
  obtain ⟨x_9, ex_9⟩ : ∃ y : Int32, y = v1 + 1 := ⟨_, rfl⟩
  replace hw := hw x_9 ex_9
  refine lv_iinc (v := x_9) (lv' := [(1, .int x_9), (0, .ref a_c)]) hx hb dX1_passMonth_57 hl (k := 1) rfl (by rw [ex_9]; rfl) (by decide) rfl (fun ls hl => ?_)
  refine lv_goto (tgt := 2) hx hb dX1_passMonth_60 (by decide) ?_
  exact hK_2 x_9 retired month months _ _ _ hP hD hS (lv_sub hl [1, 0] rfl) hw
def wp_X1_passMonth_L2 (infants : Int32) (kind : Nat → Int32) (Post : Int32 → Int32 → (Nat → Int32) → Prop) (K_63 : Int32 → Int32 → (Nat → Int32) → Prop) : Nat → Int32 → Int32 → Int32 → (Nat → Int32) → Prop
  | 0, _, _, _, _ => False
  | n + 1, v1, retired, month, months => ((infants ≤ v1 → K_63 retired month months) ∧ (¬ infants ≤ v1 → (wp_X1_isRetired retired v1 (fun r_2 => ((r_2 = 0 → (vp_in v1 6 ∧ (∀ x_5 : Int32, x_5 = (months v1.toNatClampNeg) + 1 → (∀ f_6 : Nat → Int32, f_6 = upd months v1.toNatClampNeg x_5 → (wp_X1_walkingAge kind v1 (fun r_7 => (((f_6 v1.toNatClampNeg) < r_7 → (wp_X1_passMonth_J57 infants kind Post (fun (v1_10 : Int32) (retired_11 : Int32) (month_12 : Int32) (months_13 : Nat → Int32) => wp_X1_passMonth_L2 infants kind Post K_63 n v1_10 retired_11 month_12 months_13) v1 retired month f_6)) ∧ (¬ (f_6 v1.toNatClampNeg) < r_7 → (∀ x_14 : Int32, x_14 = retired ||| (1 <<< (v1 &&& 31)) → (wp_X1_passMonth_J57 infants kind Post (fun (v1_15 : Int32) (retired_16 : Int32) (month_17 : Int32) (months_18 : Nat → Int32) => wp_X1_passMonth_L2 infants kind Post K_63 n v1_15 retired_16 month_17 months_18) v1 x_14 month f_6)))))))))) ∧ (¬ r_2 = 0 → (wp_X1_passMonth_J57 infants kind Post (fun (v1_19 : Int32) (retired_20 : Int32) (month_21 : Int32) (months_22 : Nat → Int32) => wp_X1_passMonth_L2 infants kind Post K_63 n v1_19 retired_20 month_21 months_22) v1 retired month months)))))))
set_option maxHeartbeats 4000000 in
set_option maxRecDepth 100000 in
theorem k_X1_passMonth_L2 {p : Program} {l : Launch} {e : Env} {s : State} {m : MethodId} {ar : Array Value} {bl : List Frame} {meth : Method} {c : Code} {D : va_G} {A : Nat → Prop} {cI cB cZ cP cC : ClassId} {a_c a_c_kind a_c_months a_c_home a_c_nurse a_c_skills a_c_noteRow a_c_soundRow a_c_pastRow a_K a_k0 a_k1 a_k2 a_k3 a_k4 a_k5 : Nat} {infants : Int32} {notes : Int32} {sounds : Int32} {pasts : Int32} {kind : Nat → Int32} {Post : Int32 → Int32 → (Nat → Int32) → Prop} {K_63 : Int32 → Int32 → (Nat → Int32) → Prop} (C0 : mxC p s m ar meth c cX1_passMonth RX1 none 2 D (mxTy cI cB cZ cP cC) A)
    (hK_63 : ∀ (retired : Int32) (month : Int32) (months : Nat → Int32) (H : Heap) (locs : List Loc) (ls : Array Slot), va_P D vwCl (ww_X1_passMonth a_c a_c_kind a_c_months a_c_home a_c_nurse a_c_skills a_c_noteRow a_c_soundRow a_c_pastRow a_K a_k0 a_k1 a_k2 a_k3 a_k4 a_k5 cI cB cZ cP cC infants retired month notes sounds pasts kind months) H → va_D A (ww_X1_passMonth a_c a_c_kind a_c_months a_c_home a_c_nurse a_c_skills a_c_noteRow a_c_soundRow a_c_pastRow a_K a_k0 a_k1 a_k2 a_k3 a_k4 a_k5 cI cB cZ cP cC infants retired month notes sounds pasts kind months) → va_S A s.heap H locs → lv_has ls 2 [(0, .ref a_c)] → K_63 retired month months → W p l e rm_X1_passMonth s m ar bl meth c H locs 0 0 (MQ bl (qq_X1_passMonth D a_c a_c_kind a_c_months a_c_home a_c_nurse a_c_skills a_c_noteRow a_c_soundRow a_c_pastRow a_K a_k0 a_k1 a_k2 a_k3 a_k4 a_k5 cI cB cZ cP cC infants notes sounds pasts kind Post A) ar s 0 0 A) (F0 m 63 ls [])) :
    ∀ (n : Nat) (v1 : Int32) (retired : Int32) (month : Int32) (months : Nat → Int32) (H : Heap) (locs : List Loc) (ls : Array Slot), va_P D vwCl (ww_X1_passMonth a_c a_c_kind a_c_months a_c_home a_c_nurse a_c_skills a_c_noteRow a_c_soundRow a_c_pastRow a_K a_k0 a_k1 a_k2 a_k3 a_k4 a_k5 cI cB cZ cP cC infants retired month notes sounds pasts kind months) H → va_D A (ww_X1_passMonth a_c a_c_kind a_c_months a_c_home a_c_nurse a_c_skills a_c_noteRow a_c_soundRow a_c_pastRow a_K a_k0 a_k1 a_k2 a_k3 a_k4 a_k5 cI cB cZ cP cC infants retired month notes sounds pasts kind months) → va_S A s.heap H locs → lv_has ls 2 [(0, .ref a_c), (1, .int v1)] → wp_X1_passMonth_L2 infants kind Post K_63 n v1 retired month months → W p l e rm_X1_passMonth s m ar bl meth c H locs 0 0 (MQ bl (qq_X1_passMonth D a_c a_c_kind a_c_months a_c_home a_c_nurse a_c_skills a_c_noteRow a_c_soundRow a_c_pastRow a_K a_k0 a_k1 a_k2 a_k3 a_k4 a_k5 cI cB cZ cP cC infants notes sounds pasts kind Post A) ar s 0 0 A) (F0 m 2 ls []) := by
  obtain ⟨hx, hb, hr, hlocks, hml, hown, hts, hK, hA⟩ := id C0
  intro n
  induction n with
  | zero =>
    intro v1 retired month months H locs ls hP hD hS hl hw
    exact absurd hw (fun h => h)
  | succ n ih =>
    intro v1 retired month months H locs ls hP hD hS hl hw
    refine lv_iload_n hx hb dX1_passMonth_2 rfl (lv_at hl 1 rfl) ?_
    refine lv_aload_n hx hb dX1_passMonth_3 rfl (lv_at hl 0 rfl) ?_
    refine mx_get (ci := 1) (C := RX1) (T := TX1) (N := 15) hx hb hown in_wsX10 hts hK hP 0 rfl rfl 9 (by decide) q_118 rfl (v := .int infants) rfl dX1_passMonth_4 ?_
    refine lv_icmp_ge (tgt := 63) hx hb dX1_passMonth_7 (by decide) (fun c_1 => ?_) (fun c_1 => ?_)
    · replace hw := hw.1 c_1
      exact hK_63 retired month months _ _ _ hP hD hS (lv_sub hl [0] rfl) hw
    · replace hw := hw.2 c_1
      refine lv_aload_n hx hb dX1_passMonth_10 rfl (lv_at hl 0 rfl) ?_
      refine lv_iload_n hx hb dX1_passMonth_11 rfl (lv_at hl 1 rfl) ?_
      refine mx_ki (mx_rV (rm := rm_X1_isRetired) (rest := []) (C := RX1) hx hb hml hown hts (c_X1_isRetired l D cI cB cZ cP cC a_c a_c_kind a_c_months a_c_home a_c_nurse a_c_skills a_c_noteRow a_c_soundRow a_c_pastRow a_K infants retired month notes sounds pasts v1 _ _ hw) q_395 q_396 q_397 q_32 q_398 hd_X1_isRetired ⟨(Nat.le_of_ble_eq_true rfl), (Nat.le_of_ble_eq_true rfl)⟩ rfl rfl hK hP hD [0] rfl rfl 1 0 rfl rfl rfl rfl hl.1 rfl (Nat.le_of_ble_eq_true rfl) dX1_passMonth_12 ⟨(Nat.le_of_ble_eq_true rfl), (Nat.le_of_ble_eq_true rfl)⟩) hP hD hS hA [0] [1, 2, 3, 4, 5, 6, 7, 8, 9] [9, 0, 1, 2, 3, 4, 5, 6, 7, 8] (fun _ => ww_X1_passMonth a_c a_c_kind a_c_months a_c_home a_c_nurse a_c_skills a_c_noteRow a_c_soundRow a_c_pastRow a_K a_k0 a_k1 a_k2 a_k3 a_k4 a_k5 cI cB cZ cP cC infants retired month notes sounds pasts kind months) rfl rfl rfl (by decide) rfl (fun _ => rfl) (fun r_2 u H locs hw hP hD hS => ?_)
      try dsimp only at hw
      replace hP : va_P D vwCl (ww_X1_passMonth a_c a_c_kind a_c_months a_c_home a_c_nurse a_c_skills a_c_noteRow a_c_soundRow a_c_pastRow a_K a_k0 a_k1 a_k2 a_k3 a_k4 a_k5 cI cB cZ cP cC infants retired month notes sounds pasts kind months) H := hP
      replace hD : va_D A (ww_X1_passMonth a_c a_c_kind a_c_months a_c_home a_c_nurse a_c_skills a_c_noteRow a_c_soundRow a_c_pastRow a_K a_k0 a_k1 a_k2 a_k3 a_k4 a_k5 cI cB cZ cP cC infants retired month notes sounds pasts kind months) := hD
      refine lv_if_eq (tgt := 21) hx hb dX1_passMonth_15 (by decide) (fun c_3 => ?_) (fun c_3 => ?_)
      · replace hw := hw.1 c_3
        refine lv_aload_n hx hb dX1_passMonth_21 rfl (lv_at hl 0 rfl) ?_
        refine mx_get (ci := 1) (C := RX1) (T := TX1) (N := 15) hx hb hown in_wsX10 hts hK hP 0 rfl rfl 2 (by decide) q_66 rfl (v := .ref a_c_months) rfl dX1_passMonth_22 ?_
        refine lv_iload_n hx hb dX1_passMonth_25 rfl (lv_at hl 1 rfl) ?_
        refine lv_dup2_11 hx hb dX1_passMonth_26 rfl rfl ?_
        obtain ⟨h_4, hw⟩ := hw
        refine mx_iald hx hb hK hP 2 0 rfl rfl h_4 (months v1.toNatClampNeg) rfl dX1_passMonth_27 ?_
        refine lv_iconst (v := 1) hx hb dX1_passMonth_28 (by decide) ?_
        refine lv_iadd hx hb dX1_passMonth_29 ?_
        refine lv_topi (fun x_5 ex_5 => ?_)
        replace hw := hw x_5 ex_5
        obtain ⟨f_6, ef_6⟩ : ∃ y : Nat → Int32, y = upd months v1.toNatClampNeg x_5 := ⟨_, rfl⟩
        replace hw := hw f_6 ef_6
        refine mx_iast hx hb hK hP hD hS 2 0 rfl rfl h_4 f_6 ef_6 (ww_X1_passMonth a_c a_c_kind a_c_months a_c_home a_c_nurse a_c_skills a_c_noteRow a_c_soundRow a_c_pastRow a_K a_k0 a_k1 a_k2 a_k3 a_k4 a_k5 cI cB cZ cP cC infants retired month notes sounds pasts kind f_6) rfl dX1_passMonth_30 (fun H locs hP hD hS => ?_)
        refine lv_aload_n hx hb dX1_passMonth_31 rfl (lv_at hl 0 rfl) ?_
        refine mx_get (ci := 1) (C := RX1) (T := TX1) (N := 15) hx hb hown in_wsX10 hts hK hP 0 rfl rfl 2 (by decide) q_66 rfl (v := .ref a_c_months) rfl dX1_passMonth_32 ?_
        refine lv_iload_n hx hb dX1_passMonth_35 rfl (lv_at hl 1 rfl) ?_
        refine mx_iald hx hb hK hP 2 0 rfl rfl h_4 (f_6 v1.toNatClampNeg) rfl dX1_passMonth_36 ?_
        refine lv_aload_n hx hb dX1_passMonth_37 rfl (lv_at hl 0 rfl) ?_
        refine lv_iload_n hx hb dX1_passMonth_38 rfl (lv_at hl 1 rfl) ?_
        refine mx_ki (mx_rV (rm := rm_X1_walkingAge) (rest := [.int (f_6 v1.toNatClampNeg)]) (C := RX1) hx hb hml hown hts (c_X1_walkingAge l D cI cB cZ cP cC a_c a_c_kind a_c_months a_c_home a_c_nurse a_c_skills a_c_noteRow a_c_soundRow a_c_pastRow a_K a_k0 a_k1 a_k2 a_k3 a_k4 a_k5 infants retired month notes sounds pasts kind v1 _ _ hw) q_399 q_400 q_401 q_32 q_402 hd_X1_walkingAge ⟨(Nat.le_of_ble_eq_true rfl), (Nat.le_of_ble_eq_true rfl)⟩ rfl rfl hK hP hD [0, 1, 3, 4, 5, 6, 7, 8, 9] rfl rfl 1 0 rfl rfl rfl rfl hl.1 rfl (Nat.le_of_ble_eq_true rfl) dX1_passMonth_39 ⟨(Nat.le_of_ble_eq_true rfl), (Nat.le_of_ble_eq_true rfl)⟩) hP hD hS hA [0, 1, 3, 4, 5, 6, 7, 8, 9] [2] [1, 2, 0, 3, 4, 5, 6, 7, 8, 9] (fun _ => ww_X1_passMonth a_c a_c_kind a_c_months a_c_home a_c_nurse a_c_skills a_c_noteRow a_c_soundRow a_c_pastRow a_K a_k0 a_k1 a_k2 a_k3 a_k4 a_k5 cI cB cZ cP cC infants retired month notes sounds pasts kind f_6) rfl rfl rfl (by decide) rfl (fun _ => rfl) (fun r_7 u H locs hw hP hD hS => ?_)
        try dsimp only at hw
        replace hP : va_P D vwCl (ww_X1_passMonth a_c a_c_kind a_c_months a_c_home a_c_nurse a_c_skills a_c_noteRow a_c_soundRow a_c_pastRow a_K a_k0 a_k1 a_k2 a_k3 a_k4 a_k5 cI cB cZ cP cC infants retired month notes sounds pasts kind f_6) H := hP
        replace hD : va_D A (ww_X1_passMonth a_c a_c_kind a_c_months a_c_home a_c_nurse a_c_skills a_c_noteRow a_c_soundRow a_c_pastRow a_K a_k0 a_k1 a_k2 a_k3 a_k4 a_k5 cI cB cZ cP cC infants retired month notes sounds pasts kind f_6) := hD
        refine lv_icmp_lt (tgt := 57) hx hb dX1_passMonth_42 (by decide) (fun c_8 => ?_) (fun c_8 => ?_)
        · replace hw := hw.1 c_8
          refine k_X1_passMonth_J57 C0 ?_ v1 retired month f_6 _ _ _ hP hD hS (lv_sub hl [0, 1] rfl) hw
          intro v1_10 retired_11 month_12 months_13 H locs ls hP hD hS hl hw
          exact ih v1_10 retired_11 month_12 months_13 _ _ _ hP hD hS (lv_sub hl [0, 1] rfl) hw
        · replace hw := hw.2 c_8
          refine lv_aload_n hx hb dX1_passMonth_45 rfl (lv_at hl 0 rfl) ?_
          refine lv_dup hx hb dX1_passMonth_46 rfl ?_
          refine mx_get (ci := 1) (C := RX1) (T := TX1) (N := 15) hx hb hown in_wsX10 hts hK hP 0 rfl rfl 10 (by decide) q_119 rfl (v := .int retired) rfl dX1_passMonth_47 ?_
          refine lv_iconst (v := 1) hx hb dX1_passMonth_50 (by decide) ?_
          refine lv_iload_n hx hb dX1_passMonth_51 rfl (lv_at hl 1 rfl) ?_
          refine lv_ishl hx hb dX1_passMonth_52 ?_
          refine lv_ior hx hb dX1_passMonth_53 ?_
          refine lv_topi (fun x_14 ex_14 => ?_)
          replace hw := hw x_14 ex_14
          refine mx_put (ci := 1) (C := RX1) (T := TX1) (N := 15) hx hb hown in_wsX10 tyX1 tyX1_ok nmX1 hts hK hP hD hS 0 rfl rfl 10 (by decide) q_119 rfl rfl rfl rfl (Nat.le_of_ble_eq_true rfl) (ww_X1_passMonth a_c a_c_kind a_c_months a_c_home a_c_nurse a_c_skills a_c_noteRow a_c_soundRow a_c_pastRow a_K a_k0 a_k1 a_k2 a_k3 a_k4 a_k5 cI cB cZ cP cC infants x_14 month notes sounds pasts kind f_6) rfl dX1_passMonth_54 (fun H locs hP hD hS => ?_)
          refine k_X1_passMonth_J57 C0 ?_ v1 x_14 month f_6 _ _ _ hP hD hS (lv_sub hl [0, 1] rfl) hw
          intro v1_15 retired_16 month_17 months_18 H locs ls hP hD hS hl hw
          exact ih v1_15 retired_16 month_17 months_18 _ _ _ hP hD hS (lv_sub hl [0, 1] rfl) hw
      · replace hw := hw.2 c_3
        refine lv_goto (tgt := 57) hx hb dX1_passMonth_18 (by decide) ?_
        refine k_X1_passMonth_J57 C0 ?_ v1 retired month months _ _ _ hP hD hS (lv_sub hl [0, 1] rfl) hw
        intro v1_19 retired_20 month_21 months_22 H locs ls hP hD hS hl hw
        exact ih v1_19 retired_20 month_21 months_22 _ _ _ hP hD hS (lv_sub hl [0, 1] rfl) hw
def wp_X1_passMonth (infants : Int32) (kind : Nat → Int32) (retired : Int32) (month : Int32) (months : Nat → Int32) (Post : Int32 → Int32 → (Nat → Int32) → Prop) : Prop :=
  (∃ k_28 : Nat, wp_X1_passMonth_L2 infants kind Post (fun (retired_23 : Int32) (month_24 : Int32) (months_25 : Nat → Int32) => ((999 ≤ month_24 → Post retired_23 month_24 months_25) ∧ (¬ 999 ≤ month_24 → (∀ x_27 : Int32, x_27 = month_24 + 1 → Post retired_23 x_27 months_25)))) k_28 0 retired month months)
set_option maxHeartbeats 4000000 in
set_option maxRecDepth 100000 in
theorem c_X1_passMonth (l : Launch) (D : va_G) (cI cB cZ cP cC : ClassId) (a_c a_c_kind a_c_months a_c_home a_c_nurse a_c_skills a_c_noteRow a_c_soundRow a_c_pastRow a_K a_k0 a_k1 a_k2 a_k3 a_k4 a_k5 : Nat) (infants : Int32) (retired : Int32) (month : Int32) (notes : Int32) (sounds : Int32) (pasts : Int32) (kind : Nat → Int32) (months : Nat → Int32)  (sz : Nat) (Post : Int32 → Int32 → (Nat → Int32) → Prop) (hw : wp_X1_passMonth infants kind retired month months Post) :
    Met l yX1_passMonth (Cond.code yX1_passMonth cX1_passMonth 2 none :: wsAll) rm_X1_passMonth (va_Pc [.ref a_c] (mxP D (mxTy cI cB cZ cP cC) sz (ww_X1_passMonth a_c a_c_kind a_c_months a_c_home a_c_nurse a_c_skills a_c_noteRow a_c_soundRow a_c_pastRow a_K a_k0 a_k1 a_k2 a_k3 a_k4 a_k5 cI cB cZ cP cC infants retired month notes sounds pasts kind months))) (qq_X1_passMonth D a_c a_c_kind a_c_months a_c_home a_c_nurse a_c_skills a_c_noteRow a_c_soundRow a_c_pastRow a_K a_k0 a_k1 a_k2 a_k3 a_k4 a_k5 cI cB cZ cP cC infants notes sounds pasts kind Post (va_A (ww_X1_passMonth a_c a_c_kind a_c_months a_c_home a_c_nurse a_c_skills a_c_noteRow a_c_soundRow a_c_pastRow a_K a_k0 a_k1 a_k2 a_k3 a_k4 a_k5 cI cB cZ cP cC infants retired month notes sounds pasts kind months) sz)) 0 0 (va_A (ww_X1_passMonth a_c a_c_kind a_c_months a_c_home a_c_nurse a_c_skills a_c_noteRow a_c_soundRow a_c_pastRow a_K a_k0 a_k1 a_k2 a_k3 a_k4 a_k5 cI cB cZ cP cC infants retired month notes sounds pasts kind months) sz) := by
  refine mx_of (Qc := qq_X1_passMonth D a_c a_c_kind a_c_months a_c_home a_c_nurse a_c_skills a_c_noteRow a_c_soundRow a_c_pastRow a_K a_k0 a_k1 a_k2 a_k3 a_k4 a_k5 cI cB cZ cP cC infants notes sounds pasts kind Post) (by decide) (Nat.le_of_ble_eq_true rfl) ?_
  intro p e s m bl meth c A ls C0 hP hD hS hl
  replace C0 : mxC p s m [.ref a_c].toArray meth c cX1_passMonth RX1 none 2 D (mxTy cI cB cZ cP cC) A := C0
  obtain ⟨hx, hb, hr, hlocks, hml, hown, hts, hK, hA⟩ := id C0
  replace hl : lv_has ls 2 [(0, .ref a_c)] := hl
  unfold wp_X1_passMonth at hw
  refine lv_iconst (v := 0) hx hb dX1_passMonth_0 (by decide) ?_
  refine lv_istore_n (lv' := [(1, .int 0), (0, .ref a_c)]) hx hb dX1_passMonth_1 rfl hl (by decide) rfl (fun ls hl => ?_)
  obtain ⟨n0, hw⟩ := hw
  refine k_X1_passMonth_L2 C0 ?_ n0 0 retired month months _ _ _ hP hD hS (lv_sub hl [1, 0] rfl) hw
  intro retired_23 month_24 months_25 H locs ls hP hD hS hl hw
  refine lv_aload_n hx hb dX1_passMonth_63 rfl (lv_at hl 0 rfl) ?_
  refine mx_get (ci := 1) (C := RX1) (T := TX1) (N := 15) hx hb hown in_wsX10 hts hK hP 0 rfl rfl 11 (by decide) q_120 rfl (v := .int month_24) rfl dX1_passMonth_64 ?_
  refine lv_sipush (v := 999) hx hb dX1_passMonth_67 (by decide) ?_
  refine lv_icmp_ge (tgt := 83) hx hb dX1_passMonth_70 (by decide) (fun c_26 => ?_) (fun c_26 => ?_)
  · replace hw := hw.1 c_26
    exact mx_vret (retired_23, month_24, months_25) hx hb hr hlocks hw hK hP hD hS dX1_passMonth_83
  · replace hw := hw.2 c_26
    refine lv_aload_n hx hb dX1_passMonth_73 rfl (lv_at hl 0 rfl) ?_
    refine lv_dup hx hb dX1_passMonth_74 rfl ?_
    refine mx_get (ci := 1) (C := RX1) (T := TX1) (N := 15) hx hb hown in_wsX10 hts hK hP 0 rfl rfl 11 (by decide) q_120 rfl (v := .int month_24) rfl dX1_passMonth_75 ?_
    refine lv_iconst (v := 1) hx hb dX1_passMonth_78 (by decide) ?_
    refine lv_iadd hx hb dX1_passMonth_79 ?_
    refine lv_topi (fun x_27 ex_27 => ?_)
    replace hw := hw x_27 ex_27
    refine mx_put (ci := 1) (C := RX1) (T := TX1) (N := 15) hx hb hown in_wsX10 tyX1 tyX1_ok nmX1 hts hK hP hD hS 0 rfl rfl 11 (by decide) q_120 rfl rfl rfl rfl (Nat.le_of_ble_eq_true rfl) (ww_X1_passMonth a_c a_c_kind a_c_months a_c_home a_c_nurse a_c_skills a_c_noteRow a_c_soundRow a_c_pastRow a_K a_k0 a_k1 a_k2 a_k3 a_k4 a_k5 cI cB cZ cP cC infants retired_23 x_27 notes sounds pasts kind months_25) rfl dX1_passMonth_80 (fun H locs hP hD hS => ?_)
    exact mx_vret (retired_23, x_27, months_25) hx hb hr hlocks hw hK hP hD hS dX1_passMonth_83
/-! PramState$Court.isAsleep(II)Z -/
abbrev ww_X1_isAsleep (a_c a_c_kind a_c_months a_c_home a_c_nurse a_c_skills a_c_noteRow a_c_soundRow a_c_pastRow a_K a_k0 a_k1 a_k2 a_k3 a_k4 a_k5 : Nat) (cI cB cZ cP cC : ClassId) (infants : Int32) (retired : Int32) (month : Int32) (notes : Int32) (sounds : Int32) (pasts : Int32) (kind : Nat → Int32) : va_W := [(a_c, .inr (1, [.ref a_K, .ref a_c_kind, .ref a_c_months, .ref a_c_home, .ref a_c_nurse, .ref a_c_skills, .ref a_c_noteRow, .ref a_c_soundRow, .ref a_c_pastRow, .int infants, .int retired, .int month, .int notes, .int sounds, .int pasts])), (a_c_kind, .inl (cI, 6, .inl kind)), (a_K, .inl (cP, 6, .inr (.inr (.inr (.inr (mx_kf a_k0 a_k1 a_k2 a_k3 a_k4 a_k5)))))), (a_k0, .inr (6, [])), (a_k1, .inr (8, [])), (a_k2, .inr (7, [])), (a_k3, .inr (3, [])), (a_k4, .inr (4, [])), (a_k5, .inr (0, []))]
abbrev qq_X1_isAsleep (D : va_G) (a_c a_c_kind a_c_months a_c_home a_c_nurse a_c_skills a_c_noteRow a_c_soundRow a_c_pastRow a_K a_k0 a_k1 a_k2 a_k3 a_k4 a_k5 : Nat) (cI cB cZ cP cC : ClassId) (infants : Int32) (retired : Int32) (month : Int32) (notes : Int32) (sounds : Int32) (pasts : Int32) (kind : Nat → Int32) (Post : Int32 → Prop) (A : Nat → Prop) : Array Value → State → Outcome → State → Prop := va_Qi (fun (r : Int32) (u : Unit) => Post r) (fun (u : Unit) t => mxB D (mxTy cI cB cZ cP cC) A (ww_X1_isAsleep a_c a_c_kind a_c_months a_c_home a_c_nurse a_c_skills a_c_noteRow a_c_soundRow a_c_pastRow a_K a_k0 a_k1 a_k2 a_k3 a_k4 a_k5 cI cB cZ cP cC infants retired month notes sounds pasts kind) t) A
abbrev rm_X1_isAsleep : Room := { frames := 2, cells := 0, slots := 0, locals := 42 }
theorem hd_X1_isAsleep : yX1_isAsleep.cls = RX1 ∧ yX1_isAsleep.cls ≠ "java/lang/invoke/MethodHandle" ∧ yX1_isAsleep.cls ≠ "java/lang/invoke/VarHandle" ∧ (parseMethodDescriptor yX1_isAsleep.desc).map (fun d => d.parameters.length) = some 2 := by decide +kernel
def wp_X1_isAsleep_J15 (kind : Nat → Int32) (Post : Int32 → Prop)  (s0 : Int32) : Prop :=
  ((s0 = 0 ∨ s0 = 1) ∧ Post s0)
set_option maxHeartbeats 4000000 in
set_option maxRecDepth 100000 in
theorem k_X1_isAsleep_J15 {p : Program} {l : Launch} {e : Env} {s : State} {m : MethodId} {ar : Array Value} {bl : List Frame} {meth : Method} {c : Code} {D : va_G} {A : Nat → Prop} {cI cB cZ cP cC : ClassId} {a_c a_c_kind a_c_months a_c_home a_c_nurse a_c_skills a_c_noteRow a_c_soundRow a_c_pastRow a_K a_k0 a_k1 a_k2 a_k3 a_k4 a_k5 : Nat} {infants : Int32} {retired : Int32} {month : Int32} {notes : Int32} {sounds : Int32} {pasts : Int32} {kind : Nat → Int32} {Post : Int32 → Prop} (C0 : mxC p s m ar meth c cX1_isAsleep RX1 (some .boolean) 3 D (mxTy cI cB cZ cP cC) A) :
    ∀ (s0 : Int32) (H : Heap) (locs : List Loc) (ls : Array Slot), va_P D vwCl (ww_X1_isAsleep a_c a_c_kind a_c_months a_c_home a_c_nurse a_c_skills a_c_noteRow a_c_soundRow a_c_pastRow a_K a_k0 a_k1 a_k2 a_k3 a_k4 a_k5 cI cB cZ cP cC infants retired month notes sounds pasts kind) H → va_D A (ww_X1_isAsleep a_c a_c_kind a_c_months a_c_home a_c_nurse a_c_skills a_c_noteRow a_c_soundRow a_c_pastRow a_K a_k0 a_k1 a_k2 a_k3 a_k4 a_k5 cI cB cZ cP cC infants retired month notes sounds pasts kind) → va_S A s.heap H locs → lv_has ls 3 [] → wp_X1_isAsleep_J15 kind Post  s0 → W p l e rm_X1_isAsleep s m ar bl meth c H locs 0 0 (MQ bl (qq_X1_isAsleep D a_c a_c_kind a_c_months a_c_home a_c_nurse a_c_skills a_c_noteRow a_c_soundRow a_c_pastRow a_K a_k0 a_k1 a_k2 a_k3 a_k4 a_k5 cI cB cZ cP cC infants retired month notes sounds pasts kind Post A) ar s 0 0 A) (F0 m 15 ls [.int s0]) := by
  obtain ⟨hx, hb, hr, hlocks, hml, hown, hts, hK, hA⟩ := id C0
  intro s0 H locs ls hP hD hS hl hw
  obtain ⟨h_5, hw⟩ := hw
  exact mx_iret () hx hb hr hlocks (mx_narZ h_5) hw hK hP hD hS dX1_isAsleep_15
def wp_X1_isAsleep (kind : Nat → Int32) (v1 : Int32) (v2 : Int32) (Post : Int32 → Prop) : Prop :=
  (vp_in v1 6 ∧ (vp_in (kind v1.toNatClampNeg) 6 ∧ (wpv_sleepsIn (kind v1.toNatClampNeg).toNatClampNeg v2 (fun r_4 => (wp_X1_isAsleep_J15 kind Post r_4)))))
set_option maxHeartbeats 4000000 in
set_option maxRecDepth 100000 in
theorem c_X1_isAsleep (l : Launch) (D : va_G) (cI cB cZ cP cC : ClassId) (a_c a_c_kind a_c_months a_c_home a_c_nurse a_c_skills a_c_noteRow a_c_soundRow a_c_pastRow a_K a_k0 a_k1 a_k2 a_k3 a_k4 a_k5 : Nat) (infants : Int32) (retired : Int32) (month : Int32) (notes : Int32) (sounds : Int32) (pasts : Int32) (kind : Nat → Int32) (v1 : Int32) (v2 : Int32) (sz : Nat) (Post : Int32 → Prop) (hw : wp_X1_isAsleep kind v1 v2 Post) :
    Met l yX1_isAsleep (Cond.code yX1_isAsleep cX1_isAsleep 3 (some .boolean) :: wsAll) rm_X1_isAsleep (va_Pc [.ref a_c, .int v1, .int v2] (mxP D (mxTy cI cB cZ cP cC) sz (ww_X1_isAsleep a_c a_c_kind a_c_months a_c_home a_c_nurse a_c_skills a_c_noteRow a_c_soundRow a_c_pastRow a_K a_k0 a_k1 a_k2 a_k3 a_k4 a_k5 cI cB cZ cP cC infants retired month notes sounds pasts kind))) (qq_X1_isAsleep D a_c a_c_kind a_c_months a_c_home a_c_nurse a_c_skills a_c_noteRow a_c_soundRow a_c_pastRow a_K a_k0 a_k1 a_k2 a_k3 a_k4 a_k5 cI cB cZ cP cC infants retired month notes sounds pasts kind Post (va_A (ww_X1_isAsleep a_c a_c_kind a_c_months a_c_home a_c_nurse a_c_skills a_c_noteRow a_c_soundRow a_c_pastRow a_K a_k0 a_k1 a_k2 a_k3 a_k4 a_k5 cI cB cZ cP cC infants retired month notes sounds pasts kind) sz)) 0 0 (va_A (ww_X1_isAsleep a_c a_c_kind a_c_months a_c_home a_c_nurse a_c_skills a_c_noteRow a_c_soundRow a_c_pastRow a_K a_k0 a_k1 a_k2 a_k3 a_k4 a_k5 cI cB cZ cP cC infants retired month notes sounds pasts kind) sz) := by
  refine mx_of (Qc := qq_X1_isAsleep D a_c a_c_kind a_c_months a_c_home a_c_nurse a_c_skills a_c_noteRow a_c_soundRow a_c_pastRow a_K a_k0 a_k1 a_k2 a_k3 a_k4 a_k5 cI cB cZ cP cC infants retired month notes sounds pasts kind Post) (by decide) (Nat.le_of_ble_eq_true rfl) ?_
  intro p e s m bl meth c A ls C0 hP hD hS hl
  replace C0 : mxC p s m [.ref a_c, .int v1, .int v2].toArray meth c cX1_isAsleep RX1 (some .boolean) 3 D (mxTy cI cB cZ cP cC) A := C0
  obtain ⟨hx, hb, hr, hlocks, hml, hown, hts, hK, hA⟩ := id C0
  replace hl : lv_has ls 3 [(0, .ref a_c), (1, .int v1), (2, .int v2)] := hl
  unfold wp_X1_isAsleep at hw
  refine lv_aload_n hx hb dX1_isAsleep_0 rfl (lv_at hl 0 rfl) ?_
  refine mx_get (ci := 1) (C := RX1) (T := TX1) (N := 15) hx hb hown in_wsX10 hts hK hP 0 rfl rfl 0 (by decide) q_73 rfl (v := .ref a_K) rfl dX1_isAsleep_1 ?_
  refine lv_aload_n hx hb dX1_isAsleep_4 rfl (lv_at hl 0 rfl) ?_
  refine mx_get (ci := 1) (C := RX1) (T := TX1) (N := 15) hx hb hown in_wsX10 hts hK hP 0 rfl rfl 1 (by decide) q_65 rfl (v := .ref a_c_kind) rfl dX1_isAsleep_5 ?_
  refine lv_iload_n hx hb dX1_isAsleep_8 rfl (lv_at hl 1 rfl) ?_
  obtain ⟨h_1, hw⟩ := hw
  refine mx_iald hx hb hK hP 1 0 rfl rfl h_1 (kind v1.toNatClampNeg) rfl dX1_isAsleep_9 ?_
  obtain ⟨h_2, hw⟩ := hw
  refine mx_aldq hx hb hK hP 2 3 rfl rfl h_2 (mx_ka a_k0 a_k1 a_k2 a_k3 a_k4 a_k5 (kind v1.toNatClampNeg).toNatClampNeg) (mx_kf_at h_2) dX1_isAsleep_10 ?_
  refine lv_iload_n hx hb dX1_isAsleep_11 rfl (lv_at hl 2 rfl) ?_
  rcases mx_six h_2 with e_3 | e_3 | e_3 | e_3 | e_3 | e_3
  · replace hw := hw.1 e_3
    refine W.eq (g2 := F0 m 12 ls [.int v2, .ref a_k0]) (by rw [e_3]; rfl) ?_
    refine mx_ki (mx_rV (rm := rm_X6_sleepsIn) (rest := []) (C := RX6) hx hb hml hown hts (c_X6_sleepsIn l D cI cB cZ cP cC a_k0 v2 _ _ hw) q_555 q_550 q_556 q_14 q_548 hd_X6_sleepsIn ⟨(Nat.le_of_ble_eq_true rfl), (Nat.le_of_ble_eq_true rfl)⟩ rfl rfl hK hP hD [] rfl rfl 6 3 rfl rfl rfl rfl hl.1 rfl (Nat.le_of_ble_eq_true rfl) dX1_isAsleep_12 ⟨(Nat.le_of_ble_eq_true rfl), (Nat.le_of_ble_eq_true rfl)⟩) hP hD hS hA [] [0, 1, 2, 3, 4, 5, 6, 7, 8] [0, 1, 2, 3, 4, 5, 6, 7, 8] (fun _ => ww_X1_isAsleep a_c a_c_kind a_c_months a_c_home a_c_nurse a_c_skills a_c_noteRow a_c_soundRow a_c_pastRow a_K a_k0 a_k1 a_k2 a_k3 a_k4 a_k5 cI cB cZ cP cC infants retired month notes sounds pasts kind) rfl rfl rfl (by decide) rfl (fun _ => rfl) (fun r_4 u H locs hw hP hD hS => ?_)
    try dsimp only at hw
    replace hP : va_P D vwCl (ww_X1_isAsleep a_c a_c_kind a_c_months a_c_home a_c_nurse a_c_skills a_c_noteRow a_c_soundRow a_c_pastRow a_K a_k0 a_k1 a_k2 a_k3 a_k4 a_k5 cI cB cZ cP cC infants retired month notes sounds pasts kind) H := hP
    replace hD : va_D A (ww_X1_isAsleep a_c a_c_kind a_c_months a_c_home a_c_nurse a_c_skills a_c_noteRow a_c_soundRow a_c_pastRow a_K a_k0 a_k1 a_k2 a_k3 a_k4 a_k5 cI cB cZ cP cC infants retired month notes sounds pasts kind) := hD
    exact k_X1_isAsleep_J15 C0  r_4 _ _ _ hP hD hS (lv_sub hl [] rfl) hw
  · replace hw := hw.2.1 e_3
    refine W.eq (g2 := F0 m 12 ls [.int v2, .ref a_k1]) (by rw [e_3]; rfl) ?_
    refine mx_ki (mx_rU (x := yX6_sleepsIn) (y := yX6_sleepsIn) (rm := rm_X6_sleepsIn) (rest := []) (C := RX8) hx hb hml hown hts (c_X6_sleepsIn l D cI cB cZ cP cC a_k1 v2 _ _ hw) q_555 q_543 q_550 q_562 q_550 q_14 q_548 q_548 hdu_X6_sleepsIn ⟨(Nat.le_of_ble_eq_true rfl), (Nat.le_of_ble_eq_true rfl)⟩ rfl rfl hK hP hD [] rfl rfl 8 4 rfl rfl rfl rfl hl.1 rfl (Nat.le_of_ble_eq_true rfl) dX1_isAsleep_12 ⟨(Nat.le_of_ble_eq_true rfl), (Nat.le_of_ble_eq_true rfl)⟩) hP hD hS hA [] [0, 1, 2, 3, 4, 5, 6, 7, 8] [0, 1, 2, 3, 4, 5, 6, 7, 8] (fun _ => ww_X1_isAsleep a_c a_c_kind a_c_months a_c_home a_c_nurse a_c_skills a_c_noteRow a_c_soundRow a_c_pastRow a_K a_k0 a_k1 a_k2 a_k3 a_k4 a_k5 cI cB cZ cP cC infants retired month notes sounds pasts kind) rfl rfl rfl (by decide) rfl (fun _ => rfl) (fun r_4 u H locs hw hP hD hS => ?_)
    try dsimp only at hw
    replace hP : va_P D vwCl (ww_X1_isAsleep a_c a_c_kind a_c_months a_c_home a_c_nurse a_c_skills a_c_noteRow a_c_soundRow a_c_pastRow a_K a_k0 a_k1 a_k2 a_k3 a_k4 a_k5 cI cB cZ cP cC infants retired month notes sounds pasts kind) H := hP
    replace hD : va_D A (ww_X1_isAsleep a_c a_c_kind a_c_months a_c_home a_c_nurse a_c_skills a_c_noteRow a_c_soundRow a_c_pastRow a_K a_k0 a_k1 a_k2 a_k3 a_k4 a_k5 cI cB cZ cP cC infants retired month notes sounds pasts kind) := hD
    exact k_X1_isAsleep_J15 C0  r_4 _ _ _ hP hD hS (lv_sub hl [] rfl) hw
  · replace hw := hw.2.2.1 e_3
    refine W.eq (g2 := F0 m 12 ls [.int v2, .ref a_k2]) (by rw [e_3]; rfl) ?_
    refine mx_ki (mx_rU (x := yX6_sleepsIn) (y := yX7_sleepsIn) (rm := rm_X7_sleepsIn) (rest := []) (C := RX7) hx hb hml hown hts (c_X7_sleepsIn l D cI cB cZ cP cC a_k2 v2 _ _ hw) q_555 q_543 q_550 q_557 q_558 q_20 q_559 q_548 hdu_X6_sleepsIn ⟨(Nat.le_of_ble_eq_true rfl), (Nat.le_of_ble_eq_true rfl)⟩ rfl rfl hK hP hD [5] rfl rfl 7 5 rfl rfl rfl rfl hl.1 rfl (Nat.le_of_ble_eq_true rfl) dX1_isAsleep_12 ⟨(Nat.le_of_ble_eq_true rfl), (Nat.le_of_ble_eq_true rfl)⟩) hP hD hS hA [5] [0, 1, 2, 3, 4, 6, 7, 8] [0, 1, 2, 3, 4, 8, 5, 6, 7] (fun _ => ww_X1_isAsleep a_c a_c_kind a_c_months a_c_home a_c_nurse a_c_skills a_c_noteRow a_c_soundRow a_c_pastRow a_K a_k0 a_k1 a_k2 a_k3 a_k4 a_k5 cI cB cZ cP cC infants retired month notes sounds pasts kind) rfl rfl rfl (by decide) rfl (fun _ => rfl) (fun r_4 u H locs hw hP hD hS => ?_)
    try dsimp only at hw
    replace hP : va_P D vwCl (ww_X1_isAsleep a_c a_c_kind a_c_months a_c_home a_c_nurse a_c_skills a_c_noteRow a_c_soundRow a_c_pastRow a_K a_k0 a_k1 a_k2 a_k3 a_k4 a_k5 cI cB cZ cP cC infants retired month notes sounds pasts kind) H := hP
    replace hD : va_D A (ww_X1_isAsleep a_c a_c_kind a_c_months a_c_home a_c_nurse a_c_skills a_c_noteRow a_c_soundRow a_c_pastRow a_K a_k0 a_k1 a_k2 a_k3 a_k4 a_k5 cI cB cZ cP cC infants retired month notes sounds pasts kind) := hD
    exact k_X1_isAsleep_J15 C0  r_4 _ _ _ hP hD hS (lv_sub hl [] rfl) hw
  · replace hw := hw.2.2.2.1 e_3
    refine W.eq (g2 := F0 m 12 ls [.int v2, .ref a_k3]) (by rw [e_3]; rfl) ?_
    refine mx_ki (mx_rU (x := yX6_sleepsIn) (y := yX6_sleepsIn) (rm := rm_X6_sleepsIn) (rest := []) (C := RX3) hx hb hml hown hts (c_X6_sleepsIn l D cI cB cZ cP cC a_k3 v2 _ _ hw) q_555 q_543 q_550 q_549 q_550 q_14 q_548 q_548 hdu_X6_sleepsIn ⟨(Nat.le_of_ble_eq_true rfl), (Nat.le_of_ble_eq_true rfl)⟩ rfl rfl hK hP hD [] rfl rfl 3 6 rfl rfl rfl rfl hl.1 rfl (Nat.le_of_ble_eq_true rfl) dX1_isAsleep_12 ⟨(Nat.le_of_ble_eq_true rfl), (Nat.le_of_ble_eq_true rfl)⟩) hP hD hS hA [] [0, 1, 2, 3, 4, 5, 6, 7, 8] [0, 1, 2, 3, 4, 5, 6, 7, 8] (fun _ => ww_X1_isAsleep a_c a_c_kind a_c_months a_c_home a_c_nurse a_c_skills a_c_noteRow a_c_soundRow a_c_pastRow a_K a_k0 a_k1 a_k2 a_k3 a_k4 a_k5 cI cB cZ cP cC infants retired month notes sounds pasts kind) rfl rfl rfl (by decide) rfl (fun _ => rfl) (fun r_4 u H locs hw hP hD hS => ?_)
    try dsimp only at hw
    replace hP : va_P D vwCl (ww_X1_isAsleep a_c a_c_kind a_c_months a_c_home a_c_nurse a_c_skills a_c_noteRow a_c_soundRow a_c_pastRow a_K a_k0 a_k1 a_k2 a_k3 a_k4 a_k5 cI cB cZ cP cC infants retired month notes sounds pasts kind) H := hP
    replace hD : va_D A (ww_X1_isAsleep a_c a_c_kind a_c_months a_c_home a_c_nurse a_c_skills a_c_noteRow a_c_soundRow a_c_pastRow a_K a_k0 a_k1 a_k2 a_k3 a_k4 a_k5 cI cB cZ cP cC infants retired month notes sounds pasts kind) := hD
    exact k_X1_isAsleep_J15 C0  r_4 _ _ _ hP hD hS (lv_sub hl [] rfl) hw
  · replace hw := hw.2.2.2.2.1 e_3
    refine W.eq (g2 := F0 m 12 ls [.int v2, .ref a_k4]) (by rw [e_3]; rfl) ?_
    refine mx_ki (mx_rU (x := yX6_sleepsIn) (y := yX4_sleepsIn) (rm := rm_X4_sleepsIn) (rest := []) (C := RX4) hx hb hml hown hts (c_X4_sleepsIn l D cI cB cZ cP cC a_k4 v2 _ _ hw) q_555 q_543 q_550 q_551 q_552 q_26 q_553 q_548 hdu_X6_sleepsIn ⟨(Nat.le_of_ble_eq_true rfl), (Nat.le_of_ble_eq_true rfl)⟩ rfl rfl hK hP hD [7] rfl rfl 4 7 rfl rfl rfl rfl hl.1 rfl (Nat.le_of_ble_eq_true rfl) dX1_isAsleep_12 ⟨(Nat.le_of_ble_eq_true rfl), (Nat.le_of_ble_eq_true rfl)⟩) hP hD hS hA [7] [0, 1, 2, 3, 4, 5, 6, 8] [0, 1, 2, 3, 4, 5, 6, 8, 7] (fun _ => ww_X1_isAsleep a_c a_c_kind a_c_months a_c_home a_c_nurse a_c_skills a_c_noteRow a_c_soundRow a_c_pastRow a_K a_k0 a_k1 a_k2 a_k3 a_k4 a_k5 cI cB cZ cP cC infants retired month notes sounds pasts kind) rfl rfl rfl (by decide) rfl (fun _ => rfl) (fun r_4 u H locs hw hP hD hS => ?_)
    try dsimp only at hw
    replace hP : va_P D vwCl (ww_X1_isAsleep a_c a_c_kind a_c_months a_c_home a_c_nurse a_c_skills a_c_noteRow a_c_soundRow a_c_pastRow a_K a_k0 a_k1 a_k2 a_k3 a_k4 a_k5 cI cB cZ cP cC infants retired month notes sounds pasts kind) H := hP
    replace hD : va_D A (ww_X1_isAsleep a_c a_c_kind a_c_months a_c_home a_c_nurse a_c_skills a_c_noteRow a_c_soundRow a_c_pastRow a_K a_k0 a_k1 a_k2 a_k3 a_k4 a_k5 cI cB cZ cP cC infants retired month notes sounds pasts kind) := hD
    exact k_X1_isAsleep_J15 C0  r_4 _ _ _ hP hD hS (lv_sub hl [] rfl) hw
  · replace hw := hw.2.2.2.2.2 e_3
    refine W.eq (g2 := F0 m 12 ls [.int v2, .ref a_k5]) (by rw [e_3]; rfl) ?_
    refine mx_ki (mx_rU (x := yX6_sleepsIn) (y := yX0_sleepsIn) (rm := rm_X0_sleepsIn) (rest := []) (C := RX0) hx hb hml hown hts (c_X0_sleepsIn l D cI cB cZ cP cC a_k5 v2 _ _ hw) q_555 q_543 q_550 q_545 q_546 q_29 q_547 q_548 hdu_X6_sleepsIn ⟨(Nat.le_of_ble_eq_true rfl), (Nat.le_of_ble_eq_true rfl)⟩ rfl rfl hK hP hD [8] rfl rfl 0 8 rfl rfl rfl rfl hl.1 rfl (Nat.le_of_ble_eq_true rfl) dX1_isAsleep_12 ⟨(Nat.le_of_ble_eq_true rfl), (Nat.le_of_ble_eq_true rfl)⟩) hP hD hS hA [8] [0, 1, 2, 3, 4, 5, 6, 7] [0, 1, 2, 3, 4, 5, 6, 7, 8] (fun _ => ww_X1_isAsleep a_c a_c_kind a_c_months a_c_home a_c_nurse a_c_skills a_c_noteRow a_c_soundRow a_c_pastRow a_K a_k0 a_k1 a_k2 a_k3 a_k4 a_k5 cI cB cZ cP cC infants retired month notes sounds pasts kind) rfl rfl rfl (by decide) rfl (fun _ => rfl) (fun r_4 u H locs hw hP hD hS => ?_)
    try dsimp only at hw
    replace hP : va_P D vwCl (ww_X1_isAsleep a_c a_c_kind a_c_months a_c_home a_c_nurse a_c_skills a_c_noteRow a_c_soundRow a_c_pastRow a_K a_k0 a_k1 a_k2 a_k3 a_k4 a_k5 cI cB cZ cP cC infants retired month notes sounds pasts kind) H := hP
    replace hD : va_D A (ww_X1_isAsleep a_c a_c_kind a_c_months a_c_home a_c_nurse a_c_skills a_c_noteRow a_c_soundRow a_c_pastRow a_K a_k0 a_k1 a_k2 a_k3 a_k4 a_k5 cI cB cZ cP cC infants retired month notes sounds pasts kind) := hD
    exact k_X1_isAsleep_J15 C0  r_4 _ _ _ hP hD hS (lv_sub hl [] rfl) hw
/-! PramState$Court.criesAt(III)I -/
abbrev ww_X1_criesAt (a_c a_c_kind a_c_months a_c_home a_c_nurse a_c_skills a_c_noteRow a_c_soundRow a_c_pastRow a_K a_k0 a_k1 a_k2 a_k3 a_k4 a_k5 : Nat) (cI cB cZ cP cC : ClassId) (infants : Int32) (retired : Int32) (month : Int32) (notes : Int32) (sounds : Int32) (pasts : Int32) (kind : Nat → Int32) (months : Nat → Int32) (skills : Nat → Int32) : va_W := [(a_c, .inr (1, [.ref a_K, .ref a_c_kind, .ref a_c_months, .ref a_c_home, .ref a_c_nurse, .ref a_c_skills, .ref a_c_noteRow, .ref a_c_soundRow, .ref a_c_pastRow, .int infants, .int retired, .int month, .int notes, .int sounds, .int pasts])), (a_c_kind, .inl (cI, 6, .inl kind)), (a_c_months, .inl (cI, 6, .inl months)), (a_c_skills, .inl (cI, 6, .inl skills)), (a_K, .inl (cP, 6, .inr (.inr (.inr (.inr (mx_kf a_k0 a_k1 a_k2 a_k3 a_k4 a_k5)))))), (a_k0, .inr (6, [])), (a_k1, .inr (8, [])), (a_k2, .inr (7, [])), (a_k3, .inr (3, [])), (a_k4, .inr (4, [])), (a_k5, .inr (0, []))]
abbrev qq_X1_criesAt (D : va_G) (a_c a_c_kind a_c_months a_c_home a_c_nurse a_c_skills a_c_noteRow a_c_soundRow a_c_pastRow a_K a_k0 a_k1 a_k2 a_k3 a_k4 a_k5 : Nat) (cI cB cZ cP cC : ClassId) (infants : Int32) (retired : Int32) (month : Int32) (notes : Int32) (sounds : Int32) (pasts : Int32) (kind : Nat → Int32) (months : Nat → Int32) (skills : Nat → Int32) (Post : Int32 → Prop) (A : Nat → Prop) : Array Value → State → Outcome → State → Prop := va_Qi (fun (r : Int32) (u : Unit) => Post r) (fun (u : Unit) t => mxB D (mxTy cI cB cZ cP cC) A (ww_X1_criesAt a_c a_c_kind a_c_months a_c_home a_c_nurse a_c_skills a_c_noteRow a_c_soundRow a_c_pastRow a_K a_k0 a_k1 a_k2 a_k3 a_k4 a_k5 cI cB cZ cP cC infants retired month notes sounds pasts kind months skills) t) A
abbrev rm_X1_criesAt : Room := { frames := 3, cells := 0, slots := 0, locals := 64 }
theorem hd_X1_criesAt : yX1_criesAt.cls = RX1 ∧ yX1_criesAt.cls ≠ "java/lang/invoke/MethodHandle" ∧ yX1_criesAt.cls ≠ "java/lang/invoke/VarHandle" ∧ (parseMethodDescriptor yX1_criesAt.desc).map (fun d => d.parameters.length) = some 3 := by decide +kernel
def wp_X1_criesAt_J32 (kind : Nat → Int32) (months : Nat → Int32) (skills : Nat → Int32) (Post : Int32 → Prop)  (v3 : Int32) (s0 : Int32) (s1 : Int32) : Prop :=
  (vp_in v3 6 ∧ (∀ x_8 : Int32, x_8 = (if s1 < (s0 - ((skills v3.toNatClampNeg) / 2)) then (s0 - ((skills v3.toNatClampNeg) / 2)) else s1) → Post x_8))
set_option maxHeartbeats 4000000 in
set_option maxRecDepth 100000 in
theorem k_X1_criesAt_J32 {p : Program} {l : Launch} {e : Env} {s : State} {m : MethodId} {ar : Array Value} {bl : List Frame} {meth : Method} {c : Code} {D : va_G} {A : Nat → Prop} {cI cB cZ cP cC : ClassId} {a_c a_c_kind a_c_months a_c_home a_c_nurse a_c_skills a_c_noteRow a_c_soundRow a_c_pastRow a_K a_k0 a_k1 a_k2 a_k3 a_k4 a_k5 : Nat} {infants : Int32} {retired : Int32} {month : Int32} {notes : Int32} {sounds : Int32} {pasts : Int32} {kind : Nat → Int32} {months : Nat → Int32} {skills : Nat → Int32} {Post : Int32 → Prop} (C0 : mxC p s m ar meth c cX1_criesAt RX1 (some .int) 4 D (mxTy cI cB cZ cP cC) A) :
    ∀ (v3 : Int32) (s0 : Int32) (s1 : Int32) (H : Heap) (locs : List Loc) (ls : Array Slot), va_P D vwCl (ww_X1_criesAt a_c a_c_kind a_c_months a_c_home a_c_nurse a_c_skills a_c_noteRow a_c_soundRow a_c_pastRow a_K a_k0 a_k1 a_k2 a_k3 a_k4 a_k5 cI cB cZ cP cC infants retired month notes sounds pasts kind months skills) H → va_D A (ww_X1_criesAt a_c a_c_kind a_c_months a_c_home a_c_nurse a_c_skills a_c_noteRow a_c_soundRow a_c_pastRow a_K a_k0 a_k1 a_k2 a_k3 a_k4 a_k5 cI cB cZ cP cC infants retired month notes sounds pasts kind months skills) → va_S A s.heap H locs → lv_has ls 4 [(0, .ref a_c), (3, .int v3)] → wp_X1_criesAt_J32 kind months skills Post  v3 s0 s1 → W p l e rm_X1_criesAt s m ar bl meth c H locs 0 0 (MQ bl (qq_X1_criesAt D a_c a_c_kind a_c_months a_c_home a_c_nurse a_c_skills a_c_noteRow a_c_soundRow a_c_pastRow a_K a_k0 a_k1 a_k2 a_k3 a_k4 a_k5 cI cB cZ cP cC infants retired month notes sounds pasts kind months skills Post A) ar s 0 0 A) (F0 m 32 ls [.int s0, .int s1]) := by
  obtain ⟨hx, hb, hr, hlocks, hml, hown, hts, hK, hA⟩ := id C0
  intro v3 s0 s1 H locs ls hP hD hS hl hw
  refine lv_aload_n hx hb dX1_criesAt_32 rfl (lv_at hl 0 rfl) ?_
  refine mx_get (ci := 1) (C := RX1) (T := TX1) (N := 15) hx hb hown in_wsX10 hts hK hP 0 rfl rfl 5 (by decide) q_69 rfl (v := .ref a_c_skills) rfl dX1_criesAt_33 ?_
  refine lv_iload_n hx hb dX1_criesAt_36 rfl (lv_at hl 1 rfl) ?_
  obtain ⟨h_7, hw⟩ := hw
  refine mx_iald hx hb hK hP 3 0 rfl rfl h_7 (skills v3.toNatClampNeg) rfl dX1_criesAt_37 ?_
  refine lv_iconst (v := 2) hx hb dX1_criesAt_38 (by decide) ?_
  refine lv_idiv hx hb dX1_criesAt_39 (by decide) ?_
  refine lv_isub hx hb dX1_criesAt_40 ?_
  refine va_mmax hx hb (hml.trans hl.1.symm) hown (hts _ q_567) (hts _ q_568) (hts _ q_569) (hts _ q_570) (Nat.le_of_ble_eq_true rfl) (Nat.le_of_ble_eq_true rfl) (Nat.zero_le _) (Nat.zero_le _) dX1_criesAt_41 ?_
  refine lv_topi (fun x_8 ex_8 => ?_)
  replace hw := hw x_8 ex_8
  exact mx_iret () hx hb hr hlocks rfl hw hK hP hD hS dX1_criesAt_44
def wp_X1_criesAt (kind : Nat → Int32) (months : Nat → Int32) (skills : Nat → Int32) (v1 : Int32) (v2 : Int32) (v3 : Int32) (Post : Int32 → Prop) : Prop :=
  (wp_X1_isAsleep kind v1 v2 (fun r_1 => ((r_1 = 0 → (vp_in v1 6 ∧ (vp_in (kind v1.toNatClampNeg) 6 ∧ (wpv_criesAwake (kind v1.toNatClampNeg).toNatClampNeg (months v1.toNatClampNeg) (fun r_6 => (wp_X1_criesAt_J32 kind months skills Post v3 r_6 0)))))) ∧ (¬ r_1 = 0 → Post 0))))
set_option maxHeartbeats 4000000 in
set_option maxRecDepth 100000 in
theorem c_X1_criesAt (l : Launch) (D : va_G) (cI cB cZ cP cC : ClassId) (a_c a_c_kind a_c_months a_c_home a_c_nurse a_c_skills a_c_noteRow a_c_soundRow a_c_pastRow a_K a_k0 a_k1 a_k2 a_k3 a_k4 a_k5 : Nat) (infants : Int32) (retired : Int32) (month : Int32) (notes : Int32) (sounds : Int32) (pasts : Int32) (kind : Nat → Int32) (months : Nat → Int32) (skills : Nat → Int32) (v1 : Int32) (v2 : Int32) (v3 : Int32) (sz : Nat) (Post : Int32 → Prop) (hw : wp_X1_criesAt kind months skills v1 v2 v3 Post) :
    Met l yX1_criesAt (Cond.code yX1_criesAt cX1_criesAt 4 (some .int) :: wsAll) rm_X1_criesAt (va_Pc [.ref a_c, .int v1, .int v2, .int v3] (mxP D (mxTy cI cB cZ cP cC) sz (ww_X1_criesAt a_c a_c_kind a_c_months a_c_home a_c_nurse a_c_skills a_c_noteRow a_c_soundRow a_c_pastRow a_K a_k0 a_k1 a_k2 a_k3 a_k4 a_k5 cI cB cZ cP cC infants retired month notes sounds pasts kind months skills))) (qq_X1_criesAt D a_c a_c_kind a_c_months a_c_home a_c_nurse a_c_skills a_c_noteRow a_c_soundRow a_c_pastRow a_K a_k0 a_k1 a_k2 a_k3 a_k4 a_k5 cI cB cZ cP cC infants retired month notes sounds pasts kind months skills Post (va_A (ww_X1_criesAt a_c a_c_kind a_c_months a_c_home a_c_nurse a_c_skills a_c_noteRow a_c_soundRow a_c_pastRow a_K a_k0 a_k1 a_k2 a_k3 a_k4 a_k5 cI cB cZ cP cC infants retired month notes sounds pasts kind months skills) sz)) 0 0 (va_A (ww_X1_criesAt a_c a_c_kind a_c_months a_c_home a_c_nurse a_c_skills a_c_noteRow a_c_soundRow a_c_pastRow a_K a_k0 a_k1 a_k2 a_k3 a_k4 a_k5 cI cB cZ cP cC infants retired month notes sounds pasts kind months skills) sz) := by
  refine mx_of (Qc := qq_X1_criesAt D a_c a_c_kind a_c_months a_c_home a_c_nurse a_c_skills a_c_noteRow a_c_soundRow a_c_pastRow a_K a_k0 a_k1 a_k2 a_k3 a_k4 a_k5 cI cB cZ cP cC infants retired month notes sounds pasts kind months skills Post) (by decide) (Nat.le_of_ble_eq_true rfl) ?_
  intro p e s m bl meth c A ls C0 hP hD hS hl
  replace C0 : mxC p s m [.ref a_c, .int v1, .int v2, .int v3].toArray meth c cX1_criesAt RX1 (some .int) 4 D (mxTy cI cB cZ cP cC) A := C0
  obtain ⟨hx, hb, hr, hlocks, hml, hown, hts, hK, hA⟩ := id C0
  replace hl : lv_has ls 4 [(0, .ref a_c), (1, .int v1), (2, .int v2), (3, .int v3)] := hl
  unfold wp_X1_criesAt at hw
  refine lv_aload_n hx hb dX1_criesAt_0 rfl (lv_at hl 0 rfl) ?_
  refine lv_iload_n hx hb dX1_criesAt_1 rfl (lv_at hl 1 rfl) ?_
  refine lv_iload_n hx hb dX1_criesAt_2 rfl (lv_at hl 2 rfl) ?_
  refine mx_ki (mx_rV (rm := rm_X1_isAsleep) (rest := []) (C := RX1) hx hb hml hown hts (c_X1_isAsleep l D cI cB cZ cP cC a_c a_c_kind a_c_months a_c_home a_c_nurse a_c_skills a_c_noteRow a_c_soundRow a_c_pastRow a_K a_k0 a_k1 a_k2 a_k3 a_k4 a_k5 infants retired month notes sounds pasts kind v1 v2 _ _ hw) q_571 q_539 q_540 q_32 q_541 hd_X1_isAsleep ⟨(Nat.le_of_ble_eq_true rfl), (Nat.le_of_ble_eq_true rfl)⟩ rfl rfl hK hP hD [0, 1, 4, 5, 6, 7, 8, 9, 10] rfl rfl 1 0 rfl rfl rfl rfl hl.1 rfl (Nat.le_of_ble_eq_true rfl) dX1_criesAt_3 ⟨(Nat.le_of_ble_eq_true rfl), (Nat.le_of_ble_eq_true rfl)⟩) hP hD hS hA [0, 1, 4, 5, 6, 7, 8, 9, 10] [2, 3] [2, 3, 0, 1, 4, 5, 6, 7, 8, 9, 10] (fun _ => ww_X1_criesAt a_c a_c_kind a_c_months a_c_home a_c_nurse a_c_skills a_c_noteRow a_c_soundRow a_c_pastRow a_K a_k0 a_k1 a_k2 a_k3 a_k4 a_k5 cI cB cZ cP cC infants retired month notes sounds pasts kind months skills) rfl rfl rfl (by decide) rfl (fun _ => rfl) (fun r_1 u H locs hw hP hD hS => ?_)
  try dsimp only at hw
  replace hP : va_P D vwCl (ww_X1_criesAt a_c a_c_kind a_c_months a_c_home a_c_nurse a_c_skills a_c_noteRow a_c_soundRow a_c_pastRow a_K a_k0 a_k1 a_k2 a_k3 a_k4 a_k5 cI cB cZ cP cC infants retired month notes sounds pasts kind months skills) H := hP
  replace hD : va_D A (ww_X1_criesAt a_c a_c_kind a_c_months a_c_home a_c_nurse a_c_skills a_c_noteRow a_c_soundRow a_c_pastRow a_K a_k0 a_k1 a_k2 a_k3 a_k4 a_k5 cI cB cZ cP cC infants retired month notes sounds pasts kind months skills) := hD
  refine lv_if_eq (tgt := 11) hx hb dX1_criesAt_6 (by decide) (fun c_2 => ?_) (fun c_2 => ?_)
  · replace hw := hw.1 c_2
    refine lv_iconst (v := 0) hx hb dX1_criesAt_11 (by decide) ?_
    refine lv_aload_n hx hb dX1_criesAt_12 rfl (lv_at hl 0 rfl) ?_
    refine mx_get (ci := 1) (C := RX1) (T := TX1) (N := 15) hx hb hown in_wsX10 hts hK hP 0 rfl rfl 0 (by decide) q_73 rfl (v := .ref a_K) rfl dX1_criesAt_13 ?_
    refine lv_aload_n hx hb dX1_criesAt_16 rfl (lv_at hl 0 rfl) ?_
    refine mx_get (ci := 1) (C := RX1) (T := TX1) (N := 15) hx hb hown in_wsX10 hts hK hP 0 rfl rfl 1 (by decide) q_65 rfl (v := .ref a_c_kind) rfl dX1_criesAt_17 ?_
    refine lv_iload_n hx hb dX1_criesAt_20 rfl (lv_at hl 1 rfl) ?_
    obtain ⟨h_3, hw⟩ := hw
    refine mx_iald hx hb hK hP 1 0 rfl rfl h_3 (kind v1.toNatClampNeg) rfl dX1_criesAt_21 ?_
    obtain ⟨h_4, hw⟩ := hw
    refine mx_aldq hx hb hK hP 4 3 rfl rfl h_4 (mx_ka a_k0 a_k1 a_k2 a_k3 a_k4 a_k5 (kind v1.toNatClampNeg).toNatClampNeg) (mx_kf_at h_4) dX1_criesAt_22 ?_
    refine lv_aload_n hx hb dX1_criesAt_23 rfl (lv_at hl 0 rfl) ?_
    refine mx_get (ci := 1) (C := RX1) (T := TX1) (N := 15) hx hb hown in_wsX10 hts hK hP 0 rfl rfl 2 (by decide) q_66 rfl (v := .ref a_c_months) rfl dX1_criesAt_24 ?_
    refine lv_iload_n hx hb dX1_criesAt_27 rfl (lv_at hl 1 rfl) ?_
    refine mx_iald hx hb hK hP 2 0 rfl rfl h_3 (months v1.toNatClampNeg) rfl dX1_criesAt_28 ?_
    rcases mx_six h_4 with e_5 | e_5 | e_5 | e_5 | e_5 | e_5
    · replace hw := hw.1 e_5
      refine W.eq (g2 := F0 m 29 ls [.int (months v1.toNatClampNeg), .ref a_k0, .int 0]) (by rw [e_5]; rfl) ?_
      refine mx_ki (mx_rV (rm := rm_X6_criesAwake) (rest := [.int 0]) (C := RX6) hx hb hml hown hts (c_X6_criesAwake l D cI cB cZ cP cC a_k0 (months v1.toNatClampNeg) _ _ hw) q_589 q_585 q_590 q_14 q_586 hd_X6_criesAwake ⟨(Nat.le_of_ble_eq_true rfl), (Nat.le_of_ble_eq_true rfl)⟩ rfl rfl hK hP hD [] rfl rfl 6 5 rfl rfl rfl rfl hl.1 rfl (Nat.le_of_ble_eq_true rfl) dX1_criesAt_29 ⟨(Nat.le_of_ble_eq_true rfl), (Nat.le_of_ble_eq_true rfl)⟩) hP hD hS hA [] [0, 1, 2, 3, 4, 5, 6, 7, 8, 9, 10] [0, 1, 2, 3, 4, 5, 6, 7, 8, 9, 10] (fun _ => ww_X1_criesAt a_c a_c_kind a_c_months a_c_home a_c_nurse a_c_skills a_c_noteRow a_c_soundRow a_c_pastRow a_K a_k0 a_k1 a_k2 a_k3 a_k4 a_k5 cI cB cZ cP cC infants retired month notes sounds pasts kind months skills) rfl rfl rfl (by decide) rfl (fun _ => rfl) (fun r_6 u H locs hw hP hD hS => ?_)
      try dsimp only at hw
      replace hP : va_P D vwCl (ww_X1_criesAt a_c a_c_kind a_c_months a_c_home a_c_nurse a_c_skills a_c_noteRow a_c_soundRow a_c_pastRow a_K a_k0 a_k1 a_k2 a_k3 a_k4 a_k5 cI cB cZ cP cC infants retired month notes sounds pasts kind months skills) H := hP
      replace hD : va_D A (ww_X1_criesAt a_c a_c_kind a_c_months a_c_home a_c_nurse a_c_skills a_c_noteRow a_c_soundRow a_c_pastRow a_K a_k0 a_k1 a_k2 a_k3 a_k4 a_k5 cI cB cZ cP cC infants retired month notes sounds pasts kind months skills) := hD
      exact k_X1_criesAt_J32 C0  v3 r_6 0 _ _ _ hP hD hS (lv_sub hl [0, 3] rfl) hw
    · replace hw := hw.2.1 e_5
      refine W.eq (g2 := F0 m 29 ls [.int (months v1.toNatClampNeg), .ref a_k1, .int 0]) (by rw [e_5]; rfl) ?_
      refine mx_ki (mx_rU (x := yX6_criesAwake) (y := yX8_criesAwake) (rm := rm_X8_criesAwake) (rest := [.int 0]) (C := RX8) hx hb hml hown hts (c_X8_criesAwake l D cI cB cZ cP cC a_k1 (months v1.toNatClampNeg) _ _ hw) q_589 q_573 q_585 q_595 q_581 q_17 q_582 q_586 hdu_X6_criesAwake ⟨(Nat.le_of_ble_eq_true rfl), (Nat.le_of_ble_eq_true rfl)⟩ rfl rfl hK hP hD [6] rfl rfl 8 6 rfl rfl rfl rfl hl.1 rfl (Nat.le_of_ble_eq_true rfl) dX1_criesAt_29 ⟨(Nat.le_of_ble_eq_true rfl), (Nat.le_of_ble_eq_true rfl)⟩) hP hD hS hA [6] [0, 1, 2, 3, 4, 5, 7, 8, 9, 10] [0, 1, 2, 3, 4, 5, 10, 6, 7, 8, 9] (fun _ => ww_X1_criesAt a_c a_c_kind a_c_months a_c_home a_c_nurse a_c_skills a_c_noteRow a_c_soundRow a_c_pastRow a_K a_k0 a_k1 a_k2 a_k3 a_k4 a_k5 cI cB cZ cP cC infants retired month notes sounds pasts kind months skills) rfl rfl rfl (by decide) rfl (fun _ => rfl) (fun r_6 u H locs hw hP hD hS => ?_)
      try dsimp only at hw
      replace hP : va_P D vwCl (ww_X1_criesAt a_c a_c_kind a_c_months a_c_home a_c_nurse a_c_skills a_c_noteRow a_c_soundRow a_c_pastRow a_K a_k0 a_k1 a_k2 a_k3 a_k4 a_k5 cI cB cZ cP cC infants retired month notes sounds pasts kind months skills) H := hP
      replace hD : va_D A (ww_X1_criesAt a_c a_c_kind a_c_months a_c_home a_c_nurse a_c_skills a_c_noteRow a_c_soundRow a_c_pastRow a_K a_k0 a_k1 a_k2 a_k3 a_k4 a_k5 cI cB cZ cP cC infants retired month notes sounds pasts kind months skills) := hD
      exact k_X1_criesAt_J32 C0  v3 r_6 0 _ _ _ hP hD hS (lv_sub hl [0, 3] rfl) hw
    · replace hw := hw.2.2.1 e_5
      refine W.eq (g2 := F0 m 29 ls [.int (months v1.toNatClampNeg), .ref a_k2, .int 0]) (by rw [e_5]; rfl) ?_
      refine mx_ki (mx_rU (x := yX6_criesAwake) (y := yX7_criesAwake) (rm := rm_X7_criesAwake) (rest := [.int 0]) (C := RX7) hx hb hml hown hts (c_X7_criesAwake l D cI cB cZ cP cC a_k2 (months v1.toNatClampNeg) _ _ hw) q_589 q_573 q_585 q_591 q_592 q_20 q_593 q_586 hdu_X6_criesAwake ⟨(Nat.le_of_ble_eq_true rfl), (Nat.le_of_ble_eq_true rfl)⟩ rfl rfl hK hP hD [7] rfl rfl 7 7 rfl rfl rfl rfl hl.1 rfl (Nat.le_of_ble_eq_true rfl) dX1_criesAt_29 ⟨(Nat.le_of_ble_eq_true rfl), (Nat.le_of_ble_eq_true rfl)⟩) hP hD hS hA [7] [0, 1, 2, 3, 4, 5, 6, 8, 9, 10] [0, 1, 2, 3, 4, 5, 6, 10, 7, 8, 9] (fun _ => ww_X1_criesAt a_c a_c_kind a_c_months a_c_home a_c_nurse a_c_skills a_c_noteRow a_c_soundRow a_c_pastRow a_K a_k0 a_k1 a_k2 a_k3 a_k4 a_k5 cI cB cZ cP cC infants retired month notes sounds pasts kind months skills) rfl rfl rfl (by decide) rfl (fun _ => rfl) (fun r_6 u H locs hw hP hD hS => ?_)
      try dsimp only at hw
      replace hP : va_P D vwCl (ww_X1_criesAt a_c a_c_kind a_c_months a_c_home a_c_nurse a_c_skills a_c_noteRow a_c_soundRow a_c_pastRow a_K a_k0 a_k1 a_k2 a_k3 a_k4 a_k5 cI cB cZ cP cC infants retired month notes sounds pasts kind months skills) H := hP
      replace hD : va_D A (ww_X1_criesAt a_c a_c_kind a_c_months a_c_home a_c_nurse a_c_skills a_c_noteRow a_c_soundRow a_c_pastRow a_K a_k0 a_k1 a_k2 a_k3 a_k4 a_k5 cI cB cZ cP cC infants retired month notes sounds pasts kind months skills) := hD
      exact k_X1_criesAt_J32 C0  v3 r_6 0 _ _ _ hP hD hS (lv_sub hl [0, 3] rfl) hw
    · replace hw := hw.2.2.2.1 e_5
      refine W.eq (g2 := F0 m 29 ls [.int (months v1.toNatClampNeg), .ref a_k3, .int 0]) (by rw [e_5]; rfl) ?_
      refine mx_ki (mx_rU (x := yX6_criesAwake) (y := yX6_criesAwake) (rm := rm_X6_criesAwake) (rest := [.int 0]) (C := RX3) hx hb hml hown hts (c_X6_criesAwake l D cI cB cZ cP cC a_k3 (months v1.toNatClampNeg) _ _ hw) q_589 q_573 q_585 q_587 q_585 q_14 q_586 q_586 hdu_X6_criesAwake ⟨(Nat.le_of_ble_eq_true rfl), (Nat.le_of_ble_eq_true rfl)⟩ rfl rfl hK hP hD [] rfl rfl 3 8 rfl rfl rfl rfl hl.1 rfl (Nat.le_of_ble_eq_true rfl) dX1_criesAt_29 ⟨(Nat.le_of_ble_eq_true rfl), (Nat.le_of_ble_eq_true rfl)⟩) hP hD hS hA [] [0, 1, 2, 3, 4, 5, 6, 7, 8, 9, 10] [0, 1, 2, 3, 4, 5, 6, 7, 8, 9, 10] (fun _ => ww_X1_criesAt a_c a_c_kind a_c_months a_c_home a_c_nurse a_c_skills a_c_noteRow a_c_soundRow a_c_pastRow a_K a_k0 a_k1 a_k2 a_k3 a_k4 a_k5 cI cB cZ cP cC infants retired month notes sounds pasts kind months skills) rfl rfl rfl (by decide) rfl (fun _ => rfl) (fun r_6 u H locs hw hP hD hS => ?_)
      try dsimp only at hw
      replace hP : va_P D vwCl (ww_X1_criesAt a_c a_c_kind a_c_months a_c_home a_c_nurse a_c_skills a_c_noteRow a_c_soundRow a_c_pastRow a_K a_k0 a_k1 a_k2 a_k3 a_k4 a_k5 cI cB cZ cP cC infants retired month notes sounds pasts kind months skills) H := hP
      replace hD : va_D A (ww_X1_criesAt a_c a_c_kind a_c_months a_c_home a_c_nurse a_c_skills a_c_noteRow a_c_soundRow a_c_pastRow a_K a_k0 a_k1 a_k2 a_k3 a_k4 a_k5 cI cB cZ cP cC infants retired month notes sounds pasts kind months skills) := hD
      exact k_X1_criesAt_J32 C0  v3 r_6 0 _ _ _ hP hD hS (lv_sub hl [0, 3] rfl) hw
    · replace hw := hw.2.2.2.2.1 e_5
      refine W.eq (g2 := F0 m 29 ls [.int (months v1.toNatClampNeg), .ref a_k4, .int 0]) (by rw [e_5]; rfl) ?_
      refine mx_ki (mx_rU (x := yX6_criesAwake) (y := yX6_criesAwake) (rm := rm_X6_criesAwake) (rest := [.int 0]) (C := RX4) hx hb hml hown hts (c_X6_criesAwake l D cI cB cZ cP cC a_k4 (months v1.toNatClampNeg) _ _ hw) q_589 q_573 q_585 q_588 q_585 q_14 q_586 q_586 hdu_X6_criesAwake ⟨(Nat.le_of_ble_eq_true rfl), (Nat.le_of_ble_eq_true rfl)⟩ rfl rfl hK hP hD [] rfl rfl 4 9 rfl rfl rfl rfl hl.1 rfl (Nat.le_of_ble_eq_true rfl) dX1_criesAt_29 ⟨(Nat.le_of_ble_eq_true rfl), (Nat.le_of_ble_eq_true rfl)⟩) hP hD hS hA [] [0, 1, 2, 3, 4, 5, 6, 7, 8, 9, 10] [0, 1, 2, 3, 4, 5, 6, 7, 8, 9, 10] (fun _ => ww_X1_criesAt a_c a_c_kind a_c_months a_c_home a_c_nurse a_c_skills a_c_noteRow a_c_soundRow a_c_pastRow a_K a_k0 a_k1 a_k2 a_k3 a_k4 a_k5 cI cB cZ cP cC infants retired month notes sounds pasts kind months skills) rfl rfl rfl (by decide) rfl (fun _ => rfl) (fun r_6 u H locs hw hP hD hS => ?_)
      try dsimp only at hw
      replace hP : va_P D vwCl (ww_X1_criesAt a_c a_c_kind a_c_months a_c_home a_c_nurse a_c_skills a_c_noteRow a_c_soundRow a_c_pastRow a_K a_k0 a_k1 a_k2 a_k3 a_k4 a_k5 cI cB cZ cP cC infants retired month notes sounds pasts kind months skills) H := hP
      replace hD : va_D A (ww_X1_criesAt a_c a_c_kind a_c_months a_c_home a_c_nurse a_c_skills a_c_noteRow a_c_soundRow a_c_pastRow a_K a_k0 a_k1 a_k2 a_k3 a_k4 a_k5 cI cB cZ cP cC infants retired month notes sounds pasts kind months skills) := hD
      exact k_X1_criesAt_J32 C0  v3 r_6 0 _ _ _ hP hD hS (lv_sub hl [0, 3] rfl) hw
    · replace hw := hw.2.2.2.2.2 e_5
      refine W.eq (g2 := F0 m 29 ls [.int (months v1.toNatClampNeg), .ref a_k5, .int 0]) (by rw [e_5]; rfl) ?_
      refine mx_ki (mx_rU (x := yX6_criesAwake) (y := yX0_criesAwake) (rm := rm_X0_criesAwake) (rest := [.int 0]) (C := RX0) hx hb hml hown hts (c_X0_criesAwake l D cI cB cZ cP cC a_k5 (months v1.toNatClampNeg) _ _ hw) q_589 q_573 q_585 q_575 q_576 q_29 q_577 q_586 hdu_X6_criesAwake ⟨(Nat.le_of_ble_eq_true rfl), (Nat.le_of_ble_eq_true rfl)⟩ rfl rfl hK hP hD [10] rfl rfl 0 10 rfl rfl rfl rfl hl.1 rfl (Nat.le_of_ble_eq_true rfl) dX1_criesAt_29 ⟨(Nat.le_of_ble_eq_true rfl), (Nat.le_of_ble_eq_true rfl)⟩) hP hD hS hA [10] [0, 1, 2, 3, 4, 5, 6, 7, 8, 9] [0, 1, 2, 3, 4, 5, 6, 7, 8, 9, 10] (fun _ => ww_X1_criesAt a_c a_c_kind a_c_months a_c_home a_c_nurse a_c_skills a_c_noteRow a_c_soundRow a_c_pastRow a_K a_k0 a_k1 a_k2 a_k3 a_k4 a_k5 cI cB cZ cP cC infants retired month notes sounds pasts kind months skills) rfl rfl rfl (by decide) rfl (fun _ => rfl) (fun r_6 u H locs hw hP hD hS => ?_)
      try dsimp only at hw
      replace hP : va_P D vwCl (ww_X1_criesAt a_c a_c_kind a_c_months a_c_home a_c_nurse a_c_skills a_c_noteRow a_c_soundRow a_c_pastRow a_K a_k0 a_k1 a_k2 a_k3 a_k4 a_k5 cI cB cZ cP cC infants retired month notes sounds pasts kind months skills) H := hP
      replace hD : va_D A (ww_X1_criesAt a_c a_c_kind a_c_months a_c_home a_c_nurse a_c_skills a_c_noteRow a_c_soundRow a_c_pastRow a_K a_k0 a_k1 a_k2 a_k3 a_k4 a_k5 cI cB cZ cP cC infants retired month notes sounds pasts kind months skills) := hD
      exact k_X1_criesAt_J32 C0  v3 r_6 0 _ _ _ hP hD hS (lv_sub hl [0, 3] rfl) hw
  · replace hw := hw.2 c_2
    refine lv_iconst (v := 0) hx hb dX1_criesAt_9 (by decide) ?_
    exact mx_iret () hx hb hr hlocks rfl hw hK hP hD hS dX1_criesAt_10
/-! PramState$Court.criesAllDay(II)I -/
abbrev ww_X1_criesAllDay (a_c a_c_kind a_c_months a_c_home a_c_nurse a_c_skills a_c_noteRow a_c_soundRow a_c_pastRow a_K a_k0 a_k1 a_k2 a_k3 a_k4 a_k5 : Nat) (cI cB cZ cP cC : ClassId) (infants : Int32) (retired : Int32) (month : Int32) (notes : Int32) (sounds : Int32) (pasts : Int32) (kind : Nat → Int32) (months : Nat → Int32) (skills : Nat → Int32) : va_W := [(a_c, .inr (1, [.ref a_K, .ref a_c_kind, .ref a_c_months, .ref a_c_home, .ref a_c_nurse, .ref a_c_skills, .ref a_c_noteRow, .ref a_c_soundRow, .ref a_c_pastRow, .int infants, .int retired, .int month, .int notes, .int sounds, .int pasts])), (a_c_kind, .inl (cI, 6, .inl kind)), (a_c_months, .inl (cI, 6, .inl months)), (a_c_skills, .inl (cI, 6, .inl skills)), (a_K, .inl (cP, 6, .inr (.inr (.inr (.inr (mx_kf a_k0 a_k1 a_k2 a_k3 a_k4 a_k5)))))), (a_k0, .inr (6, [])), (a_k1, .inr (8, [])), (a_k2, .inr (7, [])), (a_k3, .inr (3, [])), (a_k4, .inr (4, [])), (a_k5, .inr (0, []))]
abbrev qq_X1_criesAllDay (D : va_G) (a_c a_c_kind a_c_months a_c_home a_c_nurse a_c_skills a_c_noteRow a_c_soundRow a_c_pastRow a_K a_k0 a_k1 a_k2 a_k3 a_k4 a_k5 : Nat) (cI cB cZ cP cC : ClassId) (infants : Int32) (retired : Int32) (month : Int32) (notes : Int32) (sounds : Int32) (pasts : Int32) (kind : Nat → Int32) (months : Nat → Int32) (skills : Nat → Int32) (Post : Int32 → Prop) (A : Nat → Prop) : Array Value → State → Outcome → State → Prop := va_Qi (fun (r : Int32) (u : Unit) => Post r) (fun (u : Unit) t => mxB D (mxTy cI cB cZ cP cC) A (ww_X1_criesAllDay a_c a_c_kind a_c_months a_c_home a_c_nurse a_c_skills a_c_noteRow a_c_soundRow a_c_pastRow a_K a_k0 a_k1 a_k2 a_k3 a_k4 a_k5 cI cB cZ cP cC infants retired month notes sounds pasts kind months skills) t) A
abbrev rm_X1_criesAllDay : Room := { frames := 4, cells := 0, slots := 0, locals := 87 }
theorem hd_X1_criesAllDay : yX1_criesAllDay.cls = RX1 ∧ yX1_criesAllDay.cls ≠ "java/lang/invoke/MethodHandle" ∧ yX1_criesAllDay.cls ≠ "java/lang/invoke/VarHandle" ∧ (parseMethodDescriptor yX1_criesAllDay.desc).map (fun d => d.parameters.length) = some 2 := by decide +kernel
def wp_X1_criesAllDay_L5 (kind : Nat → Int32) (months : Nat → Int32) (skills : Nat → Int32) (Post : Int32 → Prop)  : Nat → Int32 → Int32 → Int32 → Int32 → Prop
  | 0, _, _, _, _ => False
  | n + 1, v1, v2, v3, v4 => ((24 ≤ v4 → Post v3) ∧ (¬ 24 ≤ v4 → (wp_X1_criesAt kind months skills v1 v4 v2 (fun r_2 => (∀ x_3 : Int32, x_3 = v3 + r_2 → (∀ x_4 : Int32, x_4 = v4 + 1 → wp_X1_criesAllDay_L5 kind months skills Post  n v1 v2 x_3 x_4))))))
set_option maxHeartbeats 4000000 in
set_option maxRecDepth 100000 in
theorem k_X1_criesAllDay_L5 {p : Program} {l : Launch} {e : Env} {s : State} {m : MethodId} {ar : Array Value} {bl : List Frame} {meth : Method} {c : Code} {D : va_G} {A : Nat → Prop} {cI cB cZ cP cC : ClassId} {a_c a_c_kind a_c_months a_c_home a_c_nurse a_c_skills a_c_noteRow a_c_soundRow a_c_pastRow a_K a_k0 a_k1 a_k2 a_k3 a_k4 a_k5 : Nat} {infants : Int32} {retired : Int32} {month : Int32} {notes : Int32} {sounds : Int32} {pasts : Int32} {kind : Nat → Int32} {months : Nat → Int32} {skills : Nat → Int32} {Post : Int32 → Prop} (C0 : mxC p s m ar meth c cX1_criesAllDay RX1 (some .int) 5 D (mxTy cI cB cZ cP cC) A) :
    ∀ (n : Nat) (v1 : Int32) (v2 : Int32) (v3 : Int32) (v4 : Int32) (H : Heap) (locs : List Loc) (ls : Array Slot), va_P D vwCl (ww_X1_criesAllDay a_c a_c_kind a_c_months a_c_home a_c_nurse a_c_skills a_c_noteRow a_c_soundRow a_c_pastRow a_K a_k0 a_k1 a_k2 a_k3 a_k4 a_k5 cI cB cZ cP cC infants retired month notes sounds pasts kind months skills) H → va_D A (ww_X1_criesAllDay a_c a_c_kind a_c_months a_c_home a_c_nurse a_c_skills a_c_noteRow a_c_soundRow a_c_pastRow a_K a_k0 a_k1 a_k2 a_k3 a_k4 a_k5 cI cB cZ cP cC infants retired month notes sounds pasts kind months skills) → va_S A s.heap H locs → lv_has ls 5 [(0, .ref a_c), (1, .int v1), (2, .int v2), (3, .int v3), (4, .int v4)] → wp_X1_criesAllDay_L5 kind months skills Post  n v1 v2 v3 v4 → W p l e rm_X1_criesAllDay s m ar bl meth c H locs 0 0 (MQ bl (qq_X1_criesAllDay D a_c a_c_kind a_c_months a_c_home a_c_nurse a_c_skills a_c_noteRow a_c_soundRow a_c_pastRow a_K a_k0 a_k1 a_k2 a_k3 a_k4 a_k5 cI cB cZ cP cC infants retired month notes sounds pasts kind months skills Post A) ar s 0 0 A) (F0 m 5 ls []) := by
  obtain ⟨hx, hb, hr, hlocks, hml, hown, hts, hK, hA⟩ := id C0
  intro n
  induction n with
  | zero =>
    intro v1 v2 v3 v4 H locs ls hP hD hS hl hw
    exact absurd hw (fun h => h)
  | succ n ih =>
    intro v1 v2 v3 v4 H locs ls hP hD hS hl hw
    refine lv_iload hx hb dX1_criesAllDay_5 (lv_at hl 4 rfl) ?_
    refine lv_bipush (v := 24) hx hb dX1_criesAllDay_7 (by decide) ?_
    refine lv_icmp_ge (tgt := 29) hx hb dX1_criesAllDay_9 (by decide) (fun c_1 => ?_) (fun c_1 => ?_)
    · replace hw := hw.1 c_1
      refine lv_iload_n hx hb dX1_criesAllDay_29 rfl (lv_at hl 3 rfl) ?_
      exact mx_iret () hx hb hr hlocks rfl hw hK hP hD hS dX1_criesAllDay_30
    · replace hw := hw.2 c_1
      refine lv_iload_n hx hb dX1_criesAllDay_12 rfl (lv_at hl 3 rfl) ?_
      refine lv_aload_n hx hb dX1_criesAllDay_13 rfl (lv_at hl 0 rfl) ?_
      refine lv_iload_n hx hb dX1_criesAllDay_14 rfl (lv_at hl 1 rfl) ?_
      refine lv_iload hx hb dX1_criesAllDay_15 (lv_at hl 4 rfl) ?_
      refine lv_iload_n hx hb dX1_criesAllDay_17 rfl (lv_at hl 2 rfl) ?_
      refine mx_ki (mx_rV (rm := rm_X1_criesAt) (rest := [.int v3]) (C := RX1) hx hb hml hown hts (c_X1_criesAt l D cI cB cZ cP cC a_c a_c_kind a_c_months a_c_home a_c_nurse a_c_skills a_c_noteRow a_c_soundRow a_c_pastRow a_K a_k0 a_k1 a_k2 a_k3 a_k4 a_k5 infants retired month notes sounds pasts kind months skills v1 v4 v2 _ _ hw) q_632 q_564 q_565 q_32 q_566 hd_X1_criesAt ⟨(Nat.le_of_ble_eq_true rfl), (Nat.le_of_ble_eq_true rfl)⟩ rfl rfl hK hP hD [0, 1, 2, 3, 4, 5, 6, 7, 8, 9, 10] rfl rfl 1 0 rfl rfl rfl rfl hl.1 rfl (Nat.le_of_ble_eq_true rfl) dX1_criesAllDay_18 ⟨(Nat.le_of_ble_eq_true rfl), (Nat.le_of_ble_eq_true rfl)⟩) hP hD hS hA [0, 1, 2, 3, 4, 5, 6, 7, 8, 9, 10] [] [0, 1, 2, 3, 4, 5, 6, 7, 8, 9, 10] (fun _ => ww_X1_criesAllDay a_c a_c_kind a_c_months a_c_home a_c_nurse a_c_skills a_c_noteRow a_c_soundRow a_c_pastRow a_K a_k0 a_k1 a_k2 a_k3 a_k4 a_k5 cI cB cZ cP cC infants retired month notes sounds pasts kind months skills) rfl rfl rfl (by decide) rfl (fun _ => rfl) (fun r_2 u H locs hw hP hD hS => ?_)
      try dsimp only at hw
      replace hP : va_P D vwCl (ww_X1_criesAllDay a_c a_c_kind a_c_months a_c_home a_c_nurse a_c_skills a_c_noteRow a_c_soundRow a_c_pastRow a_K a_k0 a_k1 a_k2 a_k3 a_k4 a_k5 cI cB cZ cP cC infants retired month notes sounds pasts kind months skills) H := hP
      replace hD : va_D A (ww_X1_criesAllDay a_c a_c_kind a_c_months a_c_home a_c_nurse a_c_skills a_c_noteRow a_c_soundRow a_c_pastRow a_K a_k0 a_k1 a_k2 a_k3 a_k4 a_k5 cI cB cZ cP cC infants retired month notes sounds pasts kind months skills) := hD
      refine lv_iadd hx hb dX1_criesAllDay_21 ?_
      refine lv_topi (fun x_3 ex_3 => ?_)
      replace hw := hw x_3 ex_3
      refine lv_istore_n (lv' := [(3, .int x_3), (0, .ref a_c), (1, .int v1), (2, .int v2), (4, .int v4)]) hx hb dX1_criesAllDay_22 rfl hl (by decide) rfl (fun ls hl => ?_)
      obtain ⟨x_4, ex_4⟩ : ∃ y : Int32, y = v4 + 1 := ⟨_, rfl⟩
      replace hw := hw x_4 ex_4
      refine lv_iinc (v := x_4) (lv' := [(4, .int x_4), (3, .int x_3), (0, .ref a_c), (1, .int v1), (2, .int v2)]) hx hb dX1_criesAllDay_23 hl (k := 4) rfl (by rw [ex_4]; rfl) (by decide) rfl (fun ls hl => ?_)
      refine lv_goto (tgt := 5) hx hb dX1_criesAllDay_26 (by decide) ?_
      exact ih v1 v2 x_3 x_4 _ _ _ hP hD hS (lv_sub hl [2, 3, 4, 1, 0] rfl) hw
def wp_X1_criesAllDay (kind : Nat → Int32) (months : Nat → Int32) (skills : Nat → Int32) (v1 : Int32) (v2 : Int32) (Post : Int32 → Prop) : Prop :=
  (∃ k_5 : Nat, wp_X1_criesAllDay_L5 kind months skills Post k_5 v1 v2 0 0)
set_option maxHeartbeats 4000000 in
set_option maxRecDepth 100000 in
theorem c_X1_criesAllDay (l : Launch) (D : va_G) (cI cB cZ cP cC : ClassId) (a_c a_c_kind a_c_months a_c_home a_c_nurse a_c_skills a_c_noteRow a_c_soundRow a_c_pastRow a_K a_k0 a_k1 a_k2 a_k3 a_k4 a_k5 : Nat) (infants : Int32) (retired : Int32) (month : Int32) (notes : Int32) (sounds : Int32) (pasts : Int32) (kind : Nat → Int32) (months : Nat → Int32) (skills : Nat → Int32) (v1 : Int32) (v2 : Int32) (sz : Nat) (Post : Int32 → Prop) (hw : wp_X1_criesAllDay kind months skills v1 v2 Post) :
    Met l yX1_criesAllDay (Cond.code yX1_criesAllDay cX1_criesAllDay 5 (some .int) :: wsAll) rm_X1_criesAllDay (va_Pc [.ref a_c, .int v1, .int v2] (mxP D (mxTy cI cB cZ cP cC) sz (ww_X1_criesAllDay a_c a_c_kind a_c_months a_c_home a_c_nurse a_c_skills a_c_noteRow a_c_soundRow a_c_pastRow a_K a_k0 a_k1 a_k2 a_k3 a_k4 a_k5 cI cB cZ cP cC infants retired month notes sounds pasts kind months skills))) (qq_X1_criesAllDay D a_c a_c_kind a_c_months a_c_home a_c_nurse a_c_skills a_c_noteRow a_c_soundRow a_c_pastRow a_K a_k0 a_k1 a_k2 a_k3 a_k4 a_k5 cI cB cZ cP cC infants retired month notes sounds pasts kind months skills Post (va_A (ww_X1_criesAllDay a_c a_c_kind a_c_months a_c_home a_c_nurse a_c_skills a_c_noteRow a_c_soundRow a_c_pastRow a_K a_k0 a_k1 a_k2 a_k3 a_k4 a_k5 cI cB cZ cP cC infants retired month notes sounds pasts kind months skills) sz)) 0 0 (va_A (ww_X1_criesAllDay a_c a_c_kind a_c_months a_c_home a_c_nurse a_c_skills a_c_noteRow a_c_soundRow a_c_pastRow a_K a_k0 a_k1 a_k2 a_k3 a_k4 a_k5 cI cB cZ cP cC infants retired month notes sounds pasts kind months skills) sz) := by
  refine mx_of (Qc := qq_X1_criesAllDay D a_c a_c_kind a_c_months a_c_home a_c_nurse a_c_skills a_c_noteRow a_c_soundRow a_c_pastRow a_K a_k0 a_k1 a_k2 a_k3 a_k4 a_k5 cI cB cZ cP cC infants retired month notes sounds pasts kind months skills Post) (by decide) (Nat.le_of_ble_eq_true rfl) ?_
  intro p e s m bl meth c A ls C0 hP hD hS hl
  replace C0 : mxC p s m [.ref a_c, .int v1, .int v2].toArray meth c cX1_criesAllDay RX1 (some .int) 5 D (mxTy cI cB cZ cP cC) A := C0
  obtain ⟨hx, hb, hr, hlocks, hml, hown, hts, hK, hA⟩ := id C0
  replace hl : lv_has ls 5 [(0, .ref a_c), (1, .int v1), (2, .int v2)] := hl
  unfold wp_X1_criesAllDay at hw
  refine lv_iconst (v := 0) hx hb dX1_criesAllDay_0 (by decide) ?_
  refine lv_istore_n (lv' := [(3, .int 0), (0, .ref a_c), (1, .int v1), (2, .int v2)]) hx hb dX1_criesAllDay_1 rfl hl (by decide) rfl (fun ls hl => ?_)
  refine lv_iconst (v := 0) hx hb dX1_criesAllDay_2 (by decide) ?_
  refine lv_istore (lv' := [(4, .int 0), (3, .int 0), (0, .ref a_c), (1, .int v1), (2, .int v2)]) hx hb dX1_criesAllDay_3 hl (by decide) rfl (fun ls hl => ?_)
  obtain ⟨n0, hw⟩ := hw
  refine k_X1_criesAllDay_L5 C0  n0 v1 v2 0 0 _ _ _ hP hD hS (lv_sub hl [2, 3, 4, 1, 0] rfl) hw
/-! PramState$Court.sovereign(I)I -/
abbrev ww_X1_sovereign (a_c a_c_kind a_c_months a_c_home a_c_nurse a_c_skills a_c_noteRow a_c_soundRow a_c_pastRow a_K a_k0 a_k1 a_k2 a_k3 a_k4 a_k5 : Nat) (cI cB cZ cP cC : ClassId) (infants : Int32) (retired : Int32) (month : Int32) (notes : Int32) (sounds : Int32) (pasts : Int32) (kind : Nat → Int32) (months : Nat → Int32) : va_W := [(a_c, .inr (1, [.ref a_K, .ref a_c_kind, .ref a_c_months, .ref a_c_home, .ref a_c_nurse, .ref a_c_skills, .ref a_c_noteRow, .ref a_c_soundRow, .ref a_c_pastRow, .int infants, .int retired, .int month, .int notes, .int sounds, .int pasts])), (a_c_kind, .inl (cI, 6, .inl kind)), (a_c_months, .inl (cI, 6, .inl months)), (a_K, .inl (cP, 6, .inr (.inr (.inr (.inr (mx_kf a_k0 a_k1 a_k2 a_k3 a_k4 a_k5)))))), (a_k0, .inr (6, [])), (a_k1, .inr (8, [])), (a_k2, .inr (7, [])), (a_k3, .inr (3, [])), (a_k4, .inr (4, [])), (a_k5, .inr (0, []))]
abbrev qq_X1_sovereign (D : va_G) (a_c a_c_kind a_c_months a_c_home a_c_nurse a_c_skills a_c_noteRow a_c_soundRow a_c_pastRow a_K a_k0 a_k1 a_k2 a_k3 a_k4 a_k5 : Nat) (cI cB cZ cP cC : ClassId) (infants : Int32) (retired : Int32) (month : Int32) (notes : Int32) (sounds : Int32) (pasts : Int32) (kind : Nat → Int32) (months : Nat → Int32) (Post : Int32 → Prop) (A : Nat → Prop) : Array Value → State → Outcome → State → Prop := va_Qi (fun (r : Int32) (u : Unit) => Post r) (fun (u : Unit) t => mxB D (mxTy cI cB cZ cP cC) A (ww_X1_sovereign a_c a_c_kind a_c_months a_c_home a_c_nurse a_c_skills a_c_noteRow a_c_soundRow a_c_pastRow a_K a_k0 a_k1 a_k2 a_k3 a_k4 a_k5 cI cB cZ cP cC infants retired month notes sounds pasts kind months) t) A
abbrev rm_X1_sovereign : Room := { frames := 3, cells := 0, slots := 0, locals := 61 }
theorem hd_X1_sovereign : yX1_sovereign.cls = RX1 ∧ yX1_sovereign.cls ≠ "java/lang/invoke/MethodHandle" ∧ yX1_sovereign.cls ≠ "java/lang/invoke/VarHandle" ∧ (parseMethodDescriptor yX1_sovereign.desc).map (fun d => d.parameters.length) = some 1 := by decide +kernel
def wp_X1_sovereign_J65 (infants : Int32) (retired : Int32) (kind : Nat → Int32) (months : Nat → Int32) (Post : Int32 → Prop) (K_4 : Int32 → Int32 → Int32 → Prop) (v1 : Int32) (v2 : Int32) (v3 : Int32) : Prop :=
  (∀ x_4 : Int32, x_4 = v3 + 1 → K_4 v1 v2 x_4)
set_option maxHeartbeats 4000000 in
set_option maxRecDepth 100000 in
theorem k_X1_sovereign_J65 {p : Program} {l : Launch} {e : Env} {s : State} {m : MethodId} {ar : Array Value} {bl : List Frame} {meth : Method} {c : Code} {D : va_G} {A : Nat → Prop} {cI cB cZ cP cC : ClassId} {a_c a_c_kind a_c_months a_c_home a_c_nurse a_c_skills a_c_noteRow a_c_soundRow a_c_pastRow a_K a_k0 a_k1 a_k2 a_k3 a_k4 a_k5 : Nat} {infants : Int32} {retired : Int32} {month : Int32} {notes : Int32} {sounds : Int32} {pasts : Int32} {kind : Nat → Int32} {months : Nat → Int32} {Post : Int32 → Prop} {K_4 : Int32 → Int32 → Int32 → Prop} (C0 : mxC p s m ar meth c cX1_sovereign RX1 (some .int) 4 D (mxTy cI cB cZ cP cC) A)
    (hK_4 : ∀ (v1 : Int32) (v2 : Int32) (v3 : Int32) (H : Heap) (locs : List Loc) (ls : Array Slot), va_P D vwCl (ww_X1_sovereign a_c a_c_kind a_c_months a_c_home a_c_nurse a_c_skills a_c_noteRow a_c_soundRow a_c_pastRow a_K a_k0 a_k1 a_k2 a_k3 a_k4 a_k5 cI cB cZ cP cC infants retired month notes sounds pasts kind months) H → va_D A (ww_X1_sovereign a_c a_c_kind a_c_months a_c_home a_c_nurse a_c_skills a_c_noteRow a_c_soundRow a_c_pastRow a_K a_k0 a_k1 a_k2 a_k3 a_k4 a_k5 cI cB cZ cP cC infants retired month notes sounds pasts kind months) → va_S A s.heap H locs → lv_has ls 4 [(0, .ref a_c), (1, .int v1), (2, .int v2), (3, .int v3)] → K_4 v1 v2 v3 → W p l e rm_X1_sovereign s m ar bl meth c H locs 0 0 (MQ bl (qq_X1_sovereign D a_c a_c_kind a_c_months a_c_home a_c_nurse a_c_skills a_c_noteRow a_c_soundRow a_c_pastRow a_K a_k0 a_k1 a_k2 a_k3 a_k4 a_k5 cI cB cZ cP cC infants retired month notes sounds pasts kind months Post A) ar s 0 0 A) (F0 m 4 ls [])) :
    ∀ (v1 : Int32) (v2 : Int32) (v3 : Int32) (H : Heap) (locs : List Loc) (ls : Array Slot), va_P D vwCl (ww_X1_sovereign a_c a_c_kind a_c_months a_c_home a_c_nurse a_c_skills a_c_noteRow a_c_soundRow a_c_pastRow a_K a_k0 a_k1 a_k2 a_k3 a_k4 a_k5 cI cB cZ cP cC infants retired month notes sounds pasts kind months) H → va_D A (ww_X1_sovereign a_c a_c_kind a_c_months a_c_home a_c_nurse a_c_skills a_c_noteRow a_c_soundRow a_c_pastRow a_K a_k0 a_k1 a_k2 a_k3 a_k4 a_k5 cI cB cZ cP cC infants retired month notes sounds pasts kind months) → va_S A s.heap H locs → lv_has ls 4 [(0, .ref a_c), (1, .int v1), (2, .int v2), (3, .int v3)] → wp_X1_sovereign_J65 infants retired kind months Post K_4 v1 v2 v3 → W p l e rm_X1_sovereign s m ar bl meth c H locs 0 0 (MQ bl (qq_X1_sovereign D a_c a_c_kind a_c_months a_c_home a_c_nurse a_c_skills a_c_noteRow a_c_soundRow a_c_pastRow a_K a_k0 a_k1 a_k2 a_k3 a_k4 a_k5 cI cB cZ cP cC infants retired month notes sounds pasts kind months Post A) ar s 0 0 A) (F0 m 65 ls []) := by
  obtain ⟨hx, hb, hr, hlocks, hml, hown, hts, hK, hA⟩ := id C0
  intro v1 v2 v3 H locs ls hP hD hS hl hw
  obtain ⟨x_4, ex_4⟩ : ∃ y : Int32, y = v3 + 1 := ⟨_, rfl⟩
  replace hw := hw x_4 ex_4
  refine lv_iinc (v := x_4) (lv' := [(3, .int x_4), (0, .ref a_c), (1, .int v1), (2, .int v2)]) hx hb dX1_sovereign_65 hl (k := 3) rfl (by rw [ex_4]; rfl) (by decide) rfl (fun ls hl => ?_)
  refine lv_goto (tgt := 4) hx hb dX1_sovereign_68 (by decide) ?_
  exact hK_4 v1 v2 x_4 _ _ _ hP hD hS (lv_sub hl [1, 2, 3, 0] rfl) hw
def wp_X1_sovereign_J63 (infants : Int32) (retired : Int32) (kind : Nat → Int32) (months : Nat → Int32) (Post : Int32 → Prop) (K_4 : Int32 → Int32 → Int32 → Prop) (v1 : Int32) (v3 : Int32) : Prop :=
  (wp_X1_sovereign_J65 infants retired kind months Post K_4 v1 v3 v3)
set_option maxHeartbeats 4000000 in
set_option maxRecDepth 100000 in
theorem k_X1_sovereign_J63 {p : Program} {l : Launch} {e : Env} {s : State} {m : MethodId} {ar : Array Value} {bl : List Frame} {meth : Method} {c : Code} {D : va_G} {A : Nat → Prop} {cI cB cZ cP cC : ClassId} {a_c a_c_kind a_c_months a_c_home a_c_nurse a_c_skills a_c_noteRow a_c_soundRow a_c_pastRow a_K a_k0 a_k1 a_k2 a_k3 a_k4 a_k5 : Nat} {infants : Int32} {retired : Int32} {month : Int32} {notes : Int32} {sounds : Int32} {pasts : Int32} {kind : Nat → Int32} {months : Nat → Int32} {Post : Int32 → Prop} {K_4 : Int32 → Int32 → Int32 → Prop} (C0 : mxC p s m ar meth c cX1_sovereign RX1 (some .int) 4 D (mxTy cI cB cZ cP cC) A)
    (hK_4 : ∀ (v1 : Int32) (v2 : Int32) (v3 : Int32) (H : Heap) (locs : List Loc) (ls : Array Slot), va_P D vwCl (ww_X1_sovereign a_c a_c_kind a_c_months a_c_home a_c_nurse a_c_skills a_c_noteRow a_c_soundRow a_c_pastRow a_K a_k0 a_k1 a_k2 a_k3 a_k4 a_k5 cI cB cZ cP cC infants retired month notes sounds pasts kind months) H → va_D A (ww_X1_sovereign a_c a_c_kind a_c_months a_c_home a_c_nurse a_c_skills a_c_noteRow a_c_soundRow a_c_pastRow a_K a_k0 a_k1 a_k2 a_k3 a_k4 a_k5 cI cB cZ cP cC infants retired month notes sounds pasts kind months) → va_S A s.heap H locs → lv_has ls 4 [(0, .ref a_c), (1, .int v1), (2, .int v2), (3, .int v3)] → K_4 v1 v2 v3 → W p l e rm_X1_sovereign s m ar bl meth c H locs 0 0 (MQ bl (qq_X1_sovereign D a_c a_c_kind a_c_months a_c_home a_c_nurse a_c_skills a_c_noteRow a_c_soundRow a_c_pastRow a_K a_k0 a_k1 a_k2 a_k3 a_k4 a_k5 cI cB cZ cP cC infants retired month notes sounds pasts kind months Post A) ar s 0 0 A) (F0 m 4 ls [])) :
    ∀ (v1 : Int32) (v3 : Int32) (H : Heap) (locs : List Loc) (ls : Array Slot), va_P D vwCl (ww_X1_sovereign a_c a_c_kind a_c_months a_c_home a_c_nurse a_c_skills a_c_noteRow a_c_soundRow a_c_pastRow a_K a_k0 a_k1 a_k2 a_k3 a_k4 a_k5 cI cB cZ cP cC infants retired month notes sounds pasts kind months) H → va_D A (ww_X1_sovereign a_c a_c_kind a_c_months a_c_home a_c_nurse a_c_skills a_c_noteRow a_c_soundRow a_c_pastRow a_K a_k0 a_k1 a_k2 a_k3 a_k4 a_k5 cI cB cZ cP cC infants retired month notes sounds pasts kind months) → va_S A s.heap H locs → lv_has ls 4 [(0, .ref a_c), (1, .int v1), (3, .int v3)] → wp_X1_sovereign_J63 infants retired kind months Post K_4 v1 v3 → W p l e rm_X1_sovereign s m ar bl meth c H locs 0 0 (MQ bl (qq_X1_sovereign D a_c a_c_kind a_c_months a_c_home a_c_nurse a_c_skills a_c_noteRow a_c_soundRow a_c_pastRow a_K a_k0 a_k1 a_k2 a_k3 a_k4 a_k5 cI cB cZ cP cC infants retired month notes sounds pasts kind months Post A) ar s 0 0 A) (F0 m 63 ls []) := by
  obtain ⟨hx, hb, hr, hlocks, hml, hown, hts, hK, hA⟩ := id C0
  intro v1 v3 H locs ls hP hD hS hl hw
  refine lv_iload_n hx hb dX1_sovereign_63 rfl (lv_at hl 2 rfl) ?_
  refine lv_istore_n (lv' := [(2, .int v3), (0, .ref a_c), (1, .int v1), (3, .int v3)]) hx hb dX1_sovereign_64 rfl hl (by decide) rfl (fun ls hl => ?_)
  refine k_X1_sovereign_J65 C0 ?_ v1 v3 v3 _ _ _ hP hD hS (lv_sub hl [1, 2, 0, 3] rfl) hw
  intro v1_10 v2_11 v3_12 H locs ls hP hD hS hl hw
  exact hK_4 v1_10 v2_11 v3_12 _ _ _ hP hD hS (lv_sub hl [0, 1, 2, 3] rfl) hw
def wp_X1_sovereign_J43 (infants : Int32) (retired : Int32) (kind : Nat → Int32) (months : Nat → Int32) (Post : Int32 → Prop) (K_4 : Int32 → Int32 → Int32 → Prop) (v1 : Int32) (v2 : Int32) (v3 : Int32) : Prop :=
  ((v2 = (-1) → (wp_X1_sovereign_J63 infants retired kind months Post K_4 v1 v3)) ∧ (¬ v2 = (-1) → (vp_in v3 6 ∧ (vp_in v2 6 ∧ (((months v3.toNatClampNeg) ≤ (months v2.toNatClampNeg) → (wp_X1_sovereign_J65 infants retired kind months Post K_4 v1 v2 v3)) ∧ (¬ (months v3.toNatClampNeg) ≤ (months v2.toNatClampNeg) → (wp_X1_sovereign_J63 infants retired kind months Post K_4 v1 v3)))))))
set_option maxHeartbeats 4000000 in
set_option maxRecDepth 100000 in
theorem k_X1_sovereign_J43 {p : Program} {l : Launch} {e : Env} {s : State} {m : MethodId} {ar : Array Value} {bl : List Frame} {meth : Method} {c : Code} {D : va_G} {A : Nat → Prop} {cI cB cZ cP cC : ClassId} {a_c a_c_kind a_c_months a_c_home a_c_nurse a_c_skills a_c_noteRow a_c_soundRow a_c_pastRow a_K a_k0 a_k1 a_k2 a_k3 a_k4 a_k5 : Nat} {infants : Int32} {retired : Int32} {month : Int32} {notes : Int32} {sounds : Int32} {pasts : Int32} {kind : Nat → Int32} {months : Nat → Int32} {Post : Int32 → Prop} {K_4 : Int32 → Int32 → Int32 → Prop} (C0 : mxC p s m ar meth c cX1_sovereign RX1 (some .int) 4 D (mxTy cI cB cZ cP cC) A)
    (hK_4 : ∀ (v1 : Int32) (v2 : Int32) (v3 : Int32) (H : Heap) (locs : List Loc) (ls : Array Slot), va_P D vwCl (ww_X1_sovereign a_c a_c_kind a_c_months a_c_home a_c_nurse a_c_skills a_c_noteRow a_c_soundRow a_c_pastRow a_K a_k0 a_k1 a_k2 a_k3 a_k4 a_k5 cI cB cZ cP cC infants retired month notes sounds pasts kind months) H → va_D A (ww_X1_sovereign a_c a_c_kind a_c_months a_c_home a_c_nurse a_c_skills a_c_noteRow a_c_soundRow a_c_pastRow a_K a_k0 a_k1 a_k2 a_k3 a_k4 a_k5 cI cB cZ cP cC infants retired month notes sounds pasts kind months) → va_S A s.heap H locs → lv_has ls 4 [(0, .ref a_c), (1, .int v1), (2, .int v2), (3, .int v3)] → K_4 v1 v2 v3 → W p l e rm_X1_sovereign s m ar bl meth c H locs 0 0 (MQ bl (qq_X1_sovereign D a_c a_c_kind a_c_months a_c_home a_c_nurse a_c_skills a_c_noteRow a_c_soundRow a_c_pastRow a_K a_k0 a_k1 a_k2 a_k3 a_k4 a_k5 cI cB cZ cP cC infants retired month notes sounds pasts kind months Post A) ar s 0 0 A) (F0 m 4 ls [])) :
    ∀ (v1 : Int32) (v2 : Int32) (v3 : Int32) (H : Heap) (locs : List Loc) (ls : Array Slot), va_P D vwCl (ww_X1_sovereign a_c a_c_kind a_c_months a_c_home a_c_nurse a_c_skills a_c_noteRow a_c_soundRow a_c_pastRow a_K a_k0 a_k1 a_k2 a_k3 a_k4 a_k5 cI cB cZ cP cC infants retired month notes sounds pasts kind months) H → va_D A (ww_X1_sovereign a_c a_c_kind a_c_months a_c_home a_c_nurse a_c_skills a_c_noteRow a_c_soundRow a_c_pastRow a_K a_k0 a_k1 a_k2 a_k3 a_k4 a_k5 cI cB cZ cP cC infants retired month notes sounds pasts kind months) → va_S A s.heap H locs → lv_has ls 4 [(0, .ref a_c), (1, .int v1), (2, .int v2), (3, .int v3)] → wp_X1_sovereign_J43 infants retired kind months Post K_4 v1 v2 v3 → W p l e rm_X1_sovereign s m ar bl meth c H locs 0 0 (MQ bl (qq_X1_sovereign D a_c a_c_kind a_c_months a_c_home a_c_nurse a_c_skills a_c_noteRow a_c_soundRow a_c_pastRow a_K a_k0 a_k1 a_k2 a_k3 a_k4 a_k5 cI cB cZ cP cC infants retired month notes sounds pasts kind months Post A) ar s 0 0 A) (F0 m 43 ls []) := by
  obtain ⟨hx, hb, hr, hlocks, hml, hown, hts, hK, hA⟩ := id C0
  intro v1 v2 v3 H locs ls hP hD hS hl hw
  refine lv_iload_n hx hb dX1_sovereign_43 rfl (lv_at hl 2 rfl) ?_
  refine lv_iconst (v := (-1)) hx hb dX1_sovereign_44 (by decide) ?_
  refine lv_icmp_eq (tgt := 63) hx hb dX1_sovereign_45 (by decide) (fun c_9 => ?_) (fun c_9 => ?_)
  · replace hw := hw.1 c_9
    refine k_X1_sovereign_J63 C0 ?_ v1 v3 _ _ _ hP hD hS (lv_sub hl [0, 1, 3] rfl) hw
    intro v1_13 v2_14 v3_15 H locs ls hP hD hS hl hw
    exact hK_4 v1_13 v2_14 v3_15 _ _ _ hP hD hS (lv_sub hl [0, 1, 2, 3] rfl) hw
  · replace hw := hw.2 c_9
    refine lv_aload_n hx hb dX1_sovereign_48 rfl (lv_at hl 0 rfl) ?_
    refine mx_get (ci := 1) (C := RX1) (T := TX1) (N := 15) hx hb hown in_wsX10 hts hK hP 0 rfl rfl 2 (by decide) q_66 rfl (v := .ref a_c_months) rfl dX1_sovereign_49 ?_
    refine lv_iload_n hx hb dX1_sovereign_52 rfl (lv_at hl 3 rfl) ?_
    obtain ⟨h_16, hw⟩ := hw
    refine mx_iald hx hb hK hP 2 0 rfl rfl h_16 (months v3.toNatClampNeg) rfl dX1_sovereign_53 ?_
    refine lv_aload_n hx hb dX1_sovereign_54 rfl (lv_at hl 0 rfl) ?_
    refine mx_get (ci := 1) (C := RX1) (T := TX1) (N := 15) hx hb hown in_wsX10 hts hK hP 0 rfl rfl 2 (by decide) q_66 rfl (v := .ref a_c_months) rfl dX1_sovereign_55 ?_
    refine lv_iload_n hx hb dX1_sovereign_58 rfl (lv_at hl 2 rfl) ?_
    obtain ⟨h_17, hw⟩ := hw
    refine mx_iald hx hb hK hP 2 0 rfl rfl h_17 (months v2.toNatClampNeg) rfl dX1_sovereign_59 ?_
    refine lv_icmp_le (tgt := 65) hx hb dX1_sovereign_60 (by decide) (fun c_18 => ?_) (fun c_18 => ?_)
    · replace hw := hw.1 c_18
      refine k_X1_sovereign_J65 C0 ?_ v1 v2 v3 _ _ _ hP hD hS (lv_sub hl [0, 1, 2, 3] rfl) hw
      intro v1_19 v2_20 v3_21 H locs ls hP hD hS hl hw
      exact hK_4 v1_19 v2_20 v3_21 _ _ _ hP hD hS (lv_sub hl [0, 1, 2, 3] rfl) hw
    · replace hw := hw.2 c_18
      refine k_X1_sovereign_J63 C0 ?_ v1 v3 _ _ _ hP hD hS (lv_sub hl [0, 1, 3] rfl) hw
      intro v1_22 v2_23 v3_24 H locs ls hP hD hS hl hw
      exact hK_4 v1_22 v2_23 v3_24 _ _ _ hP hD hS (lv_sub hl [0, 1, 2, 3] rfl) hw
def wp_X1_sovereign_L4 (infants : Int32) (retired : Int32) (kind : Nat → Int32) (months : Nat → Int32) (Post : Int32 → Prop)  : Nat → Int32 → Int32 → Int32 → Prop
  | 0, _, _, _ => False
  | n + 1, v1, v2, v3 => ((infants ≤ v3 → Post v2) ∧ (¬ infants ≤ v3 → (wp_X1_isRetired retired v3 (fun r_2 => ((r_2 = 0 → ((v1 ≤ 0 → (wp_X1_sovereign_J43 infants retired kind months Post (fun (v1_25 : Int32) (v2_26 : Int32) (v3_27 : Int32) => wp_X1_sovereign_L4 infants retired kind months Post  n v1_25 v2_26 v3_27) v1 v2 v3)) ∧ (¬ v1 ≤ 0 → (vp_in v3 6 ∧ (wp_X1_walkingAge kind v3 (fun r_29 => ((((months v3.toNatClampNeg) + v1) < r_29 → (wp_X1_sovereign_J43 infants retired kind months Post (fun (v1_31 : Int32) (v2_32 : Int32) (v3_33 : Int32) => wp_X1_sovereign_L4 infants retired kind months Post  n v1_31 v2_32 v3_33) v1 v2 v3)) ∧ (¬ ((months v3.toNatClampNeg) + v1) < r_29 → (wp_X1_sovereign_J65 infants retired kind months Post (fun (v1_34 : Int32) (v2_35 : Int32) (v3_36 : Int32) => wp_X1_sovereign_L4 infants retired kind months Post  n v1_34 v2_35 v3_36) v1 v2 v3))))))))) ∧ (¬ r_2 = 0 → (wp_X1_sovereign_J65 infants retired kind months Post (fun (v1_5 : Int32) (v2_6 : Int32) (v3_7 : Int32) => wp_X1_sovereign_L4 infants retired kind months Post  n v1_5 v2_6 v3_7) v1 v2 v3)))))))
set_option maxHeartbeats 4000000 in
set_option maxRecDepth 100000 in
theorem k_X1_sovereign_L4 {p : Program} {l : Launch} {e : Env} {s : State} {m : MethodId} {ar : Array Value} {bl : List Frame} {meth : Method} {c : Code} {D : va_G} {A : Nat → Prop} {cI cB cZ cP cC : ClassId} {a_c a_c_kind a_c_months a_c_home a_c_nurse a_c_skills a_c_noteRow a_c_soundRow a_c_pastRow a_K a_k0 a_k1 a_k2 a_k3 a_k4 a_k5 : Nat} {infants : Int32} {retired : Int32} {month : Int32} {notes : Int32} {sounds : Int32} {pasts : Int32} {kind : Nat → Int32} {months : Nat → Int32} {Post : Int32 → Prop} (C0 : mxC p s m ar meth c cX1_sovereign RX1 (some .int) 4 D (mxTy cI cB cZ cP cC) A) :
    ∀ (n : Nat) (v1 : Int32) (v2 : Int32) (v3 : Int32) (H : Heap) (locs : List Loc) (ls : Array Slot), va_P D vwCl (ww_X1_sovereign a_c a_c_kind a_c_months a_c_home a_c_nurse a_c_skills a_c_noteRow a_c_soundRow a_c_pastRow a_K a_k0 a_k1 a_k2 a_k3 a_k4 a_k5 cI cB cZ cP cC infants retired month notes sounds pasts kind months) H → va_D A (ww_X1_sovereign a_c a_c_kind a_c_months a_c_home a_c_nurse a_c_skills a_c_noteRow a_c_soundRow a_c_pastRow a_K a_k0 a_k1 a_k2 a_k3 a_k4 a_k5 cI cB cZ cP cC infants retired month notes sounds pasts kind months) → va_S A s.heap H locs → lv_has ls 4 [(0, .ref a_c), (1, .int v1), (2, .int v2), (3, .int v3)] → wp_X1_sovereign_L4 infants retired kind months Post  n v1 v2 v3 → W p l e rm_X1_sovereign s m ar bl meth c H locs 0 0 (MQ bl (qq_X1_sovereign D a_c a_c_kind a_c_months a_c_home a_c_nurse a_c_skills a_c_noteRow a_c_soundRow a_c_pastRow a_K a_k0 a_k1 a_k2 a_k3 a_k4 a_k5 cI cB cZ cP cC infants retired month notes sounds pasts kind months Post A) ar s 0 0 A) (F0 m 4 ls []) := by
  obtain ⟨hx, hb, hr, hlocks, hml, hown, hts, hK, hA⟩ := id C0
  intro n
  induction n with
  | zero =>
    intro v1 v2 v3 H locs ls hP hD hS hl hw
    exact absurd hw (fun h => h)
  | succ n ih =>
    intro v1 v2 v3 H locs ls hP hD hS hl hw
    refine lv_iload_n hx hb dX1_sovereign_4 rfl (lv_at hl 3 rfl) ?_
    refine lv_aload_n hx hb dX1_sovereign_5 rfl (lv_at hl 0 rfl) ?_
    refine mx_get (ci := 1) (C := RX1) (T := TX1) (N := 15) hx hb hown in_wsX10 hts hK hP 0 rfl rfl 9 (by decide) q_118 rfl (v := .int infants) rfl dX1_sovereign_6 ?_
    refine lv_icmp_ge (tgt := 71) hx hb dX1_sovereign_9 (by decide) (fun c_1 => ?_) (fun c_1 => ?_)
    · replace hw := hw.1 c_1
      refine lv_iload_n hx hb dX1_sovereign_71 rfl (lv_at hl 2 rfl) ?_
      exact mx_iret () hx hb hr hlocks rfl hw hK hP hD hS dX1_sovereign_72
    · replace hw := hw.2 c_1
      refine lv_aload_n hx hb dX1_sovereign_12 rfl (lv_at hl 0 rfl) ?_
      refine lv_iload_n hx hb dX1_sovereign_13 rfl (lv_at hl 3 rfl) ?_
      refine mx_ki (mx_rV (rm := rm_X1_isRetired) (rest := []) (C := RX1) hx hb hml hown hts (c_X1_isRetired l D cI cB cZ cP cC a_c a_c_kind a_c_months a_c_home a_c_nurse a_c_skills a_c_noteRow a_c_soundRow a_c_pastRow a_K infants retired month notes sounds pasts v3 _ _ hw) q_395 q_396 q_397 q_32 q_398 hd_X1_isRetired ⟨(Nat.le_of_ble_eq_true rfl), (Nat.le_of_ble_eq_true rfl)⟩ rfl rfl hK hP hD [0] rfl rfl 1 0 rfl rfl rfl rfl hl.1 rfl (Nat.le_of_ble_eq_true rfl) dX1_sovereign_14 ⟨(Nat.le_of_ble_eq_true rfl), (Nat.le_of_ble_eq_true rfl)⟩) hP hD hS hA [0] [1, 2, 3, 4, 5, 6, 7, 8, 9] [9, 0, 1, 2, 3, 4, 5, 6, 7, 8] (fun _ => ww_X1_sovereign a_c a_c_kind a_c_months a_c_home a_c_nurse a_c_skills a_c_noteRow a_c_soundRow a_c_pastRow a_K a_k0 a_k1 a_k2 a_k3 a_k4 a_k5 cI cB cZ cP cC infants retired month notes sounds pasts kind months) rfl rfl rfl (by decide) rfl (fun _ => rfl) (fun r_2 u H locs hw hP hD hS => ?_)
      try dsimp only at hw
      replace hP : va_P D vwCl (ww_X1_sovereign a_c a_c_kind a_c_months a_c_home a_c_nurse a_c_skills a_c_noteRow a_c_soundRow a_c_pastRow a_K a_k0 a_k1 a_k2 a_k3 a_k4 a_k5 cI cB cZ cP cC infants retired month notes sounds pasts kind months) H := hP
      replace hD : va_D A (ww_X1_sovereign a_c a_c_kind a_c_months a_c_home a_c_nurse a_c_skills a_c_noteRow a_c_soundRow a_c_pastRow a_K a_k0 a_k1 a_k2 a_k3 a_k4 a_k5 cI cB cZ cP cC infants retired month notes sounds pasts kind months) := hD
      refine lv_if_ne (tgt := 65) hx hb dX1_sovereign_17 (by decide) (fun c_3 => ?_) (fun c_3 => ?_)
      · replace hw := hw.2 c_3
        refine k_X1_sovereign_J65 C0 ?_ v1 v2 v3 _ _ _ hP hD hS (lv_sub hl [0, 1, 2, 3] rfl) hw
        intro v1_5 v2_6 v3_7 H locs ls hP hD hS hl hw
        exact ih v1_5 v2_6 v3_7 _ _ _ hP hD hS (lv_sub hl [0, 1, 2, 3] rfl) hw
      · replace hw := hw.1 c_3
        refine lv_iload_n hx hb dX1_sovereign_20 rfl (lv_at hl 1 rfl) ?_
        refine lv_if_le (tgt := 43) hx hb dX1_sovereign_21 (by decide) (fun c_8 => ?_) (fun c_8 => ?_)
        · replace hw := hw.1 c_8
          refine k_X1_sovereign_J43 C0 ?_ v1 v2 v3 _ _ _ hP hD hS (lv_sub hl [0, 1, 2, 3] rfl) hw
          intro v1_25 v2_26 v3_27 H locs ls hP hD hS hl hw
          exact ih v1_25 v2_26 v3_27 _ _ _ hP hD hS (lv_sub hl [0, 1, 2, 3] rfl) hw
        · replace hw := hw.2 c_8
          refine lv_aload_n hx hb dX1_sovereign_24 rfl (lv_at hl 0 rfl) ?_
          refine mx_get (ci := 1) (C := RX1) (T := TX1) (N := 15) hx hb hown in_wsX10 hts hK hP 0 rfl rfl 2 (by decide) q_66 rfl (v := .ref a_c_months) rfl dX1_sovereign_25 ?_
          refine lv_iload_n hx hb dX1_sovereign_28 rfl (lv_at hl 3 rfl) ?_
          obtain ⟨h_28, hw⟩ := hw
          refine mx_iald hx hb hK hP 2 0 rfl rfl h_28 (months v3.toNatClampNeg) rfl dX1_sovereign_29 ?_
          refine lv_iload_n hx hb dX1_sovereign_30 rfl (lv_at hl 1 rfl) ?_
          refine lv_iadd hx hb dX1_sovereign_31 ?_
          refine lv_aload_n hx hb dX1_sovereign_32 rfl (lv_at hl 0 rfl) ?_
          refine lv_iload_n hx hb dX1_sovereign_33 rfl (lv_at hl 3 rfl) ?_
          refine mx_ki (mx_rV (rm := rm_X1_walkingAge) (rest := [.int ((months v3.toNatClampNeg) + v1)]) (C := RX1) hx hb hml hown hts (c_X1_walkingAge l D cI cB cZ cP cC a_c a_c_kind a_c_months a_c_home a_c_nurse a_c_skills a_c_noteRow a_c_soundRow a_c_pastRow a_K a_k0 a_k1 a_k2 a_k3 a_k4 a_k5 infants retired month notes sounds pasts kind v3 _ _ hw) q_399 q_400 q_401 q_32 q_402 hd_X1_walkingAge ⟨(Nat.le_of_ble_eq_true rfl), (Nat.le_of_ble_eq_true rfl)⟩ rfl rfl hK hP hD [0, 1, 3, 4, 5, 6, 7, 8, 9] rfl rfl 1 0 rfl rfl rfl rfl hl.1 rfl (Nat.le_of_ble_eq_true rfl) dX1_sovereign_34 ⟨(Nat.le_of_ble_eq_true rfl), (Nat.le_of_ble_eq_true rfl)⟩) hP hD hS hA [0, 1, 3, 4, 5, 6, 7, 8, 9] [2] [1, 2, 0, 3, 4, 5, 6, 7, 8, 9] (fun _ => ww_X1_sovereign a_c a_c_kind a_c_months a_c_home a_c_nurse a_c_skills a_c_noteRow a_c_soundRow a_c_pastRow a_K a_k0 a_k1 a_k2 a_k3 a_k4 a_k5 cI cB cZ cP cC infants retired month notes sounds pasts kind months) rfl rfl rfl (by decide) rfl (fun _ => rfl) (fun r_29 u H locs hw hP hD hS => ?_)
          try dsimp only at hw
          replace hP : va_P D vwCl (ww_X1_sovereign a_c a_c_kind a_c_months a_c_home a_c_nurse a_c_skills a_c_noteRow a_c_soundRow a_c_pastRow a_K a_k0 a_k1 a_k2 a_k3 a_k4 a_k5 cI cB cZ cP cC infants retired month notes sounds pasts kind months) H := hP
          replace hD : va_D A (ww_X1_sovereign a_c a_c_kind a_c_months a_c_home a_c_nurse a_c_skills a_c_noteRow a_c_soundRow a_c_pastRow a_K a_k0 a_k1 a_k2 a_k3 a_k4 a_k5 cI cB cZ cP cC infants retired month notes sounds pasts kind months) := hD
          refine lv_icmp_lt (tgt := 43) hx hb dX1_sovereign_37 (by decide) (fun c_30 => ?_) (fun c_30 => ?_)
          · replace hw := hw.1 c_30
            refine k_X1_sovereign_J43 C0 ?_ v1 v2 v3 _ _ _ hP hD hS (lv_sub hl [0, 1, 2, 3] rfl) hw
            intro v1_31 v2_32 v3_33 H locs ls hP hD hS hl hw
            exact ih v1_31 v2_32 v3_33 _ _ _ hP hD hS (lv_sub hl [0, 1, 2, 3] rfl) hw
          · replace hw := hw.2 c_30
            refine lv_goto (tgt := 65) hx hb dX1_sovereign_40 (by decide) ?_
            refine k_X1_sovereign_J65 C0 ?_ v1 v2 v3 _ _ _ hP hD hS (lv_sub hl [0, 1, 2, 3] rfl) hw
            intro v1_34 v2_35 v3_36 H locs ls hP hD hS hl hw
            exact ih v1_34 v2_35 v3_36 _ _ _ hP hD hS (lv_sub hl [0, 1, 2, 3] rfl) hw
def wp_X1_sovereign (infants : Int32) (retired : Int32) (kind : Nat → Int32) (months : Nat → Int32) (v1 : Int32) (Post : Int32 → Prop) : Prop :=
  (∃ k_37 : Nat, wp_X1_sovereign_L4 infants retired kind months Post k_37 v1 (-1) 0)
set_option maxHeartbeats 4000000 in
set_option maxRecDepth 100000 in
theorem c_X1_sovereign (l : Launch) (D : va_G) (cI cB cZ cP cC : ClassId) (a_c a_c_kind a_c_months a_c_home a_c_nurse a_c_skills a_c_noteRow a_c_soundRow a_c_pastRow a_K a_k0 a_k1 a_k2 a_k3 a_k4 a_k5 : Nat) (infants : Int32) (retired : Int32) (month : Int32) (notes : Int32) (sounds : Int32) (pasts : Int32) (kind : Nat → Int32) (months : Nat → Int32) (v1 : Int32) (sz : Nat) (Post : Int32 → Prop) (hw : wp_X1_sovereign infants retired kind months v1 Post) :
    Met l yX1_sovereign (Cond.code yX1_sovereign cX1_sovereign 4 (some .int) :: wsAll) rm_X1_sovereign (va_Pc [.ref a_c, .int v1] (mxP D (mxTy cI cB cZ cP cC) sz (ww_X1_sovereign a_c a_c_kind a_c_months a_c_home a_c_nurse a_c_skills a_c_noteRow a_c_soundRow a_c_pastRow a_K a_k0 a_k1 a_k2 a_k3 a_k4 a_k5 cI cB cZ cP cC infants retired month notes sounds pasts kind months))) (qq_X1_sovereign D a_c a_c_kind a_c_months a_c_home a_c_nurse a_c_skills a_c_noteRow a_c_soundRow a_c_pastRow a_K a_k0 a_k1 a_k2 a_k3 a_k4 a_k5 cI cB cZ cP cC infants retired month notes sounds pasts kind months Post (va_A (ww_X1_sovereign a_c a_c_kind a_c_months a_c_home a_c_nurse a_c_skills a_c_noteRow a_c_soundRow a_c_pastRow a_K a_k0 a_k1 a_k2 a_k3 a_k4 a_k5 cI cB cZ cP cC infants retired month notes sounds pasts kind months) sz)) 0 0 (va_A (ww_X1_sovereign a_c a_c_kind a_c_months a_c_home a_c_nurse a_c_skills a_c_noteRow a_c_soundRow a_c_pastRow a_K a_k0 a_k1 a_k2 a_k3 a_k4 a_k5 cI cB cZ cP cC infants retired month notes sounds pasts kind months) sz) := by
  refine mx_of (Qc := qq_X1_sovereign D a_c a_c_kind a_c_months a_c_home a_c_nurse a_c_skills a_c_noteRow a_c_soundRow a_c_pastRow a_K a_k0 a_k1 a_k2 a_k3 a_k4 a_k5 cI cB cZ cP cC infants retired month notes sounds pasts kind months Post) (by decide) (Nat.le_of_ble_eq_true rfl) ?_
  intro p e s m bl meth c A ls C0 hP hD hS hl
  replace C0 : mxC p s m [.ref a_c, .int v1].toArray meth c cX1_sovereign RX1 (some .int) 4 D (mxTy cI cB cZ cP cC) A := C0
  obtain ⟨hx, hb, hr, hlocks, hml, hown, hts, hK, hA⟩ := id C0
  replace hl : lv_has ls 4 [(0, .ref a_c), (1, .int v1)] := hl
  unfold wp_X1_sovereign at hw
  refine lv_iconst (v := (-1)) hx hb dX1_sovereign_0 (by decide) ?_
  refine lv_istore_n (lv' := [(2, .int (-1)), (0, .ref a_c), (1, .int v1)]) hx hb dX1_sovereign_1 rfl hl (by decide) rfl (fun ls hl => ?_)
  refine lv_iconst (v := 0) hx hb dX1_sovereign_2 (by decide) ?_
  refine lv_istore_n (lv' := [(3, .int 0), (2, .int (-1)), (0, .ref a_c), (1, .int v1)]) hx hb dX1_sovereign_3 rfl hl (by decide) rfl (fun ls hl => ?_)
  obtain ⟨n0, hw⟩ := hw
  refine k_X1_sovereign_L4 C0  n0 v1 (-1) 0 _ _ _ hP hD hS (lv_sub hl [2, 3, 1, 0] rfl) hw
/-! PramState$Court.canBeAwakeAt(III)Z -/
abbrev ww_X1_canBeAwakeAt (a_c a_c_kind a_c_months a_c_home a_c_nurse a_c_skills a_c_noteRow a_c_soundRow a_c_pastRow a_K a_k0 a_k1 a_k2 a_k3 a_k4 a_k5 : Nat) (cI cB cZ cP cC : ClassId) (infants : Int32) (retired : Int32) (month : Int32) (notes : Int32) (sounds : Int32) (pasts : Int32) (kind : Nat → Int32) (home : Nat → Int32) : va_W := [(a_c, .inr (1, [.ref a_K, .ref a_c_kind, .ref a_c_months, .ref a_c_home, .ref a_c_nurse, .ref a_c_skills, .ref a_c_noteRow, .ref a_c_soundRow, .ref a_c_pastRow, .int infants, .int retired, .int month, .int notes, .int sounds, .int pasts])), (a_c_kind, .inl (cI, 6, .inl kind)), (a_c_home, .inl (cI, 6, .inl home)), (a_K, .inl (cP, 6, .inr (.inr (.inr (.inr (mx_kf a_k0 a_k1 a_k2 a_k3 a_k4 a_k5)))))), (a_k0, .inr (6, [])), (a_k1, .inr (8, [])), (a_k2, .inr (7, [])), (a_k3, .inr (3, [])), (a_k4, .inr (4, [])), (a_k5, .inr (0, []))]
abbrev qq_X1_canBeAwakeAt (D : va_G) (a_c a_c_kind a_c_months a_c_home a_c_nurse a_c_skills a_c_noteRow a_c_soundRow a_c_pastRow a_K a_k0 a_k1 a_k2 a_k3 a_k4 a_k5 : Nat) (cI cB cZ cP cC : ClassId) (infants : Int32) (retired : Int32) (month : Int32) (notes : Int32) (sounds : Int32) (pasts : Int32) (kind : Nat → Int32) (home : Nat → Int32) (Post : Int32 → Prop) (A : Nat → Prop) : Array Value → State → Outcome → State → Prop := va_Qi (fun (r : Int32) (u : Unit) => Post r) (fun (u : Unit) t => mxB D (mxTy cI cB cZ cP cC) A (ww_X1_canBeAwakeAt a_c a_c_kind a_c_months a_c_home a_c_nurse a_c_skills a_c_noteRow a_c_soundRow a_c_pastRow a_K a_k0 a_k1 a_k2 a_k3 a_k4 a_k5 cI cB cZ cP cC infants retired month notes sounds pasts kind home) t) A
abbrev rm_X1_canBeAwakeAt : Room := { frames := 3, cells := 0, slots := 0, locals := 64 }
theorem hd_X1_canBeAwakeAt : yX1_canBeAwakeAt.cls = RX1 ∧ yX1_canBeAwakeAt.cls ≠ "java/lang/invoke/MethodHandle" ∧ yX1_canBeAwakeAt.cls ≠ "java/lang/invoke/VarHandle" ∧ (parseMethodDescriptor yX1_canBeAwakeAt.desc).map (fun d => d.parameters.length) = some 3 := by decide +kernel
def wp_X1_canBeAwakeAt (kind : Nat → Int32) (home : Nat → Int32) (v1 : Int32) (v2 : Int32) (v3 : Int32) (Post : Int32 → Prop) : Prop :=
  (vp_in v1 6 ∧ (∀ x_2 : Int32, x_2 = (if 0 ≤ ((home v1.toNatClampNeg) - v3) then ((home v1.toNatClampNeg) - v3) else 0 - ((home v1.toNatClampNeg) - v3)) → (∀ x_3 : Int32, x_3 = (if (6 - x_2) < x_2 then (6 - x_2) else x_2) → (((v2 - 7) < x_3 → Post 0) ∧ (¬ (v2 - 7) < x_3 → (wp_X1_isAsleep kind v1 v2 (fun r_5 => ((r_5 = 0 → Post 1) ∧ (¬ r_5 = 0 → Post 0)))))))))
set_option maxHeartbeats 4000000 in
set_option maxRecDepth 100000 in
theorem c_X1_canBeAwakeAt (l : Launch) (D : va_G) (cI cB cZ cP cC : ClassId) (a_c a_c_kind a_c_months a_c_home a_c_nurse a_c_skills a_c_noteRow a_c_soundRow a_c_pastRow a_K a_k0 a_k1 a_k2 a_k3 a_k4 a_k5 : Nat) (infants : Int32) (retired : Int32) (month : Int32) (notes : Int32) (sounds : Int32) (pasts : Int32) (kind : Nat → Int32) (home : Nat → Int32) (v1 : Int32) (v2 : Int32) (v3 : Int32) (sz : Nat) (Post : Int32 → Prop) (hw : wp_X1_canBeAwakeAt kind home v1 v2 v3 Post) :
    Met l yX1_canBeAwakeAt (Cond.code yX1_canBeAwakeAt cX1_canBeAwakeAt 5 (some .boolean) :: wsAll) rm_X1_canBeAwakeAt (va_Pc [.ref a_c, .int v1, .int v2, .int v3] (mxP D (mxTy cI cB cZ cP cC) sz (ww_X1_canBeAwakeAt a_c a_c_kind a_c_months a_c_home a_c_nurse a_c_skills a_c_noteRow a_c_soundRow a_c_pastRow a_K a_k0 a_k1 a_k2 a_k3 a_k4 a_k5 cI cB cZ cP cC infants retired month notes sounds pasts kind home))) (qq_X1_canBeAwakeAt D a_c a_c_kind a_c_months a_c_home a_c_nurse a_c_skills a_c_noteRow a_c_soundRow a_c_pastRow a_K a_k0 a_k1 a_k2 a_k3 a_k4 a_k5 cI cB cZ cP cC infants retired month notes sounds pasts kind home Post (va_A (ww_X1_canBeAwakeAt a_c a_c_kind a_c_months a_c_home a_c_nurse a_c_skills a_c_noteRow a_c_soundRow a_c_pastRow a_K a_k0 a_k1 a_k2 a_k3 a_k4 a_k5 cI cB cZ cP cC infants retired month notes sounds pasts kind home) sz)) 0 0 (va_A (ww_X1_canBeAwakeAt a_c a_c_kind a_c_months a_c_home a_c_nurse a_c_skills a_c_noteRow a_c_soundRow a_c_pastRow a_K a_k0 a_k1 a_k2 a_k3 a_k4 a_k5 cI cB cZ cP cC infants retired month notes sounds pasts kind home) sz) := by
  refine mx_of (Qc := qq_X1_canBeAwakeAt D a_c a_c_kind a_c_months a_c_home a_c_nurse a_c_skills a_c_noteRow a_c_soundRow a_c_pastRow a_K a_k0 a_k1 a_k2 a_k3 a_k4 a_k5 cI cB cZ cP cC infants retired month notes sounds pasts kind home Post) (by decide) (Nat.le_of_ble_eq_true rfl) ?_
  intro p e s m bl meth c A ls C0 hP hD hS hl
  replace C0 : mxC p s m [.ref a_c, .int v1, .int v2, .int v3].toArray meth c cX1_canBeAwakeAt RX1 (some .boolean) 5 D (mxTy cI cB cZ cP cC) A := C0
  obtain ⟨hx, hb, hr, hlocks, hml, hown, hts, hK, hA⟩ := id C0
  replace hl : lv_has ls 5 [(0, .ref a_c), (1, .int v1), (2, .int v2), (3, .int v3)] := hl
  unfold wp_X1_canBeAwakeAt at hw
  refine lv_aload_n hx hb dX1_canBeAwakeAt_0 rfl (lv_at hl 0 rfl) ?_
  refine mx_get (ci := 1) (C := RX1) (T := TX1) (N := 15) hx hb hown in_wsX10 hts hK hP 0 rfl rfl 3 (by decide) q_67 rfl (v := .ref a_c_home) rfl dX1_canBeAwakeAt_1 ?_
  refine lv_iload_n hx hb dX1_canBeAwakeAt_4 rfl (lv_at hl 1 rfl) ?_
  obtain ⟨h_1, hw⟩ := hw
  refine mx_iald hx hb hK hP 2 0 rfl rfl h_1 (home v1.toNatClampNeg) rfl dX1_canBeAwakeAt_5 ?_
  refine lv_iload_n hx hb dX1_canBeAwakeAt_6 rfl (lv_at hl 3 rfl) ?_
  refine lv_isub hx hb dX1_canBeAwakeAt_7 ?_
  refine va_mabs hx hb (hml.trans hl.1.symm) hown (hts _ q_682) (hts _ q_683) (hts _ q_569) (hts _ q_684) (Nat.le_of_ble_eq_true rfl) (Nat.le_of_ble_eq_true rfl) (Nat.zero_le _) (Nat.zero_le _) dX1_canBeAwakeAt_8 ?_
  refine lv_topi (fun x_2 ex_2 => ?_)
  replace hw := hw x_2 ex_2
  refine lv_istore (lv' := [(4, .int x_2), (0, .ref a_c), (1, .int v1), (2, .int v2), (3, .int v3)]) hx hb dX1_canBeAwakeAt_11 hl (by decide) rfl (fun ls hl => ?_)
  refine lv_iload hx hb dX1_canBeAwakeAt_13 (lv_at hl 0 rfl) ?_
  refine lv_bipush (v := 6) hx hb dX1_canBeAwakeAt_15 (by decide) ?_
  refine lv_iload hx hb dX1_canBeAwakeAt_17 (lv_at hl 0 rfl) ?_
  refine lv_isub hx hb dX1_canBeAwakeAt_19 ?_
  refine va_mmin hx hb (hml.trans hl.1.symm) hown (hts _ q_685) (hts _ q_686) (hts _ q_569) (hts _ q_687) (Nat.le_of_ble_eq_true rfl) (Nat.le_of_ble_eq_true rfl) (Nat.zero_le _) (Nat.zero_le _) dX1_canBeAwakeAt_20 ?_
  refine lv_topi (fun x_3 ex_3 => ?_)
  replace hw := hw x_3 ex_3
  refine lv_iload_n hx hb dX1_canBeAwakeAt_23 rfl (lv_at hl 3 rfl) ?_
  refine lv_bipush (v := 7) hx hb dX1_canBeAwakeAt_24 (by decide) ?_
  refine lv_isub hx hb dX1_canBeAwakeAt_26 ?_
  refine lv_icmp_gt (tgt := 43) hx hb dX1_canBeAwakeAt_27 (by decide) (fun c_4 => ?_) (fun c_4 => ?_)
  · replace hw := hw.1 c_4
    refine lv_iconst (v := 0) hx hb dX1_canBeAwakeAt_43 (by decide) ?_
    exact mx_iret () hx hb hr hlocks rfl hw hK hP hD hS dX1_canBeAwakeAt_44
  · replace hw := hw.2 c_4
    refine lv_aload_n hx hb dX1_canBeAwakeAt_30 rfl (lv_at hl 1 rfl) ?_
    refine lv_iload_n hx hb dX1_canBeAwakeAt_31 rfl (lv_at hl 2 rfl) ?_
    refine lv_iload_n hx hb dX1_canBeAwakeAt_32 rfl (lv_at hl 3 rfl) ?_
    refine mx_ki (mx_rV (rm := rm_X1_isAsleep) (rest := []) (C := RX1) hx hb hml hown hts (c_X1_isAsleep l D cI cB cZ cP cC a_c a_c_kind a_c_months a_c_home a_c_nurse a_c_skills a_c_noteRow a_c_soundRow a_c_pastRow a_K a_k0 a_k1 a_k2 a_k3 a_k4 a_k5 infants retired month notes sounds pasts kind v1 v2 _ _ hw) q_571 q_539 q_540 q_32 q_541 hd_X1_isAsleep ⟨(Nat.le_of_ble_eq_true rfl), (Nat.le_of_ble_eq_true rfl)⟩ rfl rfl hK hP hD [0, 1, 3, 4, 5, 6, 7, 8, 9] rfl rfl 1 0 rfl rfl rfl rfl hl.1 rfl (Nat.le_of_ble_eq_true rfl) dX1_canBeAwakeAt_33 ⟨(Nat.le_of_ble_eq_true rfl), (Nat.le_of_ble_eq_true rfl)⟩) hP hD hS hA [0, 1, 3, 4, 5, 6, 7, 8, 9] [2] [1, 2, 0, 3, 4, 5, 6, 7, 8, 9] (fun _ => ww_X1_canBeAwakeAt a_c a_c_kind a_c_months a_c_home a_c_nurse a_c_skills a_c_noteRow a_c_soundRow a_c_pastRow a_K a_k0 a_k1 a_k2 a_k3 a_k4 a_k5 cI cB cZ cP cC infants retired month notes sounds pasts kind home) rfl rfl rfl (by decide) rfl (fun _ => rfl) (fun r_5 u H locs hw hP hD hS => ?_)
    try dsimp only at hw
    replace hP : va_P D vwCl (ww_X1_canBeAwakeAt a_c a_c_kind a_c_months a_c_home a_c_nurse a_c_skills a_c_noteRow a_c_soundRow a_c_pastRow a_K a_k0 a_k1 a_k2 a_k3 a_k4 a_k5 cI cB cZ cP cC infants retired month notes sounds pasts kind home) H := hP
    replace hD : va_D A (ww_X1_canBeAwakeAt a_c a_c_kind a_c_months a_c_home a_c_nurse a_c_skills a_c_noteRow a_c_soundRow a_c_pastRow a_K a_k0 a_k1 a_k2 a_k3 a_k4 a_k5 cI cB cZ cP cC infants retired month notes sounds pasts kind home) := hD
    refine lv_if_ne (tgt := 43) hx hb dX1_canBeAwakeAt_36 (by decide) (fun c_6 => ?_) (fun c_6 => ?_)
    · replace hw := hw.2 c_6
      refine lv_iconst (v := 0) hx hb dX1_canBeAwakeAt_43 (by decide) ?_
      exact mx_iret () hx hb hr hlocks rfl hw hK hP hD hS dX1_canBeAwakeAt_44
    · replace hw := hw.1 c_6
      refine lv_iconst (v := 1) hx hb dX1_canBeAwakeAt_39 (by decide) ?_
      refine lv_goto (tgt := 44) hx hb dX1_canBeAwakeAt_40 (by decide) ?_
      exact mx_iret () hx hb hr hlocks rfl hw hK hP hD hS dX1_canBeAwakeAt_44
/-! PramState$Court.awakeAt(II)I -/
abbrev ww_X1_awakeAt (a_c a_c_kind a_c_months a_c_home a_c_nurse a_c_skills a_c_noteRow a_c_soundRow a_c_pastRow a_K a_k0 a_k1 a_k2 a_k3 a_k4 a_k5 : Nat) (cI cB cZ cP cC : ClassId) (infants : Int32) (retired : Int32) (month : Int32) (notes : Int32) (sounds : Int32) (pasts : Int32) (kind : Nat → Int32) (home : Nat → Int32) : va_W := [(a_c, .inr (1, [.ref a_K, .ref a_c_kind, .ref a_c_months, .ref a_c_home, .ref a_c_nurse, .ref a_c_skills, .ref a_c_noteRow, .ref a_c_soundRow, .ref a_c_pastRow, .int infants, .int retired, .int month, .int notes, .int sounds, .int pasts])), (a_c_kind, .inl (cI, 6, .inl kind)), (a_c_home, .inl (cI, 6, .inl home)), (a_K, .inl (cP, 6, .inr (.inr (.inr (.inr (mx_kf a_k0 a_k1 a_k2 a_k3 a_k4 a_k5)))))), (a_k0, .inr (6, [])), (a_k1, .inr (8, [])), (a_k2, .inr (7, [])), (a_k3, .inr (3, [])), (a_k4, .inr (4, [])), (a_k5, .inr (0, []))]
abbrev qq_X1_awakeAt (D : va_G) (a_c a_c_kind a_c_months a_c_home a_c_nurse a_c_skills a_c_noteRow a_c_soundRow a_c_pastRow a_K a_k0 a_k1 a_k2 a_k3 a_k4 a_k5 : Nat) (cI cB cZ cP cC : ClassId) (infants : Int32) (retired : Int32) (month : Int32) (notes : Int32) (sounds : Int32) (pasts : Int32) (kind : Nat → Int32) (home : Nat → Int32) (Post : Int32 → Prop) (A : Nat → Prop) : Array Value → State → Outcome → State → Prop := va_Qi (fun (r : Int32) (u : Unit) => Post r) (fun (u : Unit) t => mxB D (mxTy cI cB cZ cP cC) A (ww_X1_awakeAt a_c a_c_kind a_c_months a_c_home a_c_nurse a_c_skills a_c_noteRow a_c_soundRow a_c_pastRow a_K a_k0 a_k1 a_k2 a_k3 a_k4 a_k5 cI cB cZ cP cC infants retired month notes sounds pasts kind home) t) A
abbrev rm_X1_awakeAt : Room := { frames := 4, cells := 0, slots := 0, locals := 88 }
theorem hd_X1_awakeAt : yX1_awakeAt.cls = RX1 ∧ yX1_awakeAt.cls ≠ "java/lang/invoke/MethodHandle" ∧ yX1_awakeAt.cls ≠ "java/lang/invoke/VarHandle" ∧ (parseMethodDescriptor yX1_awakeAt.desc).map (fun d => d.parameters.length) = some 2 := by decide +kernel
def wp_X1_awakeAt_J37 (infants : Int32) (retired : Int32) (kind : Nat → Int32) (home : Nat → Int32) (Post : Int32 → Prop) (K_5 : Int32 → Int32 → Int32 → Int32 → Prop) (v1 : Int32) (v2 : Int32) (v3 : Int32) (v4 : Int32) : Prop :=
  (∀ x_4 : Int32, x_4 = v4 + 1 → K_5 v1 v2 v3 x_4)
set_option maxHeartbeats 4000000 in
set_option maxRecDepth 100000 in
theorem k_X1_awakeAt_J37 {p : Program} {l : Launch} {e : Env} {s : State} {m : MethodId} {ar : Array Value} {bl : List Frame} {meth : Method} {c : Code} {D : va_G} {A : Nat → Prop} {cI cB cZ cP cC : ClassId} {a_c a_c_kind a_c_months a_c_home a_c_nurse a_c_skills a_c_noteRow a_c_soundRow a_c_pastRow a_K a_k0 a_k1 a_k2 a_k3 a_k4 a_k5 : Nat} {infants : Int32} {retired : Int32} {month : Int32} {notes : Int32} {sounds : Int32} {pasts : Int32} {kind : Nat → Int32} {home : Nat → Int32} {Post : Int32 → Prop} {K_5 : Int32 → Int32 → Int32 → Int32 → Prop} (C0 : mxC p s m ar meth c cX1_awakeAt RX1 (some .int) 5 D (mxTy cI cB cZ cP cC) A)
    (hK_5 : ∀ (v1 : Int32) (v2 : Int32) (v3 : Int32) (v4 : Int32) (H : Heap) (locs : List Loc) (ls : Array Slot), va_P D vwCl (ww_X1_awakeAt a_c a_c_kind a_c_months a_c_home a_c_nurse a_c_skills a_c_noteRow a_c_soundRow a_c_pastRow a_K a_k0 a_k1 a_k2 a_k3 a_k4 a_k5 cI cB cZ cP cC infants retired month notes sounds pasts kind home) H → va_D A (ww_X1_awakeAt a_c a_c_kind a_c_months a_c_home a_c_nurse a_c_skills a_c_noteRow a_c_soundRow a_c_pastRow a_K a_k0 a_k1 a_k2 a_k3 a_k4 a_k5 cI cB cZ cP cC infants retired month notes sounds pasts kind home) → va_S A s.heap H locs → lv_has ls 5 [(0, .ref a_c), (1, .int v1), (2, .int v2), (3, .int v3), (4, .int v4)] → K_5 v1 v2 v3 v4 → W p l e rm_X1_awakeAt s m ar bl meth c H locs 0 0 (MQ bl (qq_X1_awakeAt D a_c a_c_kind a_c_months a_c_home a_c_nurse a_c_skills a_c_noteRow a_c_soundRow a_c_pastRow a_K a_k0 a_k1 a_k2 a_k3 a_k4 a_k5 cI cB cZ cP cC infants retired month notes sounds pasts kind home Post A) ar s 0 0 A) (F0 m 5 ls [])) :
    ∀ (v1 : Int32) (v2 : Int32) (v3 : Int32) (v4 : Int32) (H : Heap) (locs : List Loc) (ls : Array Slot), va_P D vwCl (ww_X1_awakeAt a_c a_c_kind a_c_months a_c_home a_c_nurse a_c_skills a_c_noteRow a_c_soundRow a_c_pastRow a_K a_k0 a_k1 a_k2 a_k3 a_k4 a_k5 cI cB cZ cP cC infants retired month notes sounds pasts kind home) H → va_D A (ww_X1_awakeAt a_c a_c_kind a_c_months a_c_home a_c_nurse a_c_skills a_c_noteRow a_c_soundRow a_c_pastRow a_K a_k0 a_k1 a_k2 a_k3 a_k4 a_k5 cI cB cZ cP cC infants retired month notes sounds pasts kind home) → va_S A s.heap H locs → lv_has ls 5 [(0, .ref a_c), (1, .int v1), (2, .int v2), (3, .int v3), (4, .int v4)] → wp_X1_awakeAt_J37 infants retired kind home Post K_5 v1 v2 v3 v4 → W p l e rm_X1_awakeAt s m ar bl meth c H locs 0 0 (MQ bl (qq_X1_awakeAt D a_c a_c_kind a_c_months a_c_home a_c_nurse a_c_skills a_c_noteRow a_c_soundRow a_c_pastRow a_K a_k0 a_k1 a_k2 a_k3 a_k4 a_k5 cI cB cZ cP cC infants retired month notes sounds pasts kind home Post A) ar s 0 0 A) (F0 m 37 ls []) := by
  obtain ⟨hx, hb, hr, hlocks, hml, hown, hts, hK, hA⟩ := id C0
  intro v1 v2 v3 v4 H locs ls hP hD hS hl hw
  obtain ⟨x_4, ex_4⟩ : ∃ y : Int32, y = v4 + 1 := ⟨_, rfl⟩
  replace hw := hw x_4 ex_4
  refine lv_iinc (v := x_4) (lv' := [(4, .int x_4), (0, .ref a_c), (1, .int v1), (2, .int v2), (3, .int v3)]) hx hb dX1_awakeAt_37 hl (k := 4) rfl (by rw [ex_4]; rfl) (by decide) rfl (fun ls hl => ?_)
  refine lv_goto (tgt := 5) hx hb dX1_awakeAt_40 (by decide) ?_
  exact hK_5 v1 v2 v3 x_4 _ _ _ hP hD hS (lv_sub hl [1, 2, 3, 4, 0] rfl) hw
def wp_X1_awakeAt_L5 (infants : Int32) (retired : Int32) (kind : Nat → Int32) (home : Nat → Int32) (Post : Int32 → Prop)  : Nat → Int32 → Int32 → Int32 → Int32 → Prop
  | 0, _, _, _, _ => False
  | n + 1, v1, v2, v3, v4 => ((infants ≤ v4 → Post v3) ∧ (¬ infants ≤ v4 → (wp_X1_isRetired retired v4 (fun r_2 => ((r_2 = 0 → (wp_X1_canBeAwakeAt kind home v4 v1 v2 (fun r_9 => ((r_9 = 0 → (wp_X1_awakeAt_J37 infants retired kind home Post (fun (v1_11 : Int32) (v2_12 : Int32) (v3_13 : Int32) (v4_14 : Int32) => wp_X1_awakeAt_L5 infants retired kind home Post  n v1_11 v2_12 v3_13 v4_14) v1 v2 v3 v4)) ∧ (¬ r_9 = 0 → (∀ x_15 : Int32, x_15 = v3 + 1 → (wp_X1_awakeAt_J37 infants retired kind home Post (fun (v1_16 : Int32) (v2_17 : Int32) (v3_18 : Int32) (v4_19 : Int32) => wp_X1_awakeAt_L5 infants retired kind home Post  n v1_16 v2_17 v3_18 v4_19) v1 v2 x_15 v4))))))) ∧ (¬ r_2 = 0 → (wp_X1_awakeAt_J37 infants retired kind home Post (fun (v1_5 : Int32) (v2_6 : Int32) (v3_7 : Int32) (v4_8 : Int32) => wp_X1_awakeAt_L5 infants retired kind home Post  n v1_5 v2_6 v3_7 v4_8) v1 v2 v3 v4)))))))
set_option maxHeartbeats 4000000 in
set_option maxRecDepth 100000 in
theorem k_X1_awakeAt_L5 {p : Program} {l : Launch} {e : Env} {s : State} {m : MethodId} {ar : Array Value} {bl : List Frame} {meth : Method} {c : Code} {D : va_G} {A : Nat → Prop} {cI cB cZ cP cC : ClassId} {a_c a_c_kind a_c_months a_c_home a_c_nurse a_c_skills a_c_noteRow a_c_soundRow a_c_pastRow a_K a_k0 a_k1 a_k2 a_k3 a_k4 a_k5 : Nat} {infants : Int32} {retired : Int32} {month : Int32} {notes : Int32} {sounds : Int32} {pasts : Int32} {kind : Nat → Int32} {home : Nat → Int32} {Post : Int32 → Prop} (C0 : mxC p s m ar meth c cX1_awakeAt RX1 (some .int) 5 D (mxTy cI cB cZ cP cC) A) :
    ∀ (n : Nat) (v1 : Int32) (v2 : Int32) (v3 : Int32) (v4 : Int32) (H : Heap) (locs : List Loc) (ls : Array Slot), va_P D vwCl (ww_X1_awakeAt a_c a_c_kind a_c_months a_c_home a_c_nurse a_c_skills a_c_noteRow a_c_soundRow a_c_pastRow a_K a_k0 a_k1 a_k2 a_k3 a_k4 a_k5 cI cB cZ cP cC infants retired month notes sounds pasts kind home) H → va_D A (ww_X1_awakeAt a_c a_c_kind a_c_months a_c_home a_c_nurse a_c_skills a_c_noteRow a_c_soundRow a_c_pastRow a_K a_k0 a_k1 a_k2 a_k3 a_k4 a_k5 cI cB cZ cP cC infants retired month notes sounds pasts kind home) → va_S A s.heap H locs → lv_has ls 5 [(0, .ref a_c), (1, .int v1), (2, .int v2), (3, .int v3), (4, .int v4)] → wp_X1_awakeAt_L5 infants retired kind home Post  n v1 v2 v3 v4 → W p l e rm_X1_awakeAt s m ar bl meth c H locs 0 0 (MQ bl (qq_X1_awakeAt D a_c a_c_kind a_c_months a_c_home a_c_nurse a_c_skills a_c_noteRow a_c_soundRow a_c_pastRow a_K a_k0 a_k1 a_k2 a_k3 a_k4 a_k5 cI cB cZ cP cC infants retired month notes sounds pasts kind home Post A) ar s 0 0 A) (F0 m 5 ls []) := by
  obtain ⟨hx, hb, hr, hlocks, hml, hown, hts, hK, hA⟩ := id C0
  intro n
  induction n with
  | zero =>
    intro v1 v2 v3 v4 H locs ls hP hD hS hl hw
    exact absurd hw (fun h => h)
  | succ n ih =>
    intro v1 v2 v3 v4 H locs ls hP hD hS hl hw
    refine lv_iload hx hb dX1_awakeAt_5 (lv_at hl 4 rfl) ?_
    refine lv_aload_n hx hb dX1_awakeAt_7 rfl (lv_at hl 0 rfl) ?_
    refine mx_get (ci := 1) (C := RX1) (T := TX1) (N := 15) hx hb hown in_wsX10 hts hK hP 0 rfl rfl 9 (by decide) q_118 rfl (v := .int infants) rfl dX1_awakeAt_8 ?_
    refine lv_icmp_ge (tgt := 43) hx hb dX1_awakeAt_11 (by decide) (fun c_1 => ?_) (fun c_1 => ?_)
    · replace hw := hw.1 c_1
      refine lv_iload_n hx hb dX1_awakeAt_43 rfl (lv_at hl 3 rfl) ?_
      exact mx_iret () hx hb hr hlocks rfl hw hK hP hD hS dX1_awakeAt_44
    · replace hw := hw.2 c_1
      refine lv_aload_n hx hb dX1_awakeAt_14 rfl (lv_at hl 0 rfl) ?_
      refine lv_iload hx hb dX1_awakeAt_15 (lv_at hl 4 rfl) ?_
      refine mx_ki (mx_rV (rm := rm_X1_isRetired) (rest := []) (C := RX1) hx hb hml hown hts (c_X1_isRetired l D cI cB cZ cP cC a_c a_c_kind a_c_months a_c_home a_c_nurse a_c_skills a_c_noteRow a_c_soundRow a_c_pastRow a_K infants retired month notes sounds pasts v4 _ _ hw) q_395 q_396 q_397 q_32 q_398 hd_X1_isRetired ⟨(Nat.le_of_ble_eq_true rfl), (Nat.le_of_ble_eq_true rfl)⟩ rfl rfl hK hP hD [0] rfl rfl 1 0 rfl rfl rfl rfl hl.1 rfl (Nat.le_of_ble_eq_true rfl) dX1_awakeAt_17 ⟨(Nat.le_of_ble_eq_true rfl), (Nat.le_of_ble_eq_true rfl)⟩) hP hD hS hA [0] [1, 2, 3, 4, 5, 6, 7, 8, 9] [9, 0, 1, 2, 3, 4, 5, 6, 7, 8] (fun _ => ww_X1_awakeAt a_c a_c_kind a_c_months a_c_home a_c_nurse a_c_skills a_c_noteRow a_c_soundRow a_c_pastRow a_K a_k0 a_k1 a_k2 a_k3 a_k4 a_k5 cI cB cZ cP cC infants retired month notes sounds pasts kind home) rfl rfl rfl (by decide) rfl (fun _ => rfl) (fun r_2 u H locs hw hP hD hS => ?_)
      try dsimp only at hw
      replace hP : va_P D vwCl (ww_X1_awakeAt a_c a_c_kind a_c_months a_c_home a_c_nurse a_c_skills a_c_noteRow a_c_soundRow a_c_pastRow a_K a_k0 a_k1 a_k2 a_k3 a_k4 a_k5 cI cB cZ cP cC infants retired month notes sounds pasts kind home) H := hP
      replace hD : va_D A (ww_X1_awakeAt a_c a_c_kind a_c_months a_c_home a_c_nurse a_c_skills a_c_noteRow a_c_soundRow a_c_pastRow a_K a_k0 a_k1 a_k2 a_k3 a_k4 a_k5 cI cB cZ cP cC infants retired month notes sounds pasts kind home) := hD
      refine lv_if_ne (tgt := 37) hx hb dX1_awakeAt_20 (by decide) (fun c_3 => ?_) (fun c_3 => ?_)
      · replace hw := hw.2 c_3
        refine k_X1_awakeAt_J37 C0 ?_ v1 v2 v3 v4 _ _ _ hP hD hS (lv_sub hl [0, 1, 2, 3, 4] rfl) hw
        intro v1_5 v2_6 v3_7 v4_8 H locs ls hP hD hS hl hw
        exact ih v1_5 v2_6 v3_7 v4_8 _ _ _ hP hD hS (lv_sub hl [0, 1, 2, 3, 4] rfl) hw
      · replace hw := hw.1 c_3
        refine lv_aload_n hx hb dX1_awakeAt_23 rfl (lv_at hl 0 rfl) ?_
        refine lv_iload hx hb dX1_awakeAt_24 (lv_at hl 4 rfl) ?_
        refine lv_iload_n hx hb dX1_awakeAt_26 rfl (lv_at hl 1 rfl) ?_
        refine lv_iload_n hx hb dX1_awakeAt_27 rfl (lv_at hl 2 rfl) ?_
        refine mx_ki (mx_rV (rm := rm_X1_canBeAwakeAt) (rest := []) (C := RX1) hx hb hml hown hts (c_X1_canBeAwakeAt l D cI cB cZ cP cC a_c a_c_kind a_c_months a_c_home a_c_nurse a_c_skills a_c_noteRow a_c_soundRow a_c_pastRow a_K a_k0 a_k1 a_k2 a_k3 a_k4 a_k5 infants retired month notes sounds pasts kind home v4 v1 v2 _ _ hw) q_707 q_679 q_680 q_32 q_681 hd_X1_canBeAwakeAt ⟨(Nat.le_of_ble_eq_true rfl), (Nat.le_of_ble_eq_true rfl)⟩ rfl rfl hK hP hD [0, 1, 2, 3, 4, 5, 6, 7, 8, 9] rfl rfl 1 0 rfl rfl rfl rfl hl.1 rfl (Nat.le_of_ble_eq_true rfl) dX1_awakeAt_28 ⟨(Nat.le_of_ble_eq_true rfl), (Nat.le_of_ble_eq_true rfl)⟩) hP hD hS hA [0, 1, 2, 3, 4, 5, 6, 7, 8, 9] [] [0, 1, 2, 3, 4, 5, 6, 7, 8, 9] (fun _ => ww_X1_awakeAt a_c a_c_kind a_c_months a_c_home a_c_nurse a_c_skills a_c_noteRow a_c_soundRow a_c_pastRow a_K a_k0 a_k1 a_k2 a_k3 a_k4 a_k5 cI cB cZ cP cC infants retired month notes sounds pasts kind home) rfl rfl rfl (by decide) rfl (fun _ => rfl) (fun r_9 u H locs hw hP hD hS => ?_)
        try dsimp only at hw
        replace hP : va_P D vwCl (ww_X1_awakeAt a_c a_c_kind a_c_months a_c_home a_c_nurse a_c_skills a_c_noteRow a_c_soundRow a_c_pastRow a_K a_k0 a_k1 a_k2 a_k3 a_k4 a_k5 cI cB cZ cP cC infants retired month notes sounds pasts kind home) H := hP
        replace hD : va_D A (ww_X1_awakeAt a_c a_c_kind a_c_months a_c_home a_c_nurse a_c_skills a_c_noteRow a_c_soundRow a_c_pastRow a_K a_k0 a_k1 a_k2 a_k3 a_k4 a_k5 cI cB cZ cP cC infants retired month notes sounds pasts kind home) := hD
        refine lv_if_eq (tgt := 37) hx hb dX1_awakeAt_31 (by decide) (fun c_10 => ?_) (fun c_10 => ?_)
        · replace hw := hw.1 c_10
          refine k_X1_awakeAt_J37 C0 ?_ v1 v2 v3 v4 _ _ _ hP hD hS (lv_sub hl [0, 1, 2, 3, 4] rfl) hw
          intro v1_11 v2_12 v3_13 v4_14 H locs ls hP hD hS hl hw
          exact ih v1_11 v2_12 v3_13 v4_14 _ _ _ hP hD hS (lv_sub hl [0, 1, 2, 3, 4] rfl) hw
        · replace hw := hw.2 c_10
          obtain ⟨x_15, ex_15⟩ : ∃ y : Int32, y = v3 + 1 := ⟨_, rfl⟩
          replace hw := hw x_15 ex_15
          refine lv_iinc (v := x_15) (lv' := [(3, .int x_15), (0, .ref a_c), (1, .int v1), (2, .int v2), (4, .int v4)]) hx hb dX1_awakeAt_34 hl (k := 3) rfl (by rw [ex_15]; rfl) (by decide) rfl (fun ls hl => ?_)
          refine k_X1_awakeAt_J37 C0 ?_ v1 v2 x_15 v4 _ _ _ hP hD hS (lv_sub hl [1, 2, 3, 0, 4] rfl) hw
          intro v1_16 v2_17 v3_18 v4_19 H locs ls hP hD hS hl hw
          exact ih v1_16 v2_17 v3_18 v4_19 _ _ _ hP hD hS (lv_sub hl [0, 1, 2, 3, 4] rfl) hw
def wp_X1_awakeAt (infants : Int32) (retired : Int32) (kind : Nat → Int32) (home : Nat → Int32) (v1 : Int32) (v2 : Int32) (Post : Int32 → Prop) : Prop :=
  (∃ k_20 : Nat, wp_X1_awakeAt_L5 infants retired kind home Post k_20 v1 v2 0 0)
set_option maxHeartbeats 4000000 in
set_option maxRecDepth 100000 in
theorem c_X1_awakeAt (l : Launch) (D : va_G) (cI cB cZ cP cC : ClassId) (a_c a_c_kind a_c_months a_c_home a_c_nurse a_c_skills a_c_noteRow a_c_soundRow a_c_pastRow a_K a_k0 a_k1 a_k2 a_k3 a_k4 a_k5 : Nat) (infants : Int32) (retired : Int32) (month : Int32) (notes : Int32) (sounds : Int32) (pasts : Int32) (kind : Nat → Int32) (home : Nat → Int32) (v1 : Int32) (v2 : Int32) (sz : Nat) (Post : Int32 → Prop) (hw : wp_X1_awakeAt infants retired kind home v1 v2 Post) :
    Met l yX1_awakeAt (Cond.code yX1_awakeAt cX1_awakeAt 5 (some .int) :: wsAll) rm_X1_awakeAt (va_Pc [.ref a_c, .int v1, .int v2] (mxP D (mxTy cI cB cZ cP cC) sz (ww_X1_awakeAt a_c a_c_kind a_c_months a_c_home a_c_nurse a_c_skills a_c_noteRow a_c_soundRow a_c_pastRow a_K a_k0 a_k1 a_k2 a_k3 a_k4 a_k5 cI cB cZ cP cC infants retired month notes sounds pasts kind home))) (qq_X1_awakeAt D a_c a_c_kind a_c_months a_c_home a_c_nurse a_c_skills a_c_noteRow a_c_soundRow a_c_pastRow a_K a_k0 a_k1 a_k2 a_k3 a_k4 a_k5 cI cB cZ cP cC infants retired month notes sounds pasts kind home Post (va_A (ww_X1_awakeAt a_c a_c_kind a_c_months a_c_home a_c_nurse a_c_skills a_c_noteRow a_c_soundRow a_c_pastRow a_K a_k0 a_k1 a_k2 a_k3 a_k4 a_k5 cI cB cZ cP cC infants retired month notes sounds pasts kind home) sz)) 0 0 (va_A (ww_X1_awakeAt a_c a_c_kind a_c_months a_c_home a_c_nurse a_c_skills a_c_noteRow a_c_soundRow a_c_pastRow a_K a_k0 a_k1 a_k2 a_k3 a_k4 a_k5 cI cB cZ cP cC infants retired month notes sounds pasts kind home) sz) := by
  refine mx_of (Qc := qq_X1_awakeAt D a_c a_c_kind a_c_months a_c_home a_c_nurse a_c_skills a_c_noteRow a_c_soundRow a_c_pastRow a_K a_k0 a_k1 a_k2 a_k3 a_k4 a_k5 cI cB cZ cP cC infants retired month notes sounds pasts kind home Post) (by decide) (Nat.le_of_ble_eq_true rfl) ?_
  intro p e s m bl meth c A ls C0 hP hD hS hl
  replace C0 : mxC p s m [.ref a_c, .int v1, .int v2].toArray meth c cX1_awakeAt RX1 (some .int) 5 D (mxTy cI cB cZ cP cC) A := C0
  obtain ⟨hx, hb, hr, hlocks, hml, hown, hts, hK, hA⟩ := id C0
  replace hl : lv_has ls 5 [(0, .ref a_c), (1, .int v1), (2, .int v2)] := hl
  unfold wp_X1_awakeAt at hw
  refine lv_iconst (v := 0) hx hb dX1_awakeAt_0 (by decide) ?_
  refine lv_istore_n (lv' := [(3, .int 0), (0, .ref a_c), (1, .int v1), (2, .int v2)]) hx hb dX1_awakeAt_1 rfl hl (by decide) rfl (fun ls hl => ?_)
  refine lv_iconst (v := 0) hx hb dX1_awakeAt_2 (by decide) ?_
  refine lv_istore (lv' := [(4, .int 0), (3, .int 0), (0, .ref a_c), (1, .int v1), (2, .int v2)]) hx hb dX1_awakeAt_3 hl (by decide) rfl (fun ls hl => ?_)
  obtain ⟨n0, hw⟩ := hw
  refine k_X1_awakeAt_L5 C0  n0 v1 v2 0 0 _ _ _ hP hD hS (lv_sub hl [2, 3, 4, 1, 0] rfl) hw
/-! PramState$Court.manner(III)I -/
abbrev ww_X1_manner (a_c a_c_kind a_c_months a_c_home a_c_nurse a_c_skills a_c_noteRow a_c_soundRow a_c_pastRow a_K a_k0 a_k1 a_k2 a_k3 a_k4 a_k5 : Nat) (cI cB cZ cP cC : ClassId) (infants : Int32) (retired : Int32) (month : Int32) (notes : Int32) (sounds : Int32) (pasts : Int32) : va_W := [(a_c, .inr (1, [.ref a_K, .ref a_c_kind, .ref a_c_months, .ref a_c_home, .ref a_c_nurse, .ref a_c_skills, .ref a_c_noteRow, .ref a_c_soundRow, .ref a_c_pastRow, .int infants, .int retired, .int month, .int notes, .int sounds, .int pasts])), (a_K, .inl (cP, 6, .inr (.inr (.inr (.inr (mx_kf a_k0 a_k1 a_k2 a_k3 a_k4 a_k5)))))), (a_k0, .inr (6, [])), (a_k1, .inr (8, [])), (a_k2, .inr (7, [])), (a_k3, .inr (3, [])), (a_k4, .inr (4, [])), (a_k5, .inr (0, []))]
abbrev qq_X1_manner (D : va_G) (a_c a_c_kind a_c_months a_c_home a_c_nurse a_c_skills a_c_noteRow a_c_soundRow a_c_pastRow a_K a_k0 a_k1 a_k2 a_k3 a_k4 a_k5 : Nat) (cI cB cZ cP cC : ClassId) (infants : Int32) (retired : Int32) (month : Int32) (notes : Int32) (sounds : Int32) (pasts : Int32) (Post : Int32 → Prop) (A : Nat → Prop) : Array Value → State → Outcome → State → Prop := va_Qi (fun (r : Int32) (u : Unit) => Post r) (fun (u : Unit) t => mxB D (mxTy cI cB cZ cP cC) A (ww_X1_manner a_c a_c_kind a_c_months a_c_home a_c_nurse a_c_skills a_c_noteRow a_c_soundRow a_c_pastRow a_K a_k0 a_k1 a_k2 a_k3 a_k4 a_k5 cI cB cZ cP cC infants retired month notes sounds pasts) t) A
abbrev rm_X1_manner : Room := { frames := 3, cells := 0, slots := 0, locals := 63 }
theorem hd_X1_manner : yX1_manner.cls = RX1 ∧ yX1_manner.cls ≠ "java/lang/invoke/MethodHandle" ∧ yX1_manner.cls ≠ "java/lang/invoke/VarHandle" ∧ (parseMethodDescriptor yX1_manner.desc).map (fun d => d.parameters.length) = some 3 := by decide +kernel
def wp_X1_manner_J28  (Post : Int32 → Prop)  (s0 : Int32) : Prop :=
  Post s0
set_option maxHeartbeats 4000000 in
set_option maxRecDepth 100000 in
theorem k_X1_manner_J28 {p : Program} {l : Launch} {e : Env} {s : State} {m : MethodId} {ar : Array Value} {bl : List Frame} {meth : Method} {c : Code} {D : va_G} {A : Nat → Prop} {cI cB cZ cP cC : ClassId} {a_c a_c_kind a_c_months a_c_home a_c_nurse a_c_skills a_c_noteRow a_c_soundRow a_c_pastRow a_K a_k0 a_k1 a_k2 a_k3 a_k4 a_k5 : Nat} {infants : Int32} {retired : Int32} {month : Int32} {notes : Int32} {sounds : Int32} {pasts : Int32} {Post : Int32 → Prop} (C0 : mxC p s m ar meth c cX1_manner RX1 (some .int) 4 D (mxTy cI cB cZ cP cC) A) :
    ∀ (s0 : Int32) (H : Heap) (locs : List Loc) (ls : Array Slot), va_P D vwCl (ww_X1_manner a_c a_c_kind a_c_months a_c_home a_c_nurse a_c_skills a_c_noteRow a_c_soundRow a_c_pastRow a_K a_k0 a_k1 a_k2 a_k3 a_k4 a_k5 cI cB cZ cP cC infants retired month notes sounds pasts) H → va_D A (ww_X1_manner a_c a_c_kind a_c_months a_c_home a_c_nurse a_c_skills a_c_noteRow a_c_soundRow a_c_pastRow a_K a_k0 a_k1 a_k2 a_k3 a_k4 a_k5 cI cB cZ cP cC infants retired month notes sounds pasts) → va_S A s.heap H locs → lv_has ls 4 [] → wp_X1_manner_J28 Post  s0 → W p l e rm_X1_manner s m ar bl meth c H locs 0 0 (MQ bl (qq_X1_manner D a_c a_c_kind a_c_months a_c_home a_c_nurse a_c_skills a_c_noteRow a_c_soundRow a_c_pastRow a_K a_k0 a_k1 a_k2 a_k3 a_k4 a_k5 cI cB cZ cP cC infants retired month notes sounds pasts Post A) ar s 0 0 A) (F0 m 28 ls [.int s0]) := by
  obtain ⟨hx, hb, hr, hlocks, hml, hown, hts, hK, hA⟩ := id C0
  intro s0 H locs ls hP hD hS hl hw
  exact mx_iret () hx hb hr hlocks rfl hw hK hP hD hS dX1_manner_28
def wp_X1_manner_J10  (Post : Int32 → Prop)  (v1 : Int32) (v2 : Int32) (s0 : Int32) : Prop :=
  ((s0 = 0 → (vp_in v1 6 ∧ (wpv_criesAwake v1.toNatClampNeg v2 (fun r_7 => (wp_X1_manner_J28 Post r_7))))) ∧ (¬ s0 = 0 → (wp_X1_manner_J28 Post 100)))
set_option maxHeartbeats 4000000 in
set_option maxRecDepth 100000 in
theorem k_X1_manner_J10 {p : Program} {l : Launch} {e : Env} {s : State} {m : MethodId} {ar : Array Value} {bl : List Frame} {meth : Method} {c : Code} {D : va_G} {A : Nat → Prop} {cI cB cZ cP cC : ClassId} {a_c a_c_kind a_c_months a_c_home a_c_nurse a_c_skills a_c_noteRow a_c_soundRow a_c_pastRow a_K a_k0 a_k1 a_k2 a_k3 a_k4 a_k5 : Nat} {infants : Int32} {retired : Int32} {month : Int32} {notes : Int32} {sounds : Int32} {pasts : Int32} {Post : Int32 → Prop} (C0 : mxC p s m ar meth c cX1_manner RX1 (some .int) 4 D (mxTy cI cB cZ cP cC) A) :
    ∀ (v1 : Int32) (v2 : Int32) (s0 : Int32) (H : Heap) (locs : List Loc) (ls : Array Slot), va_P D vwCl (ww_X1_manner a_c a_c_kind a_c_months a_c_home a_c_nurse a_c_skills a_c_noteRow a_c_soundRow a_c_pastRow a_K a_k0 a_k1 a_k2 a_k3 a_k4 a_k5 cI cB cZ cP cC infants retired month notes sounds pasts) H → va_D A (ww_X1_manner a_c a_c_kind a_c_months a_c_home a_c_nurse a_c_skills a_c_noteRow a_c_soundRow a_c_pastRow a_K a_k0 a_k1 a_k2 a_k3 a_k4 a_k5 cI cB cZ cP cC infants retired month notes sounds pasts) → va_S A s.heap H locs → lv_has ls 4 [(0, .ref a_c), (1, .int v1), (2, .int v2)] → wp_X1_manner_J10 Post  v1 v2 s0 → W p l e rm_X1_manner s m ar bl meth c H locs 0 0 (MQ bl (qq_X1_manner D a_c a_c_kind a_c_months a_c_home a_c_nurse a_c_skills a_c_noteRow a_c_soundRow a_c_pastRow a_K a_k0 a_k1 a_k2 a_k3 a_k4 a_k5 cI cB cZ cP cC infants retired month notes sounds pasts Post A) ar s 0 0 A) (F0 m 10 ls [.int s0]) := by
  obtain ⟨hx, hb, hr, hlocks, hml, hown, hts, hK, hA⟩ := id C0
  intro v1 v2 s0 H locs ls hP hD hS hl hw
  refine lv_if_eq (tgt := 18) hx hb dX1_manner_10 (by decide) (fun c_4 => ?_) (fun c_4 => ?_)
  · replace hw := hw.1 c_4
    refine lv_aload_n hx hb dX1_manner_18 rfl (lv_at hl 0 rfl) ?_
    refine mx_get (ci := 1) (C := RX1) (T := TX1) (N := 15) hx hb hown in_wsX10 hts hK hP 0 rfl rfl 0 (by decide) q_73 rfl (v := .ref a_K) rfl dX1_manner_19 ?_
    refine lv_iload_n hx hb dX1_manner_22 rfl (lv_at hl 1 rfl) ?_
    obtain ⟨h_5, hw⟩ := hw
    refine mx_aldq hx hb hK hP 1 3 rfl rfl h_5 (mx_ka a_k0 a_k1 a_k2 a_k3 a_k4 a_k5 v1.toNatClampNeg) (mx_kf_at h_5) dX1_manner_23 ?_
    refine lv_iload_n hx hb dX1_manner_24 rfl (lv_at hl 2 rfl) ?_
    rcases mx_six h_5 with e_6 | e_6 | e_6 | e_6 | e_6 | e_6
    · replace hw := hw.1 e_6
      refine W.eq (g2 := F0 m 25 ls [.int v2, .ref a_k0]) (by rw [e_6]; rfl) ?_
      refine mx_ki (mx_rV (rm := rm_X6_criesAwake) (rest := []) (C := RX6) hx hb hml hown hts (c_X6_criesAwake l D cI cB cZ cP cC a_k0 v2 _ _ hw) q_589 q_585 q_590 q_14 q_586 hd_X6_criesAwake ⟨(Nat.le_of_ble_eq_true rfl), (Nat.le_of_ble_eq_true rfl)⟩ rfl rfl hK hP hD [] rfl rfl 6 2 rfl rfl rfl rfl hl.1 rfl (Nat.le_of_ble_eq_true rfl) dX1_manner_25 ⟨(Nat.le_of_ble_eq_true rfl), (Nat.le_of_ble_eq_true rfl)⟩) hP hD hS hA [] [0, 1, 2, 3, 4, 5, 6, 7] [0, 1, 2, 3, 4, 5, 6, 7] (fun _ => ww_X1_manner a_c a_c_kind a_c_months a_c_home a_c_nurse a_c_skills a_c_noteRow a_c_soundRow a_c_pastRow a_K a_k0 a_k1 a_k2 a_k3 a_k4 a_k5 cI cB cZ cP cC infants retired month notes sounds pasts) rfl rfl rfl (by decide) rfl (fun _ => rfl) (fun r_7 u H locs hw hP hD hS => ?_)
      try dsimp only at hw
      replace hP : va_P D vwCl (ww_X1_manner a_c a_c_kind a_c_months a_c_home a_c_nurse a_c_skills a_c_noteRow a_c_soundRow a_c_pastRow a_K a_k0 a_k1 a_k2 a_k3 a_k4 a_k5 cI cB cZ cP cC infants retired month notes sounds pasts) H := hP
      replace hD : va_D A (ww_X1_manner a_c a_c_kind a_c_months a_c_home a_c_nurse a_c_skills a_c_noteRow a_c_soundRow a_c_pastRow a_K a_k0 a_k1 a_k2 a_k3 a_k4 a_k5 cI cB cZ cP cC infants retired month notes sounds pasts) := hD
      exact k_X1_manner_J28 C0  r_7 _ _ _ hP hD hS (lv_sub hl [] rfl) hw
    · replace hw := hw.2.1 e_6
      refine W.eq (g2 := F0 m 25 ls [.int v2, .ref a_k1]) (by rw [e_6]; rfl) ?_
      refine mx_ki (mx_rU (x := yX6_criesAwake) (y := yX8_criesAwake) (rm := rm_X8_criesAwake) (rest := []) (C := RX8) hx hb hml hown hts (c_X8_criesAwake l D cI cB cZ cP cC a_k1 v2 _ _ hw) q_589 q_573 q_585 q_595 q_581 q_17 q_582 q_586 hdu_X6_criesAwake ⟨(Nat.le_of_ble_eq_true rfl), (Nat.le_of_ble_eq_true rfl)⟩ rfl rfl hK hP hD [3] rfl rfl 8 3 rfl rfl rfl rfl hl.1 rfl (Nat.le_of_ble_eq_true rfl) dX1_manner_25 ⟨(Nat.le_of_ble_eq_true rfl), (Nat.le_of_ble_eq_true rfl)⟩) hP hD hS hA [3] [0, 1, 2, 4, 5, 6, 7] [0, 1, 2, 7, 3, 4, 5, 6] (fun _ => ww_X1_manner a_c a_c_kind a_c_months a_c_home a_c_nurse a_c_skills a_c_noteRow a_c_soundRow a_c_pastRow a_K a_k0 a_k1 a_k2 a_k3 a_k4 a_k5 cI cB cZ cP cC infants retired month notes sounds pasts) rfl rfl rfl (by decide) rfl (fun _ => rfl) (fun r_7 u H locs hw hP hD hS => ?_)
      try dsimp only at hw
      replace hP : va_P D vwCl (ww_X1_manner a_c a_c_kind a_c_months a_c_home a_c_nurse a_c_skills a_c_noteRow a_c_soundRow a_c_pastRow a_K a_k0 a_k1 a_k2 a_k3 a_k4 a_k5 cI cB cZ cP cC infants retired month notes sounds pasts) H := hP
      replace hD : va_D A (ww_X1_manner a_c a_c_kind a_c_months a_c_home a_c_nurse a_c_skills a_c_noteRow a_c_soundRow a_c_pastRow a_K a_k0 a_k1 a_k2 a_k3 a_k4 a_k5 cI cB cZ cP cC infants retired month notes sounds pasts) := hD
      exact k_X1_manner_J28 C0  r_7 _ _ _ hP hD hS (lv_sub hl [] rfl) hw
    · replace hw := hw.2.2.1 e_6
      refine W.eq (g2 := F0 m 25 ls [.int v2, .ref a_k2]) (by rw [e_6]; rfl) ?_
      refine mx_ki (mx_rU (x := yX6_criesAwake) (y := yX7_criesAwake) (rm := rm_X7_criesAwake) (rest := []) (C := RX7) hx hb hml hown hts (c_X7_criesAwake l D cI cB cZ cP cC a_k2 v2 _ _ hw) q_589 q_573 q_585 q_591 q_592 q_20 q_593 q_586 hdu_X6_criesAwake ⟨(Nat.le_of_ble_eq_true rfl), (Nat.le_of_ble_eq_true rfl)⟩ rfl rfl hK hP hD [4] rfl rfl 7 4 rfl rfl rfl rfl hl.1 rfl (Nat.le_of_ble_eq_true rfl) dX1_manner_25 ⟨(Nat.le_of_ble_eq_true rfl), (Nat.le_of_ble_eq_true rfl)⟩) hP hD hS hA [4] [0, 1, 2, 3, 5, 6, 7] [0, 1, 2, 3, 7, 4, 5, 6] (fun _ => ww_X1_manner a_c a_c_kind a_c_months a_c_home a_c_nurse a_c_skills a_c_noteRow a_c_soundRow a_c_pastRow a_K a_k0 a_k1 a_k2 a_k3 a_k4 a_k5 cI cB cZ cP cC infants retired month notes sounds pasts) rfl rfl rfl (by decide) rfl (fun _ => rfl) (fun r_7 u H locs hw hP hD hS => ?_)
      try dsimp only at hw
      replace hP : va_P D vwCl (ww_X1_manner a_c a_c_kind a_c_months a_c_home a_c_nurse a_c_skills a_c_noteRow a_c_soundRow a_c_pastRow a_K a_k0 a_k1 a_k2 a_k3 a_k4 a_k5 cI cB cZ cP cC infants retired month notes sounds pasts) H := hP
      replace hD : va_D A (ww_X1_manner a_c a_c_kind a_c_months a_c_home a_c_nurse a_c_skills a_c_noteRow a_c_soundRow a_c_pastRow a_K a_k0 a_k1 a_k2 a_k3 a_k4 a_k5 cI cB cZ cP cC infants retired month notes sounds pasts) := hD
      exact k_X1_manner_J28 C0  r_7 _ _ _ hP hD hS (lv_sub hl [] rfl) hw
    · replace hw := hw.2.2.2.1 e_6
      refine W.eq (g2 := F0 m 25 ls [.int v2, .ref a_k3]) (by rw [e_6]; rfl) ?_
      refine mx_ki (mx_rU (x := yX6_criesAwake) (y := yX6_criesAwake) (rm := rm_X6_criesAwake) (rest := []) (C := RX3) hx hb hml hown hts (c_X6_criesAwake l D cI cB cZ cP cC a_k3 v2 _ _ hw) q_589 q_573 q_585 q_587 q_585 q_14 q_586 q_586 hdu_X6_criesAwake ⟨(Nat.le_of_ble_eq_true rfl), (Nat.le_of_ble_eq_true rfl)⟩ rfl rfl hK hP hD [] rfl rfl 3 5 rfl rfl rfl rfl hl.1 rfl (Nat.le_of_ble_eq_true rfl) dX1_manner_25 ⟨(Nat.le_of_ble_eq_true rfl), (Nat.le_of_ble_eq_true rfl)⟩) hP hD hS hA [] [0, 1, 2, 3, 4, 5, 6, 7] [0, 1, 2, 3, 4, 5, 6, 7] (fun _ => ww_X1_manner a_c a_c_kind a_c_months a_c_home a_c_nurse a_c_skills a_c_noteRow a_c_soundRow a_c_pastRow a_K a_k0 a_k1 a_k2 a_k3 a_k4 a_k5 cI cB cZ cP cC infants retired month notes sounds pasts) rfl rfl rfl (by decide) rfl (fun _ => rfl) (fun r_7 u H locs hw hP hD hS => ?_)
      try dsimp only at hw
      replace hP : va_P D vwCl (ww_X1_manner a_c a_c_kind a_c_months a_c_home a_c_nurse a_c_skills a_c_noteRow a_c_soundRow a_c_pastRow a_K a_k0 a_k1 a_k2 a_k3 a_k4 a_k5 cI cB cZ cP cC infants retired month notes sounds pasts) H := hP
      replace hD : va_D A (ww_X1_manner a_c a_c_kind a_c_months a_c_home a_c_nurse a_c_skills a_c_noteRow a_c_soundRow a_c_pastRow a_K a_k0 a_k1 a_k2 a_k3 a_k4 a_k5 cI cB cZ cP cC infants retired month notes sounds pasts) := hD
      exact k_X1_manner_J28 C0  r_7 _ _ _ hP hD hS (lv_sub hl [] rfl) hw
    · replace hw := hw.2.2.2.2.1 e_6
      refine W.eq (g2 := F0 m 25 ls [.int v2, .ref a_k4]) (by rw [e_6]; rfl) ?_
      refine mx_ki (mx_rU (x := yX6_criesAwake) (y := yX6_criesAwake) (rm := rm_X6_criesAwake) (rest := []) (C := RX4) hx hb hml hown hts (c_X6_criesAwake l D cI cB cZ cP cC a_k4 v2 _ _ hw) q_589 q_573 q_585 q_588 q_585 q_14 q_586 q_586 hdu_X6_criesAwake ⟨(Nat.le_of_ble_eq_true rfl), (Nat.le_of_ble_eq_true rfl)⟩ rfl rfl hK hP hD [] rfl rfl 4 6 rfl rfl rfl rfl hl.1 rfl (Nat.le_of_ble_eq_true rfl) dX1_manner_25 ⟨(Nat.le_of_ble_eq_true rfl), (Nat.le_of_ble_eq_true rfl)⟩) hP hD hS hA [] [0, 1, 2, 3, 4, 5, 6, 7] [0, 1, 2, 3, 4, 5, 6, 7] (fun _ => ww_X1_manner a_c a_c_kind a_c_months a_c_home a_c_nurse a_c_skills a_c_noteRow a_c_soundRow a_c_pastRow a_K a_k0 a_k1 a_k2 a_k3 a_k4 a_k5 cI cB cZ cP cC infants retired month notes sounds pasts) rfl rfl rfl (by decide) rfl (fun _ => rfl) (fun r_7 u H locs hw hP hD hS => ?_)
      try dsimp only at hw
      replace hP : va_P D vwCl (ww_X1_manner a_c a_c_kind a_c_months a_c_home a_c_nurse a_c_skills a_c_noteRow a_c_soundRow a_c_pastRow a_K a_k0 a_k1 a_k2 a_k3 a_k4 a_k5 cI cB cZ cP cC infants retired month notes sounds pasts) H := hP
      replace hD : va_D A (ww_X1_manner a_c a_c_kind a_c_months a_c_home a_c_nurse a_c_skills a_c_noteRow a_c_soundRow a_c_pastRow a_K a_k0 a_k1 a_k2 a_k3 a_k4 a_k5 cI cB cZ cP cC infants retired month notes sounds pasts) := hD
      exact k_X1_manner_J28 C0  r_7 _ _ _ hP hD hS (lv_sub hl [] rfl) hw
    · replace hw := hw.2.2.2.2.2 e_6
      refine W.eq (g2 := F0 m 25 ls [.int v2, .ref a_k5]) (by rw [e_6]; rfl) ?_
      refine mx_ki (mx_rU (x := yX6_criesAwake) (y := yX0_criesAwake) (rm := rm_X0_criesAwake) (rest := []) (C := RX0) hx hb hml hown hts (c_X0_criesAwake l D cI cB cZ cP cC a_k5 v2 _ _ hw) q_589 q_573 q_585 q_575 q_576 q_29 q_577 q_586 hdu_X6_criesAwake ⟨(Nat.le_of_ble_eq_true rfl), (Nat.le_of_ble_eq_true rfl)⟩ rfl rfl hK hP hD [7] rfl rfl 0 7 rfl rfl rfl rfl hl.1 rfl (Nat.le_of_ble_eq_true rfl) dX1_manner_25 ⟨(Nat.le_of_ble_eq_true rfl), (Nat.le_of_ble_eq_true rfl)⟩) hP hD hS hA [7] [0, 1, 2, 3, 4, 5, 6] [0, 1, 2, 3, 4, 5, 6, 7] (fun _ => ww_X1_manner a_c a_c_kind a_c_months a_c_home a_c_nurse a_c_skills a_c_noteRow a_c_soundRow a_c_pastRow a_K a_k0 a_k1 a_k2 a_k3 a_k4 a_k5 cI cB cZ cP cC infants retired month notes sounds pasts) rfl rfl rfl (by decide) rfl (fun _ => rfl) (fun r_7 u H locs hw hP hD hS => ?_)
      try dsimp only at hw
      replace hP : va_P D vwCl (ww_X1_manner a_c a_c_kind a_c_months a_c_home a_c_nurse a_c_skills a_c_noteRow a_c_soundRow a_c_pastRow a_K a_k0 a_k1 a_k2 a_k3 a_k4 a_k5 cI cB cZ cP cC infants retired month notes sounds pasts) H := hP
      replace hD : va_D A (ww_X1_manner a_c a_c_kind a_c_months a_c_home a_c_nurse a_c_skills a_c_noteRow a_c_soundRow a_c_pastRow a_K a_k0 a_k1 a_k2 a_k3 a_k4 a_k5 cI cB cZ cP cC infants retired month notes sounds pasts) := hD
      exact k_X1_manner_J28 C0  r_7 _ _ _ hP hD hS (lv_sub hl [] rfl) hw
  · replace hw := hw.2 c_4
    refine lv_bipush (v := 100) hx hb dX1_manner_13 (by decide) ?_
    refine lv_goto (tgt := 28) hx hb dX1_manner_15 (by decide) ?_
    exact k_X1_manner_J28 C0  100 _ _ _ hP hD hS (lv_sub hl [] rfl) hw
def wp_X1_manner (v1 : Int32) (v2 : Int32) (v3 : Int32) (Post : Int32 → Prop) : Prop :=
  (vp_in v1 6 ∧ (wpv_sleepsIn v1.toNatClampNeg v3 (fun r_3 => (wp_X1_manner_J10 Post v1 v2 r_3))))
set_option maxHeartbeats 4000000 in
set_option maxRecDepth 100000 in
theorem c_X1_manner (l : Launch) (D : va_G) (cI cB cZ cP cC : ClassId) (a_c a_c_kind a_c_months a_c_home a_c_nurse a_c_skills a_c_noteRow a_c_soundRow a_c_pastRow a_K a_k0 a_k1 a_k2 a_k3 a_k4 a_k5 : Nat) (infants : Int32) (retired : Int32) (month : Int32) (notes : Int32) (sounds : Int32) (pasts : Int32) (v1 : Int32) (v2 : Int32) (v3 : Int32) (sz : Nat) (Post : Int32 → Prop) (hw : wp_X1_manner v1 v2 v3 Post) :
    Met l yX1_manner (Cond.code yX1_manner cX1_manner 4 (some .int) :: wsAll) rm_X1_manner (va_Pc [.ref a_c, .int v1, .int v2, .int v3] (mxP D (mxTy cI cB cZ cP cC) sz (ww_X1_manner a_c a_c_kind a_c_months a_c_home a_c_nurse a_c_skills a_c_noteRow a_c_soundRow a_c_pastRow a_K a_k0 a_k1 a_k2 a_k3 a_k4 a_k5 cI cB cZ cP cC infants retired month notes sounds pasts))) (qq_X1_manner D a_c a_c_kind a_c_months a_c_home a_c_nurse a_c_skills a_c_noteRow a_c_soundRow a_c_pastRow a_K a_k0 a_k1 a_k2 a_k3 a_k4 a_k5 cI cB cZ cP cC infants retired month notes sounds pasts Post (va_A (ww_X1_manner a_c a_c_kind a_c_months a_c_home a_c_nurse a_c_skills a_c_noteRow a_c_soundRow a_c_pastRow a_K a_k0 a_k1 a_k2 a_k3 a_k4 a_k5 cI cB cZ cP cC infants retired month notes sounds pasts) sz)) 0 0 (va_A (ww_X1_manner a_c a_c_kind a_c_months a_c_home a_c_nurse a_c_skills a_c_noteRow a_c_soundRow a_c_pastRow a_K a_k0 a_k1 a_k2 a_k3 a_k4 a_k5 cI cB cZ cP cC infants retired month notes sounds pasts) sz) := by
  refine mx_of (Qc := qq_X1_manner D a_c a_c_kind a_c_months a_c_home a_c_nurse a_c_skills a_c_noteRow a_c_soundRow a_c_pastRow a_K a_k0 a_k1 a_k2 a_k3 a_k4 a_k5 cI cB cZ cP cC infants retired month notes sounds pasts Post) (by decide) (Nat.le_of_ble_eq_true rfl) ?_
  intro p e s m bl meth c A ls C0 hP hD hS hl
  replace C0 : mxC p s m [.ref a_c, .int v1, .int v2, .int v3].toArray meth c cX1_manner RX1 (some .int) 4 D (mxTy cI cB cZ cP cC) A := C0
  obtain ⟨hx, hb, hr, hlocks, hml, hown, hts, hK, hA⟩ := id C0
  replace hl : lv_has ls 4 [(0, .ref a_c), (1, .int v1), (2, .int v2), (3, .int v3)] := hl
  unfold wp_X1_manner at hw
  refine lv_aload_n hx hb dX1_manner_0 rfl (lv_at hl 0 rfl) ?_
  refine mx_get (ci := 1) (C := RX1) (T := TX1) (N := 15) hx hb hown in_wsX10 hts hK hP 0 rfl rfl 0 (by decide) q_73 rfl (v := .ref a_K) rfl dX1_manner_1 ?_
  refine lv_iload_n hx hb dX1_manner_4 rfl (lv_at hl 1 rfl) ?_
  obtain ⟨h_1, hw⟩ := hw
  refine mx_aldq hx hb hK hP 1 3 rfl rfl h_1 (mx_ka a_k0 a_k1 a_k2 a_k3 a_k4 a_k5 v1.toNatClampNeg) (mx_kf_at h_1) dX1_manner_5 ?_
  refine lv_iload_n hx hb dX1_manner_6 rfl (lv_at hl 3 rfl) ?_
  rcases mx_six h_1 with e_2 | e_2 | e_2 | e_2 | e_2 | e_2
  · replace hw := hw.1 e_2
    refine W.eq (g2 := F0 m 7 ls [.int v3, .ref a_k0]) (by rw [e_2]; rfl) ?_
    refine mx_ki (mx_rV (rm := rm_X6_sleepsIn) (rest := []) (C := RX6) hx hb hml hown hts (c_X6_sleepsIn l D cI cB cZ cP cC a_k0 v3 _ _ hw) q_555 q_550 q_556 q_14 q_548 hd_X6_sleepsIn ⟨(Nat.le_of_ble_eq_true rfl), (Nat.le_of_ble_eq_true rfl)⟩ rfl rfl hK hP hD [] rfl rfl 6 2 rfl rfl rfl rfl hl.1 rfl (Nat.le_of_ble_eq_true rfl) dX1_manner_7 ⟨(Nat.le_of_ble_eq_true rfl), (Nat.le_of_ble_eq_true rfl)⟩) hP hD hS hA [] [0, 1, 2, 3, 4, 5, 6, 7] [0, 1, 2, 3, 4, 5, 6, 7] (fun _ => ww_X1_manner a_c a_c_kind a_c_months a_c_home a_c_nurse a_c_skills a_c_noteRow a_c_soundRow a_c_pastRow a_K a_k0 a_k1 a_k2 a_k3 a_k4 a_k5 cI cB cZ cP cC infants retired month notes sounds pasts) rfl rfl rfl (by decide) rfl (fun _ => rfl) (fun r_3 u H locs hw hP hD hS => ?_)
    try dsimp only at hw
    replace hP : va_P D vwCl (ww_X1_manner a_c a_c_kind a_c_months a_c_home a_c_nurse a_c_skills a_c_noteRow a_c_soundRow a_c_pastRow a_K a_k0 a_k1 a_k2 a_k3 a_k4 a_k5 cI cB cZ cP cC infants retired month notes sounds pasts) H := hP
    replace hD : va_D A (ww_X1_manner a_c a_c_kind a_c_months a_c_home a_c_nurse a_c_skills a_c_noteRow a_c_soundRow a_c_pastRow a_K a_k0 a_k1 a_k2 a_k3 a_k4 a_k5 cI cB cZ cP cC infants retired month notes sounds pasts) := hD
    exact k_X1_manner_J10 C0  v1 v2 r_3 _ _ _ hP hD hS (lv_sub hl [0, 1, 2] rfl) hw
  · replace hw := hw.2.1 e_2
    refine W.eq (g2 := F0 m 7 ls [.int v3, .ref a_k1]) (by rw [e_2]; rfl) ?_
    refine mx_ki (mx_rU (x := yX6_sleepsIn) (y := yX6_sleepsIn) (rm := rm_X6_sleepsIn) (rest := []) (C := RX8) hx hb hml hown hts (c_X6_sleepsIn l D cI cB cZ cP cC a_k1 v3 _ _ hw) q_555 q_543 q_550 q_562 q_550 q_14 q_548 q_548 hdu_X6_sleepsIn ⟨(Nat.le_of_ble_eq_true rfl), (Nat.le_of_ble_eq_true rfl)⟩ rfl rfl hK hP hD [] rfl rfl 8 3 rfl rfl rfl rfl hl.1 rfl (Nat.le_of_ble_eq_true rfl) dX1_manner_7 ⟨(Nat.le_of_ble_eq_true rfl), (Nat.le_of_ble_eq_true rfl)⟩) hP hD hS hA [] [0, 1, 2, 3, 4, 5, 6, 7] [0, 1, 2, 3, 4, 5, 6, 7] (fun _ => ww_X1_manner a_c a_c_kind a_c_months a_c_home a_c_nurse a_c_skills a_c_noteRow a_c_soundRow a_c_pastRow a_K a_k0 a_k1 a_k2 a_k3 a_k4 a_k5 cI cB cZ cP cC infants retired month notes sounds pasts) rfl rfl rfl (by decide) rfl (fun _ => rfl) (fun r_3 u H locs hw hP hD hS => ?_)
    try dsimp only at hw
    replace hP : va_P D vwCl (ww_X1_manner a_c a_c_kind a_c_months a_c_home a_c_nurse a_c_skills a_c_noteRow a_c_soundRow a_c_pastRow a_K a_k0 a_k1 a_k2 a_k3 a_k4 a_k5 cI cB cZ cP cC infants retired month notes sounds pasts) H := hP
    replace hD : va_D A (ww_X1_manner a_c a_c_kind a_c_months a_c_home a_c_nurse a_c_skills a_c_noteRow a_c_soundRow a_c_pastRow a_K a_k0 a_k1 a_k2 a_k3 a_k4 a_k5 cI cB cZ cP cC infants retired month notes sounds pasts) := hD
    exact k_X1_manner_J10 C0  v1 v2 r_3 _ _ _ hP hD hS (lv_sub hl [0, 1, 2] rfl) hw
  · replace hw := hw.2.2.1 e_2
    refine W.eq (g2 := F0 m 7 ls [.int v3, .ref a_k2]) (by rw [e_2]; rfl) ?_
    refine mx_ki (mx_rU (x := yX6_sleepsIn) (y := yX7_sleepsIn) (rm := rm_X7_sleepsIn) (rest := []) (C := RX7) hx hb hml hown hts (c_X7_sleepsIn l D cI cB cZ cP cC a_k2 v3 _ _ hw) q_555 q_543 q_550 q_557 q_558 q_20 q_559 q_548 hdu_X6_sleepsIn ⟨(Nat.le_of_ble_eq_true rfl), (Nat.le_of_ble_eq_true rfl)⟩ rfl rfl hK hP hD [4] rfl rfl 7 4 rfl rfl rfl rfl hl.1 rfl (Nat.le_of_ble_eq_true rfl) dX1_manner_7 ⟨(Nat.le_of_ble_eq_true rfl), (Nat.le_of_ble_eq_true rfl)⟩) hP hD hS hA [4] [0, 1, 2, 3, 5, 6, 7] [0, 1, 2, 3, 7, 4, 5, 6] (fun _ => ww_X1_manner a_c a_c_kind a_c_months a_c_home a_c_nurse a_c_skills a_c_noteRow a_c_soundRow a_c_pastRow a_K a_k0 a_k1 a_k2 a_k3 a_k4 a_k5 cI cB cZ cP cC infants retired month notes sounds pasts) rfl rfl rfl (by decide) rfl (fun _ => rfl) (fun r_3 u H locs hw hP hD hS => ?_)
    try dsimp only at hw
    replace hP : va_P D vwCl (ww_X1_manner a_c a_c_kind a_c_months a_c_home a_c_nurse a_c_skills a_c_noteRow a_c_soundRow a_c_pastRow a_K a_k0 a_k1 a_k2 a_k3 a_k4 a_k5 cI cB cZ cP cC infants retired month notes sounds pasts) H := hP
    replace hD : va_D A (ww_X1_manner a_c a_c_kind a_c_months a_c_home a_c_nurse a_c_skills a_c_noteRow a_c_soundRow a_c_pastRow a_K a_k0 a_k1 a_k2 a_k3 a_k4 a_k5 cI cB cZ cP cC infants retired month notes sounds pasts) := hD
    exact k_X1_manner_J10 C0  v1 v2 r_3 _ _ _ hP hD hS (lv_sub hl [0, 1, 2] rfl) hw
  · replace hw := hw.2.2.2.1 e_2
    refine W.eq (g2 := F0 m 7 ls [.int v3, .ref a_k3]) (by rw [e_2]; rfl) ?_
    refine mx_ki (mx_rU (x := yX6_sleepsIn) (y := yX6_sleepsIn) (rm := rm_X6_sleepsIn) (rest := []) (C := RX3) hx hb hml hown hts (c_X6_sleepsIn l D cI cB cZ cP cC a_k3 v3 _ _ hw) q_555 q_543 q_550 q_549 q_550 q_14 q_548 q_548 hdu_X6_sleepsIn ⟨(Nat.le_of_ble_eq_true rfl), (Nat.le_of_ble_eq_true rfl)⟩ rfl rfl hK hP hD [] rfl rfl 3 5 rfl rfl rfl rfl hl.1 rfl (Nat.le_of_ble_eq_true rfl) dX1_manner_7 ⟨(Nat.le_of_ble_eq_true rfl), (Nat.le_of_ble_eq_true rfl)⟩) hP hD hS hA [] [0, 1, 2, 3, 4, 5, 6, 7] [0, 1, 2, 3, 4, 5, 6, 7] (fun _ => ww_X1_manner a_c a_c_kind a_c_months a_c_home a_c_nurse a_c_skills a_c_noteRow a_c_soundRow a_c_pastRow a_K a_k0 a_k1 a_k2 a_k3 a_k4 a_k5 cI cB cZ cP cC infants retired month notes sounds pasts) rfl rfl rfl (by decide) rfl (fun _ => rfl) (fun r_3 u H locs hw hP hD hS => ?_)
    try dsimp only at hw
    replace hP : va_P D vwCl (ww_X1_manner a_c a_c_kind a_c_months a_c_home a_c_nurse a_c_skills a_c_noteRow a_c_soundRow a_c_pastRow a_K a_k0 a_k1 a_k2 a_k3 a_k4 a_k5 cI cB cZ cP cC infants retired month notes sounds pasts) H := hP
    replace hD : va_D A (ww_X1_manner a_c a_c_kind a_c_months a_c_home a_c_nurse a_c_skills a_c_noteRow a_c_soundRow a_c_pastRow a_K a_k0 a_k1 a_k2 a_k3 a_k4 a_k5 cI cB cZ cP cC infants retired month notes sounds pasts) := hD
    exact k_X1_manner_J10 C0  v1 v2 r_3 _ _ _ hP hD hS (lv_sub hl [0, 1, 2] rfl) hw
  · replace hw := hw.2.2.2.2.1 e_2
    refine W.eq (g2 := F0 m 7 ls [.int v3, .ref a_k4]) (by rw [e_2]; rfl) ?_
    refine mx_ki (mx_rU (x := yX6_sleepsIn) (y := yX4_sleepsIn) (rm := rm_X4_sleepsIn) (rest := []) (C := RX4) hx hb hml hown hts (c_X4_sleepsIn l D cI cB cZ cP cC a_k4 v3 _ _ hw) q_555 q_543 q_550 q_551 q_552 q_26 q_553 q_548 hdu_X6_sleepsIn ⟨(Nat.le_of_ble_eq_true rfl), (Nat.le_of_ble_eq_true rfl)⟩ rfl rfl hK hP hD [6] rfl rfl 4 6 rfl rfl rfl rfl hl.1 rfl (Nat.le_of_ble_eq_true rfl) dX1_manner_7 ⟨(Nat.le_of_ble_eq_true rfl), (Nat.le_of_ble_eq_true rfl)⟩) hP hD hS hA [6] [0, 1, 2, 3, 4, 5, 7] [0, 1, 2, 3, 4, 5, 7, 6] (fun _ => ww_X1_manner a_c a_c_kind a_c_months a_c_home a_c_nurse a_c_skills a_c_noteRow a_c_soundRow a_c_pastRow a_K a_k0 a_k1 a_k2 a_k3 a_k4 a_k5 cI cB cZ cP cC infants retired month notes sounds pasts) rfl rfl rfl (by decide) rfl (fun _ => rfl) (fun r_3 u H locs hw hP hD hS => ?_)
    try dsimp only at hw
    replace hP : va_P D vwCl (ww_X1_manner a_c a_c_kind a_c_months a_c_home a_c_nurse a_c_skills a_c_noteRow a_c_soundRow a_c_pastRow a_K a_k0 a_k1 a_k2 a_k3 a_k4 a_k5 cI cB cZ cP cC infants retired month notes sounds pasts) H := hP
    replace hD : va_D A (ww_X1_manner a_c a_c_kind a_c_months a_c_home a_c_nurse a_c_skills a_c_noteRow a_c_soundRow a_c_pastRow a_K a_k0 a_k1 a_k2 a_k3 a_k4 a_k5 cI cB cZ cP cC infants retired month notes sounds pasts) := hD
    exact k_X1_manner_J10 C0  v1 v2 r_3 _ _ _ hP hD hS (lv_sub hl [0, 1, 2] rfl) hw
  · replace hw := hw.2.2.2.2.2 e_2
    refine W.eq (g2 := F0 m 7 ls [.int v3, .ref a_k5]) (by rw [e_2]; rfl) ?_
    refine mx_ki (mx_rU (x := yX6_sleepsIn) (y := yX0_sleepsIn) (rm := rm_X0_sleepsIn) (rest := []) (C := RX0) hx hb hml hown hts (c_X0_sleepsIn l D cI cB cZ cP cC a_k5 v3 _ _ hw) q_555 q_543 q_550 q_545 q_546 q_29 q_547 q_548 hdu_X6_sleepsIn ⟨(Nat.le_of_ble_eq_true rfl), (Nat.le_of_ble_eq_true rfl)⟩ rfl rfl hK hP hD [7] rfl rfl 0 7 rfl rfl rfl rfl hl.1 rfl (Nat.le_of_ble_eq_true rfl) dX1_manner_7 ⟨(Nat.le_of_ble_eq_true rfl), (Nat.le_of_ble_eq_true rfl)⟩) hP hD hS hA [7] [0, 1, 2, 3, 4, 5, 6] [0, 1, 2, 3, 4, 5, 6, 7] (fun _ => ww_X1_manner a_c a_c_kind a_c_months a_c_home a_c_nurse a_c_skills a_c_noteRow a_c_soundRow a_c_pastRow a_K a_k0 a_k1 a_k2 a_k3 a_k4 a_k5 cI cB cZ cP cC infants retired month notes sounds pasts) rfl rfl rfl (by decide) rfl (fun _ => rfl) (fun r_3 u H locs hw hP hD hS => ?_)
    try dsimp only at hw
    replace hP : va_P D vwCl (ww_X1_manner a_c a_c_kind a_c_months a_c_home a_c_nurse a_c_skills a_c_noteRow a_c_soundRow a_c_pastRow a_K a_k0 a_k1 a_k2 a_k3 a_k4 a_k5 cI cB cZ cP cC infants retired month notes sounds pasts) H := hP
    replace hD : va_D A (ww_X1_manner a_c a_c_kind a_c_months a_c_home a_c_nurse a_c_skills a_c_noteRow a_c_soundRow a_c_pastRow a_K a_k0 a_k1 a_k2 a_k3 a_k4 a_k5 cI cB cZ cP cC infants retired month notes sounds pasts) := hD
    exact k_X1_manner_J10 C0  v1 v2 r_3 _ _ _ hP hD hS (lv_sub hl [0, 1, 2] rfl) hw
/-! PramState$Court.fitsNotes(II)Z -/
abbrev ww_X1_fitsNotes (a_c a_c_kind a_c_months a_c_home a_c_nurse a_c_skills a_c_noteRow a_c_soundRow a_c_pastRow a_K a_k0 a_k1 a_k2 a_k3 a_k4 a_k5 : Nat) (cI cB cZ cP cC : ClassId) (infants : Int32) (retired : Int32) (month : Int32) (notes : Int32) (sounds : Int32) (pasts : Int32) (noteRow : Nat → Int32) : va_W := [(a_c, .inr (1, [.ref a_K, .ref a_c_kind, .ref a_c_months, .ref a_c_home, .ref a_c_nurse, .ref a_c_skills, .ref a_c_noteRow, .ref a_c_soundRow, .ref a_c_pastRow, .int infants, .int retired, .int month, .int notes, .int sounds, .int pasts])), (a_c_noteRow, .inl (cI, 30, .inl noteRow)), (a_K, .inl (cP, 6, .inr (.inr (.inr (.inr (mx_kf a_k0 a_k1 a_k2 a_k3 a_k4 a_k5)))))), (a_k0, .inr (6, [])), (a_k1, .inr (8, [])), (a_k2, .inr (7, [])), (a_k3, .inr (3, [])), (a_k4, .inr (4, [])), (a_k5, .inr (0, []))]
abbrev qq_X1_fitsNotes (D : va_G) (a_c a_c_kind a_c_months a_c_home a_c_nurse a_c_skills a_c_noteRow a_c_soundRow a_c_pastRow a_K a_k0 a_k1 a_k2 a_k3 a_k4 a_k5 : Nat) (cI cB cZ cP cC : ClassId) (infants : Int32) (retired : Int32) (month : Int32) (notes : Int32) (sounds : Int32) (pasts : Int32) (noteRow : Nat → Int32) (Post : Int32 → Prop) (A : Nat → Prop) : Array Value → State → Outcome → State → Prop := va_Qi (fun (r : Int32) (u : Unit) => Post r) (fun (u : Unit) t => mxB D (mxTy cI cB cZ cP cC) A (ww_X1_fitsNotes a_c a_c_kind a_c_months a_c_home a_c_nurse a_c_skills a_c_noteRow a_c_soundRow a_c_pastRow a_K a_k0 a_k1 a_k2 a_k3 a_k4 a_k5 cI cB cZ cP cC infants retired month notes sounds pasts noteRow) t) A
abbrev rm_X1_fitsNotes : Room := { frames := 4, cells := 0, slots := 0, locals := 86 }
theorem hd_X1_fitsNotes : yX1_fitsNotes.cls = RX1 ∧ yX1_fitsNotes.cls ≠ "java/lang/invoke/MethodHandle" ∧ yX1_fitsNotes.cls ≠ "java/lang/invoke/VarHandle" ∧ (parseMethodDescriptor yX1_fitsNotes.desc).map (fun d => d.parameters.length) = some 2 := by decide +kernel
def wp_X1_fitsNotes_J83 (notes : Int32) (noteRow : Nat → Int32) (Post : Int32 → Prop) (K_2 : Int32 → Int32 → Int32 → Prop) (v1 : Int32) (v2 : Int32) (v3 : Int32) : Prop :=
  (∀ x_12 : Int32, x_12 = v3 + 1 → K_2 v1 v2 x_12)
set_option maxHeartbeats 4000000 in
set_option maxRecDepth 100000 in
theorem k_X1_fitsNotes_J83 {p : Program} {l : Launch} {e : Env} {s : State} {m : MethodId} {ar : Array Value} {bl : List Frame} {meth : Method} {c : Code} {D : va_G} {A : Nat → Prop} {cI cB cZ cP cC : ClassId} {a_c a_c_kind a_c_months a_c_home a_c_nurse a_c_skills a_c_noteRow a_c_soundRow a_c_pastRow a_K a_k0 a_k1 a_k2 a_k3 a_k4 a_k5 : Nat} {infants : Int32} {retired : Int32} {month : Int32} {notes : Int32} {sounds : Int32} {pasts : Int32} {noteRow : Nat → Int32} {Post : Int32 → Prop} {K_2 : Int32 → Int32 → Int32 → Prop} (C0 : mxC p s m ar meth c cX1_fitsNotes RX1 (some .boolean) 6 D (mxTy cI cB cZ cP cC) A)
    (hK_2 : ∀ (v1 : Int32) (v2 : Int32) (v3 : Int32) (H : Heap) (locs : List Loc) (ls : Array Slot), va_P D vwCl (ww_X1_fitsNotes a_c a_c_kind a_c_months a_c_home a_c_nurse a_c_skills a_c_noteRow a_c_soundRow a_c_pastRow a_K a_k0 a_k1 a_k2 a_k3 a_k4 a_k5 cI cB cZ cP cC infants retired month notes sounds pasts noteRow) H → va_D A (ww_X1_fitsNotes a_c a_c_kind a_c_months a_c_home a_c_nurse a_c_skills a_c_noteRow a_c_soundRow a_c_pastRow a_K a_k0 a_k1 a_k2 a_k3 a_k4 a_k5 cI cB cZ cP cC infants retired month notes sounds pasts noteRow) → va_S A s.heap H locs → lv_has ls 6 [(0, .ref a_c), (1, .int v1), (2, .int v2), (3, .int v3)] → K_2 v1 v2 v3 → W p l e rm_X1_fitsNotes s m ar bl meth c H locs 0 0 (MQ bl (qq_X1_fitsNotes D a_c a_c_kind a_c_months a_c_home a_c_nurse a_c_skills a_c_noteRow a_c_soundRow a_c_pastRow a_K a_k0 a_k1 a_k2 a_k3 a_k4 a_k5 cI cB cZ cP cC infants retired month notes sounds pasts noteRow Post A) ar s 0 0 A) (F0 m 2 ls [])) :
    ∀ (v1 : Int32) (v2 : Int32) (v3 : Int32) (H : Heap) (locs : List Loc) (ls : Array Slot), va_P D vwCl (ww_X1_fitsNotes a_c a_c_kind a_c_months a_c_home a_c_nurse a_c_skills a_c_noteRow a_c_soundRow a_c_pastRow a_K a_k0 a_k1 a_k2 a_k3 a_k4 a_k5 cI cB cZ cP cC infants retired month notes sounds pasts noteRow) H → va_D A (ww_X1_fitsNotes a_c a_c_kind a_c_months a_c_home a_c_nurse a_c_skills a_c_noteRow a_c_soundRow a_c_pastRow a_K a_k0 a_k1 a_k2 a_k3 a_k4 a_k5 cI cB cZ cP cC infants retired month notes sounds pasts noteRow) → va_S A s.heap H locs → lv_has ls 6 [(0, .ref a_c), (1, .int v1), (2, .int v2), (3, .int v3)] → wp_X1_fitsNotes_J83 notes noteRow Post K_2 v1 v2 v3 → W p l e rm_X1_fitsNotes s m ar bl meth c H locs 0 0 (MQ bl (qq_X1_fitsNotes D a_c a_c_kind a_c_months a_c_home a_c_nurse a_c_skills a_c_noteRow a_c_soundRow a_c_pastRow a_K a_k0 a_k1 a_k2 a_k3 a_k4 a_k5 cI cB cZ cP cC infants retired month notes sounds pasts noteRow Post A) ar s 0 0 A) (F0 m 83 ls []) := by
  obtain ⟨hx, hb, hr, hlocks, hml, hown, hts, hK, hA⟩ := id C0
  intro v1 v2 v3 H locs ls hP hD hS hl hw
  obtain ⟨x_12, ex_12⟩ : ∃ y : Int32, y = v3 + 1 := ⟨_, rfl⟩
  replace hw := hw x_12 ex_12
  refine lv_iinc (v := x_12) (lv' := [(3, .int x_12), (0, .ref a_c), (1, .int v1), (2, .int v2)]) hx hb dX1_fitsNotes_83 hl (k := 3) rfl (by rw [ex_12]; rfl) (by decide) rfl (fun ls hl => ?_)
  refine lv_goto (tgt := 2) hx hb dX1_fitsNotes_86 (by decide) ?_
  exact hK_2 v1 v2 x_12 _ _ _ hP hD hS (lv_sub hl [1, 2, 3, 0] rfl) hw
def wp_X1_fitsNotes_L2 (notes : Int32) (noteRow : Nat → Int32) (Post : Int32 → Prop)  : Nat → Int32 → Int32 → Int32 → Prop
  | 0, _, _, _ => False
  | n + 1, v1, v2, v3 => ((notes ≤ v3 → Post 1) ∧ (¬ notes ≤ v3 → (∀ x_2 : Int32, x_2 = v3 * 5 → (vp_in x_2 30 ∧ (((noteRow x_2.toNatClampNeg) = v2 → (vp_in (x_2 + 3) 30 ∧ (vp_in (x_2 + 4) 30 ∧ (∀ x_7 : Int32, x_7 = ((noteRow (x_2 + 3).toNatClampNeg) * 100) + (noteRow (x_2 + 4).toNatClampNeg) → (vp_in (x_2 + 1) 30 ∧ (vp_in (x_2 + 2) 30 ∧ (wp_X1_manner v1 (noteRow (x_2 + 1).toNatClampNeg) (noteRow (x_2 + 2).toNatClampNeg) (fun r_10 => ((r_10 = x_7 → (wp_X1_fitsNotes_J83 notes noteRow Post (fun (v1_13 : Int32) (v2_14 : Int32) (v3_15 : Int32) => wp_X1_fitsNotes_L2 notes noteRow Post  n v1_13 v2_14 v3_15) v1 v2 v3)) ∧ (¬ r_10 = x_7 → Post 0)))))))))) ∧ (¬ (noteRow x_2.toNatClampNeg) = v2 → (wp_X1_fitsNotes_J83 notes noteRow Post (fun (v1_16 : Int32) (v2_17 : Int32) (v3_18 : Int32) => wp_X1_fitsNotes_L2 notes noteRow Post  n v1_16 v2_17 v3_18) v1 v2 v3)))))))
set_option maxHeartbeats 4000000 in
set_option maxRecDepth 100000 in
theorem k_X1_fitsNotes_L2 {p : Program} {l : Launch} {e : Env} {s : State} {m : MethodId} {ar : Array Value} {bl : List Frame} {meth : Method} {c : Code} {D : va_G} {A : Nat → Prop} {cI cB cZ cP cC : ClassId} {a_c a_c_kind a_c_months a_c_home a_c_nurse a_c_skills a_c_noteRow a_c_soundRow a_c_pastRow a_K a_k0 a_k1 a_k2 a_k3 a_k4 a_k5 : Nat} {infants : Int32} {retired : Int32} {month : Int32} {notes : Int32} {sounds : Int32} {pasts : Int32} {noteRow : Nat → Int32} {Post : Int32 → Prop} (C0 : mxC p s m ar meth c cX1_fitsNotes RX1 (some .boolean) 6 D (mxTy cI cB cZ cP cC) A) :
    ∀ (n : Nat) (v1 : Int32) (v2 : Int32) (v3 : Int32) (H : Heap) (locs : List Loc) (ls : Array Slot), va_P D vwCl (ww_X1_fitsNotes a_c a_c_kind a_c_months a_c_home a_c_nurse a_c_skills a_c_noteRow a_c_soundRow a_c_pastRow a_K a_k0 a_k1 a_k2 a_k3 a_k4 a_k5 cI cB cZ cP cC infants retired month notes sounds pasts noteRow) H → va_D A (ww_X1_fitsNotes a_c a_c_kind a_c_months a_c_home a_c_nurse a_c_skills a_c_noteRow a_c_soundRow a_c_pastRow a_K a_k0 a_k1 a_k2 a_k3 a_k4 a_k5 cI cB cZ cP cC infants retired month notes sounds pasts noteRow) → va_S A s.heap H locs → lv_has ls 6 [(0, .ref a_c), (1, .int v1), (2, .int v2), (3, .int v3)] → wp_X1_fitsNotes_L2 notes noteRow Post  n v1 v2 v3 → W p l e rm_X1_fitsNotes s m ar bl meth c H locs 0 0 (MQ bl (qq_X1_fitsNotes D a_c a_c_kind a_c_months a_c_home a_c_nurse a_c_skills a_c_noteRow a_c_soundRow a_c_pastRow a_K a_k0 a_k1 a_k2 a_k3 a_k4 a_k5 cI cB cZ cP cC infants retired month notes sounds pasts noteRow Post A) ar s 0 0 A) (F0 m 2 ls []) := by
  obtain ⟨hx, hb, hr, hlocks, hml, hown, hts, hK, hA⟩ := id C0
  intro n
  induction n with
  | zero =>
    intro v1 v2 v3 H locs ls hP hD hS hl hw
    exact absurd hw (fun h => h)
  | succ n ih =>
    intro v1 v2 v3 H locs ls hP hD hS hl hw
    refine lv_iload_n hx hb dX1_fitsNotes_2 rfl (lv_at hl 3 rfl) ?_
    refine lv_aload_n hx hb dX1_fitsNotes_3 rfl (lv_at hl 0 rfl) ?_
    refine mx_get (ci := 1) (C := RX1) (T := TX1) (N := 15) hx hb hown in_wsX10 hts hK hP 0 rfl rfl 12 (by decide) q_121 rfl (v := .int notes) rfl dX1_fitsNotes_4 ?_
    refine lv_icmp_ge (tgt := 89) hx hb dX1_fitsNotes_7 (by decide) (fun c_1 => ?_) (fun c_1 => ?_)
    · replace hw := hw.1 c_1
      refine lv_iconst (v := 1) hx hb dX1_fitsNotes_89 (by decide) ?_
      exact mx_iret () hx hb hr hlocks rfl hw hK hP hD hS dX1_fitsNotes_90
    · replace hw := hw.2 c_1
      refine lv_iload_n hx hb dX1_fitsNotes_10 rfl (lv_at hl 3 rfl) ?_
      refine lv_iconst (v := 5) hx hb dX1_fitsNotes_11 (by decide) ?_
      refine lv_imul hx hb dX1_fitsNotes_12 ?_
      refine lv_topi (fun x_2 ex_2 => ?_)
      replace hw := hw x_2 ex_2
      refine lv_istore (lv' := [(4, .int x_2), (0, .ref a_c), (1, .int v1), (2, .int v2), (3, .int v3)]) hx hb dX1_fitsNotes_13 hl (by decide) rfl (fun ls hl => ?_)
      refine lv_aload_n hx hb dX1_fitsNotes_15 rfl (lv_at hl 1 rfl) ?_
      refine mx_get (ci := 1) (C := RX1) (T := TX1) (N := 15) hx hb hown in_wsX10 hts hK hP 0 rfl rfl 6 (by decide) q_70 rfl (v := .ref a_c_noteRow) rfl dX1_fitsNotes_16 ?_
      refine lv_iload hx hb dX1_fitsNotes_19 (lv_at hl 0 rfl) ?_
      obtain ⟨h_3, hw⟩ := hw
      refine mx_iald hx hb hK hP 1 0 rfl rfl h_3 (noteRow x_2.toNatClampNeg) rfl dX1_fitsNotes_21 ?_
      refine lv_iload_n hx hb dX1_fitsNotes_22 rfl (lv_at hl 3 rfl) ?_
      refine lv_icmp_eq (tgt := 29) hx hb dX1_fitsNotes_23 (by decide) (fun c_4 => ?_) (fun c_4 => ?_)
      · replace hw := hw.1 c_4
        refine lv_aload_n hx hb dX1_fitsNotes_29 rfl (lv_at hl 1 rfl) ?_
        refine mx_get (ci := 1) (C := RX1) (T := TX1) (N := 15) hx hb hown in_wsX10 hts hK hP 0 rfl rfl 6 (by decide) q_70 rfl (v := .ref a_c_noteRow) rfl dX1_fitsNotes_30 ?_
        refine lv_iload hx hb dX1_fitsNotes_33 (lv_at hl 0 rfl) ?_
        refine lv_iconst (v := 3) hx hb dX1_fitsNotes_35 (by decide) ?_
        refine lv_iadd hx hb dX1_fitsNotes_36 ?_
        obtain ⟨h_5, hw⟩ := hw
        refine mx_iald hx hb hK hP 1 0 rfl rfl h_5 (noteRow (x_2 + 3).toNatClampNeg) rfl dX1_fitsNotes_37 ?_
        refine lv_bipush (v := 100) hx hb dX1_fitsNotes_38 (by decide) ?_
        refine lv_imul hx hb dX1_fitsNotes_40 ?_
        refine lv_aload_n hx hb dX1_fitsNotes_41 rfl (lv_at hl 1 rfl) ?_
        refine mx_get (ci := 1) (C := RX1) (T := TX1) (N := 15) hx hb hown in_wsX10 hts hK hP 0 rfl rfl 6 (by decide) q_70 rfl (v := .ref a_c_noteRow) rfl dX1_fitsNotes_42 ?_
        refine lv_iload hx hb dX1_fitsNotes_45 (lv_at hl 0 rfl) ?_
        refine lv_iconst (v := 4) hx hb dX1_fitsNotes_47 (by decide) ?_
        refine lv_iadd hx hb dX1_fitsNotes_48 ?_
        obtain ⟨h_6, hw⟩ := hw
        refine mx_iald hx hb hK hP 1 0 rfl rfl h_6 (noteRow (x_2 + 4).toNatClampNeg) rfl dX1_fitsNotes_49 ?_
        refine lv_iadd hx hb dX1_fitsNotes_50 ?_
        refine lv_topi (fun x_7 ex_7 => ?_)
        replace hw := hw x_7 ex_7
        refine lv_istore (lv' := [(5, .int x_7), (4, .int x_2), (0, .ref a_c), (1, .int v1), (2, .int v2), (3, .int v3)]) hx hb dX1_fitsNotes_51 hl (by decide) rfl (fun ls hl => ?_)
        refine lv_aload_n hx hb dX1_fitsNotes_53 rfl (lv_at hl 2 rfl) ?_
        refine lv_iload_n hx hb dX1_fitsNotes_54 rfl (lv_at hl 3 rfl) ?_
        refine lv_aload_n hx hb dX1_fitsNotes_55 rfl (lv_at hl 2 rfl) ?_
        refine mx_get (ci := 1) (C := RX1) (T := TX1) (N := 15) hx hb hown in_wsX10 hts hK hP 0 rfl rfl 6 (by decide) q_70 rfl (v := .ref a_c_noteRow) rfl dX1_fitsNotes_56 ?_
        refine lv_iload hx hb dX1_fitsNotes_59 (lv_at hl 1 rfl) ?_
        refine lv_iconst (v := 1) hx hb dX1_fitsNotes_61 (by decide) ?_
        refine lv_iadd hx hb dX1_fitsNotes_62 ?_
        obtain ⟨h_8, hw⟩ := hw
        refine mx_iald hx hb hK hP 1 0 rfl rfl h_8 (noteRow (x_2 + 1).toNatClampNeg) rfl dX1_fitsNotes_63 ?_
        refine lv_aload_n hx hb dX1_fitsNotes_64 rfl (lv_at hl 2 rfl) ?_
        refine mx_get (ci := 1) (C := RX1) (T := TX1) (N := 15) hx hb hown in_wsX10 hts hK hP 0 rfl rfl 6 (by decide) q_70 rfl (v := .ref a_c_noteRow) rfl dX1_fitsNotes_65 ?_
        refine lv_iload hx hb dX1_fitsNotes_68 (lv_at hl 1 rfl) ?_
        refine lv_iconst (v := 2) hx hb dX1_fitsNotes_70 (by decide) ?_
        refine lv_iadd hx hb dX1_fitsNotes_71 ?_
        obtain ⟨h_9, hw⟩ := hw
        refine mx_iald hx hb hK hP 1 0 rfl rfl h_9 (noteRow (x_2 + 2).toNatClampNeg) rfl dX1_fitsNotes_72 ?_
        refine mx_ki (mx_rV (rm := rm_X1_manner) (rest := []) (C := RX1) hx hb hml hown hts (c_X1_manner l D cI cB cZ cP cC a_c a_c_kind a_c_months a_c_home a_c_nurse a_c_skills a_c_noteRow a_c_soundRow a_c_pastRow a_K a_k0 a_k1 a_k2 a_k3 a_k4 a_k5 infants retired month notes sounds pasts v1 (noteRow (x_2 + 1).toNatClampNeg) (noteRow (x_2 + 2).toNatClampNeg) _ _ hw) q_807 q_808 q_809 q_32 q_810 hd_X1_manner ⟨(Nat.le_of_ble_eq_true rfl), (Nat.le_of_ble_eq_true rfl)⟩ rfl rfl hK hP hD [0, 2, 3, 4, 5, 6, 7, 8] rfl rfl 1 0 rfl rfl rfl rfl hl.1 rfl (Nat.le_of_ble_eq_true rfl) dX1_fitsNotes_73 ⟨(Nat.le_of_ble_eq_true rfl), (Nat.le_of_ble_eq_true rfl)⟩) hP hD hS hA [0, 2, 3, 4, 5, 6, 7, 8] [1] [1, 0, 2, 3, 4, 5, 6, 7, 8] (fun _ => ww_X1_fitsNotes a_c a_c_kind a_c_months a_c_home a_c_nurse a_c_skills a_c_noteRow a_c_soundRow a_c_pastRow a_K a_k0 a_k1 a_k2 a_k3 a_k4 a_k5 cI cB cZ cP cC infants retired month notes sounds pasts noteRow) rfl rfl rfl (by decide) rfl (fun _ => rfl) (fun r_10 u H locs hw hP hD hS => ?_)
        try dsimp only at hw
        replace hP : va_P D vwCl (ww_X1_fitsNotes a_c a_c_kind a_c_months a_c_home a_c_nurse a_c_skills a_c_noteRow a_c_soundRow a_c_pastRow a_K a_k0 a_k1 a_k2 a_k3 a_k4 a_k5 cI cB cZ cP cC infants retired month notes sounds pasts noteRow) H := hP
        replace hD : va_D A (ww_X1_fitsNotes a_c a_c_kind a_c_months a_c_home a_c_nurse a_c_skills a_c_noteRow a_c_soundRow a_c_pastRow a_K a_k0 a_k1 a_k2 a_k3 a_k4 a_k5 cI cB cZ cP cC infants retired month notes sounds pasts noteRow) := hD
        refine lv_iload hx hb dX1_fitsNotes_76 (lv_at hl 0 rfl) ?_
        refine lv_icmp_eq (tgt := 83) hx hb dX1_fitsNotes_78 (by decide) (fun c_11 => ?_) (fun c_11 => ?_)
        · replace hw := hw.1 c_11
          refine k_X1_fitsNotes_J83 C0 ?_ v1 v2 v3 _ _ _ hP hD hS (lv_sub hl [2, 3, 4, 5] rfl) hw
          intro v1_13 v2_14 v3_15 H locs ls hP hD hS hl hw
          exact ih v1_13 v2_14 v3_15 _ _ _ hP hD hS (lv_sub hl [0, 1, 2, 3] rfl) hw
        · replace hw := hw.2 c_11
          refine lv_iconst (v := 0) hx hb dX1_fitsNotes_81 (by decide) ?_
          exact mx_iret () hx hb hr hlocks rfl hw hK hP hD hS dX1_fitsNotes_82
      · replace hw := hw.2 c_4
        refine lv_goto (tgt := 83) hx hb dX1_fitsNotes_26 (by decide) ?_
        refine k_X1_fitsNotes_J83 C0 ?_ v1 v2 v3 _ _ _ hP hD hS (lv_sub hl [1, 2, 3, 4] rfl) hw
        intro v1_16 v2_17 v3_18 H locs ls hP hD hS hl hw
        exact ih v1_16 v2_17 v3_18 _ _ _ hP hD hS (lv_sub hl [0, 1, 2, 3] rfl) hw
def wp_X1_fitsNotes (notes : Int32) (noteRow : Nat → Int32) (v1 : Int32) (v2 : Int32) (Post : Int32 → Prop) : Prop :=
  (∃ k_19 : Nat, wp_X1_fitsNotes_L2 notes noteRow Post k_19 v1 v2 0)
set_option maxHeartbeats 4000000 in
set_option maxRecDepth 100000 in
theorem c_X1_fitsNotes (l : Launch) (D : va_G) (cI cB cZ cP cC : ClassId) (a_c a_c_kind a_c_months a_c_home a_c_nurse a_c_skills a_c_noteRow a_c_soundRow a_c_pastRow a_K a_k0 a_k1 a_k2 a_k3 a_k4 a_k5 : Nat) (infants : Int32) (retired : Int32) (month : Int32) (notes : Int32) (sounds : Int32) (pasts : Int32) (noteRow : Nat → Int32) (v1 : Int32) (v2 : Int32) (sz : Nat) (Post : Int32 → Prop) (hw : wp_X1_fitsNotes notes noteRow v1 v2 Post) :
    Met l yX1_fitsNotes (Cond.code yX1_fitsNotes cX1_fitsNotes 6 (some .boolean) :: wsAll) rm_X1_fitsNotes (va_Pc [.ref a_c, .int v1, .int v2] (mxP D (mxTy cI cB cZ cP cC) sz (ww_X1_fitsNotes a_c a_c_kind a_c_months a_c_home a_c_nurse a_c_skills a_c_noteRow a_c_soundRow a_c_pastRow a_K a_k0 a_k1 a_k2 a_k3 a_k4 a_k5 cI cB cZ cP cC infants retired month notes sounds pasts noteRow))) (qq_X1_fitsNotes D a_c a_c_kind a_c_months a_c_home a_c_nurse a_c_skills a_c_noteRow a_c_soundRow a_c_pastRow a_K a_k0 a_k1 a_k2 a_k3 a_k4 a_k5 cI cB cZ cP cC infants retired month notes sounds pasts noteRow Post (va_A (ww_X1_fitsNotes a_c a_c_kind a_c_months a_c_home a_c_nurse a_c_skills a_c_noteRow a_c_soundRow a_c_pastRow a_K a_k0 a_k1 a_k2 a_k3 a_k4 a_k5 cI cB cZ cP cC infants retired month notes sounds pasts noteRow) sz)) 0 0 (va_A (ww_X1_fitsNotes a_c a_c_kind a_c_months a_c_home a_c_nurse a_c_skills a_c_noteRow a_c_soundRow a_c_pastRow a_K a_k0 a_k1 a_k2 a_k3 a_k4 a_k5 cI cB cZ cP cC infants retired month notes sounds pasts noteRow) sz) := by
  refine mx_of (Qc := qq_X1_fitsNotes D a_c a_c_kind a_c_months a_c_home a_c_nurse a_c_skills a_c_noteRow a_c_soundRow a_c_pastRow a_K a_k0 a_k1 a_k2 a_k3 a_k4 a_k5 cI cB cZ cP cC infants retired month notes sounds pasts noteRow Post) (by decide) (Nat.le_of_ble_eq_true rfl) ?_
  intro p e s m bl meth c A ls C0 hP hD hS hl
  replace C0 : mxC p s m [.ref a_c, .int v1, .int v2].toArray meth c cX1_fitsNotes RX1 (some .boolean) 6 D (mxTy cI cB cZ cP cC) A := C0
  obtain ⟨hx, hb, hr, hlocks, hml, hown, hts, hK, hA⟩ := id C0
  replace hl : lv_has ls 6 [(0, .ref a_c), (1, .int v1), (2, .int v2)] := hl
  unfold wp_X1_fitsNotes at hw
  refine lv_iconst (v := 0) hx hb dX1_fitsNotes_0 (by decide) ?_
  refine lv_istore_n (lv' := [(3, .int 0), (0, .ref a_c), (1, .int v1), (2, .int v2)]) hx hb dX1_fitsNotes_1 rfl hl (by decide) rfl (fun ls hl => ?_)
  obtain ⟨n0, hw⟩ := hw
  refine k_X1_fitsNotes_L2 C0  n0 v1 v2 0 _ _ _ hP hD hS (lv_sub hl [1, 2, 3, 0] rfl) hw
/-! PramState$Court.kindsThatFit(I)I -/
abbrev ww_X1_kindsThatFit (a_c a_c_kind a_c_months a_c_home a_c_nurse a_c_skills a_c_noteRow a_c_soundRow a_c_pastRow a_K a_k0 a_k1 a_k2 a_k3 a_k4 a_k5 : Nat) (cI cB cZ cP cC : ClassId) (infants : Int32) (retired : Int32) (month : Int32) (notes : Int32) (sounds : Int32) (pasts : Int32) (noteRow : Nat → Int32) : va_W := [(a_c, .inr (1, [.ref a_K, .ref a_c_kind, .ref a_c_months, .ref a_c_home, .ref a_c_nurse, .ref a_c_skills, .ref a_c_noteRow, .ref a_c_soundRow, .ref a_c_pastRow, .int infants, .int retired, .int month, .int notes, .int sounds, .int pasts])), (a_c_noteRow, .inl (cI, 30, .inl noteRow)), (a_K, .inl (cP, 6, .inr (.inr (.inr (.inr (mx_kf a_k0 a_k1 a_k2 a_k3 a_k4 a_k5)))))), (a_k0, .inr (6, [])), (a_k1, .inr (8, [])), (a_k2, .inr (7, [])), (a_k3, .inr (3, [])), (a_k4, .inr (4, [])), (a_k5, .inr (0, []))]
abbrev qq_X1_kindsThatFit (D : va_G) (a_c a_c_kind a_c_months a_c_home a_c_nurse a_c_skills a_c_noteRow a_c_soundRow a_c_pastRow a_K a_k0 a_k1 a_k2 a_k3 a_k4 a_k5 : Nat) (cI cB cZ cP cC : ClassId) (infants : Int32) (retired : Int32) (month : Int32) (notes : Int32) (sounds : Int32) (pasts : Int32) (noteRow : Nat → Int32) (Post : Int32 → Prop) (A : Nat → Prop) : Array Value → State → Outcome → State → Prop := va_Qi (fun (r : Int32) (u : Unit) => Post r) (fun (u : Unit) t => mxB D (mxTy cI cB cZ cP cC) A (ww_X1_kindsThatFit a_c a_c_kind a_c_months a_c_home a_c_nurse a_c_skills a_c_noteRow a_c_soundRow a_c_pastRow a_K a_k0 a_k1 a_k2 a_k3 a_k4 a_k5 cI cB cZ cP cC infants retired month notes sounds pasts noteRow) t) A
abbrev rm_X1_kindsThatFit : Room := { frames := 5, cells := 0, slots := 0, locals := 111 }
theorem hd_X1_kindsThatFit : yX1_kindsThatFit.cls = RX1 ∧ yX1_kindsThatFit.cls ≠ "java/lang/invoke/MethodHandle" ∧ yX1_kindsThatFit.cls ≠ "java/lang/invoke/VarHandle" ∧ (parseMethodDescriptor yX1_kindsThatFit.desc).map (fun d => d.parameters.length) = some 1 := by decide +kernel
def wp_X1_kindsThatFit_J25 (notes : Int32) (noteRow : Nat → Int32) (Post : Int32 → Prop) (K_4 : Int32 → Int32 → Int32 → Prop) (v1 : Int32) (v2 : Int32) (v3 : Int32) : Prop :=
  (∀ x_4 : Int32, x_4 = v3 + 1 → K_4 v1 v2 x_4)
set_option maxHeartbeats 4000000 in
set_option maxRecDepth 100000 in
theorem k_X1_kindsThatFit_J25 {p : Program} {l : Launch} {e : Env} {s : State} {m : MethodId} {ar : Array Value} {bl : List Frame} {meth : Method} {c : Code} {D : va_G} {A : Nat → Prop} {cI cB cZ cP cC : ClassId} {a_c a_c_kind a_c_months a_c_home a_c_nurse a_c_skills a_c_noteRow a_c_soundRow a_c_pastRow a_K a_k0 a_k1 a_k2 a_k3 a_k4 a_k5 : Nat} {infants : Int32} {retired : Int32} {month : Int32} {notes : Int32} {sounds : Int32} {pasts : Int32} {noteRow : Nat → Int32} {Post : Int32 → Prop} {K_4 : Int32 → Int32 → Int32 → Prop} (C0 : mxC p s m ar meth c cX1_kindsThatFit RX1 (some .int) 4 D (mxTy cI cB cZ cP cC) A)
    (hK_4 : ∀ (v1 : Int32) (v2 : Int32) (v3 : Int32) (H : Heap) (locs : List Loc) (ls : Array Slot), va_P D vwCl (ww_X1_kindsThatFit a_c a_c_kind a_c_months a_c_home a_c_nurse a_c_skills a_c_noteRow a_c_soundRow a_c_pastRow a_K a_k0 a_k1 a_k2 a_k3 a_k4 a_k5 cI cB cZ cP cC infants retired month notes sounds pasts noteRow) H → va_D A (ww_X1_kindsThatFit a_c a_c_kind a_c_months a_c_home a_c_nurse a_c_skills a_c_noteRow a_c_soundRow a_c_pastRow a_K a_k0 a_k1 a_k2 a_k3 a_k4 a_k5 cI cB cZ cP cC infants retired month notes sounds pasts noteRow) → va_S A s.heap H locs → lv_has ls 4 [(0, .ref a_c), (1, .int v1), (2, .int v2), (3, .int v3)] → K_4 v1 v2 v3 → W p l e rm_X1_kindsThatFit s m ar bl meth c H locs 0 0 (MQ bl (qq_X1_kindsThatFit D a_c a_c_kind a_c_months a_c_home a_c_nurse a_c_skills a_c_noteRow a_c_soundRow a_c_pastRow a_K a_k0 a_k1 a_k2 a_k3 a_k4 a_k5 cI cB cZ cP cC infants retired month notes sounds pasts noteRow Post A) ar s 0 0 A) (F0 m 4 ls [])) :
    ∀ (v1 : Int32) (v2 : Int32) (v3 : Int32) (H : Heap) (locs : List Loc) (ls : Array Slot), va_P D vwCl (ww_X1_kindsThatFit a_c a_c_kind a_c_months a_c_home a_c_nurse a_c_skills a_c_noteRow a_c_soundRow a_c_pastRow a_K a_k0 a_k1 a_k2 a_k3 a_k4 a_k5 cI cB cZ cP cC infants retired month notes sounds pasts noteRow) H → va_D A (ww_X1_kindsThatFit a_c a_c_kind a_c_months a_c_home a_c_nurse a_c_skills a_c_noteRow a_c_soundRow a_c_pastRow a_K a_k0 a_k1 a_k2 a_k3 a_k4 a_k5 cI cB cZ cP cC infants retired month notes sounds pasts noteRow) → va_S A s.heap H locs → lv_has ls 4 [(0, .ref a_c), (1, .int v1), (2, .int v2), (3, .int v3)] → wp_X1_kindsThatFit_J25 notes noteRow Post K_4 v1 v2 v3 → W p l e rm_X1_kindsThatFit s m ar bl meth c H locs 0 0 (MQ bl (qq_X1_kindsThatFit D a_c a_c_kind a_c_months a_c_home a_c_nurse a_c_skills a_c_noteRow a_c_soundRow a_c_pastRow a_K a_k0 a_k1 a_k2 a_k3 a_k4 a_k5 cI cB cZ cP cC infants retired month notes sounds pasts noteRow Post A) ar s 0 0 A) (F0 m 25 ls []) := by
  obtain ⟨hx, hb, hr, hlocks, hml, hown, hts, hK, hA⟩ := id C0
  intro v1 v2 v3 H locs ls hP hD hS hl hw
  obtain ⟨x_4, ex_4⟩ : ∃ y : Int32, y = v3 + 1 := ⟨_, rfl⟩
  replace hw := hw x_4 ex_4
  refine lv_iinc (v := x_4) (lv' := [(3, .int x_4), (0, .ref a_c), (1, .int v1), (2, .int v2)]) hx hb dX1_kindsThatFit_25 hl (k := 3) rfl (by rw [ex_4]; rfl) (by decide) rfl (fun ls hl => ?_)
  refine lv_goto (tgt := 4) hx hb dX1_kindsThatFit_28 (by decide) ?_
  exact hK_4 v1 v2 x_4 _ _ _ hP hD hS (lv_sub hl [1, 2, 3, 0] rfl) hw
def wp_X1_kindsThatFit_L4 (notes : Int32) (noteRow : Nat → Int32) (Post : Int32 → Prop)  : Nat → Int32 → Int32 → Int32 → Prop
  | 0, _, _, _ => False
  | n + 1, v1, v2, v3 => ((6 ≤ v3 → Post v2) ∧ (¬ 6 ≤ v3 → (wp_X1_fitsNotes notes noteRow v3 v1 (fun r_2 => ((r_2 = 0 → (wp_X1_kindsThatFit_J25 notes noteRow Post (fun (v1_5 : Int32) (v2_6 : Int32) (v3_7 : Int32) => wp_X1_kindsThatFit_L4 notes noteRow Post  n v1_5 v2_6 v3_7) v1 v2 v3)) ∧ (¬ r_2 = 0 → (∀ x_8 : Int32, x_8 = v2 ||| (1 <<< (v3 &&& 31)) → (wp_X1_kindsThatFit_J25 notes noteRow Post (fun (v1_9 : Int32) (v2_10 : Int32) (v3_11 : Int32) => wp_X1_kindsThatFit_L4 notes noteRow Post  n v1_9 v2_10 v3_11) v1 x_8 v3))))))))
set_option maxHeartbeats 4000000 in
set_option maxRecDepth 100000 in
theorem k_X1_kindsThatFit_L4 {p : Program} {l : Launch} {e : Env} {s : State} {m : MethodId} {ar : Array Value} {bl : List Frame} {meth : Method} {c : Code} {D : va_G} {A : Nat → Prop} {cI cB cZ cP cC : ClassId} {a_c a_c_kind a_c_months a_c_home a_c_nurse a_c_skills a_c_noteRow a_c_soundRow a_c_pastRow a_K a_k0 a_k1 a_k2 a_k3 a_k4 a_k5 : Nat} {infants : Int32} {retired : Int32} {month : Int32} {notes : Int32} {sounds : Int32} {pasts : Int32} {noteRow : Nat → Int32} {Post : Int32 → Prop} (C0 : mxC p s m ar meth c cX1_kindsThatFit RX1 (some .int) 4 D (mxTy cI cB cZ cP cC) A) :
    ∀ (n : Nat) (v1 : Int32) (v2 : Int32) (v3 : Int32) (H : Heap) (locs : List Loc) (ls : Array Slot), va_P D vwCl (ww_X1_kindsThatFit a_c a_c_kind a_c_months a_c_home a_c_nurse a_c_skills a_c_noteRow a_c_soundRow a_c_pastRow a_K a_k0 a_k1 a_k2 a_k3 a_k4 a_k5 cI cB cZ cP cC infants retired month notes sounds pasts noteRow) H → va_D A (ww_X1_kindsThatFit a_c a_c_kind a_c_months a_c_home a_c_nurse a_c_skills a_c_noteRow a_c_soundRow a_c_pastRow a_K a_k0 a_k1 a_k2 a_k3 a_k4 a_k5 cI cB cZ cP cC infants retired month notes sounds pasts noteRow) → va_S A s.heap H locs → lv_has ls 4 [(0, .ref a_c), (1, .int v1), (2, .int v2), (3, .int v3)] → wp_X1_kindsThatFit_L4 notes noteRow Post  n v1 v2 v3 → W p l e rm_X1_kindsThatFit s m ar bl meth c H locs 0 0 (MQ bl (qq_X1_kindsThatFit D a_c a_c_kind a_c_months a_c_home a_c_nurse a_c_skills a_c_noteRow a_c_soundRow a_c_pastRow a_K a_k0 a_k1 a_k2 a_k3 a_k4 a_k5 cI cB cZ cP cC infants retired month notes sounds pasts noteRow Post A) ar s 0 0 A) (F0 m 4 ls []) := by
  obtain ⟨hx, hb, hr, hlocks, hml, hown, hts, hK, hA⟩ := id C0
  intro n
  induction n with
  | zero =>
    intro v1 v2 v3 H locs ls hP hD hS hl hw
    exact absurd hw (fun h => h)
  | succ n ih =>
    intro v1 v2 v3 H locs ls hP hD hS hl hw
    refine lv_iload_n hx hb dX1_kindsThatFit_4 rfl (lv_at hl 3 rfl) ?_
    refine lv_bipush (v := 6) hx hb dX1_kindsThatFit_5 (by decide) ?_
    refine lv_icmp_ge (tgt := 31) hx hb dX1_kindsThatFit_7 (by decide) (fun c_1 => ?_) (fun c_1 => ?_)
    · replace hw := hw.1 c_1
      refine lv_iload_n hx hb dX1_kindsThatFit_31 rfl (lv_at hl 2 rfl) ?_
      exact mx_iret () hx hb hr hlocks rfl hw hK hP hD hS dX1_kindsThatFit_32
    · replace hw := hw.2 c_1
      refine lv_aload_n hx hb dX1_kindsThatFit_10 rfl (lv_at hl 0 rfl) ?_
      refine lv_iload_n hx hb dX1_kindsThatFit_11 rfl (lv_at hl 3 rfl) ?_
      refine lv_iload_n hx hb dX1_kindsThatFit_12 rfl (lv_at hl 1 rfl) ?_
      refine mx_ki (mx_rV (rm := rm_X1_fitsNotes) (rest := []) (C := RX1) hx hb hml hown hts (c_X1_fitsNotes l D cI cB cZ cP cC a_c a_c_kind a_c_months a_c_home a_c_nurse a_c_skills a_c_noteRow a_c_soundRow a_c_pastRow a_K a_k0 a_k1 a_k2 a_k3 a_k4 a_k5 infants retired month notes sounds pasts noteRow v3 v1 _ _ hw) q_803 q_804 q_805 q_32 q_806 hd_X1_fitsNotes ⟨(Nat.le_of_ble_eq_true rfl), (Nat.le_of_ble_eq_true rfl)⟩ rfl rfl hK hP hD [0, 1, 2, 3, 4, 5, 6, 7, 8] rfl rfl 1 0 rfl rfl rfl rfl hl.1 rfl (Nat.le_of_ble_eq_true rfl) dX1_kindsThatFit_13 ⟨(Nat.le_of_ble_eq_true rfl), (Nat.le_of_ble_eq_true rfl)⟩) hP hD hS hA [0, 1, 2, 3, 4, 5, 6, 7, 8] [] [0, 1, 2, 3, 4, 5, 6, 7, 8] (fun _ => ww_X1_kindsThatFit a_c a_c_kind a_c_months a_c_home a_c_nurse a_c_skills a_c_noteRow a_c_soundRow a_c_pastRow a_K a_k0 a_k1 a_k2 a_k3 a_k4 a_k5 cI cB cZ cP cC infants retired month notes sounds pasts noteRow) rfl rfl rfl (by decide) rfl (fun _ => rfl) (fun r_2 u H locs hw hP hD hS => ?_)
      try dsimp only at hw
      replace hP : va_P D vwCl (ww_X1_kindsThatFit a_c a_c_kind a_c_months a_c_home a_c_nurse a_c_skills a_c_noteRow a_c_soundRow a_c_pastRow a_K a_k0 a_k1 a_k2 a_k3 a_k4 a_k5 cI cB cZ cP cC infants retired month notes sounds pasts noteRow) H := hP
      replace hD : va_D A (ww_X1_kindsThatFit a_c a_c_kind a_c_months a_c_home a_c_nurse a_c_skills a_c_noteRow a_c_soundRow a_c_pastRow a_K a_k0 a_k1 a_k2 a_k3 a_k4 a_k5 cI cB cZ cP cC infants retired month notes sounds pasts noteRow) := hD
      refine lv_if_eq (tgt := 25) hx hb dX1_kindsThatFit_16 (by decide) (fun c_3 => ?_) (fun c_3 => ?_)
      · replace hw := hw.1 c_3
        refine k_X1_kindsThatFit_J25 C0 ?_ v1 v2 v3 _ _ _ hP hD hS (lv_sub hl [0, 1, 2, 3] rfl) hw
        intro v1_5 v2_6 v3_7 H locs ls hP hD hS hl hw
        exact ih v1_5 v2_6 v3_7 _ _ _ hP hD hS (lv_sub hl [0, 1, 2, 3] rfl) hw
      · replace hw := hw.2 c_3
        refine lv_iload_n hx hb dX1_kindsThatFit_19 rfl (lv_at hl 2 rfl) ?_
        refine lv_iconst (v := 1) hx hb dX1_kindsThatFit_20 (by decide) ?_
        refine lv_iload_n hx hb dX1_kindsThatFit_21 rfl (lv_at hl 3 rfl) ?_
        refine lv_ishl hx hb dX1_kindsThatFit_22 ?_
        refine lv_ior hx hb dX1_kindsThatFit_23 ?_
        refine lv_topi (fun x_8 ex_8 => ?_)
        replace hw := hw x_8 ex_8
        refine lv_istore_n (lv' := [(2, .int x_8), (0, .ref a_c), (1, .int v1), (3, .int v3)]) hx hb dX1_kindsThatFit_24 rfl hl (by decide) rfl (fun ls hl => ?_)
        refine k_X1_kindsThatFit_J25 C0 ?_ v1 x_8 v3 _ _ _ hP hD hS (lv_sub hl [1, 2, 0, 3] rfl) hw
        intro v1_9 v2_10 v3_11 H locs ls hP hD hS hl hw
        exact ih v1_9 v2_10 v3_11 _ _ _ hP hD hS (lv_sub hl [0, 1, 2, 3] rfl) hw
def wp_X1_kindsThatFit (notes : Int32) (noteRow : Nat → Int32) (v1 : Int32) (Post : Int32 → Prop) : Prop :=
  (∃ k_12 : Nat, wp_X1_kindsThatFit_L4 notes noteRow Post k_12 v1 0 0)
set_option maxHeartbeats 4000000 in
set_option maxRecDepth 100000 in
theorem c_X1_kindsThatFit (l : Launch) (D : va_G) (cI cB cZ cP cC : ClassId) (a_c a_c_kind a_c_months a_c_home a_c_nurse a_c_skills a_c_noteRow a_c_soundRow a_c_pastRow a_K a_k0 a_k1 a_k2 a_k3 a_k4 a_k5 : Nat) (infants : Int32) (retired : Int32) (month : Int32) (notes : Int32) (sounds : Int32) (pasts : Int32) (noteRow : Nat → Int32) (v1 : Int32) (sz : Nat) (Post : Int32 → Prop) (hw : wp_X1_kindsThatFit notes noteRow v1 Post) :
    Met l yX1_kindsThatFit (Cond.code yX1_kindsThatFit cX1_kindsThatFit 4 (some .int) :: wsAll) rm_X1_kindsThatFit (va_Pc [.ref a_c, .int v1] (mxP D (mxTy cI cB cZ cP cC) sz (ww_X1_kindsThatFit a_c a_c_kind a_c_months a_c_home a_c_nurse a_c_skills a_c_noteRow a_c_soundRow a_c_pastRow a_K a_k0 a_k1 a_k2 a_k3 a_k4 a_k5 cI cB cZ cP cC infants retired month notes sounds pasts noteRow))) (qq_X1_kindsThatFit D a_c a_c_kind a_c_months a_c_home a_c_nurse a_c_skills a_c_noteRow a_c_soundRow a_c_pastRow a_K a_k0 a_k1 a_k2 a_k3 a_k4 a_k5 cI cB cZ cP cC infants retired month notes sounds pasts noteRow Post (va_A (ww_X1_kindsThatFit a_c a_c_kind a_c_months a_c_home a_c_nurse a_c_skills a_c_noteRow a_c_soundRow a_c_pastRow a_K a_k0 a_k1 a_k2 a_k3 a_k4 a_k5 cI cB cZ cP cC infants retired month notes sounds pasts noteRow) sz)) 0 0 (va_A (ww_X1_kindsThatFit a_c a_c_kind a_c_months a_c_home a_c_nurse a_c_skills a_c_noteRow a_c_soundRow a_c_pastRow a_K a_k0 a_k1 a_k2 a_k3 a_k4 a_k5 cI cB cZ cP cC infants retired month notes sounds pasts noteRow) sz) := by
  refine mx_of (Qc := qq_X1_kindsThatFit D a_c a_c_kind a_c_months a_c_home a_c_nurse a_c_skills a_c_noteRow a_c_soundRow a_c_pastRow a_K a_k0 a_k1 a_k2 a_k3 a_k4 a_k5 cI cB cZ cP cC infants retired month notes sounds pasts noteRow Post) (by decide) (Nat.le_of_ble_eq_true rfl) ?_
  intro p e s m bl meth c A ls C0 hP hD hS hl
  replace C0 : mxC p s m [.ref a_c, .int v1].toArray meth c cX1_kindsThatFit RX1 (some .int) 4 D (mxTy cI cB cZ cP cC) A := C0
  obtain ⟨hx, hb, hr, hlocks, hml, hown, hts, hK, hA⟩ := id C0
  replace hl : lv_has ls 4 [(0, .ref a_c), (1, .int v1)] := hl
  unfold wp_X1_kindsThatFit at hw
  refine lv_iconst (v := 0) hx hb dX1_kindsThatFit_0 (by decide) ?_
  refine lv_istore_n (lv' := [(2, .int 0), (0, .ref a_c), (1, .int v1)]) hx hb dX1_kindsThatFit_1 rfl hl (by decide) rfl (fun ls hl => ?_)
  refine lv_iconst (v := 0) hx hb dX1_kindsThatFit_2 (by decide) ?_
  refine lv_istore_n (lv' := [(3, .int 0), (2, .int 0), (0, .ref a_c), (1, .int v1)]) hx hb dX1_kindsThatFit_3 rfl hl (by decide) rfl (fun ls hl => ?_)
  obtain ⟨n0, hw⟩ := hw
  refine k_X1_kindsThatFit_L4 C0  n0 v1 0 0 _ _ _ hP hD hS (lv_sub hl [2, 3, 1, 0] rfl) hw
/-! PramState$Court.mostAlike(III)I -/
abbrev ww_X1_mostAlike (a_c a_c_kind a_c_months a_c_home a_c_nurse a_c_skills a_c_noteRow a_c_soundRow a_c_pastRow a_K a_k0 a_k1 a_k2 a_k3 a_k4 a_k5 : Nat) (cI cB cZ cP cC : ClassId) (infants : Int32) (retired : Int32) (month : Int32) (notes : Int32) (sounds : Int32) (pasts : Int32) : va_W := [(a_c, .inr (1, [.ref a_K, .ref a_c_kind, .ref a_c_months, .ref a_c_home, .ref a_c_nurse, .ref a_c_skills, .ref a_c_noteRow, .ref a_c_soundRow, .ref a_c_pastRow, .int infants, .int retired, .int month, .int notes, .int sounds, .int pasts])), (a_K, .inl (cP, 6, .inr (.inr (.inr (.inr (mx_kf a_k0 a_k1 a_k2 a_k3 a_k4 a_k5)))))), (a_k0, .inr (6, [])), (a_k1, .inr (8, [])), (a_k2, .inr (7, [])), (a_k3, .inr (3, [])), (a_k4, .inr (4, [])), (a_k5, .inr (0, []))]
abbrev qq_X1_mostAlike (D : va_G) (a_c a_c_kind a_c_months a_c_home a_c_nurse a_c_skills a_c_noteRow a_c_soundRow a_c_pastRow a_K a_k0 a_k1 a_k2 a_k3 a_k4 a_k5 : Nat) (cI cB cZ cP cC : ClassId) (infants : Int32) (retired : Int32) (month : Int32) (notes : Int32) (sounds : Int32) (pasts : Int32) (Post : Int32 → Prop) (A : Nat → Prop) : Array Value → State → Outcome → State → Prop := va_Qi (fun (r : Int32) (u : Unit) => Post r) (fun (u : Unit) t => mxB D (mxTy cI cB cZ cP cC) A (ww_X1_mostAlike a_c a_c_kind a_c_months a_c_home a_c_nurse a_c_skills a_c_noteRow a_c_soundRow a_c_pastRow a_K a_k0 a_k1 a_k2 a_k3 a_k4 a_k5 cI cB cZ cP cC infants retired month notes sounds pasts) t) A
abbrev rm_X1_mostAlike : Room := { frames := 4, cells := 0, slots := 0, locals := 86 }
theorem hd_X1_mostAlike : yX1_mostAlike.cls = RX1 ∧ yX1_mostAlike.cls ≠ "java/lang/invoke/MethodHandle" ∧ yX1_mostAlike.cls ≠ "java/lang/invoke/VarHandle" ∧ (parseMethodDescriptor yX1_mostAlike.desc).map (fun d => d.parameters.length) = some 3 := by decide +kernel
def wp_X1_mostAlike_J70  (Post : Int32 → Prop) (K_31 : Int32 → Int32 → Int32 → Int32 → Int32 → Int32 → Int32 → Prop) (v1 : Int32) (v2 : Int32) (v3 : Int32) (v4 : Int32) (v5 : Int32) (v6 : Int32) (v7 : Int32) : Prop :=
  (∀ x_5 : Int32, x_5 = v7 + 1 → K_31 v1 v2 v3 v4 v5 v6 x_5)
set_option maxHeartbeats 4000000 in
set_option maxRecDepth 100000 in
theorem k_X1_mostAlike_J70 {p : Program} {l : Launch} {e : Env} {s : State} {m : MethodId} {ar : Array Value} {bl : List Frame} {meth : Method} {c : Code} {D : va_G} {A : Nat → Prop} {cI cB cZ cP cC : ClassId} {a_c a_c_kind a_c_months a_c_home a_c_nurse a_c_skills a_c_noteRow a_c_soundRow a_c_pastRow a_K a_k0 a_k1 a_k2 a_k3 a_k4 a_k5 : Nat} {infants : Int32} {retired : Int32} {month : Int32} {notes : Int32} {sounds : Int32} {pasts : Int32} {Post : Int32 → Prop} {K_31 : Int32 → Int32 → Int32 → Int32 → Int32 → Int32 → Int32 → Prop} (C0 : mxC p s m ar meth c cX1_mostAlike RX1 (some .int) 8 D (mxTy cI cB cZ cP cC) A)
    (hK_31 : ∀ (v1 : Int32) (v2 : Int32) (v3 : Int32) (v4 : Int32) (v5 : Int32) (v6 : Int32) (v7 : Int32) (H : Heap) (locs : List Loc) (ls : Array Slot), va_P D vwCl (ww_X1_mostAlike a_c a_c_kind a_c_months a_c_home a_c_nurse a_c_skills a_c_noteRow a_c_soundRow a_c_pastRow a_K a_k0 a_k1 a_k2 a_k3 a_k4 a_k5 cI cB cZ cP cC infants retired month notes sounds pasts) H → va_D A (ww_X1_mostAlike a_c a_c_kind a_c_months a_c_home a_c_nurse a_c_skills a_c_noteRow a_c_soundRow a_c_pastRow a_K a_k0 a_k1 a_k2 a_k3 a_k4 a_k5 cI cB cZ cP cC infants retired month notes sounds pasts) → va_S A s.heap H locs → lv_has ls 8 [(0, .ref a_c), (1, .int v1), (2, .int v2), (3, .int v3), (4, .int v4), (5, .int v5), (6, .int v6), (7, .int v7)] → K_31 v1 v2 v3 v4 v5 v6 v7 → W p l e rm_X1_mostAlike s m ar bl meth c H locs 0 0 (MQ bl (qq_X1_mostAlike D a_c a_c_kind a_c_months a_c_home a_c_nurse a_c_skills a_c_noteRow a_c_soundRow a_c_pastRow a_K a_k0 a_k1 a_k2 a_k3 a_k4 a_k5 cI cB cZ cP cC infants retired month notes sounds pasts Post A) ar s 0 0 A) (F0 m 31 ls [])) :
    ∀ (v1 : Int32) (v2 : Int32) (v3 : Int32) (v4 : Int32) (v5 : Int32) (v6 : Int32) (v7 : Int32) (H : Heap) (locs : List Loc) (ls : Array Slot), va_P D vwCl (ww_X1_mostAlike a_c a_c_kind a_c_months a_c_home a_c_nurse a_c_skills a_c_noteRow a_c_soundRow a_c_pastRow a_K a_k0 a_k1 a_k2 a_k3 a_k4 a_k5 cI cB cZ cP cC infants retired month notes sounds pasts) H → va_D A (ww_X1_mostAlike a_c a_c_kind a_c_months a_c_home a_c_nurse a_c_skills a_c_noteRow a_c_soundRow a_c_pastRow a_K a_k0 a_k1 a_k2 a_k3 a_k4 a_k5 cI cB cZ cP cC infants retired month notes sounds pasts) → va_S A s.heap H locs → lv_has ls 8 [(0, .ref a_c), (1, .int v1), (2, .int v2), (3, .int v3), (4, .int v4), (5, .int v5), (6, .int v6), (7, .int v7)] → wp_X1_mostAlike_J70 Post K_31 v1 v2 v3 v4 v5 v6 v7 → W p l e rm_X1_mostAlike s m ar bl meth c H locs 0 0 (MQ bl (qq_X1_mostAlike D a_c a_c_kind a_c_months a_c_home a_c_nurse a_c_skills a_c_noteRow a_c_soundRow a_c_pastRow a_K a_k0 a_k1 a_k2 a_k3 a_k4 a_k5 cI cB cZ cP cC infants retired month notes sounds pasts Post A) ar s 0 0 A) (F0 m 70 ls []) := by
  obtain ⟨hx, hb, hr, hlocks, hml, hown, hts, hK, hA⟩ := id C0
  intro v1 v2 v3 v4 v5 v6 v7 H locs ls hP hD hS hl hw
  obtain ⟨x_5, ex_5⟩ : ∃ y : Int32, y = v7 + 1 := ⟨_, rfl⟩
  replace hw := hw x_5 ex_5
  refine lv_iinc (v := x_5) (lv' := [(7, .int x_5), (0, .ref a_c), (1, .int v1), (2, .int v2), (3, .int v3), (4, .int v4), (5, .int v5), (6, .int v6)]) hx hb dX1_mostAlike_70 hl (k := 7) rfl (by rw [ex_5]; rfl) (by decide) rfl (fun ls hl => ?_)
  refine lv_goto (tgt := 31) hx hb dX1_mostAlike_73 (by decide) ?_
  exact hK_31 v1 v2 v3 v4 v5 v6 x_5 _ _ _ hP hD hS (lv_sub hl [1, 2, 3, 4, 5, 6, 7, 0] rfl) hw
def wp_X1_mostAlike_L31  (Post : Int32 → Prop) (K_76 : Int32 → Int32 → Int32 → Int32 → Int32 → Int32 → Prop) : Nat → Int32 → Int32 → Int32 → Int32 → Int32 → Int32 → Int32 → Prop
  | 0, _, _, _, _, _, _, _ => False
  | n + 1, v1, v2, v3, v4, v5, v6, v7 => ((6 ≤ v7 → K_76 v1 v2 v3 v4 v5 v6) ∧ (¬ 6 ≤ v7 → ((((v1 >>> (v7 &&& 31)) &&& 1) = 1 → (wp_X1_manner v7 v2 v3 (fun r_13 => (wp_X1_manner v5 v2 v3 (fun r_14 => ((r_13 = r_14 → (∀ x_23 : Int32, x_23 = v6 + 1 → (wp_X1_mostAlike_J70 Post (fun (v1_24 : Int32) (v2_25 : Int32) (v3_26 : Int32) (v4_27 : Int32) (v5_28 : Int32) (v6_29 : Int32) (v7_30 : Int32) => wp_X1_mostAlike_L31 Post K_76 n v1_24 v2_25 v3_26 v4_27 v5_28 v6_29 v7_30) v1 v2 v3 v4 v5 x_23 v7))) ∧ (¬ r_13 = r_14 → (wp_X1_mostAlike_J70 Post (fun (v1_16 : Int32) (v2_17 : Int32) (v3_18 : Int32) (v4_19 : Int32) (v5_20 : Int32) (v6_21 : Int32) (v7_22 : Int32) => wp_X1_mostAlike_L31 Post K_76 n v1_16 v2_17 v3_18 v4_19 v5_20 v6_21 v7_22) v1 v2 v3 v4 v5 v6 v7)))))))) ∧ (¬ ((v1 >>> (v7 &&& 31)) &&& 1) = 1 → (wp_X1_mostAlike_J70 Post (fun (v1_6 : Int32) (v2_7 : Int32) (v3_8 : Int32) (v4_9 : Int32) (v5_10 : Int32) (v6_11 : Int32) (v7_12 : Int32) => wp_X1_mostAlike_L31 Post K_76 n v1_6 v2_7 v3_8 v4_9 v5_10 v6_11 v7_12) v1 v2 v3 v4 v5 v6 v7)))))
set_option maxHeartbeats 4000000 in
set_option maxRecDepth 100000 in
theorem k_X1_mostAlike_L31 {p : Program} {l : Launch} {e : Env} {s : State} {m : MethodId} {ar : Array Value} {bl : List Frame} {meth : Method} {c : Code} {D : va_G} {A : Nat → Prop} {cI cB cZ cP cC : ClassId} {a_c a_c_kind a_c_months a_c_home a_c_nurse a_c_skills a_c_noteRow a_c_soundRow a_c_pastRow a_K a_k0 a_k1 a_k2 a_k3 a_k4 a_k5 : Nat} {infants : Int32} {retired : Int32} {month : Int32} {notes : Int32} {sounds : Int32} {pasts : Int32} {Post : Int32 → Prop} {K_76 : Int32 → Int32 → Int32 → Int32 → Int32 → Int32 → Prop} (C0 : mxC p s m ar meth c cX1_mostAlike RX1 (some .int) 8 D (mxTy cI cB cZ cP cC) A)
    (hK_76 : ∀ (v1 : Int32) (v2 : Int32) (v3 : Int32) (v4 : Int32) (v5 : Int32) (v6 : Int32) (H : Heap) (locs : List Loc) (ls : Array Slot), va_P D vwCl (ww_X1_mostAlike a_c a_c_kind a_c_months a_c_home a_c_nurse a_c_skills a_c_noteRow a_c_soundRow a_c_pastRow a_K a_k0 a_k1 a_k2 a_k3 a_k4 a_k5 cI cB cZ cP cC infants retired month notes sounds pasts) H → va_D A (ww_X1_mostAlike a_c a_c_kind a_c_months a_c_home a_c_nurse a_c_skills a_c_noteRow a_c_soundRow a_c_pastRow a_K a_k0 a_k1 a_k2 a_k3 a_k4 a_k5 cI cB cZ cP cC infants retired month notes sounds pasts) → va_S A s.heap H locs → lv_has ls 8 [(0, .ref a_c), (1, .int v1), (2, .int v2), (3, .int v3), (4, .int v4), (5, .int v5), (6, .int v6)] → K_76 v1 v2 v3 v4 v5 v6 → W p l e rm_X1_mostAlike s m ar bl meth c H locs 0 0 (MQ bl (qq_X1_mostAlike D a_c a_c_kind a_c_months a_c_home a_c_nurse a_c_skills a_c_noteRow a_c_soundRow a_c_pastRow a_K a_k0 a_k1 a_k2 a_k3 a_k4 a_k5 cI cB cZ cP cC infants retired month notes sounds pasts Post A) ar s 0 0 A) (F0 m 76 ls [])) :
    ∀ (n : Nat) (v1 : Int32) (v2 : Int32) (v3 : Int32) (v4 : Int32) (v5 : Int32) (v6 : Int32) (v7 : Int32) (H : Heap) (locs : List Loc) (ls : Array Slot), va_P D vwCl (ww_X1_mostAlike a_c a_c_kind a_c_months a_c_home a_c_nurse a_c_skills a_c_noteRow a_c_soundRow a_c_pastRow a_K a_k0 a_k1 a_k2 a_k3 a_k4 a_k5 cI cB cZ cP cC infants retired month notes sounds pasts) H → va_D A (ww_X1_mostAlike a_c a_c_kind a_c_months a_c_home a_c_nurse a_c_skills a_c_noteRow a_c_soundRow a_c_pastRow a_K a_k0 a_k1 a_k2 a_k3 a_k4 a_k5 cI cB cZ cP cC infants retired month notes sounds pasts) → va_S A s.heap H locs → lv_has ls 8 [(0, .ref a_c), (1, .int v1), (2, .int v2), (3, .int v3), (4, .int v4), (5, .int v5), (6, .int v6), (7, .int v7)] → wp_X1_mostAlike_L31 Post K_76 n v1 v2 v3 v4 v5 v6 v7 → W p l e rm_X1_mostAlike s m ar bl meth c H locs 0 0 (MQ bl (qq_X1_mostAlike D a_c a_c_kind a_c_months a_c_home a_c_nurse a_c_skills a_c_noteRow a_c_soundRow a_c_pastRow a_K a_k0 a_k1 a_k2 a_k3 a_k4 a_k5 cI cB cZ cP cC infants retired month notes sounds pasts Post A) ar s 0 0 A) (F0 m 31 ls []) := by
  obtain ⟨hx, hb, hr, hlocks, hml, hown, hts, hK, hA⟩ := id C0
  intro n
  induction n with
  | zero =>
    intro v1 v2 v3 v4 v5 v6 v7 H locs ls hP hD hS hl hw
    exact absurd hw (fun h => h)
  | succ n ih =>
    intro v1 v2 v3 v4 v5 v6 v7 H locs ls hP hD hS hl hw
    refine lv_iload hx hb dX1_mostAlike_31 (lv_at hl 7 rfl) ?_
    refine lv_bipush (v := 6) hx hb dX1_mostAlike_33 (by decide) ?_
    refine lv_icmp_ge (tgt := 76) hx hb dX1_mostAlike_35 (by decide) (fun c_3 => ?_) (fun c_3 => ?_)
    · replace hw := hw.1 c_3
      exact hK_76 v1 v2 v3 v4 v5 v6 _ _ _ hP hD hS (lv_sub hl [0, 1, 2, 3, 4, 5, 6] rfl) hw
    · replace hw := hw.2 c_3
      refine lv_iload_n hx hb dX1_mostAlike_38 rfl (lv_at hl 1 rfl) ?_
      refine lv_iload hx hb dX1_mostAlike_39 (lv_at hl 7 rfl) ?_
      refine lv_ishr hx hb dX1_mostAlike_41 ?_
      refine lv_iconst (v := 1) hx hb dX1_mostAlike_42 (by decide) ?_
      refine lv_iand hx hb dX1_mostAlike_43 ?_
      refine lv_iconst (v := 1) hx hb dX1_mostAlike_44 (by decide) ?_
      refine lv_icmp_ne (tgt := 70) hx hb dX1_mostAlike_45 (by decide) (fun c_4 => ?_) (fun c_4 => ?_)
      · replace hw := hw.2 c_4
        refine k_X1_mostAlike_J70 C0 ?_ v1 v2 v3 v4 v5 v6 v7 _ _ _ hP hD hS (lv_sub hl [0, 1, 2, 3, 4, 5, 6, 7] rfl) hw
        intro v1_6 v2_7 v3_8 v4_9 v5_10 v6_11 v7_12 H locs ls hP hD hS hl hw
        exact ih v1_6 v2_7 v3_8 v4_9 v5_10 v6_11 v7_12 _ _ _ hP hD hS (lv_sub hl [0, 1, 2, 3, 4, 5, 6, 7] rfl) hw
      · replace hw := hw.1 c_4
        refine lv_aload_n hx hb dX1_mostAlike_48 rfl (lv_at hl 0 rfl) ?_
        refine lv_iload hx hb dX1_mostAlike_49 (lv_at hl 7 rfl) ?_
        refine lv_iload_n hx hb dX1_mostAlike_51 rfl (lv_at hl 2 rfl) ?_
        refine lv_iload_n hx hb dX1_mostAlike_52 rfl (lv_at hl 3 rfl) ?_
        refine mx_ki (mx_rV (rm := rm_X1_manner) (rest := []) (C := RX1) hx hb hml hown hts (c_X1_manner l D cI cB cZ cP cC a_c a_c_kind a_c_months a_c_home a_c_nurse a_c_skills a_c_noteRow a_c_soundRow a_c_pastRow a_K a_k0 a_k1 a_k2 a_k3 a_k4 a_k5 infants retired month notes sounds pasts v7 v2 v3 _ _ hw) q_807 q_808 q_809 q_32 q_810 hd_X1_manner ⟨(Nat.le_of_ble_eq_true rfl), (Nat.le_of_ble_eq_true rfl)⟩ rfl rfl hK hP hD [0, 1, 2, 3, 4, 5, 6, 7] rfl rfl 1 0 rfl rfl rfl rfl hl.1 rfl (Nat.le_of_ble_eq_true rfl) dX1_mostAlike_53 ⟨(Nat.le_of_ble_eq_true rfl), (Nat.le_of_ble_eq_true rfl)⟩) hP hD hS hA [0, 1, 2, 3, 4, 5, 6, 7] [] [0, 1, 2, 3, 4, 5, 6, 7] (fun _ => ww_X1_mostAlike a_c a_c_kind a_c_months a_c_home a_c_nurse a_c_skills a_c_noteRow a_c_soundRow a_c_pastRow a_K a_k0 a_k1 a_k2 a_k3 a_k4 a_k5 cI cB cZ cP cC infants retired month notes sounds pasts) rfl rfl rfl (by decide) rfl (fun _ => rfl) (fun r_13 u H locs hw hP hD hS => ?_)
        try dsimp only at hw
        replace hP : va_P D vwCl (ww_X1_mostAlike a_c a_c_kind a_c_months a_c_home a_c_nurse a_c_skills a_c_noteRow a_c_soundRow a_c_pastRow a_K a_k0 a_k1 a_k2 a_k3 a_k4 a_k5 cI cB cZ cP cC infants retired month notes sounds pasts) H := hP
        replace hD : va_D A (ww_X1_mostAlike a_c a_c_kind a_c_months a_c_home a_c_nurse a_c_skills a_c_noteRow a_c_soundRow a_c_pastRow a_K a_k0 a_k1 a_k2 a_k3 a_k4 a_k5 cI cB cZ cP cC infants retired month notes sounds pasts) := hD
        refine lv_aload_n hx hb dX1_mostAlike_56 rfl (lv_at hl 0 rfl) ?_
        refine lv_iload hx hb dX1_mostAlike_57 (lv_at hl 5 rfl) ?_
        refine lv_iload_n hx hb dX1_mostAlike_59 rfl (lv_at hl 2 rfl) ?_
        refine lv_iload_n hx hb dX1_mostAlike_60 rfl (lv_at hl 3 rfl) ?_
        refine mx_ki (mx_rV (rm := rm_X1_manner) (rest := [.int r_13]) (C := RX1) hx hb hml hown hts (c_X1_manner l D cI cB cZ cP cC a_c a_c_kind a_c_months a_c_home a_c_nurse a_c_skills a_c_noteRow a_c_soundRow a_c_pastRow a_K a_k0 a_k1 a_k2 a_k3 a_k4 a_k5 infants retired month notes sounds pasts v5 v2 v3 _ _ hw) q_807 q_808 q_809 q_32 q_810 hd_X1_manner ⟨(Nat.le_of_ble_eq_true rfl), (Nat.le_of_ble_eq_true rfl)⟩ rfl rfl hK hP hD [0, 1, 2, 3, 4, 5, 6, 7] rfl rfl 1 0 rfl rfl rfl rfl hl.1 rfl (Nat.le_of_ble_eq_true rfl) dX1_mostAlike_61 ⟨(Nat.le_of_ble_eq_true rfl), (Nat.le_of_ble_eq_true rfl)⟩) hP hD hS hA [0, 1, 2, 3, 4, 5, 6, 7] [] [0, 1, 2, 3, 4, 5, 6, 7] (fun _ => ww_X1_mostAlike a_c a_c_kind a_c_months a_c_home a_c_nurse a_c_skills a_c_noteRow a_c_soundRow a_c_pastRow a_K a_k0 a_k1 a_k2 a_k3 a_k4 a_k5 cI cB cZ cP cC infants retired month notes sounds pasts) rfl rfl rfl (by decide) rfl (fun _ => rfl) (fun r_14 u H locs hw hP hD hS => ?_)
        try dsimp only at hw
        replace hP : va_P D vwCl (ww_X1_mostAlike a_c a_c_kind a_c_months a_c_home a_c_nurse a_c_skills a_c_noteRow a_c_soundRow a_c_pastRow a_K a_k0 a_k1 a_k2 a_k3 a_k4 a_k5 cI cB cZ cP cC infants retired month notes sounds pasts) H := hP
        replace hD : va_D A (ww_X1_mostAlike a_c a_c_kind a_c_months a_c_home a_c_nurse a_c_skills a_c_noteRow a_c_soundRow a_c_pastRow a_K a_k0 a_k1 a_k2 a_k3 a_k4 a_k5 cI cB cZ cP cC infants retired month notes sounds pasts) := hD
        refine lv_icmp_ne (tgt := 70) hx hb dX1_mostAlike_64 (by decide) (fun c_15 => ?_) (fun c_15 => ?_)
        · replace hw := hw.2 c_15
          refine k_X1_mostAlike_J70 C0 ?_ v1 v2 v3 v4 v5 v6 v7 _ _ _ hP hD hS (lv_sub hl [0, 1, 2, 3, 4, 5, 6, 7] rfl) hw
          intro v1_16 v2_17 v3_18 v4_19 v5_20 v6_21 v7_22 H locs ls hP hD hS hl hw
          exact ih v1_16 v2_17 v3_18 v4_19 v5_20 v6_21 v7_22 _ _ _ hP hD hS (lv_sub hl [0, 1, 2, 3, 4, 5, 6, 7] rfl) hw
        · replace hw := hw.1 c_15
          obtain ⟨x_23, ex_23⟩ : ∃ y : Int32, y = v6 + 1 := ⟨_, rfl⟩
          replace hw := hw x_23 ex_23
          refine lv_iinc (v := x_23) (lv' := [(6, .int x_23), (0, .ref a_c), (1, .int v1), (2, .int v2), (3, .int v3), (4, .int v4), (5, .int v5), (7, .int v7)]) hx hb dX1_mostAlike_67 hl (k := 6) rfl (by rw [ex_23]; rfl) (by decide) rfl (fun ls hl => ?_)
          refine k_X1_mostAlike_J70 C0 ?_ v1 v2 v3 v4 v5 x_23 v7 _ _ _ hP hD hS (lv_sub hl [1, 2, 3, 4, 5, 6, 0, 7] rfl) hw
          intro v1_24 v2_25 v3_26 v4_27 v5_28 v6_29 v7_30 H locs ls hP hD hS hl hw
          exact ih v1_24 v2_25 v3_26 v4_27 v5_28 v6_29 v7_30 _ _ _ hP hD hS (lv_sub hl [0, 1, 2, 3, 4, 5, 6, 7] rfl) hw
def wp_X1_mostAlike_J85  (Post : Int32 → Prop) (K_6 : Int32 → Int32 → Int32 → Int32 → Int32 → Prop) (v1 : Int32) (v2 : Int32) (v3 : Int32) (v4 : Int32) (v5 : Int32) : Prop :=
  (∀ x_38 : Int32, x_38 = v5 + 1 → K_6 v1 v2 v3 v4 x_38)
set_option maxHeartbeats 4000000 in
set_option maxRecDepth 100000 in
theorem k_X1_mostAlike_J85 {p : Program} {l : Launch} {e : Env} {s : State} {m : MethodId} {ar : Array Value} {bl : List Frame} {meth : Method} {c : Code} {D : va_G} {A : Nat → Prop} {cI cB cZ cP cC : ClassId} {a_c a_c_kind a_c_months a_c_home a_c_nurse a_c_skills a_c_noteRow a_c_soundRow a_c_pastRow a_K a_k0 a_k1 a_k2 a_k3 a_k4 a_k5 : Nat} {infants : Int32} {retired : Int32} {month : Int32} {notes : Int32} {sounds : Int32} {pasts : Int32} {Post : Int32 → Prop} {K_6 : Int32 → Int32 → Int32 → Int32 → Int32 → Prop} (C0 : mxC p s m ar meth c cX1_mostAlike RX1 (some .int) 8 D (mxTy cI cB cZ cP cC) A)
    (hK_6 : ∀ (v1 : Int32) (v2 : Int32) (v3 : Int32) (v4 : Int32) (v5 : Int32) (H : Heap) (locs : List Loc) (ls : Array Slot), va_P D vwCl (ww_X1_mostAlike a_c a_c_kind a_c_months a_c_home a_c_nurse a_c_skills a_c_noteRow a_c_soundRow a_c_pastRow a_K a_k0 a_k1 a_k2 a_k3 a_k4 a_k5 cI cB cZ cP cC infants retired month notes sounds pasts) H → va_D A (ww_X1_mostAlike a_c a_c_kind a_c_months a_c_home a_c_nurse a_c_skills a_c_noteRow a_c_soundRow a_c_pastRow a_K a_k0 a_k1 a_k2 a_k3 a_k4 a_k5 cI cB cZ cP cC infants retired month notes sounds pasts) → va_S A s.heap H locs → lv_has ls 8 [(0, .ref a_c), (1, .int v1), (2, .int v2), (3, .int v3), (4, .int v4), (5, .int v5)] → K_6 v1 v2 v3 v4 v5 → W p l e rm_X1_mostAlike s m ar bl meth c H locs 0 0 (MQ bl (qq_X1_mostAlike D a_c a_c_kind a_c_months a_c_home a_c_nurse a_c_skills a_c_noteRow a_c_soundRow a_c_pastRow a_K a_k0 a_k1 a_k2 a_k3 a_k4 a_k5 cI cB cZ cP cC infants retired month notes sounds pasts Post A) ar s 0 0 A) (F0 m 6 ls [])) :
    ∀ (v1 : Int32) (v2 : Int32) (v3 : Int32) (v4 : Int32) (v5 : Int32) (H : Heap) (locs : List Loc) (ls : Array Slot), va_P D vwCl (ww_X1_mostAlike a_c a_c_kind a_c_months a_c_home a_c_nurse a_c_skills a_c_noteRow a_c_soundRow a_c_pastRow a_K a_k0 a_k1 a_k2 a_k3 a_k4 a_k5 cI cB cZ cP cC infants retired month notes sounds pasts) H → va_D A (ww_X1_mostAlike a_c a_c_kind a_c_months a_c_home a_c_nurse a_c_skills a_c_noteRow a_c_soundRow a_c_pastRow a_K a_k0 a_k1 a_k2 a_k3 a_k4 a_k5 cI cB cZ cP cC infants retired month notes sounds pasts) → va_S A s.heap H locs → lv_has ls 8 [(0, .ref a_c), (1, .int v1), (2, .int v2), (3, .int v3), (4, .int v4), (5, .int v5)] → wp_X1_mostAlike_J85 Post K_6 v1 v2 v3 v4 v5 → W p l e rm_X1_mostAlike s m ar bl meth c H locs 0 0 (MQ bl (qq_X1_mostAlike D a_c a_c_kind a_c_months a_c_home a_c_nurse a_c_skills a_c_noteRow a_c_soundRow a_c_pastRow a_K a_k0 a_k1 a_k2 a_k3 a_k4 a_k5 cI cB cZ cP cC infants retired month notes sounds pasts Post A) ar s 0 0 A) (F0 m 85 ls []) := by
  obtain ⟨hx, hb, hr, hlocks, hml, hown, hts, hK, hA⟩ := id C0
  intro v1 v2 v3 v4 v5 H locs ls hP hD hS hl hw
  obtain ⟨x_38, ex_38⟩ : ∃ y : Int32, y = v5 + 1 := ⟨_, rfl⟩
  replace hw := hw x_38 ex_38
  refine lv_iinc (v := x_38) (lv' := [(5, .int x_38), (0, .ref a_c), (1, .int v1), (2, .int v2), (3, .int v3), (4, .int v4)]) hx hb dX1_mostAlike_85 hl (k := 5) rfl (by rw [ex_38]; rfl) (by decide) rfl (fun ls hl => ?_)
  refine lv_goto (tgt := 6) hx hb dX1_mostAlike_88 (by decide) ?_
  exact hK_6 v1 v2 v3 v4 x_38 _ _ _ hP hD hS (lv_sub hl [1, 2, 3, 4, 5, 0] rfl) hw
def wp_X1_mostAlike_L6  (Post : Int32 → Prop)  : Nat → Int32 → Int32 → Int32 → Int32 → Int32 → Prop
  | 0, _, _, _, _, _ => False
  | n + 1, v1, v2, v3, v4, v5 => ((6 ≤ v5 → Post v4) ∧ (¬ 6 ≤ v5 → ((((v1 >>> (v5 &&& 31)) &&& 1) = 0 → (wp_X1_mostAlike_J85 Post (fun (v1_45 : Int32) (v2_46 : Int32) (v3_47 : Int32) (v4_48 : Int32) (v5_49 : Int32) => wp_X1_mostAlike_L6 Post  n v1_45 v2_46 v3_47 v4_48 v5_49) v1 v2 v3 v4 v5)) ∧ (¬ ((v1 >>> (v5 &&& 31)) &&& 1) = 0 → (∃ k_44 : Nat, wp_X1_mostAlike_L31 Post (fun (v1_31 : Int32) (v2_32 : Int32) (v3_33 : Int32) (v4_34 : Int32) (v5_35 : Int32) (v6_36 : Int32) => (∀ x_37 : Int32, x_37 = (if v4_34 < v6_36 then v6_36 else v4_34) → (wp_X1_mostAlike_J85 Post (fun (v1_39 : Int32) (v2_40 : Int32) (v3_41 : Int32) (v4_42 : Int32) (v5_43 : Int32) => wp_X1_mostAlike_L6 Post  n v1_39 v2_40 v3_41 v4_42 v5_43) v1_31 v2_32 v3_33 x_37 v5_35))) k_44 v1 v2 v3 v4 v5 0 0)))))
set_option maxHeartbeats 4000000 in
set_option maxRecDepth 100000 in
theorem k_X1_mostAlike_L6 {p : Program} {l : Launch} {e : Env} {s : State} {m : MethodId} {ar : Array Value} {bl : List Frame} {meth : Method} {c : Code} {D : va_G} {A : Nat → Prop} {cI cB cZ cP cC : ClassId} {a_c a_c_kind a_c_months a_c_home a_c_nurse a_c_skills a_c_noteRow a_c_soundRow a_c_pastRow a_K a_k0 a_k1 a_k2 a_k3 a_k4 a_k5 : Nat} {infants : Int32} {retired : Int32} {month : Int32} {notes : Int32} {sounds : Int32} {pasts : Int32} {Post : Int32 → Prop} (C0 : mxC p s m ar meth c cX1_mostAlike RX1 (some .int) 8 D (mxTy cI cB cZ cP cC) A) :
    ∀ (n : Nat) (v1 : Int32) (v2 : Int32) (v3 : Int32) (v4 : Int32) (v5 : Int32) (H : Heap) (locs : List Loc) (ls : Array Slot), va_P D vwCl (ww_X1_mostAlike a_c a_c_kind a_c_months a_c_home a_c_nurse a_c_skills a_c_noteRow a_c_soundRow a_c_pastRow a_K a_k0 a_k1 a_k2 a_k3 a_k4 a_k5 cI cB cZ cP cC infants retired month notes sounds pasts) H → va_D A (ww_X1_mostAlike a_c a_c_kind a_c_months a_c_home a_c_nurse a_c_skills a_c_noteRow a_c_soundRow a_c_pastRow a_K a_k0 a_k1 a_k2 a_k3 a_k4 a_k5 cI cB cZ cP cC infants retired month notes sounds pasts) → va_S A s.heap H locs → lv_has ls 8 [(0, .ref a_c), (1, .int v1), (2, .int v2), (3, .int v3), (4, .int v4), (5, .int v5)] → wp_X1_mostAlike_L6 Post  n v1 v2 v3 v4 v5 → W p l e rm_X1_mostAlike s m ar bl meth c H locs 0 0 (MQ bl (qq_X1_mostAlike D a_c a_c_kind a_c_months a_c_home a_c_nurse a_c_skills a_c_noteRow a_c_soundRow a_c_pastRow a_K a_k0 a_k1 a_k2 a_k3 a_k4 a_k5 cI cB cZ cP cC infants retired month notes sounds pasts Post A) ar s 0 0 A) (F0 m 6 ls []) := by
  obtain ⟨hx, hb, hr, hlocks, hml, hown, hts, hK, hA⟩ := id C0
  intro n
  induction n with
  | zero =>
    intro v1 v2 v3 v4 v5 H locs ls hP hD hS hl hw
    exact absurd hw (fun h => h)
  | succ n ih =>
    intro v1 v2 v3 v4 v5 H locs ls hP hD hS hl hw
    refine lv_iload hx hb dX1_mostAlike_6 (lv_at hl 5 rfl) ?_
    refine lv_bipush (v := 6) hx hb dX1_mostAlike_8 (by decide) ?_
    refine lv_icmp_ge (tgt := 91) hx hb dX1_mostAlike_10 (by decide) (fun c_1 => ?_) (fun c_1 => ?_)
    · replace hw := hw.1 c_1
      refine lv_iload hx hb dX1_mostAlike_91 (lv_at hl 4 rfl) ?_
      exact mx_iret () hx hb hr hlocks rfl hw hK hP hD hS dX1_mostAlike_93
    · replace hw := hw.2 c_1
      refine lv_iload_n hx hb dX1_mostAlike_13 rfl (lv_at hl 1 rfl) ?_
      refine lv_iload hx hb dX1_mostAlike_14 (lv_at hl 5 rfl) ?_
      refine lv_ishr hx hb dX1_mostAlike_16 ?_
      refine lv_iconst (v := 1) hx hb dX1_mostAlike_17 (by decide) ?_
      refine lv_iand hx hb dX1_mostAlike_18 ?_
      refine lv_if_ne (tgt := 25) hx hb dX1_mostAlike_19 (by decide) (fun c_2 => ?_) (fun c_2 => ?_)
      · replace hw := hw.2 c_2
        refine lv_iconst (v := 0) hx hb dX1_mostAlike_25 (by decide) ?_
        refine lv_istore (lv' := [(6, .int 0), (0, .ref a_c), (1, .int v1), (2, .int v2), (3, .int v3), (4, .int v4), (5, .int v5)]) hx hb dX1_mostAlike_26 hl (by decide) rfl (fun ls hl => ?_)
        refine lv_iconst (v := 0) hx hb dX1_mostAlike_28 (by decide) ?_
        refine lv_istore (lv' := [(7, .int 0), (6, .int 0), (0, .ref a_c), (1, .int v1), (2, .int v2), (3, .int v3), (4, .int v4), (5, .int v5)]) hx hb dX1_mostAlike_29 hl (by decide) rfl (fun ls hl => ?_)
        obtain ⟨n0, hw⟩ := hw
        refine k_X1_mostAlike_L31 C0 ?_ n0 v1 v2 v3 v4 v5 0 0 _ _ _ hP hD hS (lv_sub hl [2, 3, 4, 5, 6, 7, 1, 0] rfl) hw
        intro v1_31 v2_32 v3_33 v4_34 v5_35 v6_36 H locs ls hP hD hS hl hw
        refine lv_iload hx hb dX1_mostAlike_76 (lv_at hl 4 rfl) ?_
        refine lv_iload hx hb dX1_mostAlike_78 (lv_at hl 6 rfl) ?_
        refine va_mmax hx hb (hml.trans hl.1.symm) hown (hts _ q_567) (hts _ q_568) (hts _ q_569) (hts _ q_570) (Nat.le_of_ble_eq_true rfl) (Nat.le_of_ble_eq_true rfl) (Nat.zero_le _) (Nat.zero_le _) dX1_mostAlike_80 ?_
        refine lv_topi (fun x_37 ex_37 => ?_)
        replace hw := hw x_37 ex_37
        refine lv_istore (lv' := [(4, .int x_37), (0, .ref a_c), (1, .int v1_31), (2, .int v2_32), (3, .int v3_33), (5, .int v5_35), (6, .int v6_36)]) hx hb dX1_mostAlike_83 hl (by decide) rfl (fun ls hl => ?_)
        refine k_X1_mostAlike_J85 C0 ?_ v1_31 v2_32 v3_33 x_37 v5_35 _ _ _ hP hD hS (lv_sub hl [1, 2, 3, 4, 0, 5] rfl) hw
        intro v1_39 v2_40 v3_41 v4_42 v5_43 H locs ls hP hD hS hl hw
        exact ih v1_39 v2_40 v3_41 v4_42 v5_43 _ _ _ hP hD hS (lv_sub hl [0, 1, 2, 3, 4, 5] rfl) hw
      · replace hw := hw.1 c_2
        refine lv_goto (tgt := 85) hx hb dX1_mostAlike_22 (by decide) ?_
        refine k_X1_mostAlike_J85 C0 ?_ v1 v2 v3 v4 v5 _ _ _ hP hD hS (lv_sub hl [0, 1, 2, 3, 4, 5] rfl) hw
        intro v1_45 v2_46 v3_47 v4_48 v5_49 H locs ls hP hD hS hl hw
        exact ih v1_45 v2_46 v3_47 v4_48 v5_49 _ _ _ hP hD hS (lv_sub hl [0, 1, 2, 3, 4, 5] rfl) hw
def wp_X1_mostAlike (v1 : Int32) (v2 : Int32) (v3 : Int32) (Post : Int32 → Prop) : Prop :=
  (∃ k_50 : Nat, wp_X1_mostAlike_L6 Post k_50 v1 v2 v3 0 0)
set_option maxHeartbeats 4000000 in
set_option maxRecDepth 100000 in
theorem c_X1_mostAlike (l : Launch) (D : va_G) (cI cB cZ cP cC : ClassId) (a_c a_c_kind a_c_months a_c_home a_c_nurse a_c_skills a_c_noteRow a_c_soundRow a_c_pastRow a_K a_k0 a_k1 a_k2 a_k3 a_k4 a_k5 : Nat) (infants : Int32) (retired : Int32) (month : Int32) (notes : Int32) (sounds : Int32) (pasts : Int32) (v1 : Int32) (v2 : Int32) (v3 : Int32) (sz : Nat) (Post : Int32 → Prop) (hw : wp_X1_mostAlike v1 v2 v3 Post) :
    Met l yX1_mostAlike (Cond.code yX1_mostAlike cX1_mostAlike 8 (some .int) :: wsAll) rm_X1_mostAlike (va_Pc [.ref a_c, .int v1, .int v2, .int v3] (mxP D (mxTy cI cB cZ cP cC) sz (ww_X1_mostAlike a_c a_c_kind a_c_months a_c_home a_c_nurse a_c_skills a_c_noteRow a_c_soundRow a_c_pastRow a_K a_k0 a_k1 a_k2 a_k3 a_k4 a_k5 cI cB cZ cP cC infants retired month notes sounds pasts))) (qq_X1_mostAlike D a_c a_c_kind a_c_months a_c_home a_c_nurse a_c_skills a_c_noteRow a_c_soundRow a_c_pastRow a_K a_k0 a_k1 a_k2 a_k3 a_k4 a_k5 cI cB cZ cP cC infants retired month notes sounds pasts Post (va_A (ww_X1_mostAlike a_c a_c_kind a_c_months a_c_home a_c_nurse a_c_skills a_c_noteRow a_c_soundRow a_c_pastRow a_K a_k0 a_k1 a_k2 a_k3 a_k4 a_k5 cI cB cZ cP cC infants retired month notes sounds pasts) sz)) 0 0 (va_A (ww_X1_mostAlike a_c a_c_kind a_c_months a_c_home a_c_nurse a_c_skills a_c_noteRow a_c_soundRow a_c_pastRow a_K a_k0 a_k1 a_k2 a_k3 a_k4 a_k5 cI cB cZ cP cC infants retired month notes sounds pasts) sz) := by
  refine mx_of (Qc := qq_X1_mostAlike D a_c a_c_kind a_c_months a_c_home a_c_nurse a_c_skills a_c_noteRow a_c_soundRow a_c_pastRow a_K a_k0 a_k1 a_k2 a_k3 a_k4 a_k5 cI cB cZ cP cC infants retired month notes sounds pasts Post) (by decide) (Nat.le_of_ble_eq_true rfl) ?_
  intro p e s m bl meth c A ls C0 hP hD hS hl
  replace C0 : mxC p s m [.ref a_c, .int v1, .int v2, .int v3].toArray meth c cX1_mostAlike RX1 (some .int) 8 D (mxTy cI cB cZ cP cC) A := C0
  obtain ⟨hx, hb, hr, hlocks, hml, hown, hts, hK, hA⟩ := id C0
  replace hl : lv_has ls 8 [(0, .ref a_c), (1, .int v1), (2, .int v2), (3, .int v3)] := hl
  unfold wp_X1_mostAlike at hw
  refine lv_iconst (v := 0) hx hb dX1_mostAlike_0 (by decide) ?_
  refine lv_istore (lv' := [(4, .int 0), (0, .ref a_c), (1, .int v1), (2, .int v2), (3, .int v3)]) hx hb dX1_mostAlike_1 hl (by decide) rfl (fun ls hl => ?_)
  refine lv_iconst (v := 0) hx hb dX1_mostAlike_3 (by decide) ?_
  refine lv_istore (lv' := [(5, .int 0), (4, .int 0), (0, .ref a_c), (1, .int v1), (2, .int v2), (3, .int v3)]) hx hb dX1_mostAlike_4 hl (by decide) rfl (fun ls hl => ?_)
  obtain ⟨n0, hw⟩ := hw
  refine k_X1_mostAlike_L6 C0  n0 v1 v2 v3 0 0 _ _ _ hP hD hS (lv_sub hl [2, 3, 4, 5, 1, 0] rfl) hw
/-! PramState$Court.mayHaveBeen(I)Z -/
abbrev ww_X1_mayHaveBeen (a_c a_c_kind a_c_months a_c_home a_c_nurse a_c_skills a_c_noteRow a_c_soundRow a_c_pastRow a_K a_k0 a_k1 a_k2 a_k3 a_k4 a_k5 : Nat) (cI cB cZ cP cC : ClassId) (infants : Int32) (retired : Int32) (month : Int32) (notes : Int32) (sounds : Int32) (pasts : Int32) (kind : Nat → Int32) (soundRow : Nat → Int32) : va_W := [(a_c, .inr (1, [.ref a_K, .ref a_c_kind, .ref a_c_months, .ref a_c_home, .ref a_c_nurse, .ref a_c_skills, .ref a_c_noteRow, .ref a_c_soundRow, .ref a_c_pastRow, .int infants, .int retired, .int month, .int notes, .int sounds, .int pasts])), (a_c_kind, .inl (cI, 6, .inl kind)), (a_c_soundRow, .inl (cI, 12, .inl soundRow)), (a_K, .inl (cP, 6, .inr (.inr (.inr (.inr (mx_kf a_k0 a_k1 a_k2 a_k3 a_k4 a_k5)))))), (a_k0, .inr (6, [])), (a_k1, .inr (8, [])), (a_k2, .inr (7, [])), (a_k3, .inr (3, [])), (a_k4, .inr (4, [])), (a_k5, .inr (0, []))]
abbrev qq_X1_mayHaveBeen (D : va_G) (a_c a_c_kind a_c_months a_c_home a_c_nurse a_c_skills a_c_noteRow a_c_soundRow a_c_pastRow a_K a_k0 a_k1 a_k2 a_k3 a_k4 a_k5 : Nat) (cI cB cZ cP cC : ClassId) (infants : Int32) (retired : Int32) (month : Int32) (notes : Int32) (sounds : Int32) (pasts : Int32) (kind : Nat → Int32) (soundRow : Nat → Int32) (Post : Int32 → Prop) (A : Nat → Prop) : Array Value → State → Outcome → State → Prop := va_Qi (fun (r : Int32) (u : Unit) => Post r) (fun (u : Unit) t => mxB D (mxTy cI cB cZ cP cC) A (ww_X1_mayHaveBeen a_c a_c_kind a_c_months a_c_home a_c_nurse a_c_skills a_c_noteRow a_c_soundRow a_c_pastRow a_K a_k0 a_k1 a_k2 a_k3 a_k4 a_k5 cI cB cZ cP cC infants retired month notes sounds pasts kind soundRow) t) A
abbrev rm_X1_mayHaveBeen : Room := { frames := 3, cells := 0, slots := 0, locals := 64 }
theorem hd_X1_mayHaveBeen : yX1_mayHaveBeen.cls = RX1 ∧ yX1_mayHaveBeen.cls ≠ "java/lang/invoke/MethodHandle" ∧ yX1_mayHaveBeen.cls ≠ "java/lang/invoke/VarHandle" ∧ (parseMethodDescriptor yX1_mayHaveBeen.desc).map (fun d => d.parameters.length) = some 1 := by decide +kernel
def wp_X1_mayHaveBeen_J42 (sounds : Int32) (kind : Nat → Int32) (soundRow : Nat → Int32) (Post : Int32 → Prop) (K_2 : Int32 → Int32 → Prop) (v1 : Int32) (v2 : Int32) (s0 : Int32) (s1 : Int32) : Prop :=
  ((s1 = s0 → Post 0) ∧ (¬ s1 = s0 → (∀ x_8 : Int32, x_8 = v2 + 1 → K_2 v1 x_8)))
set_option maxHeartbeats 4000000 in
set_option maxRecDepth 100000 in
theorem k_X1_mayHaveBeen_J42 {p : Program} {l : Launch} {e : Env} {s : State} {m : MethodId} {ar : Array Value} {bl : List Frame} {meth : Method} {c : Code} {D : va_G} {A : Nat → Prop} {cI cB cZ cP cC : ClassId} {a_c a_c_kind a_c_months a_c_home a_c_nurse a_c_skills a_c_noteRow a_c_soundRow a_c_pastRow a_K a_k0 a_k1 a_k2 a_k3 a_k4 a_k5 : Nat} {infants : Int32} {retired : Int32} {month : Int32} {notes : Int32} {sounds : Int32} {pasts : Int32} {kind : Nat → Int32} {soundRow : Nat → Int32} {Post : Int32 → Prop} {K_2 : Int32 → Int32 → Prop} (C0 : mxC p s m ar meth c cX1_mayHaveBeen RX1 (some .boolean) 4 D (mxTy cI cB cZ cP cC) A)
    (hK_2 : ∀ (v1 : Int32) (v2 : Int32) (H : Heap) (locs : List Loc) (ls : Array Slot), va_P D vwCl (ww_X1_mayHaveBeen a_c a_c_kind a_c_months a_c_home a_c_nurse a_c_skills a_c_noteRow a_c_soundRow a_c_pastRow a_K a_k0 a_k1 a_k2 a_k3 a_k4 a_k5 cI cB cZ cP cC infants retired month notes sounds pasts kind soundRow) H → va_D A (ww_X1_mayHaveBeen a_c a_c_kind a_c_months a_c_home a_c_nurse a_c_skills a_c_noteRow a_c_soundRow a_c_pastRow a_K a_k0 a_k1 a_k2 a_k3 a_k4 a_k5 cI cB cZ cP cC infants retired month notes sounds pasts kind soundRow) → va_S A s.heap H locs → lv_has ls 4 [(0, .ref a_c), (1, .int v1), (2, .int v2)] → K_2 v1 v2 → W p l e rm_X1_mayHaveBeen s m ar bl meth c H locs 0 0 (MQ bl (qq_X1_mayHaveBeen D a_c a_c_kind a_c_months a_c_home a_c_nurse a_c_skills a_c_noteRow a_c_soundRow a_c_pastRow a_K a_k0 a_k1 a_k2 a_k3 a_k4 a_k5 cI cB cZ cP cC infants retired month notes sounds pasts kind soundRow Post A) ar s 0 0 A) (F0 m 2 ls [])) :
    ∀ (v1 : Int32) (v2 : Int32) (s0 : Int32) (s1 : Int32) (H : Heap) (locs : List Loc) (ls : Array Slot), va_P D vwCl (ww_X1_mayHaveBeen a_c a_c_kind a_c_months a_c_home a_c_nurse a_c_skills a_c_noteRow a_c_soundRow a_c_pastRow a_K a_k0 a_k1 a_k2 a_k3 a_k4 a_k5 cI cB cZ cP cC infants retired month notes sounds pasts kind soundRow) H → va_D A (ww_X1_mayHaveBeen a_c a_c_kind a_c_months a_c_home a_c_nurse a_c_skills a_c_noteRow a_c_soundRow a_c_pastRow a_K a_k0 a_k1 a_k2 a_k3 a_k4 a_k5 cI cB cZ cP cC infants retired month notes sounds pasts kind soundRow) → va_S A s.heap H locs → lv_has ls 4 [(0, .ref a_c), (1, .int v1), (2, .int v2)] → wp_X1_mayHaveBeen_J42 sounds kind soundRow Post K_2 v1 v2 s0 s1 → W p l e rm_X1_mayHaveBeen s m ar bl meth c H locs 0 0 (MQ bl (qq_X1_mayHaveBeen D a_c a_c_kind a_c_months a_c_home a_c_nurse a_c_skills a_c_noteRow a_c_soundRow a_c_pastRow a_K a_k0 a_k1 a_k2 a_k3 a_k4 a_k5 cI cB cZ cP cC infants retired month notes sounds pasts kind soundRow Post A) ar s 0 0 A) (F0 m 42 ls [.int s0, .int s1]) := by
  obtain ⟨hx, hb, hr, hlocks, hml, hown, hts, hK, hA⟩ := id C0
  intro v1 v2 s0 s1 H locs ls hP hD hS hl hw
  refine lv_icmp_ne (tgt := 47) hx hb dX1_mayHaveBeen_42 (by decide) (fun c_7 => ?_) (fun c_7 => ?_)
  · replace hw := hw.2 c_7
    obtain ⟨x_8, ex_8⟩ : ∃ y : Int32, y = v2 + 1 := ⟨_, rfl⟩
    replace hw := hw x_8 ex_8
    refine lv_iinc (v := x_8) (lv' := [(2, .int x_8), (0, .ref a_c), (1, .int v1)]) hx hb dX1_mayHaveBeen_47 hl (k := 2) rfl (by rw [ex_8]; rfl) (by decide) rfl (fun ls hl => ?_)
    refine lv_goto (tgt := 2) hx hb dX1_mayHaveBeen_50 (by decide) ?_
    exact hK_2 v1 x_8 _ _ _ hP hD hS (lv_sub hl [1, 2, 0] rfl) hw
  · replace hw := hw.1 c_7
    refine lv_iconst (v := 0) hx hb dX1_mayHaveBeen_45 (by decide) ?_
    exact mx_iret () hx hb hr hlocks rfl hw hK hP hD hS dX1_mayHaveBeen_46
def wp_X1_mayHaveBeen_L2 (sounds : Int32) (kind : Nat → Int32) (soundRow : Nat → Int32) (Post : Int32 → Prop)  : Nat → Int32 → Int32 → Prop
  | 0, _, _ => False
  | n + 1, v1, v2 => ((sounds ≤ v2 → Post 1) ∧ (¬ sounds ≤ v2 → (∀ x_2 : Int32, x_2 = v2 * 2 → (vp_in x_2 12 ∧ (wp_X1_isAsleep kind (soundRow x_2.toNatClampNeg) v1 (fun r_4 => (vp_in (x_2 + 1) 12 ∧ (((soundRow (x_2 + 1).toNatClampNeg) = 1 → (wp_X1_mayHaveBeen_J42 sounds kind soundRow Post (fun (v1_11 : Int32) (v2_12 : Int32) => wp_X1_mayHaveBeen_L2 sounds kind soundRow Post  n v1_11 v2_12) v1 v2 1 r_4)) ∧ (¬ (soundRow (x_2 + 1).toNatClampNeg) = 1 → (wp_X1_mayHaveBeen_J42 sounds kind soundRow Post (fun (v1_9 : Int32) (v2_10 : Int32) => wp_X1_mayHaveBeen_L2 sounds kind soundRow Post  n v1_9 v2_10) v1 v2 0 r_4))))))))))
set_option maxHeartbeats 4000000 in
set_option maxRecDepth 100000 in
theorem k_X1_mayHaveBeen_L2 {p : Program} {l : Launch} {e : Env} {s : State} {m : MethodId} {ar : Array Value} {bl : List Frame} {meth : Method} {c : Code} {D : va_G} {A : Nat → Prop} {cI cB cZ cP cC : ClassId} {a_c a_c_kind a_c_months a_c_home a_c_nurse a_c_skills a_c_noteRow a_c_soundRow a_c_pastRow a_K a_k0 a_k1 a_k2 a_k3 a_k4 a_k5 : Nat} {infants : Int32} {retired : Int32} {month : Int32} {notes : Int32} {sounds : Int32} {pasts : Int32} {kind : Nat → Int32} {soundRow : Nat → Int32} {Post : Int32 → Prop} (C0 : mxC p s m ar meth c cX1_mayHaveBeen RX1 (some .boolean) 4 D (mxTy cI cB cZ cP cC) A) :
    ∀ (n : Nat) (v1 : Int32) (v2 : Int32) (H : Heap) (locs : List Loc) (ls : Array Slot), va_P D vwCl (ww_X1_mayHaveBeen a_c a_c_kind a_c_months a_c_home a_c_nurse a_c_skills a_c_noteRow a_c_soundRow a_c_pastRow a_K a_k0 a_k1 a_k2 a_k3 a_k4 a_k5 cI cB cZ cP cC infants retired month notes sounds pasts kind soundRow) H → va_D A (ww_X1_mayHaveBeen a_c a_c_kind a_c_months a_c_home a_c_nurse a_c_skills a_c_noteRow a_c_soundRow a_c_pastRow a_K a_k0 a_k1 a_k2 a_k3 a_k4 a_k5 cI cB cZ cP cC infants retired month notes sounds pasts kind soundRow) → va_S A s.heap H locs → lv_has ls 4 [(0, .ref a_c), (1, .int v1), (2, .int v2)] → wp_X1_mayHaveBeen_L2 sounds kind soundRow Post  n v1 v2 → W p l e rm_X1_mayHaveBeen s m ar bl meth c H locs 0 0 (MQ bl (qq_X1_mayHaveBeen D a_c a_c_kind a_c_months a_c_home a_c_nurse a_c_skills a_c_noteRow a_c_soundRow a_c_pastRow a_K a_k0 a_k1 a_k2 a_k3 a_k4 a_k5 cI cB cZ cP cC infants retired month notes sounds pasts kind soundRow Post A) ar s 0 0 A) (F0 m 2 ls []) := by
  obtain ⟨hx, hb, hr, hlocks, hml, hown, hts, hK, hA⟩ := id C0
  intro n
  induction n with
  | zero =>
    intro v1 v2 H locs ls hP hD hS hl hw
    exact absurd hw (fun h => h)
  | succ n ih =>
    intro v1 v2 H locs ls hP hD hS hl hw
    refine lv_iload_n hx hb dX1_mayHaveBeen_2 rfl (lv_at hl 2 rfl) ?_
    refine lv_aload_n hx hb dX1_mayHaveBeen_3 rfl (lv_at hl 0 rfl) ?_
    refine mx_get (ci := 1) (C := RX1) (T := TX1) (N := 15) hx hb hown in_wsX10 hts hK hP 0 rfl rfl 13 (by decide) q_122 rfl (v := .int sounds) rfl dX1_mayHaveBeen_4 ?_
    refine lv_icmp_ge (tgt := 53) hx hb dX1_mayHaveBeen_7 (by decide) (fun c_1 => ?_) (fun c_1 => ?_)
    · replace hw := hw.1 c_1
      refine lv_iconst (v := 1) hx hb dX1_mayHaveBeen_53 (by decide) ?_
      exact mx_iret () hx hb hr hlocks rfl hw hK hP hD hS dX1_mayHaveBeen_54
    · replace hw := hw.2 c_1
      refine lv_iload_n hx hb dX1_mayHaveBeen_10 rfl (lv_at hl 2 rfl) ?_
      refine lv_iconst (v := 2) hx hb dX1_mayHaveBeen_11 (by decide) ?_
      refine lv_imul hx hb dX1_mayHaveBeen_12 ?_
      refine lv_topi (fun x_2 ex_2 => ?_)
      replace hw := hw x_2 ex_2
      refine lv_istore_n (lv' := [(3, .int x_2), (0, .ref a_c), (1, .int v1), (2, .int v2)]) hx hb dX1_mayHaveBeen_13 rfl hl (by decide) rfl (fun ls hl => ?_)
      refine lv_aload_n hx hb dX1_mayHaveBeen_14 rfl (lv_at hl 1 rfl) ?_
      refine lv_aload_n hx hb dX1_mayHaveBeen_15 rfl (lv_at hl 1 rfl) ?_
      refine mx_get (ci := 1) (C := RX1) (T := TX1) (N := 15) hx hb hown in_wsX10 hts hK hP 0 rfl rfl 7 (by decide) q_71 rfl (v := .ref a_c_soundRow) rfl dX1_mayHaveBeen_16 ?_
      refine lv_iload_n hx hb dX1_mayHaveBeen_19 rfl (lv_at hl 0 rfl) ?_
      obtain ⟨h_3, hw⟩ := hw
      refine mx_iald hx hb hK hP 2 0 rfl rfl h_3 (soundRow x_2.toNatClampNeg) rfl dX1_mayHaveBeen_20 ?_
      refine lv_iload_n hx hb dX1_mayHaveBeen_21 rfl (lv_at hl 2 rfl) ?_
      refine mx_ki (mx_rV (rm := rm_X1_isAsleep) (rest := []) (C := RX1) hx hb hml hown hts (c_X1_isAsleep l D cI cB cZ cP cC a_c a_c_kind a_c_months a_c_home a_c_nurse a_c_skills a_c_noteRow a_c_soundRow a_c_pastRow a_K a_k0 a_k1 a_k2 a_k3 a_k4 a_k5 infants retired month notes sounds pasts kind (soundRow x_2.toNatClampNeg) v1 _ _ hw) q_571 q_539 q_540 q_32 q_541 hd_X1_isAsleep ⟨(Nat.le_of_ble_eq_true rfl), (Nat.le_of_ble_eq_true rfl)⟩ rfl rfl hK hP hD [0, 1, 3, 4, 5, 6, 7, 8, 9] rfl rfl 1 0 rfl rfl rfl rfl hl.1 rfl (Nat.le_of_ble_eq_true rfl) dX1_mayHaveBeen_22 ⟨(Nat.le_of_ble_eq_true rfl), (Nat.le_of_ble_eq_true rfl)⟩) hP hD hS hA [0, 1, 3, 4, 5, 6, 7, 8, 9] [2] [1, 2, 0, 3, 4, 5, 6, 7, 8, 9] (fun _ => ww_X1_mayHaveBeen a_c a_c_kind a_c_months a_c_home a_c_nurse a_c_skills a_c_noteRow a_c_soundRow a_c_pastRow a_K a_k0 a_k1 a_k2 a_k3 a_k4 a_k5 cI cB cZ cP cC infants retired month notes sounds pasts kind soundRow) rfl rfl rfl (by decide) rfl (fun _ => rfl) (fun r_4 u H locs hw hP hD hS => ?_)
      try dsimp only at hw
      replace hP : va_P D vwCl (ww_X1_mayHaveBeen a_c a_c_kind a_c_months a_c_home a_c_nurse a_c_skills a_c_noteRow a_c_soundRow a_c_pastRow a_K a_k0 a_k1 a_k2 a_k3 a_k4 a_k5 cI cB cZ cP cC infants retired month notes sounds pasts kind soundRow) H := hP
      replace hD : va_D A (ww_X1_mayHaveBeen a_c a_c_kind a_c_months a_c_home a_c_nurse a_c_skills a_c_noteRow a_c_soundRow a_c_pastRow a_K a_k0 a_k1 a_k2 a_k3 a_k4 a_k5 cI cB cZ cP cC infants retired month notes sounds pasts kind soundRow) := hD
      refine lv_aload_n hx hb dX1_mayHaveBeen_25 rfl (lv_at hl 1 rfl) ?_
      refine mx_get (ci := 1) (C := RX1) (T := TX1) (N := 15) hx hb hown in_wsX10 hts hK hP 0 rfl rfl 7 (by decide) q_71 rfl (v := .ref a_c_soundRow) rfl dX1_mayHaveBeen_26 ?_
      refine lv_iload_n hx hb dX1_mayHaveBeen_29 rfl (lv_at hl 0 rfl) ?_
      refine lv_iconst (v := 1) hx hb dX1_mayHaveBeen_30 (by decide) ?_
      refine lv_iadd hx hb dX1_mayHaveBeen_31 ?_
      obtain ⟨h_5, hw⟩ := hw
      refine mx_iald hx hb hK hP 2 0 rfl rfl h_5 (soundRow (x_2 + 1).toNatClampNeg) rfl dX1_mayHaveBeen_32 ?_
      refine lv_iconst (v := 1) hx hb dX1_mayHaveBeen_33 (by decide) ?_
      refine lv_icmp_ne (tgt := 41) hx hb dX1_mayHaveBeen_34 (by decide) (fun c_6 => ?_) (fun c_6 => ?_)
      · replace hw := hw.2 c_6
        refine lv_iconst (v := 0) hx hb dX1_mayHaveBeen_41 (by decide) ?_
        refine k_X1_mayHaveBeen_J42 C0 ?_ v1 v2 0 r_4 _ _ _ hP hD hS (lv_sub hl [1, 2, 3] rfl) hw
        intro v1_9 v2_10 H locs ls hP hD hS hl hw
        exact ih v1_9 v2_10 _ _ _ hP hD hS (lv_sub hl [0, 1, 2] rfl) hw
      · replace hw := hw.1 c_6
        refine lv_iconst (v := 1) hx hb dX1_mayHaveBeen_37 (by decide) ?_
        refine lv_goto (tgt := 42) hx hb dX1_mayHaveBeen_38 (by decide) ?_
        refine k_X1_mayHaveBeen_J42 C0 ?_ v1 v2 1 r_4 _ _ _ hP hD hS (lv_sub hl [1, 2, 3] rfl) hw
        intro v1_11 v2_12 H locs ls hP hD hS hl hw
        exact ih v1_11 v2_12 _ _ _ hP hD hS (lv_sub hl [0, 1, 2] rfl) hw
def wp_X1_mayHaveBeen (sounds : Int32) (kind : Nat → Int32) (soundRow : Nat → Int32) (v1 : Int32) (Post : Int32 → Prop) : Prop :=
  (∃ k_13 : Nat, wp_X1_mayHaveBeen_L2 sounds kind soundRow Post k_13 v1 0)
set_option maxHeartbeats 4000000 in
set_option maxRecDepth 100000 in
theorem c_X1_mayHaveBeen (l : Launch) (D : va_G) (cI cB cZ cP cC : ClassId) (a_c a_c_kind a_c_months a_c_home a_c_nurse a_c_skills a_c_noteRow a_c_soundRow a_c_pastRow a_K a_k0 a_k1 a_k2 a_k3 a_k4 a_k5 : Nat) (infants : Int32) (retired : Int32) (month : Int32) (notes : Int32) (sounds : Int32) (pasts : Int32) (kind : Nat → Int32) (soundRow : Nat → Int32) (v1 : Int32) (sz : Nat) (Post : Int32 → Prop) (hw : wp_X1_mayHaveBeen sounds kind soundRow v1 Post) :
    Met l yX1_mayHaveBeen (Cond.code yX1_mayHaveBeen cX1_mayHaveBeen 4 (some .boolean) :: wsAll) rm_X1_mayHaveBeen (va_Pc [.ref a_c, .int v1] (mxP D (mxTy cI cB cZ cP cC) sz (ww_X1_mayHaveBeen a_c a_c_kind a_c_months a_c_home a_c_nurse a_c_skills a_c_noteRow a_c_soundRow a_c_pastRow a_K a_k0 a_k1 a_k2 a_k3 a_k4 a_k5 cI cB cZ cP cC infants retired month notes sounds pasts kind soundRow))) (qq_X1_mayHaveBeen D a_c a_c_kind a_c_months a_c_home a_c_nurse a_c_skills a_c_noteRow a_c_soundRow a_c_pastRow a_K a_k0 a_k1 a_k2 a_k3 a_k4 a_k5 cI cB cZ cP cC infants retired month notes sounds pasts kind soundRow Post (va_A (ww_X1_mayHaveBeen a_c a_c_kind a_c_months a_c_home a_c_nurse a_c_skills a_c_noteRow a_c_soundRow a_c_pastRow a_K a_k0 a_k1 a_k2 a_k3 a_k4 a_k5 cI cB cZ cP cC infants retired month notes sounds pasts kind soundRow) sz)) 0 0 (va_A (ww_X1_mayHaveBeen a_c a_c_kind a_c_months a_c_home a_c_nurse a_c_skills a_c_noteRow a_c_soundRow a_c_pastRow a_K a_k0 a_k1 a_k2 a_k3 a_k4 a_k5 cI cB cZ cP cC infants retired month notes sounds pasts kind soundRow) sz) := by
  refine mx_of (Qc := qq_X1_mayHaveBeen D a_c a_c_kind a_c_months a_c_home a_c_nurse a_c_skills a_c_noteRow a_c_soundRow a_c_pastRow a_K a_k0 a_k1 a_k2 a_k3 a_k4 a_k5 cI cB cZ cP cC infants retired month notes sounds pasts kind soundRow Post) (by decide) (Nat.le_of_ble_eq_true rfl) ?_
  intro p e s m bl meth c A ls C0 hP hD hS hl
  replace C0 : mxC p s m [.ref a_c, .int v1].toArray meth c cX1_mayHaveBeen RX1 (some .boolean) 4 D (mxTy cI cB cZ cP cC) A := C0
  obtain ⟨hx, hb, hr, hlocks, hml, hown, hts, hK, hA⟩ := id C0
  replace hl : lv_has ls 4 [(0, .ref a_c), (1, .int v1)] := hl
  unfold wp_X1_mayHaveBeen at hw
  refine lv_iconst (v := 0) hx hb dX1_mayHaveBeen_0 (by decide) ?_
  refine lv_istore_n (lv' := [(2, .int 0), (0, .ref a_c), (1, .int v1)]) hx hb dX1_mayHaveBeen_1 rfl hl (by decide) rfl (fun ls hl => ?_)
  obtain ⟨n0, hw⟩ := hw
  refine k_X1_mayHaveBeen_L2 C0  n0 v1 0 _ _ _ hP hD hS (lv_sub hl [1, 2, 0] rfl) hw
/-! PramState$Court.digestFrom(J)J -/
abbrev ww_X1_digestFrom (a_c a_c_kind a_c_months a_c_home a_c_nurse a_c_skills a_c_noteRow a_c_soundRow a_c_pastRow a_K : Nat) (cI cB cZ cP cC : ClassId) (infants : Int32) (retired : Int32) (month : Int32) (notes : Int32) (sounds : Int32) (pasts : Int32) (kind : Nat → Int32) (months : Nat → Int32) (home : Nat → Int32) (nurse : Nat → Int32) (skills : Nat → Int32) (noteRow : Nat → Int32) (soundRow : Nat → Int32) : va_W := [(a_c, .inr (1, [.ref a_K, .ref a_c_kind, .ref a_c_months, .ref a_c_home, .ref a_c_nurse, .ref a_c_skills, .ref a_c_noteRow, .ref a_c_soundRow, .ref a_c_pastRow, .int infants, .int retired, .int month, .int notes, .int sounds, .int pasts])), (a_c_kind, .inl (cI, 6, .inl kind)), (a_c_months, .inl (cI, 6, .inl months)), (a_c_home, .inl (cI, 6, .inl home)), (a_c_nurse, .inl (cI, 6, .inl nurse)), (a_c_skills, .inl (cI, 6, .inl skills)), (a_c_noteRow, .inl (cI, 30, .inl noteRow)), (a_c_soundRow, .inl (cI, 12, .inl soundRow))]
abbrev qq_X1_digestFrom (D : va_G) (a_c a_c_kind a_c_months a_c_home a_c_nurse a_c_skills a_c_noteRow a_c_soundRow a_c_pastRow a_K : Nat) (cI cB cZ cP cC : ClassId) (infants : Int32) (retired : Int32) (month : Int32) (notes : Int32) (sounds : Int32) (pasts : Int32) (kind : Nat → Int32) (months : Nat → Int32) (home : Nat → Int32) (nurse : Nat → Int32) (skills : Nat → Int32) (noteRow : Nat → Int32) (soundRow : Nat → Int32) (Post : Int64 → Prop) (A : Nat → Prop) : Array Value → State → Outcome → State → Prop := va_Ql (fun (r : Int64) (u : Unit) => Post r) (fun (u : Unit) t => mxB D (mxTy cI cB cZ cP cC) A (ww_X1_digestFrom a_c a_c_kind a_c_months a_c_home a_c_nurse a_c_skills a_c_noteRow a_c_soundRow a_c_pastRow a_K cI cB cZ cP cC infants retired month notes sounds pasts kind months home nurse skills noteRow soundRow) t) A
abbrev rm_X1_digestFrom : Room := { frames := 0, cells := 0, slots := 0, locals := 0 }
theorem hd_X1_digestFrom : yX1_digestFrom.cls = RX1 ∧ yX1_digestFrom.cls ≠ "java/lang/invoke/MethodHandle" ∧ yX1_digestFrom.cls ≠ "java/lang/invoke/VarHandle" ∧ (parseMethodDescriptor yX1_digestFrom.desc).map (fun d => d.parameters.length) = some 1 := by decide +kernel
def wp_X1_digestFrom_L5 (infants : Int32) (retired : Int32) (notes : Int32) (sounds : Int32) (kind : Nat → Int32) (months : Nat → Int32) (home : Nat → Int32) (nurse : Nat → Int32) (skills : Nat → Int32) (noteRow : Nat → Int32) (soundRow : Nat → Int32) (Post : Int64 → Prop) (K_33 : Int64 → Prop) : Nat → Int64 → Int32 → Prop
  | 0, _, _ => False
  | n + 1, v3, v5 => ((6 ≤ v5 → K_33 v3) ∧ (¬ 6 ≤ v5 → (vp_in v5 6 ∧ (∀ x_3 : Int64, x_3 = (31 * v3) + ((skills v5.toNatClampNeg).toInt64) → (∀ x_4 : Int32, x_4 = v5 + 1 → wp_X1_digestFrom_L5 infants retired notes sounds kind months home nurse skills noteRow soundRow Post K_33 n x_3 x_4)))))
set_option maxHeartbeats 4000000 in
set_option maxRecDepth 100000 in
theorem k_X1_digestFrom_L5 {p : Program} {l : Launch} {e : Env} {s : State} {m : MethodId} {ar : Array Value} {bl : List Frame} {meth : Method} {c : Code} {D : va_G} {A : Nat → Prop} {cI cB cZ cP cC : ClassId} {a_c a_c_kind a_c_months a_c_home a_c_nurse a_c_skills a_c_noteRow a_c_soundRow a_c_pastRow a_K : Nat} {infants : Int32} {retired : Int32} {month : Int32} {notes : Int32} {sounds : Int32} {pasts : Int32} {kind : Nat → Int32} {months : Nat → Int32} {home : Nat → Int32} {nurse : Nat → Int32} {skills : Nat → Int32} {noteRow : Nat → Int32} {soundRow : Nat → Int32} {Post : Int64 → Prop} {K_33 : Int64 → Prop} (C0 : mxC p s m ar meth c cX1_digestFrom RX1 (some .long) 6 D (mxTy cI cB cZ cP cC) A)
    (hK_33 : ∀ (v3 : Int64) (H : Heap) (locs : List Loc) (ls : Array Slot), va_P D vwCl (ww_X1_digestFrom a_c a_c_kind a_c_months a_c_home a_c_nurse a_c_skills a_c_noteRow a_c_soundRow a_c_pastRow a_K cI cB cZ cP cC infants retired month notes sounds pasts kind months home nurse skills noteRow soundRow) H → va_D A (ww_X1_digestFrom a_c a_c_kind a_c_months a_c_home a_c_nurse a_c_skills a_c_noteRow a_c_soundRow a_c_pastRow a_K cI cB cZ cP cC infants retired month notes sounds pasts kind months home nurse skills noteRow soundRow) → va_S A s.heap H locs → lv_has ls 6 [(0, .ref a_c), (3, .long v3)] → K_33 v3 → W p l e rm_X1_digestFrom s m ar bl meth c H locs 0 0 (MQ bl (qq_X1_digestFrom D a_c a_c_kind a_c_months a_c_home a_c_nurse a_c_skills a_c_noteRow a_c_soundRow a_c_pastRow a_K cI cB cZ cP cC infants retired month notes sounds pasts kind months home nurse skills noteRow soundRow Post A) ar s 0 0 A) (F0 m 33 ls [])) :
    ∀ (n : Nat) (v3 : Int64) (v5 : Int32) (H : Heap) (locs : List Loc) (ls : Array Slot), va_P D vwCl (ww_X1_digestFrom a_c a_c_kind a_c_months a_c_home a_c_nurse a_c_skills a_c_noteRow a_c_soundRow a_c_pastRow a_K cI cB cZ cP cC infants retired month notes sounds pasts kind months home nurse skills noteRow soundRow) H → va_D A (ww_X1_digestFrom a_c a_c_kind a_c_months a_c_home a_c_nurse a_c_skills a_c_noteRow a_c_soundRow a_c_pastRow a_K cI cB cZ cP cC infants retired month notes sounds pasts kind months home nurse skills noteRow soundRow) → va_S A s.heap H locs → lv_has ls 6 [(0, .ref a_c), (3, .long v3), (5, .int v5)] → wp_X1_digestFrom_L5 infants retired notes sounds kind months home nurse skills noteRow soundRow Post K_33 n v3 v5 → W p l e rm_X1_digestFrom s m ar bl meth c H locs 0 0 (MQ bl (qq_X1_digestFrom D a_c a_c_kind a_c_months a_c_home a_c_nurse a_c_skills a_c_noteRow a_c_soundRow a_c_pastRow a_K cI cB cZ cP cC infants retired month notes sounds pasts kind months home nurse skills noteRow soundRow Post A) ar s 0 0 A) (F0 m 5 ls []) := by
  obtain ⟨hx, hb, hr, hlocks, hml, hown, hts, hK, hA⟩ := id C0
  intro n
  induction n with
  | zero =>
    intro v3 v5 H locs ls hP hD hS hl hw
    exact absurd hw (fun h => h)
  | succ n ih =>
    intro v3 v5 H locs ls hP hD hS hl hw
    refine lv_iload hx hb dX1_digestFrom_5 (lv_at hl 2 rfl) ?_
    refine lv_bipush (v := 6) hx hb dX1_digestFrom_7 (by decide) ?_
    refine lv_icmp_ge (tgt := 33) hx hb dX1_digestFrom_9 (by decide) (fun c_1 => ?_) (fun c_1 => ?_)
    · replace hw := hw.1 c_1
      exact hK_33 v3 _ _ _ hP hD hS (lv_sub hl [0, 1] rfl) hw
    · replace hw := hw.2 c_1
      refine lv_ldc2 (v := 31) hx hb hown (hts _ q_963) dX1_digestFrom_12 ?_
      refine lv_lload_n hx hb dX1_digestFrom_15 rfl (lv_at hl 1 rfl) ?_
      refine lv_lmul hx hb dX1_digestFrom_16 ?_
      refine lv_aload_n hx hb dX1_digestFrom_17 rfl (lv_at hl 0 rfl) ?_
      refine mx_get (ci := 1) (C := RX1) (T := TX1) (N := 15) hx hb hown in_wsX10 hts hK hP 0 rfl rfl 5 (by decide) q_69 rfl (v := .ref a_c_skills) rfl dX1_digestFrom_18 ?_
      refine lv_iload hx hb dX1_digestFrom_21 (lv_at hl 2 rfl) ?_
      obtain ⟨h_2, hw⟩ := hw
      refine mx_iald hx hb hK hP 5 0 rfl rfl h_2 (skills v5.toNatClampNeg) rfl dX1_digestFrom_23 ?_
      refine lv_i2l (v := (skills v5.toNatClampNeg).toInt64) hx hb dX1_digestFrom_24 rfl ?_
      refine lv_ladd hx hb dX1_digestFrom_25 ?_
      refine lv_topl (fun x_3 ex_3 => ?_)
      replace hw := hw x_3 ex_3
      refine lv_lstore_n (lv' := [(3, .long x_3), (0, .ref a_c), (5, .int v5)]) hx hb dX1_digestFrom_26 rfl hl (by decide) rfl (fun ls hl => ?_)
      obtain ⟨x_4, ex_4⟩ : ∃ y : Int32, y = v5 + 1 := ⟨_, rfl⟩
      replace hw := hw x_4 ex_4
      refine lv_iinc (v := x_4) (lv' := [(5, .int x_4), (3, .long x_3), (0, .ref a_c)]) hx hb dX1_digestFrom_27 hl (k := 2) rfl (by rw [ex_4]; rfl) (by decide) rfl (fun ls hl => ?_)
      refine lv_goto (tgt := 5) hx hb dX1_digestFrom_30 (by decide) ?_
      exact ih x_3 x_4 _ _ _ hP hD hS (lv_sub hl [2, 1, 0] rfl) hw
def wp_X1_digestFrom_L36 (infants : Int32) (retired : Int32) (notes : Int32) (sounds : Int32) (kind : Nat → Int32) (months : Nat → Int32) (home : Nat → Int32) (nurse : Nat → Int32) (skills : Nat → Int32) (noteRow : Nat → Int32) (soundRow : Nat → Int32) (Post : Int64 → Prop) (K_128 : Int64 → Prop) : Nat → Int64 → Int32 → Prop
  | 0, _, _ => False
  | n + 1, v3, v5 => ((infants ≤ v5 → K_128 v3) ∧ (¬ infants ≤ v5 → (vp_in v5 6 ∧ (∀ x_8 : Int64, x_8 = (31 * v3) + ((kind v5.toNatClampNeg).toInt64) → (∀ x_9 : Int64, x_9 = (31 * x_8) + ((months v5.toNatClampNeg).toInt64) → (∀ x_10 : Int64, x_10 = (31 * x_9) + ((home v5.toNatClampNeg).toInt64) → (∀ x_11 : Int64, x_11 = (31 * x_10) + ((nurse v5.toNatClampNeg).toInt64) → (∀ x_12 : Int64, x_12 = (31 * x_11) + (((retired >>> (v5 &&& 31)) &&& 1).toInt64) → (∀ x_13 : Int32, x_13 = v5 + 1 → wp_X1_digestFrom_L36 infants retired notes sounds kind months home nurse skills noteRow soundRow Post K_128 n x_12 x_13)))))))))
set_option maxHeartbeats 4000000 in
set_option maxRecDepth 100000 in
theorem k_X1_digestFrom_L36 {p : Program} {l : Launch} {e : Env} {s : State} {m : MethodId} {ar : Array Value} {bl : List Frame} {meth : Method} {c : Code} {D : va_G} {A : Nat → Prop} {cI cB cZ cP cC : ClassId} {a_c a_c_kind a_c_months a_c_home a_c_nurse a_c_skills a_c_noteRow a_c_soundRow a_c_pastRow a_K : Nat} {infants : Int32} {retired : Int32} {month : Int32} {notes : Int32} {sounds : Int32} {pasts : Int32} {kind : Nat → Int32} {months : Nat → Int32} {home : Nat → Int32} {nurse : Nat → Int32} {skills : Nat → Int32} {noteRow : Nat → Int32} {soundRow : Nat → Int32} {Post : Int64 → Prop} {K_128 : Int64 → Prop} (C0 : mxC p s m ar meth c cX1_digestFrom RX1 (some .long) 6 D (mxTy cI cB cZ cP cC) A)
    (hK_128 : ∀ (v3 : Int64) (H : Heap) (locs : List Loc) (ls : Array Slot), va_P D vwCl (ww_X1_digestFrom a_c a_c_kind a_c_months a_c_home a_c_nurse a_c_skills a_c_noteRow a_c_soundRow a_c_pastRow a_K cI cB cZ cP cC infants retired month notes sounds pasts kind months home nurse skills noteRow soundRow) H → va_D A (ww_X1_digestFrom a_c a_c_kind a_c_months a_c_home a_c_nurse a_c_skills a_c_noteRow a_c_soundRow a_c_pastRow a_K cI cB cZ cP cC infants retired month notes sounds pasts kind months home nurse skills noteRow soundRow) → va_S A s.heap H locs → lv_has ls 6 [(0, .ref a_c), (3, .long v3)] → K_128 v3 → W p l e rm_X1_digestFrom s m ar bl meth c H locs 0 0 (MQ bl (qq_X1_digestFrom D a_c a_c_kind a_c_months a_c_home a_c_nurse a_c_skills a_c_noteRow a_c_soundRow a_c_pastRow a_K cI cB cZ cP cC infants retired month notes sounds pasts kind months home nurse skills noteRow soundRow Post A) ar s 0 0 A) (F0 m 128 ls [])) :
    ∀ (n : Nat) (v3 : Int64) (v5 : Int32) (H : Heap) (locs : List Loc) (ls : Array Slot), va_P D vwCl (ww_X1_digestFrom a_c a_c_kind a_c_months a_c_home a_c_nurse a_c_skills a_c_noteRow a_c_soundRow a_c_pastRow a_K cI cB cZ cP cC infants retired month notes sounds pasts kind months home nurse skills noteRow soundRow) H → va_D A (ww_X1_digestFrom a_c a_c_kind a_c_months a_c_home a_c_nurse a_c_skills a_c_noteRow a_c_soundRow a_c_pastRow a_K cI cB cZ cP cC infants retired month notes sounds pasts kind months home nurse skills noteRow soundRow) → va_S A s.heap H locs → lv_has ls 6 [(0, .ref a_c), (3, .long v3), (5, .int v5)] → wp_X1_digestFrom_L36 infants retired notes sounds kind months home nurse skills noteRow soundRow Post K_128 n v3 v5 → W p l e rm_X1_digestFrom s m ar bl meth c H locs 0 0 (MQ bl (qq_X1_digestFrom D a_c a_c_kind a_c_months a_c_home a_c_nurse a_c_skills a_c_noteRow a_c_soundRow a_c_pastRow a_K cI cB cZ cP cC infants retired month notes sounds pasts kind months home nurse skills noteRow soundRow Post A) ar s 0 0 A) (F0 m 36 ls []) := by
  obtain ⟨hx, hb, hr, hlocks, hml, hown, hts, hK, hA⟩ := id C0
  intro n
  induction n with
  | zero =>
    intro v3 v5 H locs ls hP hD hS hl hw
    exact absurd hw (fun h => h)
  | succ n ih =>
    intro v3 v5 H locs ls hP hD hS hl hw
    refine lv_iload hx hb dX1_digestFrom_36 (lv_at hl 2 rfl) ?_
    refine lv_aload_n hx hb dX1_digestFrom_38 rfl (lv_at hl 0 rfl) ?_
    refine mx_get (ci := 1) (C := RX1) (T := TX1) (N := 15) hx hb hown in_wsX10 hts hK hP 0 rfl rfl 9 (by decide) q_118 rfl (v := .int infants) rfl dX1_digestFrom_39 ?_
    refine lv_icmp_ge (tgt := 128) hx hb dX1_digestFrom_42 (by decide) (fun c_6 => ?_) (fun c_6 => ?_)
    · replace hw := hw.1 c_6
      exact hK_128 v3 _ _ _ hP hD hS (lv_sub hl [0, 1] rfl) hw
    · replace hw := hw.2 c_6
      refine lv_ldc2 (v := 31) hx hb hown (hts _ q_963) dX1_digestFrom_45 ?_
      refine lv_lload_n hx hb dX1_digestFrom_48 rfl (lv_at hl 1 rfl) ?_
      refine lv_lmul hx hb dX1_digestFrom_49 ?_
      refine lv_aload_n hx hb dX1_digestFrom_50 rfl (lv_at hl 0 rfl) ?_
      refine mx_get (ci := 1) (C := RX1) (T := TX1) (N := 15) hx hb hown in_wsX10 hts hK hP 0 rfl rfl 1 (by decide) q_65 rfl (v := .ref a_c_kind) rfl dX1_digestFrom_51 ?_
      refine lv_iload hx hb dX1_digestFrom_54 (lv_at hl 2 rfl) ?_
      obtain ⟨h_7, hw⟩ := hw
      refine mx_iald hx hb hK hP 1 0 rfl rfl h_7 (kind v5.toNatClampNeg) rfl dX1_digestFrom_56 ?_
      refine lv_i2l (v := (kind v5.toNatClampNeg).toInt64) hx hb dX1_digestFrom_57 rfl ?_
      refine lv_ladd hx hb dX1_digestFrom_58 ?_
      refine lv_topl (fun x_8 ex_8 => ?_)
      replace hw := hw x_8 ex_8
      refine lv_lstore_n (lv' := [(3, .long x_8), (0, .ref a_c), (5, .int v5)]) hx hb dX1_digestFrom_59 rfl hl (by decide) rfl (fun ls hl => ?_)
      refine lv_ldc2 (v := 31) hx hb hown (hts _ q_963) dX1_digestFrom_60 ?_
      refine lv_lload_n hx hb dX1_digestFrom_63 rfl (lv_at hl 0 rfl) ?_
      refine lv_lmul hx hb dX1_digestFrom_64 ?_
      refine lv_aload_n hx hb dX1_digestFrom_65 rfl (lv_at hl 1 rfl) ?_
      refine mx_get (ci := 1) (C := RX1) (T := TX1) (N := 15) hx hb hown in_wsX10 hts hK hP 0 rfl rfl 2 (by decide) q_66 rfl (v := .ref a_c_months) rfl dX1_digestFrom_66 ?_
      refine lv_iload hx hb dX1_digestFrom_69 (lv_at hl 2 rfl) ?_
      refine mx_iald hx hb hK hP 2 0 rfl rfl h_7 (months v5.toNatClampNeg) rfl dX1_digestFrom_71 ?_
      refine lv_i2l (v := (months v5.toNatClampNeg).toInt64) hx hb dX1_digestFrom_72 rfl ?_
      refine lv_ladd hx hb dX1_digestFrom_73 ?_
      refine lv_topl (fun x_9 ex_9 => ?_)
      replace hw := hw x_9 ex_9
      refine lv_lstore_n (lv' := [(3, .long x_9), (0, .ref a_c), (5, .int v5)]) hx hb dX1_digestFrom_74 rfl hl (by decide) rfl (fun ls hl => ?_)
      refine lv_ldc2 (v := 31) hx hb hown (hts _ q_963) dX1_digestFrom_75 ?_
      refine lv_lload_n hx hb dX1_digestFrom_78 rfl (lv_at hl 0 rfl) ?_
      refine lv_lmul hx hb dX1_digestFrom_79 ?_
      refine lv_aload_n hx hb dX1_digestFrom_80 rfl (lv_at hl 1 rfl) ?_
      refine mx_get (ci := 1) (C := RX1) (T := TX1) (N := 15) hx hb hown in_wsX10 hts hK hP 0 rfl rfl 3 (by decide) q_67 rfl (v := .ref a_c_home) rfl dX1_digestFrom_81 ?_
      refine lv_iload hx hb dX1_digestFrom_84 (lv_at hl 2 rfl) ?_
      refine mx_iald hx hb hK hP 3 0 rfl rfl h_7 (home v5.toNatClampNeg) rfl dX1_digestFrom_86 ?_
      refine lv_i2l (v := (home v5.toNatClampNeg).toInt64) hx hb dX1_digestFrom_87 rfl ?_
      refine lv_ladd hx hb dX1_digestFrom_88 ?_
      refine lv_topl (fun x_10 ex_10 => ?_)
      replace hw := hw x_10 ex_10
      refine lv_lstore_n (lv' := [(3, .long x_10), (0, .ref a_c), (5, .int v5)]) hx hb dX1_digestFrom_89 rfl hl (by decide) rfl (fun ls hl => ?_)
      refine lv_ldc2 (v := 31) hx hb hown (hts _ q_963) dX1_digestFrom_90 ?_
      refine lv_lload_n hx hb dX1_digestFrom_93 rfl (lv_at hl 0 rfl) ?_
      refine lv_lmul hx hb dX1_digestFrom_94 ?_
      refine lv_aload_n hx hb dX1_digestFrom_95 rfl (lv_at hl 1 rfl) ?_
      refine mx_get (ci := 1) (C := RX1) (T := TX1) (N := 15) hx hb hown in_wsX10 hts hK hP 0 rfl rfl 4 (by decide) q_68 rfl (v := .ref a_c_nurse) rfl dX1_digestFrom_96 ?_
      refine lv_iload hx hb dX1_digestFrom_99 (lv_at hl 2 rfl) ?_
      refine mx_iald hx hb hK hP 4 0 rfl rfl h_7 (nurse v5.toNatClampNeg) rfl dX1_digestFrom_101 ?_
      refine lv_i2l (v := (nurse v5.toNatClampNeg).toInt64) hx hb dX1_digestFrom_102 rfl ?_
      refine lv_ladd hx hb dX1_digestFrom_103 ?_
      refine lv_topl (fun x_11 ex_11 => ?_)
      replace hw := hw x_11 ex_11
      refine lv_lstore_n (lv' := [(3, .long x_11), (0, .ref a_c), (5, .int v5)]) hx hb dX1_digestFrom_104 rfl hl (by decide) rfl (fun ls hl => ?_)
      refine lv_ldc2 (v := 31) hx hb hown (hts _ q_963) dX1_digestFrom_105 ?_
      refine lv_lload_n hx hb dX1_digestFrom_108 rfl (lv_at hl 0 rfl) ?_
      refine lv_lmul hx hb dX1_digestFrom_109 ?_
      refine lv_aload_n hx hb dX1_digestFrom_110 rfl (lv_at hl 1 rfl) ?_
      refine mx_get (ci := 1) (C := RX1) (T := TX1) (N := 15) hx hb hown in_wsX10 hts hK hP 0 rfl rfl 10 (by decide) q_119 rfl (v := .int retired) rfl dX1_digestFrom_111 ?_
      refine lv_iload hx hb dX1_digestFrom_114 (lv_at hl 2 rfl) ?_
      refine lv_ishr hx hb dX1_digestFrom_116 ?_
      refine lv_iconst (v := 1) hx hb dX1_digestFrom_117 (by decide) ?_
      refine lv_iand hx hb dX1_digestFrom_118 ?_
      refine lv_i2l (v := ((retired >>> (v5 &&& 31)) &&& 1).toInt64) hx hb dX1_digestFrom_119 rfl ?_
      refine lv_ladd hx hb dX1_digestFrom_120 ?_
      refine lv_topl (fun x_12 ex_12 => ?_)
      replace hw := hw x_12 ex_12
      refine lv_lstore_n (lv' := [(3, .long x_12), (0, .ref a_c), (5, .int v5)]) hx hb dX1_digestFrom_121 rfl hl (by decide) rfl (fun ls hl => ?_)
      obtain ⟨x_13, ex_13⟩ : ∃ y : Int32, y = v5 + 1 := ⟨_, rfl⟩
      replace hw := hw x_13 ex_13
      refine lv_iinc (v := x_13) (lv' := [(5, .int x_13), (3, .long x_12), (0, .ref a_c)]) hx hb dX1_digestFrom_122 hl (k := 2) rfl (by rw [ex_13]; rfl) (by decide) rfl (fun ls hl => ?_)
      refine lv_goto (tgt := 36) hx hb dX1_digestFrom_125 (by decide) ?_
      exact ih x_12 x_13 _ _ _ hP hD hS (lv_sub hl [2, 1, 0] rfl) hw
def wp_X1_digestFrom_L131 (infants : Int32) (retired : Int32) (notes : Int32) (sounds : Int32) (kind : Nat → Int32) (months : Nat → Int32) (home : Nat → Int32) (nurse : Nat → Int32) (skills : Nat → Int32) (noteRow : Nat → Int32) (soundRow : Nat → Int32) (Post : Int64 → Prop) (K_163 : Int64 → Prop) : Nat → Int64 → Int32 → Prop
  | 0, _, _ => False
  | n + 1, v3, v5 => (((notes * 5) ≤ v5 → K_163 v3) ∧ (¬ (notes * 5) ≤ v5 → (vp_in v5 30 ∧ (∀ x_17 : Int64, x_17 = (31 * v3) + ((noteRow v5.toNatClampNeg).toInt64) → (∀ x_18 : Int32, x_18 = v5 + 1 → wp_X1_digestFrom_L131 infants retired notes sounds kind months home nurse skills noteRow soundRow Post K_163 n x_17 x_18)))))
set_option maxHeartbeats 4000000 in
set_option maxRecDepth 100000 in
theorem k_X1_digestFrom_L131 {p : Program} {l : Launch} {e : Env} {s : State} {m : MethodId} {ar : Array Value} {bl : List Frame} {meth : Method} {c : Code} {D : va_G} {A : Nat → Prop} {cI cB cZ cP cC : ClassId} {a_c a_c_kind a_c_months a_c_home a_c_nurse a_c_skills a_c_noteRow a_c_soundRow a_c_pastRow a_K : Nat} {infants : Int32} {retired : Int32} {month : Int32} {notes : Int32} {sounds : Int32} {pasts : Int32} {kind : Nat → Int32} {months : Nat → Int32} {home : Nat → Int32} {nurse : Nat → Int32} {skills : Nat → Int32} {noteRow : Nat → Int32} {soundRow : Nat → Int32} {Post : Int64 → Prop} {K_163 : Int64 → Prop} (C0 : mxC p s m ar meth c cX1_digestFrom RX1 (some .long) 6 D (mxTy cI cB cZ cP cC) A)
    (hK_163 : ∀ (v3 : Int64) (H : Heap) (locs : List Loc) (ls : Array Slot), va_P D vwCl (ww_X1_digestFrom a_c a_c_kind a_c_months a_c_home a_c_nurse a_c_skills a_c_noteRow a_c_soundRow a_c_pastRow a_K cI cB cZ cP cC infants retired month notes sounds pasts kind months home nurse skills noteRow soundRow) H → va_D A (ww_X1_digestFrom a_c a_c_kind a_c_months a_c_home a_c_nurse a_c_skills a_c_noteRow a_c_soundRow a_c_pastRow a_K cI cB cZ cP cC infants retired month notes sounds pasts kind months home nurse skills noteRow soundRow) → va_S A s.heap H locs → lv_has ls 6 [(0, .ref a_c), (3, .long v3)] → K_163 v3 → W p l e rm_X1_digestFrom s m ar bl meth c H locs 0 0 (MQ bl (qq_X1_digestFrom D a_c a_c_kind a_c_months a_c_home a_c_nurse a_c_skills a_c_noteRow a_c_soundRow a_c_pastRow a_K cI cB cZ cP cC infants retired month notes sounds pasts kind months home nurse skills noteRow soundRow Post A) ar s 0 0 A) (F0 m 163 ls [])) :
    ∀ (n : Nat) (v3 : Int64) (v5 : Int32) (H : Heap) (locs : List Loc) (ls : Array Slot), va_P D vwCl (ww_X1_digestFrom a_c a_c_kind a_c_months a_c_home a_c_nurse a_c_skills a_c_noteRow a_c_soundRow a_c_pastRow a_K cI cB cZ cP cC infants retired month notes sounds pasts kind months home nurse skills noteRow soundRow) H → va_D A (ww_X1_digestFrom a_c a_c_kind a_c_months a_c_home a_c_nurse a_c_skills a_c_noteRow a_c_soundRow a_c_pastRow a_K cI cB cZ cP cC infants retired month notes sounds pasts kind months home nurse skills noteRow soundRow) → va_S A s.heap H locs → lv_has ls 6 [(0, .ref a_c), (3, .long v3), (5, .int v5)] → wp_X1_digestFrom_L131 infants retired notes sounds kind months home nurse skills noteRow soundRow Post K_163 n v3 v5 → W p l e rm_X1_digestFrom s m ar bl meth c H locs 0 0 (MQ bl (qq_X1_digestFrom D a_c a_c_kind a_c_months a_c_home a_c_nurse a_c_skills a_c_noteRow a_c_soundRow a_c_pastRow a_K cI cB cZ cP cC infants retired month notes sounds pasts kind months home nurse skills noteRow soundRow Post A) ar s 0 0 A) (F0 m 131 ls []) := by
  obtain ⟨hx, hb, hr, hlocks, hml, hown, hts, hK, hA⟩ := id C0
  intro n
  induction n with
  | zero =>
    intro v3 v5 H locs ls hP hD hS hl hw
    exact absurd hw (fun h => h)
  | succ n ih =>
    intro v3 v5 H locs ls hP hD hS hl hw
    refine lv_iload hx hb dX1_digestFrom_131 (lv_at hl 2 rfl) ?_
    refine lv_aload_n hx hb dX1_digestFrom_133 rfl (lv_at hl 0 rfl) ?_
    refine mx_get (ci := 1) (C := RX1) (T := TX1) (N := 15) hx hb hown in_wsX10 hts hK hP 0 rfl rfl 12 (by decide) q_121 rfl (v := .int notes) rfl dX1_digestFrom_134 ?_
    refine lv_iconst (v := 5) hx hb dX1_digestFrom_137 (by decide) ?_
    refine lv_imul hx hb dX1_digestFrom_138 ?_
    refine lv_icmp_ge (tgt := 163) hx hb dX1_digestFrom_139 (by decide) (fun c_15 => ?_) (fun c_15 => ?_)
    · replace hw := hw.1 c_15
      exact hK_163 v3 _ _ _ hP hD hS (lv_sub hl [0, 1] rfl) hw
    · replace hw := hw.2 c_15
      refine lv_ldc2 (v := 31) hx hb hown (hts _ q_963) dX1_digestFrom_142 ?_
      refine lv_lload_n hx hb dX1_digestFrom_145 rfl (lv_at hl 1 rfl) ?_
      refine lv_lmul hx hb dX1_digestFrom_146 ?_
      refine lv_aload_n hx hb dX1_digestFrom_147 rfl (lv_at hl 0 rfl) ?_
      refine mx_get (ci := 1) (C := RX1) (T := TX1) (N := 15) hx hb hown in_wsX10 hts hK hP 0 rfl rfl 6 (by decide) q_70 rfl (v := .ref a_c_noteRow) rfl dX1_digestFrom_148 ?_
      refine lv_iload hx hb dX1_digestFrom_151 (lv_at hl 2 rfl) ?_
      obtain ⟨h_16, hw⟩ := hw
      refine mx_iald hx hb hK hP 6 0 rfl rfl h_16 (noteRow v5.toNatClampNeg) rfl dX1_digestFrom_153 ?_
      refine lv_i2l (v := (noteRow v5.toNatClampNeg).toInt64) hx hb dX1_digestFrom_154 rfl ?_
      refine lv_ladd hx hb dX1_digestFrom_155 ?_
      refine lv_topl (fun x_17 ex_17 => ?_)
      replace hw := hw x_17 ex_17
      refine lv_lstore_n (lv' := [(3, .long x_17), (0, .ref a_c), (5, .int v5)]) hx hb dX1_digestFrom_156 rfl hl (by decide) rfl (fun ls hl => ?_)
      obtain ⟨x_18, ex_18⟩ : ∃ y : Int32, y = v5 + 1 := ⟨_, rfl⟩
      replace hw := hw x_18 ex_18
      refine lv_iinc (v := x_18) (lv' := [(5, .int x_18), (3, .long x_17), (0, .ref a_c)]) hx hb dX1_digestFrom_157 hl (k := 2) rfl (by rw [ex_18]; rfl) (by decide) rfl (fun ls hl => ?_)
      refine lv_goto (tgt := 131) hx hb dX1_digestFrom_160 (by decide) ?_
      exact ih x_17 x_18 _ _ _ hP hD hS (lv_sub hl [2, 1, 0] rfl) hw
def wp_X1_digestFrom_L166 (infants : Int32) (retired : Int32) (notes : Int32) (sounds : Int32) (kind : Nat → Int32) (months : Nat → Int32) (home : Nat → Int32) (nurse : Nat → Int32) (skills : Nat → Int32) (noteRow : Nat → Int32) (soundRow : Nat → Int32) (Post : Int64 → Prop)  : Nat → Int64 → Int32 → Prop
  | 0, _, _ => False
  | n + 1, v3, v5 => (((sounds * 2) ≤ v5 → Post v3) ∧ (¬ (sounds * 2) ≤ v5 → (vp_in v5 12 ∧ (∀ x_22 : Int64, x_22 = (31 * v3) + ((soundRow v5.toNatClampNeg).toInt64) → (∀ x_23 : Int32, x_23 = v5 + 1 → wp_X1_digestFrom_L166 infants retired notes sounds kind months home nurse skills noteRow soundRow Post  n x_22 x_23)))))
set_option maxHeartbeats 4000000 in
set_option maxRecDepth 100000 in
theorem k_X1_digestFrom_L166 {p : Program} {l : Launch} {e : Env} {s : State} {m : MethodId} {ar : Array Value} {bl : List Frame} {meth : Method} {c : Code} {D : va_G} {A : Nat → Prop} {cI cB cZ cP cC : ClassId} {a_c a_c_kind a_c_months a_c_home a_c_nurse a_c_skills a_c_noteRow a_c_soundRow a_c_pastRow a_K : Nat} {infants : Int32} {retired : Int32} {month : Int32} {notes : Int32} {sounds : Int32} {pasts : Int32} {kind : Nat → Int32} {months : Nat → Int32} {home : Nat → Int32} {nurse : Nat → Int32} {skills : Nat → Int32} {noteRow : Nat → Int32} {soundRow : Nat → Int32} {Post : Int64 → Prop} (C0 : mxC p s m ar meth c cX1_digestFrom RX1 (some .long) 6 D (mxTy cI cB cZ cP cC) A) :
    ∀ (n : Nat) (v3 : Int64) (v5 : Int32) (H : Heap) (locs : List Loc) (ls : Array Slot), va_P D vwCl (ww_X1_digestFrom a_c a_c_kind a_c_months a_c_home a_c_nurse a_c_skills a_c_noteRow a_c_soundRow a_c_pastRow a_K cI cB cZ cP cC infants retired month notes sounds pasts kind months home nurse skills noteRow soundRow) H → va_D A (ww_X1_digestFrom a_c a_c_kind a_c_months a_c_home a_c_nurse a_c_skills a_c_noteRow a_c_soundRow a_c_pastRow a_K cI cB cZ cP cC infants retired month notes sounds pasts kind months home nurse skills noteRow soundRow) → va_S A s.heap H locs → lv_has ls 6 [(0, .ref a_c), (3, .long v3), (5, .int v5)] → wp_X1_digestFrom_L166 infants retired notes sounds kind months home nurse skills noteRow soundRow Post  n v3 v5 → W p l e rm_X1_digestFrom s m ar bl meth c H locs 0 0 (MQ bl (qq_X1_digestFrom D a_c a_c_kind a_c_months a_c_home a_c_nurse a_c_skills a_c_noteRow a_c_soundRow a_c_pastRow a_K cI cB cZ cP cC infants retired month notes sounds pasts kind months home nurse skills noteRow soundRow Post A) ar s 0 0 A) (F0 m 166 ls []) := by
  obtain ⟨hx, hb, hr, hlocks, hml, hown, hts, hK, hA⟩ := id C0
  intro n
  induction n with
  | zero =>
    intro v3 v5 H locs ls hP hD hS hl hw
    exact absurd hw (fun h => h)
  | succ n ih =>
    intro v3 v5 H locs ls hP hD hS hl hw
    refine lv_iload hx hb dX1_digestFrom_166 (lv_at hl 2 rfl) ?_
    refine lv_aload_n hx hb dX1_digestFrom_168 rfl (lv_at hl 0 rfl) ?_
    refine mx_get (ci := 1) (C := RX1) (T := TX1) (N := 15) hx hb hown in_wsX10 hts hK hP 0 rfl rfl 13 (by decide) q_122 rfl (v := .int sounds) rfl dX1_digestFrom_169 ?_
    refine lv_iconst (v := 2) hx hb dX1_digestFrom_172 (by decide) ?_
    refine lv_imul hx hb dX1_digestFrom_173 ?_
    refine lv_icmp_ge (tgt := 198) hx hb dX1_digestFrom_174 (by decide) (fun c_20 => ?_) (fun c_20 => ?_)
    · replace hw := hw.1 c_20
      refine lv_lload_n hx hb dX1_digestFrom_198 rfl (lv_at hl 1 rfl) ?_
      exact mx_lret () hx hb hr hlocks hw hK hP hD hS dX1_digestFrom_199
    · replace hw := hw.2 c_20
      refine lv_ldc2 (v := 31) hx hb hown (hts _ q_963) dX1_digestFrom_177 ?_
      refine lv_lload_n hx hb dX1_digestFrom_180 rfl (lv_at hl 1 rfl) ?_
      refine lv_lmul hx hb dX1_digestFrom_181 ?_
      refine lv_aload_n hx hb dX1_digestFrom_182 rfl (lv_at hl 0 rfl) ?_
      refine mx_get (ci := 1) (C := RX1) (T := TX1) (N := 15) hx hb hown in_wsX10 hts hK hP 0 rfl rfl 7 (by decide) q_71 rfl (v := .ref a_c_soundRow) rfl dX1_digestFrom_183 ?_
      refine lv_iload hx hb dX1_digestFrom_186 (lv_at hl 2 rfl) ?_
      obtain ⟨h_21, hw⟩ := hw
      refine mx_iald hx hb hK hP 7 0 rfl rfl h_21 (soundRow v5.toNatClampNeg) rfl dX1_digestFrom_188 ?_
      refine lv_i2l (v := (soundRow v5.toNatClampNeg).toInt64) hx hb dX1_digestFrom_189 rfl ?_
      refine lv_ladd hx hb dX1_digestFrom_190 ?_
      refine lv_topl (fun x_22 ex_22 => ?_)
      replace hw := hw x_22 ex_22
      refine lv_lstore_n (lv' := [(3, .long x_22), (0, .ref a_c), (5, .int v5)]) hx hb dX1_digestFrom_191 rfl hl (by decide) rfl (fun ls hl => ?_)
      obtain ⟨x_23, ex_23⟩ : ∃ y : Int32, y = v5 + 1 := ⟨_, rfl⟩
      replace hw := hw x_23 ex_23
      refine lv_iinc (v := x_23) (lv' := [(5, .int x_23), (3, .long x_22), (0, .ref a_c)]) hx hb dX1_digestFrom_192 hl (k := 2) rfl (by rw [ex_23]; rfl) (by decide) rfl (fun ls hl => ?_)
      refine lv_goto (tgt := 166) hx hb dX1_digestFrom_195 (by decide) ?_
      exact ih x_22 x_23 _ _ _ hP hD hS (lv_sub hl [2, 1, 0] rfl) hw
def wp_X1_digestFrom (infants : Int32) (retired : Int32) (notes : Int32) (sounds : Int32) (kind : Nat → Int32) (months : Nat → Int32) (home : Nat → Int32) (nurse : Nat → Int32) (skills : Nat → Int32) (noteRow : Nat → Int32) (soundRow : Nat → Int32) (v1 : Int64) (Post : Int64 → Prop) : Prop :=
  (∃ k_27 : Nat, wp_X1_digestFrom_L5 infants retired notes sounds kind months home nurse skills noteRow soundRow Post (fun (v3_5 : Int64) => (∃ k_26 : Nat, wp_X1_digestFrom_L36 infants retired notes sounds kind months home nurse skills noteRow soundRow Post (fun (v3_14 : Int64) => (∃ k_25 : Nat, wp_X1_digestFrom_L131 infants retired notes sounds kind months home nurse skills noteRow soundRow Post (fun (v3_19 : Int64) => (∃ k_24 : Nat, wp_X1_digestFrom_L166 infants retired notes sounds kind months home nurse skills noteRow soundRow Post k_24 v3_19 0)) k_25 v3_14 0)) k_26 v3_5 0)) k_27 v1 0)
set_option maxHeartbeats 4000000 in
set_option maxRecDepth 100000 in
theorem c_X1_digestFrom (l : Launch) (D : va_G) (cI cB cZ cP cC : ClassId) (a_c a_c_kind a_c_months a_c_home a_c_nurse a_c_skills a_c_noteRow a_c_soundRow a_c_pastRow a_K : Nat) (infants : Int32) (retired : Int32) (month : Int32) (notes : Int32) (sounds : Int32) (pasts : Int32) (kind : Nat → Int32) (months : Nat → Int32) (home : Nat → Int32) (nurse : Nat → Int32) (skills : Nat → Int32) (noteRow : Nat → Int32) (soundRow : Nat → Int32) (v1 : Int64) (sz : Nat) (Post : Int64 → Prop) (hw : wp_X1_digestFrom infants retired notes sounds kind months home nurse skills noteRow soundRow v1 Post) :
    Met l yX1_digestFrom (Cond.code yX1_digestFrom cX1_digestFrom 6 (some .long) :: wsAll) rm_X1_digestFrom (va_Pc [.ref a_c, .long v1] (mxP D (mxTy cI cB cZ cP cC) sz (ww_X1_digestFrom a_c a_c_kind a_c_months a_c_home a_c_nurse a_c_skills a_c_noteRow a_c_soundRow a_c_pastRow a_K cI cB cZ cP cC infants retired month notes sounds pasts kind months home nurse skills noteRow soundRow))) (qq_X1_digestFrom D a_c a_c_kind a_c_months a_c_home a_c_nurse a_c_skills a_c_noteRow a_c_soundRow a_c_pastRow a_K cI cB cZ cP cC infants retired month notes sounds pasts kind months home nurse skills noteRow soundRow Post (va_A (ww_X1_digestFrom a_c a_c_kind a_c_months a_c_home a_c_nurse a_c_skills a_c_noteRow a_c_soundRow a_c_pastRow a_K cI cB cZ cP cC infants retired month notes sounds pasts kind months home nurse skills noteRow soundRow) sz)) 0 0 (va_A (ww_X1_digestFrom a_c a_c_kind a_c_months a_c_home a_c_nurse a_c_skills a_c_noteRow a_c_soundRow a_c_pastRow a_K cI cB cZ cP cC infants retired month notes sounds pasts kind months home nurse skills noteRow soundRow) sz) := by
  refine mx_of (Qc := qq_X1_digestFrom D a_c a_c_kind a_c_months a_c_home a_c_nurse a_c_skills a_c_noteRow a_c_soundRow a_c_pastRow a_K cI cB cZ cP cC infants retired month notes sounds pasts kind months home nurse skills noteRow soundRow Post) (by decide) (Nat.le_of_ble_eq_true rfl) ?_
  intro p e s m bl meth c A ls C0 hP hD hS hl
  replace C0 : mxC p s m [.ref a_c, .long v1].toArray meth c cX1_digestFrom RX1 (some .long) 6 D (mxTy cI cB cZ cP cC) A := C0
  obtain ⟨hx, hb, hr, hlocks, hml, hown, hts, hK, hA⟩ := id C0
  replace hl : lv_has ls 6 [(0, .ref a_c), (1, .long v1)] := hl
  unfold wp_X1_digestFrom at hw
  refine lv_lload_n hx hb dX1_digestFrom_0 rfl (lv_at hl 1 rfl) ?_
  refine lv_lstore_n (lv' := [(3, .long v1), (0, .ref a_c), (1, .long v1)]) hx hb dX1_digestFrom_1 rfl hl (by decide) rfl (fun ls hl => ?_)
  refine lv_iconst (v := 0) hx hb dX1_digestFrom_2 (by decide) ?_
  refine lv_istore (lv' := [(5, .int 0), (3, .long v1), (0, .ref a_c), (1, .long v1)]) hx hb dX1_digestFrom_3 hl (by decide) rfl (fun ls hl => ?_)
  obtain ⟨n0, hw⟩ := hw
  refine k_X1_digestFrom_L5 C0 ?_ n0 v1 0 _ _ _ hP hD hS (lv_sub hl [2, 1, 0] rfl) hw
  intro v3_5 H locs ls hP hD hS hl hw
  refine lv_iconst (v := 0) hx hb dX1_digestFrom_33 (by decide) ?_
  refine lv_istore (lv' := [(5, .int 0), (0, .ref a_c), (3, .long v3_5)]) hx hb dX1_digestFrom_34 hl (by decide) rfl (fun ls hl => ?_)
  obtain ⟨n0, hw⟩ := hw
  refine k_X1_digestFrom_L36 C0 ?_ n0 v3_5 0 _ _ _ hP hD hS (lv_sub hl [1, 2, 0] rfl) hw
  intro v3_14 H locs ls hP hD hS hl hw
  refine lv_iconst (v := 0) hx hb dX1_digestFrom_128 (by decide) ?_
  refine lv_istore (lv' := [(5, .int 0), (0, .ref a_c), (3, .long v3_14)]) hx hb dX1_digestFrom_129 hl (by decide) rfl (fun ls hl => ?_)
  obtain ⟨n0, hw⟩ := hw
  refine k_X1_digestFrom_L131 C0 ?_ n0 v3_14 0 _ _ _ hP hD hS (lv_sub hl [1, 2, 0] rfl) hw
  intro v3_19 H locs ls hP hD hS hl hw
  refine lv_iconst (v := 0) hx hb dX1_digestFrom_163 (by decide) ?_
  refine lv_istore (lv' := [(5, .int 0), (0, .ref a_c), (3, .long v3_19)]) hx hb dX1_digestFrom_164 hl (by decide) rfl (fun ls hl => ?_)
  obtain ⟨n0, hw⟩ := hw
  refine k_X1_digestFrom_L166 C0  n0 v3_19 0 _ _ _ hP hD hS (lv_sub hl [1, 2, 0] rfl) hw
