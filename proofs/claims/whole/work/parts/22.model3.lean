/-! PramStateModel.areAlike(IIII)Z -/
abbrev ww_X10_areAlike (cI cB cZ cP cC : ClassId)  : va_W := []
abbrev qq_X10_areAlike (D : va_G) (cI cB cZ cP cC : ClassId)  (Post : Int32 → Prop) (A : Nat → Prop) : Array Value → State → Outcome → State → Prop := va_Qi (fun (r : Int32) (u : Unit) => Post r) (fun (u : Unit) t => mxB D (mxTy cI cB cZ cP cC) A (ww_X10_areAlike cI cB cZ cP cC) t) A
abbrev rm_X10_areAlike : Room := { frames := 3, cells := 0, slots := 0, locals := 69 }
theorem hd_X10_areAlike : yX10_areAlike.cls ≠ "java/lang/invoke/MethodHandle" ∧ yX10_areAlike.cls ≠ "java/lang/invoke/VarHandle" ∧ (parseMethodDescriptor yX10_areAlike.desc).map (fun d => d.parameters.length) = some 4 := by decide +kernel
def wp_X10_areAlike (v0 : Int32) (v1 : Int32) (v2 : Int32) (v3 : Int32) (Post : Int32 → Prop) : Prop :=
  (wp_X10_sleepsAs v0 v3 (fun r_1 => (wp_X10_sleepsAs v1 v3 (fun r_2 => ((r_1 = r_2 → (wp_X10_criesThen v0 v2 v3 (fun r_4 => (wp_X10_criesThen v1 v2 v3 (fun r_5 => ((r_4 = r_5 → Post 1) ∧ (¬ r_4 = r_5 → Post 0))))))) ∧ (¬ r_1 = r_2 → Post 0))))))
set_option maxHeartbeats 4000000 in
set_option maxRecDepth 100000 in
theorem c_X10_areAlike (l : Launch) (D : va_G) (cI cB cZ cP cC : ClassId)  (v0 : Int32) (v1 : Int32) (v2 : Int32) (v3 : Int32) (sz : Nat) (Post : Int32 → Prop) (hw : wp_X10_areAlike v0 v1 v2 v3 Post) :
    Met l yX10_areAlike (Cond.code yX10_areAlike cX10_areAlike 4 (some .boolean) :: wsAll) rm_X10_areAlike (va_Pc [.int v0, .int v1, .int v2, .int v3] (mxP D (mxTy cI cB cZ cP cC) sz (ww_X10_areAlike cI cB cZ cP cC))) (qq_X10_areAlike D cI cB cZ cP cC Post (va_A (ww_X10_areAlike cI cB cZ cP cC) sz)) 0 0 (va_A (ww_X10_areAlike cI cB cZ cP cC) sz) := by
  refine mx_of (Qc := qq_X10_areAlike D cI cB cZ cP cC Post) (by decide) (Nat.le_of_ble_eq_true rfl) ?_
  intro p e s m bl meth c A ls C0 hP hD hS hl
  replace C0 : mxC p s m [.int v0, .int v1, .int v2, .int v3].toArray meth c cX10_areAlike RX10 (some .boolean) 4 D (mxTy cI cB cZ cP cC) A := C0
  obtain ⟨hx, hb, hr, hlocks, hml, hown, hts, hK, hA⟩ := id C0
  replace hl : lv_has ls 4 [(0, .int v0), (1, .int v1), (2, .int v2), (3, .int v3)] := hl
  unfold wp_X10_areAlike at hw
  refine lv_iload_n hx hb dX10_areAlike_0 rfl (lv_at hl 0 rfl) ?_
  refine lv_iload_n hx hb dX10_areAlike_1 rfl (lv_at hl 3 rfl) ?_
  refine mx_ki (mx_rS (rm := rm_X10_sleepsAs) (rest := []) hx hb hml hown hts (c_X10_sleepsAs l D cI cB cZ cP cC v0 v3 _ _ hw) q_612 q_613 q_5 q_614 hd_X10_sleepsAs ⟨(Nat.le_of_ble_eq_true rfl), (Nat.le_of_ble_eq_true rfl)⟩ rfl rfl hK hP hD [] rfl rfl rfl hl.1 rfl (Nat.le_of_ble_eq_true rfl) dX10_areAlike_2 ⟨(Nat.le_of_ble_eq_true rfl), (Nat.le_of_ble_eq_true rfl)⟩) hP hD hS hA [] [] [] (fun _ => ww_X10_areAlike cI cB cZ cP cC) rfl rfl rfl (by decide) rfl (fun _ => rfl) (fun r_1 u H locs hw hP hD hS => ?_)
  try dsimp only at hw
  replace hP : va_P D vwCl (ww_X10_areAlike cI cB cZ cP cC) H := hP
  replace hD : va_D A (ww_X10_areAlike cI cB cZ cP cC) := hD
  refine lv_iload_n hx hb dX10_areAlike_5 rfl (lv_at hl 1 rfl) ?_
  refine lv_iload_n hx hb dX10_areAlike_6 rfl (lv_at hl 3 rfl) ?_
  refine mx_ki (mx_rS (rm := rm_X10_sleepsAs) (rest := [.int r_1]) hx hb hml hown hts (c_X10_sleepsAs l D cI cB cZ cP cC v1 v3 _ _ hw) q_612 q_613 q_5 q_614 hd_X10_sleepsAs ⟨(Nat.le_of_ble_eq_true rfl), (Nat.le_of_ble_eq_true rfl)⟩ rfl rfl hK hP hD [] rfl rfl rfl hl.1 rfl (Nat.le_of_ble_eq_true rfl) dX10_areAlike_7 ⟨(Nat.le_of_ble_eq_true rfl), (Nat.le_of_ble_eq_true rfl)⟩) hP hD hS hA [] [] [] (fun _ => ww_X10_areAlike cI cB cZ cP cC) rfl rfl rfl (by decide) rfl (fun _ => rfl) (fun r_2 u H locs hw hP hD hS => ?_)
  try dsimp only at hw
  replace hP : va_P D vwCl (ww_X10_areAlike cI cB cZ cP cC) H := hP
  replace hD : va_D A (ww_X10_areAlike cI cB cZ cP cC) := hD
  refine lv_icmp_ne (tgt := 32) hx hb dX10_areAlike_10 (by decide) (fun c_3 => ?_) (fun c_3 => ?_)
  · replace hw := hw.2 c_3
    refine lv_iconst (v := 0) hx hb dX10_areAlike_32 (by decide) ?_
    exact mx_iret () hx hb hr hlocks rfl hw hK hP hD hS dX10_areAlike_33
  · replace hw := hw.1 c_3
    refine lv_iload_n hx hb dX10_areAlike_13 rfl (lv_at hl 0 rfl) ?_
    refine lv_iload_n hx hb dX10_areAlike_14 rfl (lv_at hl 2 rfl) ?_
    refine lv_iload_n hx hb dX10_areAlike_15 rfl (lv_at hl 3 rfl) ?_
    refine mx_ki (mx_rS (rm := rm_X10_criesThen) (rest := []) hx hb hml hown hts (c_X10_criesThen l D cI cB cZ cP cC v0 v2 v3 _ _ hw) q_819 q_820 q_5 q_821 hd_X10_criesThen ⟨(Nat.le_of_ble_eq_true rfl), (Nat.le_of_ble_eq_true rfl)⟩ rfl rfl hK hP hD [] rfl rfl rfl hl.1 rfl (Nat.le_of_ble_eq_true rfl) dX10_areAlike_16 ⟨(Nat.le_of_ble_eq_true rfl), (Nat.le_of_ble_eq_true rfl)⟩) hP hD hS hA [] [] [] (fun _ => ww_X10_areAlike cI cB cZ cP cC) rfl rfl rfl (by decide) rfl (fun _ => rfl) (fun r_4 u H locs hw hP hD hS => ?_)
    try dsimp only at hw
    replace hP : va_P D vwCl (ww_X10_areAlike cI cB cZ cP cC) H := hP
    replace hD : va_D A (ww_X10_areAlike cI cB cZ cP cC) := hD
    refine lv_iload_n hx hb dX10_areAlike_19 rfl (lv_at hl 1 rfl) ?_
    refine lv_iload_n hx hb dX10_areAlike_20 rfl (lv_at hl 2 rfl) ?_
    refine lv_iload_n hx hb dX10_areAlike_21 rfl (lv_at hl 3 rfl) ?_
    refine mx_ki (mx_rS (rm := rm_X10_criesThen) (rest := [.int r_4]) hx hb hml hown hts (c_X10_criesThen l D cI cB cZ cP cC v1 v2 v3 _ _ hw) q_819 q_820 q_5 q_821 hd_X10_criesThen ⟨(Nat.le_of_ble_eq_true rfl), (Nat.le_of_ble_eq_true rfl)⟩ rfl rfl hK hP hD [] rfl rfl rfl hl.1 rfl (Nat.le_of_ble_eq_true rfl) dX10_areAlike_22 ⟨(Nat.le_of_ble_eq_true rfl), (Nat.le_of_ble_eq_true rfl)⟩) hP hD hS hA [] [] [] (fun _ => ww_X10_areAlike cI cB cZ cP cC) rfl rfl rfl (by decide) rfl (fun _ => rfl) (fun r_5 u H locs hw hP hD hS => ?_)
    try dsimp only at hw
    replace hP : va_P D vwCl (ww_X10_areAlike cI cB cZ cP cC) H := hP
    replace hD : va_D A (ww_X10_areAlike cI cB cZ cP cC) := hD
    refine lv_icmp_ne (tgt := 32) hx hb dX10_areAlike_25 (by decide) (fun c_6 => ?_) (fun c_6 => ?_)
    · replace hw := hw.2 c_6
      refine lv_iconst (v := 0) hx hb dX10_areAlike_32 (by decide) ?_
      exact mx_iret () hx hb hr hlocks rfl hw hK hP hD hS dX10_areAlike_33
    · replace hw := hw.1 c_6
      refine lv_iconst (v := 1) hx hb dX10_areAlike_28 (by decide) ?_
      refine lv_goto (tgt := 33) hx hb dX10_areAlike_29 (by decide) ?_
      exact mx_iret () hx hb hr hlocks rfl hw hK hP hD hS dX10_areAlike_33
/-! PramStateModel.listen(I)I -/
abbrev ww_X10_listen (a_m a_m_told a_m_kept a_m_isKept a_m_refused a_m_months a_m_heirs a_m_lasts a_m_cares a_m_bestCares a_m_ones a_m_others a_m_bytes a_m_anew a_m_values : Nat) (cI cB cZ cP cC : ClassId) (above : Int64) (below : Int64) (retired : Int32) (manyLine : Int32) (bytesLong : Int32) (tokenAt : Int32) (tokenLong : Int32) (token : Int32) (value : Int32) (told : Nat → Int32) (refused : Nat → Int32) : va_W := [(a_m, .inr (10, [.ref a_m_told, .ref a_m_kept, .ref a_m_isKept, .ref a_m_refused, .long above, .long below, .ref a_m_months, .int retired, .ref a_m_heirs, .ref a_m_lasts, .int manyLine, .ref a_m_cares, .ref a_m_bestCares, .ref a_m_ones, .ref a_m_others, .ref a_m_bytes, .int bytesLong, .int tokenAt, .int tokenLong, .int token, .int value, .ref a_m_anew, .ref a_m_values])), (a_m_told, .inl (cI, 190, .inl told)), (a_m_refused, .inl (cI, 3, .inl refused))]
abbrev qq_X10_listen (D : va_G) (a_m a_m_told a_m_kept a_m_isKept a_m_refused a_m_months a_m_heirs a_m_lasts a_m_cares a_m_bestCares a_m_ones a_m_others a_m_bytes a_m_anew a_m_values : Nat) (cI cB cZ cP cC : ClassId) (above : Int64) (below : Int64) (retired : Int32) (manyLine : Int32) (bytesLong : Int32) (tokenAt : Int32) (tokenLong : Int32) (token : Int32) (value : Int32) (told : Nat → Int32) (Post : Int32 → (Nat → Int32) → Prop) (A : Nat → Prop) : Array Value → State → Outcome → State → Prop := va_Qi (fun (r : Int32) (u : (Nat → Int32)) => Post r u) (fun (u : (Nat → Int32)) t => mxB D (mxTy cI cB cZ cP cC) A (ww_X10_listen a_m a_m_told a_m_kept a_m_isKept a_m_refused a_m_months a_m_heirs a_m_lasts a_m_cares a_m_bestCares a_m_ones a_m_others a_m_bytes a_m_anew a_m_values cI cB cZ cP cC above below retired manyLine bytesLong tokenAt tokenLong token value told u) t) A
abbrev rm_X10_listen : Room := { frames := 4, cells := 0, slots := 0, locals := 96 }
theorem hd_X10_listen : yX10_listen.cls = RX10 ∧ yX10_listen.cls ≠ "java/lang/invoke/MethodHandle" ∧ yX10_listen.cls ≠ "java/lang/invoke/VarHandle" ∧ (parseMethodDescriptor yX10_listen.desc).map (fun d => d.parameters.length) = some 1 := by decide +kernel
def wp_X10_listen_J112 (told : Nat → Int32) (Post : Int32 → (Nat → Int32) → Prop) (K_60 : Int32 → Int32 → Int32 → Int32 → Int32 → Int32 → Int32 → Int32 → Int32 → (Nat → Int32) → Prop) (v1 : Int32) (v2 : Int32) (v3 : Int32) (v4 : Int32) (v5 : Int32) (v6 : Int32) (v7 : Int32) (v9 : Int32) (s0 : Int32) (s1 : Int32) (refused : Nat → Int32) : Prop :=
  (∀ x_12 : Int32, x_12 = s1 + s0 → (∀ x_13 : Int32, x_13 = v9 + 1 → K_60 v1 v2 v3 v4 v5 v6 v7 x_12 x_13 refused))
set_option maxHeartbeats 4000000 in
set_option maxRecDepth 100000 in
theorem k_X10_listen_J112 {p : Program} {l : Launch} {e : Env} {s : State} {m : MethodId} {ar : Array Value} {bl : List Frame} {meth : Method} {c : Code} {D : va_G} {A : Nat → Prop} {cI cB cZ cP cC : ClassId} {a_m a_m_told a_m_kept a_m_isKept a_m_refused a_m_months a_m_heirs a_m_lasts a_m_cares a_m_bestCares a_m_ones a_m_others a_m_bytes a_m_anew a_m_values : Nat} {above : Int64} {below : Int64} {retired : Int32} {manyLine : Int32} {bytesLong : Int32} {tokenAt : Int32} {tokenLong : Int32} {token : Int32} {value : Int32} {told : Nat → Int32} {Post : Int32 → (Nat → Int32) → Prop} {K_60 : Int32 → Int32 → Int32 → Int32 → Int32 → Int32 → Int32 → Int32 → Int32 → (Nat → Int32) → Prop} (C0 : mxC p s m ar meth c cX10_listen RX10 (some .int) 10 D (mxTy cI cB cZ cP cC) A)
    (hK_60 : ∀ (v1 : Int32) (v2 : Int32) (v3 : Int32) (v4 : Int32) (v5 : Int32) (v6 : Int32) (v7 : Int32) (v8 : Int32) (v9 : Int32) (refused : Nat → Int32) (H : Heap) (locs : List Loc) (ls : Array Slot), va_P D vwCl (ww_X10_listen a_m a_m_told a_m_kept a_m_isKept a_m_refused a_m_months a_m_heirs a_m_lasts a_m_cares a_m_bestCares a_m_ones a_m_others a_m_bytes a_m_anew a_m_values cI cB cZ cP cC above below retired manyLine bytesLong tokenAt tokenLong token value told refused) H → va_D A (ww_X10_listen a_m a_m_told a_m_kept a_m_isKept a_m_refused a_m_months a_m_heirs a_m_lasts a_m_cares a_m_bestCares a_m_ones a_m_others a_m_bytes a_m_anew a_m_values cI cB cZ cP cC above below retired manyLine bytesLong tokenAt tokenLong token value told refused) → va_S A s.heap H locs → lv_has ls 10 [(0, .ref a_m), (1, .int v1), (2, .int v2), (3, .int v3), (4, .int v4), (5, .int v5), (6, .int v6), (7, .int v7), (8, .int v8), (9, .int v9)] → K_60 v1 v2 v3 v4 v5 v6 v7 v8 v9 refused → W p l e rm_X10_listen s m ar bl meth c H locs 0 0 (MQ bl (qq_X10_listen D a_m a_m_told a_m_kept a_m_isKept a_m_refused a_m_months a_m_heirs a_m_lasts a_m_cares a_m_bestCares a_m_ones a_m_others a_m_bytes a_m_anew a_m_values cI cB cZ cP cC above below retired manyLine bytesLong tokenAt tokenLong token value told Post A) ar s 0 0 A) (F0 m 60 ls [])) :
    ∀ (v1 : Int32) (v2 : Int32) (v3 : Int32) (v4 : Int32) (v5 : Int32) (v6 : Int32) (v7 : Int32) (v9 : Int32) (s0 : Int32) (s1 : Int32) (refused : Nat → Int32) (H : Heap) (locs : List Loc) (ls : Array Slot), va_P D vwCl (ww_X10_listen a_m a_m_told a_m_kept a_m_isKept a_m_refused a_m_months a_m_heirs a_m_lasts a_m_cares a_m_bestCares a_m_ones a_m_others a_m_bytes a_m_anew a_m_values cI cB cZ cP cC above below retired manyLine bytesLong tokenAt tokenLong token value told refused) H → va_D A (ww_X10_listen a_m a_m_told a_m_kept a_m_isKept a_m_refused a_m_months a_m_heirs a_m_lasts a_m_cares a_m_bestCares a_m_ones a_m_others a_m_bytes a_m_anew a_m_values cI cB cZ cP cC above below retired manyLine bytesLong tokenAt tokenLong token value told refused) → va_S A s.heap H locs → lv_has ls 10 [(0, .ref a_m), (1, .int v1), (2, .int v2), (3, .int v3), (4, .int v4), (5, .int v5), (6, .int v6), (7, .int v7), (9, .int v9)] → wp_X10_listen_J112 told Post K_60 v1 v2 v3 v4 v5 v6 v7 v9 s0 s1 refused → W p l e rm_X10_listen s m ar bl meth c H locs 0 0 (MQ bl (qq_X10_listen D a_m a_m_told a_m_kept a_m_isKept a_m_refused a_m_months a_m_heirs a_m_lasts a_m_cares a_m_bestCares a_m_ones a_m_others a_m_bytes a_m_anew a_m_values cI cB cZ cP cC above below retired manyLine bytesLong tokenAt tokenLong token value told Post A) ar s 0 0 A) (F0 m 112 ls [.int s0, .int s1]) := by
  obtain ⟨hx, hb, hr, hlocks, hml, hown, hts, hK, hA⟩ := id C0
  intro v1 v2 v3 v4 v5 v6 v7 v9 s0 s1 refused H locs ls hP hD hS hl hw
  refine lv_iadd hx hb dX10_listen_112 ?_
  refine lv_topi (fun x_12 ex_12 => ?_)
  replace hw := hw x_12 ex_12
  refine lv_istore (lv' := [(8, .int x_12), (0, .ref a_m), (1, .int v1), (2, .int v2), (3, .int v3), (4, .int v4), (5, .int v5), (6, .int v6), (7, .int v7), (9, .int v9)]) hx hb dX10_listen_113 hl (by decide) rfl (fun ls hl => ?_)
  obtain ⟨x_13, ex_13⟩ : ∃ y : Int32, y = v9 + 1 := ⟨_, rfl⟩
  replace hw := hw x_13 ex_13
  refine lv_iinc (v := x_13) (lv' := [(9, .int x_13), (8, .int x_12), (0, .ref a_m), (1, .int v1), (2, .int v2), (3, .int v3), (4, .int v4), (5, .int v5), (6, .int v6), (7, .int v7)]) hx hb dX10_listen_115 hl (k := 9) rfl (by rw [ex_13]; rfl) (by decide) rfl (fun ls hl => ?_)
  refine lv_goto (tgt := 60) hx hb dX10_listen_118 (by decide) ?_
  exact hK_60 v1 v2 v3 v4 v5 v6 v7 x_12 x_13 refused _ _ _ hP hD hS (lv_sub hl [2, 3, 4, 5, 6, 7, 8, 9, 1, 0] rfl) hw
def wp_X10_listen_J111 (told : Nat → Int32) (Post : Int32 → (Nat → Int32) → Prop) (K_60 : Int32 → Int32 → Int32 → Int32 → Int32 → Int32 → Int32 → Int32 → Int32 → (Nat → Int32) → Prop) (v1 : Int32) (v2 : Int32) (v3 : Int32) (v4 : Int32) (v5 : Int32) (v6 : Int32) (v7 : Int32) (v9 : Int32) (s0 : Int32) (refused : Nat → Int32) : Prop :=
  (wp_X10_listen_J112 told Post K_60 v1 v2 v3 v4 v5 v6 v7 v9 0 s0 refused)
set_option maxHeartbeats 4000000 in
set_option maxRecDepth 100000 in
theorem k_X10_listen_J111 {p : Program} {l : Launch} {e : Env} {s : State} {m : MethodId} {ar : Array Value} {bl : List Frame} {meth : Method} {c : Code} {D : va_G} {A : Nat → Prop} {cI cB cZ cP cC : ClassId} {a_m a_m_told a_m_kept a_m_isKept a_m_refused a_m_months a_m_heirs a_m_lasts a_m_cares a_m_bestCares a_m_ones a_m_others a_m_bytes a_m_anew a_m_values : Nat} {above : Int64} {below : Int64} {retired : Int32} {manyLine : Int32} {bytesLong : Int32} {tokenAt : Int32} {tokenLong : Int32} {token : Int32} {value : Int32} {told : Nat → Int32} {Post : Int32 → (Nat → Int32) → Prop} {K_60 : Int32 → Int32 → Int32 → Int32 → Int32 → Int32 → Int32 → Int32 → Int32 → (Nat → Int32) → Prop} (C0 : mxC p s m ar meth c cX10_listen RX10 (some .int) 10 D (mxTy cI cB cZ cP cC) A)
    (hK_60 : ∀ (v1 : Int32) (v2 : Int32) (v3 : Int32) (v4 : Int32) (v5 : Int32) (v6 : Int32) (v7 : Int32) (v8 : Int32) (v9 : Int32) (refused : Nat → Int32) (H : Heap) (locs : List Loc) (ls : Array Slot), va_P D vwCl (ww_X10_listen a_m a_m_told a_m_kept a_m_isKept a_m_refused a_m_months a_m_heirs a_m_lasts a_m_cares a_m_bestCares a_m_ones a_m_others a_m_bytes a_m_anew a_m_values cI cB cZ cP cC above below retired manyLine bytesLong tokenAt tokenLong token value told refused) H → va_D A (ww_X10_listen a_m a_m_told a_m_kept a_m_isKept a_m_refused a_m_months a_m_heirs a_m_lasts a_m_cares a_m_bestCares a_m_ones a_m_others a_m_bytes a_m_anew a_m_values cI cB cZ cP cC above below retired manyLine bytesLong tokenAt tokenLong token value told refused) → va_S A s.heap H locs → lv_has ls 10 [(0, .ref a_m), (1, .int v1), (2, .int v2), (3, .int v3), (4, .int v4), (5, .int v5), (6, .int v6), (7, .int v7), (8, .int v8), (9, .int v9)] → K_60 v1 v2 v3 v4 v5 v6 v7 v8 v9 refused → W p l e rm_X10_listen s m ar bl meth c H locs 0 0 (MQ bl (qq_X10_listen D a_m a_m_told a_m_kept a_m_isKept a_m_refused a_m_months a_m_heirs a_m_lasts a_m_cares a_m_bestCares a_m_ones a_m_others a_m_bytes a_m_anew a_m_values cI cB cZ cP cC above below retired manyLine bytesLong tokenAt tokenLong token value told Post A) ar s 0 0 A) (F0 m 60 ls [])) :
    ∀ (v1 : Int32) (v2 : Int32) (v3 : Int32) (v4 : Int32) (v5 : Int32) (v6 : Int32) (v7 : Int32) (v9 : Int32) (s0 : Int32) (refused : Nat → Int32) (H : Heap) (locs : List Loc) (ls : Array Slot), va_P D vwCl (ww_X10_listen a_m a_m_told a_m_kept a_m_isKept a_m_refused a_m_months a_m_heirs a_m_lasts a_m_cares a_m_bestCares a_m_ones a_m_others a_m_bytes a_m_anew a_m_values cI cB cZ cP cC above below retired manyLine bytesLong tokenAt tokenLong token value told refused) H → va_D A (ww_X10_listen a_m a_m_told a_m_kept a_m_isKept a_m_refused a_m_months a_m_heirs a_m_lasts a_m_cares a_m_bestCares a_m_ones a_m_others a_m_bytes a_m_anew a_m_values cI cB cZ cP cC above below retired manyLine bytesLong tokenAt tokenLong token value told refused) → va_S A s.heap H locs → lv_has ls 10 [(0, .ref a_m), (1, .int v1), (2, .int v2), (3, .int v3), (4, .int v4), (5, .int v5), (6, .int v6), (7, .int v7), (9, .int v9)] → wp_X10_listen_J111 told Post K_60 v1 v2 v3 v4 v5 v6 v7 v9 s0 refused → W p l e rm_X10_listen s m ar bl meth c H locs 0 0 (MQ bl (qq_X10_listen D a_m a_m_told a_m_kept a_m_isKept a_m_refused a_m_months a_m_heirs a_m_lasts a_m_cares a_m_bestCares a_m_ones a_m_others a_m_bytes a_m_anew a_m_values cI cB cZ cP cC above below retired manyLine bytesLong tokenAt tokenLong token value told Post A) ar s 0 0 A) (F0 m 111 ls [.int s0]) := by
  obtain ⟨hx, hb, hr, hlocks, hml, hown, hts, hK, hA⟩ := id C0
  intro v1 v2 v3 v4 v5 v6 v7 v9 s0 refused H locs ls hP hD hS hl hw
  refine lv_iconst (v := 0) hx hb dX10_listen_111 (by decide) ?_
  refine k_X10_listen_J112 C0 ?_ v1 v2 v3 v4 v5 v6 v7 v9 0 s0 refused _ _ _ hP hD hS (lv_sub hl [0, 1, 2, 3, 4, 5, 6, 7, 8] rfl) hw
  intro v1_14 v2_15 v3_16 v4_17 v5_18 v6_19 v7_20 v8_21 v9_22 refused_23 H locs ls hP hD hS hl hw
  exact hK_60 v1_14 v2_15 v3_16 v4_17 v5_18 v6_19 v7_20 v8_21 v9_22 refused_23 _ _ _ hP hD hS (lv_sub hl [0, 1, 2, 3, 4, 5, 6, 7, 8, 9] rfl) hw
def wp_X10_listen_L60 (told : Nat → Int32) (Post : Int32 → (Nat → Int32) → Prop) (K_121 : Int32 → Int32 → Int32 → Int32 → Int32 → Int32 → Int32 → Int32 → (Nat → Int32) → Prop) : Nat → Int32 → Int32 → Int32 → Int32 → Int32 → Int32 → Int32 → Int32 → Int32 → (Nat → Int32) → Prop
  | 0, _, _, _, _, _, _, _, _, _, _ => False
  | n + 1, v1, v2, v3, v4, v5, v6, v7, v8, v9, refused => ((6 ≤ v9 → K_121 v1 v2 v3 v4 v5 v6 v7 v8 refused) ∧ (¬ 6 ≤ v9 → (wp_X10_has v2 v7 (fun r_8 => ((r_8 = 0 → K_121 v1 v2 v3 v4 v5 v6 v7 v8 refused) ∧ (¬ r_8 = 0 → (wp_X10_has v2 v9 (fun r_10 => ((r_10 = 0 → (wp_X10_listen_J111 told Post (fun (v1_24 : Int32) (v2_25 : Int32) (v3_26 : Int32) (v4_27 : Int32) (v5_28 : Int32) (v6_29 : Int32) (v7_30 : Int32) (v8_31 : Int32) (v9_32 : Int32) (refused_33 : Nat → Int32) => wp_X10_listen_L60 told Post K_121 n v1_24 v2_25 v3_26 v4_27 v5_28 v6_29 v7_30 v8_31 v9_32 refused_33) v1 v2 v3 v4 v5 v6 v7 v9 v8 refused)) ∧ (¬ r_10 = 0 → (vp_in (4 + v1) 190 ∧ (wp_X10_areAlike v7 v9 (told (4 + v1).toNatClampNeg) v5 (fun r_35 => ((r_35 = 0 → (wp_X10_listen_J111 told Post (fun (v1_37 : Int32) (v2_38 : Int32) (v3_39 : Int32) (v4_40 : Int32) (v5_41 : Int32) (v6_42 : Int32) (v7_43 : Int32) (v8_44 : Int32) (v9_45 : Int32) (refused_46 : Nat → Int32) => wp_X10_listen_L60 told Post K_121 n v1_37 v2_38 v3_39 v4_40 v5_41 v6_42 v7_43 v8_44 v9_45 refused_46) v1 v2 v3 v4 v5 v6 v7 v9 v8 refused)) ∧ (¬ r_35 = 0 → (wp_X10_listen_J112 told Post (fun (v1_47 : Int32) (v2_48 : Int32) (v3_49 : Int32) (v4_50 : Int32) (v5_51 : Int32) (v6_52 : Int32) (v7_53 : Int32) (v8_54 : Int32) (v9_55 : Int32) (refused_56 : Nat → Int32) => wp_X10_listen_L60 told Post K_121 n v1_47 v2_48 v3_49 v4_50 v5_51 v6_52 v7_53 v8_54 v9_55 refused_56) v1 v2 v3 v4 v5 v6 v7 v9 1 v8 refused))))))))))))))))
set_option maxHeartbeats 4000000 in
set_option maxRecDepth 100000 in
theorem k_X10_listen_L60 {p : Program} {l : Launch} {e : Env} {s : State} {m : MethodId} {ar : Array Value} {bl : List Frame} {meth : Method} {c : Code} {D : va_G} {A : Nat → Prop} {cI cB cZ cP cC : ClassId} {a_m a_m_told a_m_kept a_m_isKept a_m_refused a_m_months a_m_heirs a_m_lasts a_m_cares a_m_bestCares a_m_ones a_m_others a_m_bytes a_m_anew a_m_values : Nat} {above : Int64} {below : Int64} {retired : Int32} {manyLine : Int32} {bytesLong : Int32} {tokenAt : Int32} {tokenLong : Int32} {token : Int32} {value : Int32} {told : Nat → Int32} {Post : Int32 → (Nat → Int32) → Prop} {K_121 : Int32 → Int32 → Int32 → Int32 → Int32 → Int32 → Int32 → Int32 → (Nat → Int32) → Prop} (C0 : mxC p s m ar meth c cX10_listen RX10 (some .int) 10 D (mxTy cI cB cZ cP cC) A)
    (hK_121 : ∀ (v1 : Int32) (v2 : Int32) (v3 : Int32) (v4 : Int32) (v5 : Int32) (v6 : Int32) (v7 : Int32) (v8 : Int32) (refused : Nat → Int32) (H : Heap) (locs : List Loc) (ls : Array Slot), va_P D vwCl (ww_X10_listen a_m a_m_told a_m_kept a_m_isKept a_m_refused a_m_months a_m_heirs a_m_lasts a_m_cares a_m_bestCares a_m_ones a_m_others a_m_bytes a_m_anew a_m_values cI cB cZ cP cC above below retired manyLine bytesLong tokenAt tokenLong token value told refused) H → va_D A (ww_X10_listen a_m a_m_told a_m_kept a_m_isKept a_m_refused a_m_months a_m_heirs a_m_lasts a_m_cares a_m_bestCares a_m_ones a_m_others a_m_bytes a_m_anew a_m_values cI cB cZ cP cC above below retired manyLine bytesLong tokenAt tokenLong token value told refused) → va_S A s.heap H locs → lv_has ls 10 [(0, .ref a_m), (1, .int v1), (2, .int v2), (3, .int v3), (4, .int v4), (5, .int v5), (6, .int v6), (7, .int v7), (8, .int v8)] → K_121 v1 v2 v3 v4 v5 v6 v7 v8 refused → W p l e rm_X10_listen s m ar bl meth c H locs 0 0 (MQ bl (qq_X10_listen D a_m a_m_told a_m_kept a_m_isKept a_m_refused a_m_months a_m_heirs a_m_lasts a_m_cares a_m_bestCares a_m_ones a_m_others a_m_bytes a_m_anew a_m_values cI cB cZ cP cC above below retired manyLine bytesLong tokenAt tokenLong token value told Post A) ar s 0 0 A) (F0 m 121 ls [])) :
    ∀ (n : Nat) (v1 : Int32) (v2 : Int32) (v3 : Int32) (v4 : Int32) (v5 : Int32) (v6 : Int32) (v7 : Int32) (v8 : Int32) (v9 : Int32) (refused : Nat → Int32) (H : Heap) (locs : List Loc) (ls : Array Slot), va_P D vwCl (ww_X10_listen a_m a_m_told a_m_kept a_m_isKept a_m_refused a_m_months a_m_heirs a_m_lasts a_m_cares a_m_bestCares a_m_ones a_m_others a_m_bytes a_m_anew a_m_values cI cB cZ cP cC above below retired manyLine bytesLong tokenAt tokenLong token value told refused) H → va_D A (ww_X10_listen a_m a_m_told a_m_kept a_m_isKept a_m_refused a_m_months a_m_heirs a_m_lasts a_m_cares a_m_bestCares a_m_ones a_m_others a_m_bytes a_m_anew a_m_values cI cB cZ cP cC above below retired manyLine bytesLong tokenAt tokenLong token value told refused) → va_S A s.heap H locs → lv_has ls 10 [(0, .ref a_m), (1, .int v1), (2, .int v2), (3, .int v3), (4, .int v4), (5, .int v5), (6, .int v6), (7, .int v7), (8, .int v8), (9, .int v9)] → wp_X10_listen_L60 told Post K_121 n v1 v2 v3 v4 v5 v6 v7 v8 v9 refused → W p l e rm_X10_listen s m ar bl meth c H locs 0 0 (MQ bl (qq_X10_listen D a_m a_m_told a_m_kept a_m_isKept a_m_refused a_m_months a_m_heirs a_m_lasts a_m_cares a_m_bestCares a_m_ones a_m_others a_m_bytes a_m_anew a_m_values cI cB cZ cP cC above below retired manyLine bytesLong tokenAt tokenLong token value told Post A) ar s 0 0 A) (F0 m 60 ls []) := by
  obtain ⟨hx, hb, hr, hlocks, hml, hown, hts, hK, hA⟩ := id C0
  intro n
  induction n with
  | zero =>
    intro v1 v2 v3 v4 v5 v6 v7 v8 v9 refused H locs ls hP hD hS hl hw
    exact absurd hw (fun h => h)
  | succ n ih =>
    intro v1 v2 v3 v4 v5 v6 v7 v8 v9 refused H locs ls hP hD hS hl hw
    refine lv_iload hx hb dX10_listen_60 (lv_at hl 9 rfl) ?_
    refine lv_bipush (v := 6) hx hb dX10_listen_62 (by decide) ?_
    refine lv_icmp_ge (tgt := 121) hx hb dX10_listen_64 (by decide) (fun c_7 => ?_) (fun c_7 => ?_)
    · replace hw := hw.1 c_7
      exact hK_121 v1 v2 v3 v4 v5 v6 v7 v8 refused _ _ _ hP hD hS (lv_sub hl [0, 1, 2, 3, 4, 5, 6, 7, 8] rfl) hw
    · replace hw := hw.2 c_7
      refine lv_iload_n hx hb dX10_listen_67 rfl (lv_at hl 2 rfl) ?_
      refine lv_iload hx hb dX10_listen_68 (lv_at hl 7 rfl) ?_
      refine mx_ki (mx_rS (rm := rm_X10_has) (rest := []) hx hb hml hown hts (c_X10_has l D cI cB cZ cP cC v2 v7 _ _ hw) q_445 q_446 q_5 q_447 hd_X10_has ⟨(Nat.le_of_ble_eq_true rfl), (Nat.le_of_ble_eq_true rfl)⟩ rfl rfl hK hP hD [] rfl rfl rfl hl.1 rfl (Nat.le_of_ble_eq_true rfl) dX10_listen_70 ⟨(Nat.le_of_ble_eq_true rfl), (Nat.le_of_ble_eq_true rfl)⟩) hP hD hS hA [] [0, 1, 2] [0, 1, 2] (fun _ => ww_X10_listen a_m a_m_told a_m_kept a_m_isKept a_m_refused a_m_months a_m_heirs a_m_lasts a_m_cares a_m_bestCares a_m_ones a_m_others a_m_bytes a_m_anew a_m_values cI cB cZ cP cC above below retired manyLine bytesLong tokenAt tokenLong token value told refused) rfl rfl rfl (by decide) rfl (fun _ => rfl) (fun r_8 u H locs hw hP hD hS => ?_)
      try dsimp only at hw
      replace hP : va_P D vwCl (ww_X10_listen a_m a_m_told a_m_kept a_m_isKept a_m_refused a_m_months a_m_heirs a_m_lasts a_m_cares a_m_bestCares a_m_ones a_m_others a_m_bytes a_m_anew a_m_values cI cB cZ cP cC above below retired manyLine bytesLong tokenAt tokenLong token value told refused) H := hP
      replace hD : va_D A (ww_X10_listen a_m a_m_told a_m_kept a_m_isKept a_m_refused a_m_months a_m_heirs a_m_lasts a_m_cares a_m_bestCares a_m_ones a_m_others a_m_bytes a_m_anew a_m_values cI cB cZ cP cC above below retired manyLine bytesLong tokenAt tokenLong token value told refused) := hD
      refine lv_if_eq (tgt := 121) hx hb dX10_listen_73 (by decide) (fun c_9 => ?_) (fun c_9 => ?_)
      · replace hw := hw.1 c_9
        exact hK_121 v1 v2 v3 v4 v5 v6 v7 v8 refused _ _ _ hP hD hS (lv_sub hl [0, 1, 2, 3, 4, 5, 6, 7, 8] rfl) hw
      · replace hw := hw.2 c_9
        refine lv_iload hx hb dX10_listen_76 (lv_at hl 8 rfl) ?_
        refine lv_iload_n hx hb dX10_listen_78 rfl (lv_at hl 2 rfl) ?_
        refine lv_iload hx hb dX10_listen_79 (lv_at hl 9 rfl) ?_
        refine mx_ki (mx_rS (rm := rm_X10_has) (rest := [.int v8]) hx hb hml hown hts (c_X10_has l D cI cB cZ cP cC v2 v9 _ _ hw) q_445 q_446 q_5 q_447 hd_X10_has ⟨(Nat.le_of_ble_eq_true rfl), (Nat.le_of_ble_eq_true rfl)⟩ rfl rfl hK hP hD [] rfl rfl rfl hl.1 rfl (Nat.le_of_ble_eq_true rfl) dX10_listen_81 ⟨(Nat.le_of_ble_eq_true rfl), (Nat.le_of_ble_eq_true rfl)⟩) hP hD hS hA [] [0, 1, 2] [0, 1, 2] (fun _ => ww_X10_listen a_m a_m_told a_m_kept a_m_isKept a_m_refused a_m_months a_m_heirs a_m_lasts a_m_cares a_m_bestCares a_m_ones a_m_others a_m_bytes a_m_anew a_m_values cI cB cZ cP cC above below retired manyLine bytesLong tokenAt tokenLong token value told refused) rfl rfl rfl (by decide) rfl (fun _ => rfl) (fun r_10 u H locs hw hP hD hS => ?_)
        try dsimp only at hw
        replace hP : va_P D vwCl (ww_X10_listen a_m a_m_told a_m_kept a_m_isKept a_m_refused a_m_months a_m_heirs a_m_lasts a_m_cares a_m_bestCares a_m_ones a_m_others a_m_bytes a_m_anew a_m_values cI cB cZ cP cC above below retired manyLine bytesLong tokenAt tokenLong token value told refused) H := hP
        replace hD : va_D A (ww_X10_listen a_m a_m_told a_m_kept a_m_isKept a_m_refused a_m_months a_m_heirs a_m_lasts a_m_cares a_m_bestCares a_m_ones a_m_others a_m_bytes a_m_anew a_m_values cI cB cZ cP cC above below retired manyLine bytesLong tokenAt tokenLong token value told refused) := hD
        refine lv_if_eq (tgt := 111) hx hb dX10_listen_84 (by decide) (fun c_11 => ?_) (fun c_11 => ?_)
        · replace hw := hw.1 c_11
          refine k_X10_listen_J111 C0 ?_ v1 v2 v3 v4 v5 v6 v7 v9 v8 refused _ _ _ hP hD hS (lv_sub hl [0, 1, 2, 3, 4, 5, 6, 7, 9] rfl) hw
          intro v1_24 v2_25 v3_26 v4_27 v5_28 v6_29 v7_30 v8_31 v9_32 refused_33 H locs ls hP hD hS hl hw
          exact ih v1_24 v2_25 v3_26 v4_27 v5_28 v6_29 v7_30 v8_31 v9_32 refused_33 _ _ _ hP hD hS (lv_sub hl [0, 1, 2, 3, 4, 5, 6, 7, 8, 9] rfl) hw
        · replace hw := hw.2 c_11
          refine lv_iload hx hb dX10_listen_87 (lv_at hl 7 rfl) ?_
          refine lv_iload hx hb dX10_listen_89 (lv_at hl 9 rfl) ?_
          refine lv_aload_n hx hb dX10_listen_91 rfl (lv_at hl 0 rfl) ?_
          refine mx_get (ci := 10) (C := RX10) (T := TX10) (N := 23) hx hb hown in_wsX100 hts hK hP 0 rfl rfl 0 (by decide) q_91 rfl (v := .ref a_m_told) rfl dX10_listen_92 ?_
          refine lv_iconst (v := 4) hx hb dX10_listen_95 (by decide) ?_
          refine lv_iload_n hx hb dX10_listen_96 rfl (lv_at hl 1 rfl) ?_
          refine lv_iadd hx hb dX10_listen_97 ?_
          obtain ⟨h_34, hw⟩ := hw
          refine mx_iald hx hb hK hP 1 0 rfl rfl h_34 (told (4 + v1).toNatClampNeg) rfl dX10_listen_98 ?_
          refine lv_iload hx hb dX10_listen_99 (lv_at hl 5 rfl) ?_
          refine mx_ki (mx_rS (rm := rm_X10_areAlike) (rest := [.int v8]) hx hb hml hown hts (c_X10_areAlike l D cI cB cZ cP cC v7 v9 (told (4 + v1).toNatClampNeg) v5 _ _ hw) q_834 q_835 q_5 q_836 hd_X10_areAlike ⟨(Nat.le_of_ble_eq_true rfl), (Nat.le_of_ble_eq_true rfl)⟩ rfl rfl hK hP hD [] rfl rfl rfl hl.1 rfl (Nat.le_of_ble_eq_true rfl) dX10_listen_101 ⟨(Nat.le_of_ble_eq_true rfl), (Nat.le_of_ble_eq_true rfl)⟩) hP hD hS hA [] [0, 1, 2] [0, 1, 2] (fun _ => ww_X10_listen a_m a_m_told a_m_kept a_m_isKept a_m_refused a_m_months a_m_heirs a_m_lasts a_m_cares a_m_bestCares a_m_ones a_m_others a_m_bytes a_m_anew a_m_values cI cB cZ cP cC above below retired manyLine bytesLong tokenAt tokenLong token value told refused) rfl rfl rfl (by decide) rfl (fun _ => rfl) (fun r_35 u H locs hw hP hD hS => ?_)
          try dsimp only at hw
          replace hP : va_P D vwCl (ww_X10_listen a_m a_m_told a_m_kept a_m_isKept a_m_refused a_m_months a_m_heirs a_m_lasts a_m_cares a_m_bestCares a_m_ones a_m_others a_m_bytes a_m_anew a_m_values cI cB cZ cP cC above below retired manyLine bytesLong tokenAt tokenLong token value told refused) H := hP
          replace hD : va_D A (ww_X10_listen a_m a_m_told a_m_kept a_m_isKept a_m_refused a_m_months a_m_heirs a_m_lasts a_m_cares a_m_bestCares a_m_ones a_m_others a_m_bytes a_m_anew a_m_values cI cB cZ cP cC above below retired manyLine bytesLong tokenAt tokenLong token value told refused) := hD
          refine lv_if_eq (tgt := 111) hx hb dX10_listen_104 (by decide) (fun c_36 => ?_) (fun c_36 => ?_)
          · replace hw := hw.1 c_36
            refine k_X10_listen_J111 C0 ?_ v1 v2 v3 v4 v5 v6 v7 v9 v8 refused _ _ _ hP hD hS (lv_sub hl [0, 1, 2, 3, 4, 5, 6, 7, 9] rfl) hw
            intro v1_37 v2_38 v3_39 v4_40 v5_41 v6_42 v7_43 v8_44 v9_45 refused_46 H locs ls hP hD hS hl hw
            exact ih v1_37 v2_38 v3_39 v4_40 v5_41 v6_42 v7_43 v8_44 v9_45 refused_46 _ _ _ hP hD hS (lv_sub hl [0, 1, 2, 3, 4, 5, 6, 7, 8, 9] rfl) hw
          · replace hw := hw.2 c_36
            refine lv_iconst (v := 1) hx hb dX10_listen_107 (by decide) ?_
            refine lv_goto (tgt := 112) hx hb dX10_listen_108 (by decide) ?_
            refine k_X10_listen_J112 C0 ?_ v1 v2 v3 v4 v5 v6 v7 v9 1 v8 refused _ _ _ hP hD hS (lv_sub hl [0, 1, 2, 3, 4, 5, 6, 7, 9] rfl) hw
            intro v1_47 v2_48 v3_49 v4_50 v5_51 v6_52 v7_53 v8_54 v9_55 refused_56 H locs ls hP hD hS hl hw
            exact ih v1_47 v2_48 v3_49 v4_50 v5_51 v6_52 v7_53 v8_54 v9_55 refused_56 _ _ _ hP hD hS (lv_sub hl [0, 1, 2, 3, 4, 5, 6, 7, 8, 9] rfl) hw
def wp_X10_listen_J135 (told : Nat → Int32) (Post : Int32 → (Nat → Int32) → Prop) (K_47 : Int32 → Int32 → Int32 → Int32 → Int32 → Int32 → Int32 → (Nat → Int32) → Prop) (v1 : Int32) (v2 : Int32) (v3 : Int32) (v4 : Int32) (v5 : Int32) (v7 : Int32) (s0 : Int32) (refused : Nat → Int32) : Prop :=
  (∀ x_67 : Int32, x_67 = v7 + 1 → K_47 v1 v2 v3 v4 v5 s0 x_67 refused)
set_option maxHeartbeats 4000000 in
set_option maxRecDepth 100000 in
theorem k_X10_listen_J135 {p : Program} {l : Launch} {e : Env} {s : State} {m : MethodId} {ar : Array Value} {bl : List Frame} {meth : Method} {c : Code} {D : va_G} {A : Nat → Prop} {cI cB cZ cP cC : ClassId} {a_m a_m_told a_m_kept a_m_isKept a_m_refused a_m_months a_m_heirs a_m_lasts a_m_cares a_m_bestCares a_m_ones a_m_others a_m_bytes a_m_anew a_m_values : Nat} {above : Int64} {below : Int64} {retired : Int32} {manyLine : Int32} {bytesLong : Int32} {tokenAt : Int32} {tokenLong : Int32} {token : Int32} {value : Int32} {told : Nat → Int32} {Post : Int32 → (Nat → Int32) → Prop} {K_47 : Int32 → Int32 → Int32 → Int32 → Int32 → Int32 → Int32 → (Nat → Int32) → Prop} (C0 : mxC p s m ar meth c cX10_listen RX10 (some .int) 10 D (mxTy cI cB cZ cP cC) A)
    (hK_47 : ∀ (v1 : Int32) (v2 : Int32) (v3 : Int32) (v4 : Int32) (v5 : Int32) (v6 : Int32) (v7 : Int32) (refused : Nat → Int32) (H : Heap) (locs : List Loc) (ls : Array Slot), va_P D vwCl (ww_X10_listen a_m a_m_told a_m_kept a_m_isKept a_m_refused a_m_months a_m_heirs a_m_lasts a_m_cares a_m_bestCares a_m_ones a_m_others a_m_bytes a_m_anew a_m_values cI cB cZ cP cC above below retired manyLine bytesLong tokenAt tokenLong token value told refused) H → va_D A (ww_X10_listen a_m a_m_told a_m_kept a_m_isKept a_m_refused a_m_months a_m_heirs a_m_lasts a_m_cares a_m_bestCares a_m_ones a_m_others a_m_bytes a_m_anew a_m_values cI cB cZ cP cC above below retired manyLine bytesLong tokenAt tokenLong token value told refused) → va_S A s.heap H locs → lv_has ls 10 [(0, .ref a_m), (1, .int v1), (2, .int v2), (3, .int v3), (4, .int v4), (5, .int v5), (6, .int v6), (7, .int v7)] → K_47 v1 v2 v3 v4 v5 v6 v7 refused → W p l e rm_X10_listen s m ar bl meth c H locs 0 0 (MQ bl (qq_X10_listen D a_m a_m_told a_m_kept a_m_isKept a_m_refused a_m_months a_m_heirs a_m_lasts a_m_cares a_m_bestCares a_m_ones a_m_others a_m_bytes a_m_anew a_m_values cI cB cZ cP cC above below retired manyLine bytesLong tokenAt tokenLong token value told Post A) ar s 0 0 A) (F0 m 47 ls [])) :
    ∀ (v1 : Int32) (v2 : Int32) (v3 : Int32) (v4 : Int32) (v5 : Int32) (v7 : Int32) (s0 : Int32) (refused : Nat → Int32) (H : Heap) (locs : List Loc) (ls : Array Slot), va_P D vwCl (ww_X10_listen a_m a_m_told a_m_kept a_m_isKept a_m_refused a_m_months a_m_heirs a_m_lasts a_m_cares a_m_bestCares a_m_ones a_m_others a_m_bytes a_m_anew a_m_values cI cB cZ cP cC above below retired manyLine bytesLong tokenAt tokenLong token value told refused) H → va_D A (ww_X10_listen a_m a_m_told a_m_kept a_m_isKept a_m_refused a_m_months a_m_heirs a_m_lasts a_m_cares a_m_bestCares a_m_ones a_m_others a_m_bytes a_m_anew a_m_values cI cB cZ cP cC above below retired manyLine bytesLong tokenAt tokenLong token value told refused) → va_S A s.heap H locs → lv_has ls 10 [(0, .ref a_m), (1, .int v1), (2, .int v2), (3, .int v3), (4, .int v4), (5, .int v5), (7, .int v7)] → wp_X10_listen_J135 told Post K_47 v1 v2 v3 v4 v5 v7 s0 refused → W p l e rm_X10_listen s m ar bl meth c H locs 0 0 (MQ bl (qq_X10_listen D a_m a_m_told a_m_kept a_m_isKept a_m_refused a_m_months a_m_heirs a_m_lasts a_m_cares a_m_bestCares a_m_ones a_m_others a_m_bytes a_m_anew a_m_values cI cB cZ cP cC above below retired manyLine bytesLong tokenAt tokenLong token value told Post A) ar s 0 0 A) (F0 m 135 ls [.int s0]) := by
  obtain ⟨hx, hb, hr, hlocks, hml, hown, hts, hK, hA⟩ := id C0
  intro v1 v2 v3 v4 v5 v7 s0 refused H locs ls hP hD hS hl hw
  refine lv_istore (lv' := [(6, .int s0), (0, .ref a_m), (1, .int v1), (2, .int v2), (3, .int v3), (4, .int v4), (5, .int v5), (7, .int v7)]) hx hb dX10_listen_135 hl (by decide) rfl (fun ls hl => ?_)
  obtain ⟨x_67, ex_67⟩ : ∃ y : Int32, y = v7 + 1 := ⟨_, rfl⟩
  replace hw := hw x_67 ex_67
  refine lv_iinc (v := x_67) (lv' := [(7, .int x_67), (6, .int s0), (0, .ref a_m), (1, .int v1), (2, .int v2), (3, .int v3), (4, .int v4), (5, .int v5)]) hx hb dX10_listen_137 hl (k := 7) rfl (by rw [ex_67]; rfl) (by decide) rfl (fun ls hl => ?_)
  refine lv_goto (tgt := 47) hx hb dX10_listen_140 (by decide) ?_
  exact hK_47 v1 v2 v3 v4 v5 s0 x_67 refused _ _ _ hP hD hS (lv_sub hl [2, 3, 4, 5, 6, 7, 1, 0] rfl) hw
def wp_X10_listen_J121 (told : Nat → Int32) (Post : Int32 → (Nat → Int32) → Prop) (K_47 : Int32 → Int32 → Int32 → Int32 → Int32 → Int32 → Int32 → (Nat → Int32) → Prop) (v1 : Int32) (v2 : Int32) (v3 : Int32) (v4 : Int32) (v5 : Int32) (v6 : Int32) (v7 : Int32) (v8 : Int32) (refused : Nat → Int32) : Prop :=
  ((v8 ≤ v6 → (wp_X10_listen_J135 told Post K_47 v1 v2 v3 v4 v5 v7 v6 refused)) ∧ (¬ v8 ≤ v6 → (wp_X10_listen_J135 told Post K_47 v1 v2 v3 v4 v5 v7 v8 refused)))
set_option maxHeartbeats 4000000 in
set_option maxRecDepth 100000 in
theorem k_X10_listen_J121 {p : Program} {l : Launch} {e : Env} {s : State} {m : MethodId} {ar : Array Value} {bl : List Frame} {meth : Method} {c : Code} {D : va_G} {A : Nat → Prop} {cI cB cZ cP cC : ClassId} {a_m a_m_told a_m_kept a_m_isKept a_m_refused a_m_months a_m_heirs a_m_lasts a_m_cares a_m_bestCares a_m_ones a_m_others a_m_bytes a_m_anew a_m_values : Nat} {above : Int64} {below : Int64} {retired : Int32} {manyLine : Int32} {bytesLong : Int32} {tokenAt : Int32} {tokenLong : Int32} {token : Int32} {value : Int32} {told : Nat → Int32} {Post : Int32 → (Nat → Int32) → Prop} {K_47 : Int32 → Int32 → Int32 → Int32 → Int32 → Int32 → Int32 → (Nat → Int32) → Prop} (C0 : mxC p s m ar meth c cX10_listen RX10 (some .int) 10 D (mxTy cI cB cZ cP cC) A)
    (hK_47 : ∀ (v1 : Int32) (v2 : Int32) (v3 : Int32) (v4 : Int32) (v5 : Int32) (v6 : Int32) (v7 : Int32) (refused : Nat → Int32) (H : Heap) (locs : List Loc) (ls : Array Slot), va_P D vwCl (ww_X10_listen a_m a_m_told a_m_kept a_m_isKept a_m_refused a_m_months a_m_heirs a_m_lasts a_m_cares a_m_bestCares a_m_ones a_m_others a_m_bytes a_m_anew a_m_values cI cB cZ cP cC above below retired manyLine bytesLong tokenAt tokenLong token value told refused) H → va_D A (ww_X10_listen a_m a_m_told a_m_kept a_m_isKept a_m_refused a_m_months a_m_heirs a_m_lasts a_m_cares a_m_bestCares a_m_ones a_m_others a_m_bytes a_m_anew a_m_values cI cB cZ cP cC above below retired manyLine bytesLong tokenAt tokenLong token value told refused) → va_S A s.heap H locs → lv_has ls 10 [(0, .ref a_m), (1, .int v1), (2, .int v2), (3, .int v3), (4, .int v4), (5, .int v5), (6, .int v6), (7, .int v7)] → K_47 v1 v2 v3 v4 v5 v6 v7 refused → W p l e rm_X10_listen s m ar bl meth c H locs 0 0 (MQ bl (qq_X10_listen D a_m a_m_told a_m_kept a_m_isKept a_m_refused a_m_months a_m_heirs a_m_lasts a_m_cares a_m_bestCares a_m_ones a_m_others a_m_bytes a_m_anew a_m_values cI cB cZ cP cC above below retired manyLine bytesLong tokenAt tokenLong token value told Post A) ar s 0 0 A) (F0 m 47 ls [])) :
    ∀ (v1 : Int32) (v2 : Int32) (v3 : Int32) (v4 : Int32) (v5 : Int32) (v6 : Int32) (v7 : Int32) (v8 : Int32) (refused : Nat → Int32) (H : Heap) (locs : List Loc) (ls : Array Slot), va_P D vwCl (ww_X10_listen a_m a_m_told a_m_kept a_m_isKept a_m_refused a_m_months a_m_heirs a_m_lasts a_m_cares a_m_bestCares a_m_ones a_m_others a_m_bytes a_m_anew a_m_values cI cB cZ cP cC above below retired manyLine bytesLong tokenAt tokenLong token value told refused) H → va_D A (ww_X10_listen a_m a_m_told a_m_kept a_m_isKept a_m_refused a_m_months a_m_heirs a_m_lasts a_m_cares a_m_bestCares a_m_ones a_m_others a_m_bytes a_m_anew a_m_values cI cB cZ cP cC above below retired manyLine bytesLong tokenAt tokenLong token value told refused) → va_S A s.heap H locs → lv_has ls 10 [(0, .ref a_m), (1, .int v1), (2, .int v2), (3, .int v3), (4, .int v4), (5, .int v5), (6, .int v6), (7, .int v7), (8, .int v8)] → wp_X10_listen_J121 told Post K_47 v1 v2 v3 v4 v5 v6 v7 v8 refused → W p l e rm_X10_listen s m ar bl meth c H locs 0 0 (MQ bl (qq_X10_listen D a_m a_m_told a_m_kept a_m_isKept a_m_refused a_m_months a_m_heirs a_m_lasts a_m_cares a_m_bestCares a_m_ones a_m_others a_m_bytes a_m_anew a_m_values cI cB cZ cP cC above below retired manyLine bytesLong tokenAt tokenLong token value told Post A) ar s 0 0 A) (F0 m 121 ls []) := by
  obtain ⟨hx, hb, hr, hlocks, hml, hown, hts, hK, hA⟩ := id C0
  intro v1 v2 v3 v4 v5 v6 v7 v8 refused H locs ls hP hD hS hl hw
  refine lv_iload hx hb dX10_listen_121 (lv_at hl 8 rfl) ?_
  refine lv_iload hx hb dX10_listen_123 (lv_at hl 6 rfl) ?_
  refine lv_icmp_le (tgt := 133) hx hb dX10_listen_125 (by decide) (fun c_66 => ?_) (fun c_66 => ?_)
  · replace hw := hw.1 c_66
    refine lv_iload hx hb dX10_listen_133 (lv_at hl 6 rfl) ?_
    refine k_X10_listen_J135 C0 ?_ v1 v2 v3 v4 v5 v7 v6 refused _ _ _ hP hD hS (lv_sub hl [0, 1, 2, 3, 4, 5, 7] rfl) hw
    intro v1_68 v2_69 v3_70 v4_71 v5_72 v6_73 v7_74 refused_75 H locs ls hP hD hS hl hw
    exact hK_47 v1_68 v2_69 v3_70 v4_71 v5_72 v6_73 v7_74 refused_75 _ _ _ hP hD hS (lv_sub hl [0, 1, 2, 3, 4, 5, 6, 7] rfl) hw
  · replace hw := hw.2 c_66
    refine lv_iload hx hb dX10_listen_128 (lv_at hl 8 rfl) ?_
    refine lv_goto (tgt := 135) hx hb dX10_listen_130 (by decide) ?_
    refine k_X10_listen_J135 C0 ?_ v1 v2 v3 v4 v5 v7 v8 refused _ _ _ hP hD hS (lv_sub hl [0, 1, 2, 3, 4, 5, 7] rfl) hw
    intro v1_76 v2_77 v3_78 v4_79 v5_80 v6_81 v7_82 refused_83 H locs ls hP hD hS hl hw
    exact hK_47 v1_76 v2_77 v3_78 v4_79 v5_80 v6_81 v7_82 refused_83 _ _ _ hP hD hS (lv_sub hl [0, 1, 2, 3, 4, 5, 6, 7] rfl) hw
def wp_X10_listen_L47 (told : Nat → Int32) (Post : Int32 → (Nat → Int32) → Prop) (K_143 : Int32 → Int32 → Int32 → Int32 → Int32 → Int32 → (Nat → Int32) → Prop) : Nat → Int32 → Int32 → Int32 → Int32 → Int32 → Int32 → Int32 → (Nat → Int32) → Prop
  | 0, _, _, _, _, _, _, _, _ => False
  | n + 1, v1, v2, v3, v4, v5, v6, v7, refused => ((6 ≤ v7 → K_143 v1 v2 v3 v4 v5 v6 refused) ∧ (¬ 6 ≤ v7 → (∃ k_92 : Nat, wp_X10_listen_L60 told Post (fun (v1_57 : Int32) (v2_58 : Int32) (v3_59 : Int32) (v4_60 : Int32) (v5_61 : Int32) (v6_62 : Int32) (v7_63 : Int32) (v8_64 : Int32) (refused_65 : Nat → Int32) => (wp_X10_listen_J121 told Post (fun (v1_84 : Int32) (v2_85 : Int32) (v3_86 : Int32) (v4_87 : Int32) (v5_88 : Int32) (v6_89 : Int32) (v7_90 : Int32) (refused_91 : Nat → Int32) => wp_X10_listen_L47 told Post K_143 n v1_84 v2_85 v3_86 v4_87 v5_88 v6_89 v7_90 refused_91) v1_57 v2_58 v3_59 v4_60 v5_61 v6_62 v7_63 v8_64 refused_65)) k_92 v1 v2 v3 v4 v5 v6 v7 0 0 refused)))
set_option maxHeartbeats 4000000 in
set_option maxRecDepth 100000 in
theorem k_X10_listen_L47 {p : Program} {l : Launch} {e : Env} {s : State} {m : MethodId} {ar : Array Value} {bl : List Frame} {meth : Method} {c : Code} {D : va_G} {A : Nat → Prop} {cI cB cZ cP cC : ClassId} {a_m a_m_told a_m_kept a_m_isKept a_m_refused a_m_months a_m_heirs a_m_lasts a_m_cares a_m_bestCares a_m_ones a_m_others a_m_bytes a_m_anew a_m_values : Nat} {above : Int64} {below : Int64} {retired : Int32} {manyLine : Int32} {bytesLong : Int32} {tokenAt : Int32} {tokenLong : Int32} {token : Int32} {value : Int32} {told : Nat → Int32} {Post : Int32 → (Nat → Int32) → Prop} {K_143 : Int32 → Int32 → Int32 → Int32 → Int32 → Int32 → (Nat → Int32) → Prop} (C0 : mxC p s m ar meth c cX10_listen RX10 (some .int) 10 D (mxTy cI cB cZ cP cC) A)
    (hK_143 : ∀ (v1 : Int32) (v2 : Int32) (v3 : Int32) (v4 : Int32) (v5 : Int32) (v6 : Int32) (refused : Nat → Int32) (H : Heap) (locs : List Loc) (ls : Array Slot), va_P D vwCl (ww_X10_listen a_m a_m_told a_m_kept a_m_isKept a_m_refused a_m_months a_m_heirs a_m_lasts a_m_cares a_m_bestCares a_m_ones a_m_others a_m_bytes a_m_anew a_m_values cI cB cZ cP cC above below retired manyLine bytesLong tokenAt tokenLong token value told refused) H → va_D A (ww_X10_listen a_m a_m_told a_m_kept a_m_isKept a_m_refused a_m_months a_m_heirs a_m_lasts a_m_cares a_m_bestCares a_m_ones a_m_others a_m_bytes a_m_anew a_m_values cI cB cZ cP cC above below retired manyLine bytesLong tokenAt tokenLong token value told refused) → va_S A s.heap H locs → lv_has ls 10 [(0, .ref a_m), (1, .int v1), (2, .int v2), (3, .int v3), (4, .int v4), (5, .int v5), (6, .int v6)] → K_143 v1 v2 v3 v4 v5 v6 refused → W p l e rm_X10_listen s m ar bl meth c H locs 0 0 (MQ bl (qq_X10_listen D a_m a_m_told a_m_kept a_m_isKept a_m_refused a_m_months a_m_heirs a_m_lasts a_m_cares a_m_bestCares a_m_ones a_m_others a_m_bytes a_m_anew a_m_values cI cB cZ cP cC above below retired manyLine bytesLong tokenAt tokenLong token value told Post A) ar s 0 0 A) (F0 m 143 ls [])) :
    ∀ (n : Nat) (v1 : Int32) (v2 : Int32) (v3 : Int32) (v4 : Int32) (v5 : Int32) (v6 : Int32) (v7 : Int32) (refused : Nat → Int32) (H : Heap) (locs : List Loc) (ls : Array Slot), va_P D vwCl (ww_X10_listen a_m a_m_told a_m_kept a_m_isKept a_m_refused a_m_months a_m_heirs a_m_lasts a_m_cares a_m_bestCares a_m_ones a_m_others a_m_bytes a_m_anew a_m_values cI cB cZ cP cC above below retired manyLine bytesLong tokenAt tokenLong token value told refused) H → va_D A (ww_X10_listen a_m a_m_told a_m_kept a_m_isKept a_m_refused a_m_months a_m_heirs a_m_lasts a_m_cares a_m_bestCares a_m_ones a_m_others a_m_bytes a_m_anew a_m_values cI cB cZ cP cC above below retired manyLine bytesLong tokenAt tokenLong token value told refused) → va_S A s.heap H locs → lv_has ls 10 [(0, .ref a_m), (1, .int v1), (2, .int v2), (3, .int v3), (4, .int v4), (5, .int v5), (6, .int v6), (7, .int v7)] → wp_X10_listen_L47 told Post K_143 n v1 v2 v3 v4 v5 v6 v7 refused → W p l e rm_X10_listen s m ar bl meth c H locs 0 0 (MQ bl (qq_X10_listen D a_m a_m_told a_m_kept a_m_isKept a_m_refused a_m_months a_m_heirs a_m_lasts a_m_cares a_m_bestCares a_m_ones a_m_others a_m_bytes a_m_anew a_m_values cI cB cZ cP cC above below retired manyLine bytesLong tokenAt tokenLong token value told Post A) ar s 0 0 A) (F0 m 47 ls []) := by
  obtain ⟨hx, hb, hr, hlocks, hml, hown, hts, hK, hA⟩ := id C0
  intro n
  induction n with
  | zero =>
    intro v1 v2 v3 v4 v5 v6 v7 refused H locs ls hP hD hS hl hw
    exact absurd hw (fun h => h)
  | succ n ih =>
    intro v1 v2 v3 v4 v5 v6 v7 refused H locs ls hP hD hS hl hw
    refine lv_iload hx hb dX10_listen_47 (lv_at hl 7 rfl) ?_
    refine lv_bipush (v := 6) hx hb dX10_listen_49 (by decide) ?_
    refine lv_icmp_ge (tgt := 143) hx hb dX10_listen_51 (by decide) (fun c_6 => ?_) (fun c_6 => ?_)
    · replace hw := hw.1 c_6
      exact hK_143 v1 v2 v3 v4 v5 v6 refused _ _ _ hP hD hS (lv_sub hl [0, 1, 2, 3, 4, 5, 6] rfl) hw
    · replace hw := hw.2 c_6
      refine lv_iconst (v := 0) hx hb dX10_listen_54 (by decide) ?_
      refine lv_istore (lv' := [(8, .int 0), (0, .ref a_m), (1, .int v1), (2, .int v2), (3, .int v3), (4, .int v4), (5, .int v5), (6, .int v6), (7, .int v7)]) hx hb dX10_listen_55 hl (by decide) rfl (fun ls hl => ?_)
      refine lv_iconst (v := 0) hx hb dX10_listen_57 (by decide) ?_
      refine lv_istore (lv' := [(9, .int 0), (8, .int 0), (0, .ref a_m), (1, .int v1), (2, .int v2), (3, .int v3), (4, .int v4), (5, .int v5), (6, .int v6), (7, .int v7)]) hx hb dX10_listen_58 hl (by decide) rfl (fun ls hl => ?_)
      obtain ⟨n0, hw⟩ := hw
      refine k_X10_listen_L60 C0 ?_ n0 v1 v2 v3 v4 v5 v6 v7 0 0 refused _ _ _ hP hD hS (lv_sub hl [2, 3, 4, 5, 6, 7, 8, 9, 1, 0] rfl) hw
      intro v1_57 v2_58 v3_59 v4_60 v5_61 v6_62 v7_63 v8_64 refused_65 H locs ls hP hD hS hl hw
      refine k_X10_listen_J121 C0 ?_ v1_57 v2_58 v3_59 v4_60 v5_61 v6_62 v7_63 v8_64 refused_65 _ _ _ hP hD hS (lv_sub hl [0, 1, 2, 3, 4, 5, 6, 7, 8] rfl) hw
      intro v1_84 v2_85 v3_86 v4_87 v5_88 v6_89 v7_90 refused_91 H locs ls hP hD hS hl hw
      exact ih v1_84 v2_85 v3_86 v4_87 v5_88 v6_89 v7_90 refused_91 _ _ _ hP hD hS (lv_sub hl [0, 1, 2, 3, 4, 5, 6, 7] rfl) hw
def wp_X10_listen_J171 (told : Nat → Int32) (Post : Int32 → (Nat → Int32) → Prop) (K_30 : Int32 → Int32 → Int32 → Int32 → Int32 → (Nat → Int32) → Prop) (v1 : Int32) (v2 : Int32) (v3 : Int32) (v5 : Int32) (s0 : Int32) (refused : Nat → Int32) : Prop :=
  (∀ x_102 : Int32, x_102 = v5 + 1 → K_30 v1 v2 v3 s0 x_102 refused)
set_option maxHeartbeats 4000000 in
set_option maxRecDepth 100000 in
theorem k_X10_listen_J171 {p : Program} {l : Launch} {e : Env} {s : State} {m : MethodId} {ar : Array Value} {bl : List Frame} {meth : Method} {c : Code} {D : va_G} {A : Nat → Prop} {cI cB cZ cP cC : ClassId} {a_m a_m_told a_m_kept a_m_isKept a_m_refused a_m_months a_m_heirs a_m_lasts a_m_cares a_m_bestCares a_m_ones a_m_others a_m_bytes a_m_anew a_m_values : Nat} {above : Int64} {below : Int64} {retired : Int32} {manyLine : Int32} {bytesLong : Int32} {tokenAt : Int32} {tokenLong : Int32} {token : Int32} {value : Int32} {told : Nat → Int32} {Post : Int32 → (Nat → Int32) → Prop} {K_30 : Int32 → Int32 → Int32 → Int32 → Int32 → (Nat → Int32) → Prop} (C0 : mxC p s m ar meth c cX10_listen RX10 (some .int) 10 D (mxTy cI cB cZ cP cC) A)
    (hK_30 : ∀ (v1 : Int32) (v2 : Int32) (v3 : Int32) (v4 : Int32) (v5 : Int32) (refused : Nat → Int32) (H : Heap) (locs : List Loc) (ls : Array Slot), va_P D vwCl (ww_X10_listen a_m a_m_told a_m_kept a_m_isKept a_m_refused a_m_months a_m_heirs a_m_lasts a_m_cares a_m_bestCares a_m_ones a_m_others a_m_bytes a_m_anew a_m_values cI cB cZ cP cC above below retired manyLine bytesLong tokenAt tokenLong token value told refused) H → va_D A (ww_X10_listen a_m a_m_told a_m_kept a_m_isKept a_m_refused a_m_months a_m_heirs a_m_lasts a_m_cares a_m_bestCares a_m_ones a_m_others a_m_bytes a_m_anew a_m_values cI cB cZ cP cC above below retired manyLine bytesLong tokenAt tokenLong token value told refused) → va_S A s.heap H locs → lv_has ls 10 [(0, .ref a_m), (1, .int v1), (2, .int v2), (3, .int v3), (4, .int v4), (5, .int v5)] → K_30 v1 v2 v3 v4 v5 refused → W p l e rm_X10_listen s m ar bl meth c H locs 0 0 (MQ bl (qq_X10_listen D a_m a_m_told a_m_kept a_m_isKept a_m_refused a_m_months a_m_heirs a_m_lasts a_m_cares a_m_bestCares a_m_ones a_m_others a_m_bytes a_m_anew a_m_values cI cB cZ cP cC above below retired manyLine bytesLong tokenAt tokenLong token value told Post A) ar s 0 0 A) (F0 m 30 ls [])) :
    ∀ (v1 : Int32) (v2 : Int32) (v3 : Int32) (v5 : Int32) (s0 : Int32) (refused : Nat → Int32) (H : Heap) (locs : List Loc) (ls : Array Slot), va_P D vwCl (ww_X10_listen a_m a_m_told a_m_kept a_m_isKept a_m_refused a_m_months a_m_heirs a_m_lasts a_m_cares a_m_bestCares a_m_ones a_m_others a_m_bytes a_m_anew a_m_values cI cB cZ cP cC above below retired manyLine bytesLong tokenAt tokenLong token value told refused) H → va_D A (ww_X10_listen a_m a_m_told a_m_kept a_m_isKept a_m_refused a_m_months a_m_heirs a_m_lasts a_m_cares a_m_bestCares a_m_ones a_m_others a_m_bytes a_m_anew a_m_values cI cB cZ cP cC above below retired manyLine bytesLong tokenAt tokenLong token value told refused) → va_S A s.heap H locs → lv_has ls 10 [(0, .ref a_m), (1, .int v1), (2, .int v2), (3, .int v3), (5, .int v5)] → wp_X10_listen_J171 told Post K_30 v1 v2 v3 v5 s0 refused → W p l e rm_X10_listen s m ar bl meth c H locs 0 0 (MQ bl (qq_X10_listen D a_m a_m_told a_m_kept a_m_isKept a_m_refused a_m_months a_m_heirs a_m_lasts a_m_cares a_m_bestCares a_m_ones a_m_others a_m_bytes a_m_anew a_m_values cI cB cZ cP cC above below retired manyLine bytesLong tokenAt tokenLong token value told Post A) ar s 0 0 A) (F0 m 171 ls [.int s0]) := by
  obtain ⟨hx, hb, hr, hlocks, hml, hown, hts, hK, hA⟩ := id C0
  intro v1 v2 v3 v5 s0 refused H locs ls hP hD hS hl hw
  refine lv_istore (lv' := [(4, .int s0), (0, .ref a_m), (1, .int v1), (2, .int v2), (3, .int v3), (5, .int v5)]) hx hb dX10_listen_171 hl (by decide) rfl (fun ls hl => ?_)
  obtain ⟨x_102, ex_102⟩ : ∃ y : Int32, y = v5 + 1 := ⟨_, rfl⟩
  replace hw := hw x_102 ex_102
  refine lv_iinc (v := x_102) (lv' := [(5, .int x_102), (4, .int s0), (0, .ref a_m), (1, .int v1), (2, .int v2), (3, .int v3)]) hx hb dX10_listen_173 hl (k := 5) rfl (by rw [ex_102]; rfl) (by decide) rfl (fun ls hl => ?_)
  refine lv_goto (tgt := 30) hx hb dX10_listen_176 (by decide) ?_
  exact hK_30 v1 v2 v3 s0 x_102 refused _ _ _ hP hD hS (lv_sub hl [2, 3, 4, 5, 1, 0] rfl) hw
def wp_X10_listen_J156 (told : Nat → Int32) (Post : Int32 → (Nat → Int32) → Prop) (K_30 : Int32 → Int32 → Int32 → Int32 → Int32 → (Nat → Int32) → Prop) (v1 : Int32) (v2 : Int32) (v4 : Int32) (v5 : Int32) (v6 : Int32) (s0 : Int32) (refused : Nat → Int32) : Prop :=
  ((v4 ≤ v6 → (wp_X10_listen_J171 told Post K_30 v1 v2 s0 v5 v4 refused)) ∧ (¬ v4 ≤ v6 → (wp_X10_listen_J171 told Post K_30 v1 v2 s0 v5 v6 refused)))
set_option maxHeartbeats 4000000 in
set_option maxRecDepth 100000 in
theorem k_X10_listen_J156 {p : Program} {l : Launch} {e : Env} {s : State} {m : MethodId} {ar : Array Value} {bl : List Frame} {meth : Method} {c : Code} {D : va_G} {A : Nat → Prop} {cI cB cZ cP cC : ClassId} {a_m a_m_told a_m_kept a_m_isKept a_m_refused a_m_months a_m_heirs a_m_lasts a_m_cares a_m_bestCares a_m_ones a_m_others a_m_bytes a_m_anew a_m_values : Nat} {above : Int64} {below : Int64} {retired : Int32} {manyLine : Int32} {bytesLong : Int32} {tokenAt : Int32} {tokenLong : Int32} {token : Int32} {value : Int32} {told : Nat → Int32} {Post : Int32 → (Nat → Int32) → Prop} {K_30 : Int32 → Int32 → Int32 → Int32 → Int32 → (Nat → Int32) → Prop} (C0 : mxC p s m ar meth c cX10_listen RX10 (some .int) 10 D (mxTy cI cB cZ cP cC) A)
    (hK_30 : ∀ (v1 : Int32) (v2 : Int32) (v3 : Int32) (v4 : Int32) (v5 : Int32) (refused : Nat → Int32) (H : Heap) (locs : List Loc) (ls : Array Slot), va_P D vwCl (ww_X10_listen a_m a_m_told a_m_kept a_m_isKept a_m_refused a_m_months a_m_heirs a_m_lasts a_m_cares a_m_bestCares a_m_ones a_m_others a_m_bytes a_m_anew a_m_values cI cB cZ cP cC above below retired manyLine bytesLong tokenAt tokenLong token value told refused) H → va_D A (ww_X10_listen a_m a_m_told a_m_kept a_m_isKept a_m_refused a_m_months a_m_heirs a_m_lasts a_m_cares a_m_bestCares a_m_ones a_m_others a_m_bytes a_m_anew a_m_values cI cB cZ cP cC above below retired manyLine bytesLong tokenAt tokenLong token value told refused) → va_S A s.heap H locs → lv_has ls 10 [(0, .ref a_m), (1, .int v1), (2, .int v2), (3, .int v3), (4, .int v4), (5, .int v5)] → K_30 v1 v2 v3 v4 v5 refused → W p l e rm_X10_listen s m ar bl meth c H locs 0 0 (MQ bl (qq_X10_listen D a_m a_m_told a_m_kept a_m_isKept a_m_refused a_m_months a_m_heirs a_m_lasts a_m_cares a_m_bestCares a_m_ones a_m_others a_m_bytes a_m_anew a_m_values cI cB cZ cP cC above below retired manyLine bytesLong tokenAt tokenLong token value told Post A) ar s 0 0 A) (F0 m 30 ls [])) :
    ∀ (v1 : Int32) (v2 : Int32) (v4 : Int32) (v5 : Int32) (v6 : Int32) (s0 : Int32) (refused : Nat → Int32) (H : Heap) (locs : List Loc) (ls : Array Slot), va_P D vwCl (ww_X10_listen a_m a_m_told a_m_kept a_m_isKept a_m_refused a_m_months a_m_heirs a_m_lasts a_m_cares a_m_bestCares a_m_ones a_m_others a_m_bytes a_m_anew a_m_values cI cB cZ cP cC above below retired manyLine bytesLong tokenAt tokenLong token value told refused) H → va_D A (ww_X10_listen a_m a_m_told a_m_kept a_m_isKept a_m_refused a_m_months a_m_heirs a_m_lasts a_m_cares a_m_bestCares a_m_ones a_m_others a_m_bytes a_m_anew a_m_values cI cB cZ cP cC above below retired manyLine bytesLong tokenAt tokenLong token value told refused) → va_S A s.heap H locs → lv_has ls 10 [(0, .ref a_m), (1, .int v1), (2, .int v2), (4, .int v4), (5, .int v5), (6, .int v6)] → wp_X10_listen_J156 told Post K_30 v1 v2 v4 v5 v6 s0 refused → W p l e rm_X10_listen s m ar bl meth c H locs 0 0 (MQ bl (qq_X10_listen D a_m a_m_told a_m_kept a_m_isKept a_m_refused a_m_months a_m_heirs a_m_lasts a_m_cares a_m_bestCares a_m_ones a_m_others a_m_bytes a_m_anew a_m_values cI cB cZ cP cC above below retired manyLine bytesLong tokenAt tokenLong token value told Post A) ar s 0 0 A) (F0 m 156 ls [.int s0]) := by
  obtain ⟨hx, hb, hr, hlocks, hml, hown, hts, hK, hA⟩ := id C0
  intro v1 v2 v4 v5 v6 s0 refused H locs ls hP hD hS hl hw
  refine lv_istore_n (lv' := [(3, .int s0), (0, .ref a_m), (1, .int v1), (2, .int v2), (4, .int v4), (5, .int v5), (6, .int v6)]) hx hb dX10_listen_156 rfl hl (by decide) rfl (fun ls hl => ?_)
  refine lv_iload hx hb dX10_listen_157 (lv_at hl 6 rfl) ?_
  refine lv_iload hx hb dX10_listen_159 (lv_at hl 4 rfl) ?_
  refine lv_icmp_ge (tgt := 169) hx hb dX10_listen_161 (by decide) (fun c_101 => ?_) (fun c_101 => ?_)
  · replace hw := hw.1 c_101
    refine lv_iload hx hb dX10_listen_169 (lv_at hl 4 rfl) ?_
    refine k_X10_listen_J171 C0 ?_ v1 v2 s0 v5 v4 refused _ _ _ hP hD hS (lv_sub hl [1, 2, 3, 0, 5] rfl) hw
    intro v1_103 v2_104 v3_105 v4_106 v5_107 refused_108 H locs ls hP hD hS hl hw
    exact hK_30 v1_103 v2_104 v3_105 v4_106 v5_107 refused_108 _ _ _ hP hD hS (lv_sub hl [0, 1, 2, 3, 4, 5] rfl) hw
  · replace hw := hw.2 c_101
    refine lv_iload hx hb dX10_listen_164 (lv_at hl 6 rfl) ?_
    refine lv_goto (tgt := 171) hx hb dX10_listen_166 (by decide) ?_
    refine k_X10_listen_J171 C0 ?_ v1 v2 s0 v5 v6 refused _ _ _ hP hD hS (lv_sub hl [1, 2, 3, 0, 5] rfl) hw
    intro v1_109 v2_110 v3_111 v4_112 v5_113 refused_114 H locs ls hP hD hS hl hw
    exact hK_30 v1_109 v2_110 v3_111 v4_112 v5_113 refused_114 _ _ _ hP hD hS (lv_sub hl [0, 1, 2, 3, 4, 5] rfl) hw
def wp_X10_listen_L30 (told : Nat → Int32) (Post : Int32 → (Nat → Int32) → Prop)  : Nat → Int32 → Int32 → Int32 → Int32 → Int32 → (Nat → Int32) → Prop
  | 0, _, _, _, _, _, _ => False
  | n + 1, v1, v2, v3, v4, v5, refused => ((24 ≤ v5 → Post v3 refused) ∧ (¬ 24 ≤ v5 → ((v2 ≤ 0 → Post v3 refused) ∧ (¬ v2 ≤ 0 → (∃ k_127 : Nat, wp_X10_listen_L47 told Post (fun (v1_93 : Int32) (v2_94 : Int32) (v3_95 : Int32) (v4_96 : Int32) (v5_97 : Int32) (v6_98 : Int32) (refused_99 : Nat → Int32) => ((v4_96 ≤ v6_98 → (wp_X10_listen_J156 told Post (fun (v1_115 : Int32) (v2_116 : Int32) (v3_117 : Int32) (v4_118 : Int32) (v5_119 : Int32) (refused_120 : Nat → Int32) => wp_X10_listen_L30 told Post  n v1_115 v2_116 v3_117 v4_118 v5_119 refused_120) v1_93 v2_94 v4_96 v5_97 v6_98 v3_95 refused_99)) ∧ (¬ v4_96 ≤ v6_98 → (wp_X10_listen_J156 told Post (fun (v1_121 : Int32) (v2_122 : Int32) (v3_123 : Int32) (v4_124 : Int32) (v5_125 : Int32) (refused_126 : Nat → Int32) => wp_X10_listen_L30 told Post  n v1_121 v2_122 v3_123 v4_124 v5_125 refused_126) v1_93 v2_94 v4_96 v5_97 v6_98 v5_97 refused_99)))) k_127 v1 v2 v3 v4 v5 0 0 refused)))))
set_option maxHeartbeats 4000000 in
set_option maxRecDepth 100000 in
theorem k_X10_listen_L30 {p : Program} {l : Launch} {e : Env} {s : State} {m : MethodId} {ar : Array Value} {bl : List Frame} {meth : Method} {c : Code} {D : va_G} {A : Nat → Prop} {cI cB cZ cP cC : ClassId} {a_m a_m_told a_m_kept a_m_isKept a_m_refused a_m_months a_m_heirs a_m_lasts a_m_cares a_m_bestCares a_m_ones a_m_others a_m_bytes a_m_anew a_m_values : Nat} {above : Int64} {below : Int64} {retired : Int32} {manyLine : Int32} {bytesLong : Int32} {tokenAt : Int32} {tokenLong : Int32} {token : Int32} {value : Int32} {told : Nat → Int32} {Post : Int32 → (Nat → Int32) → Prop} (C0 : mxC p s m ar meth c cX10_listen RX10 (some .int) 10 D (mxTy cI cB cZ cP cC) A) :
    ∀ (n : Nat) (v1 : Int32) (v2 : Int32) (v3 : Int32) (v4 : Int32) (v5 : Int32) (refused : Nat → Int32) (H : Heap) (locs : List Loc) (ls : Array Slot), va_P D vwCl (ww_X10_listen a_m a_m_told a_m_kept a_m_isKept a_m_refused a_m_months a_m_heirs a_m_lasts a_m_cares a_m_bestCares a_m_ones a_m_others a_m_bytes a_m_anew a_m_values cI cB cZ cP cC above below retired manyLine bytesLong tokenAt tokenLong token value told refused) H → va_D A (ww_X10_listen a_m a_m_told a_m_kept a_m_isKept a_m_refused a_m_months a_m_heirs a_m_lasts a_m_cares a_m_bestCares a_m_ones a_m_others a_m_bytes a_m_anew a_m_values cI cB cZ cP cC above below retired manyLine bytesLong tokenAt tokenLong token value told refused) → va_S A s.heap H locs → lv_has ls 10 [(0, .ref a_m), (1, .int v1), (2, .int v2), (3, .int v3), (4, .int v4), (5, .int v5)] → wp_X10_listen_L30 told Post  n v1 v2 v3 v4 v5 refused → W p l e rm_X10_listen s m ar bl meth c H locs 0 0 (MQ bl (qq_X10_listen D a_m a_m_told a_m_kept a_m_isKept a_m_refused a_m_months a_m_heirs a_m_lasts a_m_cares a_m_bestCares a_m_ones a_m_others a_m_bytes a_m_anew a_m_values cI cB cZ cP cC above below retired manyLine bytesLong tokenAt tokenLong token value told Post A) ar s 0 0 A) (F0 m 30 ls []) := by
  obtain ⟨hx, hb, hr, hlocks, hml, hown, hts, hK, hA⟩ := id C0
  intro n
  induction n with
  | zero =>
    intro v1 v2 v3 v4 v5 refused H locs ls hP hD hS hl hw
    exact absurd hw (fun h => h)
  | succ n ih =>
    intro v1 v2 v3 v4 v5 refused H locs ls hP hD hS hl hw
    refine lv_iload hx hb dX10_listen_30 (lv_at hl 5 rfl) ?_
    refine lv_bipush (v := 24) hx hb dX10_listen_32 (by decide) ?_
    refine lv_icmp_ge (tgt := 179) hx hb dX10_listen_34 (by decide) (fun c_4 => ?_) (fun c_4 => ?_)
    · replace hw := hw.1 c_4
      refine lv_iload_n hx hb dX10_listen_179 rfl (lv_at hl 3 rfl) ?_
      exact mx_iret refused hx hb hr hlocks rfl hw hK hP hD hS dX10_listen_180
    · replace hw := hw.2 c_4
      refine lv_iload_n hx hb dX10_listen_37 rfl (lv_at hl 2 rfl) ?_
      refine lv_if_le (tgt := 179) hx hb dX10_listen_38 (by decide) (fun c_5 => ?_) (fun c_5 => ?_)
      · replace hw := hw.1 c_5
        refine lv_iload_n hx hb dX10_listen_179 rfl (lv_at hl 3 rfl) ?_
        exact mx_iret refused hx hb hr hlocks rfl hw hK hP hD hS dX10_listen_180
      · replace hw := hw.2 c_5
        refine lv_iconst (v := 0) hx hb dX10_listen_41 (by decide) ?_
        refine lv_istore (lv' := [(6, .int 0), (0, .ref a_m), (1, .int v1), (2, .int v2), (3, .int v3), (4, .int v4), (5, .int v5)]) hx hb dX10_listen_42 hl (by decide) rfl (fun ls hl => ?_)
        refine lv_iconst (v := 0) hx hb dX10_listen_44 (by decide) ?_
        refine lv_istore (lv' := [(7, .int 0), (6, .int 0), (0, .ref a_m), (1, .int v1), (2, .int v2), (3, .int v3), (4, .int v4), (5, .int v5)]) hx hb dX10_listen_45 hl (by decide) rfl (fun ls hl => ?_)
        obtain ⟨n0, hw⟩ := hw
        refine k_X10_listen_L47 C0 ?_ n0 v1 v2 v3 v4 v5 0 0 refused _ _ _ hP hD hS (lv_sub hl [2, 3, 4, 5, 6, 7, 1, 0] rfl) hw
        intro v1_93 v2_94 v3_95 v4_96 v5_97 v6_98 refused_99 H locs ls hP hD hS hl hw
        refine lv_iload hx hb dX10_listen_143 (lv_at hl 6 rfl) ?_
        refine lv_iload hx hb dX10_listen_145 (lv_at hl 4 rfl) ?_
        refine lv_icmp_ge (tgt := 155) hx hb dX10_listen_147 (by decide) (fun c_100 => ?_) (fun c_100 => ?_)
        · replace hw := hw.1 c_100
          refine lv_iload_n hx hb dX10_listen_155 rfl (lv_at hl 3 rfl) ?_
          refine k_X10_listen_J156 C0 ?_ v1_93 v2_94 v4_96 v5_97 v6_98 v3_95 refused_99 _ _ _ hP hD hS (lv_sub hl [0, 1, 2, 4, 5, 6] rfl) hw
          intro v1_115 v2_116 v3_117 v4_118 v5_119 refused_120 H locs ls hP hD hS hl hw
          exact ih v1_115 v2_116 v3_117 v4_118 v5_119 refused_120 _ _ _ hP hD hS (lv_sub hl [0, 1, 2, 3, 4, 5] rfl) hw
        · replace hw := hw.2 c_100
          refine lv_iload hx hb dX10_listen_150 (lv_at hl 5 rfl) ?_
          refine lv_goto (tgt := 156) hx hb dX10_listen_152 (by decide) ?_
          refine k_X10_listen_J156 C0 ?_ v1_93 v2_94 v4_96 v5_97 v6_98 v5_97 refused_99 _ _ _ hP hD hS (lv_sub hl [0, 1, 2, 4, 5, 6] rfl) hw
          intro v1_121 v2_122 v3_123 v4_124 v5_125 refused_126 H locs ls hP hD hS hl hw
          exact ih v1_121 v2_122 v3_123 v4_124 v5_125 refused_126 _ _ _ hP hD hS (lv_sub hl [0, 1, 2, 3, 4, 5] rfl) hw
def wp_X10_listen (told : Nat → Int32) (refused : Nat → Int32) (v1 : Int32) (Post : Int32 → (Nat → Int32) → Prop) : Prop :=
  (wp_X10_isInfant told v1 (fun r_1 => ((r_1 = 0 → (wp_X10_bad refused (-2) (fun r_129 refused_130 => Post r_129 refused_130))) ∧ (¬ r_1 = 0 → (wp_X10_kindsOf told v1 (fun r_3 => (∃ k_128 : Nat, wp_X10_listen_L30 told Post k_128 v1 r_3 (-1) 1000000 0 refused)))))))
set_option maxHeartbeats 4000000 in
set_option maxRecDepth 100000 in
theorem c_X10_listen (l : Launch) (D : va_G) (cI cB cZ cP cC : ClassId) (a_m a_m_told a_m_kept a_m_isKept a_m_refused a_m_months a_m_heirs a_m_lasts a_m_cares a_m_bestCares a_m_ones a_m_others a_m_bytes a_m_anew a_m_values : Nat) (above : Int64) (below : Int64) (retired : Int32) (manyLine : Int32) (bytesLong : Int32) (tokenAt : Int32) (tokenLong : Int32) (token : Int32) (value : Int32) (told : Nat → Int32) (refused : Nat → Int32) (v1 : Int32) (sz : Nat) (Post : Int32 → (Nat → Int32) → Prop) (hw : wp_X10_listen told refused v1 Post) :
    Met l yX10_listen (Cond.code yX10_listen cX10_listen 10 (some .int) :: wsAll) rm_X10_listen (va_Pc [.ref a_m, .int v1] (mxP D (mxTy cI cB cZ cP cC) sz (ww_X10_listen a_m a_m_told a_m_kept a_m_isKept a_m_refused a_m_months a_m_heirs a_m_lasts a_m_cares a_m_bestCares a_m_ones a_m_others a_m_bytes a_m_anew a_m_values cI cB cZ cP cC above below retired manyLine bytesLong tokenAt tokenLong token value told refused))) (qq_X10_listen D a_m a_m_told a_m_kept a_m_isKept a_m_refused a_m_months a_m_heirs a_m_lasts a_m_cares a_m_bestCares a_m_ones a_m_others a_m_bytes a_m_anew a_m_values cI cB cZ cP cC above below retired manyLine bytesLong tokenAt tokenLong token value told Post (va_A (ww_X10_listen a_m a_m_told a_m_kept a_m_isKept a_m_refused a_m_months a_m_heirs a_m_lasts a_m_cares a_m_bestCares a_m_ones a_m_others a_m_bytes a_m_anew a_m_values cI cB cZ cP cC above below retired manyLine bytesLong tokenAt tokenLong token value told refused) sz)) 0 0 (va_A (ww_X10_listen a_m a_m_told a_m_kept a_m_isKept a_m_refused a_m_months a_m_heirs a_m_lasts a_m_cares a_m_bestCares a_m_ones a_m_others a_m_bytes a_m_anew a_m_values cI cB cZ cP cC above below retired manyLine bytesLong tokenAt tokenLong token value told refused) sz) := by
  refine mx_of (Qc := qq_X10_listen D a_m a_m_told a_m_kept a_m_isKept a_m_refused a_m_months a_m_heirs a_m_lasts a_m_cares a_m_bestCares a_m_ones a_m_others a_m_bytes a_m_anew a_m_values cI cB cZ cP cC above below retired manyLine bytesLong tokenAt tokenLong token value told Post) (by decide) (Nat.le_of_ble_eq_true rfl) ?_
  intro p e s m bl meth c A ls C0 hP hD hS hl
  replace C0 : mxC p s m [.ref a_m, .int v1].toArray meth c cX10_listen RX10 (some .int) 10 D (mxTy cI cB cZ cP cC) A := C0
  obtain ⟨hx, hb, hr, hlocks, hml, hown, hts, hK, hA⟩ := id C0
  replace hl : lv_has ls 10 [(0, .ref a_m), (1, .int v1)] := hl
  unfold wp_X10_listen at hw
  refine lv_aload_n hx hb dX10_listen_0 rfl (lv_at hl 0 rfl) ?_
  refine lv_iload_n hx hb dX10_listen_1 rfl (lv_at hl 1 rfl) ?_
  refine mx_ki (mx_rV (rm := rm_X10_isInfant) (rest := []) (C := RX10) hx hb hml hown hts (c_X10_isInfant l D cI cB cZ cP cC a_m a_m_told a_m_kept a_m_isKept a_m_refused a_m_months a_m_heirs a_m_lasts a_m_cares a_m_bestCares a_m_ones a_m_others a_m_bytes a_m_anew a_m_values above below retired manyLine bytesLong tokenAt tokenLong token value told v1 _ _ hw) q_472 q_473 q_474 q_5 q_475 hd_X10_isInfant ⟨(Nat.le_of_ble_eq_true rfl), (Nat.le_of_ble_eq_true rfl)⟩ rfl rfl hK hP hD [0, 1] rfl rfl 10 0 rfl rfl rfl rfl hl.1 rfl (Nat.le_of_ble_eq_true rfl) dX10_listen_2 ⟨(Nat.le_of_ble_eq_true rfl), (Nat.le_of_ble_eq_true rfl)⟩) hP hD hS hA [0, 1] [2] [1, 2, 0] (fun _ => ww_X10_listen a_m a_m_told a_m_kept a_m_isKept a_m_refused a_m_months a_m_heirs a_m_lasts a_m_cares a_m_bestCares a_m_ones a_m_others a_m_bytes a_m_anew a_m_values cI cB cZ cP cC above below retired manyLine bytesLong tokenAt tokenLong token value told refused) rfl rfl rfl (by decide) rfl (fun _ => rfl) (fun r_1 u H locs hw hP hD hS => ?_)
  try dsimp only at hw
  replace hP : va_P D vwCl (ww_X10_listen a_m a_m_told a_m_kept a_m_isKept a_m_refused a_m_months a_m_heirs a_m_lasts a_m_cares a_m_bestCares a_m_ones a_m_others a_m_bytes a_m_anew a_m_values cI cB cZ cP cC above below retired manyLine bytesLong tokenAt tokenLong token value told refused) H := hP
  replace hD : va_D A (ww_X10_listen a_m a_m_told a_m_kept a_m_isKept a_m_refused a_m_months a_m_heirs a_m_lasts a_m_cares a_m_bestCares a_m_ones a_m_others a_m_bytes a_m_anew a_m_values cI cB cZ cP cC above below retired manyLine bytesLong tokenAt tokenLong token value told refused) := hD
  refine lv_if_ne (tgt := 15) hx hb dX10_listen_5 (by decide) (fun c_2 => ?_) (fun c_2 => ?_)
  · replace hw := hw.2 c_2
    refine lv_aload_n hx hb dX10_listen_15 rfl (lv_at hl 0 rfl) ?_
    refine lv_iload_n hx hb dX10_listen_16 rfl (lv_at hl 1 rfl) ?_
    refine mx_ki (mx_rV (rm := rm_X10_kindsOf) (rest := []) (C := RX10) hx hb hml hown hts (c_X10_kindsOf l D cI cB cZ cP cC a_m a_m_told a_m_kept a_m_isKept a_m_refused a_m_months a_m_heirs a_m_lasts a_m_cares a_m_bestCares a_m_ones a_m_others a_m_bytes a_m_anew a_m_values above below retired manyLine bytesLong tokenAt tokenLong token value told v1 _ _ hw) q_815 q_816 q_817 q_5 q_818 hd_X10_kindsOf ⟨(Nat.le_of_ble_eq_true rfl), (Nat.le_of_ble_eq_true rfl)⟩ rfl rfl hK hP hD [0, 1] rfl rfl 10 0 rfl rfl rfl rfl hl.1 rfl (Nat.le_of_ble_eq_true rfl) dX10_listen_17 ⟨(Nat.le_of_ble_eq_true rfl), (Nat.le_of_ble_eq_true rfl)⟩) hP hD hS hA [0, 1] [2] [1, 2, 0] (fun _ => ww_X10_listen a_m a_m_told a_m_kept a_m_isKept a_m_refused a_m_months a_m_heirs a_m_lasts a_m_cares a_m_bestCares a_m_ones a_m_others a_m_bytes a_m_anew a_m_values cI cB cZ cP cC above below retired manyLine bytesLong tokenAt tokenLong token value told refused) rfl rfl rfl (by decide) rfl (fun _ => rfl) (fun r_3 u H locs hw hP hD hS => ?_)
    try dsimp only at hw
    replace hP : va_P D vwCl (ww_X10_listen a_m a_m_told a_m_kept a_m_isKept a_m_refused a_m_months a_m_heirs a_m_lasts a_m_cares a_m_bestCares a_m_ones a_m_others a_m_bytes a_m_anew a_m_values cI cB cZ cP cC above below retired manyLine bytesLong tokenAt tokenLong token value told refused) H := hP
    replace hD : va_D A (ww_X10_listen a_m a_m_told a_m_kept a_m_isKept a_m_refused a_m_months a_m_heirs a_m_lasts a_m_cares a_m_bestCares a_m_ones a_m_others a_m_bytes a_m_anew a_m_values cI cB cZ cP cC above below retired manyLine bytesLong tokenAt tokenLong token value told refused) := hD
    refine lv_istore_n (lv' := [(2, .int r_3), (0, .ref a_m), (1, .int v1)]) hx hb dX10_listen_20 rfl hl (by decide) rfl (fun ls hl => ?_)
    refine lv_iconst (v := (-1)) hx hb dX10_listen_21 (by decide) ?_
    refine lv_istore_n (lv' := [(3, .int (-1)), (2, .int r_3), (0, .ref a_m), (1, .int v1)]) hx hb dX10_listen_22 rfl hl (by decide) rfl (fun ls hl => ?_)
    refine lv_ldc (v := 1000000) hx hb hown (hts _ q_747) dX10_listen_23 ?_
    refine lv_istore (lv' := [(4, .int 1000000), (3, .int (-1)), (2, .int r_3), (0, .ref a_m), (1, .int v1)]) hx hb dX10_listen_25 hl (by decide) rfl (fun ls hl => ?_)
    refine lv_iconst (v := 0) hx hb dX10_listen_27 (by decide) ?_
    refine lv_istore (lv' := [(5, .int 0), (4, .int 1000000), (3, .int (-1)), (2, .int r_3), (0, .ref a_m), (1, .int v1)]) hx hb dX10_listen_28 hl (by decide) rfl (fun ls hl => ?_)
    obtain ⟨n0, hw⟩ := hw
    refine k_X10_listen_L30 C0  n0 v1 r_3 (-1) 1000000 0 refused _ _ _ hP hD hS (lv_sub hl [4, 5, 3, 2, 1, 0] rfl) hw
  · replace hw := hw.1 c_2
    refine lv_aload_n hx hb dX10_listen_8 rfl (lv_at hl 0 rfl) ?_
    refine lv_bipush (v := (-2)) hx hb dX10_listen_9 (by decide) ?_
    refine mx_ki (mx_rV (rm := rm_X10_bad) (rest := []) (C := RX10) hx hb hml hown hts (c_X10_bad l D cI cB cZ cP cC a_m a_m_told a_m_kept a_m_isKept a_m_refused a_m_months a_m_heirs a_m_lasts a_m_cares a_m_bestCares a_m_ones a_m_others a_m_bytes a_m_anew a_m_values above below retired manyLine bytesLong tokenAt tokenLong token value refused (-2) _ _ hw) q_166 q_167 q_168 q_5 q_169 hd_X10_bad ⟨(Nat.le_of_ble_eq_true rfl), (Nat.le_of_ble_eq_true rfl)⟩ rfl rfl hK hP hD [0, 2] rfl rfl 10 0 rfl rfl rfl rfl hl.1 rfl (Nat.le_of_ble_eq_true rfl) dX10_listen_11 ⟨(Nat.le_of_ble_eq_true rfl), (Nat.le_of_ble_eq_true rfl)⟩) hP hD hS hA [0, 2] [1] [1, 0, 2] (fun u => ww_X10_listen a_m a_m_told a_m_kept a_m_isKept a_m_refused a_m_months a_m_heirs a_m_lasts a_m_cares a_m_bestCares a_m_ones a_m_others a_m_bytes a_m_anew a_m_values cI cB cZ cP cC above below retired manyLine bytesLong tokenAt tokenLong token value told u) rfl rfl rfl (by decide) rfl (fun _ => rfl) (fun r_129 refused_130 H locs hw hP hD hS => ?_)
    try dsimp only at hw
    replace hP : va_P D vwCl (ww_X10_listen a_m a_m_told a_m_kept a_m_isKept a_m_refused a_m_months a_m_heirs a_m_lasts a_m_cares a_m_bestCares a_m_ones a_m_others a_m_bytes a_m_anew a_m_values cI cB cZ cP cC above below retired manyLine bytesLong tokenAt tokenLong token value told refused_130) H := hP
    replace hD : va_D A (ww_X10_listen a_m a_m_told a_m_kept a_m_isKept a_m_refused a_m_months a_m_heirs a_m_lasts a_m_cares a_m_bestCares a_m_ones a_m_others a_m_bytes a_m_anew a_m_values cI cB cZ cP cC above below retired manyLine bytesLong tokenAt tokenLong token value told refused_130) := hD
    exact mx_iret refused_130 hx hb hr hlocks rfl hw hK hP hD hS dX10_listen_14
/-! PramStateModel.which()I -/
abbrev ww_X10_which (a_m a_m_told a_m_kept a_m_isKept a_m_refused a_m_months a_m_heirs a_m_lasts a_m_cares a_m_bestCares a_m_ones a_m_others a_m_bytes a_m_anew a_m_values : Nat) (cI cB cZ cP cC : ClassId) (above : Int64) (below : Int64) (retired : Int32) (manyLine : Int32) (bytesLong : Int32) (tokenAt : Int32) (tokenLong : Int32) (token : Int32) (value : Int32) (told : Nat → Int32) : va_W := [(a_m, .inr (10, [.ref a_m_told, .ref a_m_kept, .ref a_m_isKept, .ref a_m_refused, .long above, .long below, .ref a_m_months, .int retired, .ref a_m_heirs, .ref a_m_lasts, .int manyLine, .ref a_m_cares, .ref a_m_bestCares, .ref a_m_ones, .ref a_m_others, .ref a_m_bytes, .int bytesLong, .int tokenAt, .int tokenLong, .int token, .int value, .ref a_m_anew, .ref a_m_values])), (a_m_told, .inl (cI, 190, .inl told))]
abbrev qq_X10_which (D : va_G) (a_m a_m_told a_m_kept a_m_isKept a_m_refused a_m_months a_m_heirs a_m_lasts a_m_cares a_m_bestCares a_m_ones a_m_others a_m_bytes a_m_anew a_m_values : Nat) (cI cB cZ cP cC : ClassId) (above : Int64) (below : Int64) (retired : Int32) (manyLine : Int32) (bytesLong : Int32) (tokenAt : Int32) (tokenLong : Int32) (token : Int32) (value : Int32) (told : Nat → Int32) (Post : Int32 → Prop) (A : Nat → Prop) : Array Value → State → Outcome → State → Prop := va_Qi (fun (r : Int32) (u : Unit) => Post r) (fun (u : Unit) t => mxB D (mxTy cI cB cZ cP cC) A (ww_X10_which a_m a_m_told a_m_kept a_m_isKept a_m_refused a_m_months a_m_heirs a_m_lasts a_m_cares a_m_bestCares a_m_ones a_m_others a_m_bytes a_m_anew a_m_values cI cB cZ cP cC above below retired manyLine bytesLong tokenAt tokenLong token value told) t) A
abbrev rm_X10_which : Room := { frames := 2, cells := 0, slots := 0, locals := 44 }
theorem hd_X10_which : yX10_which.cls = RX10 ∧ yX10_which.cls ≠ "java/lang/invoke/MethodHandle" ∧ yX10_which.cls ≠ "java/lang/invoke/VarHandle" ∧ (parseMethodDescriptor yX10_which.desc).map (fun d => d.parameters.length) = some 0 := by decide +kernel
def wp_X10_which_J78 (told : Nat → Int32) (Post : Int32 → Prop) (K_15 : Int32 → Int32 → Int32 → Int32 → Prop) (v1 : Int32) (v2 : Int32) (v4 : Int32) (s0 : Int32) : Prop :=
  (∀ x_4 : Int32, x_4 = v4 + 1 → K_15 v1 v2 s0 x_4)
set_option maxHeartbeats 4000000 in
set_option maxRecDepth 100000 in
theorem k_X10_which_J78 {p : Program} {l : Launch} {e : Env} {s : State} {m : MethodId} {ar : Array Value} {bl : List Frame} {meth : Method} {c : Code} {D : va_G} {A : Nat → Prop} {cI cB cZ cP cC : ClassId} {a_m a_m_told a_m_kept a_m_isKept a_m_refused a_m_months a_m_heirs a_m_lasts a_m_cares a_m_bestCares a_m_ones a_m_others a_m_bytes a_m_anew a_m_values : Nat} {above : Int64} {below : Int64} {retired : Int32} {manyLine : Int32} {bytesLong : Int32} {tokenAt : Int32} {tokenLong : Int32} {token : Int32} {value : Int32} {told : Nat → Int32} {Post : Int32 → Prop} {K_15 : Int32 → Int32 → Int32 → Int32 → Prop} (C0 : mxC p s m ar meth c cX10_which RX10 (some .int) 5 D (mxTy cI cB cZ cP cC) A)
    (hK_15 : ∀ (v1 : Int32) (v2 : Int32) (v3 : Int32) (v4 : Int32) (H : Heap) (locs : List Loc) (ls : Array Slot), va_P D vwCl (ww_X10_which a_m a_m_told a_m_kept a_m_isKept a_m_refused a_m_months a_m_heirs a_m_lasts a_m_cares a_m_bestCares a_m_ones a_m_others a_m_bytes a_m_anew a_m_values cI cB cZ cP cC above below retired manyLine bytesLong tokenAt tokenLong token value told) H → va_D A (ww_X10_which a_m a_m_told a_m_kept a_m_isKept a_m_refused a_m_months a_m_heirs a_m_lasts a_m_cares a_m_bestCares a_m_ones a_m_others a_m_bytes a_m_anew a_m_values cI cB cZ cP cC above below retired manyLine bytesLong tokenAt tokenLong token value told) → va_S A s.heap H locs → lv_has ls 5 [(0, .ref a_m), (1, .int v1), (2, .int v2), (3, .int v3), (4, .int v4)] → K_15 v1 v2 v3 v4 → W p l e rm_X10_which s m ar bl meth c H locs 0 0 (MQ bl (qq_X10_which D a_m a_m_told a_m_kept a_m_isKept a_m_refused a_m_months a_m_heirs a_m_lasts a_m_cares a_m_bestCares a_m_ones a_m_others a_m_bytes a_m_anew a_m_values cI cB cZ cP cC above below retired manyLine bytesLong tokenAt tokenLong token value told Post A) ar s 0 0 A) (F0 m 15 ls [])) :
    ∀ (v1 : Int32) (v2 : Int32) (v4 : Int32) (s0 : Int32) (H : Heap) (locs : List Loc) (ls : Array Slot), va_P D vwCl (ww_X10_which a_m a_m_told a_m_kept a_m_isKept a_m_refused a_m_months a_m_heirs a_m_lasts a_m_cares a_m_bestCares a_m_ones a_m_others a_m_bytes a_m_anew a_m_values cI cB cZ cP cC above below retired manyLine bytesLong tokenAt tokenLong token value told) H → va_D A (ww_X10_which a_m a_m_told a_m_kept a_m_isKept a_m_refused a_m_months a_m_heirs a_m_lasts a_m_cares a_m_bestCares a_m_ones a_m_others a_m_bytes a_m_anew a_m_values cI cB cZ cP cC above below retired manyLine bytesLong tokenAt tokenLong token value told) → va_S A s.heap H locs → lv_has ls 5 [(0, .ref a_m), (1, .int v1), (2, .int v2), (4, .int v4)] → wp_X10_which_J78 told Post K_15 v1 v2 v4 s0 → W p l e rm_X10_which s m ar bl meth c H locs 0 0 (MQ bl (qq_X10_which D a_m a_m_told a_m_kept a_m_isKept a_m_refused a_m_months a_m_heirs a_m_lasts a_m_cares a_m_bestCares a_m_ones a_m_others a_m_bytes a_m_anew a_m_values cI cB cZ cP cC above below retired manyLine bytesLong tokenAt tokenLong token value told Post A) ar s 0 0 A) (F0 m 78 ls [.int s0]) := by
  obtain ⟨hx, hb, hr, hlocks, hml, hown, hts, hK, hA⟩ := id C0
  intro v1 v2 v4 s0 H locs ls hP hD hS hl hw
  refine lv_istore_n (lv' := [(3, .int s0), (0, .ref a_m), (1, .int v1), (2, .int v2), (4, .int v4)]) hx hb dX10_which_78 rfl hl (by decide) rfl (fun ls hl => ?_)
  obtain ⟨x_4, ex_4⟩ : ∃ y : Int32, y = v4 + 1 := ⟨_, rfl⟩
  replace hw := hw x_4 ex_4
  refine lv_iinc (v := x_4) (lv' := [(4, .int x_4), (3, .int s0), (0, .ref a_m), (1, .int v1), (2, .int v2)]) hx hb dX10_which_79 hl (k := 4) rfl (by rw [ex_4]; rfl) (by decide) rfl (fun ls hl => ?_)
  refine lv_goto (tgt := 15) hx hb dX10_which_82 (by decide) ?_
  exact hK_15 v1 v2 s0 x_4 _ _ _ hP hD hS (lv_sub hl [2, 3, 4, 1, 0] rfl) hw
def wp_X10_which_J77 (told : Nat → Int32) (Post : Int32 → Prop) (K_15 : Int32 → Int32 → Int32 → Int32 → Prop) (v1 : Int32) (v2 : Int32) (v4 : Int32) : Prop :=
  (wp_X10_which_J78 told Post K_15 v1 v2 v4 0)
set_option maxHeartbeats 4000000 in
set_option maxRecDepth 100000 in
theorem k_X10_which_J77 {p : Program} {l : Launch} {e : Env} {s : State} {m : MethodId} {ar : Array Value} {bl : List Frame} {meth : Method} {c : Code} {D : va_G} {A : Nat → Prop} {cI cB cZ cP cC : ClassId} {a_m a_m_told a_m_kept a_m_isKept a_m_refused a_m_months a_m_heirs a_m_lasts a_m_cares a_m_bestCares a_m_ones a_m_others a_m_bytes a_m_anew a_m_values : Nat} {above : Int64} {below : Int64} {retired : Int32} {manyLine : Int32} {bytesLong : Int32} {tokenAt : Int32} {tokenLong : Int32} {token : Int32} {value : Int32} {told : Nat → Int32} {Post : Int32 → Prop} {K_15 : Int32 → Int32 → Int32 → Int32 → Prop} (C0 : mxC p s m ar meth c cX10_which RX10 (some .int) 5 D (mxTy cI cB cZ cP cC) A)
    (hK_15 : ∀ (v1 : Int32) (v2 : Int32) (v3 : Int32) (v4 : Int32) (H : Heap) (locs : List Loc) (ls : Array Slot), va_P D vwCl (ww_X10_which a_m a_m_told a_m_kept a_m_isKept a_m_refused a_m_months a_m_heirs a_m_lasts a_m_cares a_m_bestCares a_m_ones a_m_others a_m_bytes a_m_anew a_m_values cI cB cZ cP cC above below retired manyLine bytesLong tokenAt tokenLong token value told) H → va_D A (ww_X10_which a_m a_m_told a_m_kept a_m_isKept a_m_refused a_m_months a_m_heirs a_m_lasts a_m_cares a_m_bestCares a_m_ones a_m_others a_m_bytes a_m_anew a_m_values cI cB cZ cP cC above below retired manyLine bytesLong tokenAt tokenLong token value told) → va_S A s.heap H locs → lv_has ls 5 [(0, .ref a_m), (1, .int v1), (2, .int v2), (3, .int v3), (4, .int v4)] → K_15 v1 v2 v3 v4 → W p l e rm_X10_which s m ar bl meth c H locs 0 0 (MQ bl (qq_X10_which D a_m a_m_told a_m_kept a_m_isKept a_m_refused a_m_months a_m_heirs a_m_lasts a_m_cares a_m_bestCares a_m_ones a_m_others a_m_bytes a_m_anew a_m_values cI cB cZ cP cC above below retired manyLine bytesLong tokenAt tokenLong token value told Post A) ar s 0 0 A) (F0 m 15 ls [])) :
    ∀ (v1 : Int32) (v2 : Int32) (v4 : Int32) (H : Heap) (locs : List Loc) (ls : Array Slot), va_P D vwCl (ww_X10_which a_m a_m_told a_m_kept a_m_isKept a_m_refused a_m_months a_m_heirs a_m_lasts a_m_cares a_m_bestCares a_m_ones a_m_others a_m_bytes a_m_anew a_m_values cI cB cZ cP cC above below retired manyLine bytesLong tokenAt tokenLong token value told) H → va_D A (ww_X10_which a_m a_m_told a_m_kept a_m_isKept a_m_refused a_m_months a_m_heirs a_m_lasts a_m_cares a_m_bestCares a_m_ones a_m_others a_m_bytes a_m_anew a_m_values cI cB cZ cP cC above below retired manyLine bytesLong tokenAt tokenLong token value told) → va_S A s.heap H locs → lv_has ls 5 [(0, .ref a_m), (1, .int v1), (2, .int v2), (4, .int v4)] → wp_X10_which_J77 told Post K_15 v1 v2 v4 → W p l e rm_X10_which s m ar bl meth c H locs 0 0 (MQ bl (qq_X10_which D a_m a_m_told a_m_kept a_m_isKept a_m_refused a_m_months a_m_heirs a_m_lasts a_m_cares a_m_bestCares a_m_ones a_m_others a_m_bytes a_m_anew a_m_values cI cB cZ cP cC above below retired manyLine bytesLong tokenAt tokenLong token value told Post A) ar s 0 0 A) (F0 m 77 ls []) := by
  obtain ⟨hx, hb, hr, hlocks, hml, hown, hts, hK, hA⟩ := id C0
  intro v1 v2 v4 H locs ls hP hD hS hl hw
  refine lv_iconst (v := 0) hx hb dX10_which_77 (by decide) ?_
  refine k_X10_which_J78 C0 ?_ v1 v2 v4 0 _ _ _ hP hD hS (lv_sub hl [0, 1, 2, 3] rfl) hw
  intro v1_5 v2_6 v3_7 v4_8 H locs ls hP hD hS hl hw
  exact hK_15 v1_5 v2_6 v3_7 v4_8 _ _ _ hP hD hS (lv_sub hl [0, 1, 2, 3, 4] rfl) hw
def wp_X10_which_J70 (told : Nat → Int32) (Post : Int32 → Prop) (K_15 : Int32 → Int32 → Int32 → Int32 → Prop) (v1 : Int32) (v2 : Int32) (v4 : Int32) (s0 : Int32) (s1 : Int32) : Prop :=
  ((s1 = s0 → (wp_X10_which_J78 told Post K_15 v1 v2 v4 1)) ∧ (¬ s1 = s0 → (wp_X10_which_J77 told Post K_15 v1 v2 v4)))
set_option maxHeartbeats 4000000 in
set_option maxRecDepth 100000 in
theorem k_X10_which_J70 {p : Program} {l : Launch} {e : Env} {s : State} {m : MethodId} {ar : Array Value} {bl : List Frame} {meth : Method} {c : Code} {D : va_G} {A : Nat → Prop} {cI cB cZ cP cC : ClassId} {a_m a_m_told a_m_kept a_m_isKept a_m_refused a_m_months a_m_heirs a_m_lasts a_m_cares a_m_bestCares a_m_ones a_m_others a_m_bytes a_m_anew a_m_values : Nat} {above : Int64} {below : Int64} {retired : Int32} {manyLine : Int32} {bytesLong : Int32} {tokenAt : Int32} {tokenLong : Int32} {token : Int32} {value : Int32} {told : Nat → Int32} {Post : Int32 → Prop} {K_15 : Int32 → Int32 → Int32 → Int32 → Prop} (C0 : mxC p s m ar meth c cX10_which RX10 (some .int) 5 D (mxTy cI cB cZ cP cC) A)
    (hK_15 : ∀ (v1 : Int32) (v2 : Int32) (v3 : Int32) (v4 : Int32) (H : Heap) (locs : List Loc) (ls : Array Slot), va_P D vwCl (ww_X10_which a_m a_m_told a_m_kept a_m_isKept a_m_refused a_m_months a_m_heirs a_m_lasts a_m_cares a_m_bestCares a_m_ones a_m_others a_m_bytes a_m_anew a_m_values cI cB cZ cP cC above below retired manyLine bytesLong tokenAt tokenLong token value told) H → va_D A (ww_X10_which a_m a_m_told a_m_kept a_m_isKept a_m_refused a_m_months a_m_heirs a_m_lasts a_m_cares a_m_bestCares a_m_ones a_m_others a_m_bytes a_m_anew a_m_values cI cB cZ cP cC above below retired manyLine bytesLong tokenAt tokenLong token value told) → va_S A s.heap H locs → lv_has ls 5 [(0, .ref a_m), (1, .int v1), (2, .int v2), (3, .int v3), (4, .int v4)] → K_15 v1 v2 v3 v4 → W p l e rm_X10_which s m ar bl meth c H locs 0 0 (MQ bl (qq_X10_which D a_m a_m_told a_m_kept a_m_isKept a_m_refused a_m_months a_m_heirs a_m_lasts a_m_cares a_m_bestCares a_m_ones a_m_others a_m_bytes a_m_anew a_m_values cI cB cZ cP cC above below retired manyLine bytesLong tokenAt tokenLong token value told Post A) ar s 0 0 A) (F0 m 15 ls [])) :
    ∀ (v1 : Int32) (v2 : Int32) (v4 : Int32) (s0 : Int32) (s1 : Int32) (H : Heap) (locs : List Loc) (ls : Array Slot), va_P D vwCl (ww_X10_which a_m a_m_told a_m_kept a_m_isKept a_m_refused a_m_months a_m_heirs a_m_lasts a_m_cares a_m_bestCares a_m_ones a_m_others a_m_bytes a_m_anew a_m_values cI cB cZ cP cC above below retired manyLine bytesLong tokenAt tokenLong token value told) H → va_D A (ww_X10_which a_m a_m_told a_m_kept a_m_isKept a_m_refused a_m_months a_m_heirs a_m_lasts a_m_cares a_m_bestCares a_m_ones a_m_others a_m_bytes a_m_anew a_m_values cI cB cZ cP cC above below retired manyLine bytesLong tokenAt tokenLong token value told) → va_S A s.heap H locs → lv_has ls 5 [(0, .ref a_m), (1, .int v1), (2, .int v2), (4, .int v4)] → wp_X10_which_J70 told Post K_15 v1 v2 v4 s0 s1 → W p l e rm_X10_which s m ar bl meth c H locs 0 0 (MQ bl (qq_X10_which D a_m a_m_told a_m_kept a_m_isKept a_m_refused a_m_months a_m_heirs a_m_lasts a_m_cares a_m_bestCares a_m_ones a_m_others a_m_bytes a_m_anew a_m_values cI cB cZ cP cC above below retired manyLine bytesLong tokenAt tokenLong token value told Post A) ar s 0 0 A) (F0 m 70 ls [.int s0, .int s1]) := by
  obtain ⟨hx, hb, hr, hlocks, hml, hown, hts, hK, hA⟩ := id C0
  intro v1 v2 v4 s0 s1 H locs ls hP hD hS hl hw
  refine lv_icmp_ne (tgt := 77) hx hb dX10_which_70 (by decide) (fun c_17 => ?_) (fun c_17 => ?_)
  · replace hw := hw.2 c_17
    refine k_X10_which_J77 C0 ?_ v1 v2 v4 _ _ _ hP hD hS (lv_sub hl [0, 1, 2, 3] rfl) hw
    intro v1_18 v2_19 v3_20 v4_21 H locs ls hP hD hS hl hw
    exact hK_15 v1_18 v2_19 v3_20 v4_21 _ _ _ hP hD hS (lv_sub hl [0, 1, 2, 3, 4] rfl) hw
  · replace hw := hw.1 c_17
    refine lv_iconst (v := 1) hx hb dX10_which_73 (by decide) ?_
    refine lv_goto (tgt := 78) hx hb dX10_which_74 (by decide) ?_
    refine k_X10_which_J78 C0 ?_ v1 v2 v4 1 _ _ _ hP hD hS (lv_sub hl [0, 1, 2, 3] rfl) hw
    intro v1_22 v2_23 v3_24 v4_25 H locs ls hP hD hS hl hw
    exact hK_15 v1_22 v2_23 v3_24 v4_25 _ _ _ hP hD hS (lv_sub hl [0, 1, 2, 3, 4] rfl) hw
def wp_X10_which_L15 (told : Nat → Int32) (Post : Int32 → Prop) (K_85 : Int32 → Int32 → Int32 → Prop) : Nat → Int32 → Int32 → Int32 → Int32 → Prop
  | 0, _, _, _, _ => False
  | n + 1, v1, v2, v3, v4 => (((told 2) ≤ v4 → K_85 v1 v2 v3) ∧ (¬ (told 2) ≤ v4 → ((v3 = 0 → (wp_X10_which_J77 told Post (fun (v1_9 : Int32) (v2_10 : Int32) (v3_11 : Int32) (v4_12 : Int32) => wp_X10_which_L15 told Post K_85 n v1_9 v2_10 v3_11 v4_12) v1 v2 v4)) ∧ (¬ v3 = 0 → (vp_in (66 + (2 * v4)) 190 ∧ (wp_X10_isAwake told (told (66 + (2 * v4)).toNatClampNeg) v2 (fun r_14 => (vp_in ((66 + (2 * v4)) + 1) 190 ∧ (((told ((66 + (2 * v4)) + 1).toNatClampNeg) = 1 → (wp_X10_which_J70 told Post (fun (v1_30 : Int32) (v2_31 : Int32) (v3_32 : Int32) (v4_33 : Int32) => wp_X10_which_L15 told Post K_85 n v1_30 v2_31 v3_32 v4_33) v1 v2 v4 1 r_14)) ∧ (¬ (told ((66 + (2 * v4)) + 1).toNatClampNeg) = 1 → (wp_X10_which_J70 told Post (fun (v1_26 : Int32) (v2_27 : Int32) (v3_28 : Int32) (v4_29 : Int32) => wp_X10_which_L15 told Post K_85 n v1_26 v2_27 v3_28 v4_29) v1 v2 v4 0 r_14)))))))))))
set_option maxHeartbeats 4000000 in
set_option maxRecDepth 100000 in
theorem k_X10_which_L15 {p : Program} {l : Launch} {e : Env} {s : State} {m : MethodId} {ar : Array Value} {bl : List Frame} {meth : Method} {c : Code} {D : va_G} {A : Nat → Prop} {cI cB cZ cP cC : ClassId} {a_m a_m_told a_m_kept a_m_isKept a_m_refused a_m_months a_m_heirs a_m_lasts a_m_cares a_m_bestCares a_m_ones a_m_others a_m_bytes a_m_anew a_m_values : Nat} {above : Int64} {below : Int64} {retired : Int32} {manyLine : Int32} {bytesLong : Int32} {tokenAt : Int32} {tokenLong : Int32} {token : Int32} {value : Int32} {told : Nat → Int32} {Post : Int32 → Prop} {K_85 : Int32 → Int32 → Int32 → Prop} (C0 : mxC p s m ar meth c cX10_which RX10 (some .int) 5 D (mxTy cI cB cZ cP cC) A)
    (hK_85 : ∀ (v1 : Int32) (v2 : Int32) (v3 : Int32) (H : Heap) (locs : List Loc) (ls : Array Slot), va_P D vwCl (ww_X10_which a_m a_m_told a_m_kept a_m_isKept a_m_refused a_m_months a_m_heirs a_m_lasts a_m_cares a_m_bestCares a_m_ones a_m_others a_m_bytes a_m_anew a_m_values cI cB cZ cP cC above below retired manyLine bytesLong tokenAt tokenLong token value told) H → va_D A (ww_X10_which a_m a_m_told a_m_kept a_m_isKept a_m_refused a_m_months a_m_heirs a_m_lasts a_m_cares a_m_bestCares a_m_ones a_m_others a_m_bytes a_m_anew a_m_values cI cB cZ cP cC above below retired manyLine bytesLong tokenAt tokenLong token value told) → va_S A s.heap H locs → lv_has ls 5 [(0, .ref a_m), (1, .int v1), (2, .int v2), (3, .int v3)] → K_85 v1 v2 v3 → W p l e rm_X10_which s m ar bl meth c H locs 0 0 (MQ bl (qq_X10_which D a_m a_m_told a_m_kept a_m_isKept a_m_refused a_m_months a_m_heirs a_m_lasts a_m_cares a_m_bestCares a_m_ones a_m_others a_m_bytes a_m_anew a_m_values cI cB cZ cP cC above below retired manyLine bytesLong tokenAt tokenLong token value told Post A) ar s 0 0 A) (F0 m 85 ls [])) :
    ∀ (n : Nat) (v1 : Int32) (v2 : Int32) (v3 : Int32) (v4 : Int32) (H : Heap) (locs : List Loc) (ls : Array Slot), va_P D vwCl (ww_X10_which a_m a_m_told a_m_kept a_m_isKept a_m_refused a_m_months a_m_heirs a_m_lasts a_m_cares a_m_bestCares a_m_ones a_m_others a_m_bytes a_m_anew a_m_values cI cB cZ cP cC above below retired manyLine bytesLong tokenAt tokenLong token value told) H → va_D A (ww_X10_which a_m a_m_told a_m_kept a_m_isKept a_m_refused a_m_months a_m_heirs a_m_lasts a_m_cares a_m_bestCares a_m_ones a_m_others a_m_bytes a_m_anew a_m_values cI cB cZ cP cC above below retired manyLine bytesLong tokenAt tokenLong token value told) → va_S A s.heap H locs → lv_has ls 5 [(0, .ref a_m), (1, .int v1), (2, .int v2), (3, .int v3), (4, .int v4)] → wp_X10_which_L15 told Post K_85 n v1 v2 v3 v4 → W p l e rm_X10_which s m ar bl meth c H locs 0 0 (MQ bl (qq_X10_which D a_m a_m_told a_m_kept a_m_isKept a_m_refused a_m_months a_m_heirs a_m_lasts a_m_cares a_m_bestCares a_m_ones a_m_others a_m_bytes a_m_anew a_m_values cI cB cZ cP cC above below retired manyLine bytesLong tokenAt tokenLong token value told Post A) ar s 0 0 A) (F0 m 15 ls []) := by
  obtain ⟨hx, hb, hr, hlocks, hml, hown, hts, hK, hA⟩ := id C0
  intro n
  induction n with
  | zero =>
    intro v1 v2 v3 v4 H locs ls hP hD hS hl hw
    exact absurd hw (fun h => h)
  | succ n ih =>
    intro v1 v2 v3 v4 H locs ls hP hD hS hl hw
    refine lv_iload hx hb dX10_which_15 (lv_at hl 4 rfl) ?_
    refine lv_aload_n hx hb dX10_which_17 rfl (lv_at hl 0 rfl) ?_
    refine mx_get (ci := 10) (C := RX10) (T := TX10) (N := 23) hx hb hown in_wsX100 hts hK hP 0 rfl rfl 0 (by decide) q_91 rfl (v := .ref a_m_told) rfl dX10_which_18 ?_
    refine lv_iconst (v := 2) hx hb dX10_which_21 (by decide) ?_
    refine mx_iald hx hb hK hP 1 0 rfl rfl (mx_lit rfl) (told 2) rfl dX10_which_22 ?_
    refine lv_icmp_ge (tgt := 85) hx hb dX10_which_23 (by decide) (fun c_2 => ?_) (fun c_2 => ?_)
    · replace hw := hw.1 c_2
      exact hK_85 v1 v2 v3 _ _ _ hP hD hS (lv_sub hl [0, 1, 2, 3] rfl) hw
    · replace hw := hw.2 c_2
      refine lv_iload_n hx hb dX10_which_26 rfl (lv_at hl 3 rfl) ?_
      refine lv_if_eq (tgt := 77) hx hb dX10_which_27 (by decide) (fun c_3 => ?_) (fun c_3 => ?_)
      · replace hw := hw.1 c_3
        refine k_X10_which_J77 C0 ?_ v1 v2 v4 _ _ _ hP hD hS (lv_sub hl [0, 1, 2, 4] rfl) hw
        intro v1_9 v2_10 v3_11 v4_12 H locs ls hP hD hS hl hw
        exact ih v1_9 v2_10 v3_11 v4_12 _ _ _ hP hD hS (lv_sub hl [0, 1, 2, 3, 4] rfl) hw
      · replace hw := hw.2 c_3
        refine lv_aload_n hx hb dX10_which_30 rfl (lv_at hl 0 rfl) ?_
        refine lv_aload_n hx hb dX10_which_31 rfl (lv_at hl 0 rfl) ?_
        refine mx_get (ci := 10) (C := RX10) (T := TX10) (N := 23) hx hb hown in_wsX100 hts hK hP 0 rfl rfl 0 (by decide) q_91 rfl (v := .ref a_m_told) rfl dX10_which_32 ?_
        refine lv_bipush (v := 66) hx hb dX10_which_35 (by decide) ?_
        refine lv_iconst (v := 2) hx hb dX10_which_37 (by decide) ?_
        refine lv_iload hx hb dX10_which_38 (lv_at hl 4 rfl) ?_
        refine lv_imul hx hb dX10_which_40 ?_
        refine lv_iadd hx hb dX10_which_41 ?_
        obtain ⟨h_13, hw⟩ := hw
        refine mx_iald hx hb hK hP 1 0 rfl rfl h_13 (told (66 + (2 * v4)).toNatClampNeg) rfl dX10_which_42 ?_
        refine lv_iload_n hx hb dX10_which_43 rfl (lv_at hl 2 rfl) ?_
        refine mx_ki (mx_rV (rm := rm_X10_isAwake) (rest := []) (C := RX10) hx hb hml hown hts (c_X10_isAwake l D cI cB cZ cP cC a_m a_m_told a_m_kept a_m_isKept a_m_refused a_m_months a_m_heirs a_m_lasts a_m_cares a_m_bestCares a_m_ones a_m_others a_m_bytes a_m_anew a_m_values above below retired manyLine bytesLong tokenAt tokenLong token value told (told (66 + (2 * v4)).toNatClampNeg) v2 _ _ hw) q_608 q_609 q_610 q_5 q_611 hd_X10_isAwake ⟨(Nat.le_of_ble_eq_true rfl), (Nat.le_of_ble_eq_true rfl)⟩ rfl rfl hK hP hD [0, 1] rfl rfl 10 0 rfl rfl rfl rfl hl.1 rfl (Nat.le_of_ble_eq_true rfl) dX10_which_44 ⟨(Nat.le_of_ble_eq_true rfl), (Nat.le_of_ble_eq_true rfl)⟩) hP hD hS hA [0, 1] [] [0, 1] (fun _ => ww_X10_which a_m a_m_told a_m_kept a_m_isKept a_m_refused a_m_months a_m_heirs a_m_lasts a_m_cares a_m_bestCares a_m_ones a_m_others a_m_bytes a_m_anew a_m_values cI cB cZ cP cC above below retired manyLine bytesLong tokenAt tokenLong token value told) rfl rfl rfl (by decide) rfl (fun _ => rfl) (fun r_14 u H locs hw hP hD hS => ?_)
        try dsimp only at hw
        replace hP : va_P D vwCl (ww_X10_which a_m a_m_told a_m_kept a_m_isKept a_m_refused a_m_months a_m_heirs a_m_lasts a_m_cares a_m_bestCares a_m_ones a_m_others a_m_bytes a_m_anew a_m_values cI cB cZ cP cC above below retired manyLine bytesLong tokenAt tokenLong token value told) H := hP
        replace hD : va_D A (ww_X10_which a_m a_m_told a_m_kept a_m_isKept a_m_refused a_m_months a_m_heirs a_m_lasts a_m_cares a_m_bestCares a_m_ones a_m_others a_m_bytes a_m_anew a_m_values cI cB cZ cP cC above below retired manyLine bytesLong tokenAt tokenLong token value told) := hD
        refine lv_aload_n hx hb dX10_which_47 rfl (lv_at hl 0 rfl) ?_
        refine mx_get (ci := 10) (C := RX10) (T := TX10) (N := 23) hx hb hown in_wsX100 hts hK hP 0 rfl rfl 0 (by decide) q_91 rfl (v := .ref a_m_told) rfl dX10_which_48 ?_
        refine lv_bipush (v := 66) hx hb dX10_which_51 (by decide) ?_
        refine lv_iconst (v := 2) hx hb dX10_which_53 (by decide) ?_
        refine lv_iload hx hb dX10_which_54 (lv_at hl 4 rfl) ?_
        refine lv_imul hx hb dX10_which_56 ?_
        refine lv_iadd hx hb dX10_which_57 ?_
        refine lv_iconst (v := 1) hx hb dX10_which_58 (by decide) ?_
        refine lv_iadd hx hb dX10_which_59 ?_
        obtain ⟨h_15, hw⟩ := hw
        refine mx_iald hx hb hK hP 1 0 rfl rfl h_15 (told ((66 + (2 * v4)) + 1).toNatClampNeg) rfl dX10_which_60 ?_
        refine lv_iconst (v := 1) hx hb dX10_which_61 (by decide) ?_
        refine lv_icmp_ne (tgt := 69) hx hb dX10_which_62 (by decide) (fun c_16 => ?_) (fun c_16 => ?_)
        · replace hw := hw.2 c_16
          refine lv_iconst (v := 0) hx hb dX10_which_69 (by decide) ?_
          refine k_X10_which_J70 C0 ?_ v1 v2 v4 0 r_14 _ _ _ hP hD hS (lv_sub hl [0, 1, 2, 4] rfl) hw
          intro v1_26 v2_27 v3_28 v4_29 H locs ls hP hD hS hl hw
          exact ih v1_26 v2_27 v3_28 v4_29 _ _ _ hP hD hS (lv_sub hl [0, 1, 2, 3, 4] rfl) hw
        · replace hw := hw.1 c_16
          refine lv_iconst (v := 1) hx hb dX10_which_65 (by decide) ?_
          refine lv_goto (tgt := 70) hx hb dX10_which_66 (by decide) ?_
          refine k_X10_which_J70 C0 ?_ v1 v2 v4 1 r_14 _ _ _ hP hD hS (lv_sub hl [0, 1, 2, 4] rfl) hw
          intro v1_30 v2_31 v3_32 v4_33 H locs ls hP hD hS hl hw
          exact ih v1_30 v2_31 v3_32 v4_33 _ _ _ hP hD hS (lv_sub hl [0, 1, 2, 3, 4] rfl) hw
def wp_X10_which_J97 (told : Nat → Int32) (Post : Int32 → Prop) (K_4 : Int32 → Int32 → Prop) (v2 : Int32) (s0 : Int32) (s1 : Int32) : Prop :=
  (∀ x_38 : Int32, x_38 = s1 ||| s0 → (∀ x_39 : Int32, x_39 = v2 + 1 → K_4 x_38 x_39))
set_option maxHeartbeats 4000000 in
set_option maxRecDepth 100000 in
theorem k_X10_which_J97 {p : Program} {l : Launch} {e : Env} {s : State} {m : MethodId} {ar : Array Value} {bl : List Frame} {meth : Method} {c : Code} {D : va_G} {A : Nat → Prop} {cI cB cZ cP cC : ClassId} {a_m a_m_told a_m_kept a_m_isKept a_m_refused a_m_months a_m_heirs a_m_lasts a_m_cares a_m_bestCares a_m_ones a_m_others a_m_bytes a_m_anew a_m_values : Nat} {above : Int64} {below : Int64} {retired : Int32} {manyLine : Int32} {bytesLong : Int32} {tokenAt : Int32} {tokenLong : Int32} {token : Int32} {value : Int32} {told : Nat → Int32} {Post : Int32 → Prop} {K_4 : Int32 → Int32 → Prop} (C0 : mxC p s m ar meth c cX10_which RX10 (some .int) 5 D (mxTy cI cB cZ cP cC) A)
    (hK_4 : ∀ (v1 : Int32) (v2 : Int32) (H : Heap) (locs : List Loc) (ls : Array Slot), va_P D vwCl (ww_X10_which a_m a_m_told a_m_kept a_m_isKept a_m_refused a_m_months a_m_heirs a_m_lasts a_m_cares a_m_bestCares a_m_ones a_m_others a_m_bytes a_m_anew a_m_values cI cB cZ cP cC above below retired manyLine bytesLong tokenAt tokenLong token value told) H → va_D A (ww_X10_which a_m a_m_told a_m_kept a_m_isKept a_m_refused a_m_months a_m_heirs a_m_lasts a_m_cares a_m_bestCares a_m_ones a_m_others a_m_bytes a_m_anew a_m_values cI cB cZ cP cC above below retired manyLine bytesLong tokenAt tokenLong token value told) → va_S A s.heap H locs → lv_has ls 5 [(0, .ref a_m), (1, .int v1), (2, .int v2)] → K_4 v1 v2 → W p l e rm_X10_which s m ar bl meth c H locs 0 0 (MQ bl (qq_X10_which D a_m a_m_told a_m_kept a_m_isKept a_m_refused a_m_months a_m_heirs a_m_lasts a_m_cares a_m_bestCares a_m_ones a_m_others a_m_bytes a_m_anew a_m_values cI cB cZ cP cC above below retired manyLine bytesLong tokenAt tokenLong token value told Post A) ar s 0 0 A) (F0 m 4 ls [])) :
    ∀ (v2 : Int32) (s0 : Int32) (s1 : Int32) (H : Heap) (locs : List Loc) (ls : Array Slot), va_P D vwCl (ww_X10_which a_m a_m_told a_m_kept a_m_isKept a_m_refused a_m_months a_m_heirs a_m_lasts a_m_cares a_m_bestCares a_m_ones a_m_others a_m_bytes a_m_anew a_m_values cI cB cZ cP cC above below retired manyLine bytesLong tokenAt tokenLong token value told) H → va_D A (ww_X10_which a_m a_m_told a_m_kept a_m_isKept a_m_refused a_m_months a_m_heirs a_m_lasts a_m_cares a_m_bestCares a_m_ones a_m_others a_m_bytes a_m_anew a_m_values cI cB cZ cP cC above below retired manyLine bytesLong tokenAt tokenLong token value told) → va_S A s.heap H locs → lv_has ls 5 [(0, .ref a_m), (2, .int v2)] → wp_X10_which_J97 told Post K_4 v2 s0 s1 → W p l e rm_X10_which s m ar bl meth c H locs 0 0 (MQ bl (qq_X10_which D a_m a_m_told a_m_kept a_m_isKept a_m_refused a_m_months a_m_heirs a_m_lasts a_m_cares a_m_bestCares a_m_ones a_m_others a_m_bytes a_m_anew a_m_values cI cB cZ cP cC above below retired manyLine bytesLong tokenAt tokenLong token value told Post A) ar s 0 0 A) (F0 m 97 ls [.int s0, .int s1]) := by
  obtain ⟨hx, hb, hr, hlocks, hml, hown, hts, hK, hA⟩ := id C0
  intro v2 s0 s1 H locs ls hP hD hS hl hw
  refine lv_ior hx hb dX10_which_97 ?_
  refine lv_topi (fun x_38 ex_38 => ?_)
  replace hw := hw x_38 ex_38
  refine lv_istore_n (lv' := [(1, .int x_38), (0, .ref a_m), (2, .int v2)]) hx hb dX10_which_98 rfl hl (by decide) rfl (fun ls hl => ?_)
  obtain ⟨x_39, ex_39⟩ : ∃ y : Int32, y = v2 + 1 := ⟨_, rfl⟩
  replace hw := hw x_39 ex_39
  refine lv_iinc (v := x_39) (lv' := [(2, .int x_39), (1, .int x_38), (0, .ref a_m)]) hx hb dX10_which_99 hl (k := 2) rfl (by rw [ex_39]; rfl) (by decide) rfl (fun ls hl => ?_)
  refine lv_goto (tgt := 4) hx hb dX10_which_102 (by decide) ?_
  exact hK_4 x_38 x_39 _ _ _ hP hD hS (lv_sub hl [2, 1, 0] rfl) hw
def wp_X10_which_L4 (told : Nat → Int32) (Post : Int32 → Prop)  : Nat → Int32 → Int32 → Prop
  | 0, _, _ => False
  | n + 1, v1, v2 => ((24 ≤ v2 → Post v1) ∧ (¬ 24 ≤ v2 → (∃ k_44 : Nat, wp_X10_which_L15 told Post (fun (v1_34 : Int32) (v2_35 : Int32) (v3_36 : Int32) => ((v3_36 = 0 → (wp_X10_which_J97 told Post (fun (v1_40 : Int32) (v2_41 : Int32) => wp_X10_which_L4 told Post  n v1_40 v2_41) v2_35 0 v1_34)) ∧ (¬ v3_36 = 0 → (wp_X10_which_J97 told Post (fun (v1_42 : Int32) (v2_43 : Int32) => wp_X10_which_L4 told Post  n v1_42 v2_43) v2_35 (1 <<< (v2_35 &&& 31)) v1_34)))) k_44 v1 v2 1 0)))
set_option maxHeartbeats 4000000 in
set_option maxRecDepth 100000 in
theorem k_X10_which_L4 {p : Program} {l : Launch} {e : Env} {s : State} {m : MethodId} {ar : Array Value} {bl : List Frame} {meth : Method} {c : Code} {D : va_G} {A : Nat → Prop} {cI cB cZ cP cC : ClassId} {a_m a_m_told a_m_kept a_m_isKept a_m_refused a_m_months a_m_heirs a_m_lasts a_m_cares a_m_bestCares a_m_ones a_m_others a_m_bytes a_m_anew a_m_values : Nat} {above : Int64} {below : Int64} {retired : Int32} {manyLine : Int32} {bytesLong : Int32} {tokenAt : Int32} {tokenLong : Int32} {token : Int32} {value : Int32} {told : Nat → Int32} {Post : Int32 → Prop} (C0 : mxC p s m ar meth c cX10_which RX10 (some .int) 5 D (mxTy cI cB cZ cP cC) A) :
    ∀ (n : Nat) (v1 : Int32) (v2 : Int32) (H : Heap) (locs : List Loc) (ls : Array Slot), va_P D vwCl (ww_X10_which a_m a_m_told a_m_kept a_m_isKept a_m_refused a_m_months a_m_heirs a_m_lasts a_m_cares a_m_bestCares a_m_ones a_m_others a_m_bytes a_m_anew a_m_values cI cB cZ cP cC above below retired manyLine bytesLong tokenAt tokenLong token value told) H → va_D A (ww_X10_which a_m a_m_told a_m_kept a_m_isKept a_m_refused a_m_months a_m_heirs a_m_lasts a_m_cares a_m_bestCares a_m_ones a_m_others a_m_bytes a_m_anew a_m_values cI cB cZ cP cC above below retired manyLine bytesLong tokenAt tokenLong token value told) → va_S A s.heap H locs → lv_has ls 5 [(0, .ref a_m), (1, .int v1), (2, .int v2)] → wp_X10_which_L4 told Post  n v1 v2 → W p l e rm_X10_which s m ar bl meth c H locs 0 0 (MQ bl (qq_X10_which D a_m a_m_told a_m_kept a_m_isKept a_m_refused a_m_months a_m_heirs a_m_lasts a_m_cares a_m_bestCares a_m_ones a_m_others a_m_bytes a_m_anew a_m_values cI cB cZ cP cC above below retired manyLine bytesLong tokenAt tokenLong token value told Post A) ar s 0 0 A) (F0 m 4 ls []) := by
  obtain ⟨hx, hb, hr, hlocks, hml, hown, hts, hK, hA⟩ := id C0
  intro n
  induction n with
  | zero =>
    intro v1 v2 H locs ls hP hD hS hl hw
    exact absurd hw (fun h => h)
  | succ n ih =>
    intro v1 v2 H locs ls hP hD hS hl hw
    refine lv_iload_n hx hb dX10_which_4 rfl (lv_at hl 2 rfl) ?_
    refine lv_bipush (v := 24) hx hb dX10_which_5 (by decide) ?_
    refine lv_icmp_ge (tgt := 105) hx hb dX10_which_7 (by decide) (fun c_1 => ?_) (fun c_1 => ?_)
    · replace hw := hw.1 c_1
      refine lv_iload_n hx hb dX10_which_105 rfl (lv_at hl 1 rfl) ?_
      exact mx_iret () hx hb hr hlocks rfl hw hK hP hD hS dX10_which_106
    · replace hw := hw.2 c_1
      refine lv_iconst (v := 1) hx hb dX10_which_10 (by decide) ?_
      refine lv_istore_n (lv' := [(3, .int 1), (0, .ref a_m), (1, .int v1), (2, .int v2)]) hx hb dX10_which_11 rfl hl (by decide) rfl (fun ls hl => ?_)
      refine lv_iconst (v := 0) hx hb dX10_which_12 (by decide) ?_
      refine lv_istore (lv' := [(4, .int 0), (3, .int 1), (0, .ref a_m), (1, .int v1), (2, .int v2)]) hx hb dX10_which_13 hl (by decide) rfl (fun ls hl => ?_)
      obtain ⟨n0, hw⟩ := hw
      refine k_X10_which_L15 C0 ?_ n0 v1 v2 1 0 _ _ _ hP hD hS (lv_sub hl [2, 3, 4, 1, 0] rfl) hw
      intro v1_34 v2_35 v3_36 H locs ls hP hD hS hl hw
      refine lv_iload_n hx hb dX10_which_85 rfl (lv_at hl 1 rfl) ?_
      refine lv_iload_n hx hb dX10_which_86 rfl (lv_at hl 3 rfl) ?_
      refine lv_if_eq (tgt := 96) hx hb dX10_which_87 (by decide) (fun c_37 => ?_) (fun c_37 => ?_)
      · replace hw := hw.1 c_37
        refine lv_iconst (v := 0) hx hb dX10_which_96 (by decide) ?_
        refine k_X10_which_J97 C0 ?_ v2_35 0 v1_34 _ _ _ hP hD hS (lv_sub hl [0, 2] rfl) hw
        intro v1_40 v2_41 H locs ls hP hD hS hl hw
        exact ih v1_40 v2_41 _ _ _ hP hD hS (lv_sub hl [0, 1, 2] rfl) hw
      · replace hw := hw.2 c_37
        refine lv_iconst (v := 1) hx hb dX10_which_90 (by decide) ?_
        refine lv_iload_n hx hb dX10_which_91 rfl (lv_at hl 2 rfl) ?_
        refine lv_ishl hx hb dX10_which_92 ?_
        refine lv_goto (tgt := 97) hx hb dX10_which_93 (by decide) ?_
        refine k_X10_which_J97 C0 ?_ v2_35 (1 <<< (v2_35 &&& 31)) v1_34 _ _ _ hP hD hS (lv_sub hl [0, 2] rfl) hw
        intro v1_42 v2_43 H locs ls hP hD hS hl hw
        exact ih v1_42 v2_43 _ _ _ hP hD hS (lv_sub hl [0, 1, 2] rfl) hw
def wp_X10_which (told : Nat → Int32) (Post : Int32 → Prop) : Prop :=
  (∃ k_45 : Nat, wp_X10_which_L4 told Post k_45 0 0)
set_option maxHeartbeats 4000000 in
set_option maxRecDepth 100000 in
theorem c_X10_which (l : Launch) (D : va_G) (cI cB cZ cP cC : ClassId) (a_m a_m_told a_m_kept a_m_isKept a_m_refused a_m_months a_m_heirs a_m_lasts a_m_cares a_m_bestCares a_m_ones a_m_others a_m_bytes a_m_anew a_m_values : Nat) (above : Int64) (below : Int64) (retired : Int32) (manyLine : Int32) (bytesLong : Int32) (tokenAt : Int32) (tokenLong : Int32) (token : Int32) (value : Int32) (told : Nat → Int32)  (sz : Nat) (Post : Int32 → Prop) (hw : wp_X10_which told Post) :
    Met l yX10_which (Cond.code yX10_which cX10_which 5 (some .int) :: wsAll) rm_X10_which (va_Pc [.ref a_m] (mxP D (mxTy cI cB cZ cP cC) sz (ww_X10_which a_m a_m_told a_m_kept a_m_isKept a_m_refused a_m_months a_m_heirs a_m_lasts a_m_cares a_m_bestCares a_m_ones a_m_others a_m_bytes a_m_anew a_m_values cI cB cZ cP cC above below retired manyLine bytesLong tokenAt tokenLong token value told))) (qq_X10_which D a_m a_m_told a_m_kept a_m_isKept a_m_refused a_m_months a_m_heirs a_m_lasts a_m_cares a_m_bestCares a_m_ones a_m_others a_m_bytes a_m_anew a_m_values cI cB cZ cP cC above below retired manyLine bytesLong tokenAt tokenLong token value told Post (va_A (ww_X10_which a_m a_m_told a_m_kept a_m_isKept a_m_refused a_m_months a_m_heirs a_m_lasts a_m_cares a_m_bestCares a_m_ones a_m_others a_m_bytes a_m_anew a_m_values cI cB cZ cP cC above below retired manyLine bytesLong tokenAt tokenLong token value told) sz)) 0 0 (va_A (ww_X10_which a_m a_m_told a_m_kept a_m_isKept a_m_refused a_m_months a_m_heirs a_m_lasts a_m_cares a_m_bestCares a_m_ones a_m_others a_m_bytes a_m_anew a_m_values cI cB cZ cP cC above below retired manyLine bytesLong tokenAt tokenLong token value told) sz) := by
  refine mx_of (Qc := qq_X10_which D a_m a_m_told a_m_kept a_m_isKept a_m_refused a_m_months a_m_heirs a_m_lasts a_m_cares a_m_bestCares a_m_ones a_m_others a_m_bytes a_m_anew a_m_values cI cB cZ cP cC above below retired manyLine bytesLong tokenAt tokenLong token value told Post) (by decide) (Nat.le_of_ble_eq_true rfl) ?_
  intro p e s m bl meth c A ls C0 hP hD hS hl
  replace C0 : mxC p s m [.ref a_m].toArray meth c cX10_which RX10 (some .int) 5 D (mxTy cI cB cZ cP cC) A := C0
  obtain ⟨hx, hb, hr, hlocks, hml, hown, hts, hK, hA⟩ := id C0
  replace hl : lv_has ls 5 [(0, .ref a_m)] := hl
  unfold wp_X10_which at hw
  refine lv_iconst (v := 0) hx hb dX10_which_0 (by decide) ?_
  refine lv_istore_n (lv' := [(1, .int 0), (0, .ref a_m)]) hx hb dX10_which_1 rfl hl (by decide) rfl (fun ls hl => ?_)
  refine lv_iconst (v := 0) hx hb dX10_which_2 (by decide) ?_
  refine lv_istore_n (lv' := [(2, .int 0), (1, .int 0), (0, .ref a_m)]) hx hb dX10_which_3 rfl hl (by decide) rfl (fun ls hl => ?_)
  obtain ⟨n0, hw⟩ := hw
  refine k_X10_which_L4 C0  n0 0 0 _ _ _ hP hD hS (lv_sub hl [2, 1, 0] rfl) hw
/-! PramStateModel.powers(I)I -/
abbrev ww_X10_powers (a_m a_m_told a_m_kept a_m_isKept a_m_refused a_m_months a_m_heirs a_m_lasts a_m_cares a_m_bestCares a_m_ones a_m_others a_m_bytes a_m_anew a_m_values : Nat) (cI cB cZ cP cC : ClassId) (above : Int64) (below : Int64) (retired : Int32) (manyLine : Int32) (bytesLong : Int32) (tokenAt : Int32) (tokenLong : Int32) (token : Int32) (value : Int32) (told : Nat → Int32) (refused : Nat → Int32) (months : Nat → Int32) (ones : Nat → Int32) (others : Nat → Int32) : va_W := [(a_m, .inr (10, [.ref a_m_told, .ref a_m_kept, .ref a_m_isKept, .ref a_m_refused, .long above, .long below, .ref a_m_months, .int retired, .ref a_m_heirs, .ref a_m_lasts, .int manyLine, .ref a_m_cares, .ref a_m_bestCares, .ref a_m_ones, .ref a_m_others, .ref a_m_bytes, .int bytesLong, .int tokenAt, .int tokenLong, .int token, .int value, .ref a_m_anew, .ref a_m_values])), (a_m_told, .inl (cI, 190, .inl told)), (a_m_refused, .inl (cI, 3, .inl refused)), (a_m_months, .inl (cI, 6, .inl months)), (a_m_ones, .inl (cI, 4, .inl ones)), (a_m_others, .inl (cI, 4, .inl others))]
abbrev qq_X10_powers (D : va_G) (a_m a_m_told a_m_kept a_m_isKept a_m_refused a_m_months a_m_heirs a_m_lasts a_m_cares a_m_bestCares a_m_ones a_m_others a_m_bytes a_m_anew a_m_values : Nat) (cI cB cZ cP cC : ClassId) (above : Int64) (below : Int64) (manyLine : Int32) (bytesLong : Int32) (tokenAt : Int32) (tokenLong : Int32) (token : Int32) (value : Int32) (told : Nat → Int32) (Post : Int32 → Int32 → (Nat → Int32) → (Nat → Int32) → (Nat → Int32) → (Nat → Int32) → Prop) (A : Nat → Prop) : Array Value → State → Outcome → State → Prop := va_Qi (fun (r : Int32) (u : Int32 × (Nat → Int32) × (Nat → Int32) × (Nat → Int32) × (Nat → Int32)) => Post r u.1 u.2.1 u.2.2.1 u.2.2.2.1 u.2.2.2.2) (fun (u : Int32 × (Nat → Int32) × (Nat → Int32) × (Nat → Int32) × (Nat → Int32)) t => mxB D (mxTy cI cB cZ cP cC) A (ww_X10_powers a_m a_m_told a_m_kept a_m_isKept a_m_refused a_m_months a_m_heirs a_m_lasts a_m_cares a_m_bestCares a_m_ones a_m_others a_m_bytes a_m_anew a_m_values cI cB cZ cP cC above below (u.1) manyLine bytesLong tokenAt tokenLong token value told (u.2.1) (u.2.2.1) (u.2.2.2.1) (u.2.2.2.2)) t) A
abbrev rm_X10_powers : Room := { frames := 4, cells := 0, slots := 0, locals := 92 }
theorem hd_X10_powers : yX10_powers.cls = RX10 ∧ yX10_powers.cls ≠ "java/lang/invoke/MethodHandle" ∧ yX10_powers.cls ≠ "java/lang/invoke/VarHandle" ∧ (parseMethodDescriptor yX10_powers.desc).map (fun d => d.parameters.length) = some 1 := by decide +kernel
def wp_X10_powers_J107 (told : Nat → Int32) (Post : Int32 → Int32 → (Nat → Int32) → (Nat → Int32) → (Nat → Int32) → (Nat → Int32) → Prop) (K_38 : Int32 → Int32 → Int32 → Int32 → (Nat → Int32) → (Nat → Int32) → (Nat → Int32) → (Nat → Int32) → Prop) (v1 : Int32) (v2 : Int32) (v3 : Int32) (s0 : Int32) (s1 : Int32) (retired : Int32) (refused : Nat → Int32) (months : Nat → Int32) (ones : Nat → Int32) (others : Nat → Int32) : Prop :=
  (vp_in s1 4 ∧ (∀ f_18 : Nat → Int32, f_18 = upd others s1.toNatClampNeg s0 → (∀ x_19 : Int32, x_19 = v3 + 1 → K_38 v1 v2 x_19 retired refused months ones f_18)))
set_option maxHeartbeats 4000000 in
set_option maxRecDepth 100000 in
theorem k_X10_powers_J107 {p : Program} {l : Launch} {e : Env} {s : State} {m : MethodId} {ar : Array Value} {bl : List Frame} {meth : Method} {c : Code} {D : va_G} {A : Nat → Prop} {cI cB cZ cP cC : ClassId} {a_m a_m_told a_m_kept a_m_isKept a_m_refused a_m_months a_m_heirs a_m_lasts a_m_cares a_m_bestCares a_m_ones a_m_others a_m_bytes a_m_anew a_m_values : Nat} {above : Int64} {below : Int64} {manyLine : Int32} {bytesLong : Int32} {tokenAt : Int32} {tokenLong : Int32} {token : Int32} {value : Int32} {told : Nat → Int32} {Post : Int32 → Int32 → (Nat → Int32) → (Nat → Int32) → (Nat → Int32) → (Nat → Int32) → Prop} {K_38 : Int32 → Int32 → Int32 → Int32 → (Nat → Int32) → (Nat → Int32) → (Nat → Int32) → (Nat → Int32) → Prop} (C0 : mxC p s m ar meth c cX10_powers RX10 (some .int) 6 D (mxTy cI cB cZ cP cC) A)
    (hK_38 : ∀ (v1 : Int32) (v2 : Int32) (v3 : Int32) (retired : Int32) (refused : Nat → Int32) (months : Nat → Int32) (ones : Nat → Int32) (others : Nat → Int32) (H : Heap) (locs : List Loc) (ls : Array Slot), va_P D vwCl (ww_X10_powers a_m a_m_told a_m_kept a_m_isKept a_m_refused a_m_months a_m_heirs a_m_lasts a_m_cares a_m_bestCares a_m_ones a_m_others a_m_bytes a_m_anew a_m_values cI cB cZ cP cC above below retired manyLine bytesLong tokenAt tokenLong token value told refused months ones others) H → va_D A (ww_X10_powers a_m a_m_told a_m_kept a_m_isKept a_m_refused a_m_months a_m_heirs a_m_lasts a_m_cares a_m_bestCares a_m_ones a_m_others a_m_bytes a_m_anew a_m_values cI cB cZ cP cC above below retired manyLine bytesLong tokenAt tokenLong token value told refused months ones others) → va_S A s.heap H locs → lv_has ls 6 [(0, .ref a_m), (1, .int v1), (2, .int v2), (3, .int v3)] → K_38 v1 v2 v3 retired refused months ones others → W p l e rm_X10_powers s m ar bl meth c H locs 0 0 (MQ bl (qq_X10_powers D a_m a_m_told a_m_kept a_m_isKept a_m_refused a_m_months a_m_heirs a_m_lasts a_m_cares a_m_bestCares a_m_ones a_m_others a_m_bytes a_m_anew a_m_values cI cB cZ cP cC above below manyLine bytesLong tokenAt tokenLong token value told Post A) ar s 0 0 A) (F0 m 38 ls [])) :
    ∀ (v1 : Int32) (v2 : Int32) (v3 : Int32) (s0 : Int32) (s1 : Int32) (retired : Int32) (refused : Nat → Int32) (months : Nat → Int32) (ones : Nat → Int32) (others : Nat → Int32) (H : Heap) (locs : List Loc) (ls : Array Slot), va_P D vwCl (ww_X10_powers a_m a_m_told a_m_kept a_m_isKept a_m_refused a_m_months a_m_heirs a_m_lasts a_m_cares a_m_bestCares a_m_ones a_m_others a_m_bytes a_m_anew a_m_values cI cB cZ cP cC above below retired manyLine bytesLong tokenAt tokenLong token value told refused months ones others) H → va_D A (ww_X10_powers a_m a_m_told a_m_kept a_m_isKept a_m_refused a_m_months a_m_heirs a_m_lasts a_m_cares a_m_bestCares a_m_ones a_m_others a_m_bytes a_m_anew a_m_values cI cB cZ cP cC above below retired manyLine bytesLong tokenAt tokenLong token value told refused months ones others) → va_S A s.heap H locs → lv_has ls 6 [(0, .ref a_m), (1, .int v1), (2, .int v2), (3, .int v3)] → wp_X10_powers_J107 told Post K_38 v1 v2 v3 s0 s1 retired refused months ones others → W p l e rm_X10_powers s m ar bl meth c H locs 0 0 (MQ bl (qq_X10_powers D a_m a_m_told a_m_kept a_m_isKept a_m_refused a_m_months a_m_heirs a_m_lasts a_m_cares a_m_bestCares a_m_ones a_m_others a_m_bytes a_m_anew a_m_values cI cB cZ cP cC above below manyLine bytesLong tokenAt tokenLong token value told Post A) ar s 0 0 A) (F0 m 107 ls [.int s0, .int s1, .ref a_m_others]) := by
  obtain ⟨hx, hb, hr, hlocks, hml, hown, hts, hK, hA⟩ := id C0
  intro v1 v2 v3 s0 s1 retired refused months ones others H locs ls hP hD hS hl hw
  obtain ⟨h_17, hw⟩ := hw
  obtain ⟨f_18, ef_18⟩ : ∃ y : Nat → Int32, y = upd others s1.toNatClampNeg s0 := ⟨_, rfl⟩
  replace hw := hw f_18 ef_18
  refine mx_iast hx hb hK hP hD hS 5 0 rfl rfl h_17 f_18 ef_18 (ww_X10_powers a_m a_m_told a_m_kept a_m_isKept a_m_refused a_m_months a_m_heirs a_m_lasts a_m_cares a_m_bestCares a_m_ones a_m_others a_m_bytes a_m_anew a_m_values cI cB cZ cP cC above below retired manyLine bytesLong tokenAt tokenLong token value told refused months ones f_18) rfl dX10_powers_107 (fun H locs hP hD hS => ?_)
  obtain ⟨x_19, ex_19⟩ : ∃ y : Int32, y = v3 + 1 := ⟨_, rfl⟩
  replace hw := hw x_19 ex_19
  refine lv_iinc (v := x_19) (lv' := [(3, .int x_19), (0, .ref a_m), (1, .int v1), (2, .int v2)]) hx hb dX10_powers_108 hl (k := 3) rfl (by rw [ex_19]; rfl) (by decide) rfl (fun ls hl => ?_)
  refine lv_goto (tgt := 38) hx hb dX10_powers_111 (by decide) ?_
  exact hK_38 v1 v2 x_19 retired refused months ones f_18 _ _ _ hP hD hS (lv_sub hl [1, 2, 3, 0] rfl) hw
def wp_X10_powers_J83 (told : Nat → Int32) (Post : Int32 → Int32 → (Nat → Int32) → (Nat → Int32) → (Nat → Int32) → (Nat → Int32) → Prop) (K_38 : Int32 → Int32 → Int32 → Int32 → (Nat → Int32) → (Nat → Int32) → (Nat → Int32) → (Nat → Int32) → Prop) (v1 : Int32) (v2 : Int32) (v3 : Int32) (v4 : Int32) (s0 : Int32) (s1 : Int32) (retired : Int32) (refused : Nat → Int32) (months : Nat → Int32) (ones : Nat → Int32) (others : Nat → Int32) : Prop :=
  (vp_in s1 4 ∧ (∀ f_15 : Nat → Int32, f_15 = upd ones s1.toNatClampNeg s0 → ((v3 ≤ 1 → (wp_X10_powers_J107 told Post K_38 v1 v2 v3 (3 - (v4 / 2)) v3 retired refused months f_15 others)) ∧ (¬ v3 ≤ 1 → (wp_X10_powers_J107 told Post K_38 v1 v2 v3 (4 - v4) v3 retired refused months f_15 others)))))
set_option maxHeartbeats 4000000 in
set_option maxRecDepth 100000 in
theorem k_X10_powers_J83 {p : Program} {l : Launch} {e : Env} {s : State} {m : MethodId} {ar : Array Value} {bl : List Frame} {meth : Method} {c : Code} {D : va_G} {A : Nat → Prop} {cI cB cZ cP cC : ClassId} {a_m a_m_told a_m_kept a_m_isKept a_m_refused a_m_months a_m_heirs a_m_lasts a_m_cares a_m_bestCares a_m_ones a_m_others a_m_bytes a_m_anew a_m_values : Nat} {above : Int64} {below : Int64} {manyLine : Int32} {bytesLong : Int32} {tokenAt : Int32} {tokenLong : Int32} {token : Int32} {value : Int32} {told : Nat → Int32} {Post : Int32 → Int32 → (Nat → Int32) → (Nat → Int32) → (Nat → Int32) → (Nat → Int32) → Prop} {K_38 : Int32 → Int32 → Int32 → Int32 → (Nat → Int32) → (Nat → Int32) → (Nat → Int32) → (Nat → Int32) → Prop} (C0 : mxC p s m ar meth c cX10_powers RX10 (some .int) 6 D (mxTy cI cB cZ cP cC) A)
    (hK_38 : ∀ (v1 : Int32) (v2 : Int32) (v3 : Int32) (retired : Int32) (refused : Nat → Int32) (months : Nat → Int32) (ones : Nat → Int32) (others : Nat → Int32) (H : Heap) (locs : List Loc) (ls : Array Slot), va_P D vwCl (ww_X10_powers a_m a_m_told a_m_kept a_m_isKept a_m_refused a_m_months a_m_heirs a_m_lasts a_m_cares a_m_bestCares a_m_ones a_m_others a_m_bytes a_m_anew a_m_values cI cB cZ cP cC above below retired manyLine bytesLong tokenAt tokenLong token value told refused months ones others) H → va_D A (ww_X10_powers a_m a_m_told a_m_kept a_m_isKept a_m_refused a_m_months a_m_heirs a_m_lasts a_m_cares a_m_bestCares a_m_ones a_m_others a_m_bytes a_m_anew a_m_values cI cB cZ cP cC above below retired manyLine bytesLong tokenAt tokenLong token value told refused months ones others) → va_S A s.heap H locs → lv_has ls 6 [(0, .ref a_m), (1, .int v1), (2, .int v2), (3, .int v3)] → K_38 v1 v2 v3 retired refused months ones others → W p l e rm_X10_powers s m ar bl meth c H locs 0 0 (MQ bl (qq_X10_powers D a_m a_m_told a_m_kept a_m_isKept a_m_refused a_m_months a_m_heirs a_m_lasts a_m_cares a_m_bestCares a_m_ones a_m_others a_m_bytes a_m_anew a_m_values cI cB cZ cP cC above below manyLine bytesLong tokenAt tokenLong token value told Post A) ar s 0 0 A) (F0 m 38 ls [])) :
    ∀ (v1 : Int32) (v2 : Int32) (v3 : Int32) (v4 : Int32) (s0 : Int32) (s1 : Int32) (retired : Int32) (refused : Nat → Int32) (months : Nat → Int32) (ones : Nat → Int32) (others : Nat → Int32) (H : Heap) (locs : List Loc) (ls : Array Slot), va_P D vwCl (ww_X10_powers a_m a_m_told a_m_kept a_m_isKept a_m_refused a_m_months a_m_heirs a_m_lasts a_m_cares a_m_bestCares a_m_ones a_m_others a_m_bytes a_m_anew a_m_values cI cB cZ cP cC above below retired manyLine bytesLong tokenAt tokenLong token value told refused months ones others) H → va_D A (ww_X10_powers a_m a_m_told a_m_kept a_m_isKept a_m_refused a_m_months a_m_heirs a_m_lasts a_m_cares a_m_bestCares a_m_ones a_m_others a_m_bytes a_m_anew a_m_values cI cB cZ cP cC above below retired manyLine bytesLong tokenAt tokenLong token value told refused months ones others) → va_S A s.heap H locs → lv_has ls 6 [(0, .ref a_m), (1, .int v1), (2, .int v2), (3, .int v3), (4, .int v4)] → wp_X10_powers_J83 told Post K_38 v1 v2 v3 v4 s0 s1 retired refused months ones others → W p l e rm_X10_powers s m ar bl meth c H locs 0 0 (MQ bl (qq_X10_powers D a_m a_m_told a_m_kept a_m_isKept a_m_refused a_m_months a_m_heirs a_m_lasts a_m_cares a_m_bestCares a_m_ones a_m_others a_m_bytes a_m_anew a_m_values cI cB cZ cP cC above below manyLine bytesLong tokenAt tokenLong token value told Post A) ar s 0 0 A) (F0 m 83 ls [.int s0, .int s1, .ref a_m_ones]) := by
  obtain ⟨hx, hb, hr, hlocks, hml, hown, hts, hK, hA⟩ := id C0
  intro v1 v2 v3 v4 s0 s1 retired refused months ones others H locs ls hP hD hS hl hw
  obtain ⟨h_14, hw⟩ := hw
  obtain ⟨f_15, ef_15⟩ : ∃ y : Nat → Int32, y = upd ones s1.toNatClampNeg s0 := ⟨_, rfl⟩
  replace hw := hw f_15 ef_15
  refine mx_iast hx hb hK hP hD hS 4 0 rfl rfl h_14 f_15 ef_15 (ww_X10_powers a_m a_m_told a_m_kept a_m_isKept a_m_refused a_m_months a_m_heirs a_m_lasts a_m_cares a_m_bestCares a_m_ones a_m_others a_m_bytes a_m_anew a_m_values cI cB cZ cP cC above below retired manyLine bytesLong tokenAt tokenLong token value told refused months f_15 others) rfl dX10_powers_83 (fun H locs hP hD hS => ?_)
  refine lv_aload_n hx hb dX10_powers_84 rfl (lv_at hl 0 rfl) ?_
  refine mx_get (ci := 10) (C := RX10) (T := TX10) (N := 23) hx hb hown in_wsX100 hts hK hP 0 rfl rfl 14 (by decide) q_102 rfl (v := .ref a_m_others) rfl dX10_powers_85 ?_
  refine lv_iload_n hx hb dX10_powers_88 rfl (lv_at hl 3 rfl) ?_
  refine lv_iload_n hx hb dX10_powers_89 rfl (lv_at hl 3 rfl) ?_
  refine lv_iconst (v := 1) hx hb dX10_powers_90 (by decide) ?_
  refine lv_icmp_le (tgt := 101) hx hb dX10_powers_91 (by decide) (fun c_16 => ?_) (fun c_16 => ?_)
  · replace hw := hw.1 c_16
    refine lv_iconst (v := 3) hx hb dX10_powers_101 (by decide) ?_
    refine lv_iload hx hb dX10_powers_102 (lv_at hl 4 rfl) ?_
    refine lv_iconst (v := 2) hx hb dX10_powers_104 (by decide) ?_
    refine lv_idiv hx hb dX10_powers_105 (by decide) ?_
    refine lv_isub hx hb dX10_powers_106 ?_
    refine k_X10_powers_J107 C0 ?_ v1 v2 v3 (3 - (v4 / 2)) v3 retired refused months f_15 others _ _ _ hP hD hS (lv_sub hl [0, 1, 2, 3] rfl) hw
    intro v1_20 v2_21 v3_22 retired_23 refused_24 months_25 ones_26 others_27 H locs ls hP hD hS hl hw
    exact hK_38 v1_20 v2_21 v3_22 retired_23 refused_24 months_25 ones_26 others_27 _ _ _ hP hD hS (lv_sub hl [0, 1, 2, 3] rfl) hw
  · replace hw := hw.2 c_16
    refine lv_iconst (v := 4) hx hb dX10_powers_94 (by decide) ?_
    refine lv_iload hx hb dX10_powers_95 (lv_at hl 4 rfl) ?_
    refine lv_isub hx hb dX10_powers_97 ?_
    refine lv_goto (tgt := 107) hx hb dX10_powers_98 (by decide) ?_
    refine k_X10_powers_J107 C0 ?_ v1 v2 v3 (4 - v4) v3 retired refused months f_15 others _ _ _ hP hD hS (lv_sub hl [0, 1, 2, 3] rfl) hw
    intro v1_28 v2_29 v3_30 retired_31 refused_32 months_33 ones_34 others_35 H locs ls hP hD hS hl hw
    exact hK_38 v1_28 v2_29 v3_30 retired_31 refused_32 months_33 ones_34 others_35 _ _ _ hP hD hS (lv_sub hl [0, 1, 2, 3] rfl) hw
def wp_X10_powers_L38 (told : Nat → Int32) (Post : Int32 → Int32 → (Nat → Int32) → (Nat → Int32) → (Nat → Int32) → (Nat → Int32) → Prop) (K_114 : Int32 → (Nat → Int32) → (Nat → Int32) → (Nat → Int32) → (Nat → Int32) → Prop) : Nat → Int32 → Int32 → Int32 → Int32 → (Nat → Int32) → (Nat → Int32) → (Nat → Int32) → (Nat → Int32) → Prop
  | 0, _, _, _, _, _, _, _, _ => False
  | n + 1, v1, v2, v3, retired, refused, months, ones, others => ((4 ≤ v3 → K_114 retired refused months ones others) ∧ (¬ 4 ≤ v3 → (wp_X10_criesIn told v2 v1 (fun r_10 => (wp_X10_bits v3 (fun r_11 => (∀ x_12 : Int32, x_12 = r_10 + (2 * r_11) → (((v3 &&& 1) = 1 → (wp_X10_powers_J83 told Post (fun (v1_44 : Int32) (v2_45 : Int32) (v3_46 : Int32) (retired_47 : Int32) (refused_48 : Nat → Int32) (months_49 : Nat → Int32) (ones_50 : Nat → Int32) (others_51 : Nat → Int32) => wp_X10_powers_L38 told Post K_114 n v1_44 v2_45 v3_46 retired_47 refused_48 months_49 ones_50 others_51) v1 v2 v3 x_12 (4 - x_12) v3 retired refused months ones others)) ∧ (¬ (v3 &&& 1) = 1 → (wp_X10_powers_J83 told Post (fun (v1_36 : Int32) (v2_37 : Int32) (v3_38 : Int32) (retired_39 : Int32) (refused_40 : Nat → Int32) (months_41 : Nat → Int32) (ones_42 : Nat → Int32) (others_43 : Nat → Int32) => wp_X10_powers_L38 told Post K_114 n v1_36 v2_37 v3_38 retired_39 refused_40 months_41 ones_42 others_43) v1 v2 v3 x_12 (3 - (x_12 / 2)) v3 retired refused months ones others))))))))))
set_option maxHeartbeats 4000000 in
set_option maxRecDepth 100000 in
theorem k_X10_powers_L38 {p : Program} {l : Launch} {e : Env} {s : State} {m : MethodId} {ar : Array Value} {bl : List Frame} {meth : Method} {c : Code} {D : va_G} {A : Nat → Prop} {cI cB cZ cP cC : ClassId} {a_m a_m_told a_m_kept a_m_isKept a_m_refused a_m_months a_m_heirs a_m_lasts a_m_cares a_m_bestCares a_m_ones a_m_others a_m_bytes a_m_anew a_m_values : Nat} {above : Int64} {below : Int64} {manyLine : Int32} {bytesLong : Int32} {tokenAt : Int32} {tokenLong : Int32} {token : Int32} {value : Int32} {told : Nat → Int32} {Post : Int32 → Int32 → (Nat → Int32) → (Nat → Int32) → (Nat → Int32) → (Nat → Int32) → Prop} {K_114 : Int32 → (Nat → Int32) → (Nat → Int32) → (Nat → Int32) → (Nat → Int32) → Prop} (C0 : mxC p s m ar meth c cX10_powers RX10 (some .int) 6 D (mxTy cI cB cZ cP cC) A)
    (hK_114 : ∀ (retired : Int32) (refused : Nat → Int32) (months : Nat → Int32) (ones : Nat → Int32) (others : Nat → Int32) (H : Heap) (locs : List Loc) (ls : Array Slot), va_P D vwCl (ww_X10_powers a_m a_m_told a_m_kept a_m_isKept a_m_refused a_m_months a_m_heirs a_m_lasts a_m_cares a_m_bestCares a_m_ones a_m_others a_m_bytes a_m_anew a_m_values cI cB cZ cP cC above below retired manyLine bytesLong tokenAt tokenLong token value told refused months ones others) H → va_D A (ww_X10_powers a_m a_m_told a_m_kept a_m_isKept a_m_refused a_m_months a_m_heirs a_m_lasts a_m_cares a_m_bestCares a_m_ones a_m_others a_m_bytes a_m_anew a_m_values cI cB cZ cP cC above below retired manyLine bytesLong tokenAt tokenLong token value told refused months ones others) → va_S A s.heap H locs → lv_has ls 6 [(0, .ref a_m)] → K_114 retired refused months ones others → W p l e rm_X10_powers s m ar bl meth c H locs 0 0 (MQ bl (qq_X10_powers D a_m a_m_told a_m_kept a_m_isKept a_m_refused a_m_months a_m_heirs a_m_lasts a_m_cares a_m_bestCares a_m_ones a_m_others a_m_bytes a_m_anew a_m_values cI cB cZ cP cC above below manyLine bytesLong tokenAt tokenLong token value told Post A) ar s 0 0 A) (F0 m 114 ls [])) :
    ∀ (n : Nat) (v1 : Int32) (v2 : Int32) (v3 : Int32) (retired : Int32) (refused : Nat → Int32) (months : Nat → Int32) (ones : Nat → Int32) (others : Nat → Int32) (H : Heap) (locs : List Loc) (ls : Array Slot), va_P D vwCl (ww_X10_powers a_m a_m_told a_m_kept a_m_isKept a_m_refused a_m_months a_m_heirs a_m_lasts a_m_cares a_m_bestCares a_m_ones a_m_others a_m_bytes a_m_anew a_m_values cI cB cZ cP cC above below retired manyLine bytesLong tokenAt tokenLong token value told refused months ones others) H → va_D A (ww_X10_powers a_m a_m_told a_m_kept a_m_isKept a_m_refused a_m_months a_m_heirs a_m_lasts a_m_cares a_m_bestCares a_m_ones a_m_others a_m_bytes a_m_anew a_m_values cI cB cZ cP cC above below retired manyLine bytesLong tokenAt tokenLong token value told refused months ones others) → va_S A s.heap H locs → lv_has ls 6 [(0, .ref a_m), (1, .int v1), (2, .int v2), (3, .int v3)] → wp_X10_powers_L38 told Post K_114 n v1 v2 v3 retired refused months ones others → W p l e rm_X10_powers s m ar bl meth c H locs 0 0 (MQ bl (qq_X10_powers D a_m a_m_told a_m_kept a_m_isKept a_m_refused a_m_months a_m_heirs a_m_lasts a_m_cares a_m_bestCares a_m_ones a_m_others a_m_bytes a_m_anew a_m_values cI cB cZ cP cC above below manyLine bytesLong tokenAt tokenLong token value told Post A) ar s 0 0 A) (F0 m 38 ls []) := by
  obtain ⟨hx, hb, hr, hlocks, hml, hown, hts, hK, hA⟩ := id C0
  intro n
  induction n with
  | zero =>
    intro v1 v2 v3 retired refused months ones others H locs ls hP hD hS hl hw
    exact absurd hw (fun h => h)
  | succ n ih =>
    intro v1 v2 v3 retired refused months ones others H locs ls hP hD hS hl hw
    refine lv_iload_n hx hb dX10_powers_38 rfl (lv_at hl 3 rfl) ?_
    refine lv_iconst (v := 4) hx hb dX10_powers_39 (by decide) ?_
    refine lv_icmp_ge (tgt := 114) hx hb dX10_powers_40 (by decide) (fun c_9 => ?_) (fun c_9 => ?_)
    · replace hw := hw.1 c_9
      exact hK_114 retired refused months ones others _ _ _ hP hD hS (lv_sub hl [0] rfl) hw
    · replace hw := hw.2 c_9
      refine lv_aload_n hx hb dX10_powers_43 rfl (lv_at hl 0 rfl) ?_
      refine lv_iload_n hx hb dX10_powers_44 rfl (lv_at hl 2 rfl) ?_
      refine lv_iload_n hx hb dX10_powers_45 rfl (lv_at hl 1 rfl) ?_
      refine mx_ki (mx_rV (rm := rm_X10_criesIn) (rest := []) (C := RX10) hx hb hml hown hts (c_X10_criesIn l D cI cB cZ cP cC a_m a_m_told a_m_kept a_m_isKept a_m_refused a_m_months a_m_heirs a_m_lasts a_m_cares a_m_bestCares a_m_ones a_m_others a_m_bytes a_m_anew a_m_values above below retired manyLine bytesLong tokenAt tokenLong token value told v2 v1 _ _ hw) q_604 q_605 q_606 q_5 q_607 hd_X10_criesIn ⟨(Nat.le_of_ble_eq_true rfl), (Nat.le_of_ble_eq_true rfl)⟩ rfl rfl hK hP hD [0, 1] rfl rfl 10 0 rfl rfl rfl rfl hl.1 rfl (Nat.le_of_ble_eq_true rfl) dX10_powers_46 ⟨(Nat.le_of_ble_eq_true rfl), (Nat.le_of_ble_eq_true rfl)⟩) hP hD hS hA [0, 1] [2, 3, 4, 5] [4, 5, 0, 1, 2, 3] (fun _ => ww_X10_powers a_m a_m_told a_m_kept a_m_isKept a_m_refused a_m_months a_m_heirs a_m_lasts a_m_cares a_m_bestCares a_m_ones a_m_others a_m_bytes a_m_anew a_m_values cI cB cZ cP cC above below retired manyLine bytesLong tokenAt tokenLong token value told refused months ones others) rfl rfl rfl (by decide) rfl (fun _ => rfl) (fun r_10 u H locs hw hP hD hS => ?_)
      try dsimp only at hw
      replace hP : va_P D vwCl (ww_X10_powers a_m a_m_told a_m_kept a_m_isKept a_m_refused a_m_months a_m_heirs a_m_lasts a_m_cares a_m_bestCares a_m_ones a_m_others a_m_bytes a_m_anew a_m_values cI cB cZ cP cC above below retired manyLine bytesLong tokenAt tokenLong token value told refused months ones others) H := hP
      replace hD : va_D A (ww_X10_powers a_m a_m_told a_m_kept a_m_isKept a_m_refused a_m_months a_m_heirs a_m_lasts a_m_cares a_m_bestCares a_m_ones a_m_others a_m_bytes a_m_anew a_m_values cI cB cZ cP cC above below retired manyLine bytesLong tokenAt tokenLong token value told refused months ones others) := hD
      refine lv_iconst (v := 2) hx hb dX10_powers_49 (by decide) ?_
      refine lv_iload_n hx hb dX10_powers_50 rfl (lv_at hl 3 rfl) ?_
      refine mx_ki (mx_rS (rm := rm_X10_bits) (rest := [.int 2, .int r_10]) hx hb hml hown hts (c_X10_bits l D cI cB cZ cP cC v3 _ _ hw) q_502 q_503 q_5 q_504 hd_X10_bits ⟨(Nat.le_of_ble_eq_true rfl), (Nat.le_of_ble_eq_true rfl)⟩ rfl rfl hK hP hD [] rfl rfl rfl hl.1 rfl (Nat.le_of_ble_eq_true rfl) dX10_powers_51 ⟨(Nat.le_of_ble_eq_true rfl), (Nat.le_of_ble_eq_true rfl)⟩) hP hD hS hA [] [0, 1, 2, 3, 4, 5] [0, 1, 2, 3, 4, 5] (fun _ => ww_X10_powers a_m a_m_told a_m_kept a_m_isKept a_m_refused a_m_months a_m_heirs a_m_lasts a_m_cares a_m_bestCares a_m_ones a_m_others a_m_bytes a_m_anew a_m_values cI cB cZ cP cC above below retired manyLine bytesLong tokenAt tokenLong token value told refused months ones others) rfl rfl rfl (by decide) rfl (fun _ => rfl) (fun r_11 u H locs hw hP hD hS => ?_)
      try dsimp only at hw
      replace hP : va_P D vwCl (ww_X10_powers a_m a_m_told a_m_kept a_m_isKept a_m_refused a_m_months a_m_heirs a_m_lasts a_m_cares a_m_bestCares a_m_ones a_m_others a_m_bytes a_m_anew a_m_values cI cB cZ cP cC above below retired manyLine bytesLong tokenAt tokenLong token value told refused months ones others) H := hP
      replace hD : va_D A (ww_X10_powers a_m a_m_told a_m_kept a_m_isKept a_m_refused a_m_months a_m_heirs a_m_lasts a_m_cares a_m_bestCares a_m_ones a_m_others a_m_bytes a_m_anew a_m_values cI cB cZ cP cC above below retired manyLine bytesLong tokenAt tokenLong token value told refused months ones others) := hD
      refine lv_imul hx hb dX10_powers_54 ?_
      refine lv_iadd hx hb dX10_powers_55 ?_
      refine lv_topi (fun x_12 ex_12 => ?_)
      replace hw := hw x_12 ex_12
      refine lv_istore (lv' := [(4, .int x_12), (0, .ref a_m), (1, .int v1), (2, .int v2), (3, .int v3)]) hx hb dX10_powers_56 hl (by decide) rfl (fun ls hl => ?_)
      refine lv_aload_n hx hb dX10_powers_58 rfl (lv_at hl 1 rfl) ?_
      refine mx_get (ci := 10) (C := RX10) (T := TX10) (N := 23) hx hb hown in_wsX100 hts hK hP 0 rfl rfl 13 (by decide) q_101 rfl (v := .ref a_m_ones) rfl dX10_powers_59 ?_
      refine lv_iload_n hx hb dX10_powers_62 rfl (lv_at hl 4 rfl) ?_
      refine lv_iload_n hx hb dX10_powers_63 rfl (lv_at hl 4 rfl) ?_
      refine lv_iconst (v := 1) hx hb dX10_powers_64 (by decide) ?_
      refine lv_iand hx hb dX10_powers_65 ?_
      refine lv_iconst (v := 1) hx hb dX10_powers_66 (by decide) ?_
      refine lv_icmp_ne (tgt := 77) hx hb dX10_powers_67 (by decide) (fun c_13 => ?_) (fun c_13 => ?_)
      · replace hw := hw.2 c_13
        refine lv_iconst (v := 3) hx hb dX10_powers_77 (by decide) ?_
        refine lv_iload hx hb dX10_powers_78 (lv_at hl 0 rfl) ?_
        refine lv_iconst (v := 2) hx hb dX10_powers_80 (by decide) ?_
        refine lv_idiv hx hb dX10_powers_81 (by decide) ?_
        refine lv_isub hx hb dX10_powers_82 ?_
        refine k_X10_powers_J83 C0 ?_ v1 v2 v3 x_12 (3 - (x_12 / 2)) v3 retired refused months ones others _ _ _ hP hD hS (lv_sub hl [1, 2, 3, 4, 0] rfl) hw
        intro v1_36 v2_37 v3_38 retired_39 refused_40 months_41 ones_42 others_43 H locs ls hP hD hS hl hw
        exact ih v1_36 v2_37 v3_38 retired_39 refused_40 months_41 ones_42 others_43 _ _ _ hP hD hS (lv_sub hl [0, 1, 2, 3] rfl) hw
      · replace hw := hw.1 c_13
        refine lv_iconst (v := 4) hx hb dX10_powers_70 (by decide) ?_
        refine lv_iload hx hb dX10_powers_71 (lv_at hl 0 rfl) ?_
        refine lv_isub hx hb dX10_powers_73 ?_
        refine lv_goto (tgt := 83) hx hb dX10_powers_74 (by decide) ?_
        refine k_X10_powers_J83 C0 ?_ v1 v2 v3 x_12 (4 - x_12) v3 retired refused months ones others _ _ _ hP hD hS (lv_sub hl [1, 2, 3, 4, 0] rfl) hw
        intro v1_44 v2_45 v3_46 retired_47 refused_48 months_49 ones_50 others_51 H locs ls hP hD hS hl hw
        exact ih v1_44 v2_45 v3_46 retired_47 refused_48 months_49 ones_50 others_51 _ _ _ hP hD hS (lv_sub hl [0, 1, 2, 3] rfl) hw
def wp_X10_powers_J184 (told : Nat → Int32) (Post : Int32 → Int32 → (Nat → Int32) → (Nat → Int32) → (Nat → Int32) → (Nat → Int32) → Prop) (K_119 : Int32 → Int32 → Int32 → (Nat → Int32) → (Nat → Int32) → (Nat → Int32) → (Nat → Int32) → Prop) (v4 : Int32) (s0 : Int32) (s1 : Int32) (retired : Int32) (refused : Nat → Int32) (months : Nat → Int32) (ones : Nat → Int32) (others : Nat → Int32) : Prop :=
  (∀ x_62 : Int32, x_62 = s1 ||| s0 → (∀ x_63 : Int32, x_63 = v4 + 1 → K_119 x_62 x_63 retired refused months ones others))
set_option maxHeartbeats 4000000 in
set_option maxRecDepth 100000 in
theorem k_X10_powers_J184 {p : Program} {l : Launch} {e : Env} {s : State} {m : MethodId} {ar : Array Value} {bl : List Frame} {meth : Method} {c : Code} {D : va_G} {A : Nat → Prop} {cI cB cZ cP cC : ClassId} {a_m a_m_told a_m_kept a_m_isKept a_m_refused a_m_months a_m_heirs a_m_lasts a_m_cares a_m_bestCares a_m_ones a_m_others a_m_bytes a_m_anew a_m_values : Nat} {above : Int64} {below : Int64} {manyLine : Int32} {bytesLong : Int32} {tokenAt : Int32} {tokenLong : Int32} {token : Int32} {value : Int32} {told : Nat → Int32} {Post : Int32 → Int32 → (Nat → Int32) → (Nat → Int32) → (Nat → Int32) → (Nat → Int32) → Prop} {K_119 : Int32 → Int32 → Int32 → (Nat → Int32) → (Nat → Int32) → (Nat → Int32) → (Nat → Int32) → Prop} (C0 : mxC p s m ar meth c cX10_powers RX10 (some .int) 6 D (mxTy cI cB cZ cP cC) A)
    (hK_119 : ∀ (v3 : Int32) (v4 : Int32) (retired : Int32) (refused : Nat → Int32) (months : Nat → Int32) (ones : Nat → Int32) (others : Nat → Int32) (H : Heap) (locs : List Loc) (ls : Array Slot), va_P D vwCl (ww_X10_powers a_m a_m_told a_m_kept a_m_isKept a_m_refused a_m_months a_m_heirs a_m_lasts a_m_cares a_m_bestCares a_m_ones a_m_others a_m_bytes a_m_anew a_m_values cI cB cZ cP cC above below retired manyLine bytesLong tokenAt tokenLong token value told refused months ones others) H → va_D A (ww_X10_powers a_m a_m_told a_m_kept a_m_isKept a_m_refused a_m_months a_m_heirs a_m_lasts a_m_cares a_m_bestCares a_m_ones a_m_others a_m_bytes a_m_anew a_m_values cI cB cZ cP cC above below retired manyLine bytesLong tokenAt tokenLong token value told refused months ones others) → va_S A s.heap H locs → lv_has ls 6 [(0, .ref a_m), (3, .int v3), (4, .int v4)] → K_119 v3 v4 retired refused months ones others → W p l e rm_X10_powers s m ar bl meth c H locs 0 0 (MQ bl (qq_X10_powers D a_m a_m_told a_m_kept a_m_isKept a_m_refused a_m_months a_m_heirs a_m_lasts a_m_cares a_m_bestCares a_m_ones a_m_others a_m_bytes a_m_anew a_m_values cI cB cZ cP cC above below manyLine bytesLong tokenAt tokenLong token value told Post A) ar s 0 0 A) (F0 m 119 ls [])) :
    ∀ (v4 : Int32) (s0 : Int32) (s1 : Int32) (retired : Int32) (refused : Nat → Int32) (months : Nat → Int32) (ones : Nat → Int32) (others : Nat → Int32) (H : Heap) (locs : List Loc) (ls : Array Slot), va_P D vwCl (ww_X10_powers a_m a_m_told a_m_kept a_m_isKept a_m_refused a_m_months a_m_heirs a_m_lasts a_m_cares a_m_bestCares a_m_ones a_m_others a_m_bytes a_m_anew a_m_values cI cB cZ cP cC above below retired manyLine bytesLong tokenAt tokenLong token value told refused months ones others) H → va_D A (ww_X10_powers a_m a_m_told a_m_kept a_m_isKept a_m_refused a_m_months a_m_heirs a_m_lasts a_m_cares a_m_bestCares a_m_ones a_m_others a_m_bytes a_m_anew a_m_values cI cB cZ cP cC above below retired manyLine bytesLong tokenAt tokenLong token value told refused months ones others) → va_S A s.heap H locs → lv_has ls 6 [(0, .ref a_m), (4, .int v4)] → wp_X10_powers_J184 told Post K_119 v4 s0 s1 retired refused months ones others → W p l e rm_X10_powers s m ar bl meth c H locs 0 0 (MQ bl (qq_X10_powers D a_m a_m_told a_m_kept a_m_isKept a_m_refused a_m_months a_m_heirs a_m_lasts a_m_cares a_m_bestCares a_m_ones a_m_others a_m_bytes a_m_anew a_m_values cI cB cZ cP cC above below manyLine bytesLong tokenAt tokenLong token value told Post A) ar s 0 0 A) (F0 m 184 ls [.int s0, .int s1]) := by
  obtain ⟨hx, hb, hr, hlocks, hml, hown, hts, hK, hA⟩ := id C0
  intro v4 s0 s1 retired refused months ones others H locs ls hP hD hS hl hw
  refine lv_ior hx hb dX10_powers_184 ?_
  refine lv_topi (fun x_62 ex_62 => ?_)
  replace hw := hw x_62 ex_62
  refine lv_istore_n (lv' := [(3, .int x_62), (0, .ref a_m), (4, .int v4)]) hx hb dX10_powers_185 rfl hl (by decide) rfl (fun ls hl => ?_)
  obtain ⟨x_63, ex_63⟩ : ∃ y : Int32, y = v4 + 1 := ⟨_, rfl⟩
  replace hw := hw x_63 ex_63
  refine lv_iinc (v := x_63) (lv' := [(4, .int x_63), (3, .int x_62), (0, .ref a_m)]) hx hb dX10_powers_186 hl (k := 2) rfl (by rw [ex_63]; rfl) (by decide) rfl (fun ls hl => ?_)
  refine lv_goto (tgt := 119) hx hb dX10_powers_189 (by decide) ?_
  exact hK_119 x_62 x_63 retired refused months ones others _ _ _ hP hD hS (lv_sub hl [2, 1, 0] rfl) hw
def wp_X10_powers_J168 (told : Nat → Int32) (Post : Int32 → Int32 → (Nat → Int32) → (Nat → Int32) → (Nat → Int32) → (Nat → Int32) → Prop) (K_119 : Int32 → Int32 → Int32 → (Nat → Int32) → (Nat → Int32) → (Nat → Int32) → (Nat → Int32) → Prop) (v3 : Int32) (v4 : Int32) (s0 : Int32) (retired : Int32) (refused : Nat → Int32) (months : Nat → Int32) (ones : Nat → Int32) (others : Nat → Int32) : Prop :=
  ((s0 = 0 → (wp_X10_powers_J184 told Post K_119 v4 0 v3 retired refused months ones others)) ∧ (¬ s0 = 0 → (wp_X10_powers_J184 told Post K_119 v4 (1 <<< (v4 &&& 31)) v3 retired refused months ones others)))
set_option maxHeartbeats 4000000 in
set_option maxRecDepth 100000 in
theorem k_X10_powers_J168 {p : Program} {l : Launch} {e : Env} {s : State} {m : MethodId} {ar : Array Value} {bl : List Frame} {meth : Method} {c : Code} {D : va_G} {A : Nat → Prop} {cI cB cZ cP cC : ClassId} {a_m a_m_told a_m_kept a_m_isKept a_m_refused a_m_months a_m_heirs a_m_lasts a_m_cares a_m_bestCares a_m_ones a_m_others a_m_bytes a_m_anew a_m_values : Nat} {above : Int64} {below : Int64} {manyLine : Int32} {bytesLong : Int32} {tokenAt : Int32} {tokenLong : Int32} {token : Int32} {value : Int32} {told : Nat → Int32} {Post : Int32 → Int32 → (Nat → Int32) → (Nat → Int32) → (Nat → Int32) → (Nat → Int32) → Prop} {K_119 : Int32 → Int32 → Int32 → (Nat → Int32) → (Nat → Int32) → (Nat → Int32) → (Nat → Int32) → Prop} (C0 : mxC p s m ar meth c cX10_powers RX10 (some .int) 6 D (mxTy cI cB cZ cP cC) A)
    (hK_119 : ∀ (v3 : Int32) (v4 : Int32) (retired : Int32) (refused : Nat → Int32) (months : Nat → Int32) (ones : Nat → Int32) (others : Nat → Int32) (H : Heap) (locs : List Loc) (ls : Array Slot), va_P D vwCl (ww_X10_powers a_m a_m_told a_m_kept a_m_isKept a_m_refused a_m_months a_m_heirs a_m_lasts a_m_cares a_m_bestCares a_m_ones a_m_others a_m_bytes a_m_anew a_m_values cI cB cZ cP cC above below retired manyLine bytesLong tokenAt tokenLong token value told refused months ones others) H → va_D A (ww_X10_powers a_m a_m_told a_m_kept a_m_isKept a_m_refused a_m_months a_m_heirs a_m_lasts a_m_cares a_m_bestCares a_m_ones a_m_others a_m_bytes a_m_anew a_m_values cI cB cZ cP cC above below retired manyLine bytesLong tokenAt tokenLong token value told refused months ones others) → va_S A s.heap H locs → lv_has ls 6 [(0, .ref a_m), (3, .int v3), (4, .int v4)] → K_119 v3 v4 retired refused months ones others → W p l e rm_X10_powers s m ar bl meth c H locs 0 0 (MQ bl (qq_X10_powers D a_m a_m_told a_m_kept a_m_isKept a_m_refused a_m_months a_m_heirs a_m_lasts a_m_cares a_m_bestCares a_m_ones a_m_others a_m_bytes a_m_anew a_m_values cI cB cZ cP cC above below manyLine bytesLong tokenAt tokenLong token value told Post A) ar s 0 0 A) (F0 m 119 ls [])) :
    ∀ (v3 : Int32) (v4 : Int32) (s0 : Int32) (retired : Int32) (refused : Nat → Int32) (months : Nat → Int32) (ones : Nat → Int32) (others : Nat → Int32) (H : Heap) (locs : List Loc) (ls : Array Slot), va_P D vwCl (ww_X10_powers a_m a_m_told a_m_kept a_m_isKept a_m_refused a_m_months a_m_heirs a_m_lasts a_m_cares a_m_bestCares a_m_ones a_m_others a_m_bytes a_m_anew a_m_values cI cB cZ cP cC above below retired manyLine bytesLong tokenAt tokenLong token value told refused months ones others) H → va_D A (ww_X10_powers a_m a_m_told a_m_kept a_m_isKept a_m_refused a_m_months a_m_heirs a_m_lasts a_m_cares a_m_bestCares a_m_ones a_m_others a_m_bytes a_m_anew a_m_values cI cB cZ cP cC above below retired manyLine bytesLong tokenAt tokenLong token value told refused months ones others) → va_S A s.heap H locs → lv_has ls 6 [(0, .ref a_m), (3, .int v3), (4, .int v4)] → wp_X10_powers_J168 told Post K_119 v3 v4 s0 retired refused months ones others → W p l e rm_X10_powers s m ar bl meth c H locs 0 0 (MQ bl (qq_X10_powers D a_m a_m_told a_m_kept a_m_isKept a_m_refused a_m_months a_m_heirs a_m_lasts a_m_cares a_m_bestCares a_m_ones a_m_others a_m_bytes a_m_anew a_m_values cI cB cZ cP cC above below manyLine bytesLong tokenAt tokenLong token value told Post A) ar s 0 0 A) (F0 m 168 ls [.int s0]) := by
  obtain ⟨hx, hb, hr, hlocks, hml, hown, hts, hK, hA⟩ := id C0
  intro v3 v4 s0 retired refused months ones others H locs ls hP hD hS hl hw
  refine lv_istore (lv' := [(5, .int s0), (0, .ref a_m), (3, .int v3), (4, .int v4)]) hx hb dX10_powers_168 hl (by decide) rfl (fun ls hl => ?_)
  refine lv_iload_n hx hb dX10_powers_170 rfl (lv_at hl 2 rfl) ?_
  refine lv_iload hx hb dX10_powers_171 (lv_at hl 0 rfl) ?_
  refine lv_if_eq (tgt := 183) hx hb dX10_powers_173 (by decide) (fun c_61 => ?_) (fun c_61 => ?_)
  · replace hw := hw.1 c_61
    refine lv_iconst (v := 0) hx hb dX10_powers_183 (by decide) ?_
    refine k_X10_powers_J184 C0 ?_ v4 0 v3 retired refused months ones others _ _ _ hP hD hS (lv_sub hl [1, 3] rfl) hw
    intro v3_64 v4_65 retired_66 refused_67 months_68 ones_69 others_70 H locs ls hP hD hS hl hw
    exact hK_119 v3_64 v4_65 retired_66 refused_67 months_68 ones_69 others_70 _ _ _ hP hD hS (lv_sub hl [0, 1, 2] rfl) hw
  · replace hw := hw.2 c_61
    refine lv_iconst (v := 1) hx hb dX10_powers_176 (by decide) ?_
    refine lv_iload hx hb dX10_powers_177 (lv_at hl 3 rfl) ?_
    refine lv_ishl hx hb dX10_powers_179 ?_
    refine lv_goto (tgt := 184) hx hb dX10_powers_180 (by decide) ?_
    refine k_X10_powers_J184 C0 ?_ v4 (1 <<< (v4 &&& 31)) v3 retired refused months ones others _ _ _ hP hD hS (lv_sub hl [1, 3] rfl) hw
    intro v3_71 v4_72 retired_73 refused_74 months_75 ones_76 others_77 H locs ls hP hD hS hl hw
    exact hK_119 v3_71 v4_72 retired_73 refused_74 months_75 ones_76 others_77 _ _ _ hP hD hS (lv_sub hl [0, 1, 2] rfl) hw
def wp_X10_powers_J167 (told : Nat → Int32) (Post : Int32 → Int32 → (Nat → Int32) → (Nat → Int32) → (Nat → Int32) → (Nat → Int32) → Prop) (K_119 : Int32 → Int32 → Int32 → (Nat → Int32) → (Nat → Int32) → (Nat → Int32) → (Nat → Int32) → Prop) (v3 : Int32) (v4 : Int32) (retired : Int32) (refused : Nat → Int32) (months : Nat → Int32) (ones : Nat → Int32) (others : Nat → Int32) : Prop :=
  (wp_X10_powers_J168 told Post K_119 v3 v4 0 retired refused months ones others)
set_option maxHeartbeats 4000000 in
set_option maxRecDepth 100000 in
theorem k_X10_powers_J167 {p : Program} {l : Launch} {e : Env} {s : State} {m : MethodId} {ar : Array Value} {bl : List Frame} {meth : Method} {c : Code} {D : va_G} {A : Nat → Prop} {cI cB cZ cP cC : ClassId} {a_m a_m_told a_m_kept a_m_isKept a_m_refused a_m_months a_m_heirs a_m_lasts a_m_cares a_m_bestCares a_m_ones a_m_others a_m_bytes a_m_anew a_m_values : Nat} {above : Int64} {below : Int64} {manyLine : Int32} {bytesLong : Int32} {tokenAt : Int32} {tokenLong : Int32} {token : Int32} {value : Int32} {told : Nat → Int32} {Post : Int32 → Int32 → (Nat → Int32) → (Nat → Int32) → (Nat → Int32) → (Nat → Int32) → Prop} {K_119 : Int32 → Int32 → Int32 → (Nat → Int32) → (Nat → Int32) → (Nat → Int32) → (Nat → Int32) → Prop} (C0 : mxC p s m ar meth c cX10_powers RX10 (some .int) 6 D (mxTy cI cB cZ cP cC) A)
    (hK_119 : ∀ (v3 : Int32) (v4 : Int32) (retired : Int32) (refused : Nat → Int32) (months : Nat → Int32) (ones : Nat → Int32) (others : Nat → Int32) (H : Heap) (locs : List Loc) (ls : Array Slot), va_P D vwCl (ww_X10_powers a_m a_m_told a_m_kept a_m_isKept a_m_refused a_m_months a_m_heirs a_m_lasts a_m_cares a_m_bestCares a_m_ones a_m_others a_m_bytes a_m_anew a_m_values cI cB cZ cP cC above below retired manyLine bytesLong tokenAt tokenLong token value told refused months ones others) H → va_D A (ww_X10_powers a_m a_m_told a_m_kept a_m_isKept a_m_refused a_m_months a_m_heirs a_m_lasts a_m_cares a_m_bestCares a_m_ones a_m_others a_m_bytes a_m_anew a_m_values cI cB cZ cP cC above below retired manyLine bytesLong tokenAt tokenLong token value told refused months ones others) → va_S A s.heap H locs → lv_has ls 6 [(0, .ref a_m), (3, .int v3), (4, .int v4)] → K_119 v3 v4 retired refused months ones others → W p l e rm_X10_powers s m ar bl meth c H locs 0 0 (MQ bl (qq_X10_powers D a_m a_m_told a_m_kept a_m_isKept a_m_refused a_m_months a_m_heirs a_m_lasts a_m_cares a_m_bestCares a_m_ones a_m_others a_m_bytes a_m_anew a_m_values cI cB cZ cP cC above below manyLine bytesLong tokenAt tokenLong token value told Post A) ar s 0 0 A) (F0 m 119 ls [])) :
    ∀ (v3 : Int32) (v4 : Int32) (retired : Int32) (refused : Nat → Int32) (months : Nat → Int32) (ones : Nat → Int32) (others : Nat → Int32) (H : Heap) (locs : List Loc) (ls : Array Slot), va_P D vwCl (ww_X10_powers a_m a_m_told a_m_kept a_m_isKept a_m_refused a_m_months a_m_heirs a_m_lasts a_m_cares a_m_bestCares a_m_ones a_m_others a_m_bytes a_m_anew a_m_values cI cB cZ cP cC above below retired manyLine bytesLong tokenAt tokenLong token value told refused months ones others) H → va_D A (ww_X10_powers a_m a_m_told a_m_kept a_m_isKept a_m_refused a_m_months a_m_heirs a_m_lasts a_m_cares a_m_bestCares a_m_ones a_m_others a_m_bytes a_m_anew a_m_values cI cB cZ cP cC above below retired manyLine bytesLong tokenAt tokenLong token value told refused months ones others) → va_S A s.heap H locs → lv_has ls 6 [(0, .ref a_m), (3, .int v3), (4, .int v4)] → wp_X10_powers_J167 told Post K_119 v3 v4 retired refused months ones others → W p l e rm_X10_powers s m ar bl meth c H locs 0 0 (MQ bl (qq_X10_powers D a_m a_m_told a_m_kept a_m_isKept a_m_refused a_m_months a_m_heirs a_m_lasts a_m_cares a_m_bestCares a_m_ones a_m_others a_m_bytes a_m_anew a_m_values cI cB cZ cP cC above below manyLine bytesLong tokenAt tokenLong token value told Post A) ar s 0 0 A) (F0 m 167 ls []) := by
  obtain ⟨hx, hb, hr, hlocks, hml, hown, hts, hK, hA⟩ := id C0
  intro v3 v4 retired refused months ones others H locs ls hP hD hS hl hw
  refine lv_iconst (v := 0) hx hb dX10_powers_167 (by decide) ?_
  refine k_X10_powers_J168 C0 ?_ v3 v4 0 retired refused months ones others _ _ _ hP hD hS (lv_sub hl [0, 1, 2] rfl) hw
  intro v3_78 v4_79 retired_80 refused_81 months_82 ones_83 others_84 H locs ls hP hD hS hl hw
  exact hK_119 v3_78 v4_79 retired_80 refused_81 months_82 ones_83 others_84 _ _ _ hP hD hS (lv_sub hl [0, 1, 2] rfl) hw
def wp_X10_powers_L119 (told : Nat → Int32) (Post : Int32 → Int32 → (Nat → Int32) → (Nat → Int32) → (Nat → Int32) → (Nat → Int32) → Prop)  : Nat → Int32 → Int32 → Int32 → (Nat → Int32) → (Nat → Int32) → (Nat → Int32) → (Nat → Int32) → Prop
  | 0, _, _, _, _, _, _, _ => False
  | n + 1, v3, v4, retired, refused, months, ones, others => ((4 ≤ v4 → Post v3 retired refused months ones others) ∧ (¬ 4 ≤ v4 → (vp_in v4 4 ∧ (vp_in (v4 ^^^ 1) 4 ∧ (((ones v4.toNatClampNeg) < (ones (v4 ^^^ 1).toNatClampNeg) → (wp_X10_powers_J167 told Post (fun (v3_85 : Int32) (v4_86 : Int32) (retired_87 : Int32) (refused_88 : Nat → Int32) (months_89 : Nat → Int32) (ones_90 : Nat → Int32) (others_91 : Nat → Int32) => wp_X10_powers_L119 told Post  n v3_85 v4_86 retired_87 refused_88 months_89 ones_90 others_91) v3 v4 retired refused months ones others)) ∧ (¬ (ones v4.toNatClampNeg) < (ones (v4 ^^^ 1).toNatClampNeg) → (vp_in (v4 ^^^ 2) 4 ∧ (((others v4.toNatClampNeg) < (others (v4 ^^^ 2).toNatClampNeg) → (wp_X10_powers_J167 told Post (fun (v3_94 : Int32) (v4_95 : Int32) (retired_96 : Int32) (refused_97 : Nat → Int32) (months_98 : Nat → Int32) (ones_99 : Nat → Int32) (others_100 : Nat → Int32) => wp_X10_powers_L119 told Post  n v3_94 v4_95 retired_96 refused_97 months_98 ones_99 others_100) v3 v4 retired refused months ones others)) ∧ (¬ (others v4.toNatClampNeg) < (others (v4 ^^^ 2).toNatClampNeg) → (wp_X10_powers_J168 told Post (fun (v3_101 : Int32) (v4_102 : Int32) (retired_103 : Int32) (refused_104 : Nat → Int32) (months_105 : Nat → Int32) (ones_106 : Nat → Int32) (others_107 : Nat → Int32) => wp_X10_powers_L119 told Post  n v3_101 v4_102 retired_103 refused_104 months_105 ones_106 others_107) v3 v4 1 retired refused months ones others))))))))))
set_option maxHeartbeats 4000000 in
set_option maxRecDepth 100000 in
theorem k_X10_powers_L119 {p : Program} {l : Launch} {e : Env} {s : State} {m : MethodId} {ar : Array Value} {bl : List Frame} {meth : Method} {c : Code} {D : va_G} {A : Nat → Prop} {cI cB cZ cP cC : ClassId} {a_m a_m_told a_m_kept a_m_isKept a_m_refused a_m_months a_m_heirs a_m_lasts a_m_cares a_m_bestCares a_m_ones a_m_others a_m_bytes a_m_anew a_m_values : Nat} {above : Int64} {below : Int64} {manyLine : Int32} {bytesLong : Int32} {tokenAt : Int32} {tokenLong : Int32} {token : Int32} {value : Int32} {told : Nat → Int32} {Post : Int32 → Int32 → (Nat → Int32) → (Nat → Int32) → (Nat → Int32) → (Nat → Int32) → Prop} (C0 : mxC p s m ar meth c cX10_powers RX10 (some .int) 6 D (mxTy cI cB cZ cP cC) A) :
    ∀ (n : Nat) (v3 : Int32) (v4 : Int32) (retired : Int32) (refused : Nat → Int32) (months : Nat → Int32) (ones : Nat → Int32) (others : Nat → Int32) (H : Heap) (locs : List Loc) (ls : Array Slot), va_P D vwCl (ww_X10_powers a_m a_m_told a_m_kept a_m_isKept a_m_refused a_m_months a_m_heirs a_m_lasts a_m_cares a_m_bestCares a_m_ones a_m_others a_m_bytes a_m_anew a_m_values cI cB cZ cP cC above below retired manyLine bytesLong tokenAt tokenLong token value told refused months ones others) H → va_D A (ww_X10_powers a_m a_m_told a_m_kept a_m_isKept a_m_refused a_m_months a_m_heirs a_m_lasts a_m_cares a_m_bestCares a_m_ones a_m_others a_m_bytes a_m_anew a_m_values cI cB cZ cP cC above below retired manyLine bytesLong tokenAt tokenLong token value told refused months ones others) → va_S A s.heap H locs → lv_has ls 6 [(0, .ref a_m), (3, .int v3), (4, .int v4)] → wp_X10_powers_L119 told Post  n v3 v4 retired refused months ones others → W p l e rm_X10_powers s m ar bl meth c H locs 0 0 (MQ bl (qq_X10_powers D a_m a_m_told a_m_kept a_m_isKept a_m_refused a_m_months a_m_heirs a_m_lasts a_m_cares a_m_bestCares a_m_ones a_m_others a_m_bytes a_m_anew a_m_values cI cB cZ cP cC above below manyLine bytesLong tokenAt tokenLong token value told Post A) ar s 0 0 A) (F0 m 119 ls []) := by
  obtain ⟨hx, hb, hr, hlocks, hml, hown, hts, hK, hA⟩ := id C0
  intro n
  induction n with
  | zero =>
    intro v3 v4 retired refused months ones others H locs ls hP hD hS hl hw
    exact absurd hw (fun h => h)
  | succ n ih =>
    intro v3 v4 retired refused months ones others H locs ls hP hD hS hl hw
    refine lv_iload hx hb dX10_powers_119 (lv_at hl 2 rfl) ?_
    refine lv_iconst (v := 4) hx hb dX10_powers_121 (by decide) ?_
    refine lv_icmp_ge (tgt := 192) hx hb dX10_powers_122 (by decide) (fun c_57 => ?_) (fun c_57 => ?_)
    · replace hw := hw.1 c_57
      refine lv_iload_n hx hb dX10_powers_192 rfl (lv_at hl 1 rfl) ?_
      exact mx_iret (retired, refused, months, ones, others) hx hb hr hlocks rfl hw hK hP hD hS dX10_powers_193
    · replace hw := hw.2 c_57
      refine lv_aload_n hx hb dX10_powers_125 rfl (lv_at hl 0 rfl) ?_
      refine mx_get (ci := 10) (C := RX10) (T := TX10) (N := 23) hx hb hown in_wsX100 hts hK hP 0 rfl rfl 13 (by decide) q_101 rfl (v := .ref a_m_ones) rfl dX10_powers_126 ?_
      refine lv_iload hx hb dX10_powers_129 (lv_at hl 2 rfl) ?_
      obtain ⟨h_58, hw⟩ := hw
      refine mx_iald hx hb hK hP 4 0 rfl rfl h_58 (ones v4.toNatClampNeg) rfl dX10_powers_131 ?_
      refine lv_aload_n hx hb dX10_powers_132 rfl (lv_at hl 0 rfl) ?_
      refine mx_get (ci := 10) (C := RX10) (T := TX10) (N := 23) hx hb hown in_wsX100 hts hK hP 0 rfl rfl 13 (by decide) q_101 rfl (v := .ref a_m_ones) rfl dX10_powers_133 ?_
      refine lv_iload hx hb dX10_powers_136 (lv_at hl 2 rfl) ?_
      refine lv_iconst (v := 1) hx hb dX10_powers_138 (by decide) ?_
      refine lv_ixor hx hb dX10_powers_139 ?_
      obtain ⟨h_59, hw⟩ := hw
      refine mx_iald hx hb hK hP 4 0 rfl rfl h_59 (ones (v4 ^^^ 1).toNatClampNeg) rfl dX10_powers_140 ?_
      refine lv_icmp_lt (tgt := 167) hx hb dX10_powers_141 (by decide) (fun c_60 => ?_) (fun c_60 => ?_)
      · replace hw := hw.1 c_60
        refine k_X10_powers_J167 C0 ?_ v3 v4 retired refused months ones others _ _ _ hP hD hS (lv_sub hl [0, 1, 2] rfl) hw
        intro v3_85 v4_86 retired_87 refused_88 months_89 ones_90 others_91 H locs ls hP hD hS hl hw
        exact ih v3_85 v4_86 retired_87 refused_88 months_89 ones_90 others_91 _ _ _ hP hD hS (lv_sub hl [0, 1, 2] rfl) hw
      · replace hw := hw.2 c_60
        refine lv_aload_n hx hb dX10_powers_144 rfl (lv_at hl 0 rfl) ?_
        refine mx_get (ci := 10) (C := RX10) (T := TX10) (N := 23) hx hb hown in_wsX100 hts hK hP 0 rfl rfl 14 (by decide) q_102 rfl (v := .ref a_m_others) rfl dX10_powers_145 ?_
        refine lv_iload hx hb dX10_powers_148 (lv_at hl 2 rfl) ?_
        refine mx_iald hx hb hK hP 5 0 rfl rfl h_58 (others v4.toNatClampNeg) rfl dX10_powers_150 ?_
        refine lv_aload_n hx hb dX10_powers_151 rfl (lv_at hl 0 rfl) ?_
        refine mx_get (ci := 10) (C := RX10) (T := TX10) (N := 23) hx hb hown in_wsX100 hts hK hP 0 rfl rfl 14 (by decide) q_102 rfl (v := .ref a_m_others) rfl dX10_powers_152 ?_
        refine lv_iload hx hb dX10_powers_155 (lv_at hl 2 rfl) ?_
        refine lv_iconst (v := 2) hx hb dX10_powers_157 (by decide) ?_
        refine lv_ixor hx hb dX10_powers_158 ?_
        obtain ⟨h_92, hw⟩ := hw
        refine mx_iald hx hb hK hP 5 0 rfl rfl h_92 (others (v4 ^^^ 2).toNatClampNeg) rfl dX10_powers_159 ?_
        refine lv_icmp_lt (tgt := 167) hx hb dX10_powers_160 (by decide) (fun c_93 => ?_) (fun c_93 => ?_)
        · replace hw := hw.1 c_93
          refine k_X10_powers_J167 C0 ?_ v3 v4 retired refused months ones others _ _ _ hP hD hS (lv_sub hl [0, 1, 2] rfl) hw
          intro v3_94 v4_95 retired_96 refused_97 months_98 ones_99 others_100 H locs ls hP hD hS hl hw
          exact ih v3_94 v4_95 retired_96 refused_97 months_98 ones_99 others_100 _ _ _ hP hD hS (lv_sub hl [0, 1, 2] rfl) hw
        · replace hw := hw.2 c_93
          refine lv_iconst (v := 1) hx hb dX10_powers_163 (by decide) ?_
          refine lv_goto (tgt := 168) hx hb dX10_powers_164 (by decide) ?_
          refine k_X10_powers_J168 C0 ?_ v3 v4 1 retired refused months ones others _ _ _ hP hD hS (lv_sub hl [0, 1, 2] rfl) hw
          intro v3_101 v4_102 retired_103 refused_104 months_105 ones_106 others_107 H locs ls hP hD hS hl hw
          exact ih v3_101 v4_102 retired_103 refused_104 months_105 ones_106 others_107 _ _ _ hP hD hS (lv_sub hl [0, 1, 2] rfl) hw
def wp_X10_powers (told : Nat → Int32) (retired : Int32) (refused : Nat → Int32) (months : Nat → Int32) (ones : Nat → Int32) (others : Nat → Int32) (v1 : Int32) (Post : Int32 → Int32 → (Nat → Int32) → (Nat → Int32) → (Nat → Int32) → (Nat → Int32) → Prop) : Prop :=
  (wp_X10_isHour v1 (fun r_1 => ((r_1 = 0 → (wp_X10_bad refused (-2) (fun r_110 refused_111 => Post r_110 retired refused_111 months ones others))) ∧ (¬ r_1 = 0 → (wp_X10_reignsNow told retired months (fun r_3 retired_4 months_5 => ((r_3 = (-1) → Post 15 retired_4 refused months_5 ones others) ∧ (¬ r_3 = (-1) → (wp_X10_isAwake told r_3 v1 (fun r_7 => ((r_7 = 0 → Post 15 retired_4 refused months_5 ones others) ∧ (¬ r_7 = 0 → (∃ k_109 : Nat, wp_X10_powers_L38 told Post (fun (retired_52 : Int32) (refused_53 : Nat → Int32) (months_54 : Nat → Int32) (ones_55 : Nat → Int32) (others_56 : Nat → Int32) => (∃ k_108 : Nat, wp_X10_powers_L119 told Post k_108 0 0 retired_52 refused_53 months_54 ones_55 others_56)) k_109 v1 r_3 0 retired_4 refused months_5 ones others)))))))))))))
set_option maxHeartbeats 4000000 in
set_option maxRecDepth 100000 in
theorem c_X10_powers (l : Launch) (D : va_G) (cI cB cZ cP cC : ClassId) (a_m a_m_told a_m_kept a_m_isKept a_m_refused a_m_months a_m_heirs a_m_lasts a_m_cares a_m_bestCares a_m_ones a_m_others a_m_bytes a_m_anew a_m_values : Nat) (above : Int64) (below : Int64) (retired : Int32) (manyLine : Int32) (bytesLong : Int32) (tokenAt : Int32) (tokenLong : Int32) (token : Int32) (value : Int32) (told : Nat → Int32) (refused : Nat → Int32) (months : Nat → Int32) (ones : Nat → Int32) (others : Nat → Int32) (v1 : Int32) (sz : Nat) (Post : Int32 → Int32 → (Nat → Int32) → (Nat → Int32) → (Nat → Int32) → (Nat → Int32) → Prop) (hw : wp_X10_powers told retired refused months ones others v1 Post) :
    Met l yX10_powers (Cond.code yX10_powers cX10_powers 6 (some .int) :: wsAll) rm_X10_powers (va_Pc [.ref a_m, .int v1] (mxP D (mxTy cI cB cZ cP cC) sz (ww_X10_powers a_m a_m_told a_m_kept a_m_isKept a_m_refused a_m_months a_m_heirs a_m_lasts a_m_cares a_m_bestCares a_m_ones a_m_others a_m_bytes a_m_anew a_m_values cI cB cZ cP cC above below retired manyLine bytesLong tokenAt tokenLong token value told refused months ones others))) (qq_X10_powers D a_m a_m_told a_m_kept a_m_isKept a_m_refused a_m_months a_m_heirs a_m_lasts a_m_cares a_m_bestCares a_m_ones a_m_others a_m_bytes a_m_anew a_m_values cI cB cZ cP cC above below manyLine bytesLong tokenAt tokenLong token value told Post (va_A (ww_X10_powers a_m a_m_told a_m_kept a_m_isKept a_m_refused a_m_months a_m_heirs a_m_lasts a_m_cares a_m_bestCares a_m_ones a_m_others a_m_bytes a_m_anew a_m_values cI cB cZ cP cC above below retired manyLine bytesLong tokenAt tokenLong token value told refused months ones others) sz)) 0 0 (va_A (ww_X10_powers a_m a_m_told a_m_kept a_m_isKept a_m_refused a_m_months a_m_heirs a_m_lasts a_m_cares a_m_bestCares a_m_ones a_m_others a_m_bytes a_m_anew a_m_values cI cB cZ cP cC above below retired manyLine bytesLong tokenAt tokenLong token value told refused months ones others) sz) := by
  refine mx_of (Qc := qq_X10_powers D a_m a_m_told a_m_kept a_m_isKept a_m_refused a_m_months a_m_heirs a_m_lasts a_m_cares a_m_bestCares a_m_ones a_m_others a_m_bytes a_m_anew a_m_values cI cB cZ cP cC above below manyLine bytesLong tokenAt tokenLong token value told Post) (by decide) (Nat.le_of_ble_eq_true rfl) ?_
  intro p e s m bl meth c A ls C0 hP hD hS hl
  replace C0 : mxC p s m [.ref a_m, .int v1].toArray meth c cX10_powers RX10 (some .int) 6 D (mxTy cI cB cZ cP cC) A := C0
  obtain ⟨hx, hb, hr, hlocks, hml, hown, hts, hK, hA⟩ := id C0
  replace hl : lv_has ls 6 [(0, .ref a_m), (1, .int v1)] := hl
  unfold wp_X10_powers at hw
  refine lv_iload_n hx hb dX10_powers_0 rfl (lv_at hl 1 rfl) ?_
  refine mx_ki (mx_rS (rm := rm_X10_isHour) (rest := []) hx hb hml hown hts (c_X10_isHour l D cI cB cZ cP cC v1 _ _ hw) q_600 q_601 q_5 q_602 hd_X10_isHour ⟨(Nat.le_of_ble_eq_true rfl), (Nat.le_of_ble_eq_true rfl)⟩ rfl rfl hK hP hD [] rfl rfl rfl hl.1 rfl (Nat.le_of_ble_eq_true rfl) dX10_powers_1 ⟨(Nat.le_of_ble_eq_true rfl), (Nat.le_of_ble_eq_true rfl)⟩) hP hD hS hA [] [0, 1, 2, 3, 4, 5] [0, 1, 2, 3, 4, 5] (fun _ => ww_X10_powers a_m a_m_told a_m_kept a_m_isKept a_m_refused a_m_months a_m_heirs a_m_lasts a_m_cares a_m_bestCares a_m_ones a_m_others a_m_bytes a_m_anew a_m_values cI cB cZ cP cC above below retired manyLine bytesLong tokenAt tokenLong token value told refused months ones others) rfl rfl rfl (by decide) rfl (fun _ => rfl) (fun r_1 u H locs hw hP hD hS => ?_)
  try dsimp only at hw
  replace hP : va_P D vwCl (ww_X10_powers a_m a_m_told a_m_kept a_m_isKept a_m_refused a_m_months a_m_heirs a_m_lasts a_m_cares a_m_bestCares a_m_ones a_m_others a_m_bytes a_m_anew a_m_values cI cB cZ cP cC above below retired manyLine bytesLong tokenAt tokenLong token value told refused months ones others) H := hP
  replace hD : va_D A (ww_X10_powers a_m a_m_told a_m_kept a_m_isKept a_m_refused a_m_months a_m_heirs a_m_lasts a_m_cares a_m_bestCares a_m_ones a_m_others a_m_bytes a_m_anew a_m_values cI cB cZ cP cC above below retired manyLine bytesLong tokenAt tokenLong token value told refused months ones others) := hD
  refine lv_if_ne (tgt := 14) hx hb dX10_powers_4 (by decide) (fun c_2 => ?_) (fun c_2 => ?_)
  · replace hw := hw.2 c_2
    refine lv_aload_n hx hb dX10_powers_14 rfl (lv_at hl 0 rfl) ?_
    refine mx_ki (mx_rV (rm := rm_X10_reignsNow) (rest := []) (C := RX10) hx hb hml hown hts (c_X10_reignsNow l D cI cB cZ cP cC a_m a_m_told a_m_kept a_m_isKept a_m_refused a_m_months a_m_heirs a_m_lasts a_m_cares a_m_bestCares a_m_ones a_m_others a_m_bytes a_m_anew a_m_values above below retired manyLine bytesLong tokenAt tokenLong token value told months _ _ hw) q_657 q_658 q_659 q_5 q_660 hd_X10_reignsNow ⟨(Nat.le_of_ble_eq_true rfl), (Nat.le_of_ble_eq_true rfl)⟩ rfl rfl hK hP hD [0, 1, 3] rfl rfl 10 0 rfl rfl rfl rfl hl.1 rfl (Nat.le_of_ble_eq_true rfl) dX10_powers_15 ⟨(Nat.le_of_ble_eq_true rfl), (Nat.le_of_ble_eq_true rfl)⟩) hP hD hS hA [0, 1, 3] [2, 4, 5] [3, 4, 0, 5, 1, 2] (fun u => ww_X10_powers a_m a_m_told a_m_kept a_m_isKept a_m_refused a_m_months a_m_heirs a_m_lasts a_m_cares a_m_bestCares a_m_ones a_m_others a_m_bytes a_m_anew a_m_values cI cB cZ cP cC above below (u.1) manyLine bytesLong tokenAt tokenLong token value told refused (u.2) ones others) rfl rfl rfl (by decide) rfl (fun _ => rfl) (fun r_3 u H locs hw hP hD hS => ?_)
    obtain ⟨retired_4, months_5⟩ := u
    try dsimp only at hw
    replace hP : va_P D vwCl (ww_X10_powers a_m a_m_told a_m_kept a_m_isKept a_m_refused a_m_months a_m_heirs a_m_lasts a_m_cares a_m_bestCares a_m_ones a_m_others a_m_bytes a_m_anew a_m_values cI cB cZ cP cC above below retired_4 manyLine bytesLong tokenAt tokenLong token value told refused months_5 ones others) H := hP
    replace hD : va_D A (ww_X10_powers a_m a_m_told a_m_kept a_m_isKept a_m_refused a_m_months a_m_heirs a_m_lasts a_m_cares a_m_bestCares a_m_ones a_m_others a_m_bytes a_m_anew a_m_values cI cB cZ cP cC above below retired_4 manyLine bytesLong tokenAt tokenLong token value told refused months_5 ones others) := hD
    refine lv_istore_n (lv' := [(2, .int r_3), (0, .ref a_m), (1, .int v1)]) hx hb dX10_powers_18 rfl hl (by decide) rfl (fun ls hl => ?_)
    refine lv_iload_n hx hb dX10_powers_19 rfl (lv_at hl 0 rfl) ?_
    refine lv_iconst (v := (-1)) hx hb dX10_powers_20 (by decide) ?_
    refine lv_icmp_eq (tgt := 33) hx hb dX10_powers_21 (by decide) (fun c_6 => ?_) (fun c_6 => ?_)
    · replace hw := hw.1 c_6
      refine lv_bipush (v := 15) hx hb dX10_powers_33 (by decide) ?_
      exact mx_iret (retired_4, refused, months_5, ones, others) hx hb hr hlocks rfl hw hK hP hD hS dX10_powers_35
    · replace hw := hw.2 c_6
      refine lv_aload_n hx hb dX10_powers_24 rfl (lv_at hl 1 rfl) ?_
      refine lv_iload_n hx hb dX10_powers_25 rfl (lv_at hl 0 rfl) ?_
      refine lv_iload_n hx hb dX10_powers_26 rfl (lv_at hl 2 rfl) ?_
      refine mx_ki (mx_rV (rm := rm_X10_isAwake) (rest := []) (C := RX10) hx hb hml hown hts (c_X10_isAwake l D cI cB cZ cP cC a_m a_m_told a_m_kept a_m_isKept a_m_refused a_m_months a_m_heirs a_m_lasts a_m_cares a_m_bestCares a_m_ones a_m_others a_m_bytes a_m_anew a_m_values above below retired_4 manyLine bytesLong tokenAt tokenLong token value told r_3 v1 _ _ hw) q_608 q_609 q_610 q_5 q_611 hd_X10_isAwake ⟨(Nat.le_of_ble_eq_true rfl), (Nat.le_of_ble_eq_true rfl)⟩ rfl rfl hK hP hD [0, 1] rfl rfl 10 0 rfl rfl rfl rfl hl.1 rfl (Nat.le_of_ble_eq_true rfl) dX10_powers_27 ⟨(Nat.le_of_ble_eq_true rfl), (Nat.le_of_ble_eq_true rfl)⟩) hP hD hS hA [0, 1] [2, 3, 4, 5] [4, 5, 0, 1, 2, 3] (fun _ => ww_X10_powers a_m a_m_told a_m_kept a_m_isKept a_m_refused a_m_months a_m_heirs a_m_lasts a_m_cares a_m_bestCares a_m_ones a_m_others a_m_bytes a_m_anew a_m_values cI cB cZ cP cC above below retired_4 manyLine bytesLong tokenAt tokenLong token value told refused months_5 ones others) rfl rfl rfl (by decide) rfl (fun _ => rfl) (fun r_7 u H locs hw hP hD hS => ?_)
      try dsimp only at hw
      replace hP : va_P D vwCl (ww_X10_powers a_m a_m_told a_m_kept a_m_isKept a_m_refused a_m_months a_m_heirs a_m_lasts a_m_cares a_m_bestCares a_m_ones a_m_others a_m_bytes a_m_anew a_m_values cI cB cZ cP cC above below retired_4 manyLine bytesLong tokenAt tokenLong token value told refused months_5 ones others) H := hP
      replace hD : va_D A (ww_X10_powers a_m a_m_told a_m_kept a_m_isKept a_m_refused a_m_months a_m_heirs a_m_lasts a_m_cares a_m_bestCares a_m_ones a_m_others a_m_bytes a_m_anew a_m_values cI cB cZ cP cC above below retired_4 manyLine bytesLong tokenAt tokenLong token value told refused months_5 ones others) := hD
      refine lv_if_ne (tgt := 36) hx hb dX10_powers_30 (by decide) (fun c_8 => ?_) (fun c_8 => ?_)
      · replace hw := hw.2 c_8
        refine lv_iconst (v := 0) hx hb dX10_powers_36 (by decide) ?_
        refine lv_istore_n (lv' := [(3, .int 0), (2, .int r_3), (0, .ref a_m), (1, .int v1)]) hx hb dX10_powers_37 rfl hl (by decide) rfl (fun ls hl => ?_)
        obtain ⟨n0, hw⟩ := hw
        refine k_X10_powers_L38 C0 ?_ n0 v1 r_3 0 retired_4 refused months_5 ones others _ _ _ hP hD hS (lv_sub hl [2, 3, 1, 0] rfl) hw
        intro retired_52 refused_53 months_54 ones_55 others_56 H locs ls hP hD hS hl hw
        refine lv_iconst (v := 0) hx hb dX10_powers_114 (by decide) ?_
        refine lv_istore_n (lv' := [(3, .int 0), (0, .ref a_m)]) hx hb dX10_powers_115 rfl hl (by decide) rfl (fun ls hl => ?_)
        refine lv_iconst (v := 0) hx hb dX10_powers_116 (by decide) ?_
        refine lv_istore (lv' := [(4, .int 0), (3, .int 0), (0, .ref a_m)]) hx hb dX10_powers_117 hl (by decide) rfl (fun ls hl => ?_)
        obtain ⟨n0, hw⟩ := hw
        refine k_X10_powers_L119 C0  n0 0 0 retired_52 refused_53 months_54 ones_55 others_56 _ _ _ hP hD hS (lv_sub hl [2, 1, 0] rfl) hw
      · replace hw := hw.1 c_8
        refine lv_bipush (v := 15) hx hb dX10_powers_33 (by decide) ?_
        exact mx_iret (retired_4, refused, months_5, ones, others) hx hb hr hlocks rfl hw hK hP hD hS dX10_powers_35
  · replace hw := hw.1 c_2
    refine lv_aload_n hx hb dX10_powers_7 rfl (lv_at hl 0 rfl) ?_
    refine lv_bipush (v := (-2)) hx hb dX10_powers_8 (by decide) ?_
    refine mx_ki (mx_rV (rm := rm_X10_bad) (rest := []) (C := RX10) hx hb hml hown hts (c_X10_bad l D cI cB cZ cP cC a_m a_m_told a_m_kept a_m_isKept a_m_refused a_m_months a_m_heirs a_m_lasts a_m_cares a_m_bestCares a_m_ones a_m_others a_m_bytes a_m_anew a_m_values above below retired manyLine bytesLong tokenAt tokenLong token value refused (-2) _ _ hw) q_166 q_167 q_168 q_5 q_169 hd_X10_bad ⟨(Nat.le_of_ble_eq_true rfl), (Nat.le_of_ble_eq_true rfl)⟩ rfl rfl hK hP hD [0, 2] rfl rfl 10 0 rfl rfl rfl rfl hl.1 rfl (Nat.le_of_ble_eq_true rfl) dX10_powers_10 ⟨(Nat.le_of_ble_eq_true rfl), (Nat.le_of_ble_eq_true rfl)⟩) hP hD hS hA [0, 2] [1, 3, 4, 5] [4, 0, 5, 1, 2, 3] (fun u => ww_X10_powers a_m a_m_told a_m_kept a_m_isKept a_m_refused a_m_months a_m_heirs a_m_lasts a_m_cares a_m_bestCares a_m_ones a_m_others a_m_bytes a_m_anew a_m_values cI cB cZ cP cC above below retired manyLine bytesLong tokenAt tokenLong token value told u months ones others) rfl rfl rfl (by decide) rfl (fun _ => rfl) (fun r_110 refused_111 H locs hw hP hD hS => ?_)
    try dsimp only at hw
    replace hP : va_P D vwCl (ww_X10_powers a_m a_m_told a_m_kept a_m_isKept a_m_refused a_m_months a_m_heirs a_m_lasts a_m_cares a_m_bestCares a_m_ones a_m_others a_m_bytes a_m_anew a_m_values cI cB cZ cP cC above below retired manyLine bytesLong tokenAt tokenLong token value told refused_111 months ones others) H := hP
    replace hD : va_D A (ww_X10_powers a_m a_m_told a_m_kept a_m_isKept a_m_refused a_m_months a_m_heirs a_m_lasts a_m_cares a_m_bestCares a_m_ones a_m_others a_m_bytes a_m_anew a_m_values cI cB cZ cP cC above below retired manyLine bytesLong tokenAt tokenLong token value told refused_111 months ones others) := hD
    exact mx_iret (retired, refused_111, months, ones, others) hx hb hr hlocks rfl hw hK hP hD hS dX10_powers_13
/-! PramStateModel.fraction(JJ)V -/
abbrev ww_X10_fraction (a_m a_m_told a_m_kept a_m_isKept a_m_refused a_m_months a_m_heirs a_m_lasts a_m_cares a_m_bestCares a_m_ones a_m_others a_m_bytes a_m_anew a_m_values : Nat) (cI cB cZ cP cC : ClassId) (above : Int64) (below : Int64) (retired : Int32) (manyLine : Int32) (bytesLong : Int32) (tokenAt : Int32) (tokenLong : Int32) (token : Int32) (value : Int32) : va_W := [(a_m, .inr (10, [.ref a_m_told, .ref a_m_kept, .ref a_m_isKept, .ref a_m_refused, .long above, .long below, .ref a_m_months, .int retired, .ref a_m_heirs, .ref a_m_lasts, .int manyLine, .ref a_m_cares, .ref a_m_bestCares, .ref a_m_ones, .ref a_m_others, .ref a_m_bytes, .int bytesLong, .int tokenAt, .int tokenLong, .int token, .int value, .ref a_m_anew, .ref a_m_values]))]
abbrev qq_X10_fraction (D : va_G) (a_m a_m_told a_m_kept a_m_isKept a_m_refused a_m_months a_m_heirs a_m_lasts a_m_cares a_m_bestCares a_m_ones a_m_others a_m_bytes a_m_anew a_m_values : Nat) (cI cB cZ cP cC : ClassId) (retired : Int32) (manyLine : Int32) (bytesLong : Int32) (tokenAt : Int32) (tokenLong : Int32) (token : Int32) (value : Int32) (Post : Int64 → Int64 → Prop) (A : Nat → Prop) : Array Value → State → Outcome → State → Prop := va_Qv (fun (u : Int64 × Int64) => Post u.1 u.2) (fun (u : Int64 × Int64) t => mxB D (mxTy cI cB cZ cP cC) A (ww_X10_fraction a_m a_m_told a_m_kept a_m_isKept a_m_refused a_m_months a_m_heirs a_m_lasts a_m_cares a_m_bestCares a_m_ones a_m_others a_m_bytes a_m_anew a_m_values cI cB cZ cP cC (u.1) (u.2) retired manyLine bytesLong tokenAt tokenLong token value) t) A
abbrev rm_X10_fraction : Room := { frames := 0, cells := 0, slots := 0, locals := 0 }
theorem hd_X10_fraction : yX10_fraction.cls = RX10 ∧ yX10_fraction.cls ≠ "java/lang/invoke/MethodHandle" ∧ yX10_fraction.cls ≠ "java/lang/invoke/VarHandle" ∧ (parseMethodDescriptor yX10_fraction.desc).map (fun d => d.parameters.length) = some 2 := by decide +kernel
def wp_X10_fraction_L6  (Post : Int64 → Int64 → Prop) (K_31 : Int64 → Int64 → Int64 → Int64 → Int64 → Prop) : Nat → Int64 → Int64 → Int64 → Int64 → Int64 → Int64 → Prop
  | 0, _, _, _, _, _, _ => False
  | n + 1, v1, v3, v5, v7, above, below => (((lg_cmp v7 0) = 0 → K_31 v1 v3 v5 above below) ∧ (¬ (lg_cmp v7 0) = 0 → ((¬ v7 = 0) ∧ (∀ x_3 : Int64, x_3 = v5 - v5 / v7 * v7 → wp_X10_fraction_L6 Post K_31 n v1 v3 v7 x_3 above below))))
set_option maxHeartbeats 4000000 in
set_option maxRecDepth 100000 in
theorem k_X10_fraction_L6 {p : Program} {l : Launch} {e : Env} {s : State} {m : MethodId} {ar : Array Value} {bl : List Frame} {meth : Method} {c : Code} {D : va_G} {A : Nat → Prop} {cI cB cZ cP cC : ClassId} {a_m a_m_told a_m_kept a_m_isKept a_m_refused a_m_months a_m_heirs a_m_lasts a_m_cares a_m_bestCares a_m_ones a_m_others a_m_bytes a_m_anew a_m_values : Nat} {retired : Int32} {manyLine : Int32} {bytesLong : Int32} {tokenAt : Int32} {tokenLong : Int32} {token : Int32} {value : Int32} {Post : Int64 → Int64 → Prop} {K_31 : Int64 → Int64 → Int64 → Int64 → Int64 → Prop} (C0 : mxC p s m ar meth c cX10_fraction RX10 none 11 D (mxTy cI cB cZ cP cC) A)
    (hK_31 : ∀ (v1 : Int64) (v3 : Int64) (v5 : Int64) (above : Int64) (below : Int64) (H : Heap) (locs : List Loc) (ls : Array Slot), va_P D vwCl (ww_X10_fraction a_m a_m_told a_m_kept a_m_isKept a_m_refused a_m_months a_m_heirs a_m_lasts a_m_cares a_m_bestCares a_m_ones a_m_others a_m_bytes a_m_anew a_m_values cI cB cZ cP cC above below retired manyLine bytesLong tokenAt tokenLong token value) H → va_D A (ww_X10_fraction a_m a_m_told a_m_kept a_m_isKept a_m_refused a_m_months a_m_heirs a_m_lasts a_m_cares a_m_bestCares a_m_ones a_m_others a_m_bytes a_m_anew a_m_values cI cB cZ cP cC above below retired manyLine bytesLong tokenAt tokenLong token value) → va_S A s.heap H locs → lv_has ls 11 [(0, .ref a_m), (1, .long v1), (3, .long v3), (5, .long v5)] → K_31 v1 v3 v5 above below → W p l e rm_X10_fraction s m ar bl meth c H locs 0 0 (MQ bl (qq_X10_fraction D a_m a_m_told a_m_kept a_m_isKept a_m_refused a_m_months a_m_heirs a_m_lasts a_m_cares a_m_bestCares a_m_ones a_m_others a_m_bytes a_m_anew a_m_values cI cB cZ cP cC retired manyLine bytesLong tokenAt tokenLong token value Post A) ar s 0 0 A) (F0 m 31 ls [])) :
    ∀ (n : Nat) (v1 : Int64) (v3 : Int64) (v5 : Int64) (v7 : Int64) (above : Int64) (below : Int64) (H : Heap) (locs : List Loc) (ls : Array Slot), va_P D vwCl (ww_X10_fraction a_m a_m_told a_m_kept a_m_isKept a_m_refused a_m_months a_m_heirs a_m_lasts a_m_cares a_m_bestCares a_m_ones a_m_others a_m_bytes a_m_anew a_m_values cI cB cZ cP cC above below retired manyLine bytesLong tokenAt tokenLong token value) H → va_D A (ww_X10_fraction a_m a_m_told a_m_kept a_m_isKept a_m_refused a_m_months a_m_heirs a_m_lasts a_m_cares a_m_bestCares a_m_ones a_m_others a_m_bytes a_m_anew a_m_values cI cB cZ cP cC above below retired manyLine bytesLong tokenAt tokenLong token value) → va_S A s.heap H locs → lv_has ls 11 [(0, .ref a_m), (1, .long v1), (3, .long v3), (5, .long v5), (7, .long v7)] → wp_X10_fraction_L6 Post K_31 n v1 v3 v5 v7 above below → W p l e rm_X10_fraction s m ar bl meth c H locs 0 0 (MQ bl (qq_X10_fraction D a_m a_m_told a_m_kept a_m_isKept a_m_refused a_m_months a_m_heirs a_m_lasts a_m_cares a_m_bestCares a_m_ones a_m_others a_m_bytes a_m_anew a_m_values cI cB cZ cP cC retired manyLine bytesLong tokenAt tokenLong token value Post A) ar s 0 0 A) (F0 m 6 ls []) := by
  obtain ⟨hx, hb, hr, hlocks, hml, hown, hts, hK, hA⟩ := id C0
  intro n
  induction n with
  | zero =>
    intro v1 v3 v5 v7 above below H locs ls hP hD hS hl hw
    exact absurd hw (fun h => h)
  | succ n ih =>
    intro v1 v3 v5 v7 above below H locs ls hP hD hS hl hw
    refine lv_lload hx hb dX10_fraction_6 (lv_at hl 4 rfl) ?_
    refine lv_lconst (v := 0) hx hb dX10_fraction_8 rfl ?_
    refine W.lcmp hx hb dX10_fraction_9 ?_
    refine lv_if_eq (tgt := 31) hx hb dX10_fraction_10 (by decide) (fun c_1 => ?_) (fun c_1 => ?_)
    · replace hw := hw.1 c_1
      exact hK_31 v1 v3 v5 above below _ _ _ hP hD hS (lv_sub hl [0, 1, 2, 3] rfl) hw
    · replace hw := hw.2 c_1
      refine lv_lload hx hb dX10_fraction_13 (lv_at hl 3 rfl) ?_
      refine lv_lload hx hb dX10_fraction_15 (lv_at hl 4 rfl) ?_
      obtain ⟨h_2, hw⟩ := hw
      refine lv_lrem hx hb dX10_fraction_17 h_2 ?_
      refine lv_topl (fun x_3 ex_3 => ?_)
      replace hw := hw x_3 ex_3
      refine lv_lstore (lv' := [(9, .long x_3), (0, .ref a_m), (1, .long v1), (3, .long v3), (5, .long v5), (7, .long v7)]) hx hb dX10_fraction_18 hl (by decide) rfl (fun ls hl => ?_)
      refine lv_lload hx hb dX10_fraction_20 (lv_at hl 5 rfl) ?_
      refine lv_lstore (lv' := [(5, .long v7), (9, .long x_3), (0, .ref a_m), (1, .long v1), (3, .long v3), (7, .long v7)]) hx hb dX10_fraction_22 hl (by decide) rfl (fun ls hl => ?_)
      refine lv_lload hx hb dX10_fraction_24 (lv_at hl 1 rfl) ?_
      refine lv_lstore (lv' := [(7, .long x_3), (5, .long v7), (9, .long x_3), (0, .ref a_m), (1, .long v1), (3, .long v3)]) hx hb dX10_fraction_26 hl (by decide) rfl (fun ls hl => ?_)
      refine lv_goto (tgt := 6) hx hb dX10_fraction_28 (by decide) ?_
      exact ih v1 v3 v7 x_3 above below _ _ _ hP hD hS (lv_sub hl [3, 4, 5, 1, 0] rfl) hw
def wp_X10_fraction (above : Int64) (below : Int64) (v1 : Int64) (v3 : Int64) (Post : Int64 → Int64 → Prop) : Prop :=
  (∃ k_13 : Nat, wp_X10_fraction_L6 Post (fun (v1_4 : Int64) (v3_5 : Int64) (v5_6 : Int64) (above_7 : Int64) (below_8 : Int64) => ((¬ v5_6 = 0) ∧ (∀ x_10 : Int64, x_10 = v1_4 / v5_6 → ((¬ v5_6 = 0) ∧ (∀ x_12 : Int64, x_12 = v3_5 / v5_6 → Post x_10 x_12))))) k_13 v1 v3 v1 v3 above below)
set_option maxHeartbeats 4000000 in
set_option maxRecDepth 100000 in
theorem c_X10_fraction (l : Launch) (D : va_G) (cI cB cZ cP cC : ClassId) (a_m a_m_told a_m_kept a_m_isKept a_m_refused a_m_months a_m_heirs a_m_lasts a_m_cares a_m_bestCares a_m_ones a_m_others a_m_bytes a_m_anew a_m_values : Nat) (above : Int64) (below : Int64) (retired : Int32) (manyLine : Int32) (bytesLong : Int32) (tokenAt : Int32) (tokenLong : Int32) (token : Int32) (value : Int32) (v1 : Int64) (v3 : Int64) (sz : Nat) (Post : Int64 → Int64 → Prop) (hw : wp_X10_fraction above below v1 v3 Post) :
    Met l yX10_fraction (Cond.code yX10_fraction cX10_fraction 11 none :: wsAll) rm_X10_fraction (va_Pc [.ref a_m, .long v1, .long v3] (mxP D (mxTy cI cB cZ cP cC) sz (ww_X10_fraction a_m a_m_told a_m_kept a_m_isKept a_m_refused a_m_months a_m_heirs a_m_lasts a_m_cares a_m_bestCares a_m_ones a_m_others a_m_bytes a_m_anew a_m_values cI cB cZ cP cC above below retired manyLine bytesLong tokenAt tokenLong token value))) (qq_X10_fraction D a_m a_m_told a_m_kept a_m_isKept a_m_refused a_m_months a_m_heirs a_m_lasts a_m_cares a_m_bestCares a_m_ones a_m_others a_m_bytes a_m_anew a_m_values cI cB cZ cP cC retired manyLine bytesLong tokenAt tokenLong token value Post (va_A (ww_X10_fraction a_m a_m_told a_m_kept a_m_isKept a_m_refused a_m_months a_m_heirs a_m_lasts a_m_cares a_m_bestCares a_m_ones a_m_others a_m_bytes a_m_anew a_m_values cI cB cZ cP cC above below retired manyLine bytesLong tokenAt tokenLong token value) sz)) 0 0 (va_A (ww_X10_fraction a_m a_m_told a_m_kept a_m_isKept a_m_refused a_m_months a_m_heirs a_m_lasts a_m_cares a_m_bestCares a_m_ones a_m_others a_m_bytes a_m_anew a_m_values cI cB cZ cP cC above below retired manyLine bytesLong tokenAt tokenLong token value) sz) := by
  refine mx_of (Qc := qq_X10_fraction D a_m a_m_told a_m_kept a_m_isKept a_m_refused a_m_months a_m_heirs a_m_lasts a_m_cares a_m_bestCares a_m_ones a_m_others a_m_bytes a_m_anew a_m_values cI cB cZ cP cC retired manyLine bytesLong tokenAt tokenLong token value Post) (by decide) (Nat.le_of_ble_eq_true rfl) ?_
  intro p e s m bl meth c A ls C0 hP hD hS hl
  replace C0 : mxC p s m [.ref a_m, .long v1, .long v3].toArray meth c cX10_fraction RX10 none 11 D (mxTy cI cB cZ cP cC) A := C0
  obtain ⟨hx, hb, hr, hlocks, hml, hown, hts, hK, hA⟩ := id C0
  replace hl : lv_has ls 11 [(0, .ref a_m), (1, .long v1), (3, .long v3)] := hl
  unfold wp_X10_fraction at hw
  refine lv_lload_n hx hb dX10_fraction_0 rfl (lv_at hl 1 rfl) ?_
  refine lv_lstore (lv' := [(5, .long v1), (0, .ref a_m), (1, .long v1), (3, .long v3)]) hx hb dX10_fraction_1 hl (by decide) rfl (fun ls hl => ?_)
  refine lv_lload_n hx hb dX10_fraction_3 rfl (lv_at hl 3 rfl) ?_
  refine lv_lstore (lv' := [(7, .long v3), (5, .long v1), (0, .ref a_m), (1, .long v1), (3, .long v3)]) hx hb dX10_fraction_4 hl (by decide) rfl (fun ls hl => ?_)
  obtain ⟨n0, hw⟩ := hw
  refine k_X10_fraction_L6 C0 ?_ n0 v1 v3 v1 v3 above below _ _ _ hP hD hS (lv_sub hl [2, 3, 4, 1, 0] rfl) hw
  intro v1_4 v3_5 v5_6 above_7 below_8 H locs ls hP hD hS hl hw
  refine lv_aload_n hx hb dX10_fraction_31 rfl (lv_at hl 0 rfl) ?_
  refine lv_lload_n hx hb dX10_fraction_32 rfl (lv_at hl 1 rfl) ?_
  refine lv_lload hx hb dX10_fraction_33 (lv_at hl 3 rfl) ?_
  obtain ⟨h_9, hw⟩ := hw
  refine lv_ldiv hx hb dX10_fraction_35 h_9 ?_
  refine lv_topl (fun x_10 ex_10 => ?_)
  replace hw := hw x_10 ex_10
  refine mx_put (ci := 10) (C := RX10) (T := TX10) (N := 23) hx hb hown in_wsX100 tyX10 tyX10_ok nmX10 hts hK hP hD hS 0 rfl rfl 4 (by decide) q_883 rfl rfl rfl rfl (Nat.le_of_ble_eq_true rfl) (ww_X10_fraction a_m a_m_told a_m_kept a_m_isKept a_m_refused a_m_months a_m_heirs a_m_lasts a_m_cares a_m_bestCares a_m_ones a_m_others a_m_bytes a_m_anew a_m_values cI cB cZ cP cC x_10 below_8 retired manyLine bytesLong tokenAt tokenLong token value) rfl dX10_fraction_36 (fun H locs hP hD hS => ?_)
  refine lv_aload_n hx hb dX10_fraction_39 rfl (lv_at hl 0 rfl) ?_
  refine lv_lload_n hx hb dX10_fraction_40 rfl (lv_at hl 2 rfl) ?_
  refine lv_lload hx hb dX10_fraction_41 (lv_at hl 3 rfl) ?_
  obtain ⟨h_11, hw⟩ := hw
  refine lv_ldiv hx hb dX10_fraction_43 h_11 ?_
  refine lv_topl (fun x_12 ex_12 => ?_)
  replace hw := hw x_12 ex_12
  refine mx_put (ci := 10) (C := RX10) (T := TX10) (N := 23) hx hb hown in_wsX100 tyX10 tyX10_ok nmX10 hts hK hP hD hS 0 rfl rfl 5 (by decide) q_95 rfl rfl rfl rfl (Nat.le_of_ble_eq_true rfl) (ww_X10_fraction a_m a_m_told a_m_kept a_m_isKept a_m_refused a_m_months a_m_heirs a_m_lasts a_m_cares a_m_bestCares a_m_ones a_m_others a_m_bytes a_m_anew a_m_values cI cB cZ cP cC x_10 x_12 retired manyLine bytesLong tokenAt tokenLong token value) rfl dX10_fraction_44 (fun H locs hP hD hS => ?_)
  exact mx_vret (x_10, x_12) hx hb hr hlocks hw hK hP hD hS dX10_fraction_47
/-! PramStateModel.walks(II)I -/
abbrev ww_X10_walks (a_m a_m_told a_m_kept a_m_isKept a_m_refused a_m_months a_m_heirs a_m_lasts a_m_cares a_m_bestCares a_m_ones a_m_others a_m_bytes a_m_anew a_m_values : Nat) (cI cB cZ cP cC : ClassId) (above : Int64) (below : Int64) (retired : Int32) (manyLine : Int32) (bytesLong : Int32) (tokenAt : Int32) (tokenLong : Int32) (token : Int32) (value : Int32) (told : Nat → Int32) (refused : Nat → Int32) (months : Nat → Int32) : va_W := [(a_m, .inr (10, [.ref a_m_told, .ref a_m_kept, .ref a_m_isKept, .ref a_m_refused, .long above, .long below, .ref a_m_months, .int retired, .ref a_m_heirs, .ref a_m_lasts, .int manyLine, .ref a_m_cares, .ref a_m_bestCares, .ref a_m_ones, .ref a_m_others, .ref a_m_bytes, .int bytesLong, .int tokenAt, .int tokenLong, .int token, .int value, .ref a_m_anew, .ref a_m_values])), (a_m_told, .inl (cI, 190, .inl told)), (a_m_refused, .inl (cI, 3, .inl refused)), (a_m_months, .inl (cI, 6, .inl months))]
abbrev qq_X10_walks (D : va_G) (a_m a_m_told a_m_kept a_m_isKept a_m_refused a_m_months a_m_heirs a_m_lasts a_m_cares a_m_bestCares a_m_ones a_m_others a_m_bytes a_m_anew a_m_values : Nat) (cI cB cZ cP cC : ClassId) (manyLine : Int32) (bytesLong : Int32) (tokenAt : Int32) (tokenLong : Int32) (token : Int32) (value : Int32) (told : Nat → Int32) (Post : Int32 → Int64 → Int64 → Int32 → (Nat → Int32) → (Nat → Int32) → Prop) (A : Nat → Prop) : Array Value → State → Outcome → State → Prop := va_Qi (fun (r : Int32) (u : Int64 × Int64 × Int32 × (Nat → Int32) × (Nat → Int32)) => Post r u.1 u.2.1 u.2.2.1 u.2.2.2.1 u.2.2.2.2) (fun (u : Int64 × Int64 × Int32 × (Nat → Int32) × (Nat → Int32)) t => mxB D (mxTy cI cB cZ cP cC) A (ww_X10_walks a_m a_m_told a_m_kept a_m_isKept a_m_refused a_m_months a_m_heirs a_m_lasts a_m_cares a_m_bestCares a_m_ones a_m_others a_m_bytes a_m_anew a_m_values cI cB cZ cP cC (u.1) (u.2.1) (u.2.2.1) manyLine bytesLong tokenAt tokenLong token value told (u.2.2.2.1) (u.2.2.2.2)) t) A
abbrev rm_X10_walks : Room := { frames := 3, cells := 0, slots := 0, locals := 64 }
theorem hd_X10_walks : yX10_walks.cls = RX10 ∧ yX10_walks.cls ≠ "java/lang/invoke/MethodHandle" ∧ yX10_walks.cls ≠ "java/lang/invoke/VarHandle" ∧ (parseMethodDescriptor yX10_walks.desc).map (fun d => d.parameters.length) = some 2 := by decide +kernel
def wp_X10_walks_J24 (told : Nat → Int32) (Post : Int32 → Int64 → Int64 → Int32 → (Nat → Int32) → (Nat → Int32) → Prop)  (above : Int64) (below : Int64) (retired : Int32) (refused : Nat → Int32) (months : Nat → Int32) : Prop :=
  (wp_X10_bad refused (-2) (fun r_3 refused_4 => Post r_3 above below retired refused_4 months))
set_option maxHeartbeats 4000000 in
set_option maxRecDepth 100000 in
theorem k_X10_walks_J24 {p : Program} {l : Launch} {e : Env} {s : State} {m : MethodId} {ar : Array Value} {bl : List Frame} {meth : Method} {c : Code} {D : va_G} {A : Nat → Prop} {cI cB cZ cP cC : ClassId} {a_m a_m_told a_m_kept a_m_isKept a_m_refused a_m_months a_m_heirs a_m_lasts a_m_cares a_m_bestCares a_m_ones a_m_others a_m_bytes a_m_anew a_m_values : Nat} {manyLine : Int32} {bytesLong : Int32} {tokenAt : Int32} {tokenLong : Int32} {token : Int32} {value : Int32} {told : Nat → Int32} {Post : Int32 → Int64 → Int64 → Int32 → (Nat → Int32) → (Nat → Int32) → Prop} (C0 : mxC p s m ar meth c cX10_walks RX10 (some .int) 9 D (mxTy cI cB cZ cP cC) A) :
    ∀ (above : Int64) (below : Int64) (retired : Int32) (refused : Nat → Int32) (months : Nat → Int32) (H : Heap) (locs : List Loc) (ls : Array Slot), va_P D vwCl (ww_X10_walks a_m a_m_told a_m_kept a_m_isKept a_m_refused a_m_months a_m_heirs a_m_lasts a_m_cares a_m_bestCares a_m_ones a_m_others a_m_bytes a_m_anew a_m_values cI cB cZ cP cC above below retired manyLine bytesLong tokenAt tokenLong token value told refused months) H → va_D A (ww_X10_walks a_m a_m_told a_m_kept a_m_isKept a_m_refused a_m_months a_m_heirs a_m_lasts a_m_cares a_m_bestCares a_m_ones a_m_others a_m_bytes a_m_anew a_m_values cI cB cZ cP cC above below retired manyLine bytesLong tokenAt tokenLong token value told refused months) → va_S A s.heap H locs → lv_has ls 9 [(0, .ref a_m)] → wp_X10_walks_J24 told Post  above below retired refused months → W p l e rm_X10_walks s m ar bl meth c H locs 0 0 (MQ bl (qq_X10_walks D a_m a_m_told a_m_kept a_m_isKept a_m_refused a_m_months a_m_heirs a_m_lasts a_m_cares a_m_bestCares a_m_ones a_m_others a_m_bytes a_m_anew a_m_values cI cB cZ cP cC manyLine bytesLong tokenAt tokenLong token value told Post A) ar s 0 0 A) (F0 m 24 ls []) := by
  obtain ⟨hx, hb, hr, hlocks, hml, hown, hts, hK, hA⟩ := id C0
  intro above below retired refused months H locs ls hP hD hS hl hw
  refine lv_aload_n hx hb dX10_walks_24 rfl (lv_at hl 0 rfl) ?_
  refine lv_bipush (v := (-2)) hx hb dX10_walks_25 (by decide) ?_
  refine mx_ki (mx_rV (rm := rm_X10_bad) (rest := []) (C := RX10) hx hb hml hown hts (c_X10_bad l D cI cB cZ cP cC a_m a_m_told a_m_kept a_m_isKept a_m_refused a_m_months a_m_heirs a_m_lasts a_m_cares a_m_bestCares a_m_ones a_m_others a_m_bytes a_m_anew a_m_values above below retired manyLine bytesLong tokenAt tokenLong token value refused (-2) _ _ hw) q_166 q_167 q_168 q_5 q_169 hd_X10_bad ⟨(Nat.le_of_ble_eq_true rfl), (Nat.le_of_ble_eq_true rfl)⟩ rfl rfl hK hP hD [0, 2] rfl rfl 10 0 rfl rfl rfl rfl hl.1 rfl (Nat.le_of_ble_eq_true rfl) dX10_walks_27 ⟨(Nat.le_of_ble_eq_true rfl), (Nat.le_of_ble_eq_true rfl)⟩) hP hD hS hA [0, 2] [1, 3] [2, 0, 3, 1] (fun u => ww_X10_walks a_m a_m_told a_m_kept a_m_isKept a_m_refused a_m_months a_m_heirs a_m_lasts a_m_cares a_m_bestCares a_m_ones a_m_others a_m_bytes a_m_anew a_m_values cI cB cZ cP cC above below retired manyLine bytesLong tokenAt tokenLong token value told u months) rfl rfl rfl (by decide) rfl (fun _ => rfl) (fun r_3 refused_4 H locs hw hP hD hS => ?_)
  try dsimp only at hw
  replace hP : va_P D vwCl (ww_X10_walks a_m a_m_told a_m_kept a_m_isKept a_m_refused a_m_months a_m_heirs a_m_lasts a_m_cares a_m_bestCares a_m_ones a_m_others a_m_bytes a_m_anew a_m_values cI cB cZ cP cC above below retired manyLine bytesLong tokenAt tokenLong token value told refused_4 months) H := hP
  replace hD : va_D A (ww_X10_walks a_m a_m_told a_m_kept a_m_isKept a_m_refused a_m_months a_m_heirs a_m_lasts a_m_cares a_m_bestCares a_m_ones a_m_others a_m_bytes a_m_anew a_m_values cI cB cZ cP cC above below retired manyLine bytesLong tokenAt tokenLong token value told refused_4 months) := hD
  exact mx_iret (above, below, retired, refused_4, months) hx hb hr hlocks rfl hw hK hP hD hS dX10_walks_30
def wp_X10_walks_L55 (told : Nat → Int32) (Post : Int32 → Int64 → Int64 → Int32 → (Nat → Int32) → (Nat → Int32) → Prop) (K_89 : Int32 → Int64 → Int64 → Int64 → Int64 → Int32 → (Nat → Int32) → (Nat → Int32) → Prop) : Nat → Int32 → Int32 → Int32 → Int64 → Int64 → Int32 → Int64 → Int64 → Int32 → (Nat → Int32) → (Nat → Int32) → Prop
  | 0, _, _, _, _, _, _, _, _, _, _, _ => False
  | n + 1, v1, v2, v3, v4, v6, v8, above, below, retired, refused, months => ((v1 ≤ v8 → K_89 v3 v4 v6 above below retired refused months) ∧ (¬ v1 ≤ v8 → (wp_X10_goMonth told retired months (fun retired_12 months_13 => (∀ x_14 : Int64, x_14 = v4 * ((10 - v2).toInt64) → (∀ x_15 : Int64, x_15 = v6 * 10 → (∀ x_16 : Int32, x_16 = v8 + 1 → wp_X10_walks_L55 told Post K_89 n v1 v2 v3 x_14 x_15 x_16 above below retired_12 refused months_13)))))))
set_option maxHeartbeats 4000000 in
set_option maxRecDepth 100000 in
theorem k_X10_walks_L55 {p : Program} {l : Launch} {e : Env} {s : State} {m : MethodId} {ar : Array Value} {bl : List Frame} {meth : Method} {c : Code} {D : va_G} {A : Nat → Prop} {cI cB cZ cP cC : ClassId} {a_m a_m_told a_m_kept a_m_isKept a_m_refused a_m_months a_m_heirs a_m_lasts a_m_cares a_m_bestCares a_m_ones a_m_others a_m_bytes a_m_anew a_m_values : Nat} {manyLine : Int32} {bytesLong : Int32} {tokenAt : Int32} {tokenLong : Int32} {token : Int32} {value : Int32} {told : Nat → Int32} {Post : Int32 → Int64 → Int64 → Int32 → (Nat → Int32) → (Nat → Int32) → Prop} {K_89 : Int32 → Int64 → Int64 → Int64 → Int64 → Int32 → (Nat → Int32) → (Nat → Int32) → Prop} (C0 : mxC p s m ar meth c cX10_walks RX10 (some .int) 9 D (mxTy cI cB cZ cP cC) A)
    (hK_89 : ∀ (v3 : Int32) (v4 : Int64) (v6 : Int64) (above : Int64) (below : Int64) (retired : Int32) (refused : Nat → Int32) (months : Nat → Int32) (H : Heap) (locs : List Loc) (ls : Array Slot), va_P D vwCl (ww_X10_walks a_m a_m_told a_m_kept a_m_isKept a_m_refused a_m_months a_m_heirs a_m_lasts a_m_cares a_m_bestCares a_m_ones a_m_others a_m_bytes a_m_anew a_m_values cI cB cZ cP cC above below retired manyLine bytesLong tokenAt tokenLong token value told refused months) H → va_D A (ww_X10_walks a_m a_m_told a_m_kept a_m_isKept a_m_refused a_m_months a_m_heirs a_m_lasts a_m_cares a_m_bestCares a_m_ones a_m_others a_m_bytes a_m_anew a_m_values cI cB cZ cP cC above below retired manyLine bytesLong tokenAt tokenLong token value told refused months) → va_S A s.heap H locs → lv_has ls 9 [(0, .ref a_m), (3, .int v3), (4, .long v4), (6, .long v6)] → K_89 v3 v4 v6 above below retired refused months → W p l e rm_X10_walks s m ar bl meth c H locs 0 0 (MQ bl (qq_X10_walks D a_m a_m_told a_m_kept a_m_isKept a_m_refused a_m_months a_m_heirs a_m_lasts a_m_cares a_m_bestCares a_m_ones a_m_others a_m_bytes a_m_anew a_m_values cI cB cZ cP cC manyLine bytesLong tokenAt tokenLong token value told Post A) ar s 0 0 A) (F0 m 89 ls [])) :
    ∀ (n : Nat) (v1 : Int32) (v2 : Int32) (v3 : Int32) (v4 : Int64) (v6 : Int64) (v8 : Int32) (above : Int64) (below : Int64) (retired : Int32) (refused : Nat → Int32) (months : Nat → Int32) (H : Heap) (locs : List Loc) (ls : Array Slot), va_P D vwCl (ww_X10_walks a_m a_m_told a_m_kept a_m_isKept a_m_refused a_m_months a_m_heirs a_m_lasts a_m_cares a_m_bestCares a_m_ones a_m_others a_m_bytes a_m_anew a_m_values cI cB cZ cP cC above below retired manyLine bytesLong tokenAt tokenLong token value told refused months) H → va_D A (ww_X10_walks a_m a_m_told a_m_kept a_m_isKept a_m_refused a_m_months a_m_heirs a_m_lasts a_m_cares a_m_bestCares a_m_ones a_m_others a_m_bytes a_m_anew a_m_values cI cB cZ cP cC above below retired manyLine bytesLong tokenAt tokenLong token value told refused months) → va_S A s.heap H locs → lv_has ls 9 [(0, .ref a_m), (1, .int v1), (2, .int v2), (3, .int v3), (4, .long v4), (6, .long v6), (8, .int v8)] → wp_X10_walks_L55 told Post K_89 n v1 v2 v3 v4 v6 v8 above below retired refused months → W p l e rm_X10_walks s m ar bl meth c H locs 0 0 (MQ bl (qq_X10_walks D a_m a_m_told a_m_kept a_m_isKept a_m_refused a_m_months a_m_heirs a_m_lasts a_m_cares a_m_bestCares a_m_ones a_m_others a_m_bytes a_m_anew a_m_values cI cB cZ cP cC manyLine bytesLong tokenAt tokenLong token value told Post A) ar s 0 0 A) (F0 m 55 ls []) := by
  obtain ⟨hx, hb, hr, hlocks, hml, hown, hts, hK, hA⟩ := id C0
  intro n
  induction n with
  | zero =>
    intro v1 v2 v3 v4 v6 v8 above below retired refused months H locs ls hP hD hS hl hw
    exact absurd hw (fun h => h)
  | succ n ih =>
    intro v1 v2 v3 v4 v6 v8 above below retired refused months H locs ls hP hD hS hl hw
    refine lv_iload hx hb dX10_walks_55 (lv_at hl 6 rfl) ?_
    refine lv_iload_n hx hb dX10_walks_57 rfl (lv_at hl 1 rfl) ?_
    refine lv_icmp_ge (tgt := 89) hx hb dX10_walks_58 (by decide) (fun c_11 => ?_) (fun c_11 => ?_)
    · replace hw := hw.1 c_11
      exact hK_89 v3 v4 v6 above below retired refused months _ _ _ hP hD hS (lv_sub hl [0, 3, 4, 5] rfl) hw
    · replace hw := hw.2 c_11
      refine lv_aload_n hx hb dX10_walks_61 rfl (lv_at hl 0 rfl) ?_
      refine mx_kv (mx_rV (rm := rm_X10_goMonth) (rest := []) (C := RX10) hx hb hml hown hts (c_X10_goMonth l D cI cB cZ cP cC a_m a_m_told a_m_kept a_m_isKept a_m_refused a_m_months a_m_heirs a_m_lasts a_m_cares a_m_bestCares a_m_ones a_m_others a_m_bytes a_m_anew a_m_values above below retired manyLine bytesLong tokenAt tokenLong token value told months _ _ hw) q_441 q_442 q_443 q_5 q_444 hd_X10_goMonth ⟨(Nat.le_of_ble_eq_true rfl), (Nat.le_of_ble_eq_true rfl)⟩ rfl rfl hK hP hD [0, 1, 3] rfl rfl 10 0 rfl rfl rfl rfl hl.1 rfl (Nat.le_of_ble_eq_true rfl) dX10_walks_62 ⟨(Nat.le_of_ble_eq_true rfl), (Nat.le_of_ble_eq_true rfl)⟩) hP hD hS hA [0, 1, 3] [2] [1, 2, 0, 3] (fun u => ww_X10_walks a_m a_m_told a_m_kept a_m_isKept a_m_refused a_m_months a_m_heirs a_m_lasts a_m_cares a_m_bestCares a_m_ones a_m_others a_m_bytes a_m_anew a_m_values cI cB cZ cP cC above below (u.1) manyLine bytesLong tokenAt tokenLong token value told refused (u.2)) rfl rfl rfl (by decide) rfl (fun _ => rfl) (fun u H locs hw hP hD hS => ?_)
      obtain ⟨retired_12, months_13⟩ := u
      try dsimp only at hw
      replace hP : va_P D vwCl (ww_X10_walks a_m a_m_told a_m_kept a_m_isKept a_m_refused a_m_months a_m_heirs a_m_lasts a_m_cares a_m_bestCares a_m_ones a_m_others a_m_bytes a_m_anew a_m_values cI cB cZ cP cC above below retired_12 manyLine bytesLong tokenAt tokenLong token value told refused months_13) H := hP
      replace hD : va_D A (ww_X10_walks a_m a_m_told a_m_kept a_m_isKept a_m_refused a_m_months a_m_heirs a_m_lasts a_m_cares a_m_bestCares a_m_ones a_m_others a_m_bytes a_m_anew a_m_values cI cB cZ cP cC above below retired_12 manyLine bytesLong tokenAt tokenLong token value told refused months_13) := hD
      refine lv_lload hx hb dX10_walks_65 (lv_at hl 4 rfl) ?_
      refine lv_bipush (v := 10) hx hb dX10_walks_67 (by decide) ?_
      refine lv_iload_n hx hb dX10_walks_69 rfl (lv_at hl 2 rfl) ?_
      refine lv_isub hx hb dX10_walks_70 ?_
      refine lv_i2l (v := (10 - v2).toInt64) hx hb dX10_walks_71 rfl ?_
      refine lv_lmul hx hb dX10_walks_72 ?_
      refine lv_topl (fun x_14 ex_14 => ?_)
      replace hw := hw x_14 ex_14
      refine lv_lstore (lv' := [(4, .long x_14), (0, .ref a_m), (1, .int v1), (2, .int v2), (3, .int v3), (6, .long v6), (8, .int v8)]) hx hb dX10_walks_73 hl (by decide) rfl (fun ls hl => ?_)
      refine lv_lload hx hb dX10_walks_75 (lv_at hl 5 rfl) ?_
      refine lv_ldc2 (v := 10) hx hb hown (hts _ q_878) dX10_walks_77 ?_
      refine lv_lmul hx hb dX10_walks_80 ?_
      refine lv_topl (fun x_15 ex_15 => ?_)
      replace hw := hw x_15 ex_15
      refine lv_lstore (lv' := [(6, .long x_15), (4, .long x_14), (0, .ref a_m), (1, .int v1), (2, .int v2), (3, .int v3), (8, .int v8)]) hx hb dX10_walks_81 hl (by decide) rfl (fun ls hl => ?_)
      obtain ⟨x_16, ex_16⟩ : ∃ y : Int32, y = v8 + 1 := ⟨_, rfl⟩
      replace hw := hw x_16 ex_16
      refine lv_iinc (v := x_16) (lv' := [(8, .int x_16), (6, .long x_15), (4, .long x_14), (0, .ref a_m), (1, .int v1), (2, .int v2), (3, .int v3)]) hx hb dX10_walks_83 hl (k := 6) rfl (by rw [ex_16]; rfl) (by decide) rfl (fun ls hl => ?_)
      refine lv_goto (tgt := 55) hx hb dX10_walks_86 (by decide) ?_
      exact ih v1 v2 v3 x_14 x_15 x_16 above below retired_12 refused months_13 _ _ _ hP hD hS (lv_sub hl [3, 4, 5, 6, 2, 1, 0] rfl) hw
def wp_X10_walks_J104 (told : Nat → Int32) (Post : Int32 → Int64 → Int64 → Int32 → (Nat → Int32) → (Nat → Int32) → Prop)  (v6 : Int64) (s0 : Int64) (above : Int64) (below : Int64) (retired : Int32) (refused : Nat → Int32) (months : Nat → Int32) : Prop :=
  (wp_X10_fraction above below s0 v6 (fun above_27 below_28 => Post 1 above_27 below_28 retired refused months))
set_option maxHeartbeats 4000000 in
set_option maxRecDepth 100000 in
theorem k_X10_walks_J104 {p : Program} {l : Launch} {e : Env} {s : State} {m : MethodId} {ar : Array Value} {bl : List Frame} {meth : Method} {c : Code} {D : va_G} {A : Nat → Prop} {cI cB cZ cP cC : ClassId} {a_m a_m_told a_m_kept a_m_isKept a_m_refused a_m_months a_m_heirs a_m_lasts a_m_cares a_m_bestCares a_m_ones a_m_others a_m_bytes a_m_anew a_m_values : Nat} {manyLine : Int32} {bytesLong : Int32} {tokenAt : Int32} {tokenLong : Int32} {token : Int32} {value : Int32} {told : Nat → Int32} {Post : Int32 → Int64 → Int64 → Int32 → (Nat → Int32) → (Nat → Int32) → Prop} (C0 : mxC p s m ar meth c cX10_walks RX10 (some .int) 9 D (mxTy cI cB cZ cP cC) A) :
    ∀ (v6 : Int64) (s0 : Int64) (above : Int64) (below : Int64) (retired : Int32) (refused : Nat → Int32) (months : Nat → Int32) (H : Heap) (locs : List Loc) (ls : Array Slot), va_P D vwCl (ww_X10_walks a_m a_m_told a_m_kept a_m_isKept a_m_refused a_m_months a_m_heirs a_m_lasts a_m_cares a_m_bestCares a_m_ones a_m_others a_m_bytes a_m_anew a_m_values cI cB cZ cP cC above below retired manyLine bytesLong tokenAt tokenLong token value told refused months) H → va_D A (ww_X10_walks a_m a_m_told a_m_kept a_m_isKept a_m_refused a_m_months a_m_heirs a_m_lasts a_m_cares a_m_bestCares a_m_ones a_m_others a_m_bytes a_m_anew a_m_values cI cB cZ cP cC above below retired manyLine bytesLong tokenAt tokenLong token value told refused months) → va_S A s.heap H locs → lv_has ls 9 [(6, .long v6)] → wp_X10_walks_J104 told Post  v6 s0 above below retired refused months → W p l e rm_X10_walks s m ar bl meth c H locs 0 0 (MQ bl (qq_X10_walks D a_m a_m_told a_m_kept a_m_isKept a_m_refused a_m_months a_m_heirs a_m_lasts a_m_cares a_m_bestCares a_m_ones a_m_others a_m_bytes a_m_anew a_m_values cI cB cZ cP cC manyLine bytesLong tokenAt tokenLong token value told Post A) ar s 0 0 A) (F0 m 104 ls [.long s0, .ref a_m]) := by
  obtain ⟨hx, hb, hr, hlocks, hml, hown, hts, hK, hA⟩ := id C0
  intro v6 s0 above below retired refused months H locs ls hP hD hS hl hw
  refine lv_lload hx hb dX10_walks_104 (lv_at hl 0 rfl) ?_
  refine mx_kv (mx_rV (rm := rm_X10_fraction) (rest := []) (C := RX10) hx hb hml hown hts (c_X10_fraction l D cI cB cZ cP cC a_m a_m_told a_m_kept a_m_isKept a_m_refused a_m_months a_m_heirs a_m_lasts a_m_cares a_m_bestCares a_m_ones a_m_others a_m_bytes a_m_anew a_m_values above below retired manyLine bytesLong tokenAt tokenLong token value s0 v6 _ _ hw) q_879 q_880 q_881 q_5 q_882 hd_X10_fraction ⟨(Nat.le_of_ble_eq_true rfl), (Nat.le_of_ble_eq_true rfl)⟩ rfl rfl hK hP hD [0] rfl rfl 10 0 rfl rfl rfl rfl hl.1 rfl (Nat.le_of_ble_eq_true rfl) dX10_walks_106 ⟨(Nat.le_of_ble_eq_true rfl), (Nat.le_of_ble_eq_true rfl)⟩) hP hD hS hA [0] [1, 2, 3] [3, 0, 1, 2] (fun u => ww_X10_walks a_m a_m_told a_m_kept a_m_isKept a_m_refused a_m_months a_m_heirs a_m_lasts a_m_cares a_m_bestCares a_m_ones a_m_others a_m_bytes a_m_anew a_m_values cI cB cZ cP cC (u.1) (u.2) retired manyLine bytesLong tokenAt tokenLong token value told refused months) rfl rfl rfl (by decide) rfl (fun _ => rfl) (fun u H locs hw hP hD hS => ?_)
  obtain ⟨above_27, below_28⟩ := u
  try dsimp only at hw
  replace hP : va_P D vwCl (ww_X10_walks a_m a_m_told a_m_kept a_m_isKept a_m_refused a_m_months a_m_heirs a_m_lasts a_m_cares a_m_bestCares a_m_ones a_m_others a_m_bytes a_m_anew a_m_values cI cB cZ cP cC above_27 below_28 retired manyLine bytesLong tokenAt tokenLong token value told refused months) H := hP
  replace hD : va_D A (ww_X10_walks a_m a_m_told a_m_kept a_m_isKept a_m_refused a_m_months a_m_heirs a_m_lasts a_m_cares a_m_bestCares a_m_ones a_m_others a_m_bytes a_m_anew a_m_values cI cB cZ cP cC above_27 below_28 retired manyLine bytesLong tokenAt tokenLong token value told refused months) := hD
  refine lv_iconst (v := 1) hx hb dX10_walks_109 (by decide) ?_
  exact mx_iret (above_27, below_28, retired, refused, months) hx hb hr hlocks rfl hw hK hP hD hS dX10_walks_110
def wp_X10_walks (told : Nat → Int32) (above : Int64) (below : Int64) (retired : Int32) (refused : Nat → Int32) (months : Nat → Int32) (v1 : Int32) (v2 : Int32) (Post : Int32 → Int64 → Int64 → Int32 → (Nat → Int32) → (Nat → Int32) → Prop) : Prop :=
  (wp_X10_in (v1.toInt64) 0 9 (fun r_1 => ((r_1 = 0 → (wp_X10_walks_J24 told Post above below retired refused months)) ∧ (¬ r_1 = 0 → (wp_X10_in (v2.toInt64) 0 10 (fun r_5 => ((r_5 = 0 → (wp_X10_walks_J24 told Post above below retired refused months)) ∧ (¬ r_5 = 0 → (wp_X10_reignsNow told retired months (fun r_7 retired_8 months_9 => ((r_7 = (-1) → (wp_X10_no refused (fun r_30 refused_31 => Post r_30 above below retired_8 refused_31 months_9))) ∧ (¬ r_7 = (-1) → (∃ k_29 : Nat, wp_X10_walks_L55 told Post (fun (v3_17 : Int32) (v4_18 : Int64) (v6_19 : Int64) (above_20 : Int64) (below_21 : Int64) (retired_22 : Int32) (refused_23 : Nat → Int32) (months_24 : Nat → Int32) => (wp_X10_reigns retired_22 told months_24 (fun r_25 => ((r_25 = v3_17 → (wp_X10_walks_J104 told Post v6_19 v4_18 above_20 below_21 retired_22 refused_23 months_24)) ∧ (¬ r_25 = v3_17 → (wp_X10_walks_J104 told Post v6_19 0 above_20 below_21 retired_22 refused_23 months_24)))))) k_29 v1 v2 r_7 1 1 0 above below retired_8 refused months_9)))))))))))))
set_option maxHeartbeats 4000000 in
set_option maxRecDepth 100000 in
theorem c_X10_walks (l : Launch) (D : va_G) (cI cB cZ cP cC : ClassId) (a_m a_m_told a_m_kept a_m_isKept a_m_refused a_m_months a_m_heirs a_m_lasts a_m_cares a_m_bestCares a_m_ones a_m_others a_m_bytes a_m_anew a_m_values : Nat) (above : Int64) (below : Int64) (retired : Int32) (manyLine : Int32) (bytesLong : Int32) (tokenAt : Int32) (tokenLong : Int32) (token : Int32) (value : Int32) (told : Nat → Int32) (refused : Nat → Int32) (months : Nat → Int32) (v1 : Int32) (v2 : Int32) (sz : Nat) (Post : Int32 → Int64 → Int64 → Int32 → (Nat → Int32) → (Nat → Int32) → Prop) (hw : wp_X10_walks told above below retired refused months v1 v2 Post) :
    Met l yX10_walks (Cond.code yX10_walks cX10_walks 9 (some .int) :: wsAll) rm_X10_walks (va_Pc [.ref a_m, .int v1, .int v2] (mxP D (mxTy cI cB cZ cP cC) sz (ww_X10_walks a_m a_m_told a_m_kept a_m_isKept a_m_refused a_m_months a_m_heirs a_m_lasts a_m_cares a_m_bestCares a_m_ones a_m_others a_m_bytes a_m_anew a_m_values cI cB cZ cP cC above below retired manyLine bytesLong tokenAt tokenLong token value told refused months))) (qq_X10_walks D a_m a_m_told a_m_kept a_m_isKept a_m_refused a_m_months a_m_heirs a_m_lasts a_m_cares a_m_bestCares a_m_ones a_m_others a_m_bytes a_m_anew a_m_values cI cB cZ cP cC manyLine bytesLong tokenAt tokenLong token value told Post (va_A (ww_X10_walks a_m a_m_told a_m_kept a_m_isKept a_m_refused a_m_months a_m_heirs a_m_lasts a_m_cares a_m_bestCares a_m_ones a_m_others a_m_bytes a_m_anew a_m_values cI cB cZ cP cC above below retired manyLine bytesLong tokenAt tokenLong token value told refused months) sz)) 0 0 (va_A (ww_X10_walks a_m a_m_told a_m_kept a_m_isKept a_m_refused a_m_months a_m_heirs a_m_lasts a_m_cares a_m_bestCares a_m_ones a_m_others a_m_bytes a_m_anew a_m_values cI cB cZ cP cC above below retired manyLine bytesLong tokenAt tokenLong token value told refused months) sz) := by
  refine mx_of (Qc := qq_X10_walks D a_m a_m_told a_m_kept a_m_isKept a_m_refused a_m_months a_m_heirs a_m_lasts a_m_cares a_m_bestCares a_m_ones a_m_others a_m_bytes a_m_anew a_m_values cI cB cZ cP cC manyLine bytesLong tokenAt tokenLong token value told Post) (by decide) (Nat.le_of_ble_eq_true rfl) ?_
  intro p e s m bl meth c A ls C0 hP hD hS hl
  replace C0 : mxC p s m [.ref a_m, .int v1, .int v2].toArray meth c cX10_walks RX10 (some .int) 9 D (mxTy cI cB cZ cP cC) A := C0
  obtain ⟨hx, hb, hr, hlocks, hml, hown, hts, hK, hA⟩ := id C0
  replace hl : lv_has ls 9 [(0, .ref a_m), (1, .int v1), (2, .int v2)] := hl
  unfold wp_X10_walks at hw
  refine lv_iload_n hx hb dX10_walks_0 rfl (lv_at hl 1 rfl) ?_
  refine lv_i2l (v := v1.toInt64) hx hb dX10_walks_1 rfl ?_
  refine lv_lconst (v := 0) hx hb dX10_walks_2 rfl ?_
  refine lv_ldc2 (v := 9) hx hb hown (hts _ q_190) dX10_walks_3 ?_
  refine mx_ki (mx_rS (rm := rm_X10_in) (rest := []) hx hb hml hown hts (c_X10_in l D cI cB cZ cP cC (v1.toInt64) 0 9 _ _ hw) q_163 q_164 q_5 q_165 hd_X10_in ⟨(Nat.le_of_ble_eq_true rfl), (Nat.le_of_ble_eq_true rfl)⟩ rfl rfl hK hP hD [] rfl rfl rfl hl.1 rfl (Nat.le_of_ble_eq_true rfl) dX10_walks_6 ⟨(Nat.le_of_ble_eq_true rfl), (Nat.le_of_ble_eq_true rfl)⟩) hP hD hS hA [] [0, 1, 2, 3] [0, 1, 2, 3] (fun _ => ww_X10_walks a_m a_m_told a_m_kept a_m_isKept a_m_refused a_m_months a_m_heirs a_m_lasts a_m_cares a_m_bestCares a_m_ones a_m_others a_m_bytes a_m_anew a_m_values cI cB cZ cP cC above below retired manyLine bytesLong tokenAt tokenLong token value told refused months) rfl rfl rfl (by decide) rfl (fun _ => rfl) (fun r_1 u H locs hw hP hD hS => ?_)
  try dsimp only at hw
  replace hP : va_P D vwCl (ww_X10_walks a_m a_m_told a_m_kept a_m_isKept a_m_refused a_m_months a_m_heirs a_m_lasts a_m_cares a_m_bestCares a_m_ones a_m_others a_m_bytes a_m_anew a_m_values cI cB cZ cP cC above below retired manyLine bytesLong tokenAt tokenLong token value told refused months) H := hP
  replace hD : va_D A (ww_X10_walks a_m a_m_told a_m_kept a_m_isKept a_m_refused a_m_months a_m_heirs a_m_lasts a_m_cares a_m_bestCares a_m_ones a_m_others a_m_bytes a_m_anew a_m_values cI cB cZ cP cC above below retired manyLine bytesLong tokenAt tokenLong token value told refused months) := hD
  refine lv_if_eq (tgt := 24) hx hb dX10_walks_9 (by decide) (fun c_2 => ?_) (fun c_2 => ?_)
  · replace hw := hw.1 c_2
    exact k_X10_walks_J24 C0  above below retired refused months _ _ _ hP hD hS (lv_sub hl [0] rfl) hw
  · replace hw := hw.2 c_2
    refine lv_iload_n hx hb dX10_walks_12 rfl (lv_at hl 2 rfl) ?_
    refine lv_i2l (v := v2.toInt64) hx hb dX10_walks_13 rfl ?_
    refine lv_lconst (v := 0) hx hb dX10_walks_14 rfl ?_
    refine lv_ldc2 (v := 10) hx hb hown (hts _ q_878) dX10_walks_15 ?_
    refine mx_ki (mx_rS (rm := rm_X10_in) (rest := []) hx hb hml hown hts (c_X10_in l D cI cB cZ cP cC (v2.toInt64) 0 10 _ _ hw) q_163 q_164 q_5 q_165 hd_X10_in ⟨(Nat.le_of_ble_eq_true rfl), (Nat.le_of_ble_eq_true rfl)⟩ rfl rfl hK hP hD [] rfl rfl rfl hl.1 rfl (Nat.le_of_ble_eq_true rfl) dX10_walks_18 ⟨(Nat.le_of_ble_eq_true rfl), (Nat.le_of_ble_eq_true rfl)⟩) hP hD hS hA [] [0, 1, 2, 3] [0, 1, 2, 3] (fun _ => ww_X10_walks a_m a_m_told a_m_kept a_m_isKept a_m_refused a_m_months a_m_heirs a_m_lasts a_m_cares a_m_bestCares a_m_ones a_m_others a_m_bytes a_m_anew a_m_values cI cB cZ cP cC above below retired manyLine bytesLong tokenAt tokenLong token value told refused months) rfl rfl rfl (by decide) rfl (fun _ => rfl) (fun r_5 u H locs hw hP hD hS => ?_)
    try dsimp only at hw
    replace hP : va_P D vwCl (ww_X10_walks a_m a_m_told a_m_kept a_m_isKept a_m_refused a_m_months a_m_heirs a_m_lasts a_m_cares a_m_bestCares a_m_ones a_m_others a_m_bytes a_m_anew a_m_values cI cB cZ cP cC above below retired manyLine bytesLong tokenAt tokenLong token value told refused months) H := hP
    replace hD : va_D A (ww_X10_walks a_m a_m_told a_m_kept a_m_isKept a_m_refused a_m_months a_m_heirs a_m_lasts a_m_cares a_m_bestCares a_m_ones a_m_others a_m_bytes a_m_anew a_m_values cI cB cZ cP cC above below retired manyLine bytesLong tokenAt tokenLong token value told refused months) := hD
    refine lv_if_ne (tgt := 31) hx hb dX10_walks_21 (by decide) (fun c_6 => ?_) (fun c_6 => ?_)
    · replace hw := hw.2 c_6
      refine lv_aload_n hx hb dX10_walks_31 rfl (lv_at hl 0 rfl) ?_
      refine mx_ki (mx_rV (rm := rm_X10_reignsNow) (rest := []) (C := RX10) hx hb hml hown hts (c_X10_reignsNow l D cI cB cZ cP cC a_m a_m_told a_m_kept a_m_isKept a_m_refused a_m_months a_m_heirs a_m_lasts a_m_cares a_m_bestCares a_m_ones a_m_others a_m_bytes a_m_anew a_m_values above below retired manyLine bytesLong tokenAt tokenLong token value told months _ _ hw) q_657 q_658 q_659 q_5 q_660 hd_X10_reignsNow ⟨(Nat.le_of_ble_eq_true rfl), (Nat.le_of_ble_eq_true rfl)⟩ rfl rfl hK hP hD [0, 1, 3] rfl rfl 10 0 rfl rfl rfl rfl hl.1 rfl (Nat.le_of_ble_eq_true rfl) dX10_walks_32 ⟨(Nat.le_of_ble_eq_true rfl), (Nat.le_of_ble_eq_true rfl)⟩) hP hD hS hA [0, 1, 3] [2] [1, 2, 0, 3] (fun u => ww_X10_walks a_m a_m_told a_m_kept a_m_isKept a_m_refused a_m_months a_m_heirs a_m_lasts a_m_cares a_m_bestCares a_m_ones a_m_others a_m_bytes a_m_anew a_m_values cI cB cZ cP cC above below (u.1) manyLine bytesLong tokenAt tokenLong token value told refused (u.2)) rfl rfl rfl (by decide) rfl (fun _ => rfl) (fun r_7 u H locs hw hP hD hS => ?_)
      obtain ⟨retired_8, months_9⟩ := u
      try dsimp only at hw
      replace hP : va_P D vwCl (ww_X10_walks a_m a_m_told a_m_kept a_m_isKept a_m_refused a_m_months a_m_heirs a_m_lasts a_m_cares a_m_bestCares a_m_ones a_m_others a_m_bytes a_m_anew a_m_values cI cB cZ cP cC above below retired_8 manyLine bytesLong tokenAt tokenLong token value told refused months_9) H := hP
      replace hD : va_D A (ww_X10_walks a_m a_m_told a_m_kept a_m_isKept a_m_refused a_m_months a_m_heirs a_m_lasts a_m_cares a_m_bestCares a_m_ones a_m_others a_m_bytes a_m_anew a_m_values cI cB cZ cP cC above below retired_8 manyLine bytesLong tokenAt tokenLong token value told refused months_9) := hD
      refine lv_istore_n (lv' := [(3, .int r_7), (0, .ref a_m), (1, .int v1), (2, .int v2)]) hx hb dX10_walks_35 rfl hl (by decide) rfl (fun ls hl => ?_)
      refine lv_iload_n hx hb dX10_walks_36 rfl (lv_at hl 0 rfl) ?_
      refine lv_iconst (v := (-1)) hx hb dX10_walks_37 (by decide) ?_
      refine lv_icmp_ne (tgt := 46) hx hb dX10_walks_38 (by decide) (fun c_10 => ?_) (fun c_10 => ?_)
      · replace hw := hw.2 c_10
        refine lv_lconst (v := 1) hx hb dX10_walks_46 rfl ?_
        refine lv_lstore (lv' := [(4, .long 1), (3, .int r_7), (0, .ref a_m), (1, .int v1), (2, .int v2)]) hx hb dX10_walks_47 hl (by decide) rfl (fun ls hl => ?_)
        refine lv_lconst (v := 1) hx hb dX10_walks_49 rfl ?_
        refine lv_lstore (lv' := [(6, .long 1), (4, .long 1), (3, .int r_7), (0, .ref a_m), (1, .int v1), (2, .int v2)]) hx hb dX10_walks_50 hl (by decide) rfl (fun ls hl => ?_)
        refine lv_iconst (v := 0) hx hb dX10_walks_52 (by decide) ?_
        refine lv_istore (lv' := [(8, .int 0), (6, .long 1), (4, .long 1), (3, .int r_7), (0, .ref a_m), (1, .int v1), (2, .int v2)]) hx hb dX10_walks_53 hl (by decide) rfl (fun ls hl => ?_)
        obtain ⟨n0, hw⟩ := hw
        refine k_X10_walks_L55 C0 ?_ n0 v1 v2 r_7 1 1 0 above below retired_8 refused months_9 _ _ _ hP hD hS (lv_sub hl [4, 5, 6, 3, 2, 1, 0] rfl) hw
        intro v3_17 v4_18 v6_19 above_20 below_21 retired_22 refused_23 months_24 H locs ls hP hD hS hl hw
        refine lv_aload_n hx hb dX10_walks_89 rfl (lv_at hl 0 rfl) ?_
        refine lv_aload_n hx hb dX10_walks_90 rfl (lv_at hl 0 rfl) ?_
        refine mx_ki (mx_rV (rm := rm_X10_reigns) (rest := [.ref a_m]) (C := RX10) hx hb hml hown hts (c_X10_reigns l D cI cB cZ cP cC a_m a_m_told a_m_kept a_m_isKept a_m_refused a_m_months a_m_heirs a_m_lasts a_m_cares a_m_bestCares a_m_ones a_m_others a_m_bytes a_m_anew a_m_values above_20 below_21 retired_22 manyLine bytesLong tokenAt tokenLong token value told months_24 _ _ hw) q_455 q_456 q_457 q_5 q_458 hd_X10_reigns ⟨(Nat.le_of_ble_eq_true rfl), (Nat.le_of_ble_eq_true rfl)⟩ rfl rfl hK hP hD [0, 1, 3] rfl rfl 10 0 rfl rfl rfl rfl hl.1 rfl (Nat.le_of_ble_eq_true rfl) dX10_walks_91 ⟨(Nat.le_of_ble_eq_true rfl), (Nat.le_of_ble_eq_true rfl)⟩) hP hD hS hA [0, 1, 3] [2] [1, 2, 0, 3] (fun _ => ww_X10_walks a_m a_m_told a_m_kept a_m_isKept a_m_refused a_m_months a_m_heirs a_m_lasts a_m_cares a_m_bestCares a_m_ones a_m_others a_m_bytes a_m_anew a_m_values cI cB cZ cP cC above_20 below_21 retired_22 manyLine bytesLong tokenAt tokenLong token value told refused_23 months_24) rfl rfl rfl (by decide) rfl (fun _ => rfl) (fun r_25 u H locs hw hP hD hS => ?_)
        try dsimp only at hw
        replace hP : va_P D vwCl (ww_X10_walks a_m a_m_told a_m_kept a_m_isKept a_m_refused a_m_months a_m_heirs a_m_lasts a_m_cares a_m_bestCares a_m_ones a_m_others a_m_bytes a_m_anew a_m_values cI cB cZ cP cC above_20 below_21 retired_22 manyLine bytesLong tokenAt tokenLong token value told refused_23 months_24) H := hP
        replace hD : va_D A (ww_X10_walks a_m a_m_told a_m_kept a_m_isKept a_m_refused a_m_months a_m_heirs a_m_lasts a_m_cares a_m_bestCares a_m_ones a_m_others a_m_bytes a_m_anew a_m_values cI cB cZ cP cC above_20 below_21 retired_22 manyLine bytesLong tokenAt tokenLong token value told refused_23 months_24) := hD
        refine lv_iload_n hx hb dX10_walks_94 rfl (lv_at hl 1 rfl) ?_
        refine lv_icmp_ne (tgt := 103) hx hb dX10_walks_95 (by decide) (fun c_26 => ?_) (fun c_26 => ?_)
        · replace hw := hw.2 c_26
          refine lv_lconst (v := 0) hx hb dX10_walks_103 rfl ?_
          exact k_X10_walks_J104 C0  v6_19 0 above_20 below_21 retired_22 refused_23 months_24 _ _ _ hP hD hS (lv_sub hl [3] rfl) hw
        · replace hw := hw.1 c_26
          refine lv_lload hx hb dX10_walks_98 (lv_at hl 2 rfl) ?_
          refine lv_goto (tgt := 104) hx hb dX10_walks_100 (by decide) ?_
          exact k_X10_walks_J104 C0  v6_19 v4_18 above_20 below_21 retired_22 refused_23 months_24 _ _ _ hP hD hS (lv_sub hl [3] rfl) hw
      · replace hw := hw.1 c_10
        refine lv_aload_n hx hb dX10_walks_41 rfl (lv_at hl 1 rfl) ?_
        refine mx_ki (mx_rV (rm := rm_X10_no) (rest := []) (C := RX10) hx hb hml hown hts (c_X10_no l D cI cB cZ cP cC a_m a_m_told a_m_kept a_m_isKept a_m_refused a_m_months a_m_heirs a_m_lasts a_m_cares a_m_bestCares a_m_ones a_m_others a_m_bytes a_m_anew a_m_values above below retired_8 manyLine bytesLong tokenAt tokenLong token value refused _ _ hw) q_498 q_499 q_500 q_5 q_501 hd_X10_no ⟨(Nat.le_of_ble_eq_true rfl), (Nat.le_of_ble_eq_true rfl)⟩ rfl rfl hK hP hD [0, 2] rfl rfl 10 0 rfl rfl rfl rfl hl.1 rfl (Nat.le_of_ble_eq_true rfl) dX10_walks_42 ⟨(Nat.le_of_ble_eq_true rfl), (Nat.le_of_ble_eq_true rfl)⟩) hP hD hS hA [0, 2] [1, 3] [2, 0, 3, 1] (fun u => ww_X10_walks a_m a_m_told a_m_kept a_m_isKept a_m_refused a_m_months a_m_heirs a_m_lasts a_m_cares a_m_bestCares a_m_ones a_m_others a_m_bytes a_m_anew a_m_values cI cB cZ cP cC above below retired_8 manyLine bytesLong tokenAt tokenLong token value told u months_9) rfl rfl rfl (by decide) rfl (fun _ => rfl) (fun r_30 refused_31 H locs hw hP hD hS => ?_)
        try dsimp only at hw
        replace hP : va_P D vwCl (ww_X10_walks a_m a_m_told a_m_kept a_m_isKept a_m_refused a_m_months a_m_heirs a_m_lasts a_m_cares a_m_bestCares a_m_ones a_m_others a_m_bytes a_m_anew a_m_values cI cB cZ cP cC above below retired_8 manyLine bytesLong tokenAt tokenLong token value told refused_31 months_9) H := hP
        replace hD : va_D A (ww_X10_walks a_m a_m_told a_m_kept a_m_isKept a_m_refused a_m_months a_m_heirs a_m_lasts a_m_cares a_m_bestCares a_m_ones a_m_others a_m_bytes a_m_anew a_m_values cI cB cZ cP cC above below retired_8 manyLine bytesLong tokenAt tokenLong token value told refused_31 months_9) := hD
        exact mx_iret (above, below, retired_8, refused_31, months_9) hx hb hr hlocks rfl hw hK hP hD hS dX10_walks_45
    · replace hw := hw.1 c_6
      exact k_X10_walks_J24 C0  above below retired refused months _ _ _ hP hD hS (lv_sub hl [0] rfl) hw
/-! PramStateModel.dynasties(II)I -/
abbrev ww_X10_dynasties (a_m a_m_told a_m_kept a_m_isKept a_m_refused a_m_months a_m_heirs a_m_lasts a_m_cares a_m_bestCares a_m_ones a_m_others a_m_bytes a_m_anew a_m_values : Nat) (cI cB cZ cP cC : ClassId) (above : Int64) (below : Int64) (retired : Int32) (manyLine : Int32) (bytesLong : Int32) (tokenAt : Int32) (tokenLong : Int32) (token : Int32) (value : Int32) (told : Nat → Int32) (refused : Nat → Int32) (months : Nat → Int32) : va_W := [(a_m, .inr (10, [.ref a_m_told, .ref a_m_kept, .ref a_m_isKept, .ref a_m_refused, .long above, .long below, .ref a_m_months, .int retired, .ref a_m_heirs, .ref a_m_lasts, .int manyLine, .ref a_m_cares, .ref a_m_bestCares, .ref a_m_ones, .ref a_m_others, .ref a_m_bytes, .int bytesLong, .int tokenAt, .int tokenLong, .int token, .int value, .ref a_m_anew, .ref a_m_values])), (a_m_told, .inl (cI, 190, .inl told)), (a_m_refused, .inl (cI, 3, .inl refused)), (a_m_months, .inl (cI, 6, .inl months))]
abbrev qq_X10_dynasties (D : va_G) (a_m a_m_told a_m_kept a_m_isKept a_m_refused a_m_months a_m_heirs a_m_lasts a_m_cares a_m_bestCares a_m_ones a_m_others a_m_bytes a_m_anew a_m_values : Nat) (cI cB cZ cP cC : ClassId) (above : Int64) (below : Int64) (manyLine : Int32) (bytesLong : Int32) (tokenAt : Int32) (tokenLong : Int32) (token : Int32) (value : Int32) (told : Nat → Int32) (Post : Int32 → Int32 → (Nat → Int32) → (Nat → Int32) → Prop) (A : Nat → Prop) : Array Value → State → Outcome → State → Prop := va_Qi (fun (r : Int32) (u : Int32 × (Nat → Int32) × (Nat → Int32)) => Post r u.1 u.2.1 u.2.2) (fun (u : Int32 × (Nat → Int32) × (Nat → Int32)) t => mxB D (mxTy cI cB cZ cP cC) A (ww_X10_dynasties a_m a_m_told a_m_kept a_m_isKept a_m_refused a_m_months a_m_heirs a_m_lasts a_m_cares a_m_bestCares a_m_ones a_m_others a_m_bytes a_m_anew a_m_values cI cB cZ cP cC above below (u.1) manyLine bytesLong tokenAt tokenLong token value told (u.2.1) (u.2.2)) t) A
abbrev rm_X10_dynasties : Room := { frames := 2, cells := 0, slots := 0, locals := 44 }
theorem hd_X10_dynasties : yX10_dynasties.cls = RX10 ∧ yX10_dynasties.cls ≠ "java/lang/invoke/MethodHandle" ∧ yX10_dynasties.cls ≠ "java/lang/invoke/VarHandle" ∧ (parseMethodDescriptor yX10_dynasties.desc).map (fun d => d.parameters.length) = some 2 := by decide +kernel
def wp_X10_dynasties_J24 (told : Nat → Int32) (Post : Int32 → Int32 → (Nat → Int32) → (Nat → Int32) → Prop)  (retired : Int32) (refused : Nat → Int32) (months : Nat → Int32) : Prop :=
  (wp_X10_bad refused (-2) (fun r_3 refused_4 => Post r_3 retired refused_4 months))
set_option maxHeartbeats 4000000 in
set_option maxRecDepth 100000 in
theorem k_X10_dynasties_J24 {p : Program} {l : Launch} {e : Env} {s : State} {m : MethodId} {ar : Array Value} {bl : List Frame} {meth : Method} {c : Code} {D : va_G} {A : Nat → Prop} {cI cB cZ cP cC : ClassId} {a_m a_m_told a_m_kept a_m_isKept a_m_refused a_m_months a_m_heirs a_m_lasts a_m_cares a_m_bestCares a_m_ones a_m_others a_m_bytes a_m_anew a_m_values : Nat} {above : Int64} {below : Int64} {manyLine : Int32} {bytesLong : Int32} {tokenAt : Int32} {tokenLong : Int32} {token : Int32} {value : Int32} {told : Nat → Int32} {Post : Int32 → Int32 → (Nat → Int32) → (Nat → Int32) → Prop} (C0 : mxC p s m ar meth c cX10_dynasties RX10 (some .int) 8 D (mxTy cI cB cZ cP cC) A) :
    ∀ (retired : Int32) (refused : Nat → Int32) (months : Nat → Int32) (H : Heap) (locs : List Loc) (ls : Array Slot), va_P D vwCl (ww_X10_dynasties a_m a_m_told a_m_kept a_m_isKept a_m_refused a_m_months a_m_heirs a_m_lasts a_m_cares a_m_bestCares a_m_ones a_m_others a_m_bytes a_m_anew a_m_values cI cB cZ cP cC above below retired manyLine bytesLong tokenAt tokenLong token value told refused months) H → va_D A (ww_X10_dynasties a_m a_m_told a_m_kept a_m_isKept a_m_refused a_m_months a_m_heirs a_m_lasts a_m_cares a_m_bestCares a_m_ones a_m_others a_m_bytes a_m_anew a_m_values cI cB cZ cP cC above below retired manyLine bytesLong tokenAt tokenLong token value told refused months) → va_S A s.heap H locs → lv_has ls 8 [(0, .ref a_m)] → wp_X10_dynasties_J24 told Post  retired refused months → W p l e rm_X10_dynasties s m ar bl meth c H locs 0 0 (MQ bl (qq_X10_dynasties D a_m a_m_told a_m_kept a_m_isKept a_m_refused a_m_months a_m_heirs a_m_lasts a_m_cares a_m_bestCares a_m_ones a_m_others a_m_bytes a_m_anew a_m_values cI cB cZ cP cC above below manyLine bytesLong tokenAt tokenLong token value told Post A) ar s 0 0 A) (F0 m 24 ls []) := by
  obtain ⟨hx, hb, hr, hlocks, hml, hown, hts, hK, hA⟩ := id C0
  intro retired refused months H locs ls hP hD hS hl hw
  refine lv_aload_n hx hb dX10_dynasties_24 rfl (lv_at hl 0 rfl) ?_
  refine lv_bipush (v := (-2)) hx hb dX10_dynasties_25 (by decide) ?_
  refine mx_ki (mx_rV (rm := rm_X10_bad) (rest := []) (C := RX10) hx hb hml hown hts (c_X10_bad l D cI cB cZ cP cC a_m a_m_told a_m_kept a_m_isKept a_m_refused a_m_months a_m_heirs a_m_lasts a_m_cares a_m_bestCares a_m_ones a_m_others a_m_bytes a_m_anew a_m_values above below retired manyLine bytesLong tokenAt tokenLong token value refused (-2) _ _ hw) q_166 q_167 q_168 q_5 q_169 hd_X10_bad ⟨(Nat.le_of_ble_eq_true rfl), (Nat.le_of_ble_eq_true rfl)⟩ rfl rfl hK hP hD [0, 2] rfl rfl 10 0 rfl rfl rfl rfl hl.1 rfl (Nat.le_of_ble_eq_true rfl) dX10_dynasties_27 ⟨(Nat.le_of_ble_eq_true rfl), (Nat.le_of_ble_eq_true rfl)⟩) hP hD hS hA [0, 2] [1, 3] [2, 0, 3, 1] (fun u => ww_X10_dynasties a_m a_m_told a_m_kept a_m_isKept a_m_refused a_m_months a_m_heirs a_m_lasts a_m_cares a_m_bestCares a_m_ones a_m_others a_m_bytes a_m_anew a_m_values cI cB cZ cP cC above below retired manyLine bytesLong tokenAt tokenLong token value told u months) rfl rfl rfl (by decide) rfl (fun _ => rfl) (fun r_3 refused_4 H locs hw hP hD hS => ?_)
  try dsimp only at hw
  replace hP : va_P D vwCl (ww_X10_dynasties a_m a_m_told a_m_kept a_m_isKept a_m_refused a_m_months a_m_heirs a_m_lasts a_m_cares a_m_bestCares a_m_ones a_m_others a_m_bytes a_m_anew a_m_values cI cB cZ cP cC above below retired manyLine bytesLong tokenAt tokenLong token value told refused_4 months) H := hP
  replace hD : va_D A (ww_X10_dynasties a_m a_m_told a_m_kept a_m_isKept a_m_refused a_m_months a_m_heirs a_m_lasts a_m_cares a_m_bestCares a_m_ones a_m_others a_m_bytes a_m_anew a_m_values cI cB cZ cP cC above below retired manyLine bytesLong tokenAt tokenLong token value told refused_4 months) := hD
  exact mx_iret (retired, refused_4, months) hx hb hr hlocks rfl hw hK hP hD hS dX10_dynasties_30
def wp_X10_dynasties_L58 (told : Nat → Int32) (Post : Int32 → Int32 → (Nat → Int32) → (Nat → Int32) → Prop) (K_104 : Int32 → Int64 → Int32 → Int32 → Int32 → (Nat → Int32) → (Nat → Int32) → Prop) : Nat → Int32 → Int64 → Int32 → Int32 → Int32 → Int32 → (Nat → Int32) → (Nat → Int32) → Prop
  | 0, _, _, _, _, _, _, _, _ => False
  | n + 1, v2, v3, v5, v6, v7, retired, refused, months => (wp_X10_many told (fun r_11 => ((r_11 ≤ v7 → K_104 v2 v3 v5 v6 retired refused months) ∧ (¬ r_11 ≤ v7 → (∀ x_13 : Int64, x_13 = ((v3 * 1103515245) + 12345) - ((v3 * 1103515245) + 12345) / 2147483648 * 2147483648 → (∀ x_14 : Int32, x_14 = ((x_13 / 65536) - (x_13 / 65536) / 36 * 36).toInt32 → (vp_in v7 6 ∧ (∀ f_16 : Nat → Int32, f_16 = upd months v7.toNatClampNeg x_14 → (∀ x_17 : Int32, x_17 = v7 + 1 → wp_X10_dynasties_L58 told Post K_104 n v2 x_13 v5 v6 x_17 retired refused f_16)))))))))
set_option maxHeartbeats 4000000 in
set_option maxRecDepth 100000 in
theorem k_X10_dynasties_L58 {p : Program} {l : Launch} {e : Env} {s : State} {m : MethodId} {ar : Array Value} {bl : List Frame} {meth : Method} {c : Code} {D : va_G} {A : Nat → Prop} {cI cB cZ cP cC : ClassId} {a_m a_m_told a_m_kept a_m_isKept a_m_refused a_m_months a_m_heirs a_m_lasts a_m_cares a_m_bestCares a_m_ones a_m_others a_m_bytes a_m_anew a_m_values : Nat} {above : Int64} {below : Int64} {manyLine : Int32} {bytesLong : Int32} {tokenAt : Int32} {tokenLong : Int32} {token : Int32} {value : Int32} {told : Nat → Int32} {Post : Int32 → Int32 → (Nat → Int32) → (Nat → Int32) → Prop} {K_104 : Int32 → Int64 → Int32 → Int32 → Int32 → (Nat → Int32) → (Nat → Int32) → Prop} (C0 : mxC p s m ar meth c cX10_dynasties RX10 (some .int) 8 D (mxTy cI cB cZ cP cC) A)
    (hK_104 : ∀ (v2 : Int32) (v3 : Int64) (v5 : Int32) (v6 : Int32) (retired : Int32) (refused : Nat → Int32) (months : Nat → Int32) (H : Heap) (locs : List Loc) (ls : Array Slot), va_P D vwCl (ww_X10_dynasties a_m a_m_told a_m_kept a_m_isKept a_m_refused a_m_months a_m_heirs a_m_lasts a_m_cares a_m_bestCares a_m_ones a_m_others a_m_bytes a_m_anew a_m_values cI cB cZ cP cC above below retired manyLine bytesLong tokenAt tokenLong token value told refused months) H → va_D A (ww_X10_dynasties a_m a_m_told a_m_kept a_m_isKept a_m_refused a_m_months a_m_heirs a_m_lasts a_m_cares a_m_bestCares a_m_ones a_m_others a_m_bytes a_m_anew a_m_values cI cB cZ cP cC above below retired manyLine bytesLong tokenAt tokenLong token value told refused months) → va_S A s.heap H locs → lv_has ls 8 [(0, .ref a_m), (2, .int v2), (3, .long v3), (5, .int v5), (6, .int v6)] → K_104 v2 v3 v5 v6 retired refused months → W p l e rm_X10_dynasties s m ar bl meth c H locs 0 0 (MQ bl (qq_X10_dynasties D a_m a_m_told a_m_kept a_m_isKept a_m_refused a_m_months a_m_heirs a_m_lasts a_m_cares a_m_bestCares a_m_ones a_m_others a_m_bytes a_m_anew a_m_values cI cB cZ cP cC above below manyLine bytesLong tokenAt tokenLong token value told Post A) ar s 0 0 A) (F0 m 104 ls [])) :
    ∀ (n : Nat) (v2 : Int32) (v3 : Int64) (v5 : Int32) (v6 : Int32) (v7 : Int32) (retired : Int32) (refused : Nat → Int32) (months : Nat → Int32) (H : Heap) (locs : List Loc) (ls : Array Slot), va_P D vwCl (ww_X10_dynasties a_m a_m_told a_m_kept a_m_isKept a_m_refused a_m_months a_m_heirs a_m_lasts a_m_cares a_m_bestCares a_m_ones a_m_others a_m_bytes a_m_anew a_m_values cI cB cZ cP cC above below retired manyLine bytesLong tokenAt tokenLong token value told refused months) H → va_D A (ww_X10_dynasties a_m a_m_told a_m_kept a_m_isKept a_m_refused a_m_months a_m_heirs a_m_lasts a_m_cares a_m_bestCares a_m_ones a_m_others a_m_bytes a_m_anew a_m_values cI cB cZ cP cC above below retired manyLine bytesLong tokenAt tokenLong token value told refused months) → va_S A s.heap H locs → lv_has ls 8 [(0, .ref a_m), (2, .int v2), (3, .long v3), (5, .int v5), (6, .int v6), (7, .int v7)] → wp_X10_dynasties_L58 told Post K_104 n v2 v3 v5 v6 v7 retired refused months → W p l e rm_X10_dynasties s m ar bl meth c H locs 0 0 (MQ bl (qq_X10_dynasties D a_m a_m_told a_m_kept a_m_isKept a_m_refused a_m_months a_m_heirs a_m_lasts a_m_cares a_m_bestCares a_m_ones a_m_others a_m_bytes a_m_anew a_m_values cI cB cZ cP cC above below manyLine bytesLong tokenAt tokenLong token value told Post A) ar s 0 0 A) (F0 m 58 ls []) := by
  obtain ⟨hx, hb, hr, hlocks, hml, hown, hts, hK, hA⟩ := id C0
  intro n
  induction n with
  | zero =>
    intro v2 v3 v5 v6 v7 retired refused months H locs ls hP hD hS hl hw
    exact absurd hw (fun h => h)
  | succ n ih =>
    intro v2 v3 v5 v6 v7 retired refused months H locs ls hP hD hS hl hw
    refine lv_iload hx hb dX10_dynasties_58 (lv_at hl 5 rfl) ?_
    refine lv_aload_n hx hb dX10_dynasties_60 rfl (lv_at hl 0 rfl) ?_
    refine mx_ki (mx_rV (rm := rm_X10_many) (rest := [.int v7]) (C := RX10) hx hb hml hown hts (c_X10_many l D cI cB cZ cP cC a_m a_m_told a_m_kept a_m_isKept a_m_refused a_m_months a_m_heirs a_m_lasts a_m_cares a_m_bestCares a_m_ones a_m_others a_m_bytes a_m_anew a_m_values above below retired manyLine bytesLong tokenAt tokenLong token value told _ _ hw) q_132 q_133 q_134 q_5 q_135 hd_X10_many ⟨(Nat.le_of_ble_eq_true rfl), (Nat.le_of_ble_eq_true rfl)⟩ rfl rfl hK hP hD [0, 1] rfl rfl 10 0 rfl rfl rfl rfl hl.1 rfl (Nat.le_of_ble_eq_true rfl) dX10_dynasties_61 ⟨(Nat.le_of_ble_eq_true rfl), (Nat.le_of_ble_eq_true rfl)⟩) hP hD hS hA [0, 1] [2, 3] [2, 3, 0, 1] (fun _ => ww_X10_dynasties a_m a_m_told a_m_kept a_m_isKept a_m_refused a_m_months a_m_heirs a_m_lasts a_m_cares a_m_bestCares a_m_ones a_m_others a_m_bytes a_m_anew a_m_values cI cB cZ cP cC above below retired manyLine bytesLong tokenAt tokenLong token value told refused months) rfl rfl rfl (by decide) rfl (fun _ => rfl) (fun r_11 u H locs hw hP hD hS => ?_)
    try dsimp only at hw
    replace hP : va_P D vwCl (ww_X10_dynasties a_m a_m_told a_m_kept a_m_isKept a_m_refused a_m_months a_m_heirs a_m_lasts a_m_cares a_m_bestCares a_m_ones a_m_others a_m_bytes a_m_anew a_m_values cI cB cZ cP cC above below retired manyLine bytesLong tokenAt tokenLong token value told refused months) H := hP
    replace hD : va_D A (ww_X10_dynasties a_m a_m_told a_m_kept a_m_isKept a_m_refused a_m_months a_m_heirs a_m_lasts a_m_cares a_m_bestCares a_m_ones a_m_others a_m_bytes a_m_anew a_m_values cI cB cZ cP cC above below retired manyLine bytesLong tokenAt tokenLong token value told refused months) := hD
    refine lv_icmp_ge (tgt := 104) hx hb dX10_dynasties_64 (by decide) (fun c_12 => ?_) (fun c_12 => ?_)
    · replace hw := hw.1 c_12
      exact hK_104 v2 v3 v5 v6 retired refused months _ _ _ hP hD hS (lv_sub hl [0, 1, 2, 3, 4] rfl) hw
    · replace hw := hw.2 c_12
      refine lv_lload_n hx hb dX10_dynasties_67 rfl (lv_at hl 2 rfl) ?_
      refine lv_ldc2 (v := 1103515245) hx hb hown (hts _ q_899) dX10_dynasties_68 ?_
      refine lv_lmul hx hb dX10_dynasties_71 ?_
      refine lv_ldc2 (v := 12345) hx hb hown (hts _ q_900) dX10_dynasties_72 ?_
      refine lv_ladd hx hb dX10_dynasties_75 ?_
      refine lv_ldc2 (v := 2147483648) hx hb hown (hts _ q_901) dX10_dynasties_76 ?_
      refine lv_lrem hx hb dX10_dynasties_79 (by decide) ?_
      refine lv_topl (fun x_13 ex_13 => ?_)
      replace hw := hw x_13 ex_13
      refine lv_lstore_n (lv' := [(3, .long x_13), (0, .ref a_m), (2, .int v2), (5, .int v5), (6, .int v6), (7, .int v7)]) hx hb dX10_dynasties_80 rfl hl (by decide) rfl (fun ls hl => ?_)
      refine lv_aload_n hx hb dX10_dynasties_81 rfl (lv_at hl 1 rfl) ?_
      refine mx_get (ci := 10) (C := RX10) (T := TX10) (N := 23) hx hb hown in_wsX100 hts hK hP 0 rfl rfl 6 (by decide) q_96 rfl (v := .ref a_m_months) rfl dX10_dynasties_82 ?_
      refine lv_iload hx hb dX10_dynasties_85 (lv_at hl 5 rfl) ?_
      refine lv_lload_n hx hb dX10_dynasties_87 rfl (lv_at hl 0 rfl) ?_
      refine lv_ldc2 (v := 65536) hx hb hown (hts _ q_902) dX10_dynasties_88 ?_
      refine lv_ldiv hx hb dX10_dynasties_91 (by decide) ?_
      refine lv_ldc2 (v := 36) hx hb hown (hts _ q_903) dX10_dynasties_92 ?_
      refine lv_lrem hx hb dX10_dynasties_95 (by decide) ?_
      refine lv_l2i (v := ((x_13 / 65536) - (x_13 / 65536) / 36 * 36).toInt32) hx hb dX10_dynasties_96 rfl ?_
      refine lv_topi (fun x_14 ex_14 => ?_)
      replace hw := hw x_14 ex_14
      obtain ⟨h_15, hw⟩ := hw
      obtain ⟨f_16, ef_16⟩ : ∃ y : Nat → Int32, y = upd months v7.toNatClampNeg x_14 := ⟨_, rfl⟩
      replace hw := hw f_16 ef_16
      refine mx_iast hx hb hK hP hD hS 3 0 rfl rfl h_15 f_16 ef_16 (ww_X10_dynasties a_m a_m_told a_m_kept a_m_isKept a_m_refused a_m_months a_m_heirs a_m_lasts a_m_cares a_m_bestCares a_m_ones a_m_others a_m_bytes a_m_anew a_m_values cI cB cZ cP cC above below retired manyLine bytesLong tokenAt tokenLong token value told refused f_16) rfl dX10_dynasties_97 (fun H locs hP hD hS => ?_)
      obtain ⟨x_17, ex_17⟩ : ∃ y : Int32, y = v7 + 1 := ⟨_, rfl⟩
      replace hw := hw x_17 ex_17
      refine lv_iinc (v := x_17) (lv' := [(7, .int x_17), (3, .long x_13), (0, .ref a_m), (2, .int v2), (5, .int v5), (6, .int v6)]) hx hb dX10_dynasties_98 hl (k := 5) rfl (by rw [ex_17]; rfl) (by decide) rfl (fun ls hl => ?_)
      refine lv_goto (tgt := 58) hx hb dX10_dynasties_101 (by decide) ?_
      exact ih v2 x_13 v5 v6 x_17 retired refused f_16 _ _ _ hP hD hS (lv_sub hl [2, 3, 1, 4, 5, 0] rfl) hw
def wp_X10_dynasties_L40 (told : Nat → Int32) (Post : Int32 → Int32 → (Nat → Int32) → (Nat → Int32) → Prop)  : Nat → Int32 → Int64 → Int32 → Int32 → Int32 → (Nat → Int32) → (Nat → Int32) → Prop
  | 0, _, _, _, _, _, _, _ => False
  | n + 1, v2, v3, v5, v6, retired, refused, months => ((v2 ≤ v6 → Post v5 retired refused months) ∧ (¬ v2 ≤ v6 → (wp_X10_layHand told retired months (fun retired_9 months_10 => (∃ k_30 : Nat, wp_X10_dynasties_L58 told Post (fun (v2_18 : Int32) (v3_19 : Int64) (v5_20 : Int32) (v6_21 : Int32) (retired_22 : Int32) (refused_23 : Nat → Int32) (months_24 : Nat → Int32) => (wp_X10_goMonth told retired_22 months_24 (fun retired_25 months_26 => (wp_X10_reigns retired_25 told months_26 (fun r_27 => (∀ x_28 : Int32, x_28 = v5_20 + (r_27 + 1) → (∀ x_29 : Int32, x_29 = v6_21 + 1 → wp_X10_dynasties_L40 told Post  n v2_18 v3_19 x_28 x_29 retired_25 refused_23 months_26))))))) k_30 v2 v3 v5 v6 0 0 refused months_10)))))
set_option maxHeartbeats 4000000 in
set_option maxRecDepth 100000 in
theorem k_X10_dynasties_L40 {p : Program} {l : Launch} {e : Env} {s : State} {m : MethodId} {ar : Array Value} {bl : List Frame} {meth : Method} {c : Code} {D : va_G} {A : Nat → Prop} {cI cB cZ cP cC : ClassId} {a_m a_m_told a_m_kept a_m_isKept a_m_refused a_m_months a_m_heirs a_m_lasts a_m_cares a_m_bestCares a_m_ones a_m_others a_m_bytes a_m_anew a_m_values : Nat} {above : Int64} {below : Int64} {manyLine : Int32} {bytesLong : Int32} {tokenAt : Int32} {tokenLong : Int32} {token : Int32} {value : Int32} {told : Nat → Int32} {Post : Int32 → Int32 → (Nat → Int32) → (Nat → Int32) → Prop} (C0 : mxC p s m ar meth c cX10_dynasties RX10 (some .int) 8 D (mxTy cI cB cZ cP cC) A) :
    ∀ (n : Nat) (v2 : Int32) (v3 : Int64) (v5 : Int32) (v6 : Int32) (retired : Int32) (refused : Nat → Int32) (months : Nat → Int32) (H : Heap) (locs : List Loc) (ls : Array Slot), va_P D vwCl (ww_X10_dynasties a_m a_m_told a_m_kept a_m_isKept a_m_refused a_m_months a_m_heirs a_m_lasts a_m_cares a_m_bestCares a_m_ones a_m_others a_m_bytes a_m_anew a_m_values cI cB cZ cP cC above below retired manyLine bytesLong tokenAt tokenLong token value told refused months) H → va_D A (ww_X10_dynasties a_m a_m_told a_m_kept a_m_isKept a_m_refused a_m_months a_m_heirs a_m_lasts a_m_cares a_m_bestCares a_m_ones a_m_others a_m_bytes a_m_anew a_m_values cI cB cZ cP cC above below retired manyLine bytesLong tokenAt tokenLong token value told refused months) → va_S A s.heap H locs → lv_has ls 8 [(0, .ref a_m), (2, .int v2), (3, .long v3), (5, .int v5), (6, .int v6)] → wp_X10_dynasties_L40 told Post  n v2 v3 v5 v6 retired refused months → W p l e rm_X10_dynasties s m ar bl meth c H locs 0 0 (MQ bl (qq_X10_dynasties D a_m a_m_told a_m_kept a_m_isKept a_m_refused a_m_months a_m_heirs a_m_lasts a_m_cares a_m_bestCares a_m_ones a_m_others a_m_bytes a_m_anew a_m_values cI cB cZ cP cC above below manyLine bytesLong tokenAt tokenLong token value told Post A) ar s 0 0 A) (F0 m 40 ls []) := by
  obtain ⟨hx, hb, hr, hlocks, hml, hown, hts, hK, hA⟩ := id C0
  intro n
  induction n with
  | zero =>
    intro v2 v3 v5 v6 retired refused months H locs ls hP hD hS hl hw
    exact absurd hw (fun h => h)
  | succ n ih =>
    intro v2 v3 v5 v6 retired refused months H locs ls hP hD hS hl hw
    refine lv_iload hx hb dX10_dynasties_40 (lv_at hl 4 rfl) ?_
    refine lv_iload_n hx hb dX10_dynasties_42 rfl (lv_at hl 1 rfl) ?_
    refine lv_icmp_ge (tgt := 125) hx hb dX10_dynasties_43 (by decide) (fun c_8 => ?_) (fun c_8 => ?_)
    · replace hw := hw.1 c_8
      refine lv_iload hx hb dX10_dynasties_125 (lv_at hl 3 rfl) ?_
      exact mx_iret (retired, refused, months) hx hb hr hlocks rfl hw hK hP hD hS dX10_dynasties_127
    · replace hw := hw.2 c_8
      refine lv_aload_n hx hb dX10_dynasties_46 rfl (lv_at hl 0 rfl) ?_
      refine mx_kv (mx_rV (rm := rm_X10_layHand) (rest := []) (C := RX10) hx hb hml hown hts (c_X10_layHand l D cI cB cZ cP cC a_m a_m_told a_m_kept a_m_isKept a_m_refused a_m_months a_m_heirs a_m_lasts a_m_cares a_m_bestCares a_m_ones a_m_others a_m_bytes a_m_anew a_m_values above below retired manyLine bytesLong tokenAt tokenLong token value told months _ _ hw) q_437 q_438 q_439 q_5 q_440 hd_X10_layHand ⟨(Nat.le_of_ble_eq_true rfl), (Nat.le_of_ble_eq_true rfl)⟩ rfl rfl hK hP hD [0, 1, 3] rfl rfl 10 0 rfl rfl rfl rfl hl.1 rfl (Nat.le_of_ble_eq_true rfl) dX10_dynasties_47 ⟨(Nat.le_of_ble_eq_true rfl), (Nat.le_of_ble_eq_true rfl)⟩) hP hD hS hA [0, 1, 3] [2] [1, 2, 0, 3] (fun u => ww_X10_dynasties a_m a_m_told a_m_kept a_m_isKept a_m_refused a_m_months a_m_heirs a_m_lasts a_m_cares a_m_bestCares a_m_ones a_m_others a_m_bytes a_m_anew a_m_values cI cB cZ cP cC above below (u.1) manyLine bytesLong tokenAt tokenLong token value told refused (u.2)) rfl rfl rfl (by decide) rfl (fun _ => rfl) (fun u H locs hw hP hD hS => ?_)
      obtain ⟨retired_9, months_10⟩ := u
      try dsimp only at hw
      replace hP : va_P D vwCl (ww_X10_dynasties a_m a_m_told a_m_kept a_m_isKept a_m_refused a_m_months a_m_heirs a_m_lasts a_m_cares a_m_bestCares a_m_ones a_m_others a_m_bytes a_m_anew a_m_values cI cB cZ cP cC above below retired_9 manyLine bytesLong tokenAt tokenLong token value told refused months_10) H := hP
      replace hD : va_D A (ww_X10_dynasties a_m a_m_told a_m_kept a_m_isKept a_m_refused a_m_months a_m_heirs a_m_lasts a_m_cares a_m_bestCares a_m_ones a_m_others a_m_bytes a_m_anew a_m_values cI cB cZ cP cC above below retired_9 manyLine bytesLong tokenAt tokenLong token value told refused months_10) := hD
      refine lv_aload_n hx hb dX10_dynasties_50 rfl (lv_at hl 0 rfl) ?_
      refine lv_iconst (v := 0) hx hb dX10_dynasties_51 (by decide) ?_
      refine mx_put (ci := 10) (C := RX10) (T := TX10) (N := 23) hx hb hown in_wsX100 tyX10 tyX10_ok nmX10 hts hK hP hD hS 0 rfl rfl 7 (by decide) q_432 rfl rfl rfl rfl (Nat.le_of_ble_eq_true rfl) (ww_X10_dynasties a_m a_m_told a_m_kept a_m_isKept a_m_refused a_m_months a_m_heirs a_m_lasts a_m_cares a_m_bestCares a_m_ones a_m_others a_m_bytes a_m_anew a_m_values cI cB cZ cP cC above below 0 manyLine bytesLong tokenAt tokenLong token value told refused months_10) rfl dX10_dynasties_52 (fun H locs hP hD hS => ?_)
      refine lv_iconst (v := 0) hx hb dX10_dynasties_55 (by decide) ?_
      refine lv_istore (lv' := [(7, .int 0), (0, .ref a_m), (2, .int v2), (3, .long v3), (5, .int v5), (6, .int v6)]) hx hb dX10_dynasties_56 hl (by decide) rfl (fun ls hl => ?_)
      obtain ⟨n0, hw⟩ := hw
      refine k_X10_dynasties_L58 C0 ?_ n0 v2 v3 v5 v6 0 0 refused months_10 _ _ _ hP hD hS (lv_sub hl [1, 2, 3, 4, 5, 0] rfl) hw
      intro v2_18 v3_19 v5_20 v6_21 retired_22 refused_23 months_24 H locs ls hP hD hS hl hw
      refine lv_aload_n hx hb dX10_dynasties_104 rfl (lv_at hl 0 rfl) ?_
      refine mx_kv (mx_rV (rm := rm_X10_goMonth) (rest := []) (C := RX10) hx hb hml hown hts (c_X10_goMonth l D cI cB cZ cP cC a_m a_m_told a_m_kept a_m_isKept a_m_refused a_m_months a_m_heirs a_m_lasts a_m_cares a_m_bestCares a_m_ones a_m_others a_m_bytes a_m_anew a_m_values above below retired_22 manyLine bytesLong tokenAt tokenLong token value told months_24 _ _ hw) q_441 q_442 q_443 q_5 q_444 hd_X10_goMonth ⟨(Nat.le_of_ble_eq_true rfl), (Nat.le_of_ble_eq_true rfl)⟩ rfl rfl hK hP hD [0, 1, 3] rfl rfl 10 0 rfl rfl rfl rfl hl.1 rfl (Nat.le_of_ble_eq_true rfl) dX10_dynasties_105 ⟨(Nat.le_of_ble_eq_true rfl), (Nat.le_of_ble_eq_true rfl)⟩) hP hD hS hA [0, 1, 3] [2] [1, 2, 0, 3] (fun u => ww_X10_dynasties a_m a_m_told a_m_kept a_m_isKept a_m_refused a_m_months a_m_heirs a_m_lasts a_m_cares a_m_bestCares a_m_ones a_m_others a_m_bytes a_m_anew a_m_values cI cB cZ cP cC above below (u.1) manyLine bytesLong tokenAt tokenLong token value told refused_23 (u.2)) rfl rfl rfl (by decide) rfl (fun _ => rfl) (fun u H locs hw hP hD hS => ?_)
      obtain ⟨retired_25, months_26⟩ := u
      try dsimp only at hw
      replace hP : va_P D vwCl (ww_X10_dynasties a_m a_m_told a_m_kept a_m_isKept a_m_refused a_m_months a_m_heirs a_m_lasts a_m_cares a_m_bestCares a_m_ones a_m_others a_m_bytes a_m_anew a_m_values cI cB cZ cP cC above below retired_25 manyLine bytesLong tokenAt tokenLong token value told refused_23 months_26) H := hP
      replace hD : va_D A (ww_X10_dynasties a_m a_m_told a_m_kept a_m_isKept a_m_refused a_m_months a_m_heirs a_m_lasts a_m_cares a_m_bestCares a_m_ones a_m_others a_m_bytes a_m_anew a_m_values cI cB cZ cP cC above below retired_25 manyLine bytesLong tokenAt tokenLong token value told refused_23 months_26) := hD
      refine lv_iload hx hb dX10_dynasties_108 (lv_at hl 3 rfl) ?_
      refine lv_aload_n hx hb dX10_dynasties_110 rfl (lv_at hl 0 rfl) ?_
      refine mx_ki (mx_rV (rm := rm_X10_reigns) (rest := [.int v5_20]) (C := RX10) hx hb hml hown hts (c_X10_reigns l D cI cB cZ cP cC a_m a_m_told a_m_kept a_m_isKept a_m_refused a_m_months a_m_heirs a_m_lasts a_m_cares a_m_bestCares a_m_ones a_m_others a_m_bytes a_m_anew a_m_values above below retired_25 manyLine bytesLong tokenAt tokenLong token value told months_26 _ _ hw) q_455 q_456 q_457 q_5 q_458 hd_X10_reigns ⟨(Nat.le_of_ble_eq_true rfl), (Nat.le_of_ble_eq_true rfl)⟩ rfl rfl hK hP hD [0, 1, 3] rfl rfl 10 0 rfl rfl rfl rfl hl.1 rfl (Nat.le_of_ble_eq_true rfl) dX10_dynasties_111 ⟨(Nat.le_of_ble_eq_true rfl), (Nat.le_of_ble_eq_true rfl)⟩) hP hD hS hA [0, 1, 3] [2] [1, 2, 0, 3] (fun _ => ww_X10_dynasties a_m a_m_told a_m_kept a_m_isKept a_m_refused a_m_months a_m_heirs a_m_lasts a_m_cares a_m_bestCares a_m_ones a_m_others a_m_bytes a_m_anew a_m_values cI cB cZ cP cC above below retired_25 manyLine bytesLong tokenAt tokenLong token value told refused_23 months_26) rfl rfl rfl (by decide) rfl (fun _ => rfl) (fun r_27 u H locs hw hP hD hS => ?_)
      try dsimp only at hw
      replace hP : va_P D vwCl (ww_X10_dynasties a_m a_m_told a_m_kept a_m_isKept a_m_refused a_m_months a_m_heirs a_m_lasts a_m_cares a_m_bestCares a_m_ones a_m_others a_m_bytes a_m_anew a_m_values cI cB cZ cP cC above below retired_25 manyLine bytesLong tokenAt tokenLong token value told refused_23 months_26) H := hP
      replace hD : va_D A (ww_X10_dynasties a_m a_m_told a_m_kept a_m_isKept a_m_refused a_m_months a_m_heirs a_m_lasts a_m_cares a_m_bestCares a_m_ones a_m_others a_m_bytes a_m_anew a_m_values cI cB cZ cP cC above below retired_25 manyLine bytesLong tokenAt tokenLong token value told refused_23 months_26) := hD
      refine lv_iconst (v := 1) hx hb dX10_dynasties_114 (by decide) ?_
      refine lv_iadd hx hb dX10_dynasties_115 ?_
      refine lv_iadd hx hb dX10_dynasties_116 ?_
      refine lv_topi (fun x_28 ex_28 => ?_)
      replace hw := hw x_28 ex_28
      refine lv_istore (lv' := [(5, .int x_28), (0, .ref a_m), (2, .int v2_18), (3, .long v3_19), (6, .int v6_21)]) hx hb dX10_dynasties_117 hl (by decide) rfl (fun ls hl => ?_)
      obtain ⟨x_29, ex_29⟩ : ∃ y : Int32, y = v6_21 + 1 := ⟨_, rfl⟩
      replace hw := hw x_29 ex_29
      refine lv_iinc (v := x_29) (lv' := [(6, .int x_29), (5, .int x_28), (0, .ref a_m), (2, .int v2_18), (3, .long v3_19)]) hx hb dX10_dynasties_119 hl (k := 4) rfl (by rw [ex_29]; rfl) (by decide) rfl (fun ls hl => ?_)
      refine lv_goto (tgt := 40) hx hb dX10_dynasties_122 (by decide) ?_
      exact ih v2_18 v3_19 x_28 x_29 retired_25 refused_23 months_26 _ _ _ hP hD hS (lv_sub hl [2, 3, 4, 1, 0] rfl) hw
def wp_X10_dynasties (told : Nat → Int32) (retired : Int32) (refused : Nat → Int32) (months : Nat → Int32) (v1 : Int32) (v2 : Int32) (Post : Int32 → Int32 → (Nat → Int32) → (Nat → Int32) → Prop) : Prop :=
  (wp_X10_in (v1.toInt64) 0 999999 (fun r_1 => ((r_1 = 0 → (wp_X10_dynasties_J24 told Post retired refused months)) ∧ (¬ r_1 = 0 → (wp_X10_in (v2.toInt64) 0 60 (fun r_5 => ((r_5 = 0 → (wp_X10_dynasties_J24 told Post retired refused months)) ∧ (¬ r_5 = 0 → (∀ x_7 : Int64, x_7 = v1.toInt64 → (∃ k_31 : Nat, wp_X10_dynasties_L40 told Post k_31 v2 x_7 0 0 retired refused months))))))))))
set_option maxHeartbeats 4000000 in
set_option maxRecDepth 100000 in
theorem c_X10_dynasties (l : Launch) (D : va_G) (cI cB cZ cP cC : ClassId) (a_m a_m_told a_m_kept a_m_isKept a_m_refused a_m_months a_m_heirs a_m_lasts a_m_cares a_m_bestCares a_m_ones a_m_others a_m_bytes a_m_anew a_m_values : Nat) (above : Int64) (below : Int64) (retired : Int32) (manyLine : Int32) (bytesLong : Int32) (tokenAt : Int32) (tokenLong : Int32) (token : Int32) (value : Int32) (told : Nat → Int32) (refused : Nat → Int32) (months : Nat → Int32) (v1 : Int32) (v2 : Int32) (sz : Nat) (Post : Int32 → Int32 → (Nat → Int32) → (Nat → Int32) → Prop) (hw : wp_X10_dynasties told retired refused months v1 v2 Post) :
    Met l yX10_dynasties (Cond.code yX10_dynasties cX10_dynasties 8 (some .int) :: wsAll) rm_X10_dynasties (va_Pc [.ref a_m, .int v1, .int v2] (mxP D (mxTy cI cB cZ cP cC) sz (ww_X10_dynasties a_m a_m_told a_m_kept a_m_isKept a_m_refused a_m_months a_m_heirs a_m_lasts a_m_cares a_m_bestCares a_m_ones a_m_others a_m_bytes a_m_anew a_m_values cI cB cZ cP cC above below retired manyLine bytesLong tokenAt tokenLong token value told refused months))) (qq_X10_dynasties D a_m a_m_told a_m_kept a_m_isKept a_m_refused a_m_months a_m_heirs a_m_lasts a_m_cares a_m_bestCares a_m_ones a_m_others a_m_bytes a_m_anew a_m_values cI cB cZ cP cC above below manyLine bytesLong tokenAt tokenLong token value told Post (va_A (ww_X10_dynasties a_m a_m_told a_m_kept a_m_isKept a_m_refused a_m_months a_m_heirs a_m_lasts a_m_cares a_m_bestCares a_m_ones a_m_others a_m_bytes a_m_anew a_m_values cI cB cZ cP cC above below retired manyLine bytesLong tokenAt tokenLong token value told refused months) sz)) 0 0 (va_A (ww_X10_dynasties a_m a_m_told a_m_kept a_m_isKept a_m_refused a_m_months a_m_heirs a_m_lasts a_m_cares a_m_bestCares a_m_ones a_m_others a_m_bytes a_m_anew a_m_values cI cB cZ cP cC above below retired manyLine bytesLong tokenAt tokenLong token value told refused months) sz) := by
  refine mx_of (Qc := qq_X10_dynasties D a_m a_m_told a_m_kept a_m_isKept a_m_refused a_m_months a_m_heirs a_m_lasts a_m_cares a_m_bestCares a_m_ones a_m_others a_m_bytes a_m_anew a_m_values cI cB cZ cP cC above below manyLine bytesLong tokenAt tokenLong token value told Post) (by decide) (Nat.le_of_ble_eq_true rfl) ?_
  intro p e s m bl meth c A ls C0 hP hD hS hl
  replace C0 : mxC p s m [.ref a_m, .int v1, .int v2].toArray meth c cX10_dynasties RX10 (some .int) 8 D (mxTy cI cB cZ cP cC) A := C0
  obtain ⟨hx, hb, hr, hlocks, hml, hown, hts, hK, hA⟩ := id C0
  replace hl : lv_has ls 8 [(0, .ref a_m), (1, .int v1), (2, .int v2)] := hl
  unfold wp_X10_dynasties at hw
  refine lv_iload_n hx hb dX10_dynasties_0 rfl (lv_at hl 1 rfl) ?_
  refine lv_i2l (v := v1.toInt64) hx hb dX10_dynasties_1 rfl ?_
  refine lv_lconst (v := 0) hx hb dX10_dynasties_2 rfl ?_
  refine lv_ldc2 (v := 999999) hx hb hown (hts _ q_898) dX10_dynasties_3 ?_
  refine mx_ki (mx_rS (rm := rm_X10_in) (rest := []) hx hb hml hown hts (c_X10_in l D cI cB cZ cP cC (v1.toInt64) 0 999999 _ _ hw) q_163 q_164 q_5 q_165 hd_X10_in ⟨(Nat.le_of_ble_eq_true rfl), (Nat.le_of_ble_eq_true rfl)⟩ rfl rfl hK hP hD [] rfl rfl rfl hl.1 rfl (Nat.le_of_ble_eq_true rfl) dX10_dynasties_6 ⟨(Nat.le_of_ble_eq_true rfl), (Nat.le_of_ble_eq_true rfl)⟩) hP hD hS hA [] [0, 1, 2, 3] [0, 1, 2, 3] (fun _ => ww_X10_dynasties a_m a_m_told a_m_kept a_m_isKept a_m_refused a_m_months a_m_heirs a_m_lasts a_m_cares a_m_bestCares a_m_ones a_m_others a_m_bytes a_m_anew a_m_values cI cB cZ cP cC above below retired manyLine bytesLong tokenAt tokenLong token value told refused months) rfl rfl rfl (by decide) rfl (fun _ => rfl) (fun r_1 u H locs hw hP hD hS => ?_)
  try dsimp only at hw
  replace hP : va_P D vwCl (ww_X10_dynasties a_m a_m_told a_m_kept a_m_isKept a_m_refused a_m_months a_m_heirs a_m_lasts a_m_cares a_m_bestCares a_m_ones a_m_others a_m_bytes a_m_anew a_m_values cI cB cZ cP cC above below retired manyLine bytesLong tokenAt tokenLong token value told refused months) H := hP
  replace hD : va_D A (ww_X10_dynasties a_m a_m_told a_m_kept a_m_isKept a_m_refused a_m_months a_m_heirs a_m_lasts a_m_cares a_m_bestCares a_m_ones a_m_others a_m_bytes a_m_anew a_m_values cI cB cZ cP cC above below retired manyLine bytesLong tokenAt tokenLong token value told refused months) := hD
  refine lv_if_eq (tgt := 24) hx hb dX10_dynasties_9 (by decide) (fun c_2 => ?_) (fun c_2 => ?_)
  · replace hw := hw.1 c_2
    exact k_X10_dynasties_J24 C0  retired refused months _ _ _ hP hD hS (lv_sub hl [0] rfl) hw
  · replace hw := hw.2 c_2
    refine lv_iload_n hx hb dX10_dynasties_12 rfl (lv_at hl 2 rfl) ?_
    refine lv_i2l (v := v2.toInt64) hx hb dX10_dynasties_13 rfl ?_
    refine lv_lconst (v := 0) hx hb dX10_dynasties_14 rfl ?_
    refine lv_ldc2 (v := 60) hx hb hown (hts _ q_431) dX10_dynasties_15 ?_
    refine mx_ki (mx_rS (rm := rm_X10_in) (rest := []) hx hb hml hown hts (c_X10_in l D cI cB cZ cP cC (v2.toInt64) 0 60 _ _ hw) q_163 q_164 q_5 q_165 hd_X10_in ⟨(Nat.le_of_ble_eq_true rfl), (Nat.le_of_ble_eq_true rfl)⟩ rfl rfl hK hP hD [] rfl rfl rfl hl.1 rfl (Nat.le_of_ble_eq_true rfl) dX10_dynasties_18 ⟨(Nat.le_of_ble_eq_true rfl), (Nat.le_of_ble_eq_true rfl)⟩) hP hD hS hA [] [0, 1, 2, 3] [0, 1, 2, 3] (fun _ => ww_X10_dynasties a_m a_m_told a_m_kept a_m_isKept a_m_refused a_m_months a_m_heirs a_m_lasts a_m_cares a_m_bestCares a_m_ones a_m_others a_m_bytes a_m_anew a_m_values cI cB cZ cP cC above below retired manyLine bytesLong tokenAt tokenLong token value told refused months) rfl rfl rfl (by decide) rfl (fun _ => rfl) (fun r_5 u H locs hw hP hD hS => ?_)
    try dsimp only at hw
    replace hP : va_P D vwCl (ww_X10_dynasties a_m a_m_told a_m_kept a_m_isKept a_m_refused a_m_months a_m_heirs a_m_lasts a_m_cares a_m_bestCares a_m_ones a_m_others a_m_bytes a_m_anew a_m_values cI cB cZ cP cC above below retired manyLine bytesLong tokenAt tokenLong token value told refused months) H := hP
    replace hD : va_D A (ww_X10_dynasties a_m a_m_told a_m_kept a_m_isKept a_m_refused a_m_months a_m_heirs a_m_lasts a_m_cares a_m_bestCares a_m_ones a_m_others a_m_bytes a_m_anew a_m_values cI cB cZ cP cC above below retired manyLine bytesLong tokenAt tokenLong token value told refused months) := hD
    refine lv_if_ne (tgt := 31) hx hb dX10_dynasties_21 (by decide) (fun c_6 => ?_) (fun c_6 => ?_)
    · replace hw := hw.2 c_6
      refine lv_iload_n hx hb dX10_dynasties_31 rfl (lv_at hl 1 rfl) ?_
      refine lv_i2l (v := v1.toInt64) hx hb dX10_dynasties_32 rfl ?_
      refine lv_topl (fun x_7 ex_7 => ?_)
      replace hw := hw x_7 ex_7
      refine lv_lstore_n (lv' := [(3, .long x_7), (0, .ref a_m), (1, .int v1), (2, .int v2)]) hx hb dX10_dynasties_33 rfl hl (by decide) rfl (fun ls hl => ?_)
      refine lv_iconst (v := 0) hx hb dX10_dynasties_34 (by decide) ?_
      refine lv_istore (lv' := [(5, .int 0), (3, .long x_7), (0, .ref a_m), (1, .int v1), (2, .int v2)]) hx hb dX10_dynasties_35 hl (by decide) rfl (fun ls hl => ?_)
      refine lv_iconst (v := 0) hx hb dX10_dynasties_37 (by decide) ?_
      refine lv_istore (lv' := [(6, .int 0), (5, .int 0), (3, .long x_7), (0, .ref a_m), (1, .int v1), (2, .int v2)]) hx hb dX10_dynasties_38 hl (by decide) rfl (fun ls hl => ?_)
      obtain ⟨n0, hw⟩ := hw
      refine k_X10_dynasties_L40 C0  n0 v2 x_7 0 0 retired refused months _ _ _ hP hD hS (lv_sub hl [3, 5, 2, 1, 0] rfl) hw
    · replace hw := hw.1 c_6
      exact k_X10_dynasties_J24 C0  retired refused months _ _ _ hP hD hS (lv_sub hl [0] rfl) hw
/-! PramStateModel.type(I)I -/
abbrev ww_X10_type (a_m a_m_told a_m_kept a_m_isKept a_m_refused a_m_months a_m_heirs a_m_lasts a_m_cares a_m_bestCares a_m_ones a_m_others a_m_bytes a_m_anew a_m_values : Nat) (cI cB cZ cP cC : ClassId) (above : Int64) (below : Int64) (retired : Int32) (manyLine : Int32) (bytesLong : Int32) (tokenAt : Int32) (tokenLong : Int32) (token : Int32) (value : Int32) (refused : Nat → Int32) (bytes : Nat → Int32) : va_W := [(a_m, .inr (10, [.ref a_m_told, .ref a_m_kept, .ref a_m_isKept, .ref a_m_refused, .long above, .long below, .ref a_m_months, .int retired, .ref a_m_heirs, .ref a_m_lasts, .int manyLine, .ref a_m_cares, .ref a_m_bestCares, .ref a_m_ones, .ref a_m_others, .ref a_m_bytes, .int bytesLong, .int tokenAt, .int tokenLong, .int token, .int value, .ref a_m_anew, .ref a_m_values])), (a_m_refused, .inl (cI, 3, .inl refused)), (a_m_bytes, .inl (cI, 150, .inl bytes))]
abbrev qq_X10_type (D : va_G) (a_m a_m_told a_m_kept a_m_isKept a_m_refused a_m_months a_m_heirs a_m_lasts a_m_cares a_m_bestCares a_m_ones a_m_others a_m_bytes a_m_anew a_m_values : Nat) (cI cB cZ cP cC : ClassId) (above : Int64) (below : Int64) (retired : Int32) (manyLine : Int32) (tokenAt : Int32) (tokenLong : Int32) (token : Int32) (value : Int32) (Post : Int32 → Int32 → (Nat → Int32) → (Nat → Int32) → Prop) (A : Nat → Prop) : Array Value → State → Outcome → State → Prop := va_Qi (fun (r : Int32) (u : Int32 × (Nat → Int32) × (Nat → Int32)) => Post r u.1 u.2.1 u.2.2) (fun (u : Int32 × (Nat → Int32) × (Nat → Int32)) t => mxB D (mxTy cI cB cZ cP cC) A (ww_X10_type a_m a_m_told a_m_kept a_m_isKept a_m_refused a_m_months a_m_heirs a_m_lasts a_m_cares a_m_bestCares a_m_ones a_m_others a_m_bytes a_m_anew a_m_values cI cB cZ cP cC above below retired manyLine (u.1) tokenAt tokenLong token value (u.2.1) (u.2.2)) t) A
abbrev rm_X10_type : Room := { frames := 1, cells := 0, slots := 0, locals := 25 }
theorem hd_X10_type : yX10_type.cls = RX10 ∧ yX10_type.cls ≠ "java/lang/invoke/MethodHandle" ∧ yX10_type.cls ≠ "java/lang/invoke/VarHandle" ∧ (parseMethodDescriptor yX10_type.desc).map (fun d => d.parameters.length) = some 1 := by decide +kernel
def wp_X10_type (bytesLong : Int32) (refused : Nat → Int32) (bytes : Nat → Int32) (v1 : Int32) (Post : Int32 → Int32 → (Nat → Int32) → (Nat → Int32) → Prop) : Prop :=
  (wp_X10_in (v1.toInt64) 0 127 (fun r_1 => ((r_1 = 0 → (wp_X10_bad refused (-2) (fun r_9 refused_10 => Post r_9 bytesLong refused_10 bytes))) ∧ (¬ r_1 = 0 → ((bytesLong = 150 → (wp_X10_full refused (fun r_7 refused_8 => Post r_7 bytesLong refused_8 bytes))) ∧ (¬ bytesLong = 150 → (vp_in bytesLong 150 ∧ (∀ f_5 : Nat → Int32, f_5 = upd bytes bytesLong.toNatClampNeg v1 → (∀ x_6 : Int32, x_6 = bytesLong + 1 → Post x_6 x_6 refused f_5)))))))))
set_option maxHeartbeats 4000000 in
set_option maxRecDepth 100000 in
theorem c_X10_type (l : Launch) (D : va_G) (cI cB cZ cP cC : ClassId) (a_m a_m_told a_m_kept a_m_isKept a_m_refused a_m_months a_m_heirs a_m_lasts a_m_cares a_m_bestCares a_m_ones a_m_others a_m_bytes a_m_anew a_m_values : Nat) (above : Int64) (below : Int64) (retired : Int32) (manyLine : Int32) (bytesLong : Int32) (tokenAt : Int32) (tokenLong : Int32) (token : Int32) (value : Int32) (refused : Nat → Int32) (bytes : Nat → Int32) (v1 : Int32) (sz : Nat) (Post : Int32 → Int32 → (Nat → Int32) → (Nat → Int32) → Prop) (hw : wp_X10_type bytesLong refused bytes v1 Post) :
    Met l yX10_type (Cond.code yX10_type cX10_type 2 (some .int) :: wsAll) rm_X10_type (va_Pc [.ref a_m, .int v1] (mxP D (mxTy cI cB cZ cP cC) sz (ww_X10_type a_m a_m_told a_m_kept a_m_isKept a_m_refused a_m_months a_m_heirs a_m_lasts a_m_cares a_m_bestCares a_m_ones a_m_others a_m_bytes a_m_anew a_m_values cI cB cZ cP cC above below retired manyLine bytesLong tokenAt tokenLong token value refused bytes))) (qq_X10_type D a_m a_m_told a_m_kept a_m_isKept a_m_refused a_m_months a_m_heirs a_m_lasts a_m_cares a_m_bestCares a_m_ones a_m_others a_m_bytes a_m_anew a_m_values cI cB cZ cP cC above below retired manyLine tokenAt tokenLong token value Post (va_A (ww_X10_type a_m a_m_told a_m_kept a_m_isKept a_m_refused a_m_months a_m_heirs a_m_lasts a_m_cares a_m_bestCares a_m_ones a_m_others a_m_bytes a_m_anew a_m_values cI cB cZ cP cC above below retired manyLine bytesLong tokenAt tokenLong token value refused bytes) sz)) 0 0 (va_A (ww_X10_type a_m a_m_told a_m_kept a_m_isKept a_m_refused a_m_months a_m_heirs a_m_lasts a_m_cares a_m_bestCares a_m_ones a_m_others a_m_bytes a_m_anew a_m_values cI cB cZ cP cC above below retired manyLine bytesLong tokenAt tokenLong token value refused bytes) sz) := by
  refine mx_of (Qc := qq_X10_type D a_m a_m_told a_m_kept a_m_isKept a_m_refused a_m_months a_m_heirs a_m_lasts a_m_cares a_m_bestCares a_m_ones a_m_others a_m_bytes a_m_anew a_m_values cI cB cZ cP cC above below retired manyLine tokenAt tokenLong token value Post) (by decide) (Nat.le_of_ble_eq_true rfl) ?_
  intro p e s m bl meth c A ls C0 hP hD hS hl
  replace C0 : mxC p s m [.ref a_m, .int v1].toArray meth c cX10_type RX10 (some .int) 2 D (mxTy cI cB cZ cP cC) A := C0
  obtain ⟨hx, hb, hr, hlocks, hml, hown, hts, hK, hA⟩ := id C0
  replace hl : lv_has ls 2 [(0, .ref a_m), (1, .int v1)] := hl
  unfold wp_X10_type at hw
  refine lv_iload_n hx hb dX10_type_0 rfl (lv_at hl 1 rfl) ?_
  refine lv_i2l (v := v1.toInt64) hx hb dX10_type_1 rfl ?_
  refine lv_lconst (v := 0) hx hb dX10_type_2 rfl ?_
  refine lv_ldc2 (v := 127) hx hb hown (hts _ q_208) dX10_type_3 ?_
  refine mx_ki (mx_rS (rm := rm_X10_in) (rest := []) hx hb hml hown hts (c_X10_in l D cI cB cZ cP cC (v1.toInt64) 0 127 _ _ hw) q_163 q_164 q_5 q_165 hd_X10_in ⟨(Nat.le_of_ble_eq_true rfl), (Nat.le_of_ble_eq_true rfl)⟩ rfl rfl hK hP hD [] rfl rfl rfl hl.1 rfl (Nat.le_of_ble_eq_true rfl) dX10_type_6 ⟨(Nat.le_of_ble_eq_true rfl), (Nat.le_of_ble_eq_true rfl)⟩) hP hD hS hA [] [0, 1, 2] [0, 1, 2] (fun _ => ww_X10_type a_m a_m_told a_m_kept a_m_isKept a_m_refused a_m_months a_m_heirs a_m_lasts a_m_cares a_m_bestCares a_m_ones a_m_others a_m_bytes a_m_anew a_m_values cI cB cZ cP cC above below retired manyLine bytesLong tokenAt tokenLong token value refused bytes) rfl rfl rfl (by decide) rfl (fun _ => rfl) (fun r_1 u H locs hw hP hD hS => ?_)
  try dsimp only at hw
  replace hP : va_P D vwCl (ww_X10_type a_m a_m_told a_m_kept a_m_isKept a_m_refused a_m_months a_m_heirs a_m_lasts a_m_cares a_m_bestCares a_m_ones a_m_others a_m_bytes a_m_anew a_m_values cI cB cZ cP cC above below retired manyLine bytesLong tokenAt tokenLong token value refused bytes) H := hP
  replace hD : va_D A (ww_X10_type a_m a_m_told a_m_kept a_m_isKept a_m_refused a_m_months a_m_heirs a_m_lasts a_m_cares a_m_bestCares a_m_ones a_m_others a_m_bytes a_m_anew a_m_values cI cB cZ cP cC above below retired manyLine bytesLong tokenAt tokenLong token value refused bytes) := hD
  refine lv_if_ne (tgt := 19) hx hb dX10_type_9 (by decide) (fun c_2 => ?_) (fun c_2 => ?_)
  · replace hw := hw.2 c_2
    refine lv_aload_n hx hb dX10_type_19 rfl (lv_at hl 0 rfl) ?_
    refine mx_get (ci := 10) (C := RX10) (T := TX10) (N := 23) hx hb hown in_wsX100 hts hK hP 0 rfl rfl 16 (by decide) q_209 rfl (v := .int bytesLong) rfl dX10_type_20 ?_
    refine lv_sipush (v := 150) hx hb dX10_type_23 (by decide) ?_
    refine lv_icmp_ne (tgt := 34) hx hb dX10_type_26 (by decide) (fun c_3 => ?_) (fun c_3 => ?_)
    · replace hw := hw.2 c_3
      refine lv_aload_n hx hb dX10_type_34 rfl (lv_at hl 0 rfl) ?_
      refine mx_get (ci := 10) (C := RX10) (T := TX10) (N := 23) hx hb hown in_wsX100 hts hK hP 0 rfl rfl 15 (by decide) q_103 rfl (v := .ref a_m_bytes) rfl dX10_type_35 ?_
      refine lv_aload_n hx hb dX10_type_38 rfl (lv_at hl 0 rfl) ?_
      refine mx_get (ci := 10) (C := RX10) (T := TX10) (N := 23) hx hb hown in_wsX100 hts hK hP 0 rfl rfl 16 (by decide) q_209 rfl (v := .int bytesLong) rfl dX10_type_39 ?_
      refine lv_iload_n hx hb dX10_type_42 rfl (lv_at hl 1 rfl) ?_
      obtain ⟨h_4, hw⟩ := hw
      obtain ⟨f_5, ef_5⟩ : ∃ y : Nat → Int32, y = upd bytes bytesLong.toNatClampNeg v1 := ⟨_, rfl⟩
      replace hw := hw f_5 ef_5
      refine mx_iast hx hb hK hP hD hS 2 0 rfl rfl h_4 f_5 ef_5 (ww_X10_type a_m a_m_told a_m_kept a_m_isKept a_m_refused a_m_months a_m_heirs a_m_lasts a_m_cares a_m_bestCares a_m_ones a_m_others a_m_bytes a_m_anew a_m_values cI cB cZ cP cC above below retired manyLine bytesLong tokenAt tokenLong token value refused f_5) rfl dX10_type_43 (fun H locs hP hD hS => ?_)
      refine lv_aload_n hx hb dX10_type_44 rfl (lv_at hl 0 rfl) ?_
      refine lv_dup hx hb dX10_type_45 rfl ?_
      refine mx_get (ci := 10) (C := RX10) (T := TX10) (N := 23) hx hb hown in_wsX100 hts hK hP 0 rfl rfl 16 (by decide) q_209 rfl (v := .int bytesLong) rfl dX10_type_46 ?_
      refine lv_iconst (v := 1) hx hb dX10_type_49 (by decide) ?_
      refine lv_iadd hx hb dX10_type_50 ?_
      refine lv_topi (fun x_6 ex_6 => ?_)
      replace hw := hw x_6 ex_6
      refine mx_put (ci := 10) (C := RX10) (T := TX10) (N := 23) hx hb hown in_wsX100 tyX10 tyX10_ok nmX10 hts hK hP hD hS 0 rfl rfl 16 (by decide) q_209 rfl rfl rfl rfl (Nat.le_of_ble_eq_true rfl) (ww_X10_type a_m a_m_told a_m_kept a_m_isKept a_m_refused a_m_months a_m_heirs a_m_lasts a_m_cares a_m_bestCares a_m_ones a_m_others a_m_bytes a_m_anew a_m_values cI cB cZ cP cC above below retired manyLine x_6 tokenAt tokenLong token value refused f_5) rfl dX10_type_51 (fun H locs hP hD hS => ?_)
      refine lv_aload_n hx hb dX10_type_54 rfl (lv_at hl 0 rfl) ?_
      refine mx_get (ci := 10) (C := RX10) (T := TX10) (N := 23) hx hb hown in_wsX100 hts hK hP 0 rfl rfl 16 (by decide) q_209 rfl (v := .int x_6) rfl dX10_type_55 ?_
      exact mx_iret (x_6, refused, f_5) hx hb hr hlocks rfl hw hK hP hD hS dX10_type_58
    · replace hw := hw.1 c_3
      refine lv_aload_n hx hb dX10_type_29 rfl (lv_at hl 0 rfl) ?_
      refine mx_ki (mx_rV (rm := rm_X10_full) (rest := []) (C := RX10) hx hb hml hown hts (c_X10_full l D cI cB cZ cP cC a_m a_m_told a_m_kept a_m_isKept a_m_refused a_m_months a_m_heirs a_m_lasts a_m_cares a_m_bestCares a_m_ones a_m_others a_m_bytes a_m_anew a_m_values above below retired manyLine bytesLong tokenAt tokenLong token value refused _ _ hw) q_170 q_171 q_172 q_5 q_173 hd_X10_full ⟨(Nat.le_of_ble_eq_true rfl), (Nat.le_of_ble_eq_true rfl)⟩ rfl rfl hK hP hD [0, 1] rfl rfl 10 0 rfl rfl rfl rfl hl.1 rfl (Nat.le_of_ble_eq_true rfl) dX10_type_30 ⟨(Nat.le_of_ble_eq_true rfl), (Nat.le_of_ble_eq_true rfl)⟩) hP hD hS hA [0, 1] [2] [1, 2, 0] (fun u => ww_X10_type a_m a_m_told a_m_kept a_m_isKept a_m_refused a_m_months a_m_heirs a_m_lasts a_m_cares a_m_bestCares a_m_ones a_m_others a_m_bytes a_m_anew a_m_values cI cB cZ cP cC above below retired manyLine bytesLong tokenAt tokenLong token value u bytes) rfl rfl rfl (by decide) rfl (fun _ => rfl) (fun r_7 refused_8 H locs hw hP hD hS => ?_)
      try dsimp only at hw
      replace hP : va_P D vwCl (ww_X10_type a_m a_m_told a_m_kept a_m_isKept a_m_refused a_m_months a_m_heirs a_m_lasts a_m_cares a_m_bestCares a_m_ones a_m_others a_m_bytes a_m_anew a_m_values cI cB cZ cP cC above below retired manyLine bytesLong tokenAt tokenLong token value refused_8 bytes) H := hP
      replace hD : va_D A (ww_X10_type a_m a_m_told a_m_kept a_m_isKept a_m_refused a_m_months a_m_heirs a_m_lasts a_m_cares a_m_bestCares a_m_ones a_m_others a_m_bytes a_m_anew a_m_values cI cB cZ cP cC above below retired manyLine bytesLong tokenAt tokenLong token value refused_8 bytes) := hD
      exact mx_iret (bytesLong, refused_8, bytes) hx hb hr hlocks rfl hw hK hP hD hS dX10_type_33
  · replace hw := hw.1 c_2
    refine lv_aload_n hx hb dX10_type_12 rfl (lv_at hl 0 rfl) ?_
    refine lv_bipush (v := (-2)) hx hb dX10_type_13 (by decide) ?_
    refine mx_ki (mx_rV (rm := rm_X10_bad) (rest := []) (C := RX10) hx hb hml hown hts (c_X10_bad l D cI cB cZ cP cC a_m a_m_told a_m_kept a_m_isKept a_m_refused a_m_months a_m_heirs a_m_lasts a_m_cares a_m_bestCares a_m_ones a_m_others a_m_bytes a_m_anew a_m_values above below retired manyLine bytesLong tokenAt tokenLong token value refused (-2) _ _ hw) q_166 q_167 q_168 q_5 q_169 hd_X10_bad ⟨(Nat.le_of_ble_eq_true rfl), (Nat.le_of_ble_eq_true rfl)⟩ rfl rfl hK hP hD [0, 1] rfl rfl 10 0 rfl rfl rfl rfl hl.1 rfl (Nat.le_of_ble_eq_true rfl) dX10_type_15 ⟨(Nat.le_of_ble_eq_true rfl), (Nat.le_of_ble_eq_true rfl)⟩) hP hD hS hA [0, 1] [2] [1, 2, 0] (fun u => ww_X10_type a_m a_m_told a_m_kept a_m_isKept a_m_refused a_m_months a_m_heirs a_m_lasts a_m_cares a_m_bestCares a_m_ones a_m_others a_m_bytes a_m_anew a_m_values cI cB cZ cP cC above below retired manyLine bytesLong tokenAt tokenLong token value u bytes) rfl rfl rfl (by decide) rfl (fun _ => rfl) (fun r_9 refused_10 H locs hw hP hD hS => ?_)
    try dsimp only at hw
    replace hP : va_P D vwCl (ww_X10_type a_m a_m_told a_m_kept a_m_isKept a_m_refused a_m_months a_m_heirs a_m_lasts a_m_cares a_m_bestCares a_m_ones a_m_others a_m_bytes a_m_anew a_m_values cI cB cZ cP cC above below retired manyLine bytesLong tokenAt tokenLong token value refused_10 bytes) H := hP
    replace hD : va_D A (ww_X10_type a_m a_m_told a_m_kept a_m_isKept a_m_refused a_m_months a_m_heirs a_m_lasts a_m_cares a_m_bestCares a_m_ones a_m_others a_m_bytes a_m_anew a_m_values cI cB cZ cP cC above below retired manyLine bytesLong tokenAt tokenLong token value refused_10 bytes) := hD
    exact mx_iret (bytesLong, refused_10, bytes) hx hb hr hlocks rfl hw hK hP hD hS dX10_type_18
/-! PramStateModel.clear()I -/
abbrev ww_X10_clear (a_m a_m_told a_m_kept a_m_isKept a_m_refused a_m_months a_m_heirs a_m_lasts a_m_cares a_m_bestCares a_m_ones a_m_others a_m_bytes a_m_anew a_m_values : Nat) (cI cB cZ cP cC : ClassId) (above : Int64) (below : Int64) (retired : Int32) (manyLine : Int32) (bytesLong : Int32) (tokenAt : Int32) (tokenLong : Int32) (token : Int32) (value : Int32) : va_W := [(a_m, .inr (10, [.ref a_m_told, .ref a_m_kept, .ref a_m_isKept, .ref a_m_refused, .long above, .long below, .ref a_m_months, .int retired, .ref a_m_heirs, .ref a_m_lasts, .int manyLine, .ref a_m_cares, .ref a_m_bestCares, .ref a_m_ones, .ref a_m_others, .ref a_m_bytes, .int bytesLong, .int tokenAt, .int tokenLong, .int token, .int value, .ref a_m_anew, .ref a_m_values]))]
abbrev qq_X10_clear (D : va_G) (a_m a_m_told a_m_kept a_m_isKept a_m_refused a_m_months a_m_heirs a_m_lasts a_m_cares a_m_bestCares a_m_ones a_m_others a_m_bytes a_m_anew a_m_values : Nat) (cI cB cZ cP cC : ClassId) (above : Int64) (below : Int64) (retired : Int32) (manyLine : Int32) (tokenAt : Int32) (tokenLong : Int32) (token : Int32) (value : Int32) (Post : Int32 → Int32 → Prop) (A : Nat → Prop) : Array Value → State → Outcome → State → Prop := va_Qi (fun (r : Int32) (u : Int32) => Post r u) (fun (u : Int32) t => mxB D (mxTy cI cB cZ cP cC) A (ww_X10_clear a_m a_m_told a_m_kept a_m_isKept a_m_refused a_m_months a_m_heirs a_m_lasts a_m_cares a_m_bestCares a_m_ones a_m_others a_m_bytes a_m_anew a_m_values cI cB cZ cP cC above below retired manyLine u tokenAt tokenLong token value) t) A
abbrev rm_X10_clear : Room := { frames := 0, cells := 0, slots := 0, locals := 0 }
theorem hd_X10_clear : yX10_clear.cls = RX10 ∧ yX10_clear.cls ≠ "java/lang/invoke/MethodHandle" ∧ yX10_clear.cls ≠ "java/lang/invoke/VarHandle" ∧ (parseMethodDescriptor yX10_clear.desc).map (fun d => d.parameters.length) = some 0 := by decide +kernel
def wp_X10_clear (bytesLong : Int32) (Post : Int32 → Int32 → Prop) : Prop :=
  Post bytesLong 0
set_option maxHeartbeats 4000000 in
set_option maxRecDepth 100000 in
theorem c_X10_clear (l : Launch) (D : va_G) (cI cB cZ cP cC : ClassId) (a_m a_m_told a_m_kept a_m_isKept a_m_refused a_m_months a_m_heirs a_m_lasts a_m_cares a_m_bestCares a_m_ones a_m_others a_m_bytes a_m_anew a_m_values : Nat) (above : Int64) (below : Int64) (retired : Int32) (manyLine : Int32) (bytesLong : Int32) (tokenAt : Int32) (tokenLong : Int32) (token : Int32) (value : Int32)  (sz : Nat) (Post : Int32 → Int32 → Prop) (hw : wp_X10_clear bytesLong Post) :
    Met l yX10_clear (Cond.code yX10_clear cX10_clear 2 (some .int) :: wsAll) rm_X10_clear (va_Pc [.ref a_m] (mxP D (mxTy cI cB cZ cP cC) sz (ww_X10_clear a_m a_m_told a_m_kept a_m_isKept a_m_refused a_m_months a_m_heirs a_m_lasts a_m_cares a_m_bestCares a_m_ones a_m_others a_m_bytes a_m_anew a_m_values cI cB cZ cP cC above below retired manyLine bytesLong tokenAt tokenLong token value))) (qq_X10_clear D a_m a_m_told a_m_kept a_m_isKept a_m_refused a_m_months a_m_heirs a_m_lasts a_m_cares a_m_bestCares a_m_ones a_m_others a_m_bytes a_m_anew a_m_values cI cB cZ cP cC above below retired manyLine tokenAt tokenLong token value Post (va_A (ww_X10_clear a_m a_m_told a_m_kept a_m_isKept a_m_refused a_m_months a_m_heirs a_m_lasts a_m_cares a_m_bestCares a_m_ones a_m_others a_m_bytes a_m_anew a_m_values cI cB cZ cP cC above below retired manyLine bytesLong tokenAt tokenLong token value) sz)) 0 0 (va_A (ww_X10_clear a_m a_m_told a_m_kept a_m_isKept a_m_refused a_m_months a_m_heirs a_m_lasts a_m_cares a_m_bestCares a_m_ones a_m_others a_m_bytes a_m_anew a_m_values cI cB cZ cP cC above below retired manyLine bytesLong tokenAt tokenLong token value) sz) := by
  refine mx_of (Qc := qq_X10_clear D a_m a_m_told a_m_kept a_m_isKept a_m_refused a_m_months a_m_heirs a_m_lasts a_m_cares a_m_bestCares a_m_ones a_m_others a_m_bytes a_m_anew a_m_values cI cB cZ cP cC above below retired manyLine tokenAt tokenLong token value Post) (by decide) (Nat.le_of_ble_eq_true rfl) ?_
  intro p e s m bl meth c A ls C0 hP hD hS hl
  replace C0 : mxC p s m [.ref a_m].toArray meth c cX10_clear RX10 (some .int) 2 D (mxTy cI cB cZ cP cC) A := C0
  obtain ⟨hx, hb, hr, hlocks, hml, hown, hts, hK, hA⟩ := id C0
  replace hl : lv_has ls 2 [(0, .ref a_m)] := hl
  unfold wp_X10_clear at hw
  refine lv_aload_n hx hb dX10_clear_0 rfl (lv_at hl 0 rfl) ?_
  refine mx_get (ci := 10) (C := RX10) (T := TX10) (N := 23) hx hb hown in_wsX100 hts hK hP 0 rfl rfl 16 (by decide) q_209 rfl (v := .int bytesLong) rfl dX10_clear_1 ?_
  refine lv_istore_n (lv' := [(1, .int bytesLong), (0, .ref a_m)]) hx hb dX10_clear_4 rfl hl (by decide) rfl (fun ls hl => ?_)
  refine lv_aload_n hx hb dX10_clear_5 rfl (lv_at hl 1 rfl) ?_
  refine lv_iconst (v := 0) hx hb dX10_clear_6 (by decide) ?_
  refine mx_put (ci := 10) (C := RX10) (T := TX10) (N := 23) hx hb hown in_wsX100 tyX10 tyX10_ok nmX10 hts hK hP hD hS 0 rfl rfl 16 (by decide) q_209 rfl rfl rfl rfl (Nat.le_of_ble_eq_true rfl) (ww_X10_clear a_m a_m_told a_m_kept a_m_isKept a_m_refused a_m_months a_m_heirs a_m_lasts a_m_cares a_m_bestCares a_m_ones a_m_others a_m_bytes a_m_anew a_m_values cI cB cZ cP cC above below retired manyLine 0 tokenAt tokenLong token value) rfl dX10_clear_7 (fun H locs hP hD hS => ?_)
  refine lv_iload_n hx hb dX10_clear_10 rfl (lv_at hl 0 rfl) ?_
  exact mx_iret 0 hx hb hr hlocks rfl hw hK hP hD hS dX10_clear_11
/-! PramStateModel.isSmall(I)Z -/
abbrev ww_X10_isSmall (cI cB cZ cP cC : ClassId)  : va_W := []
abbrev qq_X10_isSmall (D : va_G) (cI cB cZ cP cC : ClassId)  (Post : Int32 → Prop) (A : Nat → Prop) : Array Value → State → Outcome → State → Prop := va_Qi (fun (r : Int32) (u : Unit) => Post r) (fun (u : Unit) t => mxB D (mxTy cI cB cZ cP cC) A (ww_X10_isSmall cI cB cZ cP cC) t) A
abbrev rm_X10_isSmall : Room := { frames := 1, cells := 0, slots := 0, locals := 25 }
theorem hd_X10_isSmall : yX10_isSmall.cls ≠ "java/lang/invoke/MethodHandle" ∧ yX10_isSmall.cls ≠ "java/lang/invoke/VarHandle" ∧ (parseMethodDescriptor yX10_isSmall.desc).map (fun d => d.parameters.length) = some 1 := by decide +kernel
def wp_X10_isSmall (v0 : Int32) (Post : Int32 → Prop) : Prop :=
  (wp_X10_in (v0.toInt64) 97 122 (fun r_1 => ((r_1 = 0 ∨ r_1 = 1) ∧ Post r_1)))
set_option maxHeartbeats 4000000 in
set_option maxRecDepth 100000 in
theorem c_X10_isSmall (l : Launch) (D : va_G) (cI cB cZ cP cC : ClassId)  (v0 : Int32) (sz : Nat) (Post : Int32 → Prop) (hw : wp_X10_isSmall v0 Post) :
    Met l yX10_isSmall (Cond.code yX10_isSmall cX10_isSmall 1 (some .boolean) :: wsAll) rm_X10_isSmall (va_Pc [.int v0] (mxP D (mxTy cI cB cZ cP cC) sz (ww_X10_isSmall cI cB cZ cP cC))) (qq_X10_isSmall D cI cB cZ cP cC Post (va_A (ww_X10_isSmall cI cB cZ cP cC) sz)) 0 0 (va_A (ww_X10_isSmall cI cB cZ cP cC) sz) := by
  refine mx_of (Qc := qq_X10_isSmall D cI cB cZ cP cC Post) (by decide) (Nat.le_of_ble_eq_true rfl) ?_
  intro p e s m bl meth c A ls C0 hP hD hS hl
  replace C0 : mxC p s m [.int v0].toArray meth c cX10_isSmall RX10 (some .boolean) 1 D (mxTy cI cB cZ cP cC) A := C0
  obtain ⟨hx, hb, hr, hlocks, hml, hown, hts, hK, hA⟩ := id C0
  replace hl : lv_has ls 1 [(0, .int v0)] := hl
  unfold wp_X10_isSmall at hw
  refine lv_iload_n hx hb dX10_isSmall_0 rfl (lv_at hl 0 rfl) ?_
  refine lv_i2l (v := v0.toInt64) hx hb dX10_isSmall_1 rfl ?_
  refine lv_ldc2 (v := 97) hx hb hown (hts _ q_348) dX10_isSmall_2 ?_
  refine lv_ldc2 (v := 122) hx hb hown (hts _ q_349) dX10_isSmall_5 ?_
  refine mx_ki (mx_rS (rm := rm_X10_in) (rest := []) hx hb hml hown hts (c_X10_in l D cI cB cZ cP cC (v0.toInt64) 97 122 _ _ hw) q_163 q_164 q_5 q_165 hd_X10_in ⟨(Nat.le_of_ble_eq_true rfl), (Nat.le_of_ble_eq_true rfl)⟩ rfl rfl hK hP hD [] rfl rfl rfl hl.1 rfl (Nat.le_of_ble_eq_true rfl) dX10_isSmall_8 ⟨(Nat.le_of_ble_eq_true rfl), (Nat.le_of_ble_eq_true rfl)⟩) hP hD hS hA [] [] [] (fun _ => ww_X10_isSmall cI cB cZ cP cC) rfl rfl rfl (by decide) rfl (fun _ => rfl) (fun r_1 u H locs hw hP hD hS => ?_)
  try dsimp only at hw
  replace hP : va_P D vwCl (ww_X10_isSmall cI cB cZ cP cC) H := hP
  replace hD : va_D A (ww_X10_isSmall cI cB cZ cP cC) := hD
  obtain ⟨h_2, hw⟩ := hw
  exact mx_iret () hx hb hr hlocks (mx_narZ h_2) hw hK hP hD hS dX10_isSmall_11
/-! PramStateModel.isFigure(I)Z -/
abbrev ww_X10_isFigure (cI cB cZ cP cC : ClassId)  : va_W := []
abbrev qq_X10_isFigure (D : va_G) (cI cB cZ cP cC : ClassId)  (Post : Int32 → Prop) (A : Nat → Prop) : Array Value → State → Outcome → State → Prop := va_Qi (fun (r : Int32) (u : Unit) => Post r) (fun (u : Unit) t => mxB D (mxTy cI cB cZ cP cC) A (ww_X10_isFigure cI cB cZ cP cC) t) A
abbrev rm_X10_isFigure : Room := { frames := 1, cells := 0, slots := 0, locals := 25 }
theorem hd_X10_isFigure : yX10_isFigure.cls ≠ "java/lang/invoke/MethodHandle" ∧ yX10_isFigure.cls ≠ "java/lang/invoke/VarHandle" ∧ (parseMethodDescriptor yX10_isFigure.desc).map (fun d => d.parameters.length) = some 1 := by decide +kernel
def wp_X10_isFigure (v0 : Int32) (Post : Int32 → Prop) : Prop :=
  (wp_X10_in (v0.toInt64) 48 57 (fun r_1 => ((r_1 = 0 ∨ r_1 = 1) ∧ Post r_1)))
set_option maxHeartbeats 4000000 in
set_option maxRecDepth 100000 in
theorem c_X10_isFigure (l : Launch) (D : va_G) (cI cB cZ cP cC : ClassId)  (v0 : Int32) (sz : Nat) (Post : Int32 → Prop) (hw : wp_X10_isFigure v0 Post) :
    Met l yX10_isFigure (Cond.code yX10_isFigure cX10_isFigure 1 (some .boolean) :: wsAll) rm_X10_isFigure (va_Pc [.int v0] (mxP D (mxTy cI cB cZ cP cC) sz (ww_X10_isFigure cI cB cZ cP cC))) (qq_X10_isFigure D cI cB cZ cP cC Post (va_A (ww_X10_isFigure cI cB cZ cP cC) sz)) 0 0 (va_A (ww_X10_isFigure cI cB cZ cP cC) sz) := by
  refine mx_of (Qc := qq_X10_isFigure D cI cB cZ cP cC Post) (by decide) (Nat.le_of_ble_eq_true rfl) ?_
  intro p e s m bl meth c A ls C0 hP hD hS hl
  replace C0 : mxC p s m [.int v0].toArray meth c cX10_isFigure RX10 (some .boolean) 1 D (mxTy cI cB cZ cP cC) A := C0
  obtain ⟨hx, hb, hr, hlocks, hml, hown, hts, hK, hA⟩ := id C0
  replace hl : lv_has ls 1 [(0, .int v0)] := hl
  unfold wp_X10_isFigure at hw
  refine lv_iload_n hx hb dX10_isFigure_0 rfl (lv_at hl 0 rfl) ?_
  refine lv_i2l (v := v0.toInt64) hx hb dX10_isFigure_1 rfl ?_
  refine lv_ldc2 (v := 48) hx hb hown (hts _ q_353) dX10_isFigure_2 ?_
  refine lv_ldc2 (v := 57) hx hb hown (hts _ q_354) dX10_isFigure_5 ?_
  refine mx_ki (mx_rS (rm := rm_X10_in) (rest := []) hx hb hml hown hts (c_X10_in l D cI cB cZ cP cC (v0.toInt64) 48 57 _ _ hw) q_163 q_164 q_5 q_165 hd_X10_in ⟨(Nat.le_of_ble_eq_true rfl), (Nat.le_of_ble_eq_true rfl)⟩ rfl rfl hK hP hD [] rfl rfl rfl hl.1 rfl (Nat.le_of_ble_eq_true rfl) dX10_isFigure_8 ⟨(Nat.le_of_ble_eq_true rfl), (Nat.le_of_ble_eq_true rfl)⟩) hP hD hS hA [] [] [] (fun _ => ww_X10_isFigure cI cB cZ cP cC) rfl rfl rfl (by decide) rfl (fun _ => rfl) (fun r_1 u H locs hw hP hD hS => ?_)
  try dsimp only at hw
  replace hP : va_P D vwCl (ww_X10_isFigure cI cB cZ cP cC) H := hP
  replace hD : va_D A (ww_X10_isFigure cI cB cZ cP cC) := hD
  obtain ⟨h_2, hw⟩ := hw
  exact mx_iret () hx hb hr hlocks (mx_narZ h_2) hw hK hP hD hS dX10_isFigure_11
/-! PramStateModel.lookAt(I)V -/
abbrev ww_X10_lookAt (a_m a_m_told a_m_kept a_m_isKept a_m_refused a_m_months a_m_heirs a_m_lasts a_m_cares a_m_bestCares a_m_ones a_m_others a_m_bytes a_m_anew a_m_values : Nat) (cI cB cZ cP cC : ClassId) (above : Int64) (below : Int64) (retired : Int32) (manyLine : Int32) (bytesLong : Int32) (tokenAt : Int32) (tokenLong : Int32) (token : Int32) (value : Int32) (bytes : Nat → Int32) : va_W := [(a_m, .inr (10, [.ref a_m_told, .ref a_m_kept, .ref a_m_isKept, .ref a_m_refused, .long above, .long below, .ref a_m_months, .int retired, .ref a_m_heirs, .ref a_m_lasts, .int manyLine, .ref a_m_cares, .ref a_m_bestCares, .ref a_m_ones, .ref a_m_others, .ref a_m_bytes, .int bytesLong, .int tokenAt, .int tokenLong, .int token, .int value, .ref a_m_anew, .ref a_m_values])), (a_m_bytes, .inl (cI, 150, .inl bytes))]
abbrev qq_X10_lookAt (D : va_G) (a_m a_m_told a_m_kept a_m_isKept a_m_refused a_m_months a_m_heirs a_m_lasts a_m_cares a_m_bestCares a_m_ones a_m_others a_m_bytes a_m_anew a_m_values : Nat) (cI cB cZ cP cC : ClassId) (above : Int64) (below : Int64) (retired : Int32) (manyLine : Int32) (bytesLong : Int32) (bytes : Nat → Int32) (Post : Int32 → Int32 → Int32 → Int32 → Prop) (A : Nat → Prop) : Array Value → State → Outcome → State → Prop := va_Qv (fun (u : Int32 × Int32 × Int32 × Int32) => Post u.1 u.2.1 u.2.2.1 u.2.2.2) (fun (u : Int32 × Int32 × Int32 × Int32) t => mxB D (mxTy cI cB cZ cP cC) A (ww_X10_lookAt a_m a_m_told a_m_kept a_m_isKept a_m_refused a_m_months a_m_heirs a_m_lasts a_m_cares a_m_bestCares a_m_ones a_m_others a_m_bytes a_m_anew a_m_values cI cB cZ cP cC above below retired manyLine bytesLong (u.1) (u.2.1) (u.2.2.1) (u.2.2.2) bytes) t) A
abbrev rm_X10_lookAt : Room := { frames := 2, cells := 0, slots := 0, locals := 45 }
theorem hd_X10_lookAt : yX10_lookAt.cls = RX10 ∧ yX10_lookAt.cls ≠ "java/lang/invoke/MethodHandle" ∧ yX10_lookAt.cls ≠ "java/lang/invoke/VarHandle" ∧ (parseMethodDescriptor yX10_lookAt.desc).map (fun d => d.parameters.length) = some 1 := by decide +kernel
def wp_X10_lookAt_L5 (bytesLong : Int32) (bytes : Nat → Int32) (Post : Int32 → Int32 → Int32 → Int32 → Prop) (K_43 : Int32 → Int32 → Int32 → Int32 → Prop) : Nat → Int32 → Int32 → Int32 → Int32 → Prop
  | 0, _, _, _, _ => False
  | n + 1, tokenAt, tokenLong, token, value => ((bytesLong ≤ tokenAt → K_43 tokenAt tokenLong token value) ∧ (¬ bytesLong ≤ tokenAt → (vp_in tokenAt 150 ∧ (((bytes tokenAt.toNatClampNeg) = 32 → (∀ x_4 : Int32, x_4 = tokenAt + 1 → wp_X10_lookAt_L5 bytesLong bytes Post K_43 n x_4 tokenLong token value)) ∧ (¬ (bytes tokenAt.toNatClampNeg) = 32 → K_43 tokenAt tokenLong token value)))))
set_option maxHeartbeats 4000000 in
set_option maxRecDepth 100000 in
theorem k_X10_lookAt_L5 {p : Program} {l : Launch} {e : Env} {s : State} {m : MethodId} {ar : Array Value} {bl : List Frame} {meth : Method} {c : Code} {D : va_G} {A : Nat → Prop} {cI cB cZ cP cC : ClassId} {a_m a_m_told a_m_kept a_m_isKept a_m_refused a_m_months a_m_heirs a_m_lasts a_m_cares a_m_bestCares a_m_ones a_m_others a_m_bytes a_m_anew a_m_values : Nat} {above : Int64} {below : Int64} {retired : Int32} {manyLine : Int32} {bytesLong : Int32} {bytes : Nat → Int32} {Post : Int32 → Int32 → Int32 → Int32 → Prop} {K_43 : Int32 → Int32 → Int32 → Int32 → Prop} (C0 : mxC p s m ar meth c cX10_lookAt RX10 none 5 D (mxTy cI cB cZ cP cC) A)
    (hK_43 : ∀ (tokenAt : Int32) (tokenLong : Int32) (token : Int32) (value : Int32) (H : Heap) (locs : List Loc) (ls : Array Slot), va_P D vwCl (ww_X10_lookAt a_m a_m_told a_m_kept a_m_isKept a_m_refused a_m_months a_m_heirs a_m_lasts a_m_cares a_m_bestCares a_m_ones a_m_others a_m_bytes a_m_anew a_m_values cI cB cZ cP cC above below retired manyLine bytesLong tokenAt tokenLong token value bytes) H → va_D A (ww_X10_lookAt a_m a_m_told a_m_kept a_m_isKept a_m_refused a_m_months a_m_heirs a_m_lasts a_m_cares a_m_bestCares a_m_ones a_m_others a_m_bytes a_m_anew a_m_values cI cB cZ cP cC above below retired manyLine bytesLong tokenAt tokenLong token value bytes) → va_S A s.heap H locs → lv_has ls 5 [(0, .ref a_m)] → K_43 tokenAt tokenLong token value → W p l e rm_X10_lookAt s m ar bl meth c H locs 0 0 (MQ bl (qq_X10_lookAt D a_m a_m_told a_m_kept a_m_isKept a_m_refused a_m_months a_m_heirs a_m_lasts a_m_cares a_m_bestCares a_m_ones a_m_others a_m_bytes a_m_anew a_m_values cI cB cZ cP cC above below retired manyLine bytesLong bytes Post A) ar s 0 0 A) (F0 m 43 ls [])) :
    ∀ (n : Nat) (tokenAt : Int32) (tokenLong : Int32) (token : Int32) (value : Int32) (H : Heap) (locs : List Loc) (ls : Array Slot), va_P D vwCl (ww_X10_lookAt a_m a_m_told a_m_kept a_m_isKept a_m_refused a_m_months a_m_heirs a_m_lasts a_m_cares a_m_bestCares a_m_ones a_m_others a_m_bytes a_m_anew a_m_values cI cB cZ cP cC above below retired manyLine bytesLong tokenAt tokenLong token value bytes) H → va_D A (ww_X10_lookAt a_m a_m_told a_m_kept a_m_isKept a_m_refused a_m_months a_m_heirs a_m_lasts a_m_cares a_m_bestCares a_m_ones a_m_others a_m_bytes a_m_anew a_m_values cI cB cZ cP cC above below retired manyLine bytesLong tokenAt tokenLong token value bytes) → va_S A s.heap H locs → lv_has ls 5 [(0, .ref a_m)] → wp_X10_lookAt_L5 bytesLong bytes Post K_43 n tokenAt tokenLong token value → W p l e rm_X10_lookAt s m ar bl meth c H locs 0 0 (MQ bl (qq_X10_lookAt D a_m a_m_told a_m_kept a_m_isKept a_m_refused a_m_months a_m_heirs a_m_lasts a_m_cares a_m_bestCares a_m_ones a_m_others a_m_bytes a_m_anew a_m_values cI cB cZ cP cC above below retired manyLine bytesLong bytes Post A) ar s 0 0 A) (F0 m 5 ls []) := by
  obtain ⟨hx, hb, hr, hlocks, hml, hown, hts, hK, hA⟩ := id C0
  intro n
  induction n with
  | zero =>
    intro tokenAt tokenLong token value H locs ls hP hD hS hl hw
    exact absurd hw (fun h => h)
  | succ n ih =>
    intro tokenAt tokenLong token value H locs ls hP hD hS hl hw
    refine lv_aload_n hx hb dX10_lookAt_5 rfl (lv_at hl 0 rfl) ?_
    refine mx_get (ci := 10) (C := RX10) (T := TX10) (N := 23) hx hb hown in_wsX100 hts hK hP 0 rfl rfl 17 (by decide) q_337 rfl (v := .int tokenAt) rfl dX10_lookAt_6 ?_
    refine lv_aload_n hx hb dX10_lookAt_9 rfl (lv_at hl 0 rfl) ?_
    refine mx_get (ci := 10) (C := RX10) (T := TX10) (N := 23) hx hb hown in_wsX100 hts hK hP 0 rfl rfl 16 (by decide) q_209 rfl (v := .int bytesLong) rfl dX10_lookAt_10 ?_
    refine lv_icmp_ge (tgt := 43) hx hb dX10_lookAt_13 (by decide) (fun c_1 => ?_) (fun c_1 => ?_)
    · replace hw := hw.1 c_1
      exact hK_43 tokenAt tokenLong token value _ _ _ hP hD hS (lv_sub hl [0] rfl) hw
    · replace hw := hw.2 c_1
      refine lv_aload_n hx hb dX10_lookAt_16 rfl (lv_at hl 0 rfl) ?_
      refine mx_get (ci := 10) (C := RX10) (T := TX10) (N := 23) hx hb hown in_wsX100 hts hK hP 0 rfl rfl 15 (by decide) q_103 rfl (v := .ref a_m_bytes) rfl dX10_lookAt_17 ?_
      refine lv_aload_n hx hb dX10_lookAt_20 rfl (lv_at hl 0 rfl) ?_
      refine mx_get (ci := 10) (C := RX10) (T := TX10) (N := 23) hx hb hown in_wsX100 hts hK hP 0 rfl rfl 17 (by decide) q_337 rfl (v := .int tokenAt) rfl dX10_lookAt_21 ?_
      obtain ⟨h_2, hw⟩ := hw
      refine mx_iald hx hb hK hP 1 0 rfl rfl h_2 (bytes tokenAt.toNatClampNeg) rfl dX10_lookAt_24 ?_
      refine lv_bipush (v := 32) hx hb dX10_lookAt_25 (by decide) ?_
      refine lv_icmp_ne (tgt := 43) hx hb dX10_lookAt_27 (by decide) (fun c_3 => ?_) (fun c_3 => ?_)
      · replace hw := hw.2 c_3
        exact hK_43 tokenAt tokenLong token value _ _ _ hP hD hS (lv_sub hl [0] rfl) hw
      · replace hw := hw.1 c_3
        refine lv_aload_n hx hb dX10_lookAt_30 rfl (lv_at hl 0 rfl) ?_
        refine lv_dup hx hb dX10_lookAt_31 rfl ?_
        refine mx_get (ci := 10) (C := RX10) (T := TX10) (N := 23) hx hb hown in_wsX100 hts hK hP 0 rfl rfl 17 (by decide) q_337 rfl (v := .int tokenAt) rfl dX10_lookAt_32 ?_
        refine lv_iconst (v := 1) hx hb dX10_lookAt_35 (by decide) ?_
        refine lv_iadd hx hb dX10_lookAt_36 ?_
        refine lv_topi (fun x_4 ex_4 => ?_)
        replace hw := hw x_4 ex_4
        refine mx_put (ci := 10) (C := RX10) (T := TX10) (N := 23) hx hb hown in_wsX100 tyX10 tyX10_ok nmX10 hts hK hP hD hS 0 rfl rfl 17 (by decide) q_337 rfl rfl rfl rfl (Nat.le_of_ble_eq_true rfl) (ww_X10_lookAt a_m a_m_told a_m_kept a_m_isKept a_m_refused a_m_months a_m_heirs a_m_lasts a_m_cares a_m_bestCares a_m_ones a_m_others a_m_bytes a_m_anew a_m_values cI cB cZ cP cC above below retired manyLine bytesLong x_4 tokenLong token value bytes) rfl dX10_lookAt_37 (fun H locs hP hD hS => ?_)
        refine lv_goto (tgt := 5) hx hb dX10_lookAt_40 (by decide) ?_
        exact ih x_4 tokenLong token value _ _ _ hP hD hS (lv_sub hl [0] rfl) hw
def wp_X10_lookAt_J208 (bytesLong : Int32) (bytes : Nat → Int32) (Post : Int32 → Int32 → Int32 → Int32 → Prop) (K_136 : Int32 → Int32 → Int32 → Int32 → Int32 → Prop) (v3 : Int32) (s0 : Int32) (s1 : Int32) (tokenAt : Int32) (tokenLong : Int32) (token : Int32) (value : Int32) : Prop :=
  (∀ x_25 : Int32, x_25 = s1 + s0 → K_136 v3 tokenAt x_25 token value)
set_option maxHeartbeats 4000000 in
set_option maxRecDepth 100000 in
theorem k_X10_lookAt_J208 {p : Program} {l : Launch} {e : Env} {s : State} {m : MethodId} {ar : Array Value} {bl : List Frame} {meth : Method} {c : Code} {D : va_G} {A : Nat → Prop} {cI cB cZ cP cC : ClassId} {a_m a_m_told a_m_kept a_m_isKept a_m_refused a_m_months a_m_heirs a_m_lasts a_m_cares a_m_bestCares a_m_ones a_m_others a_m_bytes a_m_anew a_m_values : Nat} {above : Int64} {below : Int64} {retired : Int32} {manyLine : Int32} {bytesLong : Int32} {bytes : Nat → Int32} {Post : Int32 → Int32 → Int32 → Int32 → Prop} {K_136 : Int32 → Int32 → Int32 → Int32 → Int32 → Prop} (C0 : mxC p s m ar meth c cX10_lookAt RX10 none 5 D (mxTy cI cB cZ cP cC) A)
    (hK_136 : ∀ (v3 : Int32) (tokenAt : Int32) (tokenLong : Int32) (token : Int32) (value : Int32) (H : Heap) (locs : List Loc) (ls : Array Slot), va_P D vwCl (ww_X10_lookAt a_m a_m_told a_m_kept a_m_isKept a_m_refused a_m_months a_m_heirs a_m_lasts a_m_cares a_m_bestCares a_m_ones a_m_others a_m_bytes a_m_anew a_m_values cI cB cZ cP cC above below retired manyLine bytesLong tokenAt tokenLong token value bytes) H → va_D A (ww_X10_lookAt a_m a_m_told a_m_kept a_m_isKept a_m_refused a_m_months a_m_heirs a_m_lasts a_m_cares a_m_bestCares a_m_ones a_m_others a_m_bytes a_m_anew a_m_values cI cB cZ cP cC above below retired manyLine bytesLong tokenAt tokenLong token value bytes) → va_S A s.heap H locs → lv_has ls 5 [(0, .ref a_m), (3, .int v3)] → K_136 v3 tokenAt tokenLong token value → W p l e rm_X10_lookAt s m ar bl meth c H locs 0 0 (MQ bl (qq_X10_lookAt D a_m a_m_told a_m_kept a_m_isKept a_m_refused a_m_months a_m_heirs a_m_lasts a_m_cares a_m_bestCares a_m_ones a_m_others a_m_bytes a_m_anew a_m_values cI cB cZ cP cC above below retired manyLine bytesLong bytes Post A) ar s 0 0 A) (F0 m 136 ls [])) :
    ∀ (v3 : Int32) (s0 : Int32) (s1 : Int32) (tokenAt : Int32) (tokenLong : Int32) (token : Int32) (value : Int32) (H : Heap) (locs : List Loc) (ls : Array Slot), va_P D vwCl (ww_X10_lookAt a_m a_m_told a_m_kept a_m_isKept a_m_refused a_m_months a_m_heirs a_m_lasts a_m_cares a_m_bestCares a_m_ones a_m_others a_m_bytes a_m_anew a_m_values cI cB cZ cP cC above below retired manyLine bytesLong tokenAt tokenLong token value bytes) H → va_D A (ww_X10_lookAt a_m a_m_told a_m_kept a_m_isKept a_m_refused a_m_months a_m_heirs a_m_lasts a_m_cares a_m_bestCares a_m_ones a_m_others a_m_bytes a_m_anew a_m_values cI cB cZ cP cC above below retired manyLine bytesLong tokenAt tokenLong token value bytes) → va_S A s.heap H locs → lv_has ls 5 [(0, .ref a_m), (3, .int v3)] → wp_X10_lookAt_J208 bytesLong bytes Post K_136 v3 s0 s1 tokenAt tokenLong token value → W p l e rm_X10_lookAt s m ar bl meth c H locs 0 0 (MQ bl (qq_X10_lookAt D a_m a_m_told a_m_kept a_m_isKept a_m_refused a_m_months a_m_heirs a_m_lasts a_m_cares a_m_bestCares a_m_ones a_m_others a_m_bytes a_m_anew a_m_values cI cB cZ cP cC above below retired manyLine bytesLong bytes Post A) ar s 0 0 A) (F0 m 208 ls [.int s0, .int s1, .ref a_m]) := by
  obtain ⟨hx, hb, hr, hlocks, hml, hown, hts, hK, hA⟩ := id C0
  intro v3 s0 s1 tokenAt tokenLong token value H locs ls hP hD hS hl hw
  refine lv_iadd hx hb dX10_lookAt_208 ?_
  refine lv_topi (fun x_25 ex_25 => ?_)
  replace hw := hw x_25 ex_25
  refine mx_put (ci := 10) (C := RX10) (T := TX10) (N := 23) hx hb hown in_wsX100 tyX10 tyX10_ok nmX10 hts hK hP hD hS 0 rfl rfl 18 (by decide) q_343 rfl rfl rfl rfl (Nat.le_of_ble_eq_true rfl) (ww_X10_lookAt a_m a_m_told a_m_kept a_m_isKept a_m_refused a_m_months a_m_heirs a_m_lasts a_m_cares a_m_bestCares a_m_ones a_m_others a_m_bytes a_m_anew a_m_values cI cB cZ cP cC above below retired manyLine bytesLong tokenAt x_25 token value bytes) rfl dX10_lookAt_209 (fun H locs hP hD hS => ?_)
  refine lv_goto (tgt := 136) hx hb dX10_lookAt_212 (by decide) ?_
  exact hK_136 v3 tokenAt x_25 token value _ _ _ hP hD hS (lv_sub hl [0, 1] rfl) hw
def wp_X10_lookAt_J193 (bytesLong : Int32) (bytes : Nat → Int32) (Post : Int32 → Int32 → Int32 → Int32 → Prop) (K_136 : Int32 → Int32 → Int32 → Int32 → Int32 → Prop) (s0 : Int32) (tokenAt : Int32) (tokenLong : Int32) (token : Int32) (value : Int32) : Prop :=
  ((s0 = 0 → (wp_X10_lookAt_J208 bytesLong bytes Post K_136 s0 0 tokenLong tokenAt tokenLong token value)) ∧ (¬ s0 = 0 → (wp_X10_lookAt_J208 bytesLong bytes Post K_136 s0 1 tokenLong tokenAt tokenLong token value)))
set_option maxHeartbeats 4000000 in
set_option maxRecDepth 100000 in
theorem k_X10_lookAt_J193 {p : Program} {l : Launch} {e : Env} {s : State} {m : MethodId} {ar : Array Value} {bl : List Frame} {meth : Method} {c : Code} {D : va_G} {A : Nat → Prop} {cI cB cZ cP cC : ClassId} {a_m a_m_told a_m_kept a_m_isKept a_m_refused a_m_months a_m_heirs a_m_lasts a_m_cares a_m_bestCares a_m_ones a_m_others a_m_bytes a_m_anew a_m_values : Nat} {above : Int64} {below : Int64} {retired : Int32} {manyLine : Int32} {bytesLong : Int32} {bytes : Nat → Int32} {Post : Int32 → Int32 → Int32 → Int32 → Prop} {K_136 : Int32 → Int32 → Int32 → Int32 → Int32 → Prop} (C0 : mxC p s m ar meth c cX10_lookAt RX10 none 5 D (mxTy cI cB cZ cP cC) A)
    (hK_136 : ∀ (v3 : Int32) (tokenAt : Int32) (tokenLong : Int32) (token : Int32) (value : Int32) (H : Heap) (locs : List Loc) (ls : Array Slot), va_P D vwCl (ww_X10_lookAt a_m a_m_told a_m_kept a_m_isKept a_m_refused a_m_months a_m_heirs a_m_lasts a_m_cares a_m_bestCares a_m_ones a_m_others a_m_bytes a_m_anew a_m_values cI cB cZ cP cC above below retired manyLine bytesLong tokenAt tokenLong token value bytes) H → va_D A (ww_X10_lookAt a_m a_m_told a_m_kept a_m_isKept a_m_refused a_m_months a_m_heirs a_m_lasts a_m_cares a_m_bestCares a_m_ones a_m_others a_m_bytes a_m_anew a_m_values cI cB cZ cP cC above below retired manyLine bytesLong tokenAt tokenLong token value bytes) → va_S A s.heap H locs → lv_has ls 5 [(0, .ref a_m), (3, .int v3)] → K_136 v3 tokenAt tokenLong token value → W p l e rm_X10_lookAt s m ar bl meth c H locs 0 0 (MQ bl (qq_X10_lookAt D a_m a_m_told a_m_kept a_m_isKept a_m_refused a_m_months a_m_heirs a_m_lasts a_m_cares a_m_bestCares a_m_ones a_m_others a_m_bytes a_m_anew a_m_values cI cB cZ cP cC above below retired manyLine bytesLong bytes Post A) ar s 0 0 A) (F0 m 136 ls [])) :
    ∀ (s0 : Int32) (tokenAt : Int32) (tokenLong : Int32) (token : Int32) (value : Int32) (H : Heap) (locs : List Loc) (ls : Array Slot), va_P D vwCl (ww_X10_lookAt a_m a_m_told a_m_kept a_m_isKept a_m_refused a_m_months a_m_heirs a_m_lasts a_m_cares a_m_bestCares a_m_ones a_m_others a_m_bytes a_m_anew a_m_values cI cB cZ cP cC above below retired manyLine bytesLong tokenAt tokenLong token value bytes) H → va_D A (ww_X10_lookAt a_m a_m_told a_m_kept a_m_isKept a_m_refused a_m_months a_m_heirs a_m_lasts a_m_cares a_m_bestCares a_m_ones a_m_others a_m_bytes a_m_anew a_m_values cI cB cZ cP cC above below retired manyLine bytesLong tokenAt tokenLong token value bytes) → va_S A s.heap H locs → lv_has ls 5 [(0, .ref a_m)] → wp_X10_lookAt_J193 bytesLong bytes Post K_136 s0 tokenAt tokenLong token value → W p l e rm_X10_lookAt s m ar bl meth c H locs 0 0 (MQ bl (qq_X10_lookAt D a_m a_m_told a_m_kept a_m_isKept a_m_refused a_m_months a_m_heirs a_m_lasts a_m_cares a_m_bestCares a_m_ones a_m_others a_m_bytes a_m_anew a_m_values cI cB cZ cP cC above below retired manyLine bytesLong bytes Post A) ar s 0 0 A) (F0 m 193 ls [.int s0]) := by
  obtain ⟨hx, hb, hr, hlocks, hml, hown, hts, hK, hA⟩ := id C0
  intro s0 tokenAt tokenLong token value H locs ls hP hD hS hl hw
  refine lv_istore_n (lv' := [(3, .int s0), (0, .ref a_m)]) hx hb dX10_lookAt_193 rfl hl (by decide) rfl (fun ls hl => ?_)
  refine lv_aload_n hx hb dX10_lookAt_194 rfl (lv_at hl 1 rfl) ?_
  refine lv_dup hx hb dX10_lookAt_195 rfl ?_
  refine mx_get (ci := 10) (C := RX10) (T := TX10) (N := 23) hx hb hown in_wsX100 hts hK hP 0 rfl rfl 18 (by decide) q_343 rfl (v := .int tokenLong) rfl dX10_lookAt_196 ?_
  refine lv_iload_n hx hb dX10_lookAt_199 rfl (lv_at hl 0 rfl) ?_
  refine lv_if_eq (tgt := 207) hx hb dX10_lookAt_200 (by decide) (fun c_24 => ?_) (fun c_24 => ?_)
  · replace hw := hw.1 c_24
    refine lv_iconst (v := 0) hx hb dX10_lookAt_207 (by decide) ?_
    refine k_X10_lookAt_J208 C0 ?_ s0 0 tokenLong tokenAt tokenLong token value _ _ _ hP hD hS (lv_sub hl [1, 0] rfl) hw
    intro v3_26 tokenAt_27 tokenLong_28 token_29 value_30 H locs ls hP hD hS hl hw
    exact hK_136 v3_26 tokenAt_27 tokenLong_28 token_29 value_30 _ _ _ hP hD hS (lv_sub hl [0, 1] rfl) hw
  · replace hw := hw.2 c_24
    refine lv_iconst (v := 1) hx hb dX10_lookAt_203 (by decide) ?_
    refine lv_goto (tgt := 208) hx hb dX10_lookAt_204 (by decide) ?_
    refine k_X10_lookAt_J208 C0 ?_ s0 1 tokenLong tokenAt tokenLong token value _ _ _ hP hD hS (lv_sub hl [1, 0] rfl) hw
    intro v3_31 tokenAt_32 tokenLong_33 token_34 value_35 H locs ls hP hD hS hl hw
    exact hK_136 v3_31 tokenAt_32 tokenLong_33 token_34 value_35 _ _ _ hP hD hS (lv_sub hl [0, 1] rfl) hw
def wp_X10_lookAt_L136 (bytesLong : Int32) (bytes : Nat → Int32) (Post : Int32 → Int32 → Int32 → Int32 → Prop) (K_215 : Int32 → Int32 → Int32 → Int32 → Prop) : Nat → Int32 → Int32 → Int32 → Int32 → Int32 → Prop
  | 0, _, _, _, _, _ => False
  | n + 1, v3, tokenAt, tokenLong, token, value => ((v3 = 0 → K_215 tokenAt tokenLong token value) ∧ (¬ v3 = 0 → ((bytesLong ≤ (tokenAt + tokenLong) → K_215 tokenAt tokenLong token value) ∧ (¬ bytesLong ≤ (tokenAt + tokenLong) → (vp_in (tokenAt + tokenLong) 150 ∧ (∀ x_21 : Int32, x_21 = bytes (tokenAt + tokenLong).toNatClampNeg → ((token = 1 → (wp_X10_isSmall x_21 (fun r_41 => (wp_X10_lookAt_J193 bytesLong bytes Post (fun (v3_42 : Int32) (tokenAt_43 : Int32) (tokenLong_44 : Int32) (token_45 : Int32) (value_46 : Int32) => wp_X10_lookAt_L136 bytesLong bytes Post K_215 n v3_42 tokenAt_43 tokenLong_44 token_45 value_46) r_41 tokenAt tokenLong token value)))) ∧ (¬ token = 1 → (wp_X10_isFigure x_21 (fun r_23 => (wp_X10_lookAt_J193 bytesLong bytes Post (fun (v3_36 : Int32) (tokenAt_37 : Int32) (tokenLong_38 : Int32) (token_39 : Int32) (value_40 : Int32) => wp_X10_lookAt_L136 bytesLong bytes Post K_215 n v3_36 tokenAt_37 tokenLong_38 token_39 value_40) r_23 tokenAt tokenLong token value)))))))))))
set_option maxHeartbeats 4000000 in
set_option maxRecDepth 100000 in
theorem k_X10_lookAt_L136 {p : Program} {l : Launch} {e : Env} {s : State} {m : MethodId} {ar : Array Value} {bl : List Frame} {meth : Method} {c : Code} {D : va_G} {A : Nat → Prop} {cI cB cZ cP cC : ClassId} {a_m a_m_told a_m_kept a_m_isKept a_m_refused a_m_months a_m_heirs a_m_lasts a_m_cares a_m_bestCares a_m_ones a_m_others a_m_bytes a_m_anew a_m_values : Nat} {above : Int64} {below : Int64} {retired : Int32} {manyLine : Int32} {bytesLong : Int32} {bytes : Nat → Int32} {Post : Int32 → Int32 → Int32 → Int32 → Prop} {K_215 : Int32 → Int32 → Int32 → Int32 → Prop} (C0 : mxC p s m ar meth c cX10_lookAt RX10 none 5 D (mxTy cI cB cZ cP cC) A)
    (hK_215 : ∀ (tokenAt : Int32) (tokenLong : Int32) (token : Int32) (value : Int32) (H : Heap) (locs : List Loc) (ls : Array Slot), va_P D vwCl (ww_X10_lookAt a_m a_m_told a_m_kept a_m_isKept a_m_refused a_m_months a_m_heirs a_m_lasts a_m_cares a_m_bestCares a_m_ones a_m_others a_m_bytes a_m_anew a_m_values cI cB cZ cP cC above below retired manyLine bytesLong tokenAt tokenLong token value bytes) H → va_D A (ww_X10_lookAt a_m a_m_told a_m_kept a_m_isKept a_m_refused a_m_months a_m_heirs a_m_lasts a_m_cares a_m_bestCares a_m_ones a_m_others a_m_bytes a_m_anew a_m_values cI cB cZ cP cC above below retired manyLine bytesLong tokenAt tokenLong token value bytes) → va_S A s.heap H locs → lv_has ls 5 [(0, .ref a_m)] → K_215 tokenAt tokenLong token value → W p l e rm_X10_lookAt s m ar bl meth c H locs 0 0 (MQ bl (qq_X10_lookAt D a_m a_m_told a_m_kept a_m_isKept a_m_refused a_m_months a_m_heirs a_m_lasts a_m_cares a_m_bestCares a_m_ones a_m_others a_m_bytes a_m_anew a_m_values cI cB cZ cP cC above below retired manyLine bytesLong bytes Post A) ar s 0 0 A) (F0 m 215 ls [])) :
    ∀ (n : Nat) (v3 : Int32) (tokenAt : Int32) (tokenLong : Int32) (token : Int32) (value : Int32) (H : Heap) (locs : List Loc) (ls : Array Slot), va_P D vwCl (ww_X10_lookAt a_m a_m_told a_m_kept a_m_isKept a_m_refused a_m_months a_m_heirs a_m_lasts a_m_cares a_m_bestCares a_m_ones a_m_others a_m_bytes a_m_anew a_m_values cI cB cZ cP cC above below retired manyLine bytesLong tokenAt tokenLong token value bytes) H → va_D A (ww_X10_lookAt a_m a_m_told a_m_kept a_m_isKept a_m_refused a_m_months a_m_heirs a_m_lasts a_m_cares a_m_bestCares a_m_ones a_m_others a_m_bytes a_m_anew a_m_values cI cB cZ cP cC above below retired manyLine bytesLong tokenAt tokenLong token value bytes) → va_S A s.heap H locs → lv_has ls 5 [(0, .ref a_m), (3, .int v3)] → wp_X10_lookAt_L136 bytesLong bytes Post K_215 n v3 tokenAt tokenLong token value → W p l e rm_X10_lookAt s m ar bl meth c H locs 0 0 (MQ bl (qq_X10_lookAt D a_m a_m_told a_m_kept a_m_isKept a_m_refused a_m_months a_m_heirs a_m_lasts a_m_cares a_m_bestCares a_m_ones a_m_others a_m_bytes a_m_anew a_m_values cI cB cZ cP cC above below retired manyLine bytesLong bytes Post A) ar s 0 0 A) (F0 m 136 ls []) := by
  obtain ⟨hx, hb, hr, hlocks, hml, hown, hts, hK, hA⟩ := id C0
  intro n
  induction n with
  | zero =>
    intro v3 tokenAt tokenLong token value H locs ls hP hD hS hl hw
    exact absurd hw (fun h => h)
  | succ n ih =>
    intro v3 tokenAt tokenLong token value H locs ls hP hD hS hl hw
    refine lv_iload_n hx hb dX10_lookAt_136 rfl (lv_at hl 1 rfl) ?_
    refine lv_if_eq (tgt := 215) hx hb dX10_lookAt_137 (by decide) (fun c_18 => ?_) (fun c_18 => ?_)
    · replace hw := hw.1 c_18
      exact hK_215 tokenAt tokenLong token value _ _ _ hP hD hS (lv_sub hl [0] rfl) hw
    · replace hw := hw.2 c_18
      refine lv_aload_n hx hb dX10_lookAt_140 rfl (lv_at hl 0 rfl) ?_
      refine mx_get (ci := 10) (C := RX10) (T := TX10) (N := 23) hx hb hown in_wsX100 hts hK hP 0 rfl rfl 17 (by decide) q_337 rfl (v := .int tokenAt) rfl dX10_lookAt_141 ?_
      refine lv_aload_n hx hb dX10_lookAt_144 rfl (lv_at hl 0 rfl) ?_
      refine mx_get (ci := 10) (C := RX10) (T := TX10) (N := 23) hx hb hown in_wsX100 hts hK hP 0 rfl rfl 18 (by decide) q_343 rfl (v := .int tokenLong) rfl dX10_lookAt_145 ?_
      refine lv_iadd hx hb dX10_lookAt_148 ?_
      refine lv_aload_n hx hb dX10_lookAt_149 rfl (lv_at hl 0 rfl) ?_
      refine mx_get (ci := 10) (C := RX10) (T := TX10) (N := 23) hx hb hown in_wsX100 hts hK hP 0 rfl rfl 16 (by decide) q_209 rfl (v := .int bytesLong) rfl dX10_lookAt_150 ?_
      refine lv_icmp_ge (tgt := 215) hx hb dX10_lookAt_153 (by decide) (fun c_19 => ?_) (fun c_19 => ?_)
      · replace hw := hw.1 c_19
        exact hK_215 tokenAt tokenLong token value _ _ _ hP hD hS (lv_sub hl [0] rfl) hw
      · replace hw := hw.2 c_19
        refine lv_aload_n hx hb dX10_lookAt_156 rfl (lv_at hl 0 rfl) ?_
        refine mx_get (ci := 10) (C := RX10) (T := TX10) (N := 23) hx hb hown in_wsX100 hts hK hP 0 rfl rfl 15 (by decide) q_103 rfl (v := .ref a_m_bytes) rfl dX10_lookAt_157 ?_
        refine lv_aload_n hx hb dX10_lookAt_160 rfl (lv_at hl 0 rfl) ?_
        refine mx_get (ci := 10) (C := RX10) (T := TX10) (N := 23) hx hb hown in_wsX100 hts hK hP 0 rfl rfl 17 (by decide) q_337 rfl (v := .int tokenAt) rfl dX10_lookAt_161 ?_
        refine lv_aload_n hx hb dX10_lookAt_164 rfl (lv_at hl 0 rfl) ?_
        refine mx_get (ci := 10) (C := RX10) (T := TX10) (N := 23) hx hb hown in_wsX100 hts hK hP 0 rfl rfl 18 (by decide) q_343 rfl (v := .int tokenLong) rfl dX10_lookAt_165 ?_
        refine lv_iadd hx hb dX10_lookAt_168 ?_
        obtain ⟨h_20, hw⟩ := hw
        refine mx_iald hx hb hK hP 1 0 rfl rfl h_20 (bytes (tokenAt + tokenLong).toNatClampNeg) rfl dX10_lookAt_169 ?_
        refine lv_topi (fun x_21 ex_21 => ?_)
        replace hw := hw x_21 ex_21
        refine lv_istore (lv' := [(4, .int x_21), (0, .ref a_m), (3, .int v3)]) hx hb dX10_lookAt_170 hl (by decide) rfl (fun ls hl => ?_)
        refine lv_aload_n hx hb dX10_lookAt_172 rfl (lv_at hl 1 rfl) ?_
        refine mx_get (ci := 10) (C := RX10) (T := TX10) (N := 23) hx hb hown in_wsX100 hts hK hP 0 rfl rfl 19 (by decide) q_338 rfl (v := .int token) rfl dX10_lookAt_173 ?_
        refine lv_iconst (v := 1) hx hb dX10_lookAt_176 (by decide) ?_
        refine lv_icmp_ne (tgt := 188) hx hb dX10_lookAt_177 (by decide) (fun c_22 => ?_) (fun c_22 => ?_)
        · replace hw := hw.2 c_22
          refine lv_iload hx hb dX10_lookAt_188 (lv_at hl 0 rfl) ?_
          refine mx_ki (mx_rS (rm := rm_X10_isFigure) (rest := []) hx hb hml hown hts (c_X10_isFigure l D cI cB cZ cP cC x_21 _ _ hw) q_350 q_351 q_5 q_352 hd_X10_isFigure ⟨(Nat.le_of_ble_eq_true rfl), (Nat.le_of_ble_eq_true rfl)⟩ rfl rfl hK hP hD [] rfl rfl rfl hl.1 rfl (Nat.le_of_ble_eq_true rfl) dX10_lookAt_190 ⟨(Nat.le_of_ble_eq_true rfl), (Nat.le_of_ble_eq_true rfl)⟩) hP hD hS hA [] [0, 1] [0, 1] (fun _ => ww_X10_lookAt a_m a_m_told a_m_kept a_m_isKept a_m_refused a_m_months a_m_heirs a_m_lasts a_m_cares a_m_bestCares a_m_ones a_m_others a_m_bytes a_m_anew a_m_values cI cB cZ cP cC above below retired manyLine bytesLong tokenAt tokenLong token value bytes) rfl rfl rfl (by decide) rfl (fun _ => rfl) (fun r_23 u H locs hw hP hD hS => ?_)
          try dsimp only at hw
          replace hP : va_P D vwCl (ww_X10_lookAt a_m a_m_told a_m_kept a_m_isKept a_m_refused a_m_months a_m_heirs a_m_lasts a_m_cares a_m_bestCares a_m_ones a_m_others a_m_bytes a_m_anew a_m_values cI cB cZ cP cC above below retired manyLine bytesLong tokenAt tokenLong token value bytes) H := hP
          replace hD : va_D A (ww_X10_lookAt a_m a_m_told a_m_kept a_m_isKept a_m_refused a_m_months a_m_heirs a_m_lasts a_m_cares a_m_bestCares a_m_ones a_m_others a_m_bytes a_m_anew a_m_values cI cB cZ cP cC above below retired manyLine bytesLong tokenAt tokenLong token value bytes) := hD
          refine k_X10_lookAt_J193 C0 ?_ r_23 tokenAt tokenLong token value _ _ _ hP hD hS (lv_sub hl [1] rfl) hw
          intro v3_36 tokenAt_37 tokenLong_38 token_39 value_40 H locs ls hP hD hS hl hw
          exact ih v3_36 tokenAt_37 tokenLong_38 token_39 value_40 _ _ _ hP hD hS (lv_sub hl [0, 1] rfl) hw
        · replace hw := hw.1 c_22
          refine lv_iload hx hb dX10_lookAt_180 (lv_at hl 0 rfl) ?_
          refine mx_ki (mx_rS (rm := rm_X10_isSmall) (rest := []) hx hb hml hown hts (c_X10_isSmall l D cI cB cZ cP cC x_21 _ _ hw) q_345 q_346 q_5 q_347 hd_X10_isSmall ⟨(Nat.le_of_ble_eq_true rfl), (Nat.le_of_ble_eq_true rfl)⟩ rfl rfl hK hP hD [] rfl rfl rfl hl.1 rfl (Nat.le_of_ble_eq_true rfl) dX10_lookAt_182 ⟨(Nat.le_of_ble_eq_true rfl), (Nat.le_of_ble_eq_true rfl)⟩) hP hD hS hA [] [0, 1] [0, 1] (fun _ => ww_X10_lookAt a_m a_m_told a_m_kept a_m_isKept a_m_refused a_m_months a_m_heirs a_m_lasts a_m_cares a_m_bestCares a_m_ones a_m_others a_m_bytes a_m_anew a_m_values cI cB cZ cP cC above below retired manyLine bytesLong tokenAt tokenLong token value bytes) rfl rfl rfl (by decide) rfl (fun _ => rfl) (fun r_41 u H locs hw hP hD hS => ?_)
          try dsimp only at hw
          replace hP : va_P D vwCl (ww_X10_lookAt a_m a_m_told a_m_kept a_m_isKept a_m_refused a_m_months a_m_heirs a_m_lasts a_m_cares a_m_bestCares a_m_ones a_m_others a_m_bytes a_m_anew a_m_values cI cB cZ cP cC above below retired manyLine bytesLong tokenAt tokenLong token value bytes) H := hP
          replace hD : va_D A (ww_X10_lookAt a_m a_m_told a_m_kept a_m_isKept a_m_refused a_m_months a_m_heirs a_m_lasts a_m_cares a_m_bestCares a_m_ones a_m_others a_m_bytes a_m_anew a_m_values cI cB cZ cP cC above below retired manyLine bytesLong tokenAt tokenLong token value bytes) := hD
          refine lv_goto (tgt := 193) hx hb dX10_lookAt_185 (by decide) ?_
          refine k_X10_lookAt_J193 C0 ?_ r_41 tokenAt tokenLong token value _ _ _ hP hD hS (lv_sub hl [1] rfl) hw
          intro v3_42 tokenAt_43 tokenLong_44 token_45 value_46 H locs ls hP hD hS hl hw
          exact ih v3_42 tokenAt_43 tokenLong_44 token_45 value_46 _ _ _ hP hD hS (lv_sub hl [0, 1] rfl) hw
def wp_X10_lookAt_L218 (bytesLong : Int32) (bytes : Nat → Int32) (Post : Int32 → Int32 → Int32 → Int32 → Prop) (K_274 : Int32 → Int32 → Int32 → Int32 → Prop) : Nat → Int32 → Int32 → Int32 → Int32 → Int32 → Prop
  | 0, _, _, _, _, _ => False
  | n + 1, v4, tokenAt, tokenLong, token, value => ((tokenLong ≤ v4 → K_274 tokenAt tokenLong token value) ∧ (¬ tokenLong ≤ v4 → ((2 ≤ v4 → K_274 tokenAt tokenLong token value) ∧ (¬ 2 ≤ v4 → ((token = 2 → (vp_in (tokenAt + v4) 150 ∧ (∀ x_55 : Int32, x_55 = ((10 * value) + (bytes (tokenAt + v4).toNatClampNeg)) - 48 → (∀ x_56 : Int32, x_56 = v4 + 1 → wp_X10_lookAt_L218 bytesLong bytes Post K_274 n x_56 tokenAt tokenLong token x_55)))) ∧ (¬ token = 2 → K_274 tokenAt tokenLong token value))))))
set_option maxHeartbeats 4000000 in
set_option maxRecDepth 100000 in
theorem k_X10_lookAt_L218 {p : Program} {l : Launch} {e : Env} {s : State} {m : MethodId} {ar : Array Value} {bl : List Frame} {meth : Method} {c : Code} {D : va_G} {A : Nat → Prop} {cI cB cZ cP cC : ClassId} {a_m a_m_told a_m_kept a_m_isKept a_m_refused a_m_months a_m_heirs a_m_lasts a_m_cares a_m_bestCares a_m_ones a_m_others a_m_bytes a_m_anew a_m_values : Nat} {above : Int64} {below : Int64} {retired : Int32} {manyLine : Int32} {bytesLong : Int32} {bytes : Nat → Int32} {Post : Int32 → Int32 → Int32 → Int32 → Prop} {K_274 : Int32 → Int32 → Int32 → Int32 → Prop} (C0 : mxC p s m ar meth c cX10_lookAt RX10 none 5 D (mxTy cI cB cZ cP cC) A)
    (hK_274 : ∀ (tokenAt : Int32) (tokenLong : Int32) (token : Int32) (value : Int32) (H : Heap) (locs : List Loc) (ls : Array Slot), va_P D vwCl (ww_X10_lookAt a_m a_m_told a_m_kept a_m_isKept a_m_refused a_m_months a_m_heirs a_m_lasts a_m_cares a_m_bestCares a_m_ones a_m_others a_m_bytes a_m_anew a_m_values cI cB cZ cP cC above below retired manyLine bytesLong tokenAt tokenLong token value bytes) H → va_D A (ww_X10_lookAt a_m a_m_told a_m_kept a_m_isKept a_m_refused a_m_months a_m_heirs a_m_lasts a_m_cares a_m_bestCares a_m_ones a_m_others a_m_bytes a_m_anew a_m_values cI cB cZ cP cC above below retired manyLine bytesLong tokenAt tokenLong token value bytes) → va_S A s.heap H locs → lv_has ls 5 [(0, .ref a_m)] → K_274 tokenAt tokenLong token value → W p l e rm_X10_lookAt s m ar bl meth c H locs 0 0 (MQ bl (qq_X10_lookAt D a_m a_m_told a_m_kept a_m_isKept a_m_refused a_m_months a_m_heirs a_m_lasts a_m_cares a_m_bestCares a_m_ones a_m_others a_m_bytes a_m_anew a_m_values cI cB cZ cP cC above below retired manyLine bytesLong bytes Post A) ar s 0 0 A) (F0 m 274 ls [])) :
    ∀ (n : Nat) (v4 : Int32) (tokenAt : Int32) (tokenLong : Int32) (token : Int32) (value : Int32) (H : Heap) (locs : List Loc) (ls : Array Slot), va_P D vwCl (ww_X10_lookAt a_m a_m_told a_m_kept a_m_isKept a_m_refused a_m_months a_m_heirs a_m_lasts a_m_cares a_m_bestCares a_m_ones a_m_others a_m_bytes a_m_anew a_m_values cI cB cZ cP cC above below retired manyLine bytesLong tokenAt tokenLong token value bytes) H → va_D A (ww_X10_lookAt a_m a_m_told a_m_kept a_m_isKept a_m_refused a_m_months a_m_heirs a_m_lasts a_m_cares a_m_bestCares a_m_ones a_m_others a_m_bytes a_m_anew a_m_values cI cB cZ cP cC above below retired manyLine bytesLong tokenAt tokenLong token value bytes) → va_S A s.heap H locs → lv_has ls 5 [(0, .ref a_m), (4, .int v4)] → wp_X10_lookAt_L218 bytesLong bytes Post K_274 n v4 tokenAt tokenLong token value → W p l e rm_X10_lookAt s m ar bl meth c H locs 0 0 (MQ bl (qq_X10_lookAt D a_m a_m_told a_m_kept a_m_isKept a_m_refused a_m_months a_m_heirs a_m_lasts a_m_cares a_m_bestCares a_m_ones a_m_others a_m_bytes a_m_anew a_m_values cI cB cZ cP cC above below retired manyLine bytesLong bytes Post A) ar s 0 0 A) (F0 m 218 ls []) := by
  obtain ⟨hx, hb, hr, hlocks, hml, hown, hts, hK, hA⟩ := id C0
  intro n
  induction n with
  | zero =>
    intro v4 tokenAt tokenLong token value H locs ls hP hD hS hl hw
    exact absurd hw (fun h => h)
  | succ n ih =>
    intro v4 tokenAt tokenLong token value H locs ls hP hD hS hl hw
    refine lv_iload hx hb dX10_lookAt_218 (lv_at hl 1 rfl) ?_
    refine lv_aload_n hx hb dX10_lookAt_220 rfl (lv_at hl 0 rfl) ?_
    refine mx_get (ci := 10) (C := RX10) (T := TX10) (N := 23) hx hb hown in_wsX100 hts hK hP 0 rfl rfl 18 (by decide) q_343 rfl (v := .int tokenLong) rfl dX10_lookAt_221 ?_
    refine lv_icmp_ge (tgt := 274) hx hb dX10_lookAt_224 (by decide) (fun c_51 => ?_) (fun c_51 => ?_)
    · replace hw := hw.1 c_51
      exact hK_274 tokenAt tokenLong token value _ _ _ hP hD hS (lv_sub hl [0] rfl) hw
    · replace hw := hw.2 c_51
      refine lv_iload hx hb dX10_lookAt_227 (lv_at hl 1 rfl) ?_
      refine lv_iconst (v := 2) hx hb dX10_lookAt_229 (by decide) ?_
      refine lv_icmp_ge (tgt := 274) hx hb dX10_lookAt_230 (by decide) (fun c_52 => ?_) (fun c_52 => ?_)
      · replace hw := hw.1 c_52
        exact hK_274 tokenAt tokenLong token value _ _ _ hP hD hS (lv_sub hl [0] rfl) hw
      · replace hw := hw.2 c_52
        refine lv_aload_n hx hb dX10_lookAt_233 rfl (lv_at hl 0 rfl) ?_
        refine mx_get (ci := 10) (C := RX10) (T := TX10) (N := 23) hx hb hown in_wsX100 hts hK hP 0 rfl rfl 19 (by decide) q_338 rfl (v := .int token) rfl dX10_lookAt_234 ?_
        refine lv_iconst (v := 2) hx hb dX10_lookAt_237 (by decide) ?_
        refine lv_icmp_ne (tgt := 274) hx hb dX10_lookAt_238 (by decide) (fun c_53 => ?_) (fun c_53 => ?_)
        · replace hw := hw.2 c_53
          exact hK_274 tokenAt tokenLong token value _ _ _ hP hD hS (lv_sub hl [0] rfl) hw
        · replace hw := hw.1 c_53
          refine lv_aload_n hx hb dX10_lookAt_241 rfl (lv_at hl 0 rfl) ?_
          refine lv_bipush (v := 10) hx hb dX10_lookAt_242 (by decide) ?_
          refine lv_aload_n hx hb dX10_lookAt_244 rfl (lv_at hl 0 rfl) ?_
          refine mx_get (ci := 10) (C := RX10) (T := TX10) (N := 23) hx hb hown in_wsX100 hts hK hP 0 rfl rfl 20 (by decide) q_344 rfl (v := .int value) rfl dX10_lookAt_245 ?_
          refine lv_imul hx hb dX10_lookAt_248 ?_
          refine lv_aload_n hx hb dX10_lookAt_249 rfl (lv_at hl 0 rfl) ?_
          refine mx_get (ci := 10) (C := RX10) (T := TX10) (N := 23) hx hb hown in_wsX100 hts hK hP 0 rfl rfl 15 (by decide) q_103 rfl (v := .ref a_m_bytes) rfl dX10_lookAt_250 ?_
          refine lv_aload_n hx hb dX10_lookAt_253 rfl (lv_at hl 0 rfl) ?_
          refine mx_get (ci := 10) (C := RX10) (T := TX10) (N := 23) hx hb hown in_wsX100 hts hK hP 0 rfl rfl 17 (by decide) q_337 rfl (v := .int tokenAt) rfl dX10_lookAt_254 ?_
          refine lv_iload hx hb dX10_lookAt_257 (lv_at hl 1 rfl) ?_
          refine lv_iadd hx hb dX10_lookAt_259 ?_
          obtain ⟨h_54, hw⟩ := hw
          refine mx_iald hx hb hK hP 1 0 rfl rfl h_54 (bytes (tokenAt + v4).toNatClampNeg) rfl dX10_lookAt_260 ?_
          refine lv_iadd hx hb dX10_lookAt_261 ?_
          refine lv_bipush (v := 48) hx hb dX10_lookAt_262 (by decide) ?_
          refine lv_isub hx hb dX10_lookAt_264 ?_
          refine lv_topi (fun x_55 ex_55 => ?_)
          replace hw := hw x_55 ex_55
          refine mx_put (ci := 10) (C := RX10) (T := TX10) (N := 23) hx hb hown in_wsX100 tyX10 tyX10_ok nmX10 hts hK hP hD hS 0 rfl rfl 20 (by decide) q_344 rfl rfl rfl rfl (Nat.le_of_ble_eq_true rfl) (ww_X10_lookAt a_m a_m_told a_m_kept a_m_isKept a_m_refused a_m_months a_m_heirs a_m_lasts a_m_cares a_m_bestCares a_m_ones a_m_others a_m_bytes a_m_anew a_m_values cI cB cZ cP cC above below retired manyLine bytesLong tokenAt tokenLong token x_55 bytes) rfl dX10_lookAt_265 (fun H locs hP hD hS => ?_)
          obtain ⟨x_56, ex_56⟩ : ∃ y : Int32, y = v4 + 1 := ⟨_, rfl⟩
          replace hw := hw x_56 ex_56
          refine lv_iinc (v := x_56) (lv' := [(4, .int x_56), (0, .ref a_m)]) hx hb dX10_lookAt_268 hl (k := 1) rfl (by rw [ex_56]; rfl) (by decide) rfl (fun ls hl => ?_)
          refine lv_goto (tgt := 218) hx hb dX10_lookAt_271 (by decide) ?_
          exact ih x_56 tokenAt tokenLong token x_55 _ _ _ hP hD hS (lv_sub hl [1, 0] rfl) hw
def wp_X10_lookAt_J274 (bytesLong : Int32) (bytes : Nat → Int32) (Post : Int32 → Int32 → Int32 → Int32 → Prop)  (tokenAt : Int32) (tokenLong : Int32) (token : Int32) (value : Int32) : Prop :=
  ((token = 2 → ((tokenLong ≤ 2 → Post tokenAt tokenLong token value) ∧ (¬ tokenLong ≤ 2 → Post tokenAt tokenLong 4 value))) ∧ (¬ token = 2 → Post tokenAt tokenLong token value))
set_option maxHeartbeats 4000000 in
set_option maxRecDepth 100000 in
theorem k_X10_lookAt_J274 {p : Program} {l : Launch} {e : Env} {s : State} {m : MethodId} {ar : Array Value} {bl : List Frame} {meth : Method} {c : Code} {D : va_G} {A : Nat → Prop} {cI cB cZ cP cC : ClassId} {a_m a_m_told a_m_kept a_m_isKept a_m_refused a_m_months a_m_heirs a_m_lasts a_m_cares a_m_bestCares a_m_ones a_m_others a_m_bytes a_m_anew a_m_values : Nat} {above : Int64} {below : Int64} {retired : Int32} {manyLine : Int32} {bytesLong : Int32} {bytes : Nat → Int32} {Post : Int32 → Int32 → Int32 → Int32 → Prop} (C0 : mxC p s m ar meth c cX10_lookAt RX10 none 5 D (mxTy cI cB cZ cP cC) A) :
    ∀ (tokenAt : Int32) (tokenLong : Int32) (token : Int32) (value : Int32) (H : Heap) (locs : List Loc) (ls : Array Slot), va_P D vwCl (ww_X10_lookAt a_m a_m_told a_m_kept a_m_isKept a_m_refused a_m_months a_m_heirs a_m_lasts a_m_cares a_m_bestCares a_m_ones a_m_others a_m_bytes a_m_anew a_m_values cI cB cZ cP cC above below retired manyLine bytesLong tokenAt tokenLong token value bytes) H → va_D A (ww_X10_lookAt a_m a_m_told a_m_kept a_m_isKept a_m_refused a_m_months a_m_heirs a_m_lasts a_m_cares a_m_bestCares a_m_ones a_m_others a_m_bytes a_m_anew a_m_values cI cB cZ cP cC above below retired manyLine bytesLong tokenAt tokenLong token value bytes) → va_S A s.heap H locs → lv_has ls 5 [(0, .ref a_m)] → wp_X10_lookAt_J274 bytesLong bytes Post  tokenAt tokenLong token value → W p l e rm_X10_lookAt s m ar bl meth c H locs 0 0 (MQ bl (qq_X10_lookAt D a_m a_m_told a_m_kept a_m_isKept a_m_refused a_m_months a_m_heirs a_m_lasts a_m_cares a_m_bestCares a_m_ones a_m_others a_m_bytes a_m_anew a_m_values cI cB cZ cP cC above below retired manyLine bytesLong bytes Post A) ar s 0 0 A) (F0 m 274 ls []) := by
  obtain ⟨hx, hb, hr, hlocks, hml, hown, hts, hK, hA⟩ := id C0
  intro tokenAt tokenLong token value H locs ls hP hD hS hl hw
  refine lv_aload_n hx hb dX10_lookAt_274 rfl (lv_at hl 0 rfl) ?_
  refine lv_aload_n hx hb dX10_lookAt_275 rfl (lv_at hl 0 rfl) ?_
  refine mx_get (ci := 10) (C := RX10) (T := TX10) (N := 23) hx hb hown in_wsX100 hts hK hP 0 rfl rfl 19 (by decide) q_338 rfl (v := .int token) rfl dX10_lookAt_276 ?_
  refine lv_iconst (v := 2) hx hb dX10_lookAt_279 (by decide) ?_
  refine lv_icmp_ne (tgt := 295) hx hb dX10_lookAt_280 (by decide) (fun c_61 => ?_) (fun c_61 => ?_)
  · replace hw := hw.2 c_61
    refine lv_aload_n hx hb dX10_lookAt_295 rfl (lv_at hl 0 rfl) ?_
    refine mx_get (ci := 10) (C := RX10) (T := TX10) (N := 23) hx hb hown in_wsX100 hts hK hP 0 rfl rfl 19 (by decide) q_338 rfl (v := .int token) rfl dX10_lookAt_296 ?_
    refine mx_put (ci := 10) (C := RX10) (T := TX10) (N := 23) hx hb hown in_wsX100 tyX10 tyX10_ok nmX10 hts hK hP hD hS 0 rfl rfl 19 (by decide) q_338 rfl rfl rfl rfl (Nat.le_of_ble_eq_true rfl) (ww_X10_lookAt a_m a_m_told a_m_kept a_m_isKept a_m_refused a_m_months a_m_heirs a_m_lasts a_m_cares a_m_bestCares a_m_ones a_m_others a_m_bytes a_m_anew a_m_values cI cB cZ cP cC above below retired manyLine bytesLong tokenAt tokenLong token value bytes) rfl dX10_lookAt_299 (fun H locs hP hD hS => ?_)
    exact mx_vret (tokenAt, tokenLong, token, value) hx hb hr hlocks hw hK hP hD hS dX10_lookAt_302
  · replace hw := hw.1 c_61
    refine lv_aload_n hx hb dX10_lookAt_283 rfl (lv_at hl 0 rfl) ?_
    refine mx_get (ci := 10) (C := RX10) (T := TX10) (N := 23) hx hb hown in_wsX100 hts hK hP 0 rfl rfl 18 (by decide) q_343 rfl (v := .int tokenLong) rfl dX10_lookAt_284 ?_
    refine lv_iconst (v := 2) hx hb dX10_lookAt_287 (by decide) ?_
    refine lv_icmp_le (tgt := 295) hx hb dX10_lookAt_288 (by decide) (fun c_62 => ?_) (fun c_62 => ?_)
    · replace hw := hw.1 c_62
      refine lv_aload_n hx hb dX10_lookAt_295 rfl (lv_at hl 0 rfl) ?_
      refine mx_get (ci := 10) (C := RX10) (T := TX10) (N := 23) hx hb hown in_wsX100 hts hK hP 0 rfl rfl 19 (by decide) q_338 rfl (v := .int token) rfl dX10_lookAt_296 ?_
      refine mx_put (ci := 10) (C := RX10) (T := TX10) (N := 23) hx hb hown in_wsX100 tyX10 tyX10_ok nmX10 hts hK hP hD hS 0 rfl rfl 19 (by decide) q_338 rfl rfl rfl rfl (Nat.le_of_ble_eq_true rfl) (ww_X10_lookAt a_m a_m_told a_m_kept a_m_isKept a_m_refused a_m_months a_m_heirs a_m_lasts a_m_cares a_m_bestCares a_m_ones a_m_others a_m_bytes a_m_anew a_m_values cI cB cZ cP cC above below retired manyLine bytesLong tokenAt tokenLong token value bytes) rfl dX10_lookAt_299 (fun H locs hP hD hS => ?_)
      exact mx_vret (tokenAt, tokenLong, token, value) hx hb hr hlocks hw hK hP hD hS dX10_lookAt_302
    · replace hw := hw.2 c_62
      refine lv_iconst (v := 4) hx hb dX10_lookAt_291 (by decide) ?_
      refine lv_goto (tgt := 299) hx hb dX10_lookAt_292 (by decide) ?_
      refine mx_put (ci := 10) (C := RX10) (T := TX10) (N := 23) hx hb hown in_wsX100 tyX10 tyX10_ok nmX10 hts hK hP hD hS 0 rfl rfl 19 (by decide) q_338 rfl rfl rfl rfl (Nat.le_of_ble_eq_true rfl) (ww_X10_lookAt a_m a_m_told a_m_kept a_m_isKept a_m_refused a_m_months a_m_heirs a_m_lasts a_m_cares a_m_bestCares a_m_ones a_m_others a_m_bytes a_m_anew a_m_values cI cB cZ cP cC above below retired manyLine bytesLong tokenAt tokenLong 4 value bytes) rfl dX10_lookAt_299 (fun H locs hP hD hS => ?_)
      exact mx_vret (tokenAt, tokenLong, 4, value) hx hb hr hlocks hw hK hP hD hS dX10_lookAt_302
def wp_X10_lookAt_J215 (bytesLong : Int32) (bytes : Nat → Int32) (Post : Int32 → Int32 → Int32 → Int32 → Prop)  (tokenAt : Int32) (tokenLong : Int32) (token : Int32) (value : Int32) : Prop :=
  (∃ k_63 : Nat, wp_X10_lookAt_L218 bytesLong bytes Post (fun (tokenAt_57 : Int32) (tokenLong_58 : Int32) (token_59 : Int32) (value_60 : Int32) => (wp_X10_lookAt_J274 bytesLong bytes Post tokenAt_57 tokenLong_58 token_59 value_60)) k_63 0 tokenAt tokenLong token value)
set_option maxHeartbeats 4000000 in
set_option maxRecDepth 100000 in
theorem k_X10_lookAt_J215 {p : Program} {l : Launch} {e : Env} {s : State} {m : MethodId} {ar : Array Value} {bl : List Frame} {meth : Method} {c : Code} {D : va_G} {A : Nat → Prop} {cI cB cZ cP cC : ClassId} {a_m a_m_told a_m_kept a_m_isKept a_m_refused a_m_months a_m_heirs a_m_lasts a_m_cares a_m_bestCares a_m_ones a_m_others a_m_bytes a_m_anew a_m_values : Nat} {above : Int64} {below : Int64} {retired : Int32} {manyLine : Int32} {bytesLong : Int32} {bytes : Nat → Int32} {Post : Int32 → Int32 → Int32 → Int32 → Prop} (C0 : mxC p s m ar meth c cX10_lookAt RX10 none 5 D (mxTy cI cB cZ cP cC) A) :
    ∀ (tokenAt : Int32) (tokenLong : Int32) (token : Int32) (value : Int32) (H : Heap) (locs : List Loc) (ls : Array Slot), va_P D vwCl (ww_X10_lookAt a_m a_m_told a_m_kept a_m_isKept a_m_refused a_m_months a_m_heirs a_m_lasts a_m_cares a_m_bestCares a_m_ones a_m_others a_m_bytes a_m_anew a_m_values cI cB cZ cP cC above below retired manyLine bytesLong tokenAt tokenLong token value bytes) H → va_D A (ww_X10_lookAt a_m a_m_told a_m_kept a_m_isKept a_m_refused a_m_months a_m_heirs a_m_lasts a_m_cares a_m_bestCares a_m_ones a_m_others a_m_bytes a_m_anew a_m_values cI cB cZ cP cC above below retired manyLine bytesLong tokenAt tokenLong token value bytes) → va_S A s.heap H locs → lv_has ls 5 [(0, .ref a_m)] → wp_X10_lookAt_J215 bytesLong bytes Post  tokenAt tokenLong token value → W p l e rm_X10_lookAt s m ar bl meth c H locs 0 0 (MQ bl (qq_X10_lookAt D a_m a_m_told a_m_kept a_m_isKept a_m_refused a_m_months a_m_heirs a_m_lasts a_m_cares a_m_bestCares a_m_ones a_m_others a_m_bytes a_m_anew a_m_values cI cB cZ cP cC above below retired manyLine bytesLong bytes Post A) ar s 0 0 A) (F0 m 215 ls []) := by
  obtain ⟨hx, hb, hr, hlocks, hml, hown, hts, hK, hA⟩ := id C0
  intro tokenAt tokenLong token value H locs ls hP hD hS hl hw
  refine lv_iconst (v := 0) hx hb dX10_lookAt_215 (by decide) ?_
  refine lv_istore (lv' := [(4, .int 0), (0, .ref a_m)]) hx hb dX10_lookAt_216 hl (by decide) rfl (fun ls hl => ?_)
  obtain ⟨n0, hw⟩ := hw
  refine k_X10_lookAt_L218 C0 ?_ n0 0 tokenAt tokenLong token value _ _ _ hP hD hS (lv_sub hl [1, 0] rfl) hw
  intro tokenAt_57 tokenLong_58 token_59 value_60 H locs ls hP hD hS hl hw
  exact k_X10_lookAt_J274 C0  tokenAt_57 tokenLong_58 token_59 value_60 _ _ _ hP hD hS (lv_sub hl [0] rfl) hw
def wp_X10_lookAt_J135 (bytesLong : Int32) (bytes : Nat → Int32) (Post : Int32 → Int32 → Int32 → Int32 → Prop)  (s0 : Int32) (tokenAt : Int32) (tokenLong : Int32) (token : Int32) (value : Int32) : Prop :=
  (∃ k_64 : Nat, wp_X10_lookAt_L136 bytesLong bytes Post (fun (tokenAt_47 : Int32) (tokenLong_48 : Int32) (token_49 : Int32) (value_50 : Int32) => (wp_X10_lookAt_J215 bytesLong bytes Post tokenAt_47 tokenLong_48 token_49 value_50)) k_64 s0 tokenAt tokenLong token value)
set_option maxHeartbeats 4000000 in
set_option maxRecDepth 100000 in
theorem k_X10_lookAt_J135 {p : Program} {l : Launch} {e : Env} {s : State} {m : MethodId} {ar : Array Value} {bl : List Frame} {meth : Method} {c : Code} {D : va_G} {A : Nat → Prop} {cI cB cZ cP cC : ClassId} {a_m a_m_told a_m_kept a_m_isKept a_m_refused a_m_months a_m_heirs a_m_lasts a_m_cares a_m_bestCares a_m_ones a_m_others a_m_bytes a_m_anew a_m_values : Nat} {above : Int64} {below : Int64} {retired : Int32} {manyLine : Int32} {bytesLong : Int32} {bytes : Nat → Int32} {Post : Int32 → Int32 → Int32 → Int32 → Prop} (C0 : mxC p s m ar meth c cX10_lookAt RX10 none 5 D (mxTy cI cB cZ cP cC) A) :
    ∀ (s0 : Int32) (tokenAt : Int32) (tokenLong : Int32) (token : Int32) (value : Int32) (H : Heap) (locs : List Loc) (ls : Array Slot), va_P D vwCl (ww_X10_lookAt a_m a_m_told a_m_kept a_m_isKept a_m_refused a_m_months a_m_heirs a_m_lasts a_m_cares a_m_bestCares a_m_ones a_m_others a_m_bytes a_m_anew a_m_values cI cB cZ cP cC above below retired manyLine bytesLong tokenAt tokenLong token value bytes) H → va_D A (ww_X10_lookAt a_m a_m_told a_m_kept a_m_isKept a_m_refused a_m_months a_m_heirs a_m_lasts a_m_cares a_m_bestCares a_m_ones a_m_others a_m_bytes a_m_anew a_m_values cI cB cZ cP cC above below retired manyLine bytesLong tokenAt tokenLong token value bytes) → va_S A s.heap H locs → lv_has ls 5 [(0, .ref a_m)] → wp_X10_lookAt_J135 bytesLong bytes Post  s0 tokenAt tokenLong token value → W p l e rm_X10_lookAt s m ar bl meth c H locs 0 0 (MQ bl (qq_X10_lookAt D a_m a_m_told a_m_kept a_m_isKept a_m_refused a_m_months a_m_heirs a_m_lasts a_m_cares a_m_bestCares a_m_ones a_m_others a_m_bytes a_m_anew a_m_values cI cB cZ cP cC above below retired manyLine bytesLong bytes Post A) ar s 0 0 A) (F0 m 135 ls [.int s0]) := by
  obtain ⟨hx, hb, hr, hlocks, hml, hown, hts, hK, hA⟩ := id C0
  intro s0 tokenAt tokenLong token value H locs ls hP hD hS hl hw
  refine lv_istore_n (lv' := [(3, .int s0), (0, .ref a_m)]) hx hb dX10_lookAt_135 rfl hl (by decide) rfl (fun ls hl => ?_)
  obtain ⟨n0, hw⟩ := hw
  refine k_X10_lookAt_L136 C0 ?_ n0 s0 tokenAt tokenLong token value _ _ _ hP hD hS (lv_sub hl [1, 0] rfl) hw
  intro tokenAt_47 tokenLong_48 token_49 value_50 H locs ls hP hD hS hl hw
  exact k_X10_lookAt_J215 C0  tokenAt_47 tokenLong_48 token_49 value_50 _ _ _ hP hD hS (lv_sub hl [0] rfl) hw
def wp_X10_lookAt_J114 (bytesLong : Int32) (bytes : Nat → Int32) (Post : Int32 → Int32 → Int32 → Int32 → Prop)  (s0 : Int32) (tokenAt : Int32) (tokenLong : Int32) (token : Int32) (value : Int32) : Prop :=
  ((3 ≤ s0 → (wp_X10_lookAt_J135 bytesLong bytes Post 0 tokenAt 1 s0 value)) ∧ (¬ 3 ≤ s0 → (wp_X10_lookAt_J135 bytesLong bytes Post 1 tokenAt 1 s0 value)))
set_option maxHeartbeats 4000000 in
set_option maxRecDepth 100000 in
theorem k_X10_lookAt_J114 {p : Program} {l : Launch} {e : Env} {s : State} {m : MethodId} {ar : Array Value} {bl : List Frame} {meth : Method} {c : Code} {D : va_G} {A : Nat → Prop} {cI cB cZ cP cC : ClassId} {a_m a_m_told a_m_kept a_m_isKept a_m_refused a_m_months a_m_heirs a_m_lasts a_m_cares a_m_bestCares a_m_ones a_m_others a_m_bytes a_m_anew a_m_values : Nat} {above : Int64} {below : Int64} {retired : Int32} {manyLine : Int32} {bytesLong : Int32} {bytes : Nat → Int32} {Post : Int32 → Int32 → Int32 → Int32 → Prop} (C0 : mxC p s m ar meth c cX10_lookAt RX10 none 5 D (mxTy cI cB cZ cP cC) A) :
    ∀ (s0 : Int32) (tokenAt : Int32) (tokenLong : Int32) (token : Int32) (value : Int32) (H : Heap) (locs : List Loc) (ls : Array Slot), va_P D vwCl (ww_X10_lookAt a_m a_m_told a_m_kept a_m_isKept a_m_refused a_m_months a_m_heirs a_m_lasts a_m_cares a_m_bestCares a_m_ones a_m_others a_m_bytes a_m_anew a_m_values cI cB cZ cP cC above below retired manyLine bytesLong tokenAt tokenLong token value bytes) H → va_D A (ww_X10_lookAt a_m a_m_told a_m_kept a_m_isKept a_m_refused a_m_months a_m_heirs a_m_lasts a_m_cares a_m_bestCares a_m_ones a_m_others a_m_bytes a_m_anew a_m_values cI cB cZ cP cC above below retired manyLine bytesLong tokenAt tokenLong token value bytes) → va_S A s.heap H locs → lv_has ls 5 [(0, .ref a_m)] → wp_X10_lookAt_J114 bytesLong bytes Post  s0 tokenAt tokenLong token value → W p l e rm_X10_lookAt s m ar bl meth c H locs 0 0 (MQ bl (qq_X10_lookAt D a_m a_m_told a_m_kept a_m_isKept a_m_refused a_m_months a_m_heirs a_m_lasts a_m_cares a_m_bestCares a_m_ones a_m_others a_m_bytes a_m_anew a_m_values cI cB cZ cP cC above below retired manyLine bytesLong bytes Post A) ar s 0 0 A) (F0 m 114 ls [.int s0, .ref a_m]) := by
  obtain ⟨hx, hb, hr, hlocks, hml, hown, hts, hK, hA⟩ := id C0
  intro s0 tokenAt tokenLong token value H locs ls hP hD hS hl hw
  refine mx_put (ci := 10) (C := RX10) (T := TX10) (N := 23) hx hb hown in_wsX100 tyX10 tyX10_ok nmX10 hts hK hP hD hS 0 rfl rfl 19 (by decide) q_338 rfl rfl rfl rfl (Nat.le_of_ble_eq_true rfl) (ww_X10_lookAt a_m a_m_told a_m_kept a_m_isKept a_m_refused a_m_months a_m_heirs a_m_lasts a_m_cares a_m_bestCares a_m_ones a_m_others a_m_bytes a_m_anew a_m_values cI cB cZ cP cC above below retired manyLine bytesLong tokenAt tokenLong s0 value bytes) rfl dX10_lookAt_114 (fun H locs hP hD hS => ?_)
  refine lv_aload_n hx hb dX10_lookAt_117 rfl (lv_at hl 0 rfl) ?_
  refine lv_iconst (v := 1) hx hb dX10_lookAt_118 (by decide) ?_
  refine mx_put (ci := 10) (C := RX10) (T := TX10) (N := 23) hx hb hown in_wsX100 tyX10 tyX10_ok nmX10 hts hK hP hD hS 0 rfl rfl 18 (by decide) q_343 rfl rfl rfl rfl (Nat.le_of_ble_eq_true rfl) (ww_X10_lookAt a_m a_m_told a_m_kept a_m_isKept a_m_refused a_m_months a_m_heirs a_m_lasts a_m_cares a_m_bestCares a_m_ones a_m_others a_m_bytes a_m_anew a_m_values cI cB cZ cP cC above below retired manyLine bytesLong tokenAt 1 s0 value bytes) rfl dX10_lookAt_119 (fun H locs hP hD hS => ?_)
  refine lv_aload_n hx hb dX10_lookAt_122 rfl (lv_at hl 0 rfl) ?_
  refine mx_get (ci := 10) (C := RX10) (T := TX10) (N := 23) hx hb hown in_wsX100 hts hK hP 0 rfl rfl 19 (by decide) q_338 rfl (v := .int s0) rfl dX10_lookAt_123 ?_
  refine lv_iconst (v := 3) hx hb dX10_lookAt_126 (by decide) ?_
  refine lv_icmp_ge (tgt := 134) hx hb dX10_lookAt_127 (by decide) (fun c_17 => ?_) (fun c_17 => ?_)
  · replace hw := hw.1 c_17
    refine lv_iconst (v := 0) hx hb dX10_lookAt_134 (by decide) ?_
    exact k_X10_lookAt_J135 C0  0 tokenAt 1 s0 value _ _ _ hP hD hS (lv_sub hl [0] rfl) hw
  · replace hw := hw.2 c_17
    refine lv_iconst (v := 1) hx hb dX10_lookAt_130 (by decide) ?_
    refine lv_goto (tgt := 135) hx hb dX10_lookAt_131 (by decide) ?_
    exact k_X10_lookAt_J135 C0  1 tokenAt 1 s0 value _ _ _ hP hD hS (lv_sub hl [0] rfl) hw
def wp_X10_lookAt_J43 (bytesLong : Int32) (bytes : Nat → Int32) (Post : Int32 → Int32 → Int32 → Int32 → Prop)  (tokenAt : Int32) (tokenLong : Int32) (token : Int32) (value : Int32) : Prop :=
  ((tokenAt = bytesLong → Post tokenAt 0 0 0) ∧ (¬ tokenAt = bytesLong → (vp_in tokenAt 150 ∧ (∀ x_11 : Int32, x_11 = bytes tokenAt.toNatClampNeg → (wp_X10_isSmall x_11 (fun r_12 => ((r_12 = 0 → (wp_X10_isFigure x_11 (fun r_14 => ((r_14 = 0 → ((x_11 = 59 → (wp_X10_lookAt_J114 bytesLong bytes Post 3 tokenAt 0 0 0)) ∧ (¬ x_11 = 59 → (wp_X10_lookAt_J114 bytesLong bytes Post 4 tokenAt 0 0 0)))) ∧ (¬ r_14 = 0 → (wp_X10_lookAt_J114 bytesLong bytes Post 2 tokenAt 0 0 0)))))) ∧ (¬ r_12 = 0 → (wp_X10_lookAt_J114 bytesLong bytes Post 1 tokenAt 0 0 0)))))))))
set_option maxHeartbeats 4000000 in
set_option maxRecDepth 100000 in
theorem k_X10_lookAt_J43 {p : Program} {l : Launch} {e : Env} {s : State} {m : MethodId} {ar : Array Value} {bl : List Frame} {meth : Method} {c : Code} {D : va_G} {A : Nat → Prop} {cI cB cZ cP cC : ClassId} {a_m a_m_told a_m_kept a_m_isKept a_m_refused a_m_months a_m_heirs a_m_lasts a_m_cares a_m_bestCares a_m_ones a_m_others a_m_bytes a_m_anew a_m_values : Nat} {above : Int64} {below : Int64} {retired : Int32} {manyLine : Int32} {bytesLong : Int32} {bytes : Nat → Int32} {Post : Int32 → Int32 → Int32 → Int32 → Prop} (C0 : mxC p s m ar meth c cX10_lookAt RX10 none 5 D (mxTy cI cB cZ cP cC) A) :
    ∀ (tokenAt : Int32) (tokenLong : Int32) (token : Int32) (value : Int32) (H : Heap) (locs : List Loc) (ls : Array Slot), va_P D vwCl (ww_X10_lookAt a_m a_m_told a_m_kept a_m_isKept a_m_refused a_m_months a_m_heirs a_m_lasts a_m_cares a_m_bestCares a_m_ones a_m_others a_m_bytes a_m_anew a_m_values cI cB cZ cP cC above below retired manyLine bytesLong tokenAt tokenLong token value bytes) H → va_D A (ww_X10_lookAt a_m a_m_told a_m_kept a_m_isKept a_m_refused a_m_months a_m_heirs a_m_lasts a_m_cares a_m_bestCares a_m_ones a_m_others a_m_bytes a_m_anew a_m_values cI cB cZ cP cC above below retired manyLine bytesLong tokenAt tokenLong token value bytes) → va_S A s.heap H locs → lv_has ls 5 [(0, .ref a_m)] → wp_X10_lookAt_J43 bytesLong bytes Post  tokenAt tokenLong token value → W p l e rm_X10_lookAt s m ar bl meth c H locs 0 0 (MQ bl (qq_X10_lookAt D a_m a_m_told a_m_kept a_m_isKept a_m_refused a_m_months a_m_heirs a_m_lasts a_m_cares a_m_bestCares a_m_ones a_m_others a_m_bytes a_m_anew a_m_values cI cB cZ cP cC above below retired manyLine bytesLong bytes Post A) ar s 0 0 A) (F0 m 43 ls []) := by
  obtain ⟨hx, hb, hr, hlocks, hml, hown, hts, hK, hA⟩ := id C0
  intro tokenAt tokenLong token value H locs ls hP hD hS hl hw
  refine lv_aload_n hx hb dX10_lookAt_43 rfl (lv_at hl 0 rfl) ?_
  refine lv_iconst (v := 0) hx hb dX10_lookAt_44 (by decide) ?_
  refine mx_put (ci := 10) (C := RX10) (T := TX10) (N := 23) hx hb hown in_wsX100 tyX10 tyX10_ok nmX10 hts hK hP hD hS 0 rfl rfl 18 (by decide) q_343 rfl rfl rfl rfl (Nat.le_of_ble_eq_true rfl) (ww_X10_lookAt a_m a_m_told a_m_kept a_m_isKept a_m_refused a_m_months a_m_heirs a_m_lasts a_m_cares a_m_bestCares a_m_ones a_m_others a_m_bytes a_m_anew a_m_values cI cB cZ cP cC above below retired manyLine bytesLong tokenAt 0 token value bytes) rfl dX10_lookAt_45 (fun H locs hP hD hS => ?_)
  refine lv_aload_n hx hb dX10_lookAt_48 rfl (lv_at hl 0 rfl) ?_
  refine lv_iconst (v := 0) hx hb dX10_lookAt_49 (by decide) ?_
  refine mx_put (ci := 10) (C := RX10) (T := TX10) (N := 23) hx hb hown in_wsX100 tyX10 tyX10_ok nmX10 hts hK hP hD hS 0 rfl rfl 19 (by decide) q_338 rfl rfl rfl rfl (Nat.le_of_ble_eq_true rfl) (ww_X10_lookAt a_m a_m_told a_m_kept a_m_isKept a_m_refused a_m_months a_m_heirs a_m_lasts a_m_cares a_m_bestCares a_m_ones a_m_others a_m_bytes a_m_anew a_m_values cI cB cZ cP cC above below retired manyLine bytesLong tokenAt 0 0 value bytes) rfl dX10_lookAt_50 (fun H locs hP hD hS => ?_)
  refine lv_aload_n hx hb dX10_lookAt_53 rfl (lv_at hl 0 rfl) ?_
  refine lv_iconst (v := 0) hx hb dX10_lookAt_54 (by decide) ?_
  refine mx_put (ci := 10) (C := RX10) (T := TX10) (N := 23) hx hb hown in_wsX100 tyX10 tyX10_ok nmX10 hts hK hP hD hS 0 rfl rfl 20 (by decide) q_344 rfl rfl rfl rfl (Nat.le_of_ble_eq_true rfl) (ww_X10_lookAt a_m a_m_told a_m_kept a_m_isKept a_m_refused a_m_months a_m_heirs a_m_lasts a_m_cares a_m_bestCares a_m_ones a_m_others a_m_bytes a_m_anew a_m_values cI cB cZ cP cC above below retired manyLine bytesLong tokenAt 0 0 0 bytes) rfl dX10_lookAt_55 (fun H locs hP hD hS => ?_)
  refine lv_aload_n hx hb dX10_lookAt_58 rfl (lv_at hl 0 rfl) ?_
  refine mx_get (ci := 10) (C := RX10) (T := TX10) (N := 23) hx hb hown in_wsX100 hts hK hP 0 rfl rfl 17 (by decide) q_337 rfl (v := .int tokenAt) rfl dX10_lookAt_59 ?_
  refine lv_aload_n hx hb dX10_lookAt_62 rfl (lv_at hl 0 rfl) ?_
  refine mx_get (ci := 10) (C := RX10) (T := TX10) (N := 23) hx hb hown in_wsX100 hts hK hP 0 rfl rfl 16 (by decide) q_209 rfl (v := .int bytesLong) rfl dX10_lookAt_63 ?_
  refine lv_icmp_ne (tgt := 70) hx hb dX10_lookAt_66 (by decide) (fun c_9 => ?_) (fun c_9 => ?_)
  · replace hw := hw.2 c_9
    refine lv_aload_n hx hb dX10_lookAt_70 rfl (lv_at hl 0 rfl) ?_
    refine mx_get (ci := 10) (C := RX10) (T := TX10) (N := 23) hx hb hown in_wsX100 hts hK hP 0 rfl rfl 15 (by decide) q_103 rfl (v := .ref a_m_bytes) rfl dX10_lookAt_71 ?_
    refine lv_aload_n hx hb dX10_lookAt_74 rfl (lv_at hl 0 rfl) ?_
    refine mx_get (ci := 10) (C := RX10) (T := TX10) (N := 23) hx hb hown in_wsX100 hts hK hP 0 rfl rfl 17 (by decide) q_337 rfl (v := .int tokenAt) rfl dX10_lookAt_75 ?_
    obtain ⟨h_10, hw⟩ := hw
    refine mx_iald hx hb hK hP 1 0 rfl rfl h_10 (bytes tokenAt.toNatClampNeg) rfl dX10_lookAt_78 ?_
    refine lv_topi (fun x_11 ex_11 => ?_)
    replace hw := hw x_11 ex_11
    refine lv_istore_n (lv' := [(2, .int x_11), (0, .ref a_m)]) hx hb dX10_lookAt_79 rfl hl (by decide) rfl (fun ls hl => ?_)
    refine lv_aload_n hx hb dX10_lookAt_80 rfl (lv_at hl 1 rfl) ?_
    refine lv_iload_n hx hb dX10_lookAt_81 rfl (lv_at hl 0 rfl) ?_
    refine mx_ki (mx_rS (rm := rm_X10_isSmall) (rest := [.ref a_m]) hx hb hml hown hts (c_X10_isSmall l D cI cB cZ cP cC x_11 _ _ hw) q_345 q_346 q_5 q_347 hd_X10_isSmall ⟨(Nat.le_of_ble_eq_true rfl), (Nat.le_of_ble_eq_true rfl)⟩ rfl rfl hK hP hD [] rfl rfl rfl hl.1 rfl (Nat.le_of_ble_eq_true rfl) dX10_lookAt_82 ⟨(Nat.le_of_ble_eq_true rfl), (Nat.le_of_ble_eq_true rfl)⟩) hP hD hS hA [] [0, 1] [0, 1] (fun _ => ww_X10_lookAt a_m a_m_told a_m_kept a_m_isKept a_m_refused a_m_months a_m_heirs a_m_lasts a_m_cares a_m_bestCares a_m_ones a_m_others a_m_bytes a_m_anew a_m_values cI cB cZ cP cC above below retired manyLine bytesLong tokenAt 0 0 0 bytes) rfl rfl rfl (by decide) rfl (fun _ => rfl) (fun r_12 u H locs hw hP hD hS => ?_)
    try dsimp only at hw
    replace hP : va_P D vwCl (ww_X10_lookAt a_m a_m_told a_m_kept a_m_isKept a_m_refused a_m_months a_m_heirs a_m_lasts a_m_cares a_m_bestCares a_m_ones a_m_others a_m_bytes a_m_anew a_m_values cI cB cZ cP cC above below retired manyLine bytesLong tokenAt 0 0 0 bytes) H := hP
    replace hD : va_D A (ww_X10_lookAt a_m a_m_told a_m_kept a_m_isKept a_m_refused a_m_months a_m_heirs a_m_lasts a_m_cares a_m_bestCares a_m_ones a_m_others a_m_bytes a_m_anew a_m_values cI cB cZ cP cC above below retired manyLine bytesLong tokenAt 0 0 0 bytes) := hD
    refine lv_if_eq (tgt := 92) hx hb dX10_lookAt_85 (by decide) (fun c_13 => ?_) (fun c_13 => ?_)
    · replace hw := hw.1 c_13
      refine lv_iload_n hx hb dX10_lookAt_92 rfl (lv_at hl 0 rfl) ?_
      refine mx_ki (mx_rS (rm := rm_X10_isFigure) (rest := [.ref a_m]) hx hb hml hown hts (c_X10_isFigure l D cI cB cZ cP cC x_11 _ _ hw) q_350 q_351 q_5 q_352 hd_X10_isFigure ⟨(Nat.le_of_ble_eq_true rfl), (Nat.le_of_ble_eq_true rfl)⟩ rfl rfl hK hP hD [] rfl rfl rfl hl.1 rfl (Nat.le_of_ble_eq_true rfl) dX10_lookAt_93 ⟨(Nat.le_of_ble_eq_true rfl), (Nat.le_of_ble_eq_true rfl)⟩) hP hD hS hA [] [0, 1] [0, 1] (fun _ => ww_X10_lookAt a_m a_m_told a_m_kept a_m_isKept a_m_refused a_m_months a_m_heirs a_m_lasts a_m_cares a_m_bestCares a_m_ones a_m_others a_m_bytes a_m_anew a_m_values cI cB cZ cP cC above below retired manyLine bytesLong tokenAt 0 0 0 bytes) rfl rfl rfl (by decide) rfl (fun _ => rfl) (fun r_14 u H locs hw hP hD hS => ?_)
      try dsimp only at hw
      replace hP : va_P D vwCl (ww_X10_lookAt a_m a_m_told a_m_kept a_m_isKept a_m_refused a_m_months a_m_heirs a_m_lasts a_m_cares a_m_bestCares a_m_ones a_m_others a_m_bytes a_m_anew a_m_values cI cB cZ cP cC above below retired manyLine bytesLong tokenAt 0 0 0 bytes) H := hP
      replace hD : va_D A (ww_X10_lookAt a_m a_m_told a_m_kept a_m_isKept a_m_refused a_m_months a_m_heirs a_m_lasts a_m_cares a_m_bestCares a_m_ones a_m_others a_m_bytes a_m_anew a_m_values cI cB cZ cP cC above below retired manyLine bytesLong tokenAt 0 0 0 bytes) := hD
      refine lv_if_eq (tgt := 103) hx hb dX10_lookAt_96 (by decide) (fun c_15 => ?_) (fun c_15 => ?_)
      · replace hw := hw.1 c_15
        refine lv_iload_n hx hb dX10_lookAt_103 rfl (lv_at hl 0 rfl) ?_
        refine lv_bipush (v := 59) hx hb dX10_lookAt_104 (by decide) ?_
        refine lv_icmp_ne (tgt := 113) hx hb dX10_lookAt_106 (by decide) (fun c_16 => ?_) (fun c_16 => ?_)
        · replace hw := hw.2 c_16
          refine lv_iconst (v := 4) hx hb dX10_lookAt_113 (by decide) ?_
          exact k_X10_lookAt_J114 C0  4 tokenAt 0 0 0 _ _ _ hP hD hS (lv_sub hl [1] rfl) hw
        · replace hw := hw.1 c_16
          refine lv_iconst (v := 3) hx hb dX10_lookAt_109 (by decide) ?_
          refine lv_goto (tgt := 114) hx hb dX10_lookAt_110 (by decide) ?_
          exact k_X10_lookAt_J114 C0  3 tokenAt 0 0 0 _ _ _ hP hD hS (lv_sub hl [1] rfl) hw
      · replace hw := hw.2 c_15
        refine lv_iconst (v := 2) hx hb dX10_lookAt_99 (by decide) ?_
        refine lv_goto (tgt := 114) hx hb dX10_lookAt_100 (by decide) ?_
        exact k_X10_lookAt_J114 C0  2 tokenAt 0 0 0 _ _ _ hP hD hS (lv_sub hl [1] rfl) hw
    · replace hw := hw.2 c_13
      refine lv_iconst (v := 1) hx hb dX10_lookAt_88 (by decide) ?_
      refine lv_goto (tgt := 114) hx hb dX10_lookAt_89 (by decide) ?_
      exact k_X10_lookAt_J114 C0  1 tokenAt 0 0 0 _ _ _ hP hD hS (lv_sub hl [1] rfl) hw
  · replace hw := hw.1 c_9
    exact mx_vret (tokenAt, 0, 0, 0) hx hb hr hlocks hw hK hP hD hS dX10_lookAt_69
def wp_X10_lookAt (bytesLong : Int32) (bytes : Nat → Int32) (tokenAt : Int32) (tokenLong : Int32) (token : Int32) (value : Int32) (v1 : Int32) (Post : Int32 → Int32 → Int32 → Int32 → Prop) : Prop :=
  (∃ k_65 : Nat, wp_X10_lookAt_L5 bytesLong bytes Post (fun (tokenAt_5 : Int32) (tokenLong_6 : Int32) (token_7 : Int32) (value_8 : Int32) => (wp_X10_lookAt_J43 bytesLong bytes Post tokenAt_5 tokenLong_6 token_7 value_8)) k_65 v1 tokenLong token value)
set_option maxHeartbeats 4000000 in
set_option maxRecDepth 100000 in
theorem c_X10_lookAt (l : Launch) (D : va_G) (cI cB cZ cP cC : ClassId) (a_m a_m_told a_m_kept a_m_isKept a_m_refused a_m_months a_m_heirs a_m_lasts a_m_cares a_m_bestCares a_m_ones a_m_others a_m_bytes a_m_anew a_m_values : Nat) (above : Int64) (below : Int64) (retired : Int32) (manyLine : Int32) (bytesLong : Int32) (tokenAt : Int32) (tokenLong : Int32) (token : Int32) (value : Int32) (bytes : Nat → Int32) (v1 : Int32) (sz : Nat) (Post : Int32 → Int32 → Int32 → Int32 → Prop) (hw : wp_X10_lookAt bytesLong bytes tokenAt tokenLong token value v1 Post) :
    Met l yX10_lookAt (Cond.code yX10_lookAt cX10_lookAt 5 none :: wsAll) rm_X10_lookAt (va_Pc [.ref a_m, .int v1] (mxP D (mxTy cI cB cZ cP cC) sz (ww_X10_lookAt a_m a_m_told a_m_kept a_m_isKept a_m_refused a_m_months a_m_heirs a_m_lasts a_m_cares a_m_bestCares a_m_ones a_m_others a_m_bytes a_m_anew a_m_values cI cB cZ cP cC above below retired manyLine bytesLong tokenAt tokenLong token value bytes))) (qq_X10_lookAt D a_m a_m_told a_m_kept a_m_isKept a_m_refused a_m_months a_m_heirs a_m_lasts a_m_cares a_m_bestCares a_m_ones a_m_others a_m_bytes a_m_anew a_m_values cI cB cZ cP cC above below retired manyLine bytesLong bytes Post (va_A (ww_X10_lookAt a_m a_m_told a_m_kept a_m_isKept a_m_refused a_m_months a_m_heirs a_m_lasts a_m_cares a_m_bestCares a_m_ones a_m_others a_m_bytes a_m_anew a_m_values cI cB cZ cP cC above below retired manyLine bytesLong tokenAt tokenLong token value bytes) sz)) 0 0 (va_A (ww_X10_lookAt a_m a_m_told a_m_kept a_m_isKept a_m_refused a_m_months a_m_heirs a_m_lasts a_m_cares a_m_bestCares a_m_ones a_m_others a_m_bytes a_m_anew a_m_values cI cB cZ cP cC above below retired manyLine bytesLong tokenAt tokenLong token value bytes) sz) := by
  refine mx_of (Qc := qq_X10_lookAt D a_m a_m_told a_m_kept a_m_isKept a_m_refused a_m_months a_m_heirs a_m_lasts a_m_cares a_m_bestCares a_m_ones a_m_others a_m_bytes a_m_anew a_m_values cI cB cZ cP cC above below retired manyLine bytesLong bytes Post) (by decide) (Nat.le_of_ble_eq_true rfl) ?_
  intro p e s m bl meth c A ls C0 hP hD hS hl
  replace C0 : mxC p s m [.ref a_m, .int v1].toArray meth c cX10_lookAt RX10 none 5 D (mxTy cI cB cZ cP cC) A := C0
  obtain ⟨hx, hb, hr, hlocks, hml, hown, hts, hK, hA⟩ := id C0
  replace hl : lv_has ls 5 [(0, .ref a_m), (1, .int v1)] := hl
  unfold wp_X10_lookAt at hw
  refine lv_aload_n hx hb dX10_lookAt_0 rfl (lv_at hl 0 rfl) ?_
  refine lv_iload_n hx hb dX10_lookAt_1 rfl (lv_at hl 1 rfl) ?_
  refine mx_put (ci := 10) (C := RX10) (T := TX10) (N := 23) hx hb hown in_wsX100 tyX10 tyX10_ok nmX10 hts hK hP hD hS 0 rfl rfl 17 (by decide) q_337 rfl rfl rfl rfl (Nat.le_of_ble_eq_true rfl) (ww_X10_lookAt a_m a_m_told a_m_kept a_m_isKept a_m_refused a_m_months a_m_heirs a_m_lasts a_m_cares a_m_bestCares a_m_ones a_m_others a_m_bytes a_m_anew a_m_values cI cB cZ cP cC above below retired manyLine bytesLong v1 tokenLong token value bytes) rfl dX10_lookAt_2 (fun H locs hP hD hS => ?_)
  obtain ⟨n0, hw⟩ := hw
  refine k_X10_lookAt_L5 C0 ?_ n0 v1 tokenLong token value _ _ _ hP hD hS (lv_sub hl [0] rfl) hw
  intro tokenAt_5 tokenLong_6 token_7 value_8 H locs ls hP hD hS hl hw
  exact k_X10_lookAt_J43 C0  tokenAt_5 tokenLong_6 token_7 value_8 _ _ _ hP hD hS (lv_sub hl [0] rfl) hw
/-! PramStateModel.goBehind()V -/
abbrev ww_X10_goBehind (a_m a_m_told a_m_kept a_m_isKept a_m_refused a_m_months a_m_heirs a_m_lasts a_m_cares a_m_bestCares a_m_ones a_m_others a_m_bytes a_m_anew a_m_values : Nat) (cI cB cZ cP cC : ClassId) (above : Int64) (below : Int64) (retired : Int32) (manyLine : Int32) (bytesLong : Int32) (tokenAt : Int32) (tokenLong : Int32) (token : Int32) (value : Int32) (bytes : Nat → Int32) : va_W := [(a_m, .inr (10, [.ref a_m_told, .ref a_m_kept, .ref a_m_isKept, .ref a_m_refused, .long above, .long below, .ref a_m_months, .int retired, .ref a_m_heirs, .ref a_m_lasts, .int manyLine, .ref a_m_cares, .ref a_m_bestCares, .ref a_m_ones, .ref a_m_others, .ref a_m_bytes, .int bytesLong, .int tokenAt, .int tokenLong, .int token, .int value, .ref a_m_anew, .ref a_m_values])), (a_m_bytes, .inl (cI, 150, .inl bytes))]
abbrev qq_X10_goBehind (D : va_G) (a_m a_m_told a_m_kept a_m_isKept a_m_refused a_m_months a_m_heirs a_m_lasts a_m_cares a_m_bestCares a_m_ones a_m_others a_m_bytes a_m_anew a_m_values : Nat) (cI cB cZ cP cC : ClassId) (above : Int64) (below : Int64) (retired : Int32) (manyLine : Int32) (bytesLong : Int32) (bytes : Nat → Int32) (Post : Int32 → Int32 → Int32 → Int32 → Prop) (A : Nat → Prop) : Array Value → State → Outcome → State → Prop := va_Qv (fun (u : Int32 × Int32 × Int32 × Int32) => Post u.1 u.2.1 u.2.2.1 u.2.2.2) (fun (u : Int32 × Int32 × Int32 × Int32) t => mxB D (mxTy cI cB cZ cP cC) A (ww_X10_goBehind a_m a_m_told a_m_kept a_m_isKept a_m_refused a_m_months a_m_heirs a_m_lasts a_m_cares a_m_bestCares a_m_ones a_m_others a_m_bytes a_m_anew a_m_values cI cB cZ cP cC above below retired manyLine bytesLong (u.1) (u.2.1) (u.2.2.1) (u.2.2.2) bytes) t) A
abbrev rm_X10_goBehind : Room := { frames := 3, cells := 0, slots := 0, locals := 69 }
theorem hd_X10_goBehind : yX10_goBehind.cls = RX10 ∧ yX10_goBehind.cls ≠ "java/lang/invoke/MethodHandle" ∧ yX10_goBehind.cls ≠ "java/lang/invoke/VarHandle" ∧ (parseMethodDescriptor yX10_goBehind.desc).map (fun d => d.parameters.length) = some 0 := by decide +kernel
def wp_X10_goBehind (bytesLong : Int32) (bytes : Nat → Int32) (tokenAt : Int32) (tokenLong : Int32) (token : Int32) (value : Int32) (Post : Int32 → Int32 → Int32 → Int32 → Prop) : Prop :=
  (wp_X10_lookAt bytesLong bytes tokenAt tokenLong token value (tokenAt + tokenLong) (fun tokenAt_1 tokenLong_2 token_3 value_4 => Post tokenAt_1 tokenLong_2 token_3 value_4))
set_option maxHeartbeats 4000000 in
set_option maxRecDepth 100000 in
theorem c_X10_goBehind (l : Launch) (D : va_G) (cI cB cZ cP cC : ClassId) (a_m a_m_told a_m_kept a_m_isKept a_m_refused a_m_months a_m_heirs a_m_lasts a_m_cares a_m_bestCares a_m_ones a_m_others a_m_bytes a_m_anew a_m_values : Nat) (above : Int64) (below : Int64) (retired : Int32) (manyLine : Int32) (bytesLong : Int32) (tokenAt : Int32) (tokenLong : Int32) (token : Int32) (value : Int32) (bytes : Nat → Int32)  (sz : Nat) (Post : Int32 → Int32 → Int32 → Int32 → Prop) (hw : wp_X10_goBehind bytesLong bytes tokenAt tokenLong token value Post) :
    Met l yX10_goBehind (Cond.code yX10_goBehind cX10_goBehind 1 none :: wsAll) rm_X10_goBehind (va_Pc [.ref a_m] (mxP D (mxTy cI cB cZ cP cC) sz (ww_X10_goBehind a_m a_m_told a_m_kept a_m_isKept a_m_refused a_m_months a_m_heirs a_m_lasts a_m_cares a_m_bestCares a_m_ones a_m_others a_m_bytes a_m_anew a_m_values cI cB cZ cP cC above below retired manyLine bytesLong tokenAt tokenLong token value bytes))) (qq_X10_goBehind D a_m a_m_told a_m_kept a_m_isKept a_m_refused a_m_months a_m_heirs a_m_lasts a_m_cares a_m_bestCares a_m_ones a_m_others a_m_bytes a_m_anew a_m_values cI cB cZ cP cC above below retired manyLine bytesLong bytes Post (va_A (ww_X10_goBehind a_m a_m_told a_m_kept a_m_isKept a_m_refused a_m_months a_m_heirs a_m_lasts a_m_cares a_m_bestCares a_m_ones a_m_others a_m_bytes a_m_anew a_m_values cI cB cZ cP cC above below retired manyLine bytesLong tokenAt tokenLong token value bytes) sz)) 0 0 (va_A (ww_X10_goBehind a_m a_m_told a_m_kept a_m_isKept a_m_refused a_m_months a_m_heirs a_m_lasts a_m_cares a_m_bestCares a_m_ones a_m_others a_m_bytes a_m_anew a_m_values cI cB cZ cP cC above below retired manyLine bytesLong tokenAt tokenLong token value bytes) sz) := by
  refine mx_of (Qc := qq_X10_goBehind D a_m a_m_told a_m_kept a_m_isKept a_m_refused a_m_months a_m_heirs a_m_lasts a_m_cares a_m_bestCares a_m_ones a_m_others a_m_bytes a_m_anew a_m_values cI cB cZ cP cC above below retired manyLine bytesLong bytes Post) (by decide) (Nat.le_of_ble_eq_true rfl) ?_
  intro p e s m bl meth c A ls C0 hP hD hS hl
  replace C0 : mxC p s m [.ref a_m].toArray meth c cX10_goBehind RX10 none 1 D (mxTy cI cB cZ cP cC) A := C0
  obtain ⟨hx, hb, hr, hlocks, hml, hown, hts, hK, hA⟩ := id C0
  replace hl : lv_has ls 1 [(0, .ref a_m)] := hl
  unfold wp_X10_goBehind at hw
  refine lv_aload_n hx hb dX10_goBehind_0 rfl (lv_at hl 0 rfl) ?_
  refine lv_aload_n hx hb dX10_goBehind_1 rfl (lv_at hl 0 rfl) ?_
  refine mx_get (ci := 10) (C := RX10) (T := TX10) (N := 23) hx hb hown in_wsX100 hts hK hP 0 rfl rfl 17 (by decide) q_337 rfl (v := .int tokenAt) rfl dX10_goBehind_2 ?_
  refine lv_aload_n hx hb dX10_goBehind_5 rfl (lv_at hl 0 rfl) ?_
  refine mx_get (ci := 10) (C := RX10) (T := TX10) (N := 23) hx hb hown in_wsX100 hts hK hP 0 rfl rfl 18 (by decide) q_343 rfl (v := .int tokenLong) rfl dX10_goBehind_6 ?_
  refine lv_iadd hx hb dX10_goBehind_9 ?_
  refine mx_kv (mx_rV (rm := rm_X10_lookAt) (rest := []) (C := RX10) hx hb hml hown hts (c_X10_lookAt l D cI cB cZ cP cC a_m a_m_told a_m_kept a_m_isKept a_m_refused a_m_months a_m_heirs a_m_lasts a_m_cares a_m_bestCares a_m_ones a_m_others a_m_bytes a_m_anew a_m_values above below retired manyLine bytesLong tokenAt tokenLong token value bytes (tokenAt + tokenLong) _ _ hw) q_339 q_340 q_341 q_5 q_342 hd_X10_lookAt ⟨(Nat.le_of_ble_eq_true rfl), (Nat.le_of_ble_eq_true rfl)⟩ rfl rfl hK hP hD [0, 1] rfl rfl 10 0 rfl rfl rfl rfl hl.1 rfl (Nat.le_of_ble_eq_true rfl) dX10_goBehind_10 ⟨(Nat.le_of_ble_eq_true rfl), (Nat.le_of_ble_eq_true rfl)⟩) hP hD hS hA [0, 1] [] [0, 1] (fun u => ww_X10_goBehind a_m a_m_told a_m_kept a_m_isKept a_m_refused a_m_months a_m_heirs a_m_lasts a_m_cares a_m_bestCares a_m_ones a_m_others a_m_bytes a_m_anew a_m_values cI cB cZ cP cC above below retired manyLine bytesLong (u.1) (u.2.1) (u.2.2.1) (u.2.2.2) bytes) rfl rfl rfl (by decide) rfl (fun _ => rfl) (fun u H locs hw hP hD hS => ?_)
  obtain ⟨tokenAt_1, tokenLong_2, token_3, value_4⟩ := u
  try dsimp only at hw
  replace hP : va_P D vwCl (ww_X10_goBehind a_m a_m_told a_m_kept a_m_isKept a_m_refused a_m_months a_m_heirs a_m_lasts a_m_cares a_m_bestCares a_m_ones a_m_others a_m_bytes a_m_anew a_m_values cI cB cZ cP cC above below retired manyLine bytesLong tokenAt_1 tokenLong_2 token_3 value_4 bytes) H := hP
  replace hD : va_D A (ww_X10_goBehind a_m a_m_told a_m_kept a_m_isKept a_m_refused a_m_months a_m_heirs a_m_lasts a_m_cares a_m_bestCares a_m_ones a_m_others a_m_bytes a_m_anew a_m_values cI cB cZ cP cC above below retired manyLine bytesLong tokenAt_1 tokenLong_2 token_3 value_4 bytes) := hD
  exact mx_vret (tokenAt_1, tokenLong_2, token_3, value_4) hx hb hr hlocks hw hK hP hD hS dX10_goBehind_13
/-! PramStateModel.spells(IIIIIII)Z -/
abbrev ww_X10_spells (a_m a_m_told a_m_kept a_m_isKept a_m_refused a_m_months a_m_heirs a_m_lasts a_m_cares a_m_bestCares a_m_ones a_m_others a_m_bytes a_m_anew a_m_values : Nat) (cI cB cZ cP cC : ClassId) (above : Int64) (below : Int64) (retired : Int32) (manyLine : Int32) (bytesLong : Int32) (tokenAt : Int32) (tokenLong : Int32) (token : Int32) (value : Int32) (bytes : Nat → Int32) : va_W := [(a_m, .inr (10, [.ref a_m_told, .ref a_m_kept, .ref a_m_isKept, .ref a_m_refused, .long above, .long below, .ref a_m_months, .int retired, .ref a_m_heirs, .ref a_m_lasts, .int manyLine, .ref a_m_cares, .ref a_m_bestCares, .ref a_m_ones, .ref a_m_others, .ref a_m_bytes, .int bytesLong, .int tokenAt, .int tokenLong, .int token, .int value, .ref a_m_anew, .ref a_m_values])), (a_m_bytes, .inl (cI, 150, .inl bytes))]
abbrev qq_X10_spells (D : va_G) (a_m a_m_told a_m_kept a_m_isKept a_m_refused a_m_months a_m_heirs a_m_lasts a_m_cares a_m_bestCares a_m_ones a_m_others a_m_bytes a_m_anew a_m_values : Nat) (cI cB cZ cP cC : ClassId) (above : Int64) (below : Int64) (retired : Int32) (manyLine : Int32) (bytesLong : Int32) (tokenAt : Int32) (tokenLong : Int32) (token : Int32) (value : Int32) (bytes : Nat → Int32) (Post : Int32 → Prop) (A : Nat → Prop) : Array Value → State → Outcome → State → Prop := va_Qi (fun (r : Int32) (u : Unit) => Post r) (fun (u : Unit) t => mxB D (mxTy cI cB cZ cP cC) A (ww_X10_spells a_m a_m_told a_m_kept a_m_isKept a_m_refused a_m_months a_m_heirs a_m_lasts a_m_cares a_m_bestCares a_m_ones a_m_others a_m_bytes a_m_anew a_m_values cI cB cZ cP cC above below retired manyLine bytesLong tokenAt tokenLong token value bytes) t) A
abbrev rm_X10_spells : Room := { frames := 0, cells := 0, slots := 0, locals := 0 }
theorem hd_X10_spells : yX10_spells.cls = RX10 ∧ yX10_spells.cls ≠ "java/lang/invoke/MethodHandle" ∧ yX10_spells.cls ≠ "java/lang/invoke/VarHandle" ∧ (parseMethodDescriptor yX10_spells.desc).map (fun d => d.parameters.length) = some 7 := by decide +kernel
def wp_X10_spells_J111 (tokenAt : Int32) (tokenLong : Int32) (token : Int32) (bytes : Nat → Int32) (Post : Int32 → Prop) (K_26 : Int32 → Int32 → Int32 → Int32 → Int32 → Int32 → Int32 → Int32 → Int32 → Prop) (v1 : Int32) (v2 : Int32) (v3 : Int32) (v4 : Int32) (v5 : Int32) (v6 : Int32) (v7 : Int32) (v9 : Int32) (s0 : Int32) : Prop :=
  (∀ x_13 : Int32, x_13 = v9 + 1 → K_26 v1 v2 v3 v4 v5 v6 v7 s0 x_13)
set_option maxHeartbeats 4000000 in
set_option maxRecDepth 100000 in
theorem k_X10_spells_J111 {p : Program} {l : Launch} {e : Env} {s : State} {m : MethodId} {ar : Array Value} {bl : List Frame} {meth : Method} {c : Code} {D : va_G} {A : Nat → Prop} {cI cB cZ cP cC : ClassId} {a_m a_m_told a_m_kept a_m_isKept a_m_refused a_m_months a_m_heirs a_m_lasts a_m_cares a_m_bestCares a_m_ones a_m_others a_m_bytes a_m_anew a_m_values : Nat} {above : Int64} {below : Int64} {retired : Int32} {manyLine : Int32} {bytesLong : Int32} {tokenAt : Int32} {tokenLong : Int32} {token : Int32} {value : Int32} {bytes : Nat → Int32} {Post : Int32 → Prop} {K_26 : Int32 → Int32 → Int32 → Int32 → Int32 → Int32 → Int32 → Int32 → Int32 → Prop} (C0 : mxC p s m ar meth c cX10_spells RX10 (some .boolean) 10 D (mxTy cI cB cZ cP cC) A)
    (hK_26 : ∀ (v1 : Int32) (v2 : Int32) (v3 : Int32) (v4 : Int32) (v5 : Int32) (v6 : Int32) (v7 : Int32) (v8 : Int32) (v9 : Int32) (H : Heap) (locs : List Loc) (ls : Array Slot), va_P D vwCl (ww_X10_spells a_m a_m_told a_m_kept a_m_isKept a_m_refused a_m_months a_m_heirs a_m_lasts a_m_cares a_m_bestCares a_m_ones a_m_others a_m_bytes a_m_anew a_m_values cI cB cZ cP cC above below retired manyLine bytesLong tokenAt tokenLong token value bytes) H → va_D A (ww_X10_spells a_m a_m_told a_m_kept a_m_isKept a_m_refused a_m_months a_m_heirs a_m_lasts a_m_cares a_m_bestCares a_m_ones a_m_others a_m_bytes a_m_anew a_m_values cI cB cZ cP cC above below retired manyLine bytesLong tokenAt tokenLong token value bytes) → va_S A s.heap H locs → lv_has ls 10 [(0, .ref a_m), (1, .int v1), (2, .int v2), (3, .int v3), (4, .int v4), (5, .int v5), (6, .int v6), (7, .int v7), (8, .int v8), (9, .int v9)] → K_26 v1 v2 v3 v4 v5 v6 v7 v8 v9 → W p l e rm_X10_spells s m ar bl meth c H locs 0 0 (MQ bl (qq_X10_spells D a_m a_m_told a_m_kept a_m_isKept a_m_refused a_m_months a_m_heirs a_m_lasts a_m_cares a_m_bestCares a_m_ones a_m_others a_m_bytes a_m_anew a_m_values cI cB cZ cP cC above below retired manyLine bytesLong tokenAt tokenLong token value bytes Post A) ar s 0 0 A) (F0 m 26 ls [])) :
    ∀ (v1 : Int32) (v2 : Int32) (v3 : Int32) (v4 : Int32) (v5 : Int32) (v6 : Int32) (v7 : Int32) (v9 : Int32) (s0 : Int32) (H : Heap) (locs : List Loc) (ls : Array Slot), va_P D vwCl (ww_X10_spells a_m a_m_told a_m_kept a_m_isKept a_m_refused a_m_months a_m_heirs a_m_lasts a_m_cares a_m_bestCares a_m_ones a_m_others a_m_bytes a_m_anew a_m_values cI cB cZ cP cC above below retired manyLine bytesLong tokenAt tokenLong token value bytes) H → va_D A (ww_X10_spells a_m a_m_told a_m_kept a_m_isKept a_m_refused a_m_months a_m_heirs a_m_lasts a_m_cares a_m_bestCares a_m_ones a_m_others a_m_bytes a_m_anew a_m_values cI cB cZ cP cC above below retired manyLine bytesLong tokenAt tokenLong token value bytes) → va_S A s.heap H locs → lv_has ls 10 [(0, .ref a_m), (1, .int v1), (2, .int v2), (3, .int v3), (4, .int v4), (5, .int v5), (6, .int v6), (7, .int v7), (9, .int v9)] → wp_X10_spells_J111 tokenAt tokenLong token bytes Post K_26 v1 v2 v3 v4 v5 v6 v7 v9 s0 → W p l e rm_X10_spells s m ar bl meth c H locs 0 0 (MQ bl (qq_X10_spells D a_m a_m_told a_m_kept a_m_isKept a_m_refused a_m_months a_m_heirs a_m_lasts a_m_cares a_m_bestCares a_m_ones a_m_others a_m_bytes a_m_anew a_m_values cI cB cZ cP cC above below retired manyLine bytesLong tokenAt tokenLong token value bytes Post A) ar s 0 0 A) (F0 m 111 ls [.int s0]) := by
  obtain ⟨hx, hb, hr, hlocks, hml, hown, hts, hK, hA⟩ := id C0
  intro v1 v2 v3 v4 v5 v6 v7 v9 s0 H locs ls hP hD hS hl hw
  refine lv_istore (lv' := [(8, .int s0), (0, .ref a_m), (1, .int v1), (2, .int v2), (3, .int v3), (4, .int v4), (5, .int v5), (6, .int v6), (7, .int v7), (9, .int v9)]) hx hb dX10_spells_111 hl (by decide) rfl (fun ls hl => ?_)
  obtain ⟨x_13, ex_13⟩ : ∃ y : Int32, y = v9 + 1 := ⟨_, rfl⟩
  replace hw := hw x_13 ex_13
  refine lv_iinc (v := x_13) (lv' := [(9, .int x_13), (8, .int s0), (0, .ref a_m), (1, .int v1), (2, .int v2), (3, .int v3), (4, .int v4), (5, .int v5), (6, .int v6), (7, .int v7)]) hx hb dX10_spells_113 hl (k := 9) rfl (by rw [ex_13]; rfl) (by decide) rfl (fun ls hl => ?_)
  refine lv_goto (tgt := 26) hx hb dX10_spells_116 (by decide) ?_
  exact hK_26 v1 v2 v3 v4 v5 v6 v7 s0 x_13 _ _ _ hP hD hS (lv_sub hl [2, 3, 4, 5, 6, 7, 8, 9, 1, 0] rfl) hw
def wp_X10_spells_J103 (tokenAt : Int32) (tokenLong : Int32) (token : Int32) (bytes : Nat → Int32) (Post : Int32 → Prop) (K_26 : Int32 → Int32 → Int32 → Int32 → Int32 → Int32 → Int32 → Int32 → Int32 → Prop) (v1 : Int32) (v2 : Int32) (v3 : Int32) (v4 : Int32) (v5 : Int32) (v6 : Int32) (v7 : Int32) (v9 : Int32) (s0 : Int32) (s1 : Int32) : Prop :=
  ((s1 = s0 → (wp_X10_spells_J111 tokenAt tokenLong token bytes Post K_26 v1 v2 v3 v4 v5 v6 v7 v9 1)) ∧ (¬ s1 = s0 → (wp_X10_spells_J111 tokenAt tokenLong token bytes Post K_26 v1 v2 v3 v4 v5 v6 v7 v9 0)))
set_option maxHeartbeats 4000000 in
set_option maxRecDepth 100000 in
theorem k_X10_spells_J103 {p : Program} {l : Launch} {e : Env} {s : State} {m : MethodId} {ar : Array Value} {bl : List Frame} {meth : Method} {c : Code} {D : va_G} {A : Nat → Prop} {cI cB cZ cP cC : ClassId} {a_m a_m_told a_m_kept a_m_isKept a_m_refused a_m_months a_m_heirs a_m_lasts a_m_cares a_m_bestCares a_m_ones a_m_others a_m_bytes a_m_anew a_m_values : Nat} {above : Int64} {below : Int64} {retired : Int32} {manyLine : Int32} {bytesLong : Int32} {tokenAt : Int32} {tokenLong : Int32} {token : Int32} {value : Int32} {bytes : Nat → Int32} {Post : Int32 → Prop} {K_26 : Int32 → Int32 → Int32 → Int32 → Int32 → Int32 → Int32 → Int32 → Int32 → Prop} (C0 : mxC p s m ar meth c cX10_spells RX10 (some .boolean) 10 D (mxTy cI cB cZ cP cC) A)
    (hK_26 : ∀ (v1 : Int32) (v2 : Int32) (v3 : Int32) (v4 : Int32) (v5 : Int32) (v6 : Int32) (v7 : Int32) (v8 : Int32) (v9 : Int32) (H : Heap) (locs : List Loc) (ls : Array Slot), va_P D vwCl (ww_X10_spells a_m a_m_told a_m_kept a_m_isKept a_m_refused a_m_months a_m_heirs a_m_lasts a_m_cares a_m_bestCares a_m_ones a_m_others a_m_bytes a_m_anew a_m_values cI cB cZ cP cC above below retired manyLine bytesLong tokenAt tokenLong token value bytes) H → va_D A (ww_X10_spells a_m a_m_told a_m_kept a_m_isKept a_m_refused a_m_months a_m_heirs a_m_lasts a_m_cares a_m_bestCares a_m_ones a_m_others a_m_bytes a_m_anew a_m_values cI cB cZ cP cC above below retired manyLine bytesLong tokenAt tokenLong token value bytes) → va_S A s.heap H locs → lv_has ls 10 [(0, .ref a_m), (1, .int v1), (2, .int v2), (3, .int v3), (4, .int v4), (5, .int v5), (6, .int v6), (7, .int v7), (8, .int v8), (9, .int v9)] → K_26 v1 v2 v3 v4 v5 v6 v7 v8 v9 → W p l e rm_X10_spells s m ar bl meth c H locs 0 0 (MQ bl (qq_X10_spells D a_m a_m_told a_m_kept a_m_isKept a_m_refused a_m_months a_m_heirs a_m_lasts a_m_cares a_m_bestCares a_m_ones a_m_others a_m_bytes a_m_anew a_m_values cI cB cZ cP cC above below retired manyLine bytesLong tokenAt tokenLong token value bytes Post A) ar s 0 0 A) (F0 m 26 ls [])) :
    ∀ (v1 : Int32) (v2 : Int32) (v3 : Int32) (v4 : Int32) (v5 : Int32) (v6 : Int32) (v7 : Int32) (v9 : Int32) (s0 : Int32) (s1 : Int32) (H : Heap) (locs : List Loc) (ls : Array Slot), va_P D vwCl (ww_X10_spells a_m a_m_told a_m_kept a_m_isKept a_m_refused a_m_months a_m_heirs a_m_lasts a_m_cares a_m_bestCares a_m_ones a_m_others a_m_bytes a_m_anew a_m_values cI cB cZ cP cC above below retired manyLine bytesLong tokenAt tokenLong token value bytes) H → va_D A (ww_X10_spells a_m a_m_told a_m_kept a_m_isKept a_m_refused a_m_months a_m_heirs a_m_lasts a_m_cares a_m_bestCares a_m_ones a_m_others a_m_bytes a_m_anew a_m_values cI cB cZ cP cC above below retired manyLine bytesLong tokenAt tokenLong token value bytes) → va_S A s.heap H locs → lv_has ls 10 [(0, .ref a_m), (1, .int v1), (2, .int v2), (3, .int v3), (4, .int v4), (5, .int v5), (6, .int v6), (7, .int v7), (9, .int v9)] → wp_X10_spells_J103 tokenAt tokenLong token bytes Post K_26 v1 v2 v3 v4 v5 v6 v7 v9 s0 s1 → W p l e rm_X10_spells s m ar bl meth c H locs 0 0 (MQ bl (qq_X10_spells D a_m a_m_told a_m_kept a_m_isKept a_m_refused a_m_months a_m_heirs a_m_lasts a_m_cares a_m_bestCares a_m_ones a_m_others a_m_bytes a_m_anew a_m_values cI cB cZ cP cC above below retired manyLine bytesLong tokenAt tokenLong token value bytes Post A) ar s 0 0 A) (F0 m 103 ls [.int s0, .int s1]) := by
  obtain ⟨hx, hb, hr, hlocks, hml, hown, hts, hK, hA⟩ := id C0
  intro v1 v2 v3 v4 v5 v6 v7 v9 s0 s1 H locs ls hP hD hS hl hw
  refine lv_icmp_ne (tgt := 110) hx hb dX10_spells_103 (by decide) (fun c_12 => ?_) (fun c_12 => ?_)
  · replace hw := hw.2 c_12
    refine lv_iconst (v := 0) hx hb dX10_spells_110 (by decide) ?_
    refine k_X10_spells_J111 C0 ?_ v1 v2 v3 v4 v5 v6 v7 v9 0 _ _ _ hP hD hS (lv_sub hl [0, 1, 2, 3, 4, 5, 6, 7, 8] rfl) hw
    intro v1_14 v2_15 v3_16 v4_17 v5_18 v6_19 v7_20 v8_21 v9_22 H locs ls hP hD hS hl hw
    exact hK_26 v1_14 v2_15 v3_16 v4_17 v5_18 v6_19 v7_20 v8_21 v9_22 _ _ _ hP hD hS (lv_sub hl [0, 1, 2, 3, 4, 5, 6, 7, 8, 9] rfl) hw
  · replace hw := hw.1 c_12
    refine lv_iconst (v := 1) hx hb dX10_spells_106 (by decide) ?_
    refine lv_goto (tgt := 111) hx hb dX10_spells_107 (by decide) ?_
    refine k_X10_spells_J111 C0 ?_ v1 v2 v3 v4 v5 v6 v7 v9 1 _ _ _ hP hD hS (lv_sub hl [0, 1, 2, 3, 4, 5, 6, 7, 8] rfl) hw
    intro v1_23 v2_24 v3_25 v4_26 v5_27 v6_28 v7_29 v8_30 v9_31 H locs ls hP hD hS hl hw
    exact hK_26 v1_23 v2_24 v3_25 v4_26 v5_27 v6_28 v7_29 v8_30 v9_31 _ _ _ hP hD hS (lv_sub hl [0, 1, 2, 3, 4, 5, 6, 7, 8, 9] rfl) hw
def wp_X10_spells_L26 (tokenAt : Int32) (tokenLong : Int32) (token : Int32) (bytes : Nat → Int32) (Post : Int32 → Prop)  : Nat → Int32 → Int32 → Int32 → Int32 → Int32 → Int32 → Int32 → Int32 → Int32 → Prop
  | 0, _, _, _, _, _, _, _, _, _ => False
  | n + 1, v1, v2, v3, v4, v5, v6, v7, v8, v9 => ((v1 ≤ v9 → ((v8 = 0 ∨ v8 = 1) ∧ Post v8)) ∧ (¬ v1 ≤ v9 → ((v8 = 0 → ((v8 = 0 ∨ v8 = 1) ∧ Post v8)) ∧ (¬ v8 = 0 → (vp_in (tokenAt + v9) 150 ∧ ((v9 = 0 → (wp_X10_spells_J103 tokenAt tokenLong token bytes Post (fun (v1_77 : Int32) (v2_78 : Int32) (v3_79 : Int32) (v4_80 : Int32) (v5_81 : Int32) (v6_82 : Int32) (v7_83 : Int32) (v8_84 : Int32) (v9_85 : Int32) => wp_X10_spells_L26 tokenAt tokenLong token bytes Post  n v1_77 v2_78 v3_79 v4_80 v5_81 v6_82 v7_83 v8_84 v9_85) v1 v2 v3 v4 v5 v6 v7 v9 v2 (bytes (tokenAt + v9).toNatClampNeg))) ∧ (¬ v9 = 0 → ((v9 = 1 → (wp_X10_spells_J103 tokenAt tokenLong token bytes Post (fun (v1_68 : Int32) (v2_69 : Int32) (v3_70 : Int32) (v4_71 : Int32) (v5_72 : Int32) (v6_73 : Int32) (v7_74 : Int32) (v8_75 : Int32) (v9_76 : Int32) => wp_X10_spells_L26 tokenAt tokenLong token bytes Post  n v1_68 v2_69 v3_70 v4_71 v5_72 v6_73 v7_74 v8_75 v9_76) v1 v2 v3 v4 v5 v6 v7 v9 v3 (bytes (tokenAt + v9).toNatClampNeg))) ∧ (¬ v9 = 1 → ((v9 = 2 → (wp_X10_spells_J103 tokenAt tokenLong token bytes Post (fun (v1_59 : Int32) (v2_60 : Int32) (v3_61 : Int32) (v4_62 : Int32) (v5_63 : Int32) (v6_64 : Int32) (v7_65 : Int32) (v8_66 : Int32) (v9_67 : Int32) => wp_X10_spells_L26 tokenAt tokenLong token bytes Post  n v1_59 v2_60 v3_61 v4_62 v5_63 v6_64 v7_65 v8_66 v9_67) v1 v2 v3 v4 v5 v6 v7 v9 v4 (bytes (tokenAt + v9).toNatClampNeg))) ∧ (¬ v9 = 2 → ((v9 = 3 → (wp_X10_spells_J103 tokenAt tokenLong token bytes Post (fun (v1_50 : Int32) (v2_51 : Int32) (v3_52 : Int32) (v4_53 : Int32) (v5_54 : Int32) (v6_55 : Int32) (v7_56 : Int32) (v8_57 : Int32) (v9_58 : Int32) => wp_X10_spells_L26 tokenAt tokenLong token bytes Post  n v1_50 v2_51 v3_52 v4_53 v5_54 v6_55 v7_56 v8_57 v9_58) v1 v2 v3 v4 v5 v6 v7 v9 v5 (bytes (tokenAt + v9).toNatClampNeg))) ∧ (¬ v9 = 3 → ((v9 = 4 → (wp_X10_spells_J103 tokenAt tokenLong token bytes Post (fun (v1_41 : Int32) (v2_42 : Int32) (v3_43 : Int32) (v4_44 : Int32) (v5_45 : Int32) (v6_46 : Int32) (v7_47 : Int32) (v8_48 : Int32) (v9_49 : Int32) => wp_X10_spells_L26 tokenAt tokenLong token bytes Post  n v1_41 v2_42 v3_43 v4_44 v5_45 v6_46 v7_47 v8_48 v9_49) v1 v2 v3 v4 v5 v6 v7 v9 v6 (bytes (tokenAt + v9).toNatClampNeg))) ∧ (¬ v9 = 4 → (wp_X10_spells_J103 tokenAt tokenLong token bytes Post (fun (v1_32 : Int32) (v2_33 : Int32) (v3_34 : Int32) (v4_35 : Int32) (v5_36 : Int32) (v6_37 : Int32) (v7_38 : Int32) (v8_39 : Int32) (v9_40 : Int32) => wp_X10_spells_L26 tokenAt tokenLong token bytes Post  n v1_32 v2_33 v3_34 v4_35 v5_36 v6_37 v7_38 v8_39 v9_40) v1 v2 v3 v4 v5 v6 v7 v9 v7 (bytes (tokenAt + v9).toNatClampNeg)))))))))))))))))
set_option maxHeartbeats 4000000 in
set_option maxRecDepth 100000 in
theorem k_X10_spells_L26 {p : Program} {l : Launch} {e : Env} {s : State} {m : MethodId} {ar : Array Value} {bl : List Frame} {meth : Method} {c : Code} {D : va_G} {A : Nat → Prop} {cI cB cZ cP cC : ClassId} {a_m a_m_told a_m_kept a_m_isKept a_m_refused a_m_months a_m_heirs a_m_lasts a_m_cares a_m_bestCares a_m_ones a_m_others a_m_bytes a_m_anew a_m_values : Nat} {above : Int64} {below : Int64} {retired : Int32} {manyLine : Int32} {bytesLong : Int32} {tokenAt : Int32} {tokenLong : Int32} {token : Int32} {value : Int32} {bytes : Nat → Int32} {Post : Int32 → Prop} (C0 : mxC p s m ar meth c cX10_spells RX10 (some .boolean) 10 D (mxTy cI cB cZ cP cC) A) :
    ∀ (n : Nat) (v1 : Int32) (v2 : Int32) (v3 : Int32) (v4 : Int32) (v5 : Int32) (v6 : Int32) (v7 : Int32) (v8 : Int32) (v9 : Int32) (H : Heap) (locs : List Loc) (ls : Array Slot), va_P D vwCl (ww_X10_spells a_m a_m_told a_m_kept a_m_isKept a_m_refused a_m_months a_m_heirs a_m_lasts a_m_cares a_m_bestCares a_m_ones a_m_others a_m_bytes a_m_anew a_m_values cI cB cZ cP cC above below retired manyLine bytesLong tokenAt tokenLong token value bytes) H → va_D A (ww_X10_spells a_m a_m_told a_m_kept a_m_isKept a_m_refused a_m_months a_m_heirs a_m_lasts a_m_cares a_m_bestCares a_m_ones a_m_others a_m_bytes a_m_anew a_m_values cI cB cZ cP cC above below retired manyLine bytesLong tokenAt tokenLong token value bytes) → va_S A s.heap H locs → lv_has ls 10 [(0, .ref a_m), (1, .int v1), (2, .int v2), (3, .int v3), (4, .int v4), (5, .int v5), (6, .int v6), (7, .int v7), (8, .int v8), (9, .int v9)] → wp_X10_spells_L26 tokenAt tokenLong token bytes Post  n v1 v2 v3 v4 v5 v6 v7 v8 v9 → W p l e rm_X10_spells s m ar bl meth c H locs 0 0 (MQ bl (qq_X10_spells D a_m a_m_told a_m_kept a_m_isKept a_m_refused a_m_months a_m_heirs a_m_lasts a_m_cares a_m_bestCares a_m_ones a_m_others a_m_bytes a_m_anew a_m_values cI cB cZ cP cC above below retired manyLine bytesLong tokenAt tokenLong token value bytes Post A) ar s 0 0 A) (F0 m 26 ls []) := by
  obtain ⟨hx, hb, hr, hlocks, hml, hown, hts, hK, hA⟩ := id C0
  intro n
  induction n with
  | zero =>
    intro v1 v2 v3 v4 v5 v6 v7 v8 v9 H locs ls hP hD hS hl hw
    exact absurd hw (fun h => h)
  | succ n ih =>
    intro v1 v2 v3 v4 v5 v6 v7 v8 v9 H locs ls hP hD hS hl hw
    refine lv_iload hx hb dX10_spells_26 (lv_at hl 9 rfl) ?_
    refine lv_iload_n hx hb dX10_spells_28 rfl (lv_at hl 1 rfl) ?_
    refine lv_icmp_ge (tgt := 119) hx hb dX10_spells_29 (by decide) (fun c_2 => ?_) (fun c_2 => ?_)
    · replace hw := hw.1 c_2
      refine lv_iload hx hb dX10_spells_119 (lv_at hl 8 rfl) ?_
      obtain ⟨h_3, hw⟩ := hw
      exact mx_iret () hx hb hr hlocks (mx_narZ h_3) hw hK hP hD hS dX10_spells_121
    · replace hw := hw.2 c_2
      refine lv_iload hx hb dX10_spells_32 (lv_at hl 8 rfl) ?_
      refine lv_if_eq (tgt := 119) hx hb dX10_spells_34 (by decide) (fun c_4 => ?_) (fun c_4 => ?_)
      · replace hw := hw.1 c_4
        refine lv_iload hx hb dX10_spells_119 (lv_at hl 8 rfl) ?_
        obtain ⟨h_5, hw⟩ := hw
        exact mx_iret () hx hb hr hlocks (mx_narZ h_5) hw hK hP hD hS dX10_spells_121
      · replace hw := hw.2 c_4
        refine lv_aload_n hx hb dX10_spells_37 rfl (lv_at hl 0 rfl) ?_
        refine mx_get (ci := 10) (C := RX10) (T := TX10) (N := 23) hx hb hown in_wsX100 hts hK hP 0 rfl rfl 15 (by decide) q_103 rfl (v := .ref a_m_bytes) rfl dX10_spells_38 ?_
        refine lv_aload_n hx hb dX10_spells_41 rfl (lv_at hl 0 rfl) ?_
        refine mx_get (ci := 10) (C := RX10) (T := TX10) (N := 23) hx hb hown in_wsX100 hts hK hP 0 rfl rfl 17 (by decide) q_337 rfl (v := .int tokenAt) rfl dX10_spells_42 ?_
        refine lv_iload hx hb dX10_spells_45 (lv_at hl 9 rfl) ?_
        refine lv_iadd hx hb dX10_spells_47 ?_
        obtain ⟨h_6, hw⟩ := hw
        refine mx_iald hx hb hK hP 1 0 rfl rfl h_6 (bytes (tokenAt + v9).toNatClampNeg) rfl dX10_spells_48 ?_
        refine lv_iload hx hb dX10_spells_49 (lv_at hl 9 rfl) ?_
        refine lv_if_ne (tgt := 58) hx hb dX10_spells_51 (by decide) (fun c_7 => ?_) (fun c_7 => ?_)
        · replace hw := hw.2 c_7
          refine lv_iload hx hb dX10_spells_58 (lv_at hl 9 rfl) ?_
          refine lv_iconst (v := 1) hx hb dX10_spells_60 (by decide) ?_
          refine lv_icmp_ne (tgt := 68) hx hb dX10_spells_61 (by decide) (fun c_8 => ?_) (fun c_8 => ?_)
          · replace hw := hw.2 c_8
            refine lv_iload hx hb dX10_spells_68 (lv_at hl 9 rfl) ?_
            refine lv_iconst (v := 2) hx hb dX10_spells_70 (by decide) ?_
            refine lv_icmp_ne (tgt := 79) hx hb dX10_spells_71 (by decide) (fun c_9 => ?_) (fun c_9 => ?_)
            · replace hw := hw.2 c_9
              refine lv_iload hx hb dX10_spells_79 (lv_at hl 9 rfl) ?_
              refine lv_iconst (v := 3) hx hb dX10_spells_81 (by decide) ?_
              refine lv_icmp_ne (tgt := 90) hx hb dX10_spells_82 (by decide) (fun c_10 => ?_) (fun c_10 => ?_)
              · replace hw := hw.2 c_10
                refine lv_iload hx hb dX10_spells_90 (lv_at hl 9 rfl) ?_
                refine lv_iconst (v := 4) hx hb dX10_spells_92 (by decide) ?_
                refine lv_icmp_ne (tgt := 101) hx hb dX10_spells_93 (by decide) (fun c_11 => ?_) (fun c_11 => ?_)
                · replace hw := hw.2 c_11
                  refine lv_iload hx hb dX10_spells_101 (lv_at hl 7 rfl) ?_
                  refine k_X10_spells_J103 C0 ?_ v1 v2 v3 v4 v5 v6 v7 v9 v7 (bytes (tokenAt + v9).toNatClampNeg) _ _ _ hP hD hS (lv_sub hl [0, 1, 2, 3, 4, 5, 6, 7, 9] rfl) hw
                  intro v1_32 v2_33 v3_34 v4_35 v5_36 v6_37 v7_38 v8_39 v9_40 H locs ls hP hD hS hl hw
                  exact ih v1_32 v2_33 v3_34 v4_35 v5_36 v6_37 v7_38 v8_39 v9_40 _ _ _ hP hD hS (lv_sub hl [0, 1, 2, 3, 4, 5, 6, 7, 8, 9] rfl) hw
                · replace hw := hw.1 c_11
                  refine lv_iload hx hb dX10_spells_96 (lv_at hl 6 rfl) ?_
                  refine lv_goto (tgt := 103) hx hb dX10_spells_98 (by decide) ?_
                  refine k_X10_spells_J103 C0 ?_ v1 v2 v3 v4 v5 v6 v7 v9 v6 (bytes (tokenAt + v9).toNatClampNeg) _ _ _ hP hD hS (lv_sub hl [0, 1, 2, 3, 4, 5, 6, 7, 9] rfl) hw
                  intro v1_41 v2_42 v3_43 v4_44 v5_45 v6_46 v7_47 v8_48 v9_49 H locs ls hP hD hS hl hw
                  exact ih v1_41 v2_42 v3_43 v4_44 v5_45 v6_46 v7_47 v8_48 v9_49 _ _ _ hP hD hS (lv_sub hl [0, 1, 2, 3, 4, 5, 6, 7, 8, 9] rfl) hw
              · replace hw := hw.1 c_10
                refine lv_iload hx hb dX10_spells_85 (lv_at hl 5 rfl) ?_
                refine lv_goto (tgt := 103) hx hb dX10_spells_87 (by decide) ?_
                refine k_X10_spells_J103 C0 ?_ v1 v2 v3 v4 v5 v6 v7 v9 v5 (bytes (tokenAt + v9).toNatClampNeg) _ _ _ hP hD hS (lv_sub hl [0, 1, 2, 3, 4, 5, 6, 7, 9] rfl) hw
                intro v1_50 v2_51 v3_52 v4_53 v5_54 v6_55 v7_56 v8_57 v9_58 H locs ls hP hD hS hl hw
                exact ih v1_50 v2_51 v3_52 v4_53 v5_54 v6_55 v7_56 v8_57 v9_58 _ _ _ hP hD hS (lv_sub hl [0, 1, 2, 3, 4, 5, 6, 7, 8, 9] rfl) hw
            · replace hw := hw.1 c_9
              refine lv_iload hx hb dX10_spells_74 (lv_at hl 4 rfl) ?_
              refine lv_goto (tgt := 103) hx hb dX10_spells_76 (by decide) ?_
              refine k_X10_spells_J103 C0 ?_ v1 v2 v3 v4 v5 v6 v7 v9 v4 (bytes (tokenAt + v9).toNatClampNeg) _ _ _ hP hD hS (lv_sub hl [0, 1, 2, 3, 4, 5, 6, 7, 9] rfl) hw
              intro v1_59 v2_60 v3_61 v4_62 v5_63 v6_64 v7_65 v8_66 v9_67 H locs ls hP hD hS hl hw
              exact ih v1_59 v2_60 v3_61 v4_62 v5_63 v6_64 v7_65 v8_66 v9_67 _ _ _ hP hD hS (lv_sub hl [0, 1, 2, 3, 4, 5, 6, 7, 8, 9] rfl) hw
          · replace hw := hw.1 c_8
            refine lv_iload_n hx hb dX10_spells_64 rfl (lv_at hl 3 rfl) ?_
            refine lv_goto (tgt := 103) hx hb dX10_spells_65 (by decide) ?_
            refine k_X10_spells_J103 C0 ?_ v1 v2 v3 v4 v5 v6 v7 v9 v3 (bytes (tokenAt + v9).toNatClampNeg) _ _ _ hP hD hS (lv_sub hl [0, 1, 2, 3, 4, 5, 6, 7, 9] rfl) hw
            intro v1_68 v2_69 v3_70 v4_71 v5_72 v6_73 v7_74 v8_75 v9_76 H locs ls hP hD hS hl hw
            exact ih v1_68 v2_69 v3_70 v4_71 v5_72 v6_73 v7_74 v8_75 v9_76 _ _ _ hP hD hS (lv_sub hl [0, 1, 2, 3, 4, 5, 6, 7, 8, 9] rfl) hw
        · replace hw := hw.1 c_7
          refine lv_iload_n hx hb dX10_spells_54 rfl (lv_at hl 2 rfl) ?_
          refine lv_goto (tgt := 103) hx hb dX10_spells_55 (by decide) ?_
          refine k_X10_spells_J103 C0 ?_ v1 v2 v3 v4 v5 v6 v7 v9 v2 (bytes (tokenAt + v9).toNatClampNeg) _ _ _ hP hD hS (lv_sub hl [0, 1, 2, 3, 4, 5, 6, 7, 9] rfl) hw
          intro v1_77 v2_78 v3_79 v4_80 v5_81 v6_82 v7_83 v8_84 v9_85 H locs ls hP hD hS hl hw
          exact ih v1_77 v2_78 v3_79 v4_80 v5_81 v6_82 v7_83 v8_84 v9_85 _ _ _ hP hD hS (lv_sub hl [0, 1, 2, 3, 4, 5, 6, 7, 8, 9] rfl) hw
def wp_X10_spells_J21 (tokenAt : Int32) (tokenLong : Int32) (token : Int32) (bytes : Nat → Int32) (Post : Int32 → Prop)  (v1 : Int32) (v2 : Int32) (v3 : Int32) (v4 : Int32) (v5 : Int32) (v6 : Int32) (v7 : Int32) (s0 : Int32) : Prop :=
  (∃ k_86 : Nat, wp_X10_spells_L26 tokenAt tokenLong token bytes Post k_86 v1 v2 v3 v4 v5 v6 v7 s0 0)
set_option maxHeartbeats 4000000 in
set_option maxRecDepth 100000 in
theorem k_X10_spells_J21 {p : Program} {l : Launch} {e : Env} {s : State} {m : MethodId} {ar : Array Value} {bl : List Frame} {meth : Method} {c : Code} {D : va_G} {A : Nat → Prop} {cI cB cZ cP cC : ClassId} {a_m a_m_told a_m_kept a_m_isKept a_m_refused a_m_months a_m_heirs a_m_lasts a_m_cares a_m_bestCares a_m_ones a_m_others a_m_bytes a_m_anew a_m_values : Nat} {above : Int64} {below : Int64} {retired : Int32} {manyLine : Int32} {bytesLong : Int32} {tokenAt : Int32} {tokenLong : Int32} {token : Int32} {value : Int32} {bytes : Nat → Int32} {Post : Int32 → Prop} (C0 : mxC p s m ar meth c cX10_spells RX10 (some .boolean) 10 D (mxTy cI cB cZ cP cC) A) :
    ∀ (v1 : Int32) (v2 : Int32) (v3 : Int32) (v4 : Int32) (v5 : Int32) (v6 : Int32) (v7 : Int32) (s0 : Int32) (H : Heap) (locs : List Loc) (ls : Array Slot), va_P D vwCl (ww_X10_spells a_m a_m_told a_m_kept a_m_isKept a_m_refused a_m_months a_m_heirs a_m_lasts a_m_cares a_m_bestCares a_m_ones a_m_others a_m_bytes a_m_anew a_m_values cI cB cZ cP cC above below retired manyLine bytesLong tokenAt tokenLong token value bytes) H → va_D A (ww_X10_spells a_m a_m_told a_m_kept a_m_isKept a_m_refused a_m_months a_m_heirs a_m_lasts a_m_cares a_m_bestCares a_m_ones a_m_others a_m_bytes a_m_anew a_m_values cI cB cZ cP cC above below retired manyLine bytesLong tokenAt tokenLong token value bytes) → va_S A s.heap H locs → lv_has ls 10 [(0, .ref a_m), (1, .int v1), (2, .int v2), (3, .int v3), (4, .int v4), (5, .int v5), (6, .int v6), (7, .int v7)] → wp_X10_spells_J21 tokenAt tokenLong token bytes Post  v1 v2 v3 v4 v5 v6 v7 s0 → W p l e rm_X10_spells s m ar bl meth c H locs 0 0 (MQ bl (qq_X10_spells D a_m a_m_told a_m_kept a_m_isKept a_m_refused a_m_months a_m_heirs a_m_lasts a_m_cares a_m_bestCares a_m_ones a_m_others a_m_bytes a_m_anew a_m_values cI cB cZ cP cC above below retired manyLine bytesLong tokenAt tokenLong token value bytes Post A) ar s 0 0 A) (F0 m 21 ls [.int s0]) := by
  obtain ⟨hx, hb, hr, hlocks, hml, hown, hts, hK, hA⟩ := id C0
  intro v1 v2 v3 v4 v5 v6 v7 s0 H locs ls hP hD hS hl hw
  refine lv_istore (lv' := [(8, .int s0), (0, .ref a_m), (1, .int v1), (2, .int v2), (3, .int v3), (4, .int v4), (5, .int v5), (6, .int v6), (7, .int v7)]) hx hb dX10_spells_21 hl (by decide) rfl (fun ls hl => ?_)
  refine lv_iconst (v := 0) hx hb dX10_spells_23 (by decide) ?_
  refine lv_istore (lv' := [(9, .int 0), (8, .int s0), (0, .ref a_m), (1, .int v1), (2, .int v2), (3, .int v3), (4, .int v4), (5, .int v5), (6, .int v6), (7, .int v7)]) hx hb dX10_spells_24 hl (by decide) rfl (fun ls hl => ?_)
  obtain ⟨n0, hw⟩ := hw
  refine k_X10_spells_L26 C0  n0 v1 v2 v3 v4 v5 v6 v7 s0 0 _ _ _ hP hD hS (lv_sub hl [2, 3, 4, 5, 6, 7, 8, 9, 1, 0] rfl) hw
def wp_X10_spells_J20 (tokenAt : Int32) (tokenLong : Int32) (token : Int32) (bytes : Nat → Int32) (Post : Int32 → Prop)  (v1 : Int32) (v2 : Int32) (v3 : Int32) (v4 : Int32) (v5 : Int32) (v6 : Int32) (v7 : Int32) : Prop :=
  (wp_X10_spells_J21 tokenAt tokenLong token bytes Post v1 v2 v3 v4 v5 v6 v7 0)
set_option maxHeartbeats 4000000 in
set_option maxRecDepth 100000 in
theorem k_X10_spells_J20 {p : Program} {l : Launch} {e : Env} {s : State} {m : MethodId} {ar : Array Value} {bl : List Frame} {meth : Method} {c : Code} {D : va_G} {A : Nat → Prop} {cI cB cZ cP cC : ClassId} {a_m a_m_told a_m_kept a_m_isKept a_m_refused a_m_months a_m_heirs a_m_lasts a_m_cares a_m_bestCares a_m_ones a_m_others a_m_bytes a_m_anew a_m_values : Nat} {above : Int64} {below : Int64} {retired : Int32} {manyLine : Int32} {bytesLong : Int32} {tokenAt : Int32} {tokenLong : Int32} {token : Int32} {value : Int32} {bytes : Nat → Int32} {Post : Int32 → Prop} (C0 : mxC p s m ar meth c cX10_spells RX10 (some .boolean) 10 D (mxTy cI cB cZ cP cC) A) :
    ∀ (v1 : Int32) (v2 : Int32) (v3 : Int32) (v4 : Int32) (v5 : Int32) (v6 : Int32) (v7 : Int32) (H : Heap) (locs : List Loc) (ls : Array Slot), va_P D vwCl (ww_X10_spells a_m a_m_told a_m_kept a_m_isKept a_m_refused a_m_months a_m_heirs a_m_lasts a_m_cares a_m_bestCares a_m_ones a_m_others a_m_bytes a_m_anew a_m_values cI cB cZ cP cC above below retired manyLine bytesLong tokenAt tokenLong token value bytes) H → va_D A (ww_X10_spells a_m a_m_told a_m_kept a_m_isKept a_m_refused a_m_months a_m_heirs a_m_lasts a_m_cares a_m_bestCares a_m_ones a_m_others a_m_bytes a_m_anew a_m_values cI cB cZ cP cC above below retired manyLine bytesLong tokenAt tokenLong token value bytes) → va_S A s.heap H locs → lv_has ls 10 [(0, .ref a_m), (1, .int v1), (2, .int v2), (3, .int v3), (4, .int v4), (5, .int v5), (6, .int v6), (7, .int v7)] → wp_X10_spells_J20 tokenAt tokenLong token bytes Post  v1 v2 v3 v4 v5 v6 v7 → W p l e rm_X10_spells s m ar bl meth c H locs 0 0 (MQ bl (qq_X10_spells D a_m a_m_told a_m_kept a_m_isKept a_m_refused a_m_months a_m_heirs a_m_lasts a_m_cares a_m_bestCares a_m_ones a_m_others a_m_bytes a_m_anew a_m_values cI cB cZ cP cC above below retired manyLine bytesLong tokenAt tokenLong token value bytes Post A) ar s 0 0 A) (F0 m 20 ls []) := by
  obtain ⟨hx, hb, hr, hlocks, hml, hown, hts, hK, hA⟩ := id C0
  intro v1 v2 v3 v4 v5 v6 v7 H locs ls hP hD hS hl hw
  refine lv_iconst (v := 0) hx hb dX10_spells_20 (by decide) ?_
  exact k_X10_spells_J21 C0  v1 v2 v3 v4 v5 v6 v7 0 _ _ _ hP hD hS (lv_sub hl [0, 1, 2, 3, 4, 5, 6, 7] rfl) hw
def wp_X10_spells (tokenAt : Int32) (tokenLong : Int32) (token : Int32) (bytes : Nat → Int32) (v1 : Int32) (v2 : Int32) (v3 : Int32) (v4 : Int32) (v5 : Int32) (v6 : Int32) (v7 : Int32) (Post : Int32 → Prop) : Prop :=
  ((token = 1 → ((tokenLong = v1 → (wp_X10_spells_J21 tokenAt tokenLong token bytes Post v1 v2 v3 v4 v5 v6 v7 1)) ∧ (¬ tokenLong = v1 → (wp_X10_spells_J20 tokenAt tokenLong token bytes Post v1 v2 v3 v4 v5 v6 v7)))) ∧ (¬ token = 1 → (wp_X10_spells_J20 tokenAt tokenLong token bytes Post v1 v2 v3 v4 v5 v6 v7)))
set_option maxHeartbeats 4000000 in
set_option maxRecDepth 100000 in
theorem c_X10_spells (l : Launch) (D : va_G) (cI cB cZ cP cC : ClassId) (a_m a_m_told a_m_kept a_m_isKept a_m_refused a_m_months a_m_heirs a_m_lasts a_m_cares a_m_bestCares a_m_ones a_m_others a_m_bytes a_m_anew a_m_values : Nat) (above : Int64) (below : Int64) (retired : Int32) (manyLine : Int32) (bytesLong : Int32) (tokenAt : Int32) (tokenLong : Int32) (token : Int32) (value : Int32) (bytes : Nat → Int32) (v1 : Int32) (v2 : Int32) (v3 : Int32) (v4 : Int32) (v5 : Int32) (v6 : Int32) (v7 : Int32) (sz : Nat) (Post : Int32 → Prop) (hw : wp_X10_spells tokenAt tokenLong token bytes v1 v2 v3 v4 v5 v6 v7 Post) :
    Met l yX10_spells (Cond.code yX10_spells cX10_spells 10 (some .boolean) :: wsAll) rm_X10_spells (va_Pc [.ref a_m, .int v1, .int v2, .int v3, .int v4, .int v5, .int v6, .int v7] (mxP D (mxTy cI cB cZ cP cC) sz (ww_X10_spells a_m a_m_told a_m_kept a_m_isKept a_m_refused a_m_months a_m_heirs a_m_lasts a_m_cares a_m_bestCares a_m_ones a_m_others a_m_bytes a_m_anew a_m_values cI cB cZ cP cC above below retired manyLine bytesLong tokenAt tokenLong token value bytes))) (qq_X10_spells D a_m a_m_told a_m_kept a_m_isKept a_m_refused a_m_months a_m_heirs a_m_lasts a_m_cares a_m_bestCares a_m_ones a_m_others a_m_bytes a_m_anew a_m_values cI cB cZ cP cC above below retired manyLine bytesLong tokenAt tokenLong token value bytes Post (va_A (ww_X10_spells a_m a_m_told a_m_kept a_m_isKept a_m_refused a_m_months a_m_heirs a_m_lasts a_m_cares a_m_bestCares a_m_ones a_m_others a_m_bytes a_m_anew a_m_values cI cB cZ cP cC above below retired manyLine bytesLong tokenAt tokenLong token value bytes) sz)) 0 0 (va_A (ww_X10_spells a_m a_m_told a_m_kept a_m_isKept a_m_refused a_m_months a_m_heirs a_m_lasts a_m_cares a_m_bestCares a_m_ones a_m_others a_m_bytes a_m_anew a_m_values cI cB cZ cP cC above below retired manyLine bytesLong tokenAt tokenLong token value bytes) sz) := by
  refine mx_of (Qc := qq_X10_spells D a_m a_m_told a_m_kept a_m_isKept a_m_refused a_m_months a_m_heirs a_m_lasts a_m_cares a_m_bestCares a_m_ones a_m_others a_m_bytes a_m_anew a_m_values cI cB cZ cP cC above below retired manyLine bytesLong tokenAt tokenLong token value bytes Post) (by decide) (Nat.le_of_ble_eq_true rfl) ?_
  intro p e s m bl meth c A ls C0 hP hD hS hl
  replace C0 : mxC p s m [.ref a_m, .int v1, .int v2, .int v3, .int v4, .int v5, .int v6, .int v7].toArray meth c cX10_spells RX10 (some .boolean) 10 D (mxTy cI cB cZ cP cC) A := C0
  obtain ⟨hx, hb, hr, hlocks, hml, hown, hts, hK, hA⟩ := id C0
  replace hl : lv_has ls 10 [(0, .ref a_m), (1, .int v1), (2, .int v2), (3, .int v3), (4, .int v4), (5, .int v5), (6, .int v6), (7, .int v7)] := hl
  unfold wp_X10_spells at hw
  refine lv_aload_n hx hb dX10_spells_0 rfl (lv_at hl 0 rfl) ?_
  refine mx_get (ci := 10) (C := RX10) (T := TX10) (N := 23) hx hb hown in_wsX100 hts hK hP 0 rfl rfl 19 (by decide) q_338 rfl (v := .int token) rfl dX10_spells_1 ?_
  refine lv_iconst (v := 1) hx hb dX10_spells_4 (by decide) ?_
  refine lv_icmp_ne (tgt := 20) hx hb dX10_spells_5 (by decide) (fun c_1 => ?_) (fun c_1 => ?_)
  · replace hw := hw.2 c_1
    exact k_X10_spells_J20 C0  v1 v2 v3 v4 v5 v6 v7 _ _ _ hP hD hS (lv_sub hl [0, 1, 2, 3, 4, 5, 6, 7] rfl) hw
  · replace hw := hw.1 c_1
    refine lv_aload_n hx hb dX10_spells_8 rfl (lv_at hl 0 rfl) ?_
    refine mx_get (ci := 10) (C := RX10) (T := TX10) (N := 23) hx hb hown in_wsX100 hts hK hP 0 rfl rfl 18 (by decide) q_343 rfl (v := .int tokenLong) rfl dX10_spells_9 ?_
    refine lv_iload_n hx hb dX10_spells_12 rfl (lv_at hl 1 rfl) ?_
    refine lv_icmp_ne (tgt := 20) hx hb dX10_spells_13 (by decide) (fun c_87 => ?_) (fun c_87 => ?_)
    · replace hw := hw.2 c_87
      exact k_X10_spells_J20 C0  v1 v2 v3 v4 v5 v6 v7 _ _ _ hP hD hS (lv_sub hl [0, 1, 2, 3, 4, 5, 6, 7] rfl) hw
    · replace hw := hw.1 c_87
      refine lv_iconst (v := 1) hx hb dX10_spells_16 (by decide) ?_
      refine lv_goto (tgt := 21) hx hb dX10_spells_17 (by decide) ?_
      exact k_X10_spells_J21 C0  v1 v2 v3 v4 v5 v6 v7 1 _ _ _ hP hD hS (lv_sub hl [0, 1, 2, 3, 4, 5, 6, 7] rfl) hw
/-! PramStateModel.takes(III)Z -/
abbrev ww_X10_takes (a_m a_m_told a_m_kept a_m_isKept a_m_refused a_m_months a_m_heirs a_m_lasts a_m_cares a_m_bestCares a_m_ones a_m_others a_m_bytes a_m_anew a_m_values : Nat) (cI cB cZ cP cC : ClassId) (above : Int64) (below : Int64) (retired : Int32) (manyLine : Int32) (bytesLong : Int32) (tokenAt : Int32) (tokenLong : Int32) (token : Int32) (value : Int32) (bytes : Nat → Int32) (values : Nat → Int32) : va_W := [(a_m, .inr (10, [.ref a_m_told, .ref a_m_kept, .ref a_m_isKept, .ref a_m_refused, .long above, .long below, .ref a_m_months, .int retired, .ref a_m_heirs, .ref a_m_lasts, .int manyLine, .ref a_m_cares, .ref a_m_bestCares, .ref a_m_ones, .ref a_m_others, .ref a_m_bytes, .int bytesLong, .int tokenAt, .int tokenLong, .int token, .int value, .ref a_m_anew, .ref a_m_values])), (a_m_bytes, .inl (cI, 150, .inl bytes)), (a_m_values, .inl (cI, 3, .inl values))]
abbrev qq_X10_takes (D : va_G) (a_m a_m_told a_m_kept a_m_isKept a_m_refused a_m_months a_m_heirs a_m_lasts a_m_cares a_m_bestCares a_m_ones a_m_others a_m_bytes a_m_anew a_m_values : Nat) (cI cB cZ cP cC : ClassId) (above : Int64) (below : Int64) (retired : Int32) (manyLine : Int32) (bytesLong : Int32) (bytes : Nat → Int32) (Post : Int32 → Int32 → Int32 → Int32 → Int32 → (Nat → Int32) → Prop) (A : Nat → Prop) : Array Value → State → Outcome → State → Prop := va_Qi (fun (r : Int32) (u : Int32 × Int32 × Int32 × Int32 × (Nat → Int32)) => Post r u.1 u.2.1 u.2.2.1 u.2.2.2.1 u.2.2.2.2) (fun (u : Int32 × Int32 × Int32 × Int32 × (Nat → Int32)) t => mxB D (mxTy cI cB cZ cP cC) A (ww_X10_takes a_m a_m_told a_m_kept a_m_isKept a_m_refused a_m_months a_m_heirs a_m_lasts a_m_cares a_m_bestCares a_m_ones a_m_others a_m_bytes a_m_anew a_m_values cI cB cZ cP cC above below retired manyLine bytesLong (u.1) (u.2.1) (u.2.2.1) (u.2.2.2.1) bytes (u.2.2.2.2)) t) A
abbrev rm_X10_takes : Room := { frames := 4, cells := 0, slots := 0, locals := 89 }
theorem hd_X10_takes : yX10_takes.cls = RX10 ∧ yX10_takes.cls ≠ "java/lang/invoke/MethodHandle" ∧ yX10_takes.cls ≠ "java/lang/invoke/VarHandle" ∧ (parseMethodDescriptor yX10_takes.desc).map (fun d => d.parameters.length) = some 3 := by decide +kernel
def wp_X10_takes (bytesLong : Int32) (bytes : Nat → Int32) (tokenAt : Int32) (tokenLong : Int32) (token : Int32) (value : Int32) (values : Nat → Int32) (v1 : Int32) (v2 : Int32) (v3 : Int32) (Post : Int32 → Int32 → Int32 → Int32 → Int32 → (Nat → Int32) → Prop) : Prop :=
  ((token = 2 → (wp_X10_in (value.toInt64) (v2.toInt64) (v3.toInt64) (fun r_2 => ((r_2 = 0 → Post 0 tokenAt tokenLong token value values) ∧ (¬ r_2 = 0 → (vp_in v1 3 ∧ (∀ f_5 : Nat → Int32, f_5 = upd values v1.toNatClampNeg value → (wp_X10_goBehind bytesLong bytes tokenAt tokenLong token value (fun tokenAt_6 tokenLong_7 token_8 value_9 => Post 1 tokenAt_6 tokenLong_7 token_8 value_9 f_5))))))))) ∧ (¬ token = 2 → Post 0 tokenAt tokenLong token value values))
set_option maxHeartbeats 4000000 in
set_option maxRecDepth 100000 in
theorem c_X10_takes (l : Launch) (D : va_G) (cI cB cZ cP cC : ClassId) (a_m a_m_told a_m_kept a_m_isKept a_m_refused a_m_months a_m_heirs a_m_lasts a_m_cares a_m_bestCares a_m_ones a_m_others a_m_bytes a_m_anew a_m_values : Nat) (above : Int64) (below : Int64) (retired : Int32) (manyLine : Int32) (bytesLong : Int32) (tokenAt : Int32) (tokenLong : Int32) (token : Int32) (value : Int32) (bytes : Nat → Int32) (values : Nat → Int32) (v1 : Int32) (v2 : Int32) (v3 : Int32) (sz : Nat) (Post : Int32 → Int32 → Int32 → Int32 → Int32 → (Nat → Int32) → Prop) (hw : wp_X10_takes bytesLong bytes tokenAt tokenLong token value values v1 v2 v3 Post) :
    Met l yX10_takes (Cond.code yX10_takes cX10_takes 4 (some .boolean) :: wsAll) rm_X10_takes (va_Pc [.ref a_m, .int v1, .int v2, .int v3] (mxP D (mxTy cI cB cZ cP cC) sz (ww_X10_takes a_m a_m_told a_m_kept a_m_isKept a_m_refused a_m_months a_m_heirs a_m_lasts a_m_cares a_m_bestCares a_m_ones a_m_others a_m_bytes a_m_anew a_m_values cI cB cZ cP cC above below retired manyLine bytesLong tokenAt tokenLong token value bytes values))) (qq_X10_takes D a_m a_m_told a_m_kept a_m_isKept a_m_refused a_m_months a_m_heirs a_m_lasts a_m_cares a_m_bestCares a_m_ones a_m_others a_m_bytes a_m_anew a_m_values cI cB cZ cP cC above below retired manyLine bytesLong bytes Post (va_A (ww_X10_takes a_m a_m_told a_m_kept a_m_isKept a_m_refused a_m_months a_m_heirs a_m_lasts a_m_cares a_m_bestCares a_m_ones a_m_others a_m_bytes a_m_anew a_m_values cI cB cZ cP cC above below retired manyLine bytesLong tokenAt tokenLong token value bytes values) sz)) 0 0 (va_A (ww_X10_takes a_m a_m_told a_m_kept a_m_isKept a_m_refused a_m_months a_m_heirs a_m_lasts a_m_cares a_m_bestCares a_m_ones a_m_others a_m_bytes a_m_anew a_m_values cI cB cZ cP cC above below retired manyLine bytesLong tokenAt tokenLong token value bytes values) sz) := by
  refine mx_of (Qc := qq_X10_takes D a_m a_m_told a_m_kept a_m_isKept a_m_refused a_m_months a_m_heirs a_m_lasts a_m_cares a_m_bestCares a_m_ones a_m_others a_m_bytes a_m_anew a_m_values cI cB cZ cP cC above below retired manyLine bytesLong bytes Post) (by decide) (Nat.le_of_ble_eq_true rfl) ?_
  intro p e s m bl meth c A ls C0 hP hD hS hl
  replace C0 : mxC p s m [.ref a_m, .int v1, .int v2, .int v3].toArray meth c cX10_takes RX10 (some .boolean) 4 D (mxTy cI cB cZ cP cC) A := C0
  obtain ⟨hx, hb, hr, hlocks, hml, hown, hts, hK, hA⟩ := id C0
  replace hl : lv_has ls 4 [(0, .ref a_m), (1, .int v1), (2, .int v2), (3, .int v3)] := hl
  unfold wp_X10_takes at hw
  refine lv_aload_n hx hb dX10_takes_0 rfl (lv_at hl 0 rfl) ?_
  refine mx_get (ci := 10) (C := RX10) (T := TX10) (N := 23) hx hb hown in_wsX100 hts hK hP 0 rfl rfl 19 (by decide) q_338 rfl (v := .int token) rfl dX10_takes_1 ?_
  refine lv_iconst (v := 2) hx hb dX10_takes_4 (by decide) ?_
  refine lv_icmp_ne (tgt := 23) hx hb dX10_takes_5 (by decide) (fun c_1 => ?_) (fun c_1 => ?_)
  · replace hw := hw.2 c_1
    refine lv_iconst (v := 0) hx hb dX10_takes_23 (by decide) ?_
    exact mx_iret (tokenAt, tokenLong, token, value, values) hx hb hr hlocks rfl hw hK hP hD hS dX10_takes_24
  · replace hw := hw.1 c_1
    refine lv_aload_n hx hb dX10_takes_8 rfl (lv_at hl 0 rfl) ?_
    refine mx_get (ci := 10) (C := RX10) (T := TX10) (N := 23) hx hb hown in_wsX100 hts hK hP 0 rfl rfl 20 (by decide) q_344 rfl (v := .int value) rfl dX10_takes_9 ?_
    refine lv_i2l (v := value.toInt64) hx hb dX10_takes_12 rfl ?_
    refine lv_iload_n hx hb dX10_takes_13 rfl (lv_at hl 2 rfl) ?_
    refine lv_i2l (v := v2.toInt64) hx hb dX10_takes_14 rfl ?_
    refine lv_iload_n hx hb dX10_takes_15 rfl (lv_at hl 3 rfl) ?_
    refine lv_i2l (v := v3.toInt64) hx hb dX10_takes_16 rfl ?_
    refine mx_ki (mx_rS (rm := rm_X10_in) (rest := []) hx hb hml hown hts (c_X10_in l D cI cB cZ cP cC (value.toInt64) (v2.toInt64) (v3.toInt64) _ _ hw) q_163 q_164 q_5 q_165 hd_X10_in ⟨(Nat.le_of_ble_eq_true rfl), (Nat.le_of_ble_eq_true rfl)⟩ rfl rfl hK hP hD [] rfl rfl rfl hl.1 rfl (Nat.le_of_ble_eq_true rfl) dX10_takes_17 ⟨(Nat.le_of_ble_eq_true rfl), (Nat.le_of_ble_eq_true rfl)⟩) hP hD hS hA [] [0, 1, 2] [0, 1, 2] (fun _ => ww_X10_takes a_m a_m_told a_m_kept a_m_isKept a_m_refused a_m_months a_m_heirs a_m_lasts a_m_cares a_m_bestCares a_m_ones a_m_others a_m_bytes a_m_anew a_m_values cI cB cZ cP cC above below retired manyLine bytesLong tokenAt tokenLong token value bytes values) rfl rfl rfl (by decide) rfl (fun _ => rfl) (fun r_2 u H locs hw hP hD hS => ?_)
    try dsimp only at hw
    replace hP : va_P D vwCl (ww_X10_takes a_m a_m_told a_m_kept a_m_isKept a_m_refused a_m_months a_m_heirs a_m_lasts a_m_cares a_m_bestCares a_m_ones a_m_others a_m_bytes a_m_anew a_m_values cI cB cZ cP cC above below retired manyLine bytesLong tokenAt tokenLong token value bytes values) H := hP
    replace hD : va_D A (ww_X10_takes a_m a_m_told a_m_kept a_m_isKept a_m_refused a_m_months a_m_heirs a_m_lasts a_m_cares a_m_bestCares a_m_ones a_m_others a_m_bytes a_m_anew a_m_values cI cB cZ cP cC above below retired manyLine bytesLong tokenAt tokenLong token value bytes values) := hD
    refine lv_if_ne (tgt := 25) hx hb dX10_takes_20 (by decide) (fun c_3 => ?_) (fun c_3 => ?_)
    · replace hw := hw.2 c_3
      refine lv_aload_n hx hb dX10_takes_25 rfl (lv_at hl 0 rfl) ?_
      refine mx_get (ci := 10) (C := RX10) (T := TX10) (N := 23) hx hb hown in_wsX100 hts hK hP 0 rfl rfl 22 (by decide) q_105 rfl (v := .ref a_m_values) rfl dX10_takes_26 ?_
      refine lv_iload_n hx hb dX10_takes_29 rfl (lv_at hl 1 rfl) ?_
      refine lv_aload_n hx hb dX10_takes_30 rfl (lv_at hl 0 rfl) ?_
      refine mx_get (ci := 10) (C := RX10) (T := TX10) (N := 23) hx hb hown in_wsX100 hts hK hP 0 rfl rfl 20 (by decide) q_344 rfl (v := .int value) rfl dX10_takes_31 ?_
      obtain ⟨h_4, hw⟩ := hw
      obtain ⟨f_5, ef_5⟩ : ∃ y : Nat → Int32, y = upd values v1.toNatClampNeg value := ⟨_, rfl⟩
      replace hw := hw f_5 ef_5
      refine mx_iast hx hb hK hP hD hS 2 0 rfl rfl h_4 f_5 ef_5 (ww_X10_takes a_m a_m_told a_m_kept a_m_isKept a_m_refused a_m_months a_m_heirs a_m_lasts a_m_cares a_m_bestCares a_m_ones a_m_others a_m_bytes a_m_anew a_m_values cI cB cZ cP cC above below retired manyLine bytesLong tokenAt tokenLong token value bytes f_5) rfl dX10_takes_34 (fun H locs hP hD hS => ?_)
      refine lv_aload_n hx hb dX10_takes_35 rfl (lv_at hl 0 rfl) ?_
      refine mx_kv (mx_rV (rm := rm_X10_goBehind) (rest := []) (C := RX10) hx hb hml hown hts (c_X10_goBehind l D cI cB cZ cP cC a_m a_m_told a_m_kept a_m_isKept a_m_refused a_m_months a_m_heirs a_m_lasts a_m_cares a_m_bestCares a_m_ones a_m_others a_m_bytes a_m_anew a_m_values above below retired manyLine bytesLong tokenAt tokenLong token value bytes _ _ hw) q_359 q_360 q_361 q_5 q_362 hd_X10_goBehind ⟨(Nat.le_of_ble_eq_true rfl), (Nat.le_of_ble_eq_true rfl)⟩ rfl rfl hK hP hD [0, 1] rfl rfl 10 0 rfl rfl rfl rfl hl.1 rfl (Nat.le_of_ble_eq_true rfl) dX10_takes_36 ⟨(Nat.le_of_ble_eq_true rfl), (Nat.le_of_ble_eq_true rfl)⟩) hP hD hS hA [0, 1] [2] [1, 2, 0] (fun u => ww_X10_takes a_m a_m_told a_m_kept a_m_isKept a_m_refused a_m_months a_m_heirs a_m_lasts a_m_cares a_m_bestCares a_m_ones a_m_others a_m_bytes a_m_anew a_m_values cI cB cZ cP cC above below retired manyLine bytesLong (u.1) (u.2.1) (u.2.2.1) (u.2.2.2) bytes f_5) rfl rfl rfl (by decide) rfl (fun _ => rfl) (fun u H locs hw hP hD hS => ?_)
      obtain ⟨tokenAt_6, tokenLong_7, token_8, value_9⟩ := u
      try dsimp only at hw
      replace hP : va_P D vwCl (ww_X10_takes a_m a_m_told a_m_kept a_m_isKept a_m_refused a_m_months a_m_heirs a_m_lasts a_m_cares a_m_bestCares a_m_ones a_m_others a_m_bytes a_m_anew a_m_values cI cB cZ cP cC above below retired manyLine bytesLong tokenAt_6 tokenLong_7 token_8 value_9 bytes f_5) H := hP
      replace hD : va_D A (ww_X10_takes a_m a_m_told a_m_kept a_m_isKept a_m_refused a_m_months a_m_heirs a_m_lasts a_m_cares a_m_bestCares a_m_ones a_m_others a_m_bytes a_m_anew a_m_values cI cB cZ cP cC above below retired manyLine bytesLong tokenAt_6 tokenLong_7 token_8 value_9 bytes f_5) := hD
      refine lv_iconst (v := 1) hx hb dX10_takes_39 (by decide) ?_
      exact mx_iret (tokenAt_6, tokenLong_7, token_8, value_9, f_5) hx hb hr hlocks rfl hw hK hP hD hS dX10_takes_40
    · replace hw := hw.1 c_3
      refine lv_iconst (v := 0) hx hb dX10_takes_23 (by decide) ?_
      exact mx_iret (tokenAt, tokenLong, token, value, values) hx hb hr hlocks rfl hw hK hP hD hS dX10_takes_24
/-! PramStateModel.takesInfant()Z -/
abbrev ww_X10_takesInfant (a_m a_m_told a_m_kept a_m_isKept a_m_refused a_m_months a_m_heirs a_m_lasts a_m_cares a_m_bestCares a_m_ones a_m_others a_m_bytes a_m_anew a_m_values : Nat) (cI cB cZ cP cC : ClassId) (above : Int64) (below : Int64) (retired : Int32) (manyLine : Int32) (bytesLong : Int32) (tokenAt : Int32) (tokenLong : Int32) (token : Int32) (value : Int32) (bytes : Nat → Int32) (anew : Nat → Int32) (values : Nat → Int32) : va_W := [(a_m, .inr (10, [.ref a_m_told, .ref a_m_kept, .ref a_m_isKept, .ref a_m_refused, .long above, .long below, .ref a_m_months, .int retired, .ref a_m_heirs, .ref a_m_lasts, .int manyLine, .ref a_m_cares, .ref a_m_bestCares, .ref a_m_ones, .ref a_m_others, .ref a_m_bytes, .int bytesLong, .int tokenAt, .int tokenLong, .int token, .int value, .ref a_m_anew, .ref a_m_values])), (a_m_bytes, .inl (cI, 150, .inl bytes)), (a_m_anew, .inl (cI, 78, .inl anew)), (a_m_values, .inl (cI, 3, .inl values))]
abbrev qq_X10_takesInfant (D : va_G) (a_m a_m_told a_m_kept a_m_isKept a_m_refused a_m_months a_m_heirs a_m_lasts a_m_cares a_m_bestCares a_m_ones a_m_others a_m_bytes a_m_anew a_m_values : Nat) (cI cB cZ cP cC : ClassId) (above : Int64) (below : Int64) (retired : Int32) (manyLine : Int32) (bytesLong : Int32) (bytes : Nat → Int32) (Post : Int32 → Int32 → Int32 → Int32 → Int32 → (Nat → Int32) → (Nat → Int32) → Prop) (A : Nat → Prop) : Array Value → State → Outcome → State → Prop := va_Qi (fun (r : Int32) (u : Int32 × Int32 × Int32 × Int32 × (Nat → Int32) × (Nat → Int32)) => Post r u.1 u.2.1 u.2.2.1 u.2.2.2.1 u.2.2.2.2.1 u.2.2.2.2.2) (fun (u : Int32 × Int32 × Int32 × Int32 × (Nat → Int32) × (Nat → Int32)) t => mxB D (mxTy cI cB cZ cP cC) A (ww_X10_takesInfant a_m a_m_told a_m_kept a_m_isKept a_m_refused a_m_months a_m_heirs a_m_lasts a_m_cares a_m_bestCares a_m_ones a_m_others a_m_bytes a_m_anew a_m_values cI cB cZ cP cC above below retired manyLine bytesLong (u.1) (u.2.1) (u.2.2.1) (u.2.2.2.1) bytes (u.2.2.2.2.1) (u.2.2.2.2.2)) t) A
abbrev rm_X10_takesInfant : Room := { frames := 5, cells := 0, slots := 0, locals := 112 }
theorem hd_X10_takesInfant : yX10_takesInfant.cls = RX10 ∧ yX10_takesInfant.cls ≠ "java/lang/invoke/MethodHandle" ∧ yX10_takesInfant.cls ≠ "java/lang/invoke/VarHandle" ∧ (parseMethodDescriptor yX10_takesInfant.desc).map (fun d => d.parameters.length) = some 0 := by decide +kernel
def wp_X10_takesInfant (bytesLong : Int32) (bytes : Nat → Int32) (tokenAt : Int32) (tokenLong : Int32) (token : Int32) (value : Int32) (anew : Nat → Int32) (values : Nat → Int32) (Post : Int32 → Int32 → Int32 → Int32 → Int32 → (Nat → Int32) → (Nat → Int32) → Prop) : Prop :=
  (((anew 0) = 6 → Post 0 tokenAt tokenLong token value anew values) ∧ (¬ (anew 0) = 6 → (wp_X10_goBehind bytesLong bytes tokenAt tokenLong token value (fun tokenAt_2 tokenLong_3 token_4 value_5 => (wp_X10_takes bytesLong bytes tokenAt_2 tokenLong_3 token_4 value_5 values 0 0 5 (fun r_6 tokenAt_7 tokenLong_8 token_9 value_10 values_11 => ((r_6 = 0 → Post 0 tokenAt_7 tokenLong_8 token_9 value_10 anew values_11) ∧ (¬ r_6 = 0 → (wp_X10_takes bytesLong bytes tokenAt_7 tokenLong_8 token_9 value_10 values_11 1 0 35 (fun r_13 tokenAt_14 tokenLong_15 token_16 value_17 values_18 => ((r_13 = 0 → Post 0 tokenAt_14 tokenLong_15 token_16 value_17 anew values_18) ∧ (¬ r_13 = 0 → (wp_X10_takes bytesLong bytes tokenAt_14 tokenLong_15 token_16 value_17 values_18 2 0 5 (fun r_20 tokenAt_21 tokenLong_22 token_23 value_24 values_25 => ((r_20 = 0 → Post 0 tokenAt_21 tokenLong_22 token_23 value_24 anew values_25) ∧ (¬ r_20 = 0 → (wp_X10_layInfant 78 anew (values_25 0) (values_25 1) (values_25 2) (fun anew_27 => Post 1 tokenAt_21 tokenLong_22 token_23 value_24 anew_27 values_25))))))))))))))))))
set_option maxHeartbeats 4000000 in
set_option maxRecDepth 100000 in
theorem c_X10_takesInfant (l : Launch) (D : va_G) (cI cB cZ cP cC : ClassId) (a_m a_m_told a_m_kept a_m_isKept a_m_refused a_m_months a_m_heirs a_m_lasts a_m_cares a_m_bestCares a_m_ones a_m_others a_m_bytes a_m_anew a_m_values : Nat) (above : Int64) (below : Int64) (retired : Int32) (manyLine : Int32) (bytesLong : Int32) (tokenAt : Int32) (tokenLong : Int32) (token : Int32) (value : Int32) (bytes : Nat → Int32) (anew : Nat → Int32) (values : Nat → Int32)  (sz : Nat) (Post : Int32 → Int32 → Int32 → Int32 → Int32 → (Nat → Int32) → (Nat → Int32) → Prop) (hw : wp_X10_takesInfant bytesLong bytes tokenAt tokenLong token value anew values Post) :
    Met l yX10_takesInfant (Cond.code yX10_takesInfant cX10_takesInfant 1 (some .boolean) :: wsAll) rm_X10_takesInfant (va_Pc [.ref a_m] (mxP D (mxTy cI cB cZ cP cC) sz (ww_X10_takesInfant a_m a_m_told a_m_kept a_m_isKept a_m_refused a_m_months a_m_heirs a_m_lasts a_m_cares a_m_bestCares a_m_ones a_m_others a_m_bytes a_m_anew a_m_values cI cB cZ cP cC above below retired manyLine bytesLong tokenAt tokenLong token value bytes anew values))) (qq_X10_takesInfant D a_m a_m_told a_m_kept a_m_isKept a_m_refused a_m_months a_m_heirs a_m_lasts a_m_cares a_m_bestCares a_m_ones a_m_others a_m_bytes a_m_anew a_m_values cI cB cZ cP cC above below retired manyLine bytesLong bytes Post (va_A (ww_X10_takesInfant a_m a_m_told a_m_kept a_m_isKept a_m_refused a_m_months a_m_heirs a_m_lasts a_m_cares a_m_bestCares a_m_ones a_m_others a_m_bytes a_m_anew a_m_values cI cB cZ cP cC above below retired manyLine bytesLong tokenAt tokenLong token value bytes anew values) sz)) 0 0 (va_A (ww_X10_takesInfant a_m a_m_told a_m_kept a_m_isKept a_m_refused a_m_months a_m_heirs a_m_lasts a_m_cares a_m_bestCares a_m_ones a_m_others a_m_bytes a_m_anew a_m_values cI cB cZ cP cC above below retired manyLine bytesLong tokenAt tokenLong token value bytes anew values) sz) := by
  refine mx_of (Qc := qq_X10_takesInfant D a_m a_m_told a_m_kept a_m_isKept a_m_refused a_m_months a_m_heirs a_m_lasts a_m_cares a_m_bestCares a_m_ones a_m_others a_m_bytes a_m_anew a_m_values cI cB cZ cP cC above below retired manyLine bytesLong bytes Post) (by decide) (Nat.le_of_ble_eq_true rfl) ?_
  intro p e s m bl meth c A ls C0 hP hD hS hl
  replace C0 : mxC p s m [.ref a_m].toArray meth c cX10_takesInfant RX10 (some .boolean) 1 D (mxTy cI cB cZ cP cC) A := C0
  obtain ⟨hx, hb, hr, hlocks, hml, hown, hts, hK, hA⟩ := id C0
  replace hl : lv_has ls 1 [(0, .ref a_m)] := hl
  unfold wp_X10_takesInfant at hw
  refine lv_aload_n hx hb dX10_takesInfant_0 rfl (lv_at hl 0 rfl) ?_
  refine mx_get (ci := 10) (C := RX10) (T := TX10) (N := 23) hx hb hown in_wsX100 hts hK hP 0 rfl rfl 21 (by decide) q_104 rfl (v := .ref a_m_anew) rfl dX10_takesInfant_1 ?_
  refine lv_iconst (v := 0) hx hb dX10_takesInfant_4 (by decide) ?_
  refine mx_iald hx hb hK hP 2 0 rfl rfl (mx_lit rfl) (anew 0) rfl dX10_takesInfant_5 ?_
  refine lv_bipush (v := 6) hx hb dX10_takesInfant_6 (by decide) ?_
  refine lv_icmp_ne (tgt := 13) hx hb dX10_takesInfant_8 (by decide) (fun c_1 => ?_) (fun c_1 => ?_)
  · replace hw := hw.2 c_1
    refine lv_aload_n hx hb dX10_takesInfant_13 rfl (lv_at hl 0 rfl) ?_
    refine mx_kv (mx_rV (rm := rm_X10_goBehind) (rest := []) (C := RX10) hx hb hml hown hts (c_X10_goBehind l D cI cB cZ cP cC a_m a_m_told a_m_kept a_m_isKept a_m_refused a_m_months a_m_heirs a_m_lasts a_m_cares a_m_bestCares a_m_ones a_m_others a_m_bytes a_m_anew a_m_values above below retired manyLine bytesLong tokenAt tokenLong token value bytes _ _ hw) q_359 q_360 q_361 q_5 q_362 hd_X10_goBehind ⟨(Nat.le_of_ble_eq_true rfl), (Nat.le_of_ble_eq_true rfl)⟩ rfl rfl hK hP hD [0, 1] rfl rfl 10 0 rfl rfl rfl rfl hl.1 rfl (Nat.le_of_ble_eq_true rfl) dX10_takesInfant_14 ⟨(Nat.le_of_ble_eq_true rfl), (Nat.le_of_ble_eq_true rfl)⟩) hP hD hS hA [0, 1] [2, 3] [2, 3, 0, 1] (fun u => ww_X10_takesInfant a_m a_m_told a_m_kept a_m_isKept a_m_refused a_m_months a_m_heirs a_m_lasts a_m_cares a_m_bestCares a_m_ones a_m_others a_m_bytes a_m_anew a_m_values cI cB cZ cP cC above below retired manyLine bytesLong (u.1) (u.2.1) (u.2.2.1) (u.2.2.2) bytes anew values) rfl rfl rfl (by decide) rfl (fun _ => rfl) (fun u H locs hw hP hD hS => ?_)
    obtain ⟨tokenAt_2, tokenLong_3, token_4, value_5⟩ := u
    try dsimp only at hw
    replace hP : va_P D vwCl (ww_X10_takesInfant a_m a_m_told a_m_kept a_m_isKept a_m_refused a_m_months a_m_heirs a_m_lasts a_m_cares a_m_bestCares a_m_ones a_m_others a_m_bytes a_m_anew a_m_values cI cB cZ cP cC above below retired manyLine bytesLong tokenAt_2 tokenLong_3 token_4 value_5 bytes anew values) H := hP
    replace hD : va_D A (ww_X10_takesInfant a_m a_m_told a_m_kept a_m_isKept a_m_refused a_m_months a_m_heirs a_m_lasts a_m_cares a_m_bestCares a_m_ones a_m_others a_m_bytes a_m_anew a_m_values cI cB cZ cP cC above below retired manyLine bytesLong tokenAt_2 tokenLong_3 token_4 value_5 bytes anew values) := hD
    refine lv_aload_n hx hb dX10_takesInfant_17 rfl (lv_at hl 0 rfl) ?_
    refine lv_iconst (v := 0) hx hb dX10_takesInfant_18 (by decide) ?_
    refine lv_iconst (v := 0) hx hb dX10_takesInfant_19 (by decide) ?_
    refine lv_iconst (v := 5) hx hb dX10_takesInfant_20 (by decide) ?_
    refine mx_ki (mx_rV (rm := rm_X10_takes) (rest := []) (C := RX10) hx hb hml hown hts (c_X10_takes l D cI cB cZ cP cC a_m a_m_told a_m_kept a_m_isKept a_m_refused a_m_months a_m_heirs a_m_lasts a_m_cares a_m_bestCares a_m_ones a_m_others a_m_bytes a_m_anew a_m_values above below retired manyLine bytesLong tokenAt_2 tokenLong_3 token_4 value_5 bytes values 0 0 5 _ _ hw) q_371 q_372 q_373 q_5 q_374 hd_X10_takes ⟨(Nat.le_of_ble_eq_true rfl), (Nat.le_of_ble_eq_true rfl)⟩ rfl rfl hK hP hD [0, 1, 3] rfl rfl 10 0 rfl rfl rfl rfl hl.1 rfl (Nat.le_of_ble_eq_true rfl) dX10_takesInfant_21 ⟨(Nat.le_of_ble_eq_true rfl), (Nat.le_of_ble_eq_true rfl)⟩) hP hD hS hA [0, 1, 3] [2] [1, 2, 0, 3] (fun u => ww_X10_takesInfant a_m a_m_told a_m_kept a_m_isKept a_m_refused a_m_months a_m_heirs a_m_lasts a_m_cares a_m_bestCares a_m_ones a_m_others a_m_bytes a_m_anew a_m_values cI cB cZ cP cC above below retired manyLine bytesLong (u.1) (u.2.1) (u.2.2.1) (u.2.2.2.1) bytes anew (u.2.2.2.2)) rfl rfl rfl (by decide) rfl (fun _ => rfl) (fun r_6 u H locs hw hP hD hS => ?_)
    obtain ⟨tokenAt_7, tokenLong_8, token_9, value_10, values_11⟩ := u
    try dsimp only at hw
    replace hP : va_P D vwCl (ww_X10_takesInfant a_m a_m_told a_m_kept a_m_isKept a_m_refused a_m_months a_m_heirs a_m_lasts a_m_cares a_m_bestCares a_m_ones a_m_others a_m_bytes a_m_anew a_m_values cI cB cZ cP cC above below retired manyLine bytesLong tokenAt_7 tokenLong_8 token_9 value_10 bytes anew values_11) H := hP
    replace hD : va_D A (ww_X10_takesInfant a_m a_m_told a_m_kept a_m_isKept a_m_refused a_m_months a_m_heirs a_m_lasts a_m_cares a_m_bestCares a_m_ones a_m_others a_m_bytes a_m_anew a_m_values cI cB cZ cP cC above below retired manyLine bytesLong tokenAt_7 tokenLong_8 token_9 value_10 bytes anew values_11) := hD
    refine lv_if_eq (tgt := 48) hx hb dX10_takesInfant_24 (by decide) (fun c_12 => ?_) (fun c_12 => ?_)
    · replace hw := hw.1 c_12
      refine lv_iconst (v := 0) hx hb dX10_takesInfant_48 (by decide) ?_
      exact mx_iret (tokenAt_7, tokenLong_8, token_9, value_10, anew, values_11) hx hb hr hlocks rfl hw hK hP hD hS dX10_takesInfant_49
    · replace hw := hw.2 c_12
      refine lv_aload_n hx hb dX10_takesInfant_27 rfl (lv_at hl 0 rfl) ?_
      refine lv_iconst (v := 1) hx hb dX10_takesInfant_28 (by decide) ?_
      refine lv_iconst (v := 0) hx hb dX10_takesInfant_29 (by decide) ?_
      refine lv_bipush (v := 35) hx hb dX10_takesInfant_30 (by decide) ?_
      refine mx_ki (mx_rV (rm := rm_X10_takes) (rest := []) (C := RX10) hx hb hml hown hts (c_X10_takes l D cI cB cZ cP cC a_m a_m_told a_m_kept a_m_isKept a_m_refused a_m_months a_m_heirs a_m_lasts a_m_cares a_m_bestCares a_m_ones a_m_others a_m_bytes a_m_anew a_m_values above below retired manyLine bytesLong tokenAt_7 tokenLong_8 token_9 value_10 bytes values_11 1 0 35 _ _ hw) q_371 q_372 q_373 q_5 q_374 hd_X10_takes ⟨(Nat.le_of_ble_eq_true rfl), (Nat.le_of_ble_eq_true rfl)⟩ rfl rfl hK hP hD [0, 1, 3] rfl rfl 10 0 rfl rfl rfl rfl hl.1 rfl (Nat.le_of_ble_eq_true rfl) dX10_takesInfant_32 ⟨(Nat.le_of_ble_eq_true rfl), (Nat.le_of_ble_eq_true rfl)⟩) hP hD hS hA [0, 1, 3] [2] [1, 2, 0, 3] (fun u => ww_X10_takesInfant a_m a_m_told a_m_kept a_m_isKept a_m_refused a_m_months a_m_heirs a_m_lasts a_m_cares a_m_bestCares a_m_ones a_m_others a_m_bytes a_m_anew a_m_values cI cB cZ cP cC above below retired manyLine bytesLong (u.1) (u.2.1) (u.2.2.1) (u.2.2.2.1) bytes anew (u.2.2.2.2)) rfl rfl rfl (by decide) rfl (fun _ => rfl) (fun r_13 u H locs hw hP hD hS => ?_)
      obtain ⟨tokenAt_14, tokenLong_15, token_16, value_17, values_18⟩ := u
      try dsimp only at hw
      replace hP : va_P D vwCl (ww_X10_takesInfant a_m a_m_told a_m_kept a_m_isKept a_m_refused a_m_months a_m_heirs a_m_lasts a_m_cares a_m_bestCares a_m_ones a_m_others a_m_bytes a_m_anew a_m_values cI cB cZ cP cC above below retired manyLine bytesLong tokenAt_14 tokenLong_15 token_16 value_17 bytes anew values_18) H := hP
      replace hD : va_D A (ww_X10_takesInfant a_m a_m_told a_m_kept a_m_isKept a_m_refused a_m_months a_m_heirs a_m_lasts a_m_cares a_m_bestCares a_m_ones a_m_others a_m_bytes a_m_anew a_m_values cI cB cZ cP cC above below retired manyLine bytesLong tokenAt_14 tokenLong_15 token_16 value_17 bytes anew values_18) := hD
      refine lv_if_eq (tgt := 48) hx hb dX10_takesInfant_35 (by decide) (fun c_19 => ?_) (fun c_19 => ?_)
      · replace hw := hw.1 c_19
        refine lv_iconst (v := 0) hx hb dX10_takesInfant_48 (by decide) ?_
        exact mx_iret (tokenAt_14, tokenLong_15, token_16, value_17, anew, values_18) hx hb hr hlocks rfl hw hK hP hD hS dX10_takesInfant_49
      · replace hw := hw.2 c_19
        refine lv_aload_n hx hb dX10_takesInfant_38 rfl (lv_at hl 0 rfl) ?_
        refine lv_iconst (v := 2) hx hb dX10_takesInfant_39 (by decide) ?_
        refine lv_iconst (v := 0) hx hb dX10_takesInfant_40 (by decide) ?_
        refine lv_iconst (v := 5) hx hb dX10_takesInfant_41 (by decide) ?_
        refine mx_ki (mx_rV (rm := rm_X10_takes) (rest := []) (C := RX10) hx hb hml hown hts (c_X10_takes l D cI cB cZ cP cC a_m a_m_told a_m_kept a_m_isKept a_m_refused a_m_months a_m_heirs a_m_lasts a_m_cares a_m_bestCares a_m_ones a_m_others a_m_bytes a_m_anew a_m_values above below retired manyLine bytesLong tokenAt_14 tokenLong_15 token_16 value_17 bytes values_18 2 0 5 _ _ hw) q_371 q_372 q_373 q_5 q_374 hd_X10_takes ⟨(Nat.le_of_ble_eq_true rfl), (Nat.le_of_ble_eq_true rfl)⟩ rfl rfl hK hP hD [0, 1, 3] rfl rfl 10 0 rfl rfl rfl rfl hl.1 rfl (Nat.le_of_ble_eq_true rfl) dX10_takesInfant_42 ⟨(Nat.le_of_ble_eq_true rfl), (Nat.le_of_ble_eq_true rfl)⟩) hP hD hS hA [0, 1, 3] [2] [1, 2, 0, 3] (fun u => ww_X10_takesInfant a_m a_m_told a_m_kept a_m_isKept a_m_refused a_m_months a_m_heirs a_m_lasts a_m_cares a_m_bestCares a_m_ones a_m_others a_m_bytes a_m_anew a_m_values cI cB cZ cP cC above below retired manyLine bytesLong (u.1) (u.2.1) (u.2.2.1) (u.2.2.2.1) bytes anew (u.2.2.2.2)) rfl rfl rfl (by decide) rfl (fun _ => rfl) (fun r_20 u H locs hw hP hD hS => ?_)
        obtain ⟨tokenAt_21, tokenLong_22, token_23, value_24, values_25⟩ := u
        try dsimp only at hw
        replace hP : va_P D vwCl (ww_X10_takesInfant a_m a_m_told a_m_kept a_m_isKept a_m_refused a_m_months a_m_heirs a_m_lasts a_m_cares a_m_bestCares a_m_ones a_m_others a_m_bytes a_m_anew a_m_values cI cB cZ cP cC above below retired manyLine bytesLong tokenAt_21 tokenLong_22 token_23 value_24 bytes anew values_25) H := hP
        replace hD : va_D A (ww_X10_takesInfant a_m a_m_told a_m_kept a_m_isKept a_m_refused a_m_months a_m_heirs a_m_lasts a_m_cares a_m_bestCares a_m_ones a_m_others a_m_bytes a_m_anew a_m_values cI cB cZ cP cC above below retired manyLine bytesLong tokenAt_21 tokenLong_22 token_23 value_24 bytes anew values_25) := hD
        refine lv_if_ne (tgt := 50) hx hb dX10_takesInfant_45 (by decide) (fun c_26 => ?_) (fun c_26 => ?_)
        · replace hw := hw.2 c_26
          refine lv_aload_n hx hb dX10_takesInfant_50 rfl (lv_at hl 0 rfl) ?_
          refine mx_get (ci := 10) (C := RX10) (T := TX10) (N := 23) hx hb hown in_wsX100 hts hK hP 0 rfl rfl 21 (by decide) q_104 rfl (v := .ref a_m_anew) rfl dX10_takesInfant_51 ?_
          refine lv_aload_n hx hb dX10_takesInfant_54 rfl (lv_at hl 0 rfl) ?_
          refine mx_get (ci := 10) (C := RX10) (T := TX10) (N := 23) hx hb hown in_wsX100 hts hK hP 0 rfl rfl 22 (by decide) q_105 rfl (v := .ref a_m_values) rfl dX10_takesInfant_55 ?_
          refine lv_iconst (v := 0) hx hb dX10_takesInfant_58 (by decide) ?_
          refine mx_iald hx hb hK hP 3 0 rfl rfl (mx_lit rfl) (values_25 0) rfl dX10_takesInfant_59 ?_
          refine lv_aload_n hx hb dX10_takesInfant_60 rfl (lv_at hl 0 rfl) ?_
          refine mx_get (ci := 10) (C := RX10) (T := TX10) (N := 23) hx hb hown in_wsX100 hts hK hP 0 rfl rfl 22 (by decide) q_105 rfl (v := .ref a_m_values) rfl dX10_takesInfant_61 ?_
          refine lv_iconst (v := 1) hx hb dX10_takesInfant_64 (by decide) ?_
          refine mx_iald hx hb hK hP 3 0 rfl rfl (mx_lit rfl) (values_25 1) rfl dX10_takesInfant_65 ?_
          refine lv_aload_n hx hb dX10_takesInfant_66 rfl (lv_at hl 0 rfl) ?_
          refine mx_get (ci := 10) (C := RX10) (T := TX10) (N := 23) hx hb hown in_wsX100 hts hK hP 0 rfl rfl 22 (by decide) q_105 rfl (v := .ref a_m_values) rfl dX10_takesInfant_67 ?_
          refine lv_iconst (v := 2) hx hb dX10_takesInfant_70 (by decide) ?_
          refine mx_iald hx hb hK hP 3 0 rfl rfl (mx_lit rfl) (values_25 2) rfl dX10_takesInfant_71 ?_
          refine mx_kv (mx_rS (rm := rm_X10_layInfant) (rest := []) hx hb hml hown hts (c_X10_layInfant l D cI cB cZ cP cC a_m_anew 78 anew (values_25 0) (values_25 1) (values_25 2) _ _ hw) q_174 q_175 q_5 q_176 hd_X10_layInfant ⟨(Nat.le_of_ble_eq_true rfl), (Nat.le_of_ble_eq_true rfl)⟩ rfl rfl hK hP hD [2] rfl rfl rfl hl.1 rfl (Nat.le_of_ble_eq_true rfl) dX10_takesInfant_72 ⟨(Nat.le_of_ble_eq_true rfl), (Nat.le_of_ble_eq_true rfl)⟩) hP hD hS hA [2] [0, 1, 3] [0, 1, 3, 2] (fun u => ww_X10_takesInfant a_m a_m_told a_m_kept a_m_isKept a_m_refused a_m_months a_m_heirs a_m_lasts a_m_cares a_m_bestCares a_m_ones a_m_others a_m_bytes a_m_anew a_m_values cI cB cZ cP cC above below retired manyLine bytesLong tokenAt_21 tokenLong_22 token_23 value_24 bytes u values_25) rfl rfl rfl (by decide) rfl (fun _ => rfl) (fun anew_27 H locs hw hP hD hS => ?_)
          try dsimp only at hw
          replace hP : va_P D vwCl (ww_X10_takesInfant a_m a_m_told a_m_kept a_m_isKept a_m_refused a_m_months a_m_heirs a_m_lasts a_m_cares a_m_bestCares a_m_ones a_m_others a_m_bytes a_m_anew a_m_values cI cB cZ cP cC above below retired manyLine bytesLong tokenAt_21 tokenLong_22 token_23 value_24 bytes anew_27 values_25) H := hP
          replace hD : va_D A (ww_X10_takesInfant a_m a_m_told a_m_kept a_m_isKept a_m_refused a_m_months a_m_heirs a_m_lasts a_m_cares a_m_bestCares a_m_ones a_m_others a_m_bytes a_m_anew a_m_values cI cB cZ cP cC above below retired manyLine bytesLong tokenAt_21 tokenLong_22 token_23 value_24 bytes anew_27 values_25) := hD
          refine lv_iconst (v := 1) hx hb dX10_takesInfant_75 (by decide) ?_
          exact mx_iret (tokenAt_21, tokenLong_22, token_23, value_24, anew_27, values_25) hx hb hr hlocks rfl hw hK hP hD hS dX10_takesInfant_76
        · replace hw := hw.1 c_26
          refine lv_iconst (v := 0) hx hb dX10_takesInfant_48 (by decide) ?_
          exact mx_iret (tokenAt_21, tokenLong_22, token_23, value_24, anew, values_25) hx hb hr hlocks rfl hw hK hP hD hS dX10_takesInfant_49
  · replace hw := hw.1 c_1
    refine lv_iconst (v := 0) hx hb dX10_takesInfant_11 (by decide) ?_
    exact mx_iret (tokenAt, tokenLong, token, value, anew, values) hx hb hr hlocks rfl hw hK hP hD hS dX10_takesInfant_12
/-! PramStateModel.takesSkill()Z -/
abbrev ww_X10_takesSkill (a_m a_m_told a_m_kept a_m_isKept a_m_refused a_m_months a_m_heirs a_m_lasts a_m_cares a_m_bestCares a_m_ones a_m_others a_m_bytes a_m_anew a_m_values : Nat) (cI cB cZ cP cC : ClassId) (above : Int64) (below : Int64) (retired : Int32) (manyLine : Int32) (bytesLong : Int32) (tokenAt : Int32) (tokenLong : Int32) (token : Int32) (value : Int32) (bytes : Nat → Int32) (anew : Nat → Int32) (values : Nat → Int32) : va_W := [(a_m, .inr (10, [.ref a_m_told, .ref a_m_kept, .ref a_m_isKept, .ref a_m_refused, .long above, .long below, .ref a_m_months, .int retired, .ref a_m_heirs, .ref a_m_lasts, .int manyLine, .ref a_m_cares, .ref a_m_bestCares, .ref a_m_ones, .ref a_m_others, .ref a_m_bytes, .int bytesLong, .int tokenAt, .int tokenLong, .int token, .int value, .ref a_m_anew, .ref a_m_values])), (a_m_bytes, .inl (cI, 150, .inl bytes)), (a_m_anew, .inl (cI, 78, .inl anew)), (a_m_values, .inl (cI, 3, .inl values))]
abbrev qq_X10_takesSkill (D : va_G) (a_m a_m_told a_m_kept a_m_isKept a_m_refused a_m_months a_m_heirs a_m_lasts a_m_cares a_m_bestCares a_m_ones a_m_others a_m_bytes a_m_anew a_m_values : Nat) (cI cB cZ cP cC : ClassId) (above : Int64) (below : Int64) (retired : Int32) (manyLine : Int32) (bytesLong : Int32) (bytes : Nat → Int32) (Post : Int32 → Int32 → Int32 → Int32 → Int32 → (Nat → Int32) → (Nat → Int32) → Prop) (A : Nat → Prop) : Array Value → State → Outcome → State → Prop := va_Qi (fun (r : Int32) (u : Int32 × Int32 × Int32 × Int32 × (Nat → Int32) × (Nat → Int32)) => Post r u.1 u.2.1 u.2.2.1 u.2.2.2.1 u.2.2.2.2.1 u.2.2.2.2.2) (fun (u : Int32 × Int32 × Int32 × Int32 × (Nat → Int32) × (Nat → Int32)) t => mxB D (mxTy cI cB cZ cP cC) A (ww_X10_takesSkill a_m a_m_told a_m_kept a_m_isKept a_m_refused a_m_months a_m_heirs a_m_lasts a_m_cares a_m_bestCares a_m_ones a_m_others a_m_bytes a_m_anew a_m_values cI cB cZ cP cC above below retired manyLine bytesLong (u.1) (u.2.1) (u.2.2.1) (u.2.2.2.1) bytes (u.2.2.2.2.1) (u.2.2.2.2.2)) t) A
abbrev rm_X10_takesSkill : Room := { frames := 5, cells := 0, slots := 0, locals := 112 }
theorem hd_X10_takesSkill : yX10_takesSkill.cls = RX10 ∧ yX10_takesSkill.cls ≠ "java/lang/invoke/MethodHandle" ∧ yX10_takesSkill.cls ≠ "java/lang/invoke/VarHandle" ∧ (parseMethodDescriptor yX10_takesSkill.desc).map (fun d => d.parameters.length) = some 0 := by decide +kernel
def wp_X10_takesSkill (bytesLong : Int32) (bytes : Nat → Int32) (tokenAt : Int32) (tokenLong : Int32) (token : Int32) (value : Int32) (anew : Nat → Int32) (values : Nat → Int32) (Post : Int32 → Int32 → Int32 → Int32 → Int32 → (Nat → Int32) → (Nat → Int32) → Prop) : Prop :=
  (wp_X10_goBehind bytesLong bytes tokenAt tokenLong token value (fun tokenAt_1 tokenLong_2 token_3 value_4 => (wp_X10_takes bytesLong bytes tokenAt_1 tokenLong_2 token_3 value_4 values 0 0 5 (fun r_5 tokenAt_6 tokenLong_7 token_8 value_9 values_10 => ((r_5 = 0 → Post 0 tokenAt_6 tokenLong_7 token_8 value_9 anew values_10) ∧ (¬ r_5 = 0 → (wp_X10_takes bytesLong bytes tokenAt_6 tokenLong_7 token_8 value_9 values_10 1 0 9 (fun r_12 tokenAt_13 tokenLong_14 token_15 value_16 values_17 => ((r_12 = 0 → Post 0 tokenAt_13 tokenLong_14 token_15 value_16 anew values_17) ∧ (¬ r_12 = 0 → (∀ x_19 : Int32, x_19 = values_17 1 → (vp_in (18 + (values_17 0)) 78 ∧ (∀ f_21 : Nat → Int32, f_21 = upd anew (18 + (values_17 0)).toNatClampNeg x_19 → Post 1 tokenAt_13 tokenLong_14 token_15 value_16 f_21 values_17)))))))))))))
set_option maxHeartbeats 4000000 in
set_option maxRecDepth 100000 in
theorem c_X10_takesSkill (l : Launch) (D : va_G) (cI cB cZ cP cC : ClassId) (a_m a_m_told a_m_kept a_m_isKept a_m_refused a_m_months a_m_heirs a_m_lasts a_m_cares a_m_bestCares a_m_ones a_m_others a_m_bytes a_m_anew a_m_values : Nat) (above : Int64) (below : Int64) (retired : Int32) (manyLine : Int32) (bytesLong : Int32) (tokenAt : Int32) (tokenLong : Int32) (token : Int32) (value : Int32) (bytes : Nat → Int32) (anew : Nat → Int32) (values : Nat → Int32)  (sz : Nat) (Post : Int32 → Int32 → Int32 → Int32 → Int32 → (Nat → Int32) → (Nat → Int32) → Prop) (hw : wp_X10_takesSkill bytesLong bytes tokenAt tokenLong token value anew values Post) :
    Met l yX10_takesSkill (Cond.code yX10_takesSkill cX10_takesSkill 1 (some .boolean) :: wsAll) rm_X10_takesSkill (va_Pc [.ref a_m] (mxP D (mxTy cI cB cZ cP cC) sz (ww_X10_takesSkill a_m a_m_told a_m_kept a_m_isKept a_m_refused a_m_months a_m_heirs a_m_lasts a_m_cares a_m_bestCares a_m_ones a_m_others a_m_bytes a_m_anew a_m_values cI cB cZ cP cC above below retired manyLine bytesLong tokenAt tokenLong token value bytes anew values))) (qq_X10_takesSkill D a_m a_m_told a_m_kept a_m_isKept a_m_refused a_m_months a_m_heirs a_m_lasts a_m_cares a_m_bestCares a_m_ones a_m_others a_m_bytes a_m_anew a_m_values cI cB cZ cP cC above below retired manyLine bytesLong bytes Post (va_A (ww_X10_takesSkill a_m a_m_told a_m_kept a_m_isKept a_m_refused a_m_months a_m_heirs a_m_lasts a_m_cares a_m_bestCares a_m_ones a_m_others a_m_bytes a_m_anew a_m_values cI cB cZ cP cC above below retired manyLine bytesLong tokenAt tokenLong token value bytes anew values) sz)) 0 0 (va_A (ww_X10_takesSkill a_m a_m_told a_m_kept a_m_isKept a_m_refused a_m_months a_m_heirs a_m_lasts a_m_cares a_m_bestCares a_m_ones a_m_others a_m_bytes a_m_anew a_m_values cI cB cZ cP cC above below retired manyLine bytesLong tokenAt tokenLong token value bytes anew values) sz) := by
  refine mx_of (Qc := qq_X10_takesSkill D a_m a_m_told a_m_kept a_m_isKept a_m_refused a_m_months a_m_heirs a_m_lasts a_m_cares a_m_bestCares a_m_ones a_m_others a_m_bytes a_m_anew a_m_values cI cB cZ cP cC above below retired manyLine bytesLong bytes Post) (by decide) (Nat.le_of_ble_eq_true rfl) ?_
  intro p e s m bl meth c A ls C0 hP hD hS hl
  replace C0 : mxC p s m [.ref a_m].toArray meth c cX10_takesSkill RX10 (some .boolean) 1 D (mxTy cI cB cZ cP cC) A := C0
  obtain ⟨hx, hb, hr, hlocks, hml, hown, hts, hK, hA⟩ := id C0
  replace hl : lv_has ls 1 [(0, .ref a_m)] := hl
  unfold wp_X10_takesSkill at hw
  refine lv_aload_n hx hb dX10_takesSkill_0 rfl (lv_at hl 0 rfl) ?_
  refine mx_kv (mx_rV (rm := rm_X10_goBehind) (rest := []) (C := RX10) hx hb hml hown hts (c_X10_goBehind l D cI cB cZ cP cC a_m a_m_told a_m_kept a_m_isKept a_m_refused a_m_months a_m_heirs a_m_lasts a_m_cares a_m_bestCares a_m_ones a_m_others a_m_bytes a_m_anew a_m_values above below retired manyLine bytesLong tokenAt tokenLong token value bytes _ _ hw) q_359 q_360 q_361 q_5 q_362 hd_X10_goBehind ⟨(Nat.le_of_ble_eq_true rfl), (Nat.le_of_ble_eq_true rfl)⟩ rfl rfl hK hP hD [0, 1] rfl rfl 10 0 rfl rfl rfl rfl hl.1 rfl (Nat.le_of_ble_eq_true rfl) dX10_takesSkill_1 ⟨(Nat.le_of_ble_eq_true rfl), (Nat.le_of_ble_eq_true rfl)⟩) hP hD hS hA [0, 1] [2, 3] [2, 3, 0, 1] (fun u => ww_X10_takesSkill a_m a_m_told a_m_kept a_m_isKept a_m_refused a_m_months a_m_heirs a_m_lasts a_m_cares a_m_bestCares a_m_ones a_m_others a_m_bytes a_m_anew a_m_values cI cB cZ cP cC above below retired manyLine bytesLong (u.1) (u.2.1) (u.2.2.1) (u.2.2.2) bytes anew values) rfl rfl rfl (by decide) rfl (fun _ => rfl) (fun u H locs hw hP hD hS => ?_)
  obtain ⟨tokenAt_1, tokenLong_2, token_3, value_4⟩ := u
  try dsimp only at hw
  replace hP : va_P D vwCl (ww_X10_takesSkill a_m a_m_told a_m_kept a_m_isKept a_m_refused a_m_months a_m_heirs a_m_lasts a_m_cares a_m_bestCares a_m_ones a_m_others a_m_bytes a_m_anew a_m_values cI cB cZ cP cC above below retired manyLine bytesLong tokenAt_1 tokenLong_2 token_3 value_4 bytes anew values) H := hP
  replace hD : va_D A (ww_X10_takesSkill a_m a_m_told a_m_kept a_m_isKept a_m_refused a_m_months a_m_heirs a_m_lasts a_m_cares a_m_bestCares a_m_ones a_m_others a_m_bytes a_m_anew a_m_values cI cB cZ cP cC above below retired manyLine bytesLong tokenAt_1 tokenLong_2 token_3 value_4 bytes anew values) := hD
  refine lv_aload_n hx hb dX10_takesSkill_4 rfl (lv_at hl 0 rfl) ?_
  refine lv_iconst (v := 0) hx hb dX10_takesSkill_5 (by decide) ?_
  refine lv_iconst (v := 0) hx hb dX10_takesSkill_6 (by decide) ?_
  refine lv_iconst (v := 5) hx hb dX10_takesSkill_7 (by decide) ?_
  refine mx_ki (mx_rV (rm := rm_X10_takes) (rest := []) (C := RX10) hx hb hml hown hts (c_X10_takes l D cI cB cZ cP cC a_m a_m_told a_m_kept a_m_isKept a_m_refused a_m_months a_m_heirs a_m_lasts a_m_cares a_m_bestCares a_m_ones a_m_others a_m_bytes a_m_anew a_m_values above below retired manyLine bytesLong tokenAt_1 tokenLong_2 token_3 value_4 bytes values 0 0 5 _ _ hw) q_371 q_372 q_373 q_5 q_374 hd_X10_takes ⟨(Nat.le_of_ble_eq_true rfl), (Nat.le_of_ble_eq_true rfl)⟩ rfl rfl hK hP hD [0, 1, 3] rfl rfl 10 0 rfl rfl rfl rfl hl.1 rfl (Nat.le_of_ble_eq_true rfl) dX10_takesSkill_8 ⟨(Nat.le_of_ble_eq_true rfl), (Nat.le_of_ble_eq_true rfl)⟩) hP hD hS hA [0, 1, 3] [2] [1, 2, 0, 3] (fun u => ww_X10_takesSkill a_m a_m_told a_m_kept a_m_isKept a_m_refused a_m_months a_m_heirs a_m_lasts a_m_cares a_m_bestCares a_m_ones a_m_others a_m_bytes a_m_anew a_m_values cI cB cZ cP cC above below retired manyLine bytesLong (u.1) (u.2.1) (u.2.2.1) (u.2.2.2.1) bytes anew (u.2.2.2.2)) rfl rfl rfl (by decide) rfl (fun _ => rfl) (fun r_5 u H locs hw hP hD hS => ?_)
  obtain ⟨tokenAt_6, tokenLong_7, token_8, value_9, values_10⟩ := u
  try dsimp only at hw
  replace hP : va_P D vwCl (ww_X10_takesSkill a_m a_m_told a_m_kept a_m_isKept a_m_refused a_m_months a_m_heirs a_m_lasts a_m_cares a_m_bestCares a_m_ones a_m_others a_m_bytes a_m_anew a_m_values cI cB cZ cP cC above below retired manyLine bytesLong tokenAt_6 tokenLong_7 token_8 value_9 bytes anew values_10) H := hP
  replace hD : va_D A (ww_X10_takesSkill a_m a_m_told a_m_kept a_m_isKept a_m_refused a_m_months a_m_heirs a_m_lasts a_m_cares a_m_bestCares a_m_ones a_m_others a_m_bytes a_m_anew a_m_values cI cB cZ cP cC above below retired manyLine bytesLong tokenAt_6 tokenLong_7 token_8 value_9 bytes anew values_10) := hD
  refine lv_if_eq (tgt := 25) hx hb dX10_takesSkill_11 (by decide) (fun c_11 => ?_) (fun c_11 => ?_)
  · replace hw := hw.1 c_11
    refine lv_iconst (v := 0) hx hb dX10_takesSkill_25 (by decide) ?_
    exact mx_iret (tokenAt_6, tokenLong_7, token_8, value_9, anew, values_10) hx hb hr hlocks rfl hw hK hP hD hS dX10_takesSkill_26
  · replace hw := hw.2 c_11
    refine lv_aload_n hx hb dX10_takesSkill_14 rfl (lv_at hl 0 rfl) ?_
    refine lv_iconst (v := 1) hx hb dX10_takesSkill_15 (by decide) ?_
    refine lv_iconst (v := 0) hx hb dX10_takesSkill_16 (by decide) ?_
    refine lv_bipush (v := 9) hx hb dX10_takesSkill_17 (by decide) ?_
    refine mx_ki (mx_rV (rm := rm_X10_takes) (rest := []) (C := RX10) hx hb hml hown hts (c_X10_takes l D cI cB cZ cP cC a_m a_m_told a_m_kept a_m_isKept a_m_refused a_m_months a_m_heirs a_m_lasts a_m_cares a_m_bestCares a_m_ones a_m_others a_m_bytes a_m_anew a_m_values above below retired manyLine bytesLong tokenAt_6 tokenLong_7 token_8 value_9 bytes values_10 1 0 9 _ _ hw) q_371 q_372 q_373 q_5 q_374 hd_X10_takes ⟨(Nat.le_of_ble_eq_true rfl), (Nat.le_of_ble_eq_true rfl)⟩ rfl rfl hK hP hD [0, 1, 3] rfl rfl 10 0 rfl rfl rfl rfl hl.1 rfl (Nat.le_of_ble_eq_true rfl) dX10_takesSkill_19 ⟨(Nat.le_of_ble_eq_true rfl), (Nat.le_of_ble_eq_true rfl)⟩) hP hD hS hA [0, 1, 3] [2] [1, 2, 0, 3] (fun u => ww_X10_takesSkill a_m a_m_told a_m_kept a_m_isKept a_m_refused a_m_months a_m_heirs a_m_lasts a_m_cares a_m_bestCares a_m_ones a_m_others a_m_bytes a_m_anew a_m_values cI cB cZ cP cC above below retired manyLine bytesLong (u.1) (u.2.1) (u.2.2.1) (u.2.2.2.1) bytes anew (u.2.2.2.2)) rfl rfl rfl (by decide) rfl (fun _ => rfl) (fun r_12 u H locs hw hP hD hS => ?_)
    obtain ⟨tokenAt_13, tokenLong_14, token_15, value_16, values_17⟩ := u
    try dsimp only at hw
    replace hP : va_P D vwCl (ww_X10_takesSkill a_m a_m_told a_m_kept a_m_isKept a_m_refused a_m_months a_m_heirs a_m_lasts a_m_cares a_m_bestCares a_m_ones a_m_others a_m_bytes a_m_anew a_m_values cI cB cZ cP cC above below retired manyLine bytesLong tokenAt_13 tokenLong_14 token_15 value_16 bytes anew values_17) H := hP
    replace hD : va_D A (ww_X10_takesSkill a_m a_m_told a_m_kept a_m_isKept a_m_refused a_m_months a_m_heirs a_m_lasts a_m_cares a_m_bestCares a_m_ones a_m_others a_m_bytes a_m_anew a_m_values cI cB cZ cP cC above below retired manyLine bytesLong tokenAt_13 tokenLong_14 token_15 value_16 bytes anew values_17) := hD
    refine lv_if_ne (tgt := 27) hx hb dX10_takesSkill_22 (by decide) (fun c_18 => ?_) (fun c_18 => ?_)
    · replace hw := hw.2 c_18
      refine lv_aload_n hx hb dX10_takesSkill_27 rfl (lv_at hl 0 rfl) ?_
      refine mx_get (ci := 10) (C := RX10) (T := TX10) (N := 23) hx hb hown in_wsX100 hts hK hP 0 rfl rfl 21 (by decide) q_104 rfl (v := .ref a_m_anew) rfl dX10_takesSkill_28 ?_
      refine lv_bipush (v := 18) hx hb dX10_takesSkill_31 (by decide) ?_
      refine lv_aload_n hx hb dX10_takesSkill_33 rfl (lv_at hl 0 rfl) ?_
      refine mx_get (ci := 10) (C := RX10) (T := TX10) (N := 23) hx hb hown in_wsX100 hts hK hP 0 rfl rfl 22 (by decide) q_105 rfl (v := .ref a_m_values) rfl dX10_takesSkill_34 ?_
      refine lv_iconst (v := 0) hx hb dX10_takesSkill_37 (by decide) ?_
      refine mx_iald hx hb hK hP 3 0 rfl rfl (mx_lit rfl) (values_17 0) rfl dX10_takesSkill_38 ?_
      refine lv_iadd hx hb dX10_takesSkill_39 ?_
      refine lv_aload_n hx hb dX10_takesSkill_40 rfl (lv_at hl 0 rfl) ?_
      refine mx_get (ci := 10) (C := RX10) (T := TX10) (N := 23) hx hb hown in_wsX100 hts hK hP 0 rfl rfl 22 (by decide) q_105 rfl (v := .ref a_m_values) rfl dX10_takesSkill_41 ?_
      refine lv_iconst (v := 1) hx hb dX10_takesSkill_44 (by decide) ?_
      refine mx_iald hx hb hK hP 3 0 rfl rfl (mx_lit rfl) (values_17 1) rfl dX10_takesSkill_45 ?_
      refine lv_topi (fun x_19 ex_19 => ?_)
      replace hw := hw x_19 ex_19
      obtain ⟨h_20, hw⟩ := hw
      obtain ⟨f_21, ef_21⟩ : ∃ y : Nat → Int32, y = upd anew (18 + (values_17 0)).toNatClampNeg x_19 := ⟨_, rfl⟩
      replace hw := hw f_21 ef_21
      refine mx_iast hx hb hK hP hD hS 2 0 rfl rfl h_20 f_21 ef_21 (ww_X10_takesSkill a_m a_m_told a_m_kept a_m_isKept a_m_refused a_m_months a_m_heirs a_m_lasts a_m_cares a_m_bestCares a_m_ones a_m_others a_m_bytes a_m_anew a_m_values cI cB cZ cP cC above below retired manyLine bytesLong tokenAt_13 tokenLong_14 token_15 value_16 bytes f_21 values_17) rfl dX10_takesSkill_46 (fun H locs hP hD hS => ?_)
      refine lv_iconst (v := 1) hx hb dX10_takesSkill_47 (by decide) ?_
      exact mx_iret (tokenAt_13, tokenLong_14, token_15, value_16, f_21, values_17) hx hb hr hlocks rfl hw hK hP hD hS dX10_takesSkill_48
    · replace hw := hw.1 c_18
      refine lv_iconst (v := 0) hx hb dX10_takesSkill_25 (by decide) ?_
      exact mx_iret (tokenAt_13, tokenLong_14, token_15, value_16, anew, values_17) hx hb hr hlocks rfl hw hK hP hD hS dX10_takesSkill_26
/-! PramStateModel.takesNurse()Z -/
abbrev ww_X10_takesNurse (a_m a_m_told a_m_kept a_m_isKept a_m_refused a_m_months a_m_heirs a_m_lasts a_m_cares a_m_bestCares a_m_ones a_m_others a_m_bytes a_m_anew a_m_values : Nat) (cI cB cZ cP cC : ClassId) (above : Int64) (below : Int64) (retired : Int32) (manyLine : Int32) (bytesLong : Int32) (tokenAt : Int32) (tokenLong : Int32) (token : Int32) (value : Int32) (bytes : Nat → Int32) (anew : Nat → Int32) (values : Nat → Int32) : va_W := [(a_m, .inr (10, [.ref a_m_told, .ref a_m_kept, .ref a_m_isKept, .ref a_m_refused, .long above, .long below, .ref a_m_months, .int retired, .ref a_m_heirs, .ref a_m_lasts, .int manyLine, .ref a_m_cares, .ref a_m_bestCares, .ref a_m_ones, .ref a_m_others, .ref a_m_bytes, .int bytesLong, .int tokenAt, .int tokenLong, .int token, .int value, .ref a_m_anew, .ref a_m_values])), (a_m_bytes, .inl (cI, 150, .inl bytes)), (a_m_anew, .inl (cI, 78, .inl anew)), (a_m_values, .inl (cI, 3, .inl values))]
abbrev qq_X10_takesNurse (D : va_G) (a_m a_m_told a_m_kept a_m_isKept a_m_refused a_m_months a_m_heirs a_m_lasts a_m_cares a_m_bestCares a_m_ones a_m_others a_m_bytes a_m_anew a_m_values : Nat) (cI cB cZ cP cC : ClassId) (above : Int64) (below : Int64) (retired : Int32) (manyLine : Int32) (bytesLong : Int32) (bytes : Nat → Int32) (Post : Int32 → Int32 → Int32 → Int32 → Int32 → (Nat → Int32) → (Nat → Int32) → Prop) (A : Nat → Prop) : Array Value → State → Outcome → State → Prop := va_Qi (fun (r : Int32) (u : Int32 × Int32 × Int32 × Int32 × (Nat → Int32) × (Nat → Int32)) => Post r u.1 u.2.1 u.2.2.1 u.2.2.2.1 u.2.2.2.2.1 u.2.2.2.2.2) (fun (u : Int32 × Int32 × Int32 × Int32 × (Nat → Int32) × (Nat → Int32)) t => mxB D (mxTy cI cB cZ cP cC) A (ww_X10_takesNurse a_m a_m_told a_m_kept a_m_isKept a_m_refused a_m_months a_m_heirs a_m_lasts a_m_cares a_m_bestCares a_m_ones a_m_others a_m_bytes a_m_anew a_m_values cI cB cZ cP cC above below retired manyLine bytesLong (u.1) (u.2.1) (u.2.2.1) (u.2.2.2.1) bytes (u.2.2.2.2.1) (u.2.2.2.2.2)) t) A
abbrev rm_X10_takesNurse : Room := { frames := 5, cells := 0, slots := 0, locals := 112 }
theorem hd_X10_takesNurse : yX10_takesNurse.cls = RX10 ∧ yX10_takesNurse.cls ≠ "java/lang/invoke/MethodHandle" ∧ yX10_takesNurse.cls ≠ "java/lang/invoke/VarHandle" ∧ (parseMethodDescriptor yX10_takesNurse.desc).map (fun d => d.parameters.length) = some 0 := by decide +kernel
def wp_X10_takesNurse (bytesLong : Int32) (bytes : Nat → Int32) (tokenAt : Int32) (tokenLong : Int32) (token : Int32) (value : Int32) (anew : Nat → Int32) (values : Nat → Int32) (Post : Int32 → Int32 → Int32 → Int32 → Int32 → (Nat → Int32) → (Nat → Int32) → Prop) : Prop :=
  (wp_X10_goBehind bytesLong bytes tokenAt tokenLong token value (fun tokenAt_1 tokenLong_2 token_3 value_4 => (wp_X10_takes bytesLong bytes tokenAt_1 tokenLong_2 token_3 value_4 values 0 0 ((anew 0) - 1) (fun r_5 tokenAt_6 tokenLong_7 token_8 value_9 values_10 => ((r_5 = 0 → Post 0 tokenAt_6 tokenLong_7 token_8 value_9 anew values_10) ∧ (¬ r_5 = 0 → (wp_X10_takes bytesLong bytes tokenAt_6 tokenLong_7 token_8 value_9 values_10 1 0 5 (fun r_12 tokenAt_13 tokenLong_14 token_15 value_16 values_17 => ((r_12 = 0 → Post 0 tokenAt_13 tokenLong_14 token_15 value_16 anew values_17) ∧ (¬ r_12 = 0 → (∀ x_19 : Int32, x_19 = values_17 1 → (vp_in (11 + (values_17 0)) 78 ∧ (∀ f_21 : Nat → Int32, f_21 = upd anew (11 + (values_17 0)).toNatClampNeg x_19 → Post 1 tokenAt_13 tokenLong_14 token_15 value_16 f_21 values_17)))))))))))))
set_option maxHeartbeats 4000000 in
set_option maxRecDepth 100000 in
theorem c_X10_takesNurse (l : Launch) (D : va_G) (cI cB cZ cP cC : ClassId) (a_m a_m_told a_m_kept a_m_isKept a_m_refused a_m_months a_m_heirs a_m_lasts a_m_cares a_m_bestCares a_m_ones a_m_others a_m_bytes a_m_anew a_m_values : Nat) (above : Int64) (below : Int64) (retired : Int32) (manyLine : Int32) (bytesLong : Int32) (tokenAt : Int32) (tokenLong : Int32) (token : Int32) (value : Int32) (bytes : Nat → Int32) (anew : Nat → Int32) (values : Nat → Int32)  (sz : Nat) (Post : Int32 → Int32 → Int32 → Int32 → Int32 → (Nat → Int32) → (Nat → Int32) → Prop) (hw : wp_X10_takesNurse bytesLong bytes tokenAt tokenLong token value anew values Post) :
    Met l yX10_takesNurse (Cond.code yX10_takesNurse cX10_takesNurse 1 (some .boolean) :: wsAll) rm_X10_takesNurse (va_Pc [.ref a_m] (mxP D (mxTy cI cB cZ cP cC) sz (ww_X10_takesNurse a_m a_m_told a_m_kept a_m_isKept a_m_refused a_m_months a_m_heirs a_m_lasts a_m_cares a_m_bestCares a_m_ones a_m_others a_m_bytes a_m_anew a_m_values cI cB cZ cP cC above below retired manyLine bytesLong tokenAt tokenLong token value bytes anew values))) (qq_X10_takesNurse D a_m a_m_told a_m_kept a_m_isKept a_m_refused a_m_months a_m_heirs a_m_lasts a_m_cares a_m_bestCares a_m_ones a_m_others a_m_bytes a_m_anew a_m_values cI cB cZ cP cC above below retired manyLine bytesLong bytes Post (va_A (ww_X10_takesNurse a_m a_m_told a_m_kept a_m_isKept a_m_refused a_m_months a_m_heirs a_m_lasts a_m_cares a_m_bestCares a_m_ones a_m_others a_m_bytes a_m_anew a_m_values cI cB cZ cP cC above below retired manyLine bytesLong tokenAt tokenLong token value bytes anew values) sz)) 0 0 (va_A (ww_X10_takesNurse a_m a_m_told a_m_kept a_m_isKept a_m_refused a_m_months a_m_heirs a_m_lasts a_m_cares a_m_bestCares a_m_ones a_m_others a_m_bytes a_m_anew a_m_values cI cB cZ cP cC above below retired manyLine bytesLong tokenAt tokenLong token value bytes anew values) sz) := by
  refine mx_of (Qc := qq_X10_takesNurse D a_m a_m_told a_m_kept a_m_isKept a_m_refused a_m_months a_m_heirs a_m_lasts a_m_cares a_m_bestCares a_m_ones a_m_others a_m_bytes a_m_anew a_m_values cI cB cZ cP cC above below retired manyLine bytesLong bytes Post) (by decide) (Nat.le_of_ble_eq_true rfl) ?_
  intro p e s m bl meth c A ls C0 hP hD hS hl
  replace C0 : mxC p s m [.ref a_m].toArray meth c cX10_takesNurse RX10 (some .boolean) 1 D (mxTy cI cB cZ cP cC) A := C0
  obtain ⟨hx, hb, hr, hlocks, hml, hown, hts, hK, hA⟩ := id C0
  replace hl : lv_has ls 1 [(0, .ref a_m)] := hl
  unfold wp_X10_takesNurse at hw
  refine lv_aload_n hx hb dX10_takesNurse_0 rfl (lv_at hl 0 rfl) ?_
  refine mx_kv (mx_rV (rm := rm_X10_goBehind) (rest := []) (C := RX10) hx hb hml hown hts (c_X10_goBehind l D cI cB cZ cP cC a_m a_m_told a_m_kept a_m_isKept a_m_refused a_m_months a_m_heirs a_m_lasts a_m_cares a_m_bestCares a_m_ones a_m_others a_m_bytes a_m_anew a_m_values above below retired manyLine bytesLong tokenAt tokenLong token value bytes _ _ hw) q_359 q_360 q_361 q_5 q_362 hd_X10_goBehind ⟨(Nat.le_of_ble_eq_true rfl), (Nat.le_of_ble_eq_true rfl)⟩ rfl rfl hK hP hD [0, 1] rfl rfl 10 0 rfl rfl rfl rfl hl.1 rfl (Nat.le_of_ble_eq_true rfl) dX10_takesNurse_1 ⟨(Nat.le_of_ble_eq_true rfl), (Nat.le_of_ble_eq_true rfl)⟩) hP hD hS hA [0, 1] [2, 3] [2, 3, 0, 1] (fun u => ww_X10_takesNurse a_m a_m_told a_m_kept a_m_isKept a_m_refused a_m_months a_m_heirs a_m_lasts a_m_cares a_m_bestCares a_m_ones a_m_others a_m_bytes a_m_anew a_m_values cI cB cZ cP cC above below retired manyLine bytesLong (u.1) (u.2.1) (u.2.2.1) (u.2.2.2) bytes anew values) rfl rfl rfl (by decide) rfl (fun _ => rfl) (fun u H locs hw hP hD hS => ?_)
  obtain ⟨tokenAt_1, tokenLong_2, token_3, value_4⟩ := u
  try dsimp only at hw
  replace hP : va_P D vwCl (ww_X10_takesNurse a_m a_m_told a_m_kept a_m_isKept a_m_refused a_m_months a_m_heirs a_m_lasts a_m_cares a_m_bestCares a_m_ones a_m_others a_m_bytes a_m_anew a_m_values cI cB cZ cP cC above below retired manyLine bytesLong tokenAt_1 tokenLong_2 token_3 value_4 bytes anew values) H := hP
  replace hD : va_D A (ww_X10_takesNurse a_m a_m_told a_m_kept a_m_isKept a_m_refused a_m_months a_m_heirs a_m_lasts a_m_cares a_m_bestCares a_m_ones a_m_others a_m_bytes a_m_anew a_m_values cI cB cZ cP cC above below retired manyLine bytesLong tokenAt_1 tokenLong_2 token_3 value_4 bytes anew values) := hD
  refine lv_aload_n hx hb dX10_takesNurse_4 rfl (lv_at hl 0 rfl) ?_
  refine lv_iconst (v := 0) hx hb dX10_takesNurse_5 (by decide) ?_
  refine lv_iconst (v := 0) hx hb dX10_takesNurse_6 (by decide) ?_
  refine lv_aload_n hx hb dX10_takesNurse_7 rfl (lv_at hl 0 rfl) ?_
  refine mx_get (ci := 10) (C := RX10) (T := TX10) (N := 23) hx hb hown in_wsX100 hts hK hP 0 rfl rfl 21 (by decide) q_104 rfl (v := .ref a_m_anew) rfl dX10_takesNurse_8 ?_
  refine lv_iconst (v := 0) hx hb dX10_takesNurse_11 (by decide) ?_
  refine mx_iald hx hb hK hP 2 0 rfl rfl (mx_lit rfl) (anew 0) rfl dX10_takesNurse_12 ?_
  refine lv_iconst (v := 1) hx hb dX10_takesNurse_13 (by decide) ?_
  refine lv_isub hx hb dX10_takesNurse_14 ?_
  refine mx_ki (mx_rV (rm := rm_X10_takes) (rest := []) (C := RX10) hx hb hml hown hts (c_X10_takes l D cI cB cZ cP cC a_m a_m_told a_m_kept a_m_isKept a_m_refused a_m_months a_m_heirs a_m_lasts a_m_cares a_m_bestCares a_m_ones a_m_others a_m_bytes a_m_anew a_m_values above below retired manyLine bytesLong tokenAt_1 tokenLong_2 token_3 value_4 bytes values 0 0 ((anew 0) - 1) _ _ hw) q_371 q_372 q_373 q_5 q_374 hd_X10_takes ⟨(Nat.le_of_ble_eq_true rfl), (Nat.le_of_ble_eq_true rfl)⟩ rfl rfl hK hP hD [0, 1, 3] rfl rfl 10 0 rfl rfl rfl rfl hl.1 rfl (Nat.le_of_ble_eq_true rfl) dX10_takesNurse_15 ⟨(Nat.le_of_ble_eq_true rfl), (Nat.le_of_ble_eq_true rfl)⟩) hP hD hS hA [0, 1, 3] [2] [1, 2, 0, 3] (fun u => ww_X10_takesNurse a_m a_m_told a_m_kept a_m_isKept a_m_refused a_m_months a_m_heirs a_m_lasts a_m_cares a_m_bestCares a_m_ones a_m_others a_m_bytes a_m_anew a_m_values cI cB cZ cP cC above below retired manyLine bytesLong (u.1) (u.2.1) (u.2.2.1) (u.2.2.2.1) bytes anew (u.2.2.2.2)) rfl rfl rfl (by decide) rfl (fun _ => rfl) (fun r_5 u H locs hw hP hD hS => ?_)
  obtain ⟨tokenAt_6, tokenLong_7, token_8, value_9, values_10⟩ := u
  try dsimp only at hw
  replace hP : va_P D vwCl (ww_X10_takesNurse a_m a_m_told a_m_kept a_m_isKept a_m_refused a_m_months a_m_heirs a_m_lasts a_m_cares a_m_bestCares a_m_ones a_m_others a_m_bytes a_m_anew a_m_values cI cB cZ cP cC above below retired manyLine bytesLong tokenAt_6 tokenLong_7 token_8 value_9 bytes anew values_10) H := hP
  replace hD : va_D A (ww_X10_takesNurse a_m a_m_told a_m_kept a_m_isKept a_m_refused a_m_months a_m_heirs a_m_lasts a_m_cares a_m_bestCares a_m_ones a_m_others a_m_bytes a_m_anew a_m_values cI cB cZ cP cC above below retired manyLine bytesLong tokenAt_6 tokenLong_7 token_8 value_9 bytes anew values_10) := hD
  refine lv_if_eq (tgt := 31) hx hb dX10_takesNurse_18 (by decide) (fun c_11 => ?_) (fun c_11 => ?_)
  · replace hw := hw.1 c_11
    refine lv_iconst (v := 0) hx hb dX10_takesNurse_31 (by decide) ?_
    exact mx_iret (tokenAt_6, tokenLong_7, token_8, value_9, anew, values_10) hx hb hr hlocks rfl hw hK hP hD hS dX10_takesNurse_32
  · replace hw := hw.2 c_11
    refine lv_aload_n hx hb dX10_takesNurse_21 rfl (lv_at hl 0 rfl) ?_
    refine lv_iconst (v := 1) hx hb dX10_takesNurse_22 (by decide) ?_
    refine lv_iconst (v := 0) hx hb dX10_takesNurse_23 (by decide) ?_
    refine lv_iconst (v := 5) hx hb dX10_takesNurse_24 (by decide) ?_
    refine mx_ki (mx_rV (rm := rm_X10_takes) (rest := []) (C := RX10) hx hb hml hown hts (c_X10_takes l D cI cB cZ cP cC a_m a_m_told a_m_kept a_m_isKept a_m_refused a_m_months a_m_heirs a_m_lasts a_m_cares a_m_bestCares a_m_ones a_m_others a_m_bytes a_m_anew a_m_values above below retired manyLine bytesLong tokenAt_6 tokenLong_7 token_8 value_9 bytes values_10 1 0 5 _ _ hw) q_371 q_372 q_373 q_5 q_374 hd_X10_takes ⟨(Nat.le_of_ble_eq_true rfl), (Nat.le_of_ble_eq_true rfl)⟩ rfl rfl hK hP hD [0, 1, 3] rfl rfl 10 0 rfl rfl rfl rfl hl.1 rfl (Nat.le_of_ble_eq_true rfl) dX10_takesNurse_25 ⟨(Nat.le_of_ble_eq_true rfl), (Nat.le_of_ble_eq_true rfl)⟩) hP hD hS hA [0, 1, 3] [2] [1, 2, 0, 3] (fun u => ww_X10_takesNurse a_m a_m_told a_m_kept a_m_isKept a_m_refused a_m_months a_m_heirs a_m_lasts a_m_cares a_m_bestCares a_m_ones a_m_others a_m_bytes a_m_anew a_m_values cI cB cZ cP cC above below retired manyLine bytesLong (u.1) (u.2.1) (u.2.2.1) (u.2.2.2.1) bytes anew (u.2.2.2.2)) rfl rfl rfl (by decide) rfl (fun _ => rfl) (fun r_12 u H locs hw hP hD hS => ?_)
    obtain ⟨tokenAt_13, tokenLong_14, token_15, value_16, values_17⟩ := u
    try dsimp only at hw
    replace hP : va_P D vwCl (ww_X10_takesNurse a_m a_m_told a_m_kept a_m_isKept a_m_refused a_m_months a_m_heirs a_m_lasts a_m_cares a_m_bestCares a_m_ones a_m_others a_m_bytes a_m_anew a_m_values cI cB cZ cP cC above below retired manyLine bytesLong tokenAt_13 tokenLong_14 token_15 value_16 bytes anew values_17) H := hP
    replace hD : va_D A (ww_X10_takesNurse a_m a_m_told a_m_kept a_m_isKept a_m_refused a_m_months a_m_heirs a_m_lasts a_m_cares a_m_bestCares a_m_ones a_m_others a_m_bytes a_m_anew a_m_values cI cB cZ cP cC above below retired manyLine bytesLong tokenAt_13 tokenLong_14 token_15 value_16 bytes anew values_17) := hD
    refine lv_if_ne (tgt := 33) hx hb dX10_takesNurse_28 (by decide) (fun c_18 => ?_) (fun c_18 => ?_)
    · replace hw := hw.2 c_18
      refine lv_aload_n hx hb dX10_takesNurse_33 rfl (lv_at hl 0 rfl) ?_
      refine mx_get (ci := 10) (C := RX10) (T := TX10) (N := 23) hx hb hown in_wsX100 hts hK hP 0 rfl rfl 21 (by decide) q_104 rfl (v := .ref a_m_anew) rfl dX10_takesNurse_34 ?_
      refine lv_bipush (v := 11) hx hb dX10_takesNurse_37 (by decide) ?_
      refine lv_aload_n hx hb dX10_takesNurse_39 rfl (lv_at hl 0 rfl) ?_
      refine mx_get (ci := 10) (C := RX10) (T := TX10) (N := 23) hx hb hown in_wsX100 hts hK hP 0 rfl rfl 22 (by decide) q_105 rfl (v := .ref a_m_values) rfl dX10_takesNurse_40 ?_
      refine lv_iconst (v := 0) hx hb dX10_takesNurse_43 (by decide) ?_
      refine mx_iald hx hb hK hP 3 0 rfl rfl (mx_lit rfl) (values_17 0) rfl dX10_takesNurse_44 ?_
      refine lv_iadd hx hb dX10_takesNurse_45 ?_
      refine lv_aload_n hx hb dX10_takesNurse_46 rfl (lv_at hl 0 rfl) ?_
      refine mx_get (ci := 10) (C := RX10) (T := TX10) (N := 23) hx hb hown in_wsX100 hts hK hP 0 rfl rfl 22 (by decide) q_105 rfl (v := .ref a_m_values) rfl dX10_takesNurse_47 ?_
      refine lv_iconst (v := 1) hx hb dX10_takesNurse_50 (by decide) ?_
      refine mx_iald hx hb hK hP 3 0 rfl rfl (mx_lit rfl) (values_17 1) rfl dX10_takesNurse_51 ?_
      refine lv_topi (fun x_19 ex_19 => ?_)
      replace hw := hw x_19 ex_19
      obtain ⟨h_20, hw⟩ := hw
      obtain ⟨f_21, ef_21⟩ : ∃ y : Nat → Int32, y = upd anew (11 + (values_17 0)).toNatClampNeg x_19 := ⟨_, rfl⟩
      replace hw := hw f_21 ef_21
      refine mx_iast hx hb hK hP hD hS 2 0 rfl rfl h_20 f_21 ef_21 (ww_X10_takesNurse a_m a_m_told a_m_kept a_m_isKept a_m_refused a_m_months a_m_heirs a_m_lasts a_m_cares a_m_bestCares a_m_ones a_m_others a_m_bytes a_m_anew a_m_values cI cB cZ cP cC above below retired manyLine bytesLong tokenAt_13 tokenLong_14 token_15 value_16 bytes f_21 values_17) rfl dX10_takesNurse_52 (fun H locs hP hD hS => ?_)
      refine lv_iconst (v := 1) hx hb dX10_takesNurse_53 (by decide) ?_
      exact mx_iret (tokenAt_13, tokenLong_14, token_15, value_16, f_21, values_17) hx hb hr hlocks rfl hw hK hP hD hS dX10_takesNurse_54
    · replace hw := hw.1 c_18
      refine lv_iconst (v := 0) hx hb dX10_takesNurse_31 (by decide) ?_
      exact mx_iret (tokenAt_13, tokenLong_14, token_15, value_16, anew, values_17) hx hb hr hlocks rfl hw hK hP hD hS dX10_takesNurse_32
/-! PramStateModel.takesItem()Z -/
abbrev ww_X10_takesItem (a_m a_m_told a_m_kept a_m_isKept a_m_refused a_m_months a_m_heirs a_m_lasts a_m_cares a_m_bestCares a_m_ones a_m_others a_m_bytes a_m_anew a_m_values : Nat) (cI cB cZ cP cC : ClassId) (above : Int64) (below : Int64) (retired : Int32) (manyLine : Int32) (bytesLong : Int32) (tokenAt : Int32) (tokenLong : Int32) (token : Int32) (value : Int32) (bytes : Nat → Int32) (anew : Nat → Int32) (values : Nat → Int32) : va_W := [(a_m, .inr (10, [.ref a_m_told, .ref a_m_kept, .ref a_m_isKept, .ref a_m_refused, .long above, .long below, .ref a_m_months, .int retired, .ref a_m_heirs, .ref a_m_lasts, .int manyLine, .ref a_m_cares, .ref a_m_bestCares, .ref a_m_ones, .ref a_m_others, .ref a_m_bytes, .int bytesLong, .int tokenAt, .int tokenLong, .int token, .int value, .ref a_m_anew, .ref a_m_values])), (a_m_bytes, .inl (cI, 150, .inl bytes)), (a_m_anew, .inl (cI, 78, .inl anew)), (a_m_values, .inl (cI, 3, .inl values))]
abbrev qq_X10_takesItem (D : va_G) (a_m a_m_told a_m_kept a_m_isKept a_m_refused a_m_months a_m_heirs a_m_lasts a_m_cares a_m_bestCares a_m_ones a_m_others a_m_bytes a_m_anew a_m_values : Nat) (cI cB cZ cP cC : ClassId) (above : Int64) (below : Int64) (retired : Int32) (manyLine : Int32) (bytesLong : Int32) (bytes : Nat → Int32) (Post : Int32 → Int32 → Int32 → Int32 → Int32 → (Nat → Int32) → (Nat → Int32) → Prop) (A : Nat → Prop) : Array Value → State → Outcome → State → Prop := va_Qi (fun (r : Int32) (u : Int32 × Int32 × Int32 × Int32 × (Nat → Int32) × (Nat → Int32)) => Post r u.1 u.2.1 u.2.2.1 u.2.2.2.1 u.2.2.2.2.1 u.2.2.2.2.2) (fun (u : Int32 × Int32 × Int32 × Int32 × (Nat → Int32) × (Nat → Int32)) t => mxB D (mxTy cI cB cZ cP cC) A (ww_X10_takesItem a_m a_m_told a_m_kept a_m_isKept a_m_refused a_m_months a_m_heirs a_m_lasts a_m_cares a_m_bestCares a_m_ones a_m_others a_m_bytes a_m_anew a_m_values cI cB cZ cP cC above below retired manyLine bytesLong (u.1) (u.2.1) (u.2.2.1) (u.2.2.2.1) bytes (u.2.2.2.2.1) (u.2.2.2.2.2)) t) A
abbrev rm_X10_takesItem : Room := { frames := 6, cells := 0, slots := 0, locals := 132 }
theorem hd_X10_takesItem : yX10_takesItem.cls = RX10 ∧ yX10_takesItem.cls ≠ "java/lang/invoke/MethodHandle" ∧ yX10_takesItem.cls ≠ "java/lang/invoke/VarHandle" ∧ (parseMethodDescriptor yX10_takesItem.desc).map (fun d => d.parameters.length) = some 0 := by decide +kernel
def wp_X10_takesItem (bytesLong : Int32) (bytes : Nat → Int32) (tokenAt : Int32) (tokenLong : Int32) (token : Int32) (value : Int32) (anew : Nat → Int32) (values : Nat → Int32) (Post : Int32 → Int32 → Int32 → Int32 → Int32 → (Nat → Int32) → (Nat → Int32) → Prop) : Prop :=
  (wp_X10_spells tokenAt tokenLong token bytes 6 105 110 102 97 110 116 (fun r_1 => ((r_1 = 0 → (wp_X10_spells tokenAt tokenLong token bytes 5 115 107 105 108 108 0 (fun r_3 => ((r_3 = 0 → (wp_X10_spells tokenAt tokenLong token bytes 5 110 117 114 115 101 0 (fun r_5 => ((r_5 = 0 → Post 0 tokenAt tokenLong token value anew values) ∧ (¬ r_5 = 0 → (wp_X10_takesNurse bytesLong bytes tokenAt tokenLong token value anew values (fun r_7 tokenAt_8 tokenLong_9 token_10 value_11 anew_12 values_13 => ((r_7 = 0 → Post 0 tokenAt_8 tokenLong_9 token_10 value_11 anew_12 values_13) ∧ (¬ r_7 = 0 → Post 1 tokenAt_8 tokenLong_9 token_10 value_11 anew_12 values_13))))))))) ∧ (¬ r_3 = 0 → (wp_X10_takesSkill bytesLong bytes tokenAt tokenLong token value anew values (fun r_15 tokenAt_16 tokenLong_17 token_18 value_19 anew_20 values_21 => ((r_15 = 0 ∨ r_15 = 1) ∧ Post r_15 tokenAt_16 tokenLong_17 token_18 value_19 anew_20 values_21)))))))) ∧ (¬ r_1 = 0 → (wp_X10_takesInfant bytesLong bytes tokenAt tokenLong token value anew values (fun r_23 tokenAt_24 tokenLong_25 token_26 value_27 anew_28 values_29 => ((r_23 = 0 ∨ r_23 = 1) ∧ Post r_23 tokenAt_24 tokenLong_25 token_26 value_27 anew_28 values_29)))))))
set_option maxHeartbeats 4000000 in
set_option maxRecDepth 100000 in
theorem c_X10_takesItem (l : Launch) (D : va_G) (cI cB cZ cP cC : ClassId) (a_m a_m_told a_m_kept a_m_isKept a_m_refused a_m_months a_m_heirs a_m_lasts a_m_cares a_m_bestCares a_m_ones a_m_others a_m_bytes a_m_anew a_m_values : Nat) (above : Int64) (below : Int64) (retired : Int32) (manyLine : Int32) (bytesLong : Int32) (tokenAt : Int32) (tokenLong : Int32) (token : Int32) (value : Int32) (bytes : Nat → Int32) (anew : Nat → Int32) (values : Nat → Int32)  (sz : Nat) (Post : Int32 → Int32 → Int32 → Int32 → Int32 → (Nat → Int32) → (Nat → Int32) → Prop) (hw : wp_X10_takesItem bytesLong bytes tokenAt tokenLong token value anew values Post) :
    Met l yX10_takesItem (Cond.code yX10_takesItem cX10_takesItem 1 (some .boolean) :: wsAll) rm_X10_takesItem (va_Pc [.ref a_m] (mxP D (mxTy cI cB cZ cP cC) sz (ww_X10_takesItem a_m a_m_told a_m_kept a_m_isKept a_m_refused a_m_months a_m_heirs a_m_lasts a_m_cares a_m_bestCares a_m_ones a_m_others a_m_bytes a_m_anew a_m_values cI cB cZ cP cC above below retired manyLine bytesLong tokenAt tokenLong token value bytes anew values))) (qq_X10_takesItem D a_m a_m_told a_m_kept a_m_isKept a_m_refused a_m_months a_m_heirs a_m_lasts a_m_cares a_m_bestCares a_m_ones a_m_others a_m_bytes a_m_anew a_m_values cI cB cZ cP cC above below retired manyLine bytesLong bytes Post (va_A (ww_X10_takesItem a_m a_m_told a_m_kept a_m_isKept a_m_refused a_m_months a_m_heirs a_m_lasts a_m_cares a_m_bestCares a_m_ones a_m_others a_m_bytes a_m_anew a_m_values cI cB cZ cP cC above below retired manyLine bytesLong tokenAt tokenLong token value bytes anew values) sz)) 0 0 (va_A (ww_X10_takesItem a_m a_m_told a_m_kept a_m_isKept a_m_refused a_m_months a_m_heirs a_m_lasts a_m_cares a_m_bestCares a_m_ones a_m_others a_m_bytes a_m_anew a_m_values cI cB cZ cP cC above below retired manyLine bytesLong tokenAt tokenLong token value bytes anew values) sz) := by
  refine mx_of (Qc := qq_X10_takesItem D a_m a_m_told a_m_kept a_m_isKept a_m_refused a_m_months a_m_heirs a_m_lasts a_m_cares a_m_bestCares a_m_ones a_m_others a_m_bytes a_m_anew a_m_values cI cB cZ cP cC above below retired manyLine bytesLong bytes Post) (by decide) (Nat.le_of_ble_eq_true rfl) ?_
  intro p e s m bl meth c A ls C0 hP hD hS hl
  replace C0 : mxC p s m [.ref a_m].toArray meth c cX10_takesItem RX10 (some .boolean) 1 D (mxTy cI cB cZ cP cC) A := C0
  obtain ⟨hx, hb, hr, hlocks, hml, hown, hts, hK, hA⟩ := id C0
  replace hl : lv_has ls 1 [(0, .ref a_m)] := hl
  unfold wp_X10_takesItem at hw
  refine lv_aload_n hx hb dX10_takesItem_0 rfl (lv_at hl 0 rfl) ?_
  refine lv_bipush (v := 6) hx hb dX10_takesItem_1 (by decide) ?_
  refine lv_bipush (v := 105) hx hb dX10_takesItem_3 (by decide) ?_
  refine lv_bipush (v := 110) hx hb dX10_takesItem_5 (by decide) ?_
  refine lv_bipush (v := 102) hx hb dX10_takesItem_7 (by decide) ?_
  refine lv_bipush (v := 97) hx hb dX10_takesItem_9 (by decide) ?_
  refine lv_bipush (v := 110) hx hb dX10_takesItem_11 (by decide) ?_
  refine lv_bipush (v := 116) hx hb dX10_takesItem_13 (by decide) ?_
  refine mx_ki (mx_rV (rm := rm_X10_spells) (rest := []) (C := RX10) hx hb hml hown hts (c_X10_spells l D cI cB cZ cP cC a_m a_m_told a_m_kept a_m_isKept a_m_refused a_m_months a_m_heirs a_m_lasts a_m_cares a_m_bestCares a_m_ones a_m_others a_m_bytes a_m_anew a_m_values above below retired manyLine bytesLong tokenAt tokenLong token value bytes 6 105 110 102 97 110 116 _ _ hw) q_355 q_356 q_357 q_5 q_358 hd_X10_spells ⟨(Nat.le_of_ble_eq_true rfl), (Nat.le_of_ble_eq_true rfl)⟩ rfl rfl hK hP hD [0, 1] rfl rfl 10 0 rfl rfl rfl rfl hl.1 rfl (Nat.le_of_ble_eq_true rfl) dX10_takesItem_15 ⟨(Nat.le_of_ble_eq_true rfl), (Nat.le_of_ble_eq_true rfl)⟩) hP hD hS hA [0, 1] [2, 3] [2, 3, 0, 1] (fun _ => ww_X10_takesItem a_m a_m_told a_m_kept a_m_isKept a_m_refused a_m_months a_m_heirs a_m_lasts a_m_cares a_m_bestCares a_m_ones a_m_others a_m_bytes a_m_anew a_m_values cI cB cZ cP cC above below retired manyLine bytesLong tokenAt tokenLong token value bytes anew values) rfl rfl rfl (by decide) rfl (fun _ => rfl) (fun r_1 u H locs hw hP hD hS => ?_)
  try dsimp only at hw
  replace hP : va_P D vwCl (ww_X10_takesItem a_m a_m_told a_m_kept a_m_isKept a_m_refused a_m_months a_m_heirs a_m_lasts a_m_cares a_m_bestCares a_m_ones a_m_others a_m_bytes a_m_anew a_m_values cI cB cZ cP cC above below retired manyLine bytesLong tokenAt tokenLong token value bytes anew values) H := hP
  replace hD : va_D A (ww_X10_takesItem a_m a_m_told a_m_kept a_m_isKept a_m_refused a_m_months a_m_heirs a_m_lasts a_m_cares a_m_bestCares a_m_ones a_m_others a_m_bytes a_m_anew a_m_values cI cB cZ cP cC above below retired manyLine bytesLong tokenAt tokenLong token value bytes anew values) := hD
  refine lv_if_eq (tgt := 26) hx hb dX10_takesItem_18 (by decide) (fun c_2 => ?_) (fun c_2 => ?_)
  · replace hw := hw.1 c_2
    refine lv_aload_n hx hb dX10_takesItem_26 rfl (lv_at hl 0 rfl) ?_
    refine lv_iconst (v := 5) hx hb dX10_takesItem_27 (by decide) ?_
    refine lv_bipush (v := 115) hx hb dX10_takesItem_28 (by decide) ?_
    refine lv_bipush (v := 107) hx hb dX10_takesItem_30 (by decide) ?_
    refine lv_bipush (v := 105) hx hb dX10_takesItem_32 (by decide) ?_
    refine lv_bipush (v := 108) hx hb dX10_takesItem_34 (by decide) ?_
    refine lv_bipush (v := 108) hx hb dX10_takesItem_36 (by decide) ?_
    refine lv_iconst (v := 0) hx hb dX10_takesItem_38 (by decide) ?_
    refine mx_ki (mx_rV (rm := rm_X10_spells) (rest := []) (C := RX10) hx hb hml hown hts (c_X10_spells l D cI cB cZ cP cC a_m a_m_told a_m_kept a_m_isKept a_m_refused a_m_months a_m_heirs a_m_lasts a_m_cares a_m_bestCares a_m_ones a_m_others a_m_bytes a_m_anew a_m_values above below retired manyLine bytesLong tokenAt tokenLong token value bytes 5 115 107 105 108 108 0 _ _ hw) q_355 q_356 q_357 q_5 q_358 hd_X10_spells ⟨(Nat.le_of_ble_eq_true rfl), (Nat.le_of_ble_eq_true rfl)⟩ rfl rfl hK hP hD [0, 1] rfl rfl 10 0 rfl rfl rfl rfl hl.1 rfl (Nat.le_of_ble_eq_true rfl) dX10_takesItem_39 ⟨(Nat.le_of_ble_eq_true rfl), (Nat.le_of_ble_eq_true rfl)⟩) hP hD hS hA [0, 1] [2, 3] [2, 3, 0, 1] (fun _ => ww_X10_takesItem a_m a_m_told a_m_kept a_m_isKept a_m_refused a_m_months a_m_heirs a_m_lasts a_m_cares a_m_bestCares a_m_ones a_m_others a_m_bytes a_m_anew a_m_values cI cB cZ cP cC above below retired manyLine bytesLong tokenAt tokenLong token value bytes anew values) rfl rfl rfl (by decide) rfl (fun _ => rfl) (fun r_3 u H locs hw hP hD hS => ?_)
    try dsimp only at hw
    replace hP : va_P D vwCl (ww_X10_takesItem a_m a_m_told a_m_kept a_m_isKept a_m_refused a_m_months a_m_heirs a_m_lasts a_m_cares a_m_bestCares a_m_ones a_m_others a_m_bytes a_m_anew a_m_values cI cB cZ cP cC above below retired manyLine bytesLong tokenAt tokenLong token value bytes anew values) H := hP
    replace hD : va_D A (ww_X10_takesItem a_m a_m_told a_m_kept a_m_isKept a_m_refused a_m_months a_m_heirs a_m_lasts a_m_cares a_m_bestCares a_m_ones a_m_others a_m_bytes a_m_anew a_m_values cI cB cZ cP cC above below retired manyLine bytesLong tokenAt tokenLong token value bytes anew values) := hD
    refine lv_if_eq (tgt := 50) hx hb dX10_takesItem_42 (by decide) (fun c_4 => ?_) (fun c_4 => ?_)
    · replace hw := hw.1 c_4
      refine lv_aload_n hx hb dX10_takesItem_50 rfl (lv_at hl 0 rfl) ?_
      refine lv_iconst (v := 5) hx hb dX10_takesItem_51 (by decide) ?_
      refine lv_bipush (v := 110) hx hb dX10_takesItem_52 (by decide) ?_
      refine lv_bipush (v := 117) hx hb dX10_takesItem_54 (by decide) ?_
      refine lv_bipush (v := 114) hx hb dX10_takesItem_56 (by decide) ?_
      refine lv_bipush (v := 115) hx hb dX10_takesItem_58 (by decide) ?_
      refine lv_bipush (v := 101) hx hb dX10_takesItem_60 (by decide) ?_
      refine lv_iconst (v := 0) hx hb dX10_takesItem_62 (by decide) ?_
      refine mx_ki (mx_rV (rm := rm_X10_spells) (rest := []) (C := RX10) hx hb hml hown hts (c_X10_spells l D cI cB cZ cP cC a_m a_m_told a_m_kept a_m_isKept a_m_refused a_m_months a_m_heirs a_m_lasts a_m_cares a_m_bestCares a_m_ones a_m_others a_m_bytes a_m_anew a_m_values above below retired manyLine bytesLong tokenAt tokenLong token value bytes 5 110 117 114 115 101 0 _ _ hw) q_355 q_356 q_357 q_5 q_358 hd_X10_spells ⟨(Nat.le_of_ble_eq_true rfl), (Nat.le_of_ble_eq_true rfl)⟩ rfl rfl hK hP hD [0, 1] rfl rfl 10 0 rfl rfl rfl rfl hl.1 rfl (Nat.le_of_ble_eq_true rfl) dX10_takesItem_63 ⟨(Nat.le_of_ble_eq_true rfl), (Nat.le_of_ble_eq_true rfl)⟩) hP hD hS hA [0, 1] [2, 3] [2, 3, 0, 1] (fun _ => ww_X10_takesItem a_m a_m_told a_m_kept a_m_isKept a_m_refused a_m_months a_m_heirs a_m_lasts a_m_cares a_m_bestCares a_m_ones a_m_others a_m_bytes a_m_anew a_m_values cI cB cZ cP cC above below retired manyLine bytesLong tokenAt tokenLong token value bytes anew values) rfl rfl rfl (by decide) rfl (fun _ => rfl) (fun r_5 u H locs hw hP hD hS => ?_)
      try dsimp only at hw
      replace hP : va_P D vwCl (ww_X10_takesItem a_m a_m_told a_m_kept a_m_isKept a_m_refused a_m_months a_m_heirs a_m_lasts a_m_cares a_m_bestCares a_m_ones a_m_others a_m_bytes a_m_anew a_m_values cI cB cZ cP cC above below retired manyLine bytesLong tokenAt tokenLong token value bytes anew values) H := hP
      replace hD : va_D A (ww_X10_takesItem a_m a_m_told a_m_kept a_m_isKept a_m_refused a_m_months a_m_heirs a_m_lasts a_m_cares a_m_bestCares a_m_ones a_m_others a_m_bytes a_m_anew a_m_values cI cB cZ cP cC above below retired manyLine bytesLong tokenAt tokenLong token value bytes anew values) := hD
      refine lv_if_eq (tgt := 80) hx hb dX10_takesItem_66 (by decide) (fun c_6 => ?_) (fun c_6 => ?_)
      · replace hw := hw.1 c_6
        refine lv_iconst (v := 0) hx hb dX10_takesItem_80 (by decide) ?_
        exact mx_iret (tokenAt, tokenLong, token, value, anew, values) hx hb hr hlocks rfl hw hK hP hD hS dX10_takesItem_81
      · replace hw := hw.2 c_6
        refine lv_aload_n hx hb dX10_takesItem_69 rfl (lv_at hl 0 rfl) ?_
        refine mx_ki (mx_rV (rm := rm_X10_takesNurse) (rest := []) (C := RX10) hx hb hml hown hts (c_X10_takesNurse l D cI cB cZ cP cC a_m a_m_told a_m_kept a_m_isKept a_m_refused a_m_months a_m_heirs a_m_lasts a_m_cares a_m_bestCares a_m_ones a_m_others a_m_bytes a_m_anew a_m_values above below retired manyLine bytesLong tokenAt tokenLong token value bytes anew values _ _ hw) q_379 q_380 q_381 q_5 q_382 hd_X10_takesNurse ⟨(Nat.le_of_ble_eq_true rfl), (Nat.le_of_ble_eq_true rfl)⟩ rfl rfl hK hP hD [0, 1, 2, 3] rfl rfl 10 0 rfl rfl rfl rfl hl.1 rfl (Nat.le_of_ble_eq_true rfl) dX10_takesItem_70 ⟨(Nat.le_of_ble_eq_true rfl), (Nat.le_of_ble_eq_true rfl)⟩) hP hD hS hA [0, 1, 2, 3] [] [0, 1, 2, 3] (fun u => ww_X10_takesItem a_m a_m_told a_m_kept a_m_isKept a_m_refused a_m_months a_m_heirs a_m_lasts a_m_cares a_m_bestCares a_m_ones a_m_others a_m_bytes a_m_anew a_m_values cI cB cZ cP cC above below retired manyLine bytesLong (u.1) (u.2.1) (u.2.2.1) (u.2.2.2.1) bytes (u.2.2.2.2.1) (u.2.2.2.2.2)) rfl rfl rfl (by decide) rfl (fun _ => rfl) (fun r_7 u H locs hw hP hD hS => ?_)
        obtain ⟨tokenAt_8, tokenLong_9, token_10, value_11, anew_12, values_13⟩ := u
        try dsimp only at hw
        replace hP : va_P D vwCl (ww_X10_takesItem a_m a_m_told a_m_kept a_m_isKept a_m_refused a_m_months a_m_heirs a_m_lasts a_m_cares a_m_bestCares a_m_ones a_m_others a_m_bytes a_m_anew a_m_values cI cB cZ cP cC above below retired manyLine bytesLong tokenAt_8 tokenLong_9 token_10 value_11 bytes anew_12 values_13) H := hP
        replace hD : va_D A (ww_X10_takesItem a_m a_m_told a_m_kept a_m_isKept a_m_refused a_m_months a_m_heirs a_m_lasts a_m_cares a_m_bestCares a_m_ones a_m_others a_m_bytes a_m_anew a_m_values cI cB cZ cP cC above below retired manyLine bytesLong tokenAt_8 tokenLong_9 token_10 value_11 bytes anew_12 values_13) := hD
        refine lv_if_eq (tgt := 80) hx hb dX10_takesItem_73 (by decide) (fun c_14 => ?_) (fun c_14 => ?_)
        · replace hw := hw.1 c_14
          refine lv_iconst (v := 0) hx hb dX10_takesItem_80 (by decide) ?_
          exact mx_iret (tokenAt_8, tokenLong_9, token_10, value_11, anew_12, values_13) hx hb hr hlocks rfl hw hK hP hD hS dX10_takesItem_81
        · replace hw := hw.2 c_14
          refine lv_iconst (v := 1) hx hb dX10_takesItem_76 (by decide) ?_
          refine lv_goto (tgt := 81) hx hb dX10_takesItem_77 (by decide) ?_
          exact mx_iret (tokenAt_8, tokenLong_9, token_10, value_11, anew_12, values_13) hx hb hr hlocks rfl hw hK hP hD hS dX10_takesItem_81
    · replace hw := hw.2 c_4
      refine lv_aload_n hx hb dX10_takesItem_45 rfl (lv_at hl 0 rfl) ?_
      refine mx_ki (mx_rV (rm := rm_X10_takesSkill) (rest := []) (C := RX10) hx hb hml hown hts (c_X10_takesSkill l D cI cB cZ cP cC a_m a_m_told a_m_kept a_m_isKept a_m_refused a_m_months a_m_heirs a_m_lasts a_m_cares a_m_bestCares a_m_ones a_m_others a_m_bytes a_m_anew a_m_values above below retired manyLine bytesLong tokenAt tokenLong token value bytes anew values _ _ hw) q_375 q_376 q_377 q_5 q_378 hd_X10_takesSkill ⟨(Nat.le_of_ble_eq_true rfl), (Nat.le_of_ble_eq_true rfl)⟩ rfl rfl hK hP hD [0, 1, 2, 3] rfl rfl 10 0 rfl rfl rfl rfl hl.1 rfl (Nat.le_of_ble_eq_true rfl) dX10_takesItem_46 ⟨(Nat.le_of_ble_eq_true rfl), (Nat.le_of_ble_eq_true rfl)⟩) hP hD hS hA [0, 1, 2, 3] [] [0, 1, 2, 3] (fun u => ww_X10_takesItem a_m a_m_told a_m_kept a_m_isKept a_m_refused a_m_months a_m_heirs a_m_lasts a_m_cares a_m_bestCares a_m_ones a_m_others a_m_bytes a_m_anew a_m_values cI cB cZ cP cC above below retired manyLine bytesLong (u.1) (u.2.1) (u.2.2.1) (u.2.2.2.1) bytes (u.2.2.2.2.1) (u.2.2.2.2.2)) rfl rfl rfl (by decide) rfl (fun _ => rfl) (fun r_15 u H locs hw hP hD hS => ?_)
      obtain ⟨tokenAt_16, tokenLong_17, token_18, value_19, anew_20, values_21⟩ := u
      try dsimp only at hw
      replace hP : va_P D vwCl (ww_X10_takesItem a_m a_m_told a_m_kept a_m_isKept a_m_refused a_m_months a_m_heirs a_m_lasts a_m_cares a_m_bestCares a_m_ones a_m_others a_m_bytes a_m_anew a_m_values cI cB cZ cP cC above below retired manyLine bytesLong tokenAt_16 tokenLong_17 token_18 value_19 bytes anew_20 values_21) H := hP
      replace hD : va_D A (ww_X10_takesItem a_m a_m_told a_m_kept a_m_isKept a_m_refused a_m_months a_m_heirs a_m_lasts a_m_cares a_m_bestCares a_m_ones a_m_others a_m_bytes a_m_anew a_m_values cI cB cZ cP cC above below retired manyLine bytesLong tokenAt_16 tokenLong_17 token_18 value_19 bytes anew_20 values_21) := hD
      obtain ⟨h_22, hw⟩ := hw
      exact mx_iret (tokenAt_16, tokenLong_17, token_18, value_19, anew_20, values_21) hx hb hr hlocks (mx_narZ h_22) hw hK hP hD hS dX10_takesItem_49
  · replace hw := hw.2 c_2
    refine lv_aload_n hx hb dX10_takesItem_21 rfl (lv_at hl 0 rfl) ?_
    refine mx_ki (mx_rV (rm := rm_X10_takesInfant) (rest := []) (C := RX10) hx hb hml hown hts (c_X10_takesInfant l D cI cB cZ cP cC a_m a_m_told a_m_kept a_m_isKept a_m_refused a_m_months a_m_heirs a_m_lasts a_m_cares a_m_bestCares a_m_ones a_m_others a_m_bytes a_m_anew a_m_values above below retired manyLine bytesLong tokenAt tokenLong token value bytes anew values _ _ hw) q_367 q_368 q_369 q_5 q_370 hd_X10_takesInfant ⟨(Nat.le_of_ble_eq_true rfl), (Nat.le_of_ble_eq_true rfl)⟩ rfl rfl hK hP hD [0, 1, 2, 3] rfl rfl 10 0 rfl rfl rfl rfl hl.1 rfl (Nat.le_of_ble_eq_true rfl) dX10_takesItem_22 ⟨(Nat.le_of_ble_eq_true rfl), (Nat.le_of_ble_eq_true rfl)⟩) hP hD hS hA [0, 1, 2, 3] [] [0, 1, 2, 3] (fun u => ww_X10_takesItem a_m a_m_told a_m_kept a_m_isKept a_m_refused a_m_months a_m_heirs a_m_lasts a_m_cares a_m_bestCares a_m_ones a_m_others a_m_bytes a_m_anew a_m_values cI cB cZ cP cC above below retired manyLine bytesLong (u.1) (u.2.1) (u.2.2.1) (u.2.2.2.1) bytes (u.2.2.2.2.1) (u.2.2.2.2.2)) rfl rfl rfl (by decide) rfl (fun _ => rfl) (fun r_23 u H locs hw hP hD hS => ?_)
    obtain ⟨tokenAt_24, tokenLong_25, token_26, value_27, anew_28, values_29⟩ := u
    try dsimp only at hw
    replace hP : va_P D vwCl (ww_X10_takesItem a_m a_m_told a_m_kept a_m_isKept a_m_refused a_m_months a_m_heirs a_m_lasts a_m_cares a_m_bestCares a_m_ones a_m_others a_m_bytes a_m_anew a_m_values cI cB cZ cP cC above below retired manyLine bytesLong tokenAt_24 tokenLong_25 token_26 value_27 bytes anew_28 values_29) H := hP
    replace hD : va_D A (ww_X10_takesItem a_m a_m_told a_m_kept a_m_isKept a_m_refused a_m_months a_m_heirs a_m_lasts a_m_cares a_m_bestCares a_m_ones a_m_others a_m_bytes a_m_anew a_m_values cI cB cZ cP cC above below retired manyLine bytesLong tokenAt_24 tokenLong_25 token_26 value_27 bytes anew_28 values_29) := hD
    obtain ⟨h_30, hw⟩ := hw
    exact mx_iret (tokenAt_24, tokenLong_25, token_26, value_27, anew_28, values_29) hx hb hr hlocks (mx_narZ h_30) hw hK hP hD hS dX10_takesItem_25
/-! PramStateModel.read()I -/
abbrev ww_X10_read (a_m a_m_told a_m_kept a_m_isKept a_m_refused a_m_months a_m_heirs a_m_lasts a_m_cares a_m_bestCares a_m_ones a_m_others a_m_bytes a_m_anew a_m_values : Nat) (cI cB cZ cP cC : ClassId) (above : Int64) (below : Int64) (retired : Int32) (manyLine : Int32) (bytesLong : Int32) (tokenAt : Int32) (tokenLong : Int32) (token : Int32) (value : Int32) (told : Nat → Int32) (bytes : Nat → Int32) (anew : Nat → Int32) (values : Nat → Int32) : va_W := [(a_m, .inr (10, [.ref a_m_told, .ref a_m_kept, .ref a_m_isKept, .ref a_m_refused, .long above, .long below, .ref a_m_months, .int retired, .ref a_m_heirs, .ref a_m_lasts, .int manyLine, .ref a_m_cares, .ref a_m_bestCares, .ref a_m_ones, .ref a_m_others, .ref a_m_bytes, .int bytesLong, .int tokenAt, .int tokenLong, .int token, .int value, .ref a_m_anew, .ref a_m_values])), (a_m_told, .inl (cI, 190, .inl told)), (a_m_bytes, .inl (cI, 150, .inl bytes)), (a_m_anew, .inl (cI, 78, .inl anew)), (a_m_values, .inl (cI, 3, .inl values))]
abbrev qq_X10_read (D : va_G) (a_m a_m_told a_m_kept a_m_isKept a_m_refused a_m_months a_m_heirs a_m_lasts a_m_cares a_m_bestCares a_m_ones a_m_others a_m_bytes a_m_anew a_m_values : Nat) (cI cB cZ cP cC : ClassId) (above : Int64) (below : Int64) (retired : Int32) (manyLine : Int32) (bytesLong : Int32) (bytes : Nat → Int32) (Post : Int32 → Int32 → Int32 → Int32 → Int32 → (Nat → Int32) → (Nat → Int32) → (Nat → Int32) → Prop) (A : Nat → Prop) : Array Value → State → Outcome → State → Prop := va_Qi (fun (r : Int32) (u : Int32 × Int32 × Int32 × Int32 × (Nat → Int32) × (Nat → Int32) × (Nat → Int32)) => Post r u.1 u.2.1 u.2.2.1 u.2.2.2.1 u.2.2.2.2.1 u.2.2.2.2.2.1 u.2.2.2.2.2.2) (fun (u : Int32 × Int32 × Int32 × Int32 × (Nat → Int32) × (Nat → Int32) × (Nat → Int32)) t => mxB D (mxTy cI cB cZ cP cC) A (ww_X10_read a_m a_m_told a_m_kept a_m_isKept a_m_refused a_m_months a_m_heirs a_m_lasts a_m_cares a_m_bestCares a_m_ones a_m_others a_m_bytes a_m_anew a_m_values cI cB cZ cP cC above below retired manyLine bytesLong (u.1) (u.2.1) (u.2.2.1) (u.2.2.2.1) (u.2.2.2.2.1) bytes (u.2.2.2.2.2.1) (u.2.2.2.2.2.2)) t) A
abbrev rm_X10_read : Room := { frames := 7, cells := 0, slots := 0, locals := 152 }
theorem hd_X10_read : yX10_read.cls = RX10 ∧ yX10_read.cls ≠ "java/lang/invoke/MethodHandle" ∧ yX10_read.cls ≠ "java/lang/invoke/VarHandle" ∧ (parseMethodDescriptor yX10_read.desc).map (fun d => d.parameters.length) = some 0 := by decide +kernel
def wp_X10_read_L65 (bytesLong : Int32) (bytes : Nat → Int32) (Post : Int32 → Int32 → Int32 → Int32 → Int32 → (Nat → Int32) → (Nat → Int32) → (Nat → Int32) → Prop) (K_105 : Int32 → Int32 → Int32 → Int32 → Int32 → (Nat → Int32) → (Nat → Int32) → (Nat → Int32) → Prop) (K_87 : Int32 → Int32 → Int32 → Int32 → (Nat → Int32) → (Nat → Int32) → (Nat → Int32) → Prop) : Nat → Int32 → Int32 → Int32 → Int32 → Int32 → (Nat → Int32) → (Nat → Int32) → (Nat → Int32) → Prop
  | 0, _, _, _, _, _, _, _, _ => False
  | n + 1, v1, tokenAt, tokenLong, token, value, told, anew, values => ((token = 0 → K_105 v1 tokenAt tokenLong token value told anew values) ∧ (¬ token = 0 → (wp_X10_takesItem bytesLong bytes tokenAt tokenLong token value anew values (fun r_18 tokenAt_19 tokenLong_20 token_21 value_22 anew_23 values_24 => ((r_18 = 0 → K_87 tokenAt_19 tokenLong_20 token_21 value_22 told anew_23 values_24) ∧ (¬ r_18 = 0 → ((token_21 = 3 → (wp_X10_goBehind bytesLong bytes tokenAt_19 tokenLong_20 token_21 value_22 (fun tokenAt_27 tokenLong_28 token_29 value_30 => (∀ x_31 : Int32, x_31 = v1 + 1 → wp_X10_read_L65 bytesLong bytes Post K_105 K_87 n x_31 tokenAt_27 tokenLong_28 token_29 value_30 told anew_23 values_24)))) ∧ (¬ token_21 = 3 → K_87 tokenAt_19 tokenLong_20 token_21 value_22 told anew_23 values_24))))))))
set_option maxHeartbeats 4000000 in
set_option maxRecDepth 100000 in
theorem k_X10_read_L65 {p : Program} {l : Launch} {e : Env} {s : State} {m : MethodId} {ar : Array Value} {bl : List Frame} {meth : Method} {c : Code} {D : va_G} {A : Nat → Prop} {cI cB cZ cP cC : ClassId} {a_m a_m_told a_m_kept a_m_isKept a_m_refused a_m_months a_m_heirs a_m_lasts a_m_cares a_m_bestCares a_m_ones a_m_others a_m_bytes a_m_anew a_m_values : Nat} {above : Int64} {below : Int64} {retired : Int32} {manyLine : Int32} {bytesLong : Int32} {bytes : Nat → Int32} {Post : Int32 → Int32 → Int32 → Int32 → Int32 → (Nat → Int32) → (Nat → Int32) → (Nat → Int32) → Prop} {K_105 : Int32 → Int32 → Int32 → Int32 → Int32 → (Nat → Int32) → (Nat → Int32) → (Nat → Int32) → Prop} {K_87 : Int32 → Int32 → Int32 → Int32 → (Nat → Int32) → (Nat → Int32) → (Nat → Int32) → Prop} (C0 : mxC p s m ar meth c cX10_read RX10 (some .int) 3 D (mxTy cI cB cZ cP cC) A)
    (hK_105 : ∀ (v1 : Int32) (tokenAt : Int32) (tokenLong : Int32) (token : Int32) (value : Int32) (told : Nat → Int32) (anew : Nat → Int32) (values : Nat → Int32) (H : Heap) (locs : List Loc) (ls : Array Slot), va_P D vwCl (ww_X10_read a_m a_m_told a_m_kept a_m_isKept a_m_refused a_m_months a_m_heirs a_m_lasts a_m_cares a_m_bestCares a_m_ones a_m_others a_m_bytes a_m_anew a_m_values cI cB cZ cP cC above below retired manyLine bytesLong tokenAt tokenLong token value told bytes anew values) H → va_D A (ww_X10_read a_m a_m_told a_m_kept a_m_isKept a_m_refused a_m_months a_m_heirs a_m_lasts a_m_cares a_m_bestCares a_m_ones a_m_others a_m_bytes a_m_anew a_m_values cI cB cZ cP cC above below retired manyLine bytesLong tokenAt tokenLong token value told bytes anew values) → va_S A s.heap H locs → lv_has ls 3 [(0, .ref a_m), (1, .int v1)] → K_105 v1 tokenAt tokenLong token value told anew values → W p l e rm_X10_read s m ar bl meth c H locs 0 0 (MQ bl (qq_X10_read D a_m a_m_told a_m_kept a_m_isKept a_m_refused a_m_months a_m_heirs a_m_lasts a_m_cares a_m_bestCares a_m_ones a_m_others a_m_bytes a_m_anew a_m_values cI cB cZ cP cC above below retired manyLine bytesLong bytes Post A) ar s 0 0 A) (F0 m 105 ls []))
    (hK_87 : ∀ (tokenAt : Int32) (tokenLong : Int32) (token : Int32) (value : Int32) (told : Nat → Int32) (anew : Nat → Int32) (values : Nat → Int32) (H : Heap) (locs : List Loc) (ls : Array Slot), va_P D vwCl (ww_X10_read a_m a_m_told a_m_kept a_m_isKept a_m_refused a_m_months a_m_heirs a_m_lasts a_m_cares a_m_bestCares a_m_ones a_m_others a_m_bytes a_m_anew a_m_values cI cB cZ cP cC above below retired manyLine bytesLong tokenAt tokenLong token value told bytes anew values) H → va_D A (ww_X10_read a_m a_m_told a_m_kept a_m_isKept a_m_refused a_m_months a_m_heirs a_m_lasts a_m_cares a_m_bestCares a_m_ones a_m_others a_m_bytes a_m_anew a_m_values cI cB cZ cP cC above below retired manyLine bytesLong tokenAt tokenLong token value told bytes anew values) → va_S A s.heap H locs → lv_has ls 3 [(0, .ref a_m)] → K_87 tokenAt tokenLong token value told anew values → W p l e rm_X10_read s m ar bl meth c H locs 0 0 (MQ bl (qq_X10_read D a_m a_m_told a_m_kept a_m_isKept a_m_refused a_m_months a_m_heirs a_m_lasts a_m_cares a_m_bestCares a_m_ones a_m_others a_m_bytes a_m_anew a_m_values cI cB cZ cP cC above below retired manyLine bytesLong bytes Post A) ar s 0 0 A) (F0 m 87 ls [])) :
    ∀ (n : Nat) (v1 : Int32) (tokenAt : Int32) (tokenLong : Int32) (token : Int32) (value : Int32) (told : Nat → Int32) (anew : Nat → Int32) (values : Nat → Int32) (H : Heap) (locs : List Loc) (ls : Array Slot), va_P D vwCl (ww_X10_read a_m a_m_told a_m_kept a_m_isKept a_m_refused a_m_months a_m_heirs a_m_lasts a_m_cares a_m_bestCares a_m_ones a_m_others a_m_bytes a_m_anew a_m_values cI cB cZ cP cC above below retired manyLine bytesLong tokenAt tokenLong token value told bytes anew values) H → va_D A (ww_X10_read a_m a_m_told a_m_kept a_m_isKept a_m_refused a_m_months a_m_heirs a_m_lasts a_m_cares a_m_bestCares a_m_ones a_m_others a_m_bytes a_m_anew a_m_values cI cB cZ cP cC above below retired manyLine bytesLong tokenAt tokenLong token value told bytes anew values) → va_S A s.heap H locs → lv_has ls 3 [(0, .ref a_m), (1, .int v1)] → wp_X10_read_L65 bytesLong bytes Post K_105 K_87 n v1 tokenAt tokenLong token value told anew values → W p l e rm_X10_read s m ar bl meth c H locs 0 0 (MQ bl (qq_X10_read D a_m a_m_told a_m_kept a_m_isKept a_m_refused a_m_months a_m_heirs a_m_lasts a_m_cares a_m_bestCares a_m_ones a_m_others a_m_bytes a_m_anew a_m_values cI cB cZ cP cC above below retired manyLine bytesLong bytes Post A) ar s 0 0 A) (F0 m 65 ls []) := by
  obtain ⟨hx, hb, hr, hlocks, hml, hown, hts, hK, hA⟩ := id C0
  intro n
  induction n with
  | zero =>
    intro v1 tokenAt tokenLong token value told anew values H locs ls hP hD hS hl hw
    exact absurd hw (fun h => h)
  | succ n ih =>
    intro v1 tokenAt tokenLong token value told anew values H locs ls hP hD hS hl hw
    refine lv_aload_n hx hb dX10_read_65 rfl (lv_at hl 0 rfl) ?_
    refine mx_get (ci := 10) (C := RX10) (T := TX10) (N := 23) hx hb hown in_wsX100 hts hK hP 0 rfl rfl 19 (by decide) q_338 rfl (v := .int token) rfl dX10_read_66 ?_
    refine lv_if_eq (tgt := 105) hx hb dX10_read_69 (by decide) (fun c_17 => ?_) (fun c_17 => ?_)
    · replace hw := hw.1 c_17
      exact hK_105 v1 tokenAt tokenLong token value told anew values _ _ _ hP hD hS (lv_sub hl [0, 1] rfl) hw
    · replace hw := hw.2 c_17
      refine lv_aload_n hx hb dX10_read_72 rfl (lv_at hl 0 rfl) ?_
      refine mx_ki (mx_rV (rm := rm_X10_takesItem) (rest := []) (C := RX10) hx hb hml hown hts (c_X10_takesItem l D cI cB cZ cP cC a_m a_m_told a_m_kept a_m_isKept a_m_refused a_m_months a_m_heirs a_m_lasts a_m_cares a_m_bestCares a_m_ones a_m_others a_m_bytes a_m_anew a_m_values above below retired manyLine bytesLong tokenAt tokenLong token value bytes anew values _ _ hw) q_363 q_364 q_365 q_5 q_366 hd_X10_takesItem ⟨(Nat.le_of_ble_eq_true rfl), (Nat.le_of_ble_eq_true rfl)⟩ rfl rfl hK hP hD [0, 2, 3, 4] rfl rfl 10 0 rfl rfl rfl rfl hl.1 rfl (Nat.le_of_ble_eq_true rfl) dX10_read_73 ⟨(Nat.le_of_ble_eq_true rfl), (Nat.le_of_ble_eq_true rfl)⟩) hP hD hS hA [0, 2, 3, 4] [1] [1, 0, 2, 3, 4] (fun u => ww_X10_read a_m a_m_told a_m_kept a_m_isKept a_m_refused a_m_months a_m_heirs a_m_lasts a_m_cares a_m_bestCares a_m_ones a_m_others a_m_bytes a_m_anew a_m_values cI cB cZ cP cC above below retired manyLine bytesLong (u.1) (u.2.1) (u.2.2.1) (u.2.2.2.1) told bytes (u.2.2.2.2.1) (u.2.2.2.2.2)) rfl rfl rfl (by decide) rfl (fun _ => rfl) (fun r_18 u H locs hw hP hD hS => ?_)
      obtain ⟨tokenAt_19, tokenLong_20, token_21, value_22, anew_23, values_24⟩ := u
      try dsimp only at hw
      replace hP : va_P D vwCl (ww_X10_read a_m a_m_told a_m_kept a_m_isKept a_m_refused a_m_months a_m_heirs a_m_lasts a_m_cares a_m_bestCares a_m_ones a_m_others a_m_bytes a_m_anew a_m_values cI cB cZ cP cC above below retired manyLine bytesLong tokenAt_19 tokenLong_20 token_21 value_22 told bytes anew_23 values_24) H := hP
      replace hD : va_D A (ww_X10_read a_m a_m_told a_m_kept a_m_isKept a_m_refused a_m_months a_m_heirs a_m_lasts a_m_cares a_m_bestCares a_m_ones a_m_others a_m_bytes a_m_anew a_m_values cI cB cZ cP cC above below retired manyLine bytesLong tokenAt_19 tokenLong_20 token_21 value_22 told bytes anew_23 values_24) := hD
      refine lv_if_eq (tgt := 87) hx hb dX10_read_76 (by decide) (fun c_25 => ?_) (fun c_25 => ?_)
      · replace hw := hw.1 c_25
        exact hK_87 tokenAt_19 tokenLong_20 token_21 value_22 told anew_23 values_24 _ _ _ hP hD hS (lv_sub hl [0] rfl) hw
      · replace hw := hw.2 c_25
        refine lv_aload_n hx hb dX10_read_79 rfl (lv_at hl 0 rfl) ?_
        refine mx_get (ci := 10) (C := RX10) (T := TX10) (N := 23) hx hb hown in_wsX100 hts hK hP 0 rfl rfl 19 (by decide) q_338 rfl (v := .int token_21) rfl dX10_read_80 ?_
        refine lv_iconst (v := 3) hx hb dX10_read_83 (by decide) ?_
        refine lv_icmp_eq (tgt := 95) hx hb dX10_read_84 (by decide) (fun c_26 => ?_) (fun c_26 => ?_)
        · replace hw := hw.1 c_26
          refine lv_aload_n hx hb dX10_read_95 rfl (lv_at hl 0 rfl) ?_
          refine mx_kv (mx_rV (rm := rm_X10_goBehind) (rest := []) (C := RX10) hx hb hml hown hts (c_X10_goBehind l D cI cB cZ cP cC a_m a_m_told a_m_kept a_m_isKept a_m_refused a_m_months a_m_heirs a_m_lasts a_m_cares a_m_bestCares a_m_ones a_m_others a_m_bytes a_m_anew a_m_values above below retired manyLine bytesLong tokenAt_19 tokenLong_20 token_21 value_22 bytes _ _ hw) q_359 q_360 q_361 q_5 q_362 hd_X10_goBehind ⟨(Nat.le_of_ble_eq_true rfl), (Nat.le_of_ble_eq_true rfl)⟩ rfl rfl hK hP hD [0, 2] rfl rfl 10 0 rfl rfl rfl rfl hl.1 rfl (Nat.le_of_ble_eq_true rfl) dX10_read_96 ⟨(Nat.le_of_ble_eq_true rfl), (Nat.le_of_ble_eq_true rfl)⟩) hP hD hS hA [0, 2] [1, 3, 4] [3, 0, 4, 1, 2] (fun u => ww_X10_read a_m a_m_told a_m_kept a_m_isKept a_m_refused a_m_months a_m_heirs a_m_lasts a_m_cares a_m_bestCares a_m_ones a_m_others a_m_bytes a_m_anew a_m_values cI cB cZ cP cC above below retired manyLine bytesLong (u.1) (u.2.1) (u.2.2.1) (u.2.2.2) told bytes anew_23 values_24) rfl rfl rfl (by decide) rfl (fun _ => rfl) (fun u H locs hw hP hD hS => ?_)
          obtain ⟨tokenAt_27, tokenLong_28, token_29, value_30⟩ := u
          try dsimp only at hw
          replace hP : va_P D vwCl (ww_X10_read a_m a_m_told a_m_kept a_m_isKept a_m_refused a_m_months a_m_heirs a_m_lasts a_m_cares a_m_bestCares a_m_ones a_m_others a_m_bytes a_m_anew a_m_values cI cB cZ cP cC above below retired manyLine bytesLong tokenAt_27 tokenLong_28 token_29 value_30 told bytes anew_23 values_24) H := hP
          replace hD : va_D A (ww_X10_read a_m a_m_told a_m_kept a_m_isKept a_m_refused a_m_months a_m_heirs a_m_lasts a_m_cares a_m_bestCares a_m_ones a_m_others a_m_bytes a_m_anew a_m_values cI cB cZ cP cC above below retired manyLine bytesLong tokenAt_27 tokenLong_28 token_29 value_30 told bytes anew_23 values_24) := hD
          obtain ⟨x_31, ex_31⟩ : ∃ y : Int32, y = v1 + 1 := ⟨_, rfl⟩
          replace hw := hw x_31 ex_31
          refine lv_iinc (v := x_31) (lv' := [(1, .int x_31), (0, .ref a_m)]) hx hb dX10_read_99 hl (k := 1) rfl (by rw [ex_31]; rfl) (by decide) rfl (fun ls hl => ?_)
          refine lv_goto (tgt := 65) hx hb dX10_read_102 (by decide) ?_
          exact ih x_31 tokenAt_27 tokenLong_28 token_29 value_30 told anew_23 values_24 _ _ _ hP hD hS (lv_sub hl [1, 0] rfl) hw
        · replace hw := hw.2 c_26
          exact hK_87 tokenAt_19 tokenLong_20 token_21 value_22 told anew_23 values_24 _ _ _ hP hD hS (lv_sub hl [0] rfl) hw
def wp_X10_read_L107 (bytesLong : Int32) (bytes : Nat → Int32) (Post : Int32 → Int32 → Int32 → Int32 → Int32 → (Nat → Int32) → (Nat → Int32) → (Nat → Int32) → Prop)  : Nat → Int32 → Int32 → Int32 → Int32 → Int32 → Int32 → (Nat → Int32) → (Nat → Int32) → (Nat → Int32) → Prop
  | 0, _, _, _, _, _, _, _, _, _ => False
  | n + 1, v1, v2, tokenAt, tokenLong, token, value, told, anew, values => ((78 ≤ v2 → Post v1 tokenAt tokenLong token value told anew values) ∧ (¬ 78 ≤ v2 → (vp_in v2 78 ∧ (∀ x_42 : Int32, x_42 = anew v2.toNatClampNeg → (vp_in v2 190 ∧ (∀ f_44 : Nat → Int32, f_44 = upd told v2.toNatClampNeg x_42 → (∀ x_45 : Int32, x_45 = v2 + 1 → wp_X10_read_L107 bytesLong bytes Post  n v1 x_45 tokenAt tokenLong token value f_44 anew values)))))))
set_option maxHeartbeats 4000000 in
set_option maxRecDepth 100000 in
theorem k_X10_read_L107 {p : Program} {l : Launch} {e : Env} {s : State} {m : MethodId} {ar : Array Value} {bl : List Frame} {meth : Method} {c : Code} {D : va_G} {A : Nat → Prop} {cI cB cZ cP cC : ClassId} {a_m a_m_told a_m_kept a_m_isKept a_m_refused a_m_months a_m_heirs a_m_lasts a_m_cares a_m_bestCares a_m_ones a_m_others a_m_bytes a_m_anew a_m_values : Nat} {above : Int64} {below : Int64} {retired : Int32} {manyLine : Int32} {bytesLong : Int32} {bytes : Nat → Int32} {Post : Int32 → Int32 → Int32 → Int32 → Int32 → (Nat → Int32) → (Nat → Int32) → (Nat → Int32) → Prop} (C0 : mxC p s m ar meth c cX10_read RX10 (some .int) 3 D (mxTy cI cB cZ cP cC) A) :
    ∀ (n : Nat) (v1 : Int32) (v2 : Int32) (tokenAt : Int32) (tokenLong : Int32) (token : Int32) (value : Int32) (told : Nat → Int32) (anew : Nat → Int32) (values : Nat → Int32) (H : Heap) (locs : List Loc) (ls : Array Slot), va_P D vwCl (ww_X10_read a_m a_m_told a_m_kept a_m_isKept a_m_refused a_m_months a_m_heirs a_m_lasts a_m_cares a_m_bestCares a_m_ones a_m_others a_m_bytes a_m_anew a_m_values cI cB cZ cP cC above below retired manyLine bytesLong tokenAt tokenLong token value told bytes anew values) H → va_D A (ww_X10_read a_m a_m_told a_m_kept a_m_isKept a_m_refused a_m_months a_m_heirs a_m_lasts a_m_cares a_m_bestCares a_m_ones a_m_others a_m_bytes a_m_anew a_m_values cI cB cZ cP cC above below retired manyLine bytesLong tokenAt tokenLong token value told bytes anew values) → va_S A s.heap H locs → lv_has ls 3 [(0, .ref a_m), (1, .int v1), (2, .int v2)] → wp_X10_read_L107 bytesLong bytes Post  n v1 v2 tokenAt tokenLong token value told anew values → W p l e rm_X10_read s m ar bl meth c H locs 0 0 (MQ bl (qq_X10_read D a_m a_m_told a_m_kept a_m_isKept a_m_refused a_m_months a_m_heirs a_m_lasts a_m_cares a_m_bestCares a_m_ones a_m_others a_m_bytes a_m_anew a_m_values cI cB cZ cP cC above below retired manyLine bytesLong bytes Post A) ar s 0 0 A) (F0 m 107 ls []) := by
  obtain ⟨hx, hb, hr, hlocks, hml, hown, hts, hK, hA⟩ := id C0
  intro n
  induction n with
  | zero =>
    intro v1 v2 tokenAt tokenLong token value told anew values H locs ls hP hD hS hl hw
    exact absurd hw (fun h => h)
  | succ n ih =>
    intro v1 v2 tokenAt tokenLong token value told anew values H locs ls hP hD hS hl hw
    refine lv_iload_n hx hb dX10_read_107 rfl (lv_at hl 2 rfl) ?_
    refine lv_bipush (v := 78) hx hb dX10_read_108 (by decide) ?_
    refine lv_icmp_ge (tgt := 131) hx hb dX10_read_110 (by decide) (fun c_40 => ?_) (fun c_40 => ?_)
    · replace hw := hw.1 c_40
      refine lv_iload_n hx hb dX10_read_131 rfl (lv_at hl 1 rfl) ?_
      exact mx_iret (tokenAt, tokenLong, token, value, told, anew, values) hx hb hr hlocks rfl hw hK hP hD hS dX10_read_132
    · replace hw := hw.2 c_40
      refine lv_aload_n hx hb dX10_read_113 rfl (lv_at hl 0 rfl) ?_
      refine mx_get (ci := 10) (C := RX10) (T := TX10) (N := 23) hx hb hown in_wsX100 hts hK hP 0 rfl rfl 0 (by decide) q_91 rfl (v := .ref a_m_told) rfl dX10_read_114 ?_
      refine lv_iload_n hx hb dX10_read_117 rfl (lv_at hl 2 rfl) ?_
      refine lv_aload_n hx hb dX10_read_118 rfl (lv_at hl 0 rfl) ?_
      refine mx_get (ci := 10) (C := RX10) (T := TX10) (N := 23) hx hb hown in_wsX100 hts hK hP 0 rfl rfl 21 (by decide) q_104 rfl (v := .ref a_m_anew) rfl dX10_read_119 ?_
      refine lv_iload_n hx hb dX10_read_122 rfl (lv_at hl 2 rfl) ?_
      obtain ⟨h_41, hw⟩ := hw
      refine mx_iald hx hb hK hP 3 0 rfl rfl h_41 (anew v2.toNatClampNeg) rfl dX10_read_123 ?_
      refine lv_topi (fun x_42 ex_42 => ?_)
      replace hw := hw x_42 ex_42
      obtain ⟨h_43, hw⟩ := hw
      obtain ⟨f_44, ef_44⟩ : ∃ y : Nat → Int32, y = upd told v2.toNatClampNeg x_42 := ⟨_, rfl⟩
      replace hw := hw f_44 ef_44
      refine mx_iast hx hb hK hP hD hS 1 0 rfl rfl h_43 f_44 ef_44 (ww_X10_read a_m a_m_told a_m_kept a_m_isKept a_m_refused a_m_months a_m_heirs a_m_lasts a_m_cares a_m_bestCares a_m_ones a_m_others a_m_bytes a_m_anew a_m_values cI cB cZ cP cC above below retired manyLine bytesLong tokenAt tokenLong token value f_44 bytes anew values) rfl dX10_read_124 (fun H locs hP hD hS => ?_)
      obtain ⟨x_45, ex_45⟩ : ∃ y : Int32, y = v2 + 1 := ⟨_, rfl⟩
      replace hw := hw x_45 ex_45
      refine lv_iinc (v := x_45) (lv' := [(2, .int x_45), (0, .ref a_m), (1, .int v1)]) hx hb dX10_read_125 hl (k := 2) rfl (by rw [ex_45]; rfl) (by decide) rfl (fun ls hl => ?_)
      refine lv_goto (tgt := 107) hx hb dX10_read_128 (by decide) ?_
      exact ih v1 x_45 tokenAt tokenLong token value f_44 anew values _ _ _ hP hD hS (lv_sub hl [1, 2, 0] rfl) hw
def wp_X10_read_J87 (bytesLong : Int32) (bytes : Nat → Int32) (Post : Int32 → Int32 → Int32 → Int32 → Int32 → (Nat → Int32) → (Nat → Int32) → (Nat → Int32) → Prop)  (tokenAt : Int32) (tokenLong : Int32) (token : Int32) (value : Int32) (told : Nat → Int32) (anew : Nat → Int32) (values : Nat → Int32) : Prop :=
  Post ((-10) - tokenAt) tokenAt tokenLong token value told anew values
set_option maxHeartbeats 4000000 in
set_option maxRecDepth 100000 in
theorem k_X10_read_J87 {p : Program} {l : Launch} {e : Env} {s : State} {m : MethodId} {ar : Array Value} {bl : List Frame} {meth : Method} {c : Code} {D : va_G} {A : Nat → Prop} {cI cB cZ cP cC : ClassId} {a_m a_m_told a_m_kept a_m_isKept a_m_refused a_m_months a_m_heirs a_m_lasts a_m_cares a_m_bestCares a_m_ones a_m_others a_m_bytes a_m_anew a_m_values : Nat} {above : Int64} {below : Int64} {retired : Int32} {manyLine : Int32} {bytesLong : Int32} {bytes : Nat → Int32} {Post : Int32 → Int32 → Int32 → Int32 → Int32 → (Nat → Int32) → (Nat → Int32) → (Nat → Int32) → Prop} (C0 : mxC p s m ar meth c cX10_read RX10 (some .int) 3 D (mxTy cI cB cZ cP cC) A) :
    ∀ (tokenAt : Int32) (tokenLong : Int32) (token : Int32) (value : Int32) (told : Nat → Int32) (anew : Nat → Int32) (values : Nat → Int32) (H : Heap) (locs : List Loc) (ls : Array Slot), va_P D vwCl (ww_X10_read a_m a_m_told a_m_kept a_m_isKept a_m_refused a_m_months a_m_heirs a_m_lasts a_m_cares a_m_bestCares a_m_ones a_m_others a_m_bytes a_m_anew a_m_values cI cB cZ cP cC above below retired manyLine bytesLong tokenAt tokenLong token value told bytes anew values) H → va_D A (ww_X10_read a_m a_m_told a_m_kept a_m_isKept a_m_refused a_m_months a_m_heirs a_m_lasts a_m_cares a_m_bestCares a_m_ones a_m_others a_m_bytes a_m_anew a_m_values cI cB cZ cP cC above below retired manyLine bytesLong tokenAt tokenLong token value told bytes anew values) → va_S A s.heap H locs → lv_has ls 3 [(0, .ref a_m)] → wp_X10_read_J87 bytesLong bytes Post  tokenAt tokenLong token value told anew values → W p l e rm_X10_read s m ar bl meth c H locs 0 0 (MQ bl (qq_X10_read D a_m a_m_told a_m_kept a_m_isKept a_m_refused a_m_months a_m_heirs a_m_lasts a_m_cares a_m_bestCares a_m_ones a_m_others a_m_bytes a_m_anew a_m_values cI cB cZ cP cC above below retired manyLine bytesLong bytes Post A) ar s 0 0 A) (F0 m 87 ls []) := by
  obtain ⟨hx, hb, hr, hlocks, hml, hown, hts, hK, hA⟩ := id C0
  intro tokenAt tokenLong token value told anew values H locs ls hP hD hS hl hw
  refine lv_bipush (v := (-10)) hx hb dX10_read_87 (by decide) ?_
  refine lv_aload_n hx hb dX10_read_89 rfl (lv_at hl 0 rfl) ?_
  refine mx_get (ci := 10) (C := RX10) (T := TX10) (N := 23) hx hb hown in_wsX100 hts hK hP 0 rfl rfl 17 (by decide) q_337 rfl (v := .int tokenAt) rfl dX10_read_90 ?_
  refine lv_isub hx hb dX10_read_93 ?_
  exact mx_iret (tokenAt, tokenLong, token, value, told, anew, values) hx hb hr hlocks rfl hw hK hP hD hS dX10_read_94
def wp_X10_read (bytesLong : Int32) (bytes : Nat → Int32) (tokenAt : Int32) (tokenLong : Int32) (token : Int32) (value : Int32) (told : Nat → Int32) (anew : Nat → Int32) (values : Nat → Int32) (Post : Int32 → Int32 → Int32 → Int32 → Int32 → (Nat → Int32) → (Nat → Int32) → (Nat → Int32) → Prop) : Prop :=
  (wp_X10_lookAt bytesLong bytes tokenAt tokenLong token value 0 (fun tokenAt_1 tokenLong_2 token_3 value_4 => (wp_X10_spells tokenAt_1 tokenLong_2 token_3 bytes 5 99 111 117 114 116 0 (fun r_5 => ((r_5 = 0 → Post ((-10) - tokenAt_1) tokenAt_1 tokenLong_2 token_3 value_4 told anew values) ∧ (¬ r_5 = 0 → (wp_X10_goBehind bytesLong bytes tokenAt_1 tokenLong_2 token_3 value_4 (fun tokenAt_7 tokenLong_8 token_9 value_10 => ((token_9 = 3 → (wp_X10_goBehind bytesLong bytes tokenAt_7 tokenLong_8 token_9 value_10 (fun tokenAt_12 tokenLong_13 token_14 value_15 => (wp_X10_begin 78 anew (fun anew_16 => (∃ k_54 : Nat, wp_X10_read_L65 bytesLong bytes Post (fun (v1_32 : Int32) (tokenAt_33 : Int32) (tokenLong_34 : Int32) (token_35 : Int32) (value_36 : Int32) (told_37 : Nat → Int32) (anew_38 : Nat → Int32) (values_39 : Nat → Int32) => (∃ k_46 : Nat, wp_X10_read_L107 bytesLong bytes Post k_46 v1_32 0 tokenAt_33 tokenLong_34 token_35 value_36 told_37 anew_38 values_39)) (fun (tokenAt_47 : Int32) (tokenLong_48 : Int32) (token_49 : Int32) (value_50 : Int32) (told_51 : Nat → Int32) (anew_52 : Nat → Int32) (values_53 : Nat → Int32) => (wp_X10_read_J87 bytesLong bytes Post tokenAt_47 tokenLong_48 token_49 value_50 told_51 anew_52 values_53)) k_54 1 tokenAt_12 tokenLong_13 token_14 value_15 told anew_16 values)))))) ∧ (¬ token_9 = 3 → Post ((-10) - tokenAt_7) tokenAt_7 tokenLong_8 token_9 value_10 told anew values))))))))))
set_option maxHeartbeats 4000000 in
set_option maxRecDepth 100000 in
theorem c_X10_read (l : Launch) (D : va_G) (cI cB cZ cP cC : ClassId) (a_m a_m_told a_m_kept a_m_isKept a_m_refused a_m_months a_m_heirs a_m_lasts a_m_cares a_m_bestCares a_m_ones a_m_others a_m_bytes a_m_anew a_m_values : Nat) (above : Int64) (below : Int64) (retired : Int32) (manyLine : Int32) (bytesLong : Int32) (tokenAt : Int32) (tokenLong : Int32) (token : Int32) (value : Int32) (told : Nat → Int32) (bytes : Nat → Int32) (anew : Nat → Int32) (values : Nat → Int32)  (sz : Nat) (Post : Int32 → Int32 → Int32 → Int32 → Int32 → (Nat → Int32) → (Nat → Int32) → (Nat → Int32) → Prop) (hw : wp_X10_read bytesLong bytes tokenAt tokenLong token value told anew values Post) :
    Met l yX10_read (Cond.code yX10_read cX10_read 3 (some .int) :: wsAll) rm_X10_read (va_Pc [.ref a_m] (mxP D (mxTy cI cB cZ cP cC) sz (ww_X10_read a_m a_m_told a_m_kept a_m_isKept a_m_refused a_m_months a_m_heirs a_m_lasts a_m_cares a_m_bestCares a_m_ones a_m_others a_m_bytes a_m_anew a_m_values cI cB cZ cP cC above below retired manyLine bytesLong tokenAt tokenLong token value told bytes anew values))) (qq_X10_read D a_m a_m_told a_m_kept a_m_isKept a_m_refused a_m_months a_m_heirs a_m_lasts a_m_cares a_m_bestCares a_m_ones a_m_others a_m_bytes a_m_anew a_m_values cI cB cZ cP cC above below retired manyLine bytesLong bytes Post (va_A (ww_X10_read a_m a_m_told a_m_kept a_m_isKept a_m_refused a_m_months a_m_heirs a_m_lasts a_m_cares a_m_bestCares a_m_ones a_m_others a_m_bytes a_m_anew a_m_values cI cB cZ cP cC above below retired manyLine bytesLong tokenAt tokenLong token value told bytes anew values) sz)) 0 0 (va_A (ww_X10_read a_m a_m_told a_m_kept a_m_isKept a_m_refused a_m_months a_m_heirs a_m_lasts a_m_cares a_m_bestCares a_m_ones a_m_others a_m_bytes a_m_anew a_m_values cI cB cZ cP cC above below retired manyLine bytesLong tokenAt tokenLong token value told bytes anew values) sz) := by
  refine mx_of (Qc := qq_X10_read D a_m a_m_told a_m_kept a_m_isKept a_m_refused a_m_months a_m_heirs a_m_lasts a_m_cares a_m_bestCares a_m_ones a_m_others a_m_bytes a_m_anew a_m_values cI cB cZ cP cC above below retired manyLine bytesLong bytes Post) (by decide) (Nat.le_of_ble_eq_true rfl) ?_
  intro p e s m bl meth c A ls C0 hP hD hS hl
  replace C0 : mxC p s m [.ref a_m].toArray meth c cX10_read RX10 (some .int) 3 D (mxTy cI cB cZ cP cC) A := C0
  obtain ⟨hx, hb, hr, hlocks, hml, hown, hts, hK, hA⟩ := id C0
  replace hl : lv_has ls 3 [(0, .ref a_m)] := hl
  unfold wp_X10_read at hw
  refine lv_aload_n hx hb dX10_read_0 rfl (lv_at hl 0 rfl) ?_
  refine lv_iconst (v := 0) hx hb dX10_read_1 (by decide) ?_
  refine mx_kv (mx_rV (rm := rm_X10_lookAt) (rest := []) (C := RX10) hx hb hml hown hts (c_X10_lookAt l D cI cB cZ cP cC a_m a_m_told a_m_kept a_m_isKept a_m_refused a_m_months a_m_heirs a_m_lasts a_m_cares a_m_bestCares a_m_ones a_m_others a_m_bytes a_m_anew a_m_values above below retired manyLine bytesLong tokenAt tokenLong token value bytes 0 _ _ hw) q_339 q_340 q_341 q_5 q_342 hd_X10_lookAt ⟨(Nat.le_of_ble_eq_true rfl), (Nat.le_of_ble_eq_true rfl)⟩ rfl rfl hK hP hD [0, 2] rfl rfl 10 0 rfl rfl rfl rfl hl.1 rfl (Nat.le_of_ble_eq_true rfl) dX10_read_2 ⟨(Nat.le_of_ble_eq_true rfl), (Nat.le_of_ble_eq_true rfl)⟩) hP hD hS hA [0, 2] [1, 3, 4] [3, 0, 4, 1, 2] (fun u => ww_X10_read a_m a_m_told a_m_kept a_m_isKept a_m_refused a_m_months a_m_heirs a_m_lasts a_m_cares a_m_bestCares a_m_ones a_m_others a_m_bytes a_m_anew a_m_values cI cB cZ cP cC above below retired manyLine bytesLong (u.1) (u.2.1) (u.2.2.1) (u.2.2.2) told bytes anew values) rfl rfl rfl (by decide) rfl (fun _ => rfl) (fun u H locs hw hP hD hS => ?_)
  obtain ⟨tokenAt_1, tokenLong_2, token_3, value_4⟩ := u
  try dsimp only at hw
  replace hP : va_P D vwCl (ww_X10_read a_m a_m_told a_m_kept a_m_isKept a_m_refused a_m_months a_m_heirs a_m_lasts a_m_cares a_m_bestCares a_m_ones a_m_others a_m_bytes a_m_anew a_m_values cI cB cZ cP cC above below retired manyLine bytesLong tokenAt_1 tokenLong_2 token_3 value_4 told bytes anew values) H := hP
  replace hD : va_D A (ww_X10_read a_m a_m_told a_m_kept a_m_isKept a_m_refused a_m_months a_m_heirs a_m_lasts a_m_cares a_m_bestCares a_m_ones a_m_others a_m_bytes a_m_anew a_m_values cI cB cZ cP cC above below retired manyLine bytesLong tokenAt_1 tokenLong_2 token_3 value_4 told bytes anew values) := hD
  refine lv_aload_n hx hb dX10_read_5 rfl (lv_at hl 0 rfl) ?_
  refine lv_iconst (v := 5) hx hb dX10_read_6 (by decide) ?_
  refine lv_bipush (v := 99) hx hb dX10_read_7 (by decide) ?_
  refine lv_bipush (v := 111) hx hb dX10_read_9 (by decide) ?_
  refine lv_bipush (v := 117) hx hb dX10_read_11 (by decide) ?_
  refine lv_bipush (v := 114) hx hb dX10_read_13 (by decide) ?_
  refine lv_bipush (v := 116) hx hb dX10_read_15 (by decide) ?_
  refine lv_iconst (v := 0) hx hb dX10_read_17 (by decide) ?_
  refine mx_ki (mx_rV (rm := rm_X10_spells) (rest := []) (C := RX10) hx hb hml hown hts (c_X10_spells l D cI cB cZ cP cC a_m a_m_told a_m_kept a_m_isKept a_m_refused a_m_months a_m_heirs a_m_lasts a_m_cares a_m_bestCares a_m_ones a_m_others a_m_bytes a_m_anew a_m_values above below retired manyLine bytesLong tokenAt_1 tokenLong_2 token_3 value_4 bytes 5 99 111 117 114 116 0 _ _ hw) q_355 q_356 q_357 q_5 q_358 hd_X10_spells ⟨(Nat.le_of_ble_eq_true rfl), (Nat.le_of_ble_eq_true rfl)⟩ rfl rfl hK hP hD [0, 2] rfl rfl 10 0 rfl rfl rfl rfl hl.1 rfl (Nat.le_of_ble_eq_true rfl) dX10_read_18 ⟨(Nat.le_of_ble_eq_true rfl), (Nat.le_of_ble_eq_true rfl)⟩) hP hD hS hA [0, 2] [1, 3, 4] [3, 0, 4, 1, 2] (fun _ => ww_X10_read a_m a_m_told a_m_kept a_m_isKept a_m_refused a_m_months a_m_heirs a_m_lasts a_m_cares a_m_bestCares a_m_ones a_m_others a_m_bytes a_m_anew a_m_values cI cB cZ cP cC above below retired manyLine bytesLong tokenAt_1 tokenLong_2 token_3 value_4 told bytes anew values) rfl rfl rfl (by decide) rfl (fun _ => rfl) (fun r_5 u H locs hw hP hD hS => ?_)
  try dsimp only at hw
  replace hP : va_P D vwCl (ww_X10_read a_m a_m_told a_m_kept a_m_isKept a_m_refused a_m_months a_m_heirs a_m_lasts a_m_cares a_m_bestCares a_m_ones a_m_others a_m_bytes a_m_anew a_m_values cI cB cZ cP cC above below retired manyLine bytesLong tokenAt_1 tokenLong_2 token_3 value_4 told bytes anew values) H := hP
  replace hD : va_D A (ww_X10_read a_m a_m_told a_m_kept a_m_isKept a_m_refused a_m_months a_m_heirs a_m_lasts a_m_cares a_m_bestCares a_m_ones a_m_others a_m_bytes a_m_anew a_m_values cI cB cZ cP cC above below retired manyLine bytesLong tokenAt_1 tokenLong_2 token_3 value_4 told bytes anew values) := hD
  refine lv_if_ne (tgt := 32) hx hb dX10_read_21 (by decide) (fun c_6 => ?_) (fun c_6 => ?_)
  · replace hw := hw.2 c_6
    refine lv_aload_n hx hb dX10_read_32 rfl (lv_at hl 0 rfl) ?_
    refine mx_kv (mx_rV (rm := rm_X10_goBehind) (rest := []) (C := RX10) hx hb hml hown hts (c_X10_goBehind l D cI cB cZ cP cC a_m a_m_told a_m_kept a_m_isKept a_m_refused a_m_months a_m_heirs a_m_lasts a_m_cares a_m_bestCares a_m_ones a_m_others a_m_bytes a_m_anew a_m_values above below retired manyLine bytesLong tokenAt_1 tokenLong_2 token_3 value_4 bytes _ _ hw) q_359 q_360 q_361 q_5 q_362 hd_X10_goBehind ⟨(Nat.le_of_ble_eq_true rfl), (Nat.le_of_ble_eq_true rfl)⟩ rfl rfl hK hP hD [0, 2] rfl rfl 10 0 rfl rfl rfl rfl hl.1 rfl (Nat.le_of_ble_eq_true rfl) dX10_read_33 ⟨(Nat.le_of_ble_eq_true rfl), (Nat.le_of_ble_eq_true rfl)⟩) hP hD hS hA [0, 2] [1, 3, 4] [3, 0, 4, 1, 2] (fun u => ww_X10_read a_m a_m_told a_m_kept a_m_isKept a_m_refused a_m_months a_m_heirs a_m_lasts a_m_cares a_m_bestCares a_m_ones a_m_others a_m_bytes a_m_anew a_m_values cI cB cZ cP cC above below retired manyLine bytesLong (u.1) (u.2.1) (u.2.2.1) (u.2.2.2) told bytes anew values) rfl rfl rfl (by decide) rfl (fun _ => rfl) (fun u H locs hw hP hD hS => ?_)
    obtain ⟨tokenAt_7, tokenLong_8, token_9, value_10⟩ := u
    try dsimp only at hw
    replace hP : va_P D vwCl (ww_X10_read a_m a_m_told a_m_kept a_m_isKept a_m_refused a_m_months a_m_heirs a_m_lasts a_m_cares a_m_bestCares a_m_ones a_m_others a_m_bytes a_m_anew a_m_values cI cB cZ cP cC above below retired manyLine bytesLong tokenAt_7 tokenLong_8 token_9 value_10 told bytes anew values) H := hP
    replace hD : va_D A (ww_X10_read a_m a_m_told a_m_kept a_m_isKept a_m_refused a_m_months a_m_heirs a_m_lasts a_m_cares a_m_bestCares a_m_ones a_m_others a_m_bytes a_m_anew a_m_values cI cB cZ cP cC above below retired manyLine bytesLong tokenAt_7 tokenLong_8 token_9 value_10 told bytes anew values) := hD
    refine lv_aload_n hx hb dX10_read_36 rfl (lv_at hl 0 rfl) ?_
    refine mx_get (ci := 10) (C := RX10) (T := TX10) (N := 23) hx hb hown in_wsX100 hts hK hP 0 rfl rfl 19 (by decide) q_338 rfl (v := .int token_9) rfl dX10_read_37 ?_
    refine lv_iconst (v := 3) hx hb dX10_read_40 (by decide) ?_
    refine lv_icmp_eq (tgt := 52) hx hb dX10_read_41 (by decide) (fun c_11 => ?_) (fun c_11 => ?_)
    · replace hw := hw.1 c_11
      refine lv_aload_n hx hb dX10_read_52 rfl (lv_at hl 0 rfl) ?_
      refine mx_kv (mx_rV (rm := rm_X10_goBehind) (rest := []) (C := RX10) hx hb hml hown hts (c_X10_goBehind l D cI cB cZ cP cC a_m a_m_told a_m_kept a_m_isKept a_m_refused a_m_months a_m_heirs a_m_lasts a_m_cares a_m_bestCares a_m_ones a_m_others a_m_bytes a_m_anew a_m_values above below retired manyLine bytesLong tokenAt_7 tokenLong_8 token_9 value_10 bytes _ _ hw) q_359 q_360 q_361 q_5 q_362 hd_X10_goBehind ⟨(Nat.le_of_ble_eq_true rfl), (Nat.le_of_ble_eq_true rfl)⟩ rfl rfl hK hP hD [0, 2] rfl rfl 10 0 rfl rfl rfl rfl hl.1 rfl (Nat.le_of_ble_eq_true rfl) dX10_read_53 ⟨(Nat.le_of_ble_eq_true rfl), (Nat.le_of_ble_eq_true rfl)⟩) hP hD hS hA [0, 2] [1, 3, 4] [3, 0, 4, 1, 2] (fun u => ww_X10_read a_m a_m_told a_m_kept a_m_isKept a_m_refused a_m_months a_m_heirs a_m_lasts a_m_cares a_m_bestCares a_m_ones a_m_others a_m_bytes a_m_anew a_m_values cI cB cZ cP cC above below retired manyLine bytesLong (u.1) (u.2.1) (u.2.2.1) (u.2.2.2) told bytes anew values) rfl rfl rfl (by decide) rfl (fun _ => rfl) (fun u H locs hw hP hD hS => ?_)
      obtain ⟨tokenAt_12, tokenLong_13, token_14, value_15⟩ := u
      try dsimp only at hw
      replace hP : va_P D vwCl (ww_X10_read a_m a_m_told a_m_kept a_m_isKept a_m_refused a_m_months a_m_heirs a_m_lasts a_m_cares a_m_bestCares a_m_ones a_m_others a_m_bytes a_m_anew a_m_values cI cB cZ cP cC above below retired manyLine bytesLong tokenAt_12 tokenLong_13 token_14 value_15 told bytes anew values) H := hP
      replace hD : va_D A (ww_X10_read a_m a_m_told a_m_kept a_m_isKept a_m_refused a_m_months a_m_heirs a_m_lasts a_m_cares a_m_bestCares a_m_ones a_m_others a_m_bytes a_m_anew a_m_values cI cB cZ cP cC above below retired manyLine bytesLong tokenAt_12 tokenLong_13 token_14 value_15 told bytes anew values) := hD
      refine lv_aload_n hx hb dX10_read_56 rfl (lv_at hl 0 rfl) ?_
      refine mx_get (ci := 10) (C := RX10) (T := TX10) (N := 23) hx hb hown in_wsX100 hts hK hP 0 rfl rfl 21 (by decide) q_104 rfl (v := .ref a_m_anew) rfl dX10_read_57 ?_
      refine mx_kv (mx_rS (rm := rm_X10_begin) (rest := []) hx hb hml hown hts (c_X10_begin l D cI cB cZ cP cC a_m_anew 78 anew _ _ hw) q_106 q_107 q_5 q_108 hd_X10_begin ⟨(Nat.le_of_ble_eq_true rfl), (Nat.le_of_ble_eq_true rfl)⟩ rfl rfl hK hP hD [3] rfl rfl rfl hl.1 rfl (Nat.le_of_ble_eq_true rfl) dX10_read_60 ⟨(Nat.le_of_ble_eq_true rfl), (Nat.le_of_ble_eq_true rfl)⟩) hP hD hS hA [3] [0, 1, 2, 4] [0, 1, 2, 4, 3] (fun u => ww_X10_read a_m a_m_told a_m_kept a_m_isKept a_m_refused a_m_months a_m_heirs a_m_lasts a_m_cares a_m_bestCares a_m_ones a_m_others a_m_bytes a_m_anew a_m_values cI cB cZ cP cC above below retired manyLine bytesLong tokenAt_12 tokenLong_13 token_14 value_15 told bytes u values) rfl rfl rfl (by decide) rfl (fun _ => rfl) (fun anew_16 H locs hw hP hD hS => ?_)
      try dsimp only at hw
      replace hP : va_P D vwCl (ww_X10_read a_m a_m_told a_m_kept a_m_isKept a_m_refused a_m_months a_m_heirs a_m_lasts a_m_cares a_m_bestCares a_m_ones a_m_others a_m_bytes a_m_anew a_m_values cI cB cZ cP cC above below retired manyLine bytesLong tokenAt_12 tokenLong_13 token_14 value_15 told bytes anew_16 values) H := hP
      replace hD : va_D A (ww_X10_read a_m a_m_told a_m_kept a_m_isKept a_m_refused a_m_months a_m_heirs a_m_lasts a_m_cares a_m_bestCares a_m_ones a_m_others a_m_bytes a_m_anew a_m_values cI cB cZ cP cC above below retired manyLine bytesLong tokenAt_12 tokenLong_13 token_14 value_15 told bytes anew_16 values) := hD
      refine lv_iconst (v := 1) hx hb dX10_read_63 (by decide) ?_
      refine lv_istore_n (lv' := [(1, .int 1), (0, .ref a_m)]) hx hb dX10_read_64 rfl hl (by decide) rfl (fun ls hl => ?_)
      obtain ⟨n0, hw⟩ := hw
      refine k_X10_read_L65 C0 ?_ ?_ n0 1 tokenAt_12 tokenLong_13 token_14 value_15 told anew_16 values _ _ _ hP hD hS (lv_sub hl [1, 0] rfl) hw
      · intro v1_32 tokenAt_33 tokenLong_34 token_35 value_36 told_37 anew_38 values_39 H locs ls hP hD hS hl hw
        refine lv_iconst (v := 0) hx hb dX10_read_105 (by decide) ?_
        refine lv_istore_n (lv' := [(2, .int 0), (0, .ref a_m), (1, .int v1_32)]) hx hb dX10_read_106 rfl hl (by decide) rfl (fun ls hl => ?_)
        obtain ⟨n0, hw⟩ := hw
        refine k_X10_read_L107 C0  n0 v1_32 0 tokenAt_33 tokenLong_34 token_35 value_36 told_37 anew_38 values_39 _ _ _ hP hD hS (lv_sub hl [1, 2, 0] rfl) hw
      · intro tokenAt_47 tokenLong_48 token_49 value_50 told_51 anew_52 values_53 H locs ls hP hD hS hl hw
        exact k_X10_read_J87 C0  tokenAt_47 tokenLong_48 token_49 value_50 told_51 anew_52 values_53 _ _ _ hP hD hS (lv_sub hl [0] rfl) hw
    · replace hw := hw.2 c_11
      refine lv_bipush (v := (-10)) hx hb dX10_read_44 (by decide) ?_
      refine lv_aload_n hx hb dX10_read_46 rfl (lv_at hl 0 rfl) ?_
      refine mx_get (ci := 10) (C := RX10) (T := TX10) (N := 23) hx hb hown in_wsX100 hts hK hP 0 rfl rfl 17 (by decide) q_337 rfl (v := .int tokenAt_7) rfl dX10_read_47 ?_
      refine lv_isub hx hb dX10_read_50 ?_
      exact mx_iret (tokenAt_7, tokenLong_8, token_9, value_10, told, anew, values) hx hb hr hlocks rfl hw hK hP hD hS dX10_read_51
  · replace hw := hw.1 c_6
    refine lv_bipush (v := (-10)) hx hb dX10_read_24 (by decide) ?_
    refine lv_aload_n hx hb dX10_read_26 rfl (lv_at hl 0 rfl) ?_
    refine mx_get (ci := 10) (C := RX10) (T := TX10) (N := 23) hx hb hown in_wsX100 hts hK hP 0 rfl rfl 17 (by decide) q_337 rfl (v := .int tokenAt_1) rfl dX10_read_27 ?_
    refine lv_isub hx hb dX10_read_30 ?_
    exact mx_iret (tokenAt_1, tokenLong_2, token_3, value_4, told, anew, values) hx hb hr hlocks rfl hw hK hP hD hS dX10_read_31
