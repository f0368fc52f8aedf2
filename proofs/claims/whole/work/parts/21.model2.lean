/-! PramStateModel.layLine()V -/
abbrev ww_X10_layLine (a_m a_m_told a_m_kept a_m_isKept a_m_refused a_m_months a_m_heirs a_m_lasts a_m_cares a_m_bestCares a_m_ones a_m_others a_m_bytes a_m_anew a_m_values : Nat) (cI cB cZ cP cC : ClassId) (above : Int64) (below : Int64) (retired : Int32) (manyLine : Int32) (bytesLong : Int32) (tokenAt : Int32) (tokenLong : Int32) (token : Int32) (value : Int32) (told : Nat → Int32) (months : Nat → Int32) (heirs : Nat → Int32) (lasts : Nat → Int32) : va_W := [(a_m, .inr (10, [.ref a_m_told, .ref a_m_kept, .ref a_m_isKept, .ref a_m_refused, .long above, .long below, .ref a_m_months, .int retired, .ref a_m_heirs, .ref a_m_lasts, .int manyLine, .ref a_m_cares, .ref a_m_bestCares, .ref a_m_ones, .ref a_m_others, .ref a_m_bytes, .int bytesLong, .int tokenAt, .int tokenLong, .int token, .int value, .ref a_m_anew, .ref a_m_values])), (a_m_told, .inl (cI, 190, .inl told)), (a_m_months, .inl (cI, 6, .inl months)), (a_m_heirs, .inl (cI, 6, .inl heirs)), (a_m_lasts, .inl (cI, 6, .inl lasts))]
abbrev qq_X10_layLine (D : va_G) (a_m a_m_told a_m_kept a_m_isKept a_m_refused a_m_months a_m_heirs a_m_lasts a_m_cares a_m_bestCares a_m_ones a_m_others a_m_bytes a_m_anew a_m_values : Nat) (cI cB cZ cP cC : ClassId) (above : Int64) (below : Int64) (bytesLong : Int32) (tokenAt : Int32) (tokenLong : Int32) (token : Int32) (value : Int32) (told : Nat → Int32) (Post : Int32 → Int32 → (Nat → Int32) → (Nat → Int32) → (Nat → Int32) → Prop) (A : Nat → Prop) : Array Value → State → Outcome → State → Prop := va_Qv (fun (u : Int32 × Int32 × (Nat → Int32) × (Nat → Int32) × (Nat → Int32)) => Post u.1 u.2.1 u.2.2.1 u.2.2.2.1 u.2.2.2.2) (fun (u : Int32 × Int32 × (Nat → Int32) × (Nat → Int32) × (Nat → Int32)) t => mxB D (mxTy cI cB cZ cP cC) A (ww_X10_layLine a_m a_m_told a_m_kept a_m_isKept a_m_refused a_m_months a_m_heirs a_m_lasts a_m_cares a_m_bestCares a_m_ones a_m_others a_m_bytes a_m_anew a_m_values cI cB cZ cP cC above below (u.1) (u.2.1) bytesLong tokenAt tokenLong token value told (u.2.2.1) (u.2.2.2.1) (u.2.2.2.2)) t) A
abbrev rm_X10_layLine : Room := { frames := 2, cells := 0, slots := 0, locals := 44 }
theorem hd_X10_layLine : yX10_layLine.cls = RX10 ∧ yX10_layLine.cls ≠ "java/lang/invoke/MethodHandle" ∧ yX10_layLine.cls ≠ "java/lang/invoke/VarHandle" ∧ (parseMethodDescriptor yX10_layLine.desc).map (fun d => d.parameters.length) = some 0 := by decide +kernel
def wp_X10_layLine_J53 (told : Nat → Int32) (Post : Int32 → Int32 → (Nat → Int32) → (Nat → Int32) → (Nat → Int32) → Prop) (K_27 : Int32 → Int32 → Int32 → Int32 → Int32 → Int32 → (Nat → Int32) → (Nat → Int32) → (Nat → Int32) → Prop) (v1 : Int32) (v2 : Int32) (v4 : Int32) (s0 : Int32) (retired : Int32) (manyLine : Int32) (months : Nat → Int32) (heirs : Nat → Int32) (lasts : Nat → Int32) : Prop :=
  (∀ x_8 : Int32, x_8 = v4 + 1 → K_27 v1 v2 s0 x_8 retired manyLine months heirs lasts)
set_option maxHeartbeats 4000000 in
set_option maxRecDepth 100000 in
theorem k_X10_layLine_J53 {p : Program} {l : Launch} {e : Env} {s : State} {m : MethodId} {ar : Array Value} {bl : List Frame} {meth : Method} {c : Code} {D : va_G} {A : Nat → Prop} {cI cB cZ cP cC : ClassId} {a_m a_m_told a_m_kept a_m_isKept a_m_refused a_m_months a_m_heirs a_m_lasts a_m_cares a_m_bestCares a_m_ones a_m_others a_m_bytes a_m_anew a_m_values : Nat} {above : Int64} {below : Int64} {bytesLong : Int32} {tokenAt : Int32} {tokenLong : Int32} {token : Int32} {value : Int32} {told : Nat → Int32} {Post : Int32 → Int32 → (Nat → Int32) → (Nat → Int32) → (Nat → Int32) → Prop} {K_27 : Int32 → Int32 → Int32 → Int32 → Int32 → Int32 → (Nat → Int32) → (Nat → Int32) → (Nat → Int32) → Prop} (C0 : mxC p s m ar meth c cX10_layLine RX10 none 5 D (mxTy cI cB cZ cP cC) A)
    (hK_27 : ∀ (v1 : Int32) (v2 : Int32) (v3 : Int32) (v4 : Int32) (retired : Int32) (manyLine : Int32) (months : Nat → Int32) (heirs : Nat → Int32) (lasts : Nat → Int32) (H : Heap) (locs : List Loc) (ls : Array Slot), va_P D vwCl (ww_X10_layLine a_m a_m_told a_m_kept a_m_isKept a_m_refused a_m_months a_m_heirs a_m_lasts a_m_cares a_m_bestCares a_m_ones a_m_others a_m_bytes a_m_anew a_m_values cI cB cZ cP cC above below retired manyLine bytesLong tokenAt tokenLong token value told months heirs lasts) H → va_D A (ww_X10_layLine a_m a_m_told a_m_kept a_m_isKept a_m_refused a_m_months a_m_heirs a_m_lasts a_m_cares a_m_bestCares a_m_ones a_m_others a_m_bytes a_m_anew a_m_values cI cB cZ cP cC above below retired manyLine bytesLong tokenAt tokenLong token value told months heirs lasts) → va_S A s.heap H locs → lv_has ls 5 [(0, .ref a_m), (1, .int v1), (2, .int v2), (3, .int v3), (4, .int v4)] → K_27 v1 v2 v3 v4 retired manyLine months heirs lasts → W p l e rm_X10_layLine s m ar bl meth c H locs 0 0 (MQ bl (qq_X10_layLine D a_m a_m_told a_m_kept a_m_isKept a_m_refused a_m_months a_m_heirs a_m_lasts a_m_cares a_m_bestCares a_m_ones a_m_others a_m_bytes a_m_anew a_m_values cI cB cZ cP cC above below bytesLong tokenAt tokenLong token value told Post A) ar s 0 0 A) (F0 m 27 ls [])) :
    ∀ (v1 : Int32) (v2 : Int32) (v4 : Int32) (s0 : Int32) (retired : Int32) (manyLine : Int32) (months : Nat → Int32) (heirs : Nat → Int32) (lasts : Nat → Int32) (H : Heap) (locs : List Loc) (ls : Array Slot), va_P D vwCl (ww_X10_layLine a_m a_m_told a_m_kept a_m_isKept a_m_refused a_m_months a_m_heirs a_m_lasts a_m_cares a_m_bestCares a_m_ones a_m_others a_m_bytes a_m_anew a_m_values cI cB cZ cP cC above below retired manyLine bytesLong tokenAt tokenLong token value told months heirs lasts) H → va_D A (ww_X10_layLine a_m a_m_told a_m_kept a_m_isKept a_m_refused a_m_months a_m_heirs a_m_lasts a_m_cares a_m_bestCares a_m_ones a_m_others a_m_bytes a_m_anew a_m_values cI cB cZ cP cC above below retired manyLine bytesLong tokenAt tokenLong token value told months heirs lasts) → va_S A s.heap H locs → lv_has ls 5 [(0, .ref a_m), (1, .int v1), (2, .int v2), (4, .int v4)] → wp_X10_layLine_J53 told Post K_27 v1 v2 v4 s0 retired manyLine months heirs lasts → W p l e rm_X10_layLine s m ar bl meth c H locs 0 0 (MQ bl (qq_X10_layLine D a_m a_m_told a_m_kept a_m_isKept a_m_refused a_m_months a_m_heirs a_m_lasts a_m_cares a_m_bestCares a_m_ones a_m_others a_m_bytes a_m_anew a_m_values cI cB cZ cP cC above below bytesLong tokenAt tokenLong token value told Post A) ar s 0 0 A) (F0 m 53 ls [.int s0]) := by
  obtain ⟨hx, hb, hr, hlocks, hml, hown, hts, hK, hA⟩ := id C0
  intro v1 v2 v4 s0 retired manyLine months heirs lasts H locs ls hP hD hS hl hw
  refine lv_istore_n (lv' := [(3, .int s0), (0, .ref a_m), (1, .int v1), (2, .int v2), (4, .int v4)]) hx hb dX10_layLine_53 rfl hl (by decide) rfl (fun ls hl => ?_)
  obtain ⟨x_8, ex_8⟩ : ∃ y : Int32, y = v4 + 1 := ⟨_, rfl⟩
  replace hw := hw x_8 ex_8
  refine lv_iinc (v := x_8) (lv' := [(4, .int x_8), (3, .int s0), (0, .ref a_m), (1, .int v1), (2, .int v2)]) hx hb dX10_layLine_54 hl (k := 4) rfl (by rw [ex_8]; rfl) (by decide) rfl (fun ls hl => ?_)
  refine lv_goto (tgt := 27) hx hb dX10_layLine_57 (by decide) ?_
  exact hK_27 v1 v2 s0 x_8 retired manyLine months heirs lasts _ _ _ hP hD hS (lv_sub hl [2, 3, 4, 1, 0] rfl) hw
def wp_X10_layLine_L27 (told : Nat → Int32) (Post : Int32 → Int32 → (Nat → Int32) → (Nat → Int32) → (Nat → Int32) → Prop) (K_60 : Int32 → Int32 → Int32 → Int32 → Int32 → (Nat → Int32) → (Nat → Int32) → (Nat → Int32) → Prop) : Nat → Int32 → Int32 → Int32 → Int32 → Int32 → Int32 → (Nat → Int32) → (Nat → Int32) → (Nat → Int32) → Prop
  | 0, _, _, _, _, _, _, _, _, _ => False
  | n + 1, v1, v2, v3, v4, retired, manyLine, months, heirs, lasts => ((manyLine ≤ v4 → K_60 v1 v2 v3 retired manyLine months heirs lasts) ∧ (¬ manyLine ≤ v4 → (vp_in v4 6 ∧ (((heirs v4.toNatClampNeg) = v2 → (wp_X10_layLine_J53 told Post (fun (v1_18 : Int32) (v2_19 : Int32) (v3_20 : Int32) (v4_21 : Int32) (retired_22 : Int32) (manyLine_23 : Int32) (months_24 : Nat → Int32) (heirs_25 : Nat → Int32) (lasts_26 : Nat → Int32) => wp_X10_layLine_L27 told Post K_60 n v1_18 v2_19 v3_20 v4_21 retired_22 manyLine_23 months_24 heirs_25 lasts_26) v1 v2 v4 v4 retired manyLine months heirs lasts)) ∧ (¬ (heirs v4.toNatClampNeg) = v2 → (wp_X10_layLine_J53 told Post (fun (v1_9 : Int32) (v2_10 : Int32) (v3_11 : Int32) (v4_12 : Int32) (retired_13 : Int32) (manyLine_14 : Int32) (months_15 : Nat → Int32) (heirs_16 : Nat → Int32) (lasts_17 : Nat → Int32) => wp_X10_layLine_L27 told Post K_60 n v1_9 v2_10 v3_11 v4_12 retired_13 manyLine_14 months_15 heirs_16 lasts_17) v1 v2 v4 v3 retired manyLine months heirs lasts))))))
set_option maxHeartbeats 4000000 in
set_option maxRecDepth 100000 in
theorem k_X10_layLine_L27 {p : Program} {l : Launch} {e : Env} {s : State} {m : MethodId} {ar : Array Value} {bl : List Frame} {meth : Method} {c : Code} {D : va_G} {A : Nat → Prop} {cI cB cZ cP cC : ClassId} {a_m a_m_told a_m_kept a_m_isKept a_m_refused a_m_months a_m_heirs a_m_lasts a_m_cares a_m_bestCares a_m_ones a_m_others a_m_bytes a_m_anew a_m_values : Nat} {above : Int64} {below : Int64} {bytesLong : Int32} {tokenAt : Int32} {tokenLong : Int32} {token : Int32} {value : Int32} {told : Nat → Int32} {Post : Int32 → Int32 → (Nat → Int32) → (Nat → Int32) → (Nat → Int32) → Prop} {K_60 : Int32 → Int32 → Int32 → Int32 → Int32 → (Nat → Int32) → (Nat → Int32) → (Nat → Int32) → Prop} (C0 : mxC p s m ar meth c cX10_layLine RX10 none 5 D (mxTy cI cB cZ cP cC) A)
    (hK_60 : ∀ (v1 : Int32) (v2 : Int32) (v3 : Int32) (retired : Int32) (manyLine : Int32) (months : Nat → Int32) (heirs : Nat → Int32) (lasts : Nat → Int32) (H : Heap) (locs : List Loc) (ls : Array Slot), va_P D vwCl (ww_X10_layLine a_m a_m_told a_m_kept a_m_isKept a_m_refused a_m_months a_m_heirs a_m_lasts a_m_cares a_m_bestCares a_m_ones a_m_others a_m_bytes a_m_anew a_m_values cI cB cZ cP cC above below retired manyLine bytesLong tokenAt tokenLong token value told months heirs lasts) H → va_D A (ww_X10_layLine a_m a_m_told a_m_kept a_m_isKept a_m_refused a_m_months a_m_heirs a_m_lasts a_m_cares a_m_bestCares a_m_ones a_m_others a_m_bytes a_m_anew a_m_values cI cB cZ cP cC above below retired manyLine bytesLong tokenAt tokenLong token value told months heirs lasts) → va_S A s.heap H locs → lv_has ls 5 [(0, .ref a_m), (1, .int v1), (2, .int v2), (3, .int v3)] → K_60 v1 v2 v3 retired manyLine months heirs lasts → W p l e rm_X10_layLine s m ar bl meth c H locs 0 0 (MQ bl (qq_X10_layLine D a_m a_m_told a_m_kept a_m_isKept a_m_refused a_m_months a_m_heirs a_m_lasts a_m_cares a_m_bestCares a_m_ones a_m_others a_m_bytes a_m_anew a_m_values cI cB cZ cP cC above below bytesLong tokenAt tokenLong token value told Post A) ar s 0 0 A) (F0 m 60 ls [])) :
    ∀ (n : Nat) (v1 : Int32) (v2 : Int32) (v3 : Int32) (v4 : Int32) (retired : Int32) (manyLine : Int32) (months : Nat → Int32) (heirs : Nat → Int32) (lasts : Nat → Int32) (H : Heap) (locs : List Loc) (ls : Array Slot), va_P D vwCl (ww_X10_layLine a_m a_m_told a_m_kept a_m_isKept a_m_refused a_m_months a_m_heirs a_m_lasts a_m_cares a_m_bestCares a_m_ones a_m_others a_m_bytes a_m_anew a_m_values cI cB cZ cP cC above below retired manyLine bytesLong tokenAt tokenLong token value told months heirs lasts) H → va_D A (ww_X10_layLine a_m a_m_told a_m_kept a_m_isKept a_m_refused a_m_months a_m_heirs a_m_lasts a_m_cares a_m_bestCares a_m_ones a_m_others a_m_bytes a_m_anew a_m_values cI cB cZ cP cC above below retired manyLine bytesLong tokenAt tokenLong token value told months heirs lasts) → va_S A s.heap H locs → lv_has ls 5 [(0, .ref a_m), (1, .int v1), (2, .int v2), (3, .int v3), (4, .int v4)] → wp_X10_layLine_L27 told Post K_60 n v1 v2 v3 v4 retired manyLine months heirs lasts → W p l e rm_X10_layLine s m ar bl meth c H locs 0 0 (MQ bl (qq_X10_layLine D a_m a_m_told a_m_kept a_m_isKept a_m_refused a_m_months a_m_heirs a_m_lasts a_m_cares a_m_bestCares a_m_ones a_m_others a_m_bytes a_m_anew a_m_values cI cB cZ cP cC above below bytesLong tokenAt tokenLong token value told Post A) ar s 0 0 A) (F0 m 27 ls []) := by
  obtain ⟨hx, hb, hr, hlocks, hml, hown, hts, hK, hA⟩ := id C0
  intro n
  induction n with
  | zero =>
    intro v1 v2 v3 v4 retired manyLine months heirs lasts H locs ls hP hD hS hl hw
    exact absurd hw (fun h => h)
  | succ n ih =>
    intro v1 v2 v3 v4 retired manyLine months heirs lasts H locs ls hP hD hS hl hw
    refine lv_iload hx hb dX10_layLine_27 (lv_at hl 4 rfl) ?_
    refine lv_aload_n hx hb dX10_layLine_29 rfl (lv_at hl 0 rfl) ?_
    refine mx_get (ci := 10) (C := RX10) (T := TX10) (N := 23) hx hb hown in_wsX100 hts hK hP 0 rfl rfl 10 (by decide) q_669 rfl (v := .int manyLine) rfl dX10_layLine_30 ?_
    refine lv_icmp_ge (tgt := 60) hx hb dX10_layLine_33 (by decide) (fun c_5 => ?_) (fun c_5 => ?_)
    · replace hw := hw.1 c_5
      exact hK_60 v1 v2 v3 retired manyLine months heirs lasts _ _ _ hP hD hS (lv_sub hl [0, 1, 2, 3] rfl) hw
    · replace hw := hw.2 c_5
      refine lv_aload_n hx hb dX10_layLine_36 rfl (lv_at hl 0 rfl) ?_
      refine mx_get (ci := 10) (C := RX10) (T := TX10) (N := 23) hx hb hown in_wsX100 hts hK hP 0 rfl rfl 8 (by decide) q_97 rfl (v := .ref a_m_heirs) rfl dX10_layLine_37 ?_
      refine lv_iload hx hb dX10_layLine_40 (lv_at hl 4 rfl) ?_
      obtain ⟨h_6, hw⟩ := hw
      refine mx_iald hx hb hK hP 3 0 rfl rfl h_6 (heirs v4.toNatClampNeg) rfl dX10_layLine_42 ?_
      refine lv_iload_n hx hb dX10_layLine_43 rfl (lv_at hl 2 rfl) ?_
      refine lv_icmp_ne (tgt := 52) hx hb dX10_layLine_44 (by decide) (fun c_7 => ?_) (fun c_7 => ?_)
      · replace hw := hw.2 c_7
        refine lv_iload_n hx hb dX10_layLine_52 rfl (lv_at hl 3 rfl) ?_
        refine k_X10_layLine_J53 C0 ?_ v1 v2 v4 v3 retired manyLine months heirs lasts _ _ _ hP hD hS (lv_sub hl [0, 1, 2, 4] rfl) hw
        intro v1_9 v2_10 v3_11 v4_12 retired_13 manyLine_14 months_15 heirs_16 lasts_17 H locs ls hP hD hS hl hw
        exact ih v1_9 v2_10 v3_11 v4_12 retired_13 manyLine_14 months_15 heirs_16 lasts_17 _ _ _ hP hD hS (lv_sub hl [0, 1, 2, 3, 4] rfl) hw
      · replace hw := hw.1 c_7
        refine lv_iload hx hb dX10_layLine_47 (lv_at hl 4 rfl) ?_
        refine lv_goto (tgt := 53) hx hb dX10_layLine_49 (by decide) ?_
        refine k_X10_layLine_J53 C0 ?_ v1 v2 v4 v4 retired manyLine months heirs lasts _ _ _ hP hD hS (lv_sub hl [0, 1, 2, 4] rfl) hw
        intro v1_18 v2_19 v3_20 v4_21 retired_22 manyLine_23 months_24 heirs_25 lasts_26 H locs ls hP hD hS hl hw
        exact ih v1_18 v2_19 v3_20 v4_21 retired_22 manyLine_23 months_24 heirs_25 lasts_26 _ _ _ hP hD hS (lv_sub hl [0, 1, 2, 3, 4] rfl) hw
def wp_X10_layLine_J114 (told : Nat → Int32) (Post : Int32 → Int32 → (Nat → Int32) → (Nat → Int32) → (Nat → Int32) → Prop) (K_11 : Int32 → Int32 → Int32 → (Nat → Int32) → (Nat → Int32) → (Nat → Int32) → Prop) (v1 : Int32) (retired : Int32) (manyLine : Int32) (months : Nat → Int32) (heirs : Nat → Int32) (lasts : Nat → Int32) : Prop :=
  (wp_X10_goMonth told retired months (fun retired_37 months_38 => (∀ x_39 : Int32, x_39 = v1 + 1 → K_11 x_39 retired_37 manyLine months_38 heirs lasts)))
set_option maxHeartbeats 4000000 in
set_option maxRecDepth 100000 in
theorem k_X10_layLine_J114 {p : Program} {l : Launch} {e : Env} {s : State} {m : MethodId} {ar : Array Value} {bl : List Frame} {meth : Method} {c : Code} {D : va_G} {A : Nat → Prop} {cI cB cZ cP cC : ClassId} {a_m a_m_told a_m_kept a_m_isKept a_m_refused a_m_months a_m_heirs a_m_lasts a_m_cares a_m_bestCares a_m_ones a_m_others a_m_bytes a_m_anew a_m_values : Nat} {above : Int64} {below : Int64} {bytesLong : Int32} {tokenAt : Int32} {tokenLong : Int32} {token : Int32} {value : Int32} {told : Nat → Int32} {Post : Int32 → Int32 → (Nat → Int32) → (Nat → Int32) → (Nat → Int32) → Prop} {K_11 : Int32 → Int32 → Int32 → (Nat → Int32) → (Nat → Int32) → (Nat → Int32) → Prop} (C0 : mxC p s m ar meth c cX10_layLine RX10 none 5 D (mxTy cI cB cZ cP cC) A)
    (hK_11 : ∀ (v1 : Int32) (retired : Int32) (manyLine : Int32) (months : Nat → Int32) (heirs : Nat → Int32) (lasts : Nat → Int32) (H : Heap) (locs : List Loc) (ls : Array Slot), va_P D vwCl (ww_X10_layLine a_m a_m_told a_m_kept a_m_isKept a_m_refused a_m_months a_m_heirs a_m_lasts a_m_cares a_m_bestCares a_m_ones a_m_others a_m_bytes a_m_anew a_m_values cI cB cZ cP cC above below retired manyLine bytesLong tokenAt tokenLong token value told months heirs lasts) H → va_D A (ww_X10_layLine a_m a_m_told a_m_kept a_m_isKept a_m_refused a_m_months a_m_heirs a_m_lasts a_m_cares a_m_bestCares a_m_ones a_m_others a_m_bytes a_m_anew a_m_values cI cB cZ cP cC above below retired manyLine bytesLong tokenAt tokenLong token value told months heirs lasts) → va_S A s.heap H locs → lv_has ls 5 [(0, .ref a_m), (1, .int v1)] → K_11 v1 retired manyLine months heirs lasts → W p l e rm_X10_layLine s m ar bl meth c H locs 0 0 (MQ bl (qq_X10_layLine D a_m a_m_told a_m_kept a_m_isKept a_m_refused a_m_months a_m_heirs a_m_lasts a_m_cares a_m_bestCares a_m_ones a_m_others a_m_bytes a_m_anew a_m_values cI cB cZ cP cC above below bytesLong tokenAt tokenLong token value told Post A) ar s 0 0 A) (F0 m 11 ls [])) :
    ∀ (v1 : Int32) (retired : Int32) (manyLine : Int32) (months : Nat → Int32) (heirs : Nat → Int32) (lasts : Nat → Int32) (H : Heap) (locs : List Loc) (ls : Array Slot), va_P D vwCl (ww_X10_layLine a_m a_m_told a_m_kept a_m_isKept a_m_refused a_m_months a_m_heirs a_m_lasts a_m_cares a_m_bestCares a_m_ones a_m_others a_m_bytes a_m_anew a_m_values cI cB cZ cP cC above below retired manyLine bytesLong tokenAt tokenLong token value told months heirs lasts) H → va_D A (ww_X10_layLine a_m a_m_told a_m_kept a_m_isKept a_m_refused a_m_months a_m_heirs a_m_lasts a_m_cares a_m_bestCares a_m_ones a_m_others a_m_bytes a_m_anew a_m_values cI cB cZ cP cC above below retired manyLine bytesLong tokenAt tokenLong token value told months heirs lasts) → va_S A s.heap H locs → lv_has ls 5 [(0, .ref a_m), (1, .int v1)] → wp_X10_layLine_J114 told Post K_11 v1 retired manyLine months heirs lasts → W p l e rm_X10_layLine s m ar bl meth c H locs 0 0 (MQ bl (qq_X10_layLine D a_m a_m_told a_m_kept a_m_isKept a_m_refused a_m_months a_m_heirs a_m_lasts a_m_cares a_m_bestCares a_m_ones a_m_others a_m_bytes a_m_anew a_m_values cI cB cZ cP cC above below bytesLong tokenAt tokenLong token value told Post A) ar s 0 0 A) (F0 m 114 ls []) := by
  obtain ⟨hx, hb, hr, hlocks, hml, hown, hts, hK, hA⟩ := id C0
  intro v1 retired manyLine months heirs lasts H locs ls hP hD hS hl hw
  refine lv_aload_n hx hb dX10_layLine_114 rfl (lv_at hl 0 rfl) ?_
  refine mx_kv (mx_rV (rm := rm_X10_goMonth) (rest := []) (C := RX10) hx hb hml hown hts (c_X10_goMonth l D cI cB cZ cP cC a_m a_m_told a_m_kept a_m_isKept a_m_refused a_m_months a_m_heirs a_m_lasts a_m_cares a_m_bestCares a_m_ones a_m_others a_m_bytes a_m_anew a_m_values above below retired manyLine bytesLong tokenAt tokenLong token value told months _ _ hw) q_441 q_442 q_443 q_5 q_444 hd_X10_goMonth ⟨(Nat.le_of_ble_eq_true rfl), (Nat.le_of_ble_eq_true rfl)⟩ rfl rfl hK hP hD [0, 1, 2] rfl rfl 10 0 rfl rfl rfl rfl hl.1 rfl (Nat.le_of_ble_eq_true rfl) dX10_layLine_115 ⟨(Nat.le_of_ble_eq_true rfl), (Nat.le_of_ble_eq_true rfl)⟩) hP hD hS hA [0, 1, 2] [3, 4] [2, 3, 4, 0, 1] (fun u => ww_X10_layLine a_m a_m_told a_m_kept a_m_isKept a_m_refused a_m_months a_m_heirs a_m_lasts a_m_cares a_m_bestCares a_m_ones a_m_others a_m_bytes a_m_anew a_m_values cI cB cZ cP cC above below (u.1) manyLine bytesLong tokenAt tokenLong token value told (u.2) heirs lasts) rfl rfl rfl (by decide) rfl (fun _ => rfl) (fun u H locs hw hP hD hS => ?_)
  obtain ⟨retired_37, months_38⟩ := u
  try dsimp only at hw
  replace hP : va_P D vwCl (ww_X10_layLine a_m a_m_told a_m_kept a_m_isKept a_m_refused a_m_months a_m_heirs a_m_lasts a_m_cares a_m_bestCares a_m_ones a_m_others a_m_bytes a_m_anew a_m_values cI cB cZ cP cC above below retired_37 manyLine bytesLong tokenAt tokenLong token value told months_38 heirs lasts) H := hP
  replace hD : va_D A (ww_X10_layLine a_m a_m_told a_m_kept a_m_isKept a_m_refused a_m_months a_m_heirs a_m_lasts a_m_cares a_m_bestCares a_m_ones a_m_others a_m_bytes a_m_anew a_m_values cI cB cZ cP cC above below retired_37 manyLine bytesLong tokenAt tokenLong token value told months_38 heirs lasts) := hD
  obtain ⟨x_39, ex_39⟩ : ∃ y : Int32, y = v1 + 1 := ⟨_, rfl⟩
  replace hw := hw x_39 ex_39
  refine lv_iinc (v := x_39) (lv' := [(1, .int x_39), (0, .ref a_m)]) hx hb dX10_layLine_118 hl (k := 1) rfl (by rw [ex_39]; rfl) (by decide) rfl (fun ls hl => ?_)
  refine lv_goto (tgt := 11) hx hb dX10_layLine_121 (by decide) ?_
  exact hK_11 x_39 retired_37 manyLine months_38 heirs lasts _ _ _ hP hD hS (lv_sub hl [1, 0] rfl) hw
def wp_X10_layLine_J99 (told : Nat → Int32) (Post : Int32 → Int32 → (Nat → Int32) → (Nat → Int32) → (Nat → Int32) → Prop) (K_11 : Int32 → Int32 → Int32 → (Nat → Int32) → (Nat → Int32) → (Nat → Int32) → Prop) (v1 : Int32) (v2 : Int32) (v3 : Int32) (retired : Int32) (manyLine : Int32) (months : Nat → Int32) (heirs : Nat → Int32) (lasts : Nat → Int32) : Prop :=
  ((v2 = (-1) → (wp_X10_layLine_J114 told Post K_11 v1 retired manyLine months heirs lasts)) ∧ (¬ v2 = (-1) → (vp_in v3 6 ∧ (∀ x_47 : Int32, x_47 = (lasts v3.toNatClampNeg) + 1 → (∀ f_48 : Nat → Int32, f_48 = upd lasts v3.toNatClampNeg x_47 → (wp_X10_layLine_J114 told Post K_11 v1 retired manyLine months heirs f_48))))))
set_option maxHeartbeats 4000000 in
set_option maxRecDepth 100000 in
theorem k_X10_layLine_J99 {p : Program} {l : Launch} {e : Env} {s : State} {m : MethodId} {ar : Array Value} {bl : List Frame} {meth : Method} {c : Code} {D : va_G} {A : Nat → Prop} {cI cB cZ cP cC : ClassId} {a_m a_m_told a_m_kept a_m_isKept a_m_refused a_m_months a_m_heirs a_m_lasts a_m_cares a_m_bestCares a_m_ones a_m_others a_m_bytes a_m_anew a_m_values : Nat} {above : Int64} {below : Int64} {bytesLong : Int32} {tokenAt : Int32} {tokenLong : Int32} {token : Int32} {value : Int32} {told : Nat → Int32} {Post : Int32 → Int32 → (Nat → Int32) → (Nat → Int32) → (Nat → Int32) → Prop} {K_11 : Int32 → Int32 → Int32 → (Nat → Int32) → (Nat → Int32) → (Nat → Int32) → Prop} (C0 : mxC p s m ar meth c cX10_layLine RX10 none 5 D (mxTy cI cB cZ cP cC) A)
    (hK_11 : ∀ (v1 : Int32) (retired : Int32) (manyLine : Int32) (months : Nat → Int32) (heirs : Nat → Int32) (lasts : Nat → Int32) (H : Heap) (locs : List Loc) (ls : Array Slot), va_P D vwCl (ww_X10_layLine a_m a_m_told a_m_kept a_m_isKept a_m_refused a_m_months a_m_heirs a_m_lasts a_m_cares a_m_bestCares a_m_ones a_m_others a_m_bytes a_m_anew a_m_values cI cB cZ cP cC above below retired manyLine bytesLong tokenAt tokenLong token value told months heirs lasts) H → va_D A (ww_X10_layLine a_m a_m_told a_m_kept a_m_isKept a_m_refused a_m_months a_m_heirs a_m_lasts a_m_cares a_m_bestCares a_m_ones a_m_others a_m_bytes a_m_anew a_m_values cI cB cZ cP cC above below retired manyLine bytesLong tokenAt tokenLong token value told months heirs lasts) → va_S A s.heap H locs → lv_has ls 5 [(0, .ref a_m), (1, .int v1)] → K_11 v1 retired manyLine months heirs lasts → W p l e rm_X10_layLine s m ar bl meth c H locs 0 0 (MQ bl (qq_X10_layLine D a_m a_m_told a_m_kept a_m_isKept a_m_refused a_m_months a_m_heirs a_m_lasts a_m_cares a_m_bestCares a_m_ones a_m_others a_m_bytes a_m_anew a_m_values cI cB cZ cP cC above below bytesLong tokenAt tokenLong token value told Post A) ar s 0 0 A) (F0 m 11 ls [])) :
    ∀ (v1 : Int32) (v2 : Int32) (v3 : Int32) (retired : Int32) (manyLine : Int32) (months : Nat → Int32) (heirs : Nat → Int32) (lasts : Nat → Int32) (H : Heap) (locs : List Loc) (ls : Array Slot), va_P D vwCl (ww_X10_layLine a_m a_m_told a_m_kept a_m_isKept a_m_refused a_m_months a_m_heirs a_m_lasts a_m_cares a_m_bestCares a_m_ones a_m_others a_m_bytes a_m_anew a_m_values cI cB cZ cP cC above below retired manyLine bytesLong tokenAt tokenLong token value told months heirs lasts) H → va_D A (ww_X10_layLine a_m a_m_told a_m_kept a_m_isKept a_m_refused a_m_months a_m_heirs a_m_lasts a_m_cares a_m_bestCares a_m_ones a_m_others a_m_bytes a_m_anew a_m_values cI cB cZ cP cC above below retired manyLine bytesLong tokenAt tokenLong token value told months heirs lasts) → va_S A s.heap H locs → lv_has ls 5 [(0, .ref a_m), (1, .int v1), (2, .int v2), (3, .int v3)] → wp_X10_layLine_J99 told Post K_11 v1 v2 v3 retired manyLine months heirs lasts → W p l e rm_X10_layLine s m ar bl meth c H locs 0 0 (MQ bl (qq_X10_layLine D a_m a_m_told a_m_kept a_m_isKept a_m_refused a_m_months a_m_heirs a_m_lasts a_m_cares a_m_bestCares a_m_ones a_m_others a_m_bytes a_m_anew a_m_values cI cB cZ cP cC above below bytesLong tokenAt tokenLong token value told Post A) ar s 0 0 A) (F0 m 99 ls []) := by
  obtain ⟨hx, hb, hr, hlocks, hml, hown, hts, hK, hA⟩ := id C0
  intro v1 v2 v3 retired manyLine months heirs lasts H locs ls hP hD hS hl hw
  refine lv_iload_n hx hb dX10_layLine_99 rfl (lv_at hl 2 rfl) ?_
  refine lv_iconst (v := (-1)) hx hb dX10_layLine_100 (by decide) ?_
  refine lv_icmp_eq (tgt := 114) hx hb dX10_layLine_101 (by decide) (fun c_36 => ?_) (fun c_36 => ?_)
  · replace hw := hw.1 c_36
    refine k_X10_layLine_J114 C0 ?_ v1 retired manyLine months heirs lasts _ _ _ hP hD hS (lv_sub hl [0, 1] rfl) hw
    intro v1_40 retired_41 manyLine_42 months_43 heirs_44 lasts_45 H locs ls hP hD hS hl hw
    exact hK_11 v1_40 retired_41 manyLine_42 months_43 heirs_44 lasts_45 _ _ _ hP hD hS (lv_sub hl [0, 1] rfl) hw
  · replace hw := hw.2 c_36
    refine lv_aload_n hx hb dX10_layLine_104 rfl (lv_at hl 0 rfl) ?_
    refine mx_get (ci := 10) (C := RX10) (T := TX10) (N := 23) hx hb hown in_wsX100 hts hK hP 0 rfl rfl 9 (by decide) q_98 rfl (v := .ref a_m_lasts) rfl dX10_layLine_105 ?_
    refine lv_iload_n hx hb dX10_layLine_108 rfl (lv_at hl 3 rfl) ?_
    refine lv_dup2_11 hx hb dX10_layLine_109 rfl rfl ?_
    obtain ⟨h_46, hw⟩ := hw
    refine mx_iald hx hb hK hP 4 0 rfl rfl h_46 (lasts v3.toNatClampNeg) rfl dX10_layLine_110 ?_
    refine lv_iconst (v := 1) hx hb dX10_layLine_111 (by decide) ?_
    refine lv_iadd hx hb dX10_layLine_112 ?_
    refine lv_topi (fun x_47 ex_47 => ?_)
    replace hw := hw x_47 ex_47
    obtain ⟨f_48, ef_48⟩ : ∃ y : Nat → Int32, y = upd lasts v3.toNatClampNeg x_47 := ⟨_, rfl⟩
    replace hw := hw f_48 ef_48
    refine mx_iast hx hb hK hP hD hS 4 0 rfl rfl h_46 f_48 ef_48 (ww_X10_layLine a_m a_m_told a_m_kept a_m_isKept a_m_refused a_m_months a_m_heirs a_m_lasts a_m_cares a_m_bestCares a_m_ones a_m_others a_m_bytes a_m_anew a_m_values cI cB cZ cP cC above below retired manyLine bytesLong tokenAt tokenLong token value told months heirs f_48) rfl dX10_layLine_113 (fun H locs hP hD hS => ?_)
    refine k_X10_layLine_J114 C0 ?_ v1 retired manyLine months heirs f_48 _ _ _ hP hD hS (lv_sub hl [0, 1] rfl) hw
    intro v1_49 retired_50 manyLine_51 months_52 heirs_53 lasts_54 H locs ls hP hD hS hl hw
    exact hK_11 v1_49 retired_50 manyLine_51 months_52 heirs_53 lasts_54 _ _ _ hP hD hS (lv_sub hl [0, 1] rfl) hw
def wp_X10_layLine_L11 (told : Nat → Int32) (Post : Int32 → Int32 → (Nat → Int32) → (Nat → Int32) → (Nat → Int32) → Prop)  : Nat → Int32 → Int32 → Int32 → (Nat → Int32) → (Nat → Int32) → (Nat → Int32) → Prop
  | 0, _, _, _, _, _, _ => False
  | n + 1, v1, retired, manyLine, months, heirs, lasts => ((60 < v1 → Post retired manyLine months heirs lasts) ∧ (¬ 60 < v1 → (wp_X10_reigns retired told months (fun r_4 => (∃ k_78 : Nat, wp_X10_layLine_L27 told Post (fun (v1_27 : Int32) (v2_28 : Int32) (v3_29 : Int32) (retired_30 : Int32) (manyLine_31 : Int32) (months_32 : Nat → Int32) (heirs_33 : Nat → Int32) (lasts_34 : Nat → Int32) => ((v2_28 = (-1) → (wp_X10_layLine_J99 told Post (fun (v1_55 : Int32) (retired_56 : Int32) (manyLine_57 : Int32) (months_58 : Nat → Int32) (heirs_59 : Nat → Int32) (lasts_60 : Nat → Int32) => wp_X10_layLine_L11 told Post  n v1_55 retired_56 manyLine_57 months_58 heirs_59 lasts_60) v1_27 v2_28 v3_29 retired_30 manyLine_31 months_32 heirs_33 lasts_34)) ∧ (¬ v2_28 = (-1) → ((v3_29 = (-1) → (vp_in manyLine_31 6 ∧ (∀ f_69 : Nat → Int32, f_69 = upd heirs_33 manyLine_31.toNatClampNeg v2_28 → (∀ f_70 : Nat → Int32, f_70 = upd lasts_34 manyLine_31.toNatClampNeg 0 → (∀ x_71 : Int32, x_71 = manyLine_31 + 1 → (wp_X10_layLine_J99 told Post (fun (v1_72 : Int32) (retired_73 : Int32) (manyLine_74 : Int32) (months_75 : Nat → Int32) (heirs_76 : Nat → Int32) (lasts_77 : Nat → Int32) => wp_X10_layLine_L11 told Post  n v1_72 retired_73 manyLine_74 months_75 heirs_76 lasts_77) v1_27 v2_28 manyLine_31 retired_30 x_71 months_32 f_69 f_70)))))) ∧ (¬ v3_29 = (-1) → (wp_X10_layLine_J99 told Post (fun (v1_62 : Int32) (retired_63 : Int32) (manyLine_64 : Int32) (months_65 : Nat → Int32) (heirs_66 : Nat → Int32) (lasts_67 : Nat → Int32) => wp_X10_layLine_L11 told Post  n v1_62 retired_63 manyLine_64 months_65 heirs_66 lasts_67) v1_27 v2_28 v3_29 retired_30 manyLine_31 months_32 heirs_33 lasts_34)))))) k_78 v1 r_4 (-1) 0 retired manyLine months heirs lasts)))))
set_option maxHeartbeats 4000000 in
set_option maxRecDepth 100000 in
theorem k_X10_layLine_L11 {p : Program} {l : Launch} {e : Env} {s : State} {m : MethodId} {ar : Array Value} {bl : List Frame} {meth : Method} {c : Code} {D : va_G} {A : Nat → Prop} {cI cB cZ cP cC : ClassId} {a_m a_m_told a_m_kept a_m_isKept a_m_refused a_m_months a_m_heirs a_m_lasts a_m_cares a_m_bestCares a_m_ones a_m_others a_m_bytes a_m_anew a_m_values : Nat} {above : Int64} {below : Int64} {bytesLong : Int32} {tokenAt : Int32} {tokenLong : Int32} {token : Int32} {value : Int32} {told : Nat → Int32} {Post : Int32 → Int32 → (Nat → Int32) → (Nat → Int32) → (Nat → Int32) → Prop} (C0 : mxC p s m ar meth c cX10_layLine RX10 none 5 D (mxTy cI cB cZ cP cC) A) :
    ∀ (n : Nat) (v1 : Int32) (retired : Int32) (manyLine : Int32) (months : Nat → Int32) (heirs : Nat → Int32) (lasts : Nat → Int32) (H : Heap) (locs : List Loc) (ls : Array Slot), va_P D vwCl (ww_X10_layLine a_m a_m_told a_m_kept a_m_isKept a_m_refused a_m_months a_m_heirs a_m_lasts a_m_cares a_m_bestCares a_m_ones a_m_others a_m_bytes a_m_anew a_m_values cI cB cZ cP cC above below retired manyLine bytesLong tokenAt tokenLong token value told months heirs lasts) H → va_D A (ww_X10_layLine a_m a_m_told a_m_kept a_m_isKept a_m_refused a_m_months a_m_heirs a_m_lasts a_m_cares a_m_bestCares a_m_ones a_m_others a_m_bytes a_m_anew a_m_values cI cB cZ cP cC above below retired manyLine bytesLong tokenAt tokenLong token value told months heirs lasts) → va_S A s.heap H locs → lv_has ls 5 [(0, .ref a_m), (1, .int v1)] → wp_X10_layLine_L11 told Post  n v1 retired manyLine months heirs lasts → W p l e rm_X10_layLine s m ar bl meth c H locs 0 0 (MQ bl (qq_X10_layLine D a_m a_m_told a_m_kept a_m_isKept a_m_refused a_m_months a_m_heirs a_m_lasts a_m_cares a_m_bestCares a_m_ones a_m_others a_m_bytes a_m_anew a_m_values cI cB cZ cP cC above below bytesLong tokenAt tokenLong token value told Post A) ar s 0 0 A) (F0 m 11 ls []) := by
  obtain ⟨hx, hb, hr, hlocks, hml, hown, hts, hK, hA⟩ := id C0
  intro n
  induction n with
  | zero =>
    intro v1 retired manyLine months heirs lasts H locs ls hP hD hS hl hw
    exact absurd hw (fun h => h)
  | succ n ih =>
    intro v1 retired manyLine months heirs lasts H locs ls hP hD hS hl hw
    refine lv_iload_n hx hb dX10_layLine_11 rfl (lv_at hl 1 rfl) ?_
    refine lv_bipush (v := 60) hx hb dX10_layLine_12 (by decide) ?_
    refine lv_icmp_gt (tgt := 124) hx hb dX10_layLine_14 (by decide) (fun c_3 => ?_) (fun c_3 => ?_)
    · replace hw := hw.1 c_3
      exact mx_vret (retired, manyLine, months, heirs, lasts) hx hb hr hlocks hw hK hP hD hS dX10_layLine_124
    · replace hw := hw.2 c_3
      refine lv_aload_n hx hb dX10_layLine_17 rfl (lv_at hl 0 rfl) ?_
      refine mx_ki (mx_rV (rm := rm_X10_reigns) (rest := []) (C := RX10) hx hb hml hown hts (c_X10_reigns l D cI cB cZ cP cC a_m a_m_told a_m_kept a_m_isKept a_m_refused a_m_months a_m_heirs a_m_lasts a_m_cares a_m_bestCares a_m_ones a_m_others a_m_bytes a_m_anew a_m_values above below retired manyLine bytesLong tokenAt tokenLong token value told months _ _ hw) q_455 q_456 q_457 q_5 q_458 hd_X10_reigns ⟨(Nat.le_of_ble_eq_true rfl), (Nat.le_of_ble_eq_true rfl)⟩ rfl rfl hK hP hD [0, 1, 2] rfl rfl 10 0 rfl rfl rfl rfl hl.1 rfl (Nat.le_of_ble_eq_true rfl) dX10_layLine_18 ⟨(Nat.le_of_ble_eq_true rfl), (Nat.le_of_ble_eq_true rfl)⟩) hP hD hS hA [0, 1, 2] [3, 4] [2, 3, 4, 0, 1] (fun _ => ww_X10_layLine a_m a_m_told a_m_kept a_m_isKept a_m_refused a_m_months a_m_heirs a_m_lasts a_m_cares a_m_bestCares a_m_ones a_m_others a_m_bytes a_m_anew a_m_values cI cB cZ cP cC above below retired manyLine bytesLong tokenAt tokenLong token value told months heirs lasts) rfl rfl rfl (by decide) rfl (fun _ => rfl) (fun r_4 u H locs hw hP hD hS => ?_)
      try dsimp only at hw
      replace hP : va_P D vwCl (ww_X10_layLine a_m a_m_told a_m_kept a_m_isKept a_m_refused a_m_months a_m_heirs a_m_lasts a_m_cares a_m_bestCares a_m_ones a_m_others a_m_bytes a_m_anew a_m_values cI cB cZ cP cC above below retired manyLine bytesLong tokenAt tokenLong token value told months heirs lasts) H := hP
      replace hD : va_D A (ww_X10_layLine a_m a_m_told a_m_kept a_m_isKept a_m_refused a_m_months a_m_heirs a_m_lasts a_m_cares a_m_bestCares a_m_ones a_m_others a_m_bytes a_m_anew a_m_values cI cB cZ cP cC above below retired manyLine bytesLong tokenAt tokenLong token value told months heirs lasts) := hD
      refine lv_istore_n (lv' := [(2, .int r_4), (0, .ref a_m), (1, .int v1)]) hx hb dX10_layLine_21 rfl hl (by decide) rfl (fun ls hl => ?_)
      refine lv_iconst (v := (-1)) hx hb dX10_layLine_22 (by decide) ?_
      refine lv_istore_n (lv' := [(3, .int (-1)), (2, .int r_4), (0, .ref a_m), (1, .int v1)]) hx hb dX10_layLine_23 rfl hl (by decide) rfl (fun ls hl => ?_)
      refine lv_iconst (v := 0) hx hb dX10_layLine_24 (by decide) ?_
      refine lv_istore (lv' := [(4, .int 0), (3, .int (-1)), (2, .int r_4), (0, .ref a_m), (1, .int v1)]) hx hb dX10_layLine_25 hl (by decide) rfl (fun ls hl => ?_)
      obtain ⟨n0, hw⟩ := hw
      refine k_X10_layLine_L27 C0 ?_ n0 v1 r_4 (-1) 0 retired manyLine months heirs lasts _ _ _ hP hD hS (lv_sub hl [3, 4, 2, 1, 0] rfl) hw
      intro v1_27 v2_28 v3_29 retired_30 manyLine_31 months_32 heirs_33 lasts_34 H locs ls hP hD hS hl hw
      refine lv_iload_n hx hb dX10_layLine_60 rfl (lv_at hl 2 rfl) ?_
      refine lv_iconst (v := (-1)) hx hb dX10_layLine_61 (by decide) ?_
      refine lv_icmp_eq (tgt := 99) hx hb dX10_layLine_62 (by decide) (fun c_35 => ?_) (fun c_35 => ?_)
      · replace hw := hw.1 c_35
        refine k_X10_layLine_J99 C0 ?_ v1_27 v2_28 v3_29 retired_30 manyLine_31 months_32 heirs_33 lasts_34 _ _ _ hP hD hS (lv_sub hl [0, 1, 2, 3] rfl) hw
        intro v1_55 retired_56 manyLine_57 months_58 heirs_59 lasts_60 H locs ls hP hD hS hl hw
        exact ih v1_55 retired_56 manyLine_57 months_58 heirs_59 lasts_60 _ _ _ hP hD hS (lv_sub hl [0, 1] rfl) hw
      · replace hw := hw.2 c_35
        refine lv_iload_n hx hb dX10_layLine_65 rfl (lv_at hl 3 rfl) ?_
        refine lv_iconst (v := (-1)) hx hb dX10_layLine_66 (by decide) ?_
        refine lv_icmp_ne (tgt := 99) hx hb dX10_layLine_67 (by decide) (fun c_61 => ?_) (fun c_61 => ?_)
        · replace hw := hw.2 c_61
          refine k_X10_layLine_J99 C0 ?_ v1_27 v2_28 v3_29 retired_30 manyLine_31 months_32 heirs_33 lasts_34 _ _ _ hP hD hS (lv_sub hl [0, 1, 2, 3] rfl) hw
          intro v1_62 retired_63 manyLine_64 months_65 heirs_66 lasts_67 H locs ls hP hD hS hl hw
          exact ih v1_62 retired_63 manyLine_64 months_65 heirs_66 lasts_67 _ _ _ hP hD hS (lv_sub hl [0, 1] rfl) hw
        · replace hw := hw.1 c_61
          refine lv_aload_n hx hb dX10_layLine_70 rfl (lv_at hl 0 rfl) ?_
          refine mx_get (ci := 10) (C := RX10) (T := TX10) (N := 23) hx hb hown in_wsX100 hts hK hP 0 rfl rfl 10 (by decide) q_669 rfl (v := .int manyLine_31) rfl dX10_layLine_71 ?_
          refine lv_istore_n (lv' := [(3, .int manyLine_31), (0, .ref a_m), (1, .int v1_27), (2, .int v2_28)]) hx hb dX10_layLine_74 rfl hl (by decide) rfl (fun ls hl => ?_)
          refine lv_aload_n hx hb dX10_layLine_75 rfl (lv_at hl 1 rfl) ?_
          refine mx_get (ci := 10) (C := RX10) (T := TX10) (N := 23) hx hb hown in_wsX100 hts hK hP 0 rfl rfl 8 (by decide) q_97 rfl (v := .ref a_m_heirs) rfl dX10_layLine_76 ?_
          refine lv_iload_n hx hb dX10_layLine_79 rfl (lv_at hl 0 rfl) ?_
          refine lv_iload_n hx hb dX10_layLine_80 rfl (lv_at hl 3 rfl) ?_
          obtain ⟨h_68, hw⟩ := hw
          obtain ⟨f_69, ef_69⟩ : ∃ y : Nat → Int32, y = upd heirs_33 manyLine_31.toNatClampNeg v2_28 := ⟨_, rfl⟩
          replace hw := hw f_69 ef_69
          refine mx_iast hx hb hK hP hD hS 3 0 rfl rfl h_68 f_69 ef_69 (ww_X10_layLine a_m a_m_told a_m_kept a_m_isKept a_m_refused a_m_months a_m_heirs a_m_lasts a_m_cares a_m_bestCares a_m_ones a_m_others a_m_bytes a_m_anew a_m_values cI cB cZ cP cC above below retired_30 manyLine_31 bytesLong tokenAt tokenLong token value told months_32 f_69 lasts_34) rfl dX10_layLine_81 (fun H locs hP hD hS => ?_)
          refine lv_aload_n hx hb dX10_layLine_82 rfl (lv_at hl 1 rfl) ?_
          refine mx_get (ci := 10) (C := RX10) (T := TX10) (N := 23) hx hb hown in_wsX100 hts hK hP 0 rfl rfl 9 (by decide) q_98 rfl (v := .ref a_m_lasts) rfl dX10_layLine_83 ?_
          refine lv_iload_n hx hb dX10_layLine_86 rfl (lv_at hl 0 rfl) ?_
          refine lv_iconst (v := 0) hx hb dX10_layLine_87 (by decide) ?_
          obtain ⟨f_70, ef_70⟩ : ∃ y : Nat → Int32, y = upd lasts_34 manyLine_31.toNatClampNeg 0 := ⟨_, rfl⟩
          replace hw := hw f_70 ef_70
          refine mx_iast hx hb hK hP hD hS 4 0 rfl rfl h_68 f_70 ef_70 (ww_X10_layLine a_m a_m_told a_m_kept a_m_isKept a_m_refused a_m_months a_m_heirs a_m_lasts a_m_cares a_m_bestCares a_m_ones a_m_others a_m_bytes a_m_anew a_m_values cI cB cZ cP cC above below retired_30 manyLine_31 bytesLong tokenAt tokenLong token value told months_32 f_69 f_70) rfl dX10_layLine_88 (fun H locs hP hD hS => ?_)
          refine lv_aload_n hx hb dX10_layLine_89 rfl (lv_at hl 1 rfl) ?_
          refine lv_dup hx hb dX10_layLine_90 rfl ?_
          refine mx_get (ci := 10) (C := RX10) (T := TX10) (N := 23) hx hb hown in_wsX100 hts hK hP 0 rfl rfl 10 (by decide) q_669 rfl (v := .int manyLine_31) rfl dX10_layLine_91 ?_
          refine lv_iconst (v := 1) hx hb dX10_layLine_94 (by decide) ?_
          refine lv_iadd hx hb dX10_layLine_95 ?_
          refine lv_topi (fun x_71 ex_71 => ?_)
          replace hw := hw x_71 ex_71
          refine mx_put (ci := 10) (C := RX10) (T := TX10) (N := 23) hx hb hown in_wsX100 tyX10 tyX10_ok nmX10 hts hK hP hD hS 0 rfl rfl 10 (by decide) q_669 rfl rfl rfl rfl (Nat.le_of_ble_eq_true rfl) (ww_X10_layLine a_m a_m_told a_m_kept a_m_isKept a_m_refused a_m_months a_m_heirs a_m_lasts a_m_cares a_m_bestCares a_m_ones a_m_others a_m_bytes a_m_anew a_m_values cI cB cZ cP cC above below retired_30 x_71 bytesLong tokenAt tokenLong token value told months_32 f_69 f_70) rfl dX10_layLine_96 (fun H locs hP hD hS => ?_)
          refine k_X10_layLine_J99 C0 ?_ v1_27 v2_28 manyLine_31 retired_30 x_71 months_32 f_69 f_70 _ _ _ hP hD hS (lv_sub hl [1, 2, 3, 0] rfl) hw
          intro v1_72 retired_73 manyLine_74 months_75 heirs_76 lasts_77 H locs ls hP hD hS hl hw
          exact ih v1_72 retired_73 manyLine_74 months_75 heirs_76 lasts_77 _ _ _ hP hD hS (lv_sub hl [0, 1] rfl) hw
def wp_X10_layLine (told : Nat → Int32) (retired : Int32) (manyLine : Int32) (months : Nat → Int32) (heirs : Nat → Int32) (lasts : Nat → Int32) (Post : Int32 → Int32 → (Nat → Int32) → (Nat → Int32) → (Nat → Int32) → Prop) : Prop :=
  (wp_X10_layHand told retired months (fun retired_1 months_2 => (∃ k_79 : Nat, wp_X10_layLine_L11 told Post k_79 0 retired_1 0 months_2 heirs lasts)))
set_option maxHeartbeats 4000000 in
set_option maxRecDepth 100000 in
theorem c_X10_layLine (l : Launch) (D : va_G) (cI cB cZ cP cC : ClassId) (a_m a_m_told a_m_kept a_m_isKept a_m_refused a_m_months a_m_heirs a_m_lasts a_m_cares a_m_bestCares a_m_ones a_m_others a_m_bytes a_m_anew a_m_values : Nat) (above : Int64) (below : Int64) (retired : Int32) (manyLine : Int32) (bytesLong : Int32) (tokenAt : Int32) (tokenLong : Int32) (token : Int32) (value : Int32) (told : Nat → Int32) (months : Nat → Int32) (heirs : Nat → Int32) (lasts : Nat → Int32)  (sz : Nat) (Post : Int32 → Int32 → (Nat → Int32) → (Nat → Int32) → (Nat → Int32) → Prop) (hw : wp_X10_layLine told retired manyLine months heirs lasts Post) :
    Met l yX10_layLine (Cond.code yX10_layLine cX10_layLine 5 none :: wsAll) rm_X10_layLine (va_Pc [.ref a_m] (mxP D (mxTy cI cB cZ cP cC) sz (ww_X10_layLine a_m a_m_told a_m_kept a_m_isKept a_m_refused a_m_months a_m_heirs a_m_lasts a_m_cares a_m_bestCares a_m_ones a_m_others a_m_bytes a_m_anew a_m_values cI cB cZ cP cC above below retired manyLine bytesLong tokenAt tokenLong token value told months heirs lasts))) (qq_X10_layLine D a_m a_m_told a_m_kept a_m_isKept a_m_refused a_m_months a_m_heirs a_m_lasts a_m_cares a_m_bestCares a_m_ones a_m_others a_m_bytes a_m_anew a_m_values cI cB cZ cP cC above below bytesLong tokenAt tokenLong token value told Post (va_A (ww_X10_layLine a_m a_m_told a_m_kept a_m_isKept a_m_refused a_m_months a_m_heirs a_m_lasts a_m_cares a_m_bestCares a_m_ones a_m_others a_m_bytes a_m_anew a_m_values cI cB cZ cP cC above below retired manyLine bytesLong tokenAt tokenLong token value told months heirs lasts) sz)) 0 0 (va_A (ww_X10_layLine a_m a_m_told a_m_kept a_m_isKept a_m_refused a_m_months a_m_heirs a_m_lasts a_m_cares a_m_bestCares a_m_ones a_m_others a_m_bytes a_m_anew a_m_values cI cB cZ cP cC above below retired manyLine bytesLong tokenAt tokenLong token value told months heirs lasts) sz) := by
  refine mx_of (Qc := qq_X10_layLine D a_m a_m_told a_m_kept a_m_isKept a_m_refused a_m_months a_m_heirs a_m_lasts a_m_cares a_m_bestCares a_m_ones a_m_others a_m_bytes a_m_anew a_m_values cI cB cZ cP cC above below bytesLong tokenAt tokenLong token value told Post) (by decide) (Nat.le_of_ble_eq_true rfl) ?_
  intro p e s m bl meth c A ls C0 hP hD hS hl
  replace C0 : mxC p s m [.ref a_m].toArray meth c cX10_layLine RX10 none 5 D (mxTy cI cB cZ cP cC) A := C0
  obtain ⟨hx, hb, hr, hlocks, hml, hown, hts, hK, hA⟩ := id C0
  replace hl : lv_has ls 5 [(0, .ref a_m)] := hl
  unfold wp_X10_layLine at hw
  refine lv_aload_n hx hb dX10_layLine_0 rfl (lv_at hl 0 rfl) ?_
  refine lv_iconst (v := 0) hx hb dX10_layLine_1 (by decide) ?_
  refine mx_put (ci := 10) (C := RX10) (T := TX10) (N := 23) hx hb hown in_wsX100 tyX10 tyX10_ok nmX10 hts hK hP hD hS 0 rfl rfl 10 (by decide) q_669 rfl rfl rfl rfl (Nat.le_of_ble_eq_true rfl) (ww_X10_layLine a_m a_m_told a_m_kept a_m_isKept a_m_refused a_m_months a_m_heirs a_m_lasts a_m_cares a_m_bestCares a_m_ones a_m_others a_m_bytes a_m_anew a_m_values cI cB cZ cP cC above below retired 0 bytesLong tokenAt tokenLong token value told months heirs lasts) rfl dX10_layLine_2 (fun H locs hP hD hS => ?_)
  refine lv_aload_n hx hb dX10_layLine_5 rfl (lv_at hl 0 rfl) ?_
  refine mx_kv (mx_rV (rm := rm_X10_layHand) (rest := []) (C := RX10) hx hb hml hown hts (c_X10_layHand l D cI cB cZ cP cC a_m a_m_told a_m_kept a_m_isKept a_m_refused a_m_months a_m_heirs a_m_lasts a_m_cares a_m_bestCares a_m_ones a_m_others a_m_bytes a_m_anew a_m_values above below retired 0 bytesLong tokenAt tokenLong token value told months _ _ hw) q_437 q_438 q_439 q_5 q_440 hd_X10_layHand ⟨(Nat.le_of_ble_eq_true rfl), (Nat.le_of_ble_eq_true rfl)⟩ rfl rfl hK hP hD [0, 1, 2] rfl rfl 10 0 rfl rfl rfl rfl hl.1 rfl (Nat.le_of_ble_eq_true rfl) dX10_layLine_6 ⟨(Nat.le_of_ble_eq_true rfl), (Nat.le_of_ble_eq_true rfl)⟩) hP hD hS hA [0, 1, 2] [3, 4] [2, 3, 4, 0, 1] (fun u => ww_X10_layLine a_m a_m_told a_m_kept a_m_isKept a_m_refused a_m_months a_m_heirs a_m_lasts a_m_cares a_m_bestCares a_m_ones a_m_others a_m_bytes a_m_anew a_m_values cI cB cZ cP cC above below (u.1) 0 bytesLong tokenAt tokenLong token value told (u.2) heirs lasts) rfl rfl rfl (by decide) rfl (fun _ => rfl) (fun u H locs hw hP hD hS => ?_)
  obtain ⟨retired_1, months_2⟩ := u
  try dsimp only at hw
  replace hP : va_P D vwCl (ww_X10_layLine a_m a_m_told a_m_kept a_m_isKept a_m_refused a_m_months a_m_heirs a_m_lasts a_m_cares a_m_bestCares a_m_ones a_m_others a_m_bytes a_m_anew a_m_values cI cB cZ cP cC above below retired_1 0 bytesLong tokenAt tokenLong token value told months_2 heirs lasts) H := hP
  replace hD : va_D A (ww_X10_layLine a_m a_m_told a_m_kept a_m_isKept a_m_refused a_m_months a_m_heirs a_m_lasts a_m_cares a_m_bestCares a_m_ones a_m_others a_m_bytes a_m_anew a_m_values cI cB cZ cP cC above below retired_1 0 bytesLong tokenAt tokenLong token value told months_2 heirs lasts) := hD
  refine lv_iconst (v := 0) hx hb dX10_layLine_9 (by decide) ?_
  refine lv_istore_n (lv' := [(1, .int 0), (0, .ref a_m)]) hx hb dX10_layLine_10 rfl hl (by decide) rfl (fun ls hl => ?_)
  obtain ⟨n0, hw⟩ := hw
  refine k_X10_layLine_L11 C0  n0 0 retired_1 0 months_2 heirs lasts _ _ _ hP hD hS (lv_sub hl [1, 0] rfl) hw
/-! PramStateModel.line(II)I -/
abbrev ww_X10_line (a_m a_m_told a_m_kept a_m_isKept a_m_refused a_m_months a_m_heirs a_m_lasts a_m_cares a_m_bestCares a_m_ones a_m_others a_m_bytes a_m_anew a_m_values : Nat) (cI cB cZ cP cC : ClassId) (above : Int64) (below : Int64) (retired : Int32) (manyLine : Int32) (bytesLong : Int32) (tokenAt : Int32) (tokenLong : Int32) (token : Int32) (value : Int32) (told : Nat → Int32) (refused : Nat → Int32) (months : Nat → Int32) (heirs : Nat → Int32) (lasts : Nat → Int32) : va_W := [(a_m, .inr (10, [.ref a_m_told, .ref a_m_kept, .ref a_m_isKept, .ref a_m_refused, .long above, .long below, .ref a_m_months, .int retired, .ref a_m_heirs, .ref a_m_lasts, .int manyLine, .ref a_m_cares, .ref a_m_bestCares, .ref a_m_ones, .ref a_m_others, .ref a_m_bytes, .int bytesLong, .int tokenAt, .int tokenLong, .int token, .int value, .ref a_m_anew, .ref a_m_values])), (a_m_told, .inl (cI, 190, .inl told)), (a_m_refused, .inl (cI, 3, .inl refused)), (a_m_months, .inl (cI, 6, .inl months)), (a_m_heirs, .inl (cI, 6, .inl heirs)), (a_m_lasts, .inl (cI, 6, .inl lasts))]
abbrev qq_X10_line (D : va_G) (a_m a_m_told a_m_kept a_m_isKept a_m_refused a_m_months a_m_heirs a_m_lasts a_m_cares a_m_bestCares a_m_ones a_m_others a_m_bytes a_m_anew a_m_values : Nat) (cI cB cZ cP cC : ClassId) (above : Int64) (below : Int64) (bytesLong : Int32) (tokenAt : Int32) (tokenLong : Int32) (token : Int32) (value : Int32) (told : Nat → Int32) (Post : Int32 → Int32 → Int32 → (Nat → Int32) → (Nat → Int32) → (Nat → Int32) → (Nat → Int32) → Prop) (A : Nat → Prop) : Array Value → State → Outcome → State → Prop := va_Qi (fun (r : Int32) (u : Int32 × Int32 × (Nat → Int32) × (Nat → Int32) × (Nat → Int32) × (Nat → Int32)) => Post r u.1 u.2.1 u.2.2.1 u.2.2.2.1 u.2.2.2.2.1 u.2.2.2.2.2) (fun (u : Int32 × Int32 × (Nat → Int32) × (Nat → Int32) × (Nat → Int32) × (Nat → Int32)) t => mxB D (mxTy cI cB cZ cP cC) A (ww_X10_line a_m a_m_told a_m_kept a_m_isKept a_m_refused a_m_months a_m_heirs a_m_lasts a_m_cares a_m_bestCares a_m_ones a_m_others a_m_bytes a_m_anew a_m_values cI cB cZ cP cC above below (u.1) (u.2.1) bytesLong tokenAt tokenLong token value told (u.2.2.1) (u.2.2.2.1) (u.2.2.2.2.1) (u.2.2.2.2.2)) t) A
abbrev rm_X10_line : Room := { frames := 3, cells := 0, slots := 0, locals := 68 }
theorem hd_X10_line : yX10_line.cls = RX10 ∧ yX10_line.cls ≠ "java/lang/invoke/MethodHandle" ∧ yX10_line.cls ≠ "java/lang/invoke/VarHandle" ∧ (parseMethodDescriptor yX10_line.desc).map (fun d => d.parameters.length) = some 2 := by decide +kernel
def wp_X10_line_J15 (told : Nat → Int32) (Post : Int32 → Int32 → Int32 → (Nat → Int32) → (Nat → Int32) → (Nat → Int32) → (Nat → Int32) → Prop)  (retired : Int32) (manyLine : Int32) (refused : Nat → Int32) (months : Nat → Int32) (heirs : Nat → Int32) (lasts : Nat → Int32) : Prop :=
  (wp_X10_bad refused (-10) (fun r_2 refused_3 => Post r_2 retired manyLine refused_3 months heirs lasts))
set_option maxHeartbeats 4000000 in
set_option maxRecDepth 100000 in
theorem k_X10_line_J15 {p : Program} {l : Launch} {e : Env} {s : State} {m : MethodId} {ar : Array Value} {bl : List Frame} {meth : Method} {c : Code} {D : va_G} {A : Nat → Prop} {cI cB cZ cP cC : ClassId} {a_m a_m_told a_m_kept a_m_isKept a_m_refused a_m_months a_m_heirs a_m_lasts a_m_cares a_m_bestCares a_m_ones a_m_others a_m_bytes a_m_anew a_m_values : Nat} {above : Int64} {below : Int64} {bytesLong : Int32} {tokenAt : Int32} {tokenLong : Int32} {token : Int32} {value : Int32} {told : Nat → Int32} {Post : Int32 → Int32 → Int32 → (Nat → Int32) → (Nat → Int32) → (Nat → Int32) → (Nat → Int32) → Prop} (C0 : mxC p s m ar meth c cX10_line RX10 (some .int) 3 D (mxTy cI cB cZ cP cC) A) :
    ∀ (retired : Int32) (manyLine : Int32) (refused : Nat → Int32) (months : Nat → Int32) (heirs : Nat → Int32) (lasts : Nat → Int32) (H : Heap) (locs : List Loc) (ls : Array Slot), va_P D vwCl (ww_X10_line a_m a_m_told a_m_kept a_m_isKept a_m_refused a_m_months a_m_heirs a_m_lasts a_m_cares a_m_bestCares a_m_ones a_m_others a_m_bytes a_m_anew a_m_values cI cB cZ cP cC above below retired manyLine bytesLong tokenAt tokenLong token value told refused months heirs lasts) H → va_D A (ww_X10_line a_m a_m_told a_m_kept a_m_isKept a_m_refused a_m_months a_m_heirs a_m_lasts a_m_cares a_m_bestCares a_m_ones a_m_others a_m_bytes a_m_anew a_m_values cI cB cZ cP cC above below retired manyLine bytesLong tokenAt tokenLong token value told refused months heirs lasts) → va_S A s.heap H locs → lv_has ls 3 [(0, .ref a_m)] → wp_X10_line_J15 told Post  retired manyLine refused months heirs lasts → W p l e rm_X10_line s m ar bl meth c H locs 0 0 (MQ bl (qq_X10_line D a_m a_m_told a_m_kept a_m_isKept a_m_refused a_m_months a_m_heirs a_m_lasts a_m_cares a_m_bestCares a_m_ones a_m_others a_m_bytes a_m_anew a_m_values cI cB cZ cP cC above below bytesLong tokenAt tokenLong token value told Post A) ar s 0 0 A) (F0 m 15 ls []) := by
  obtain ⟨hx, hb, hr, hlocks, hml, hown, hts, hK, hA⟩ := id C0
  intro retired manyLine refused months heirs lasts H locs ls hP hD hS hl hw
  refine lv_aload_n hx hb dX10_line_15 rfl (lv_at hl 0 rfl) ?_
  refine lv_bipush (v := (-10)) hx hb dX10_line_16 (by decide) ?_
  refine mx_ki (mx_rV (rm := rm_X10_bad) (rest := []) (C := RX10) hx hb hml hown hts (c_X10_bad l D cI cB cZ cP cC a_m a_m_told a_m_kept a_m_isKept a_m_refused a_m_months a_m_heirs a_m_lasts a_m_cares a_m_bestCares a_m_ones a_m_others a_m_bytes a_m_anew a_m_values above below retired manyLine bytesLong tokenAt tokenLong token value refused (-10) _ _ hw) q_166 q_167 q_168 q_5 q_169 hd_X10_bad ⟨(Nat.le_of_ble_eq_true rfl), (Nat.le_of_ble_eq_true rfl)⟩ rfl rfl hK hP hD [0, 2] rfl rfl 10 0 rfl rfl rfl rfl hl.1 rfl (Nat.le_of_ble_eq_true rfl) dX10_line_18 ⟨(Nat.le_of_ble_eq_true rfl), (Nat.le_of_ble_eq_true rfl)⟩) hP hD hS hA [0, 2] [1, 3, 4, 5] [4, 0, 5, 1, 2, 3] (fun u => ww_X10_line a_m a_m_told a_m_kept a_m_isKept a_m_refused a_m_months a_m_heirs a_m_lasts a_m_cares a_m_bestCares a_m_ones a_m_others a_m_bytes a_m_anew a_m_values cI cB cZ cP cC above below retired manyLine bytesLong tokenAt tokenLong token value told u months heirs lasts) rfl rfl rfl (by decide) rfl (fun _ => rfl) (fun r_2 refused_3 H locs hw hP hD hS => ?_)
  try dsimp only at hw
  replace hP : va_P D vwCl (ww_X10_line a_m a_m_told a_m_kept a_m_isKept a_m_refused a_m_months a_m_heirs a_m_lasts a_m_cares a_m_bestCares a_m_ones a_m_others a_m_bytes a_m_anew a_m_values cI cB cZ cP cC above below retired manyLine bytesLong tokenAt tokenLong token value told refused_3 months heirs lasts) H := hP
  replace hD : va_D A (ww_X10_line a_m a_m_told a_m_kept a_m_isKept a_m_refused a_m_months a_m_heirs a_m_lasts a_m_cares a_m_bestCares a_m_ones a_m_others a_m_bytes a_m_anew a_m_values cI cB cZ cP cC above below retired manyLine bytesLong tokenAt tokenLong token value told refused_3 months heirs lasts) := hD
  exact mx_iret (retired, manyLine, refused_3, months, heirs, lasts) hx hb hr hlocks rfl hw hK hP hD hS dX10_line_21
def wp_X10_line (told : Nat → Int32) (retired : Int32) (manyLine : Int32) (refused : Nat → Int32) (months : Nat → Int32) (heirs : Nat → Int32) (lasts : Nat → Int32) (v1 : Int32) (v2 : Int32) (Post : Int32 → Int32 → Int32 → (Nat → Int32) → (Nat → Int32) → (Nat → Int32) → (Nat → Int32) → Prop) : Prop :=
  ((v1 < (-1) → (wp_X10_line_J15 told Post retired manyLine refused months heirs lasts)) ∧ (¬ v1 < (-1) → (wp_X10_in (v2.toInt64) 0 1 (fun r_4 => ((r_4 = 0 → (wp_X10_line_J15 told Post retired manyLine refused months heirs lasts)) ∧ (¬ r_4 = 0 → (wp_X10_layLine told retired manyLine months heirs lasts (fun retired_6 manyLine_7 months_8 heirs_9 lasts_10 => ((v1 = (-1) → Post manyLine_7 retired_6 manyLine_7 refused months_8 heirs_9 lasts_10) ∧ (¬ v1 = (-1) → ((v1 < manyLine_7 → ((v2 = 0 → (vp_in v1 6 ∧ Post (heirs_9 v1.toNatClampNeg) retired_6 manyLine_7 refused months_8 heirs_9 lasts_10)) ∧ (¬ v2 = 0 → (vp_in v1 6 ∧ Post (lasts_10 v1.toNatClampNeg) retired_6 manyLine_7 refused months_8 heirs_9 lasts_10)))) ∧ (¬ v1 < manyLine_7 → Post (-5) retired_6 manyLine_7 refused months_8 heirs_9 lasts_10))))))))))))
set_option maxHeartbeats 4000000 in
set_option maxRecDepth 100000 in
theorem c_X10_line (l : Launch) (D : va_G) (cI cB cZ cP cC : ClassId) (a_m a_m_told a_m_kept a_m_isKept a_m_refused a_m_months a_m_heirs a_m_lasts a_m_cares a_m_bestCares a_m_ones a_m_others a_m_bytes a_m_anew a_m_values : Nat) (above : Int64) (below : Int64) (retired : Int32) (manyLine : Int32) (bytesLong : Int32) (tokenAt : Int32) (tokenLong : Int32) (token : Int32) (value : Int32) (told : Nat → Int32) (refused : Nat → Int32) (months : Nat → Int32) (heirs : Nat → Int32) (lasts : Nat → Int32) (v1 : Int32) (v2 : Int32) (sz : Nat) (Post : Int32 → Int32 → Int32 → (Nat → Int32) → (Nat → Int32) → (Nat → Int32) → (Nat → Int32) → Prop) (hw : wp_X10_line told retired manyLine refused months heirs lasts v1 v2 Post) :
    Met l yX10_line (Cond.code yX10_line cX10_line 3 (some .int) :: wsAll) rm_X10_line (va_Pc [.ref a_m, .int v1, .int v2] (mxP D (mxTy cI cB cZ cP cC) sz (ww_X10_line a_m a_m_told a_m_kept a_m_isKept a_m_refused a_m_months a_m_heirs a_m_lasts a_m_cares a_m_bestCares a_m_ones a_m_others a_m_bytes a_m_anew a_m_values cI cB cZ cP cC above below retired manyLine bytesLong tokenAt tokenLong token value told refused months heirs lasts))) (qq_X10_line D a_m a_m_told a_m_kept a_m_isKept a_m_refused a_m_months a_m_heirs a_m_lasts a_m_cares a_m_bestCares a_m_ones a_m_others a_m_bytes a_m_anew a_m_values cI cB cZ cP cC above below bytesLong tokenAt tokenLong token value told Post (va_A (ww_X10_line a_m a_m_told a_m_kept a_m_isKept a_m_refused a_m_months a_m_heirs a_m_lasts a_m_cares a_m_bestCares a_m_ones a_m_others a_m_bytes a_m_anew a_m_values cI cB cZ cP cC above below retired manyLine bytesLong tokenAt tokenLong token value told refused months heirs lasts) sz)) 0 0 (va_A (ww_X10_line a_m a_m_told a_m_kept a_m_isKept a_m_refused a_m_months a_m_heirs a_m_lasts a_m_cares a_m_bestCares a_m_ones a_m_others a_m_bytes a_m_anew a_m_values cI cB cZ cP cC above below retired manyLine bytesLong tokenAt tokenLong token value told refused months heirs lasts) sz) := by
  refine mx_of (Qc := qq_X10_line D a_m a_m_told a_m_kept a_m_isKept a_m_refused a_m_months a_m_heirs a_m_lasts a_m_cares a_m_bestCares a_m_ones a_m_others a_m_bytes a_m_anew a_m_values cI cB cZ cP cC above below bytesLong tokenAt tokenLong token value told Post) (by decide) (Nat.le_of_ble_eq_true rfl) ?_
  intro p e s m bl meth c A ls C0 hP hD hS hl
  replace C0 : mxC p s m [.ref a_m, .int v1, .int v2].toArray meth c cX10_line RX10 (some .int) 3 D (mxTy cI cB cZ cP cC) A := C0
  obtain ⟨hx, hb, hr, hlocks, hml, hown, hts, hK, hA⟩ := id C0
  replace hl : lv_has ls 3 [(0, .ref a_m), (1, .int v1), (2, .int v2)] := hl
  unfold wp_X10_line at hw
  refine lv_iload_n hx hb dX10_line_0 rfl (lv_at hl 1 rfl) ?_
  refine lv_iconst (v := (-1)) hx hb dX10_line_1 (by decide) ?_
  refine lv_icmp_lt (tgt := 15) hx hb dX10_line_2 (by decide) (fun c_1 => ?_) (fun c_1 => ?_)
  · replace hw := hw.1 c_1
    exact k_X10_line_J15 C0  retired manyLine refused months heirs lasts _ _ _ hP hD hS (lv_sub hl [0] rfl) hw
  · replace hw := hw.2 c_1
    refine lv_iload_n hx hb dX10_line_5 rfl (lv_at hl 2 rfl) ?_
    refine lv_i2l (v := v2.toInt64) hx hb dX10_line_6 rfl ?_
    refine lv_lconst (v := 0) hx hb dX10_line_7 rfl ?_
    refine lv_lconst (v := 1) hx hb dX10_line_8 rfl ?_
    refine mx_ki (mx_rS (rm := rm_X10_in) (rest := []) hx hb hml hown hts (c_X10_in l D cI cB cZ cP cC (v2.toInt64) 0 1 _ _ hw) q_163 q_164 q_5 q_165 hd_X10_in ⟨(Nat.le_of_ble_eq_true rfl), (Nat.le_of_ble_eq_true rfl)⟩ rfl rfl hK hP hD [] rfl rfl rfl hl.1 rfl (Nat.le_of_ble_eq_true rfl) dX10_line_9 ⟨(Nat.le_of_ble_eq_true rfl), (Nat.le_of_ble_eq_true rfl)⟩) hP hD hS hA [] [0, 1, 2, 3, 4, 5] [0, 1, 2, 3, 4, 5] (fun _ => ww_X10_line a_m a_m_told a_m_kept a_m_isKept a_m_refused a_m_months a_m_heirs a_m_lasts a_m_cares a_m_bestCares a_m_ones a_m_others a_m_bytes a_m_anew a_m_values cI cB cZ cP cC above below retired manyLine bytesLong tokenAt tokenLong token value told refused months heirs lasts) rfl rfl rfl (by decide) rfl (fun _ => rfl) (fun r_4 u H locs hw hP hD hS => ?_)
    try dsimp only at hw
    replace hP : va_P D vwCl (ww_X10_line a_m a_m_told a_m_kept a_m_isKept a_m_refused a_m_months a_m_heirs a_m_lasts a_m_cares a_m_bestCares a_m_ones a_m_others a_m_bytes a_m_anew a_m_values cI cB cZ cP cC above below retired manyLine bytesLong tokenAt tokenLong token value told refused months heirs lasts) H := hP
    replace hD : va_D A (ww_X10_line a_m a_m_told a_m_kept a_m_isKept a_m_refused a_m_months a_m_heirs a_m_lasts a_m_cares a_m_bestCares a_m_ones a_m_others a_m_bytes a_m_anew a_m_values cI cB cZ cP cC above below retired manyLine bytesLong tokenAt tokenLong token value told refused months heirs lasts) := hD
    refine lv_if_ne (tgt := 22) hx hb dX10_line_12 (by decide) (fun c_5 => ?_) (fun c_5 => ?_)
    · replace hw := hw.2 c_5
      refine lv_aload_n hx hb dX10_line_22 rfl (lv_at hl 0 rfl) ?_
      refine mx_kv (mx_rV (rm := rm_X10_layLine) (rest := []) (C := RX10) hx hb hml hown hts (c_X10_layLine l D cI cB cZ cP cC a_m a_m_told a_m_kept a_m_isKept a_m_refused a_m_months a_m_heirs a_m_lasts a_m_cares a_m_bestCares a_m_ones a_m_others a_m_bytes a_m_anew a_m_values above below retired manyLine bytesLong tokenAt tokenLong token value told months heirs lasts _ _ hw) q_670 q_671 q_672 q_5 q_673 hd_X10_layLine ⟨(Nat.le_of_ble_eq_true rfl), (Nat.le_of_ble_eq_true rfl)⟩ rfl rfl hK hP hD [0, 1, 3, 4, 5] rfl rfl 10 0 rfl rfl rfl rfl hl.1 rfl (Nat.le_of_ble_eq_true rfl) dX10_line_23 ⟨(Nat.le_of_ble_eq_true rfl), (Nat.le_of_ble_eq_true rfl)⟩) hP hD hS hA [0, 1, 3, 4, 5] [2] [1, 2, 0, 3, 4, 5] (fun u => ww_X10_line a_m a_m_told a_m_kept a_m_isKept a_m_refused a_m_months a_m_heirs a_m_lasts a_m_cares a_m_bestCares a_m_ones a_m_others a_m_bytes a_m_anew a_m_values cI cB cZ cP cC above below (u.1) (u.2.1) bytesLong tokenAt tokenLong token value told refused (u.2.2.1) (u.2.2.2.1) (u.2.2.2.2)) rfl rfl rfl (by decide) rfl (fun _ => rfl) (fun u H locs hw hP hD hS => ?_)
      obtain ⟨retired_6, manyLine_7, months_8, heirs_9, lasts_10⟩ := u
      try dsimp only at hw
      replace hP : va_P D vwCl (ww_X10_line a_m a_m_told a_m_kept a_m_isKept a_m_refused a_m_months a_m_heirs a_m_lasts a_m_cares a_m_bestCares a_m_ones a_m_others a_m_bytes a_m_anew a_m_values cI cB cZ cP cC above below retired_6 manyLine_7 bytesLong tokenAt tokenLong token value told refused months_8 heirs_9 lasts_10) H := hP
      replace hD : va_D A (ww_X10_line a_m a_m_told a_m_kept a_m_isKept a_m_refused a_m_months a_m_heirs a_m_lasts a_m_cares a_m_bestCares a_m_ones a_m_others a_m_bytes a_m_anew a_m_values cI cB cZ cP cC above below retired_6 manyLine_7 bytesLong tokenAt tokenLong token value told refused months_8 heirs_9 lasts_10) := hD
      refine lv_iload_n hx hb dX10_line_26 rfl (lv_at hl 1 rfl) ?_
      refine lv_iconst (v := (-1)) hx hb dX10_line_27 (by decide) ?_
      refine lv_icmp_ne (tgt := 38) hx hb dX10_line_28 (by decide) (fun c_11 => ?_) (fun c_11 => ?_)
      · replace hw := hw.2 c_11
        refine lv_iload_n hx hb dX10_line_38 rfl (lv_at hl 1 rfl) ?_
        refine lv_aload_n hx hb dX10_line_39 rfl (lv_at hl 0 rfl) ?_
        refine mx_get (ci := 10) (C := RX10) (T := TX10) (N := 23) hx hb hown in_wsX100 hts hK hP 0 rfl rfl 10 (by decide) q_669 rfl (v := .int manyLine_7) rfl dX10_line_40 ?_
        refine lv_icmp_lt (tgt := 51) hx hb dX10_line_43 (by decide) (fun c_12 => ?_) (fun c_12 => ?_)
        · replace hw := hw.1 c_12
          refine lv_iload_n hx hb dX10_line_51 rfl (lv_at hl 2 rfl) ?_
          refine lv_if_ne (tgt := 64) hx hb dX10_line_52 (by decide) (fun c_13 => ?_) (fun c_13 => ?_)
          · replace hw := hw.2 c_13
            refine lv_aload_n hx hb dX10_line_64 rfl (lv_at hl 0 rfl) ?_
            refine mx_get (ci := 10) (C := RX10) (T := TX10) (N := 23) hx hb hown in_wsX100 hts hK hP 0 rfl rfl 9 (by decide) q_98 rfl (v := .ref a_m_lasts) rfl dX10_line_65 ?_
            refine lv_iload_n hx hb dX10_line_68 rfl (lv_at hl 1 rfl) ?_
            obtain ⟨h_14, hw⟩ := hw
            refine mx_iald hx hb hK hP 5 0 rfl rfl h_14 (lasts_10 v1.toNatClampNeg) rfl dX10_line_69 ?_
            exact mx_iret (retired_6, manyLine_7, refused, months_8, heirs_9, lasts_10) hx hb hr hlocks rfl hw hK hP hD hS dX10_line_70
          · replace hw := hw.1 c_13
            refine lv_aload_n hx hb dX10_line_55 rfl (lv_at hl 0 rfl) ?_
            refine mx_get (ci := 10) (C := RX10) (T := TX10) (N := 23) hx hb hown in_wsX100 hts hK hP 0 rfl rfl 8 (by decide) q_97 rfl (v := .ref a_m_heirs) rfl dX10_line_56 ?_
            refine lv_iload_n hx hb dX10_line_59 rfl (lv_at hl 1 rfl) ?_
            obtain ⟨h_15, hw⟩ := hw
            refine mx_iald hx hb hK hP 4 0 rfl rfl h_15 (heirs_9 v1.toNatClampNeg) rfl dX10_line_60 ?_
            refine lv_goto (tgt := 70) hx hb dX10_line_61 (by decide) ?_
            exact mx_iret (retired_6, manyLine_7, refused, months_8, heirs_9, lasts_10) hx hb hr hlocks rfl hw hK hP hD hS dX10_line_70
        · replace hw := hw.2 c_12
          refine lv_bipush (v := (-5)) hx hb dX10_line_46 (by decide) ?_
          refine lv_goto (tgt := 70) hx hb dX10_line_48 (by decide) ?_
          exact mx_iret (retired_6, manyLine_7, refused, months_8, heirs_9, lasts_10) hx hb hr hlocks rfl hw hK hP hD hS dX10_line_70
      · replace hw := hw.1 c_11
        refine lv_aload_n hx hb dX10_line_31 rfl (lv_at hl 0 rfl) ?_
        refine mx_get (ci := 10) (C := RX10) (T := TX10) (N := 23) hx hb hown in_wsX100 hts hK hP 0 rfl rfl 10 (by decide) q_669 rfl (v := .int manyLine_7) rfl dX10_line_32 ?_
        refine lv_goto (tgt := 70) hx hb dX10_line_35 (by decide) ?_
        exact mx_iret (retired_6, manyLine_7, refused, months_8, heirs_9, lasts_10) hx hb hr hlocks rfl hw hK hP hD hS dX10_line_70
    · replace hw := hw.1 c_5
      exact k_X10_line_J15 C0  retired manyLine refused months heirs lasts _ _ _ hP hD hS (lv_sub hl [0] rfl) hw
/-! PramStateModel.far(II)I -/
abbrev ww_X10_far (cI cB cZ cP cC : ClassId)  : va_W := []
abbrev qq_X10_far (D : va_G) (cI cB cZ cP cC : ClassId)  (Post : Int32 → Prop) (A : Nat → Prop) : Array Value → State → Outcome → State → Prop := va_Qi (fun (r : Int32) (u : Unit) => Post r) (fun (u : Unit) t => mxB D (mxTy cI cB cZ cP cC) A (ww_X10_far cI cB cZ cP cC) t) A
abbrev rm_X10_far : Room := { frames := 0, cells := 0, slots := 0, locals := 0 }
theorem hd_X10_far : yX10_far.cls ≠ "java/lang/invoke/MethodHandle" ∧ yX10_far.cls ≠ "java/lang/invoke/VarHandle" ∧ (parseMethodDescriptor yX10_far.desc).map (fun d => d.parameters.length) = some 2 := by decide +kernel
def wp_X10_far_J14  (Post : Int32 → Prop)  (s0 : Int32) : Prop :=
  ((s0 ≤ 3 → Post s0) ∧ (¬ s0 ≤ 3 → Post (6 - s0)))
set_option maxHeartbeats 4000000 in
set_option maxRecDepth 100000 in
theorem k_X10_far_J14 {p : Program} {l : Launch} {e : Env} {s : State} {m : MethodId} {ar : Array Value} {bl : List Frame} {meth : Method} {c : Code} {D : va_G} {A : Nat → Prop} {cI cB cZ cP cC : ClassId} {Post : Int32 → Prop} (C0 : mxC p s m ar meth c cX10_far RX10 (some .int) 3 D (mxTy cI cB cZ cP cC) A) :
    ∀ (s0 : Int32) (H : Heap) (locs : List Loc) (ls : Array Slot), va_P D vwCl (ww_X10_far cI cB cZ cP cC) H → va_D A (ww_X10_far cI cB cZ cP cC) → va_S A s.heap H locs → lv_has ls 3 [] → wp_X10_far_J14 Post  s0 → W p l e rm_X10_far s m ar bl meth c H locs 0 0 (MQ bl (qq_X10_far D cI cB cZ cP cC Post A) ar s 0 0 A) (F0 m 14 ls [.int s0]) := by
  obtain ⟨hx, hb, hr, hlocks, hml, hown, hts, hK, hA⟩ := id C0
  intro s0 H locs ls hP hD hS hl hw
  refine lv_istore_n (lv' := [(2, .int s0)]) hx hb dX10_far_14 rfl hl (by decide) rfl (fun ls hl => ?_)
  refine lv_iload_n hx hb dX10_far_15 rfl (lv_at hl 0 rfl) ?_
  refine lv_iconst (v := 3) hx hb dX10_far_16 (by decide) ?_
  refine lv_icmp_le (tgt := 27) hx hb dX10_far_17 (by decide) (fun c_2 => ?_) (fun c_2 => ?_)
  · replace hw := hw.1 c_2
    refine lv_iload_n hx hb dX10_far_27 rfl (lv_at hl 0 rfl) ?_
    exact mx_iret () hx hb hr hlocks rfl hw hK hP hD hS dX10_far_28
  · replace hw := hw.2 c_2
    refine lv_bipush (v := 6) hx hb dX10_far_20 (by decide) ?_
    refine lv_iload_n hx hb dX10_far_22 rfl (lv_at hl 0 rfl) ?_
    refine lv_isub hx hb dX10_far_23 ?_
    refine lv_goto (tgt := 28) hx hb dX10_far_24 (by decide) ?_
    exact mx_iret () hx hb hr hlocks rfl hw hK hP hD hS dX10_far_28
def wp_X10_far (v0 : Int32) (v1 : Int32) (Post : Int32 → Prop) : Prop :=
  ((v1 ≤ v0 → (wp_X10_far_J14 Post (v0 - v1))) ∧ (¬ v1 ≤ v0 → (wp_X10_far_J14 Post (v1 - v0))))
set_option maxHeartbeats 4000000 in
set_option maxRecDepth 100000 in
theorem c_X10_far (l : Launch) (D : va_G) (cI cB cZ cP cC : ClassId)  (v0 : Int32) (v1 : Int32) (sz : Nat) (Post : Int32 → Prop) (hw : wp_X10_far v0 v1 Post) :
    Met l yX10_far (Cond.code yX10_far cX10_far 3 (some .int) :: wsAll) rm_X10_far (va_Pc [.int v0, .int v1] (mxP D (mxTy cI cB cZ cP cC) sz (ww_X10_far cI cB cZ cP cC))) (qq_X10_far D cI cB cZ cP cC Post (va_A (ww_X10_far cI cB cZ cP cC) sz)) 0 0 (va_A (ww_X10_far cI cB cZ cP cC) sz) := by
  refine mx_of (Qc := qq_X10_far D cI cB cZ cP cC Post) (by decide) (Nat.le_of_ble_eq_true rfl) ?_
  intro p e s m bl meth c A ls C0 hP hD hS hl
  replace C0 : mxC p s m [.int v0, .int v1].toArray meth c cX10_far RX10 (some .int) 3 D (mxTy cI cB cZ cP cC) A := C0
  obtain ⟨hx, hb, hr, hlocks, hml, hown, hts, hK, hA⟩ := id C0
  replace hl : lv_has ls 3 [(0, .int v0), (1, .int v1)] := hl
  unfold wp_X10_far at hw
  refine lv_iload_n hx hb dX10_far_0 rfl (lv_at hl 0 rfl) ?_
  refine lv_iload_n hx hb dX10_far_1 rfl (lv_at hl 1 rfl) ?_
  refine lv_icmp_ge (tgt := 11) hx hb dX10_far_2 (by decide) (fun c_1 => ?_) (fun c_1 => ?_)
  · replace hw := hw.1 c_1
    refine lv_iload_n hx hb dX10_far_11 rfl (lv_at hl 0 rfl) ?_
    refine lv_iload_n hx hb dX10_far_12 rfl (lv_at hl 1 rfl) ?_
    refine lv_isub hx hb dX10_far_13 ?_
    exact k_X10_far_J14 C0  (v0 - v1) _ _ _ hP hD hS (lv_sub hl [] rfl) hw
  · replace hw := hw.2 c_1
    refine lv_iload_n hx hb dX10_far_5 rfl (lv_at hl 1 rfl) ?_
    refine lv_iload_n hx hb dX10_far_6 rfl (lv_at hl 0 rfl) ?_
    refine lv_isub hx hb dX10_far_7 ?_
    refine lv_goto (tgt := 14) hx hb dX10_far_8 (by decide) ?_
    exact k_X10_far_J14 C0  (v1 - v0) _ _ _ hP hD hS (lv_sub hl [] rfl) hw
/-! PramStateModel.canBe(III)Z -/
abbrev ww_X10_canBe (a_m a_m_told a_m_kept a_m_isKept a_m_refused a_m_months a_m_heirs a_m_lasts a_m_cares a_m_bestCares a_m_ones a_m_others a_m_bytes a_m_anew a_m_values : Nat) (cI cB cZ cP cC : ClassId) (above : Int64) (below : Int64) (retired : Int32) (manyLine : Int32) (bytesLong : Int32) (tokenAt : Int32) (tokenLong : Int32) (token : Int32) (value : Int32) (told : Nat → Int32) : va_W := [(a_m, .inr (10, [.ref a_m_told, .ref a_m_kept, .ref a_m_isKept, .ref a_m_refused, .long above, .long below, .ref a_m_months, .int retired, .ref a_m_heirs, .ref a_m_lasts, .int manyLine, .ref a_m_cares, .ref a_m_bestCares, .ref a_m_ones, .ref a_m_others, .ref a_m_bytes, .int bytesLong, .int tokenAt, .int tokenLong, .int token, .int value, .ref a_m_anew, .ref a_m_values])), (a_m_told, .inl (cI, 190, .inl told))]
abbrev qq_X10_canBe (D : va_G) (a_m a_m_told a_m_kept a_m_isKept a_m_refused a_m_months a_m_heirs a_m_lasts a_m_cares a_m_bestCares a_m_ones a_m_others a_m_bytes a_m_anew a_m_values : Nat) (cI cB cZ cP cC : ClassId) (above : Int64) (below : Int64) (retired : Int32) (manyLine : Int32) (bytesLong : Int32) (tokenAt : Int32) (tokenLong : Int32) (token : Int32) (value : Int32) (told : Nat → Int32) (Post : Int32 → Prop) (A : Nat → Prop) : Array Value → State → Outcome → State → Prop := va_Qi (fun (r : Int32) (u : Unit) => Post r) (fun (u : Unit) t => mxB D (mxTy cI cB cZ cP cC) A (ww_X10_canBe a_m a_m_told a_m_kept a_m_isKept a_m_refused a_m_months a_m_heirs a_m_lasts a_m_cares a_m_bestCares a_m_ones a_m_others a_m_bytes a_m_anew a_m_values cI cB cZ cP cC above below retired manyLine bytesLong tokenAt tokenLong token value told) t) A
abbrev rm_X10_canBe : Room := { frames := 2, cells := 0, slots := 0, locals := 44 }
theorem hd_X10_canBe : yX10_canBe.cls = RX10 ∧ yX10_canBe.cls ≠ "java/lang/invoke/MethodHandle" ∧ yX10_canBe.cls ≠ "java/lang/invoke/VarHandle" ∧ (parseMethodDescriptor yX10_canBe.desc).map (fun d => d.parameters.length) = some 3 := by decide +kernel
def wp_X10_canBe (told : Nat → Int32) (v1 : Int32) (v2 : Int32) (v3 : Int32) (Post : Int32 → Prop) : Prop :=
  (wp_X10_has (told 10) v1 (fun r_1 => ((r_1 = 0 → (wp_X10_isAwake told v1 v2 (fun r_3 => ((r_3 = 0 → Post 0) ∧ (¬ r_3 = 0 → (vp_in (30 + v1) 190 ∧ (wp_X10_far (told (30 + v1).toNatClampNeg) v3 (fun r_6 => (((v2 - 7) < r_6 → Post 0) ∧ (¬ (v2 - 7) < r_6 → Post 1)))))))))) ∧ (¬ r_1 = 0 → Post 0))))
set_option maxHeartbeats 4000000 in
set_option maxRecDepth 100000 in
theorem c_X10_canBe (l : Launch) (D : va_G) (cI cB cZ cP cC : ClassId) (a_m a_m_told a_m_kept a_m_isKept a_m_refused a_m_months a_m_heirs a_m_lasts a_m_cares a_m_bestCares a_m_ones a_m_others a_m_bytes a_m_anew a_m_values : Nat) (above : Int64) (below : Int64) (retired : Int32) (manyLine : Int32) (bytesLong : Int32) (tokenAt : Int32) (tokenLong : Int32) (token : Int32) (value : Int32) (told : Nat → Int32) (v1 : Int32) (v2 : Int32) (v3 : Int32) (sz : Nat) (Post : Int32 → Prop) (hw : wp_X10_canBe told v1 v2 v3 Post) :
    Met l yX10_canBe (Cond.code yX10_canBe cX10_canBe 4 (some .boolean) :: wsAll) rm_X10_canBe (va_Pc [.ref a_m, .int v1, .int v2, .int v3] (mxP D (mxTy cI cB cZ cP cC) sz (ww_X10_canBe a_m a_m_told a_m_kept a_m_isKept a_m_refused a_m_months a_m_heirs a_m_lasts a_m_cares a_m_bestCares a_m_ones a_m_others a_m_bytes a_m_anew a_m_values cI cB cZ cP cC above below retired manyLine bytesLong tokenAt tokenLong token value told))) (qq_X10_canBe D a_m a_m_told a_m_kept a_m_isKept a_m_refused a_m_months a_m_heirs a_m_lasts a_m_cares a_m_bestCares a_m_ones a_m_others a_m_bytes a_m_anew a_m_values cI cB cZ cP cC above below retired manyLine bytesLong tokenAt tokenLong token value told Post (va_A (ww_X10_canBe a_m a_m_told a_m_kept a_m_isKept a_m_refused a_m_months a_m_heirs a_m_lasts a_m_cares a_m_bestCares a_m_ones a_m_others a_m_bytes a_m_anew a_m_values cI cB cZ cP cC above below retired manyLine bytesLong tokenAt tokenLong token value told) sz)) 0 0 (va_A (ww_X10_canBe a_m a_m_told a_m_kept a_m_isKept a_m_refused a_m_months a_m_heirs a_m_lasts a_m_cares a_m_bestCares a_m_ones a_m_others a_m_bytes a_m_anew a_m_values cI cB cZ cP cC above below retired manyLine bytesLong tokenAt tokenLong token value told) sz) := by
  refine mx_of (Qc := qq_X10_canBe D a_m a_m_told a_m_kept a_m_isKept a_m_refused a_m_months a_m_heirs a_m_lasts a_m_cares a_m_bestCares a_m_ones a_m_others a_m_bytes a_m_anew a_m_values cI cB cZ cP cC above below retired manyLine bytesLong tokenAt tokenLong token value told Post) (by decide) (Nat.le_of_ble_eq_true rfl) ?_
  intro p e s m bl meth c A ls C0 hP hD hS hl
  replace C0 : mxC p s m [.ref a_m, .int v1, .int v2, .int v3].toArray meth c cX10_canBe RX10 (some .boolean) 4 D (mxTy cI cB cZ cP cC) A := C0
  obtain ⟨hx, hb, hr, hlocks, hml, hown, hts, hK, hA⟩ := id C0
  replace hl : lv_has ls 4 [(0, .ref a_m), (1, .int v1), (2, .int v2), (3, .int v3)] := hl
  unfold wp_X10_canBe at hw
  refine lv_aload_n hx hb dX10_canBe_0 rfl (lv_at hl 0 rfl) ?_
  refine mx_get (ci := 10) (C := RX10) (T := TX10) (N := 23) hx hb hown in_wsX100 hts hK hP 0 rfl rfl 0 (by decide) q_91 rfl (v := .ref a_m_told) rfl dX10_canBe_1 ?_
  refine lv_bipush (v := 10) hx hb dX10_canBe_4 (by decide) ?_
  refine mx_iald hx hb hK hP 1 0 rfl rfl (mx_lit rfl) (told 10) rfl dX10_canBe_6 ?_
  refine lv_iload_n hx hb dX10_canBe_7 rfl (lv_at hl 1 rfl) ?_
  refine mx_ki (mx_rS (rm := rm_X10_has) (rest := []) hx hb hml hown hts (c_X10_has l D cI cB cZ cP cC (told 10) v1 _ _ hw) q_445 q_446 q_5 q_447 hd_X10_has ⟨(Nat.le_of_ble_eq_true rfl), (Nat.le_of_ble_eq_true rfl)⟩ rfl rfl hK hP hD [] rfl rfl rfl hl.1 rfl (Nat.le_of_ble_eq_true rfl) dX10_canBe_8 ⟨(Nat.le_of_ble_eq_true rfl), (Nat.le_of_ble_eq_true rfl)⟩) hP hD hS hA [] [0, 1] [0, 1] (fun _ => ww_X10_canBe a_m a_m_told a_m_kept a_m_isKept a_m_refused a_m_months a_m_heirs a_m_lasts a_m_cares a_m_bestCares a_m_ones a_m_others a_m_bytes a_m_anew a_m_values cI cB cZ cP cC above below retired manyLine bytesLong tokenAt tokenLong token value told) rfl rfl rfl (by decide) rfl (fun _ => rfl) (fun r_1 u H locs hw hP hD hS => ?_)
  try dsimp only at hw
  replace hP : va_P D vwCl (ww_X10_canBe a_m a_m_told a_m_kept a_m_isKept a_m_refused a_m_months a_m_heirs a_m_lasts a_m_cares a_m_bestCares a_m_ones a_m_others a_m_bytes a_m_anew a_m_values cI cB cZ cP cC above below retired manyLine bytesLong tokenAt tokenLong token value told) H := hP
  replace hD : va_D A (ww_X10_canBe a_m a_m_told a_m_kept a_m_isKept a_m_refused a_m_months a_m_heirs a_m_lasts a_m_cares a_m_bestCares a_m_ones a_m_others a_m_bytes a_m_anew a_m_values cI cB cZ cP cC above below retired manyLine bytesLong tokenAt tokenLong token value told) := hD
  refine lv_if_ne (tgt := 47) hx hb dX10_canBe_11 (by decide) (fun c_2 => ?_) (fun c_2 => ?_)
  · replace hw := hw.2 c_2
    refine lv_iconst (v := 0) hx hb dX10_canBe_47 (by decide) ?_
    exact mx_iret () hx hb hr hlocks rfl hw hK hP hD hS dX10_canBe_48
  · replace hw := hw.1 c_2
    refine lv_aload_n hx hb dX10_canBe_14 rfl (lv_at hl 0 rfl) ?_
    refine lv_iload_n hx hb dX10_canBe_15 rfl (lv_at hl 1 rfl) ?_
    refine lv_iload_n hx hb dX10_canBe_16 rfl (lv_at hl 2 rfl) ?_
    refine mx_ki (mx_rV (rm := rm_X10_isAwake) (rest := []) (C := RX10) hx hb hml hown hts (c_X10_isAwake l D cI cB cZ cP cC a_m a_m_told a_m_kept a_m_isKept a_m_refused a_m_months a_m_heirs a_m_lasts a_m_cares a_m_bestCares a_m_ones a_m_others a_m_bytes a_m_anew a_m_values above below retired manyLine bytesLong tokenAt tokenLong token value told v1 v2 _ _ hw) q_608 q_609 q_610 q_5 q_611 hd_X10_isAwake ⟨(Nat.le_of_ble_eq_true rfl), (Nat.le_of_ble_eq_true rfl)⟩ rfl rfl hK hP hD [0, 1] rfl rfl 10 0 rfl rfl rfl rfl hl.1 rfl (Nat.le_of_ble_eq_true rfl) dX10_canBe_17 ⟨(Nat.le_of_ble_eq_true rfl), (Nat.le_of_ble_eq_true rfl)⟩) hP hD hS hA [0, 1] [] [0, 1] (fun _ => ww_X10_canBe a_m a_m_told a_m_kept a_m_isKept a_m_refused a_m_months a_m_heirs a_m_lasts a_m_cares a_m_bestCares a_m_ones a_m_others a_m_bytes a_m_anew a_m_values cI cB cZ cP cC above below retired manyLine bytesLong tokenAt tokenLong token value told) rfl rfl rfl (by decide) rfl (fun _ => rfl) (fun r_3 u H locs hw hP hD hS => ?_)
    try dsimp only at hw
    replace hP : va_P D vwCl (ww_X10_canBe a_m a_m_told a_m_kept a_m_isKept a_m_refused a_m_months a_m_heirs a_m_lasts a_m_cares a_m_bestCares a_m_ones a_m_others a_m_bytes a_m_anew a_m_values cI cB cZ cP cC above below retired manyLine bytesLong tokenAt tokenLong token value told) H := hP
    replace hD : va_D A (ww_X10_canBe a_m a_m_told a_m_kept a_m_isKept a_m_refused a_m_months a_m_heirs a_m_lasts a_m_cares a_m_bestCares a_m_ones a_m_others a_m_bytes a_m_anew a_m_values cI cB cZ cP cC above below retired manyLine bytesLong tokenAt tokenLong token value told) := hD
    refine lv_if_eq (tgt := 47) hx hb dX10_canBe_20 (by decide) (fun c_4 => ?_) (fun c_4 => ?_)
    · replace hw := hw.1 c_4
      refine lv_iconst (v := 0) hx hb dX10_canBe_47 (by decide) ?_
      exact mx_iret () hx hb hr hlocks rfl hw hK hP hD hS dX10_canBe_48
    · replace hw := hw.2 c_4
      refine lv_aload_n hx hb dX10_canBe_23 rfl (lv_at hl 0 rfl) ?_
      refine mx_get (ci := 10) (C := RX10) (T := TX10) (N := 23) hx hb hown in_wsX100 hts hK hP 0 rfl rfl 0 (by decide) q_91 rfl (v := .ref a_m_told) rfl dX10_canBe_24 ?_
      refine lv_bipush (v := 30) hx hb dX10_canBe_27 (by decide) ?_
      refine lv_iload_n hx hb dX10_canBe_29 rfl (lv_at hl 1 rfl) ?_
      refine lv_iadd hx hb dX10_canBe_30 ?_
      obtain ⟨h_5, hw⟩ := hw
      refine mx_iald hx hb hK hP 1 0 rfl rfl h_5 (told (30 + v1).toNatClampNeg) rfl dX10_canBe_31 ?_
      refine lv_iload_n hx hb dX10_canBe_32 rfl (lv_at hl 3 rfl) ?_
      refine mx_ki (mx_rS (rm := rm_X10_far) (rest := []) hx hb hml hown hts (c_X10_far l D cI cB cZ cP cC (told (30 + v1).toNatClampNeg) v3 _ _ hw) q_696 q_697 q_5 q_698 hd_X10_far ⟨(Nat.le_of_ble_eq_true rfl), (Nat.le_of_ble_eq_true rfl)⟩ rfl rfl hK hP hD [] rfl rfl rfl hl.1 rfl (Nat.le_of_ble_eq_true rfl) dX10_canBe_33 ⟨(Nat.le_of_ble_eq_true rfl), (Nat.le_of_ble_eq_true rfl)⟩) hP hD hS hA [] [0, 1] [0, 1] (fun _ => ww_X10_canBe a_m a_m_told a_m_kept a_m_isKept a_m_refused a_m_months a_m_heirs a_m_lasts a_m_cares a_m_bestCares a_m_ones a_m_others a_m_bytes a_m_anew a_m_values cI cB cZ cP cC above below retired manyLine bytesLong tokenAt tokenLong token value told) rfl rfl rfl (by decide) rfl (fun _ => rfl) (fun r_6 u H locs hw hP hD hS => ?_)
      try dsimp only at hw
      replace hP : va_P D vwCl (ww_X10_canBe a_m a_m_told a_m_kept a_m_isKept a_m_refused a_m_months a_m_heirs a_m_lasts a_m_cares a_m_bestCares a_m_ones a_m_others a_m_bytes a_m_anew a_m_values cI cB cZ cP cC above below retired manyLine bytesLong tokenAt tokenLong token value told) H := hP
      replace hD : va_D A (ww_X10_canBe a_m a_m_told a_m_kept a_m_isKept a_m_refused a_m_months a_m_heirs a_m_lasts a_m_cares a_m_bestCares a_m_ones a_m_others a_m_bytes a_m_anew a_m_values cI cB cZ cP cC above below retired manyLine bytesLong tokenAt tokenLong token value told) := hD
      refine lv_iload_n hx hb dX10_canBe_36 rfl (lv_at hl 2 rfl) ?_
      refine lv_bipush (v := 7) hx hb dX10_canBe_37 (by decide) ?_
      refine lv_isub hx hb dX10_canBe_39 ?_
      refine lv_icmp_gt (tgt := 47) hx hb dX10_canBe_40 (by decide) (fun c_7 => ?_) (fun c_7 => ?_)
      · replace hw := hw.1 c_7
        refine lv_iconst (v := 0) hx hb dX10_canBe_47 (by decide) ?_
        exact mx_iret () hx hb hr hlocks rfl hw hK hP hD hS dX10_canBe_48
      · replace hw := hw.2 c_7
        refine lv_iconst (v := 1) hx hb dX10_canBe_43 (by decide) ?_
        refine lv_goto (tgt := 48) hx hb dX10_canBe_44 (by decide) ?_
        exact mx_iret () hx hb hr hlocks rfl hw hK hP hD hS dX10_canBe_48
/-! PramStateModel.meet(II)I -/
abbrev ww_X10_meet (a_m a_m_told a_m_kept a_m_isKept a_m_refused a_m_months a_m_heirs a_m_lasts a_m_cares a_m_bestCares a_m_ones a_m_others a_m_bytes a_m_anew a_m_values : Nat) (cI cB cZ cP cC : ClassId) (above : Int64) (below : Int64) (retired : Int32) (manyLine : Int32) (bytesLong : Int32) (tokenAt : Int32) (tokenLong : Int32) (token : Int32) (value : Int32) (told : Nat → Int32) (refused : Nat → Int32) : va_W := [(a_m, .inr (10, [.ref a_m_told, .ref a_m_kept, .ref a_m_isKept, .ref a_m_refused, .long above, .long below, .ref a_m_months, .int retired, .ref a_m_heirs, .ref a_m_lasts, .int manyLine, .ref a_m_cares, .ref a_m_bestCares, .ref a_m_ones, .ref a_m_others, .ref a_m_bytes, .int bytesLong, .int tokenAt, .int tokenLong, .int token, .int value, .ref a_m_anew, .ref a_m_values])), (a_m_told, .inl (cI, 190, .inl told)), (a_m_refused, .inl (cI, 3, .inl refused))]
abbrev qq_X10_meet (D : va_G) (a_m a_m_told a_m_kept a_m_isKept a_m_refused a_m_months a_m_heirs a_m_lasts a_m_cares a_m_bestCares a_m_ones a_m_others a_m_bytes a_m_anew a_m_values : Nat) (cI cB cZ cP cC : ClassId) (above : Int64) (below : Int64) (retired : Int32) (manyLine : Int32) (bytesLong : Int32) (tokenAt : Int32) (tokenLong : Int32) (token : Int32) (value : Int32) (told : Nat → Int32) (Post : Int32 → (Nat → Int32) → Prop) (A : Nat → Prop) : Array Value → State → Outcome → State → Prop := va_Qi (fun (r : Int32) (u : (Nat → Int32)) => Post r u) (fun (u : (Nat → Int32)) t => mxB D (mxTy cI cB cZ cP cC) A (ww_X10_meet a_m a_m_told a_m_kept a_m_isKept a_m_refused a_m_months a_m_heirs a_m_lasts a_m_cares a_m_bestCares a_m_ones a_m_others a_m_bytes a_m_anew a_m_values cI cB cZ cP cC above below retired manyLine bytesLong tokenAt tokenLong token value told u) t) A
abbrev rm_X10_meet : Room := { frames := 3, cells := 0, slots := 0, locals := 67 }
theorem hd_X10_meet : yX10_meet.cls = RX10 ∧ yX10_meet.cls ≠ "java/lang/invoke/MethodHandle" ∧ yX10_meet.cls ≠ "java/lang/invoke/VarHandle" ∧ (parseMethodDescriptor yX10_meet.desc).map (fun d => d.parameters.length) = some 2 := by decide +kernel
def wp_X10_meet_J21 (told : Nat → Int32) (Post : Int32 → (Nat → Int32) → Prop)  (refused : Nat → Int32) : Prop :=
  (wp_X10_bad refused (-2) (fun r_3 refused_4 => Post r_3 refused_4))
set_option maxHeartbeats 4000000 in
set_option maxRecDepth 100000 in
theorem k_X10_meet_J21 {p : Program} {l : Launch} {e : Env} {s : State} {m : MethodId} {ar : Array Value} {bl : List Frame} {meth : Method} {c : Code} {D : va_G} {A : Nat → Prop} {cI cB cZ cP cC : ClassId} {a_m a_m_told a_m_kept a_m_isKept a_m_refused a_m_months a_m_heirs a_m_lasts a_m_cares a_m_bestCares a_m_ones a_m_others a_m_bytes a_m_anew a_m_values : Nat} {above : Int64} {below : Int64} {retired : Int32} {manyLine : Int32} {bytesLong : Int32} {tokenAt : Int32} {tokenLong : Int32} {token : Int32} {value : Int32} {told : Nat → Int32} {Post : Int32 → (Nat → Int32) → Prop} (C0 : mxC p s m ar meth c cX10_meet RX10 (some .int) 5 D (mxTy cI cB cZ cP cC) A) :
    ∀ (refused : Nat → Int32) (H : Heap) (locs : List Loc) (ls : Array Slot), va_P D vwCl (ww_X10_meet a_m a_m_told a_m_kept a_m_isKept a_m_refused a_m_months a_m_heirs a_m_lasts a_m_cares a_m_bestCares a_m_ones a_m_others a_m_bytes a_m_anew a_m_values cI cB cZ cP cC above below retired manyLine bytesLong tokenAt tokenLong token value told refused) H → va_D A (ww_X10_meet a_m a_m_told a_m_kept a_m_isKept a_m_refused a_m_months a_m_heirs a_m_lasts a_m_cares a_m_bestCares a_m_ones a_m_others a_m_bytes a_m_anew a_m_values cI cB cZ cP cC above below retired manyLine bytesLong tokenAt tokenLong token value told refused) → va_S A s.heap H locs → lv_has ls 5 [(0, .ref a_m)] → wp_X10_meet_J21 told Post  refused → W p l e rm_X10_meet s m ar bl meth c H locs 0 0 (MQ bl (qq_X10_meet D a_m a_m_told a_m_kept a_m_isKept a_m_refused a_m_months a_m_heirs a_m_lasts a_m_cares a_m_bestCares a_m_ones a_m_others a_m_bytes a_m_anew a_m_values cI cB cZ cP cC above below retired manyLine bytesLong tokenAt tokenLong token value told Post A) ar s 0 0 A) (F0 m 21 ls []) := by
  obtain ⟨hx, hb, hr, hlocks, hml, hown, hts, hK, hA⟩ := id C0
  intro refused H locs ls hP hD hS hl hw
  refine lv_aload_n hx hb dX10_meet_21 rfl (lv_at hl 0 rfl) ?_
  refine lv_bipush (v := (-2)) hx hb dX10_meet_22 (by decide) ?_
  refine mx_ki (mx_rV (rm := rm_X10_bad) (rest := []) (C := RX10) hx hb hml hown hts (c_X10_bad l D cI cB cZ cP cC a_m a_m_told a_m_kept a_m_isKept a_m_refused a_m_months a_m_heirs a_m_lasts a_m_cares a_m_bestCares a_m_ones a_m_others a_m_bytes a_m_anew a_m_values above below retired manyLine bytesLong tokenAt tokenLong token value refused (-2) _ _ hw) q_166 q_167 q_168 q_5 q_169 hd_X10_bad ⟨(Nat.le_of_ble_eq_true rfl), (Nat.le_of_ble_eq_true rfl)⟩ rfl rfl hK hP hD [0, 2] rfl rfl 10 0 rfl rfl rfl rfl hl.1 rfl (Nat.le_of_ble_eq_true rfl) dX10_meet_24 ⟨(Nat.le_of_ble_eq_true rfl), (Nat.le_of_ble_eq_true rfl)⟩) hP hD hS hA [0, 2] [1] [1, 0, 2] (fun u => ww_X10_meet a_m a_m_told a_m_kept a_m_isKept a_m_refused a_m_months a_m_heirs a_m_lasts a_m_cares a_m_bestCares a_m_ones a_m_others a_m_bytes a_m_anew a_m_values cI cB cZ cP cC above below retired manyLine bytesLong tokenAt tokenLong token value told u) rfl rfl rfl (by decide) rfl (fun _ => rfl) (fun r_3 refused_4 H locs hw hP hD hS => ?_)
  try dsimp only at hw
  replace hP : va_P D vwCl (ww_X10_meet a_m a_m_told a_m_kept a_m_isKept a_m_refused a_m_months a_m_heirs a_m_lasts a_m_cares a_m_bestCares a_m_ones a_m_others a_m_bytes a_m_anew a_m_values cI cB cZ cP cC above below retired manyLine bytesLong tokenAt tokenLong token value told refused_4) H := hP
  replace hD : va_D A (ww_X10_meet a_m a_m_told a_m_kept a_m_isKept a_m_refused a_m_months a_m_heirs a_m_lasts a_m_cares a_m_bestCares a_m_ones a_m_others a_m_bytes a_m_anew a_m_values cI cB cZ cP cC above below retired manyLine bytesLong tokenAt tokenLong token value told refused_4) := hD
  exact mx_iret refused_4 hx hb hr hlocks rfl hw hK hP hD hS dX10_meet_27
def wp_X10_meet_J56 (told : Nat → Int32) (Post : Int32 → (Nat → Int32) → Prop)  (refused : Nat → Int32) : Prop :=
  (wp_X10_no refused (fun r_10 refused_11 => Post r_10 refused_11))
set_option maxHeartbeats 4000000 in
set_option maxRecDepth 100000 in
theorem k_X10_meet_J56 {p : Program} {l : Launch} {e : Env} {s : State} {m : MethodId} {ar : Array Value} {bl : List Frame} {meth : Method} {c : Code} {D : va_G} {A : Nat → Prop} {cI cB cZ cP cC : ClassId} {a_m a_m_told a_m_kept a_m_isKept a_m_refused a_m_months a_m_heirs a_m_lasts a_m_cares a_m_bestCares a_m_ones a_m_others a_m_bytes a_m_anew a_m_values : Nat} {above : Int64} {below : Int64} {retired : Int32} {manyLine : Int32} {bytesLong : Int32} {tokenAt : Int32} {tokenLong : Int32} {token : Int32} {value : Int32} {told : Nat → Int32} {Post : Int32 → (Nat → Int32) → Prop} (C0 : mxC p s m ar meth c cX10_meet RX10 (some .int) 5 D (mxTy cI cB cZ cP cC) A) :
    ∀ (refused : Nat → Int32) (H : Heap) (locs : List Loc) (ls : Array Slot), va_P D vwCl (ww_X10_meet a_m a_m_told a_m_kept a_m_isKept a_m_refused a_m_months a_m_heirs a_m_lasts a_m_cares a_m_bestCares a_m_ones a_m_others a_m_bytes a_m_anew a_m_values cI cB cZ cP cC above below retired manyLine bytesLong tokenAt tokenLong token value told refused) H → va_D A (ww_X10_meet a_m a_m_told a_m_kept a_m_isKept a_m_refused a_m_months a_m_heirs a_m_lasts a_m_cares a_m_bestCares a_m_ones a_m_others a_m_bytes a_m_anew a_m_values cI cB cZ cP cC above below retired manyLine bytesLong tokenAt tokenLong token value told refused) → va_S A s.heap H locs → lv_has ls 5 [(0, .ref a_m)] → wp_X10_meet_J56 told Post  refused → W p l e rm_X10_meet s m ar bl meth c H locs 0 0 (MQ bl (qq_X10_meet D a_m a_m_told a_m_kept a_m_isKept a_m_refused a_m_months a_m_heirs a_m_lasts a_m_cares a_m_bestCares a_m_ones a_m_others a_m_bytes a_m_anew a_m_values cI cB cZ cP cC above below retired manyLine bytesLong tokenAt tokenLong token value told Post A) ar s 0 0 A) (F0 m 56 ls []) := by
  obtain ⟨hx, hb, hr, hlocks, hml, hown, hts, hK, hA⟩ := id C0
  intro refused H locs ls hP hD hS hl hw
  refine lv_aload_n hx hb dX10_meet_56 rfl (lv_at hl 0 rfl) ?_
  refine mx_ki (mx_rV (rm := rm_X10_no) (rest := []) (C := RX10) hx hb hml hown hts (c_X10_no l D cI cB cZ cP cC a_m a_m_told a_m_kept a_m_isKept a_m_refused a_m_months a_m_heirs a_m_lasts a_m_cares a_m_bestCares a_m_ones a_m_others a_m_bytes a_m_anew a_m_values above below retired manyLine bytesLong tokenAt tokenLong token value refused _ _ hw) q_498 q_499 q_500 q_5 q_501 hd_X10_no ⟨(Nat.le_of_ble_eq_true rfl), (Nat.le_of_ble_eq_true rfl)⟩ rfl rfl hK hP hD [0, 2] rfl rfl 10 0 rfl rfl rfl rfl hl.1 rfl (Nat.le_of_ble_eq_true rfl) dX10_meet_57 ⟨(Nat.le_of_ble_eq_true rfl), (Nat.le_of_ble_eq_true rfl)⟩) hP hD hS hA [0, 2] [1] [1, 0, 2] (fun u => ww_X10_meet a_m a_m_told a_m_kept a_m_isKept a_m_refused a_m_months a_m_heirs a_m_lasts a_m_cares a_m_bestCares a_m_ones a_m_others a_m_bytes a_m_anew a_m_values cI cB cZ cP cC above below retired manyLine bytesLong tokenAt tokenLong token value told u) rfl rfl rfl (by decide) rfl (fun _ => rfl) (fun r_10 refused_11 H locs hw hP hD hS => ?_)
  try dsimp only at hw
  replace hP : va_P D vwCl (ww_X10_meet a_m a_m_told a_m_kept a_m_isKept a_m_refused a_m_months a_m_heirs a_m_lasts a_m_cares a_m_bestCares a_m_ones a_m_others a_m_bytes a_m_anew a_m_values cI cB cZ cP cC above below retired manyLine bytesLong tokenAt tokenLong token value told refused_11) H := hP
  replace hD : va_D A (ww_X10_meet a_m a_m_told a_m_kept a_m_isKept a_m_refused a_m_months a_m_heirs a_m_lasts a_m_cares a_m_bestCares a_m_ones a_m_others a_m_bytes a_m_anew a_m_values cI cB cZ cP cC above below retired manyLine bytesLong tokenAt tokenLong token value told refused_11) := hD
  exact mx_iret refused_11 hx hb hr hlocks rfl hw hK hP hD hS dX10_meet_60
def wp_X10_meet_J110 (told : Nat → Int32) (Post : Int32 → (Nat → Int32) → Prop) (K_73 : Int32 → Int32 → Int32 → Int32 → (Nat → Int32) → Prop) (v1 : Int32) (v2 : Int32) (v3 : Int32) (v4 : Int32) (refused : Nat → Int32) : Prop :=
  (∀ x_18 : Int32, x_18 = v4 + 1 → K_73 v1 v2 v3 x_18 refused)
set_option maxHeartbeats 4000000 in
set_option maxRecDepth 100000 in
theorem k_X10_meet_J110 {p : Program} {l : Launch} {e : Env} {s : State} {m : MethodId} {ar : Array Value} {bl : List Frame} {meth : Method} {c : Code} {D : va_G} {A : Nat → Prop} {cI cB cZ cP cC : ClassId} {a_m a_m_told a_m_kept a_m_isKept a_m_refused a_m_months a_m_heirs a_m_lasts a_m_cares a_m_bestCares a_m_ones a_m_others a_m_bytes a_m_anew a_m_values : Nat} {above : Int64} {below : Int64} {retired : Int32} {manyLine : Int32} {bytesLong : Int32} {tokenAt : Int32} {tokenLong : Int32} {token : Int32} {value : Int32} {told : Nat → Int32} {Post : Int32 → (Nat → Int32) → Prop} {K_73 : Int32 → Int32 → Int32 → Int32 → (Nat → Int32) → Prop} (C0 : mxC p s m ar meth c cX10_meet RX10 (some .int) 5 D (mxTy cI cB cZ cP cC) A)
    (hK_73 : ∀ (v1 : Int32) (v2 : Int32) (v3 : Int32) (v4 : Int32) (refused : Nat → Int32) (H : Heap) (locs : List Loc) (ls : Array Slot), va_P D vwCl (ww_X10_meet a_m a_m_told a_m_kept a_m_isKept a_m_refused a_m_months a_m_heirs a_m_lasts a_m_cares a_m_bestCares a_m_ones a_m_others a_m_bytes a_m_anew a_m_values cI cB cZ cP cC above below retired manyLine bytesLong tokenAt tokenLong token value told refused) H → va_D A (ww_X10_meet a_m a_m_told a_m_kept a_m_isKept a_m_refused a_m_months a_m_heirs a_m_lasts a_m_cares a_m_bestCares a_m_ones a_m_others a_m_bytes a_m_anew a_m_values cI cB cZ cP cC above below retired manyLine bytesLong tokenAt tokenLong token value told refused) → va_S A s.heap H locs → lv_has ls 5 [(0, .ref a_m), (1, .int v1), (2, .int v2), (3, .int v3), (4, .int v4)] → K_73 v1 v2 v3 v4 refused → W p l e rm_X10_meet s m ar bl meth c H locs 0 0 (MQ bl (qq_X10_meet D a_m a_m_told a_m_kept a_m_isKept a_m_refused a_m_months a_m_heirs a_m_lasts a_m_cares a_m_bestCares a_m_ones a_m_others a_m_bytes a_m_anew a_m_values cI cB cZ cP cC above below retired manyLine bytesLong tokenAt tokenLong token value told Post A) ar s 0 0 A) (F0 m 73 ls [])) :
    ∀ (v1 : Int32) (v2 : Int32) (v3 : Int32) (v4 : Int32) (refused : Nat → Int32) (H : Heap) (locs : List Loc) (ls : Array Slot), va_P D vwCl (ww_X10_meet a_m a_m_told a_m_kept a_m_isKept a_m_refused a_m_months a_m_heirs a_m_lasts a_m_cares a_m_bestCares a_m_ones a_m_others a_m_bytes a_m_anew a_m_values cI cB cZ cP cC above below retired manyLine bytesLong tokenAt tokenLong token value told refused) H → va_D A (ww_X10_meet a_m a_m_told a_m_kept a_m_isKept a_m_refused a_m_months a_m_heirs a_m_lasts a_m_cares a_m_bestCares a_m_ones a_m_others a_m_bytes a_m_anew a_m_values cI cB cZ cP cC above below retired manyLine bytesLong tokenAt tokenLong token value told refused) → va_S A s.heap H locs → lv_has ls 5 [(0, .ref a_m), (1, .int v1), (2, .int v2), (3, .int v3), (4, .int v4)] → wp_X10_meet_J110 told Post K_73 v1 v2 v3 v4 refused → W p l e rm_X10_meet s m ar bl meth c H locs 0 0 (MQ bl (qq_X10_meet D a_m a_m_told a_m_kept a_m_isKept a_m_refused a_m_months a_m_heirs a_m_lasts a_m_cares a_m_bestCares a_m_ones a_m_others a_m_bytes a_m_anew a_m_values cI cB cZ cP cC above below retired manyLine bytesLong tokenAt tokenLong token value told Post A) ar s 0 0 A) (F0 m 110 ls []) := by
  obtain ⟨hx, hb, hr, hlocks, hml, hown, hts, hK, hA⟩ := id C0
  intro v1 v2 v3 v4 refused H locs ls hP hD hS hl hw
  obtain ⟨x_18, ex_18⟩ : ∃ y : Int32, y = v4 + 1 := ⟨_, rfl⟩
  replace hw := hw x_18 ex_18
  refine lv_iinc (v := x_18) (lv' := [(4, .int x_18), (0, .ref a_m), (1, .int v1), (2, .int v2), (3, .int v3)]) hx hb dX10_meet_110 hl (k := 4) rfl (by rw [ex_18]; rfl) (by decide) rfl (fun ls hl => ?_)
  refine lv_goto (tgt := 73) hx hb dX10_meet_113 (by decide) ?_
  exact hK_73 v1 v2 v3 x_18 refused _ _ _ hP hD hS (lv_sub hl [1, 2, 3, 4, 0] rfl) hw
def wp_X10_meet_L73 (told : Nat → Int32) (Post : Int32 → (Nat → Int32) → Prop) (K_116 : Int32 → Int32 → Int32 → (Nat → Int32) → Prop) (K_102 : Int32 → Int32 → (Nat → Int32) → Prop) : Nat → Int32 → Int32 → Int32 → Int32 → (Nat → Int32) → Prop
  | 0, _, _, _, _, _ => False
  | n + 1, v1, v2, v3, v4, refused => ((6 ≤ v4 → K_116 v1 v2 v3 refused) ∧ (¬ 6 ≤ v4 → (wp_X10_canBe told v1 v3 v4 (fun r_16 => ((r_16 = 0 → (wp_X10_meet_J110 told Post (fun (v1_19 : Int32) (v2_20 : Int32) (v3_21 : Int32) (v4_22 : Int32) (refused_23 : Nat → Int32) => wp_X10_meet_L73 told Post K_116 K_102 n v1_19 v2_20 v3_21 v4_22 refused_23) v1 v2 v3 v4 refused)) ∧ (¬ r_16 = 0 → (wp_X10_canBe told v2 v3 v4 (fun r_24 => ((r_24 = 0 → (wp_X10_meet_J110 told Post (fun (v1_26 : Int32) (v2_27 : Int32) (v3_28 : Int32) (v4_29 : Int32) (refused_30 : Nat → Int32) => wp_X10_meet_L73 told Post K_116 K_102 n v1_26 v2_27 v3_28 v4_29 refused_30) v1 v2 v3 v4 refused)) ∧ (¬ r_24 = 0 → K_102 v3 v4 refused))))))))))
set_option maxHeartbeats 4000000 in
set_option maxRecDepth 100000 in
theorem k_X10_meet_L73 {p : Program} {l : Launch} {e : Env} {s : State} {m : MethodId} {ar : Array Value} {bl : List Frame} {meth : Method} {c : Code} {D : va_G} {A : Nat → Prop} {cI cB cZ cP cC : ClassId} {a_m a_m_told a_m_kept a_m_isKept a_m_refused a_m_months a_m_heirs a_m_lasts a_m_cares a_m_bestCares a_m_ones a_m_others a_m_bytes a_m_anew a_m_values : Nat} {above : Int64} {below : Int64} {retired : Int32} {manyLine : Int32} {bytesLong : Int32} {tokenAt : Int32} {tokenLong : Int32} {token : Int32} {value : Int32} {told : Nat → Int32} {Post : Int32 → (Nat → Int32) → Prop} {K_116 : Int32 → Int32 → Int32 → (Nat → Int32) → Prop} {K_102 : Int32 → Int32 → (Nat → Int32) → Prop} (C0 : mxC p s m ar meth c cX10_meet RX10 (some .int) 5 D (mxTy cI cB cZ cP cC) A)
    (hK_116 : ∀ (v1 : Int32) (v2 : Int32) (v3 : Int32) (refused : Nat → Int32) (H : Heap) (locs : List Loc) (ls : Array Slot), va_P D vwCl (ww_X10_meet a_m a_m_told a_m_kept a_m_isKept a_m_refused a_m_months a_m_heirs a_m_lasts a_m_cares a_m_bestCares a_m_ones a_m_others a_m_bytes a_m_anew a_m_values cI cB cZ cP cC above below retired manyLine bytesLong tokenAt tokenLong token value told refused) H → va_D A (ww_X10_meet a_m a_m_told a_m_kept a_m_isKept a_m_refused a_m_months a_m_heirs a_m_lasts a_m_cares a_m_bestCares a_m_ones a_m_others a_m_bytes a_m_anew a_m_values cI cB cZ cP cC above below retired manyLine bytesLong tokenAt tokenLong token value told refused) → va_S A s.heap H locs → lv_has ls 5 [(0, .ref a_m), (1, .int v1), (2, .int v2), (3, .int v3)] → K_116 v1 v2 v3 refused → W p l e rm_X10_meet s m ar bl meth c H locs 0 0 (MQ bl (qq_X10_meet D a_m a_m_told a_m_kept a_m_isKept a_m_refused a_m_months a_m_heirs a_m_lasts a_m_cares a_m_bestCares a_m_ones a_m_others a_m_bytes a_m_anew a_m_values cI cB cZ cP cC above below retired manyLine bytesLong tokenAt tokenLong token value told Post A) ar s 0 0 A) (F0 m 116 ls []))
    (hK_102 : ∀ (v3 : Int32) (v4 : Int32) (refused : Nat → Int32) (H : Heap) (locs : List Loc) (ls : Array Slot), va_P D vwCl (ww_X10_meet a_m a_m_told a_m_kept a_m_isKept a_m_refused a_m_months a_m_heirs a_m_lasts a_m_cares a_m_bestCares a_m_ones a_m_others a_m_bytes a_m_anew a_m_values cI cB cZ cP cC above below retired manyLine bytesLong tokenAt tokenLong token value told refused) H → va_D A (ww_X10_meet a_m a_m_told a_m_kept a_m_isKept a_m_refused a_m_months a_m_heirs a_m_lasts a_m_cares a_m_bestCares a_m_ones a_m_others a_m_bytes a_m_anew a_m_values cI cB cZ cP cC above below retired manyLine bytesLong tokenAt tokenLong token value told refused) → va_S A s.heap H locs → lv_has ls 5 [(3, .int v3), (4, .int v4)] → K_102 v3 v4 refused → W p l e rm_X10_meet s m ar bl meth c H locs 0 0 (MQ bl (qq_X10_meet D a_m a_m_told a_m_kept a_m_isKept a_m_refused a_m_months a_m_heirs a_m_lasts a_m_cares a_m_bestCares a_m_ones a_m_others a_m_bytes a_m_anew a_m_values cI cB cZ cP cC above below retired manyLine bytesLong tokenAt tokenLong token value told Post A) ar s 0 0 A) (F0 m 102 ls [])) :
    ∀ (n : Nat) (v1 : Int32) (v2 : Int32) (v3 : Int32) (v4 : Int32) (refused : Nat → Int32) (H : Heap) (locs : List Loc) (ls : Array Slot), va_P D vwCl (ww_X10_meet a_m a_m_told a_m_kept a_m_isKept a_m_refused a_m_months a_m_heirs a_m_lasts a_m_cares a_m_bestCares a_m_ones a_m_others a_m_bytes a_m_anew a_m_values cI cB cZ cP cC above below retired manyLine bytesLong tokenAt tokenLong token value told refused) H → va_D A (ww_X10_meet a_m a_m_told a_m_kept a_m_isKept a_m_refused a_m_months a_m_heirs a_m_lasts a_m_cares a_m_bestCares a_m_ones a_m_others a_m_bytes a_m_anew a_m_values cI cB cZ cP cC above below retired manyLine bytesLong tokenAt tokenLong token value told refused) → va_S A s.heap H locs → lv_has ls 5 [(0, .ref a_m), (1, .int v1), (2, .int v2), (3, .int v3), (4, .int v4)] → wp_X10_meet_L73 told Post K_116 K_102 n v1 v2 v3 v4 refused → W p l e rm_X10_meet s m ar bl meth c H locs 0 0 (MQ bl (qq_X10_meet D a_m a_m_told a_m_kept a_m_isKept a_m_refused a_m_months a_m_heirs a_m_lasts a_m_cares a_m_bestCares a_m_ones a_m_others a_m_bytes a_m_anew a_m_values cI cB cZ cP cC above below retired manyLine bytesLong tokenAt tokenLong token value told Post A) ar s 0 0 A) (F0 m 73 ls []) := by
  obtain ⟨hx, hb, hr, hlocks, hml, hown, hts, hK, hA⟩ := id C0
  intro n
  induction n with
  | zero =>
    intro v1 v2 v3 v4 refused H locs ls hP hD hS hl hw
    exact absurd hw (fun h => h)
  | succ n ih =>
    intro v1 v2 v3 v4 refused H locs ls hP hD hS hl hw
    refine lv_iload hx hb dX10_meet_73 (lv_at hl 4 rfl) ?_
    refine lv_bipush (v := 6) hx hb dX10_meet_75 (by decide) ?_
    refine lv_icmp_ge (tgt := 116) hx hb dX10_meet_77 (by decide) (fun c_15 => ?_) (fun c_15 => ?_)
    · replace hw := hw.1 c_15
      exact hK_116 v1 v2 v3 refused _ _ _ hP hD hS (lv_sub hl [0, 1, 2, 3] rfl) hw
    · replace hw := hw.2 c_15
      refine lv_aload_n hx hb dX10_meet_80 rfl (lv_at hl 0 rfl) ?_
      refine lv_iload_n hx hb dX10_meet_81 rfl (lv_at hl 1 rfl) ?_
      refine lv_iload_n hx hb dX10_meet_82 rfl (lv_at hl 3 rfl) ?_
      refine lv_iload hx hb dX10_meet_83 (lv_at hl 4 rfl) ?_
      refine mx_ki (mx_rV (rm := rm_X10_canBe) (rest := []) (C := RX10) hx hb hml hown hts (c_X10_canBe l D cI cB cZ cP cC a_m a_m_told a_m_kept a_m_isKept a_m_refused a_m_months a_m_heirs a_m_lasts a_m_cares a_m_bestCares a_m_ones a_m_others a_m_bytes a_m_anew a_m_values above below retired manyLine bytesLong tokenAt tokenLong token value told v1 v3 v4 _ _ hw) q_692 q_693 q_694 q_5 q_695 hd_X10_canBe ⟨(Nat.le_of_ble_eq_true rfl), (Nat.le_of_ble_eq_true rfl)⟩ rfl rfl hK hP hD [0, 1] rfl rfl 10 0 rfl rfl rfl rfl hl.1 rfl (Nat.le_of_ble_eq_true rfl) dX10_meet_85 ⟨(Nat.le_of_ble_eq_true rfl), (Nat.le_of_ble_eq_true rfl)⟩) hP hD hS hA [0, 1] [2] [1, 2, 0] (fun _ => ww_X10_meet a_m a_m_told a_m_kept a_m_isKept a_m_refused a_m_months a_m_heirs a_m_lasts a_m_cares a_m_bestCares a_m_ones a_m_others a_m_bytes a_m_anew a_m_values cI cB cZ cP cC above below retired manyLine bytesLong tokenAt tokenLong token value told refused) rfl rfl rfl (by decide) rfl (fun _ => rfl) (fun r_16 u H locs hw hP hD hS => ?_)
      try dsimp only at hw
      replace hP : va_P D vwCl (ww_X10_meet a_m a_m_told a_m_kept a_m_isKept a_m_refused a_m_months a_m_heirs a_m_lasts a_m_cares a_m_bestCares a_m_ones a_m_others a_m_bytes a_m_anew a_m_values cI cB cZ cP cC above below retired manyLine bytesLong tokenAt tokenLong token value told refused) H := hP
      replace hD : va_D A (ww_X10_meet a_m a_m_told a_m_kept a_m_isKept a_m_refused a_m_months a_m_heirs a_m_lasts a_m_cares a_m_bestCares a_m_ones a_m_others a_m_bytes a_m_anew a_m_values cI cB cZ cP cC above below retired manyLine bytesLong tokenAt tokenLong token value told refused) := hD
      refine lv_if_eq (tgt := 110) hx hb dX10_meet_88 (by decide) (fun c_17 => ?_) (fun c_17 => ?_)
      · replace hw := hw.1 c_17
        refine k_X10_meet_J110 C0 ?_ v1 v2 v3 v4 refused _ _ _ hP hD hS (lv_sub hl [0, 1, 2, 3, 4] rfl) hw
        intro v1_19 v2_20 v3_21 v4_22 refused_23 H locs ls hP hD hS hl hw
        exact ih v1_19 v2_20 v3_21 v4_22 refused_23 _ _ _ hP hD hS (lv_sub hl [0, 1, 2, 3, 4] rfl) hw
      · replace hw := hw.2 c_17
        refine lv_aload_n hx hb dX10_meet_91 rfl (lv_at hl 0 rfl) ?_
        refine lv_iload_n hx hb dX10_meet_92 rfl (lv_at hl 2 rfl) ?_
        refine lv_iload_n hx hb dX10_meet_93 rfl (lv_at hl 3 rfl) ?_
        refine lv_iload hx hb dX10_meet_94 (lv_at hl 4 rfl) ?_
        refine mx_ki (mx_rV (rm := rm_X10_canBe) (rest := []) (C := RX10) hx hb hml hown hts (c_X10_canBe l D cI cB cZ cP cC a_m a_m_told a_m_kept a_m_isKept a_m_refused a_m_months a_m_heirs a_m_lasts a_m_cares a_m_bestCares a_m_ones a_m_others a_m_bytes a_m_anew a_m_values above below retired manyLine bytesLong tokenAt tokenLong token value told v2 v3 v4 _ _ hw) q_692 q_693 q_694 q_5 q_695 hd_X10_canBe ⟨(Nat.le_of_ble_eq_true rfl), (Nat.le_of_ble_eq_true rfl)⟩ rfl rfl hK hP hD [0, 1] rfl rfl 10 0 rfl rfl rfl rfl hl.1 rfl (Nat.le_of_ble_eq_true rfl) dX10_meet_96 ⟨(Nat.le_of_ble_eq_true rfl), (Nat.le_of_ble_eq_true rfl)⟩) hP hD hS hA [0, 1] [2] [1, 2, 0] (fun _ => ww_X10_meet a_m a_m_told a_m_kept a_m_isKept a_m_refused a_m_months a_m_heirs a_m_lasts a_m_cares a_m_bestCares a_m_ones a_m_others a_m_bytes a_m_anew a_m_values cI cB cZ cP cC above below retired manyLine bytesLong tokenAt tokenLong token value told refused) rfl rfl rfl (by decide) rfl (fun _ => rfl) (fun r_24 u H locs hw hP hD hS => ?_)
        try dsimp only at hw
        replace hP : va_P D vwCl (ww_X10_meet a_m a_m_told a_m_kept a_m_isKept a_m_refused a_m_months a_m_heirs a_m_lasts a_m_cares a_m_bestCares a_m_ones a_m_others a_m_bytes a_m_anew a_m_values cI cB cZ cP cC above below retired manyLine bytesLong tokenAt tokenLong token value told refused) H := hP
        replace hD : va_D A (ww_X10_meet a_m a_m_told a_m_kept a_m_isKept a_m_refused a_m_months a_m_heirs a_m_lasts a_m_cares a_m_bestCares a_m_ones a_m_others a_m_bytes a_m_anew a_m_values cI cB cZ cP cC above below retired manyLine bytesLong tokenAt tokenLong token value told refused) := hD
        refine lv_if_eq (tgt := 110) hx hb dX10_meet_99 (by decide) (fun c_25 => ?_) (fun c_25 => ?_)
        · replace hw := hw.1 c_25
          refine k_X10_meet_J110 C0 ?_ v1 v2 v3 v4 refused _ _ _ hP hD hS (lv_sub hl [0, 1, 2, 3, 4] rfl) hw
          intro v1_26 v2_27 v3_28 v4_29 refused_30 H locs ls hP hD hS hl hw
          exact ih v1_26 v2_27 v3_28 v4_29 refused_30 _ _ _ hP hD hS (lv_sub hl [0, 1, 2, 3, 4] rfl) hw
        · replace hw := hw.2 c_25
          exact hK_102 v3 v4 refused _ _ _ hP hD hS (lv_sub hl [3, 4] rfl) hw
def wp_X10_meet_L64 (told : Nat → Int32) (Post : Int32 → (Nat → Int32) → Prop) (K_102 : Int32 → Int32 → (Nat → Int32) → Prop) : Nat → Int32 → Int32 → Int32 → (Nat → Int32) → Prop
  | 0, _, _, _, _ => False
  | n + 1, v1, v2, v3, refused => ((24 ≤ v3 → Post (-1) refused) ∧ (¬ 24 ≤ v3 → (∃ k_39 : Nat, wp_X10_meet_L73 told Post (fun (v1_31 : Int32) (v2_32 : Int32) (v3_33 : Int32) (refused_34 : Nat → Int32) => (∀ x_35 : Int32, x_35 = v3_33 + 1 → wp_X10_meet_L64 told Post K_102 n v1_31 v2_32 x_35 refused_34)) K_102 k_39 v1 v2 v3 0 refused)))
set_option maxHeartbeats 4000000 in
set_option maxRecDepth 100000 in
theorem k_X10_meet_L64 {p : Program} {l : Launch} {e : Env} {s : State} {m : MethodId} {ar : Array Value} {bl : List Frame} {meth : Method} {c : Code} {D : va_G} {A : Nat → Prop} {cI cB cZ cP cC : ClassId} {a_m a_m_told a_m_kept a_m_isKept a_m_refused a_m_months a_m_heirs a_m_lasts a_m_cares a_m_bestCares a_m_ones a_m_others a_m_bytes a_m_anew a_m_values : Nat} {above : Int64} {below : Int64} {retired : Int32} {manyLine : Int32} {bytesLong : Int32} {tokenAt : Int32} {tokenLong : Int32} {token : Int32} {value : Int32} {told : Nat → Int32} {Post : Int32 → (Nat → Int32) → Prop} {K_102 : Int32 → Int32 → (Nat → Int32) → Prop} (C0 : mxC p s m ar meth c cX10_meet RX10 (some .int) 5 D (mxTy cI cB cZ cP cC) A)
    (hK_102 : ∀ (v3 : Int32) (v4 : Int32) (refused : Nat → Int32) (H : Heap) (locs : List Loc) (ls : Array Slot), va_P D vwCl (ww_X10_meet a_m a_m_told a_m_kept a_m_isKept a_m_refused a_m_months a_m_heirs a_m_lasts a_m_cares a_m_bestCares a_m_ones a_m_others a_m_bytes a_m_anew a_m_values cI cB cZ cP cC above below retired manyLine bytesLong tokenAt tokenLong token value told refused) H → va_D A (ww_X10_meet a_m a_m_told a_m_kept a_m_isKept a_m_refused a_m_months a_m_heirs a_m_lasts a_m_cares a_m_bestCares a_m_ones a_m_others a_m_bytes a_m_anew a_m_values cI cB cZ cP cC above below retired manyLine bytesLong tokenAt tokenLong token value told refused) → va_S A s.heap H locs → lv_has ls 5 [(3, .int v3), (4, .int v4)] → K_102 v3 v4 refused → W p l e rm_X10_meet s m ar bl meth c H locs 0 0 (MQ bl (qq_X10_meet D a_m a_m_told a_m_kept a_m_isKept a_m_refused a_m_months a_m_heirs a_m_lasts a_m_cares a_m_bestCares a_m_ones a_m_others a_m_bytes a_m_anew a_m_values cI cB cZ cP cC above below retired manyLine bytesLong tokenAt tokenLong token value told Post A) ar s 0 0 A) (F0 m 102 ls [])) :
    ∀ (n : Nat) (v1 : Int32) (v2 : Int32) (v3 : Int32) (refused : Nat → Int32) (H : Heap) (locs : List Loc) (ls : Array Slot), va_P D vwCl (ww_X10_meet a_m a_m_told a_m_kept a_m_isKept a_m_refused a_m_months a_m_heirs a_m_lasts a_m_cares a_m_bestCares a_m_ones a_m_others a_m_bytes a_m_anew a_m_values cI cB cZ cP cC above below retired manyLine bytesLong tokenAt tokenLong token value told refused) H → va_D A (ww_X10_meet a_m a_m_told a_m_kept a_m_isKept a_m_refused a_m_months a_m_heirs a_m_lasts a_m_cares a_m_bestCares a_m_ones a_m_others a_m_bytes a_m_anew a_m_values cI cB cZ cP cC above below retired manyLine bytesLong tokenAt tokenLong token value told refused) → va_S A s.heap H locs → lv_has ls 5 [(0, .ref a_m), (1, .int v1), (2, .int v2), (3, .int v3)] → wp_X10_meet_L64 told Post K_102 n v1 v2 v3 refused → W p l e rm_X10_meet s m ar bl meth c H locs 0 0 (MQ bl (qq_X10_meet D a_m a_m_told a_m_kept a_m_isKept a_m_refused a_m_months a_m_heirs a_m_lasts a_m_cares a_m_bestCares a_m_ones a_m_others a_m_bytes a_m_anew a_m_values cI cB cZ cP cC above below retired manyLine bytesLong tokenAt tokenLong token value told Post A) ar s 0 0 A) (F0 m 64 ls []) := by
  obtain ⟨hx, hb, hr, hlocks, hml, hown, hts, hK, hA⟩ := id C0
  intro n
  induction n with
  | zero =>
    intro v1 v2 v3 refused H locs ls hP hD hS hl hw
    exact absurd hw (fun h => h)
  | succ n ih =>
    intro v1 v2 v3 refused H locs ls hP hD hS hl hw
    refine lv_iload_n hx hb dX10_meet_64 rfl (lv_at hl 3 rfl) ?_
    refine lv_bipush (v := 24) hx hb dX10_meet_65 (by decide) ?_
    refine lv_icmp_ge (tgt := 122) hx hb dX10_meet_67 (by decide) (fun c_14 => ?_) (fun c_14 => ?_)
    · replace hw := hw.1 c_14
      refine lv_iconst (v := (-1)) hx hb dX10_meet_122 (by decide) ?_
      exact mx_iret refused hx hb hr hlocks rfl hw hK hP hD hS dX10_meet_123
    · replace hw := hw.2 c_14
      refine lv_iconst (v := 0) hx hb dX10_meet_70 (by decide) ?_
      refine lv_istore (lv' := [(4, .int 0), (0, .ref a_m), (1, .int v1), (2, .int v2), (3, .int v3)]) hx hb dX10_meet_71 hl (by decide) rfl (fun ls hl => ?_)
      obtain ⟨n0, hw⟩ := hw
      refine k_X10_meet_L73 C0 ?_ ?_ n0 v1 v2 v3 0 refused _ _ _ hP hD hS (lv_sub hl [1, 2, 3, 4, 0] rfl) hw
      · intro v1_31 v2_32 v3_33 refused_34 H locs ls hP hD hS hl hw
        obtain ⟨x_35, ex_35⟩ : ∃ y : Int32, y = v3_33 + 1 := ⟨_, rfl⟩
        replace hw := hw x_35 ex_35
        refine lv_iinc (v := x_35) (lv' := [(3, .int x_35), (0, .ref a_m), (1, .int v1_31), (2, .int v2_32)]) hx hb dX10_meet_116 hl (k := 3) rfl (by rw [ex_35]; rfl) (by decide) rfl (fun ls hl => ?_)
        refine lv_goto (tgt := 64) hx hb dX10_meet_119 (by decide) ?_
        exact ih v1_31 v2_32 x_35 refused_34 _ _ _ hP hD hS (lv_sub hl [1, 2, 3, 0] rfl) hw
      · intro v3_36 v4_37 refused_38 H locs ls hP hD hS hl hw
        exact hK_102 v3_36 v4_37 refused_38 _ _ _ hP hD hS (lv_sub hl [0, 1] rfl) hw
def wp_X10_meet (told : Nat → Int32) (refused : Nat → Int32) (v1 : Int32) (v2 : Int32) (Post : Int32 → (Nat → Int32) → Prop) : Prop :=
  (wp_X10_isInfant told v1 (fun r_1 => ((r_1 = 0 → (wp_X10_meet_J21 told Post refused)) ∧ (¬ r_1 = 0 → (wp_X10_isInfant told v2 (fun r_5 => ((r_5 = 0 → (wp_X10_meet_J21 told Post refused)) ∧ (¬ r_5 = 0 → ((v1 = v2 → (wp_X10_meet_J21 told Post refused)) ∧ (¬ v1 = v2 → (wp_X10_has (told 10) v1 (fun r_8 => ((r_8 = 0 → (wp_X10_has (told 10) v2 (fun r_12 => ((r_12 = 0 → (∃ k_43 : Nat, wp_X10_meet_L64 told Post (fun (v3_40 : Int32) (v4_41 : Int32) (refused_42 : Nat → Int32) => Post ((10 * v3_40) + v4_41) refused_42) k_43 v1 v2 7 refused)) ∧ (¬ r_12 = 0 → (wp_X10_meet_J56 told Post refused)))))) ∧ (¬ r_8 = 0 → (wp_X10_meet_J56 told Post refused)))))))))))))))
set_option maxHeartbeats 4000000 in
set_option maxRecDepth 100000 in
theorem c_X10_meet (l : Launch) (D : va_G) (cI cB cZ cP cC : ClassId) (a_m a_m_told a_m_kept a_m_isKept a_m_refused a_m_months a_m_heirs a_m_lasts a_m_cares a_m_bestCares a_m_ones a_m_others a_m_bytes a_m_anew a_m_values : Nat) (above : Int64) (below : Int64) (retired : Int32) (manyLine : Int32) (bytesLong : Int32) (tokenAt : Int32) (tokenLong : Int32) (token : Int32) (value : Int32) (told : Nat → Int32) (refused : Nat → Int32) (v1 : Int32) (v2 : Int32) (sz : Nat) (Post : Int32 → (Nat → Int32) → Prop) (hw : wp_X10_meet told refused v1 v2 Post) :
    Met l yX10_meet (Cond.code yX10_meet cX10_meet 5 (some .int) :: wsAll) rm_X10_meet (va_Pc [.ref a_m, .int v1, .int v2] (mxP D (mxTy cI cB cZ cP cC) sz (ww_X10_meet a_m a_m_told a_m_kept a_m_isKept a_m_refused a_m_months a_m_heirs a_m_lasts a_m_cares a_m_bestCares a_m_ones a_m_others a_m_bytes a_m_anew a_m_values cI cB cZ cP cC above below retired manyLine bytesLong tokenAt tokenLong token value told refused))) (qq_X10_meet D a_m a_m_told a_m_kept a_m_isKept a_m_refused a_m_months a_m_heirs a_m_lasts a_m_cares a_m_bestCares a_m_ones a_m_others a_m_bytes a_m_anew a_m_values cI cB cZ cP cC above below retired manyLine bytesLong tokenAt tokenLong token value told Post (va_A (ww_X10_meet a_m a_m_told a_m_kept a_m_isKept a_m_refused a_m_months a_m_heirs a_m_lasts a_m_cares a_m_bestCares a_m_ones a_m_others a_m_bytes a_m_anew a_m_values cI cB cZ cP cC above below retired manyLine bytesLong tokenAt tokenLong token value told refused) sz)) 0 0 (va_A (ww_X10_meet a_m a_m_told a_m_kept a_m_isKept a_m_refused a_m_months a_m_heirs a_m_lasts a_m_cares a_m_bestCares a_m_ones a_m_others a_m_bytes a_m_anew a_m_values cI cB cZ cP cC above below retired manyLine bytesLong tokenAt tokenLong token value told refused) sz) := by
  refine mx_of (Qc := qq_X10_meet D a_m a_m_told a_m_kept a_m_isKept a_m_refused a_m_months a_m_heirs a_m_lasts a_m_cares a_m_bestCares a_m_ones a_m_others a_m_bytes a_m_anew a_m_values cI cB cZ cP cC above below retired manyLine bytesLong tokenAt tokenLong token value told Post) (by decide) (Nat.le_of_ble_eq_true rfl) ?_
  intro p e s m bl meth c A ls C0 hP hD hS hl
  replace C0 : mxC p s m [.ref a_m, .int v1, .int v2].toArray meth c cX10_meet RX10 (some .int) 5 D (mxTy cI cB cZ cP cC) A := C0
  obtain ⟨hx, hb, hr, hlocks, hml, hown, hts, hK, hA⟩ := id C0
  replace hl : lv_has ls 5 [(0, .ref a_m), (1, .int v1), (2, .int v2)] := hl
  unfold wp_X10_meet at hw
  refine lv_aload_n hx hb dX10_meet_0 rfl (lv_at hl 0 rfl) ?_
  refine lv_iload_n hx hb dX10_meet_1 rfl (lv_at hl 1 rfl) ?_
  refine mx_ki (mx_rV (rm := rm_X10_isInfant) (rest := []) (C := RX10) hx hb hml hown hts (c_X10_isInfant l D cI cB cZ cP cC a_m a_m_told a_m_kept a_m_isKept a_m_refused a_m_months a_m_heirs a_m_lasts a_m_cares a_m_bestCares a_m_ones a_m_others a_m_bytes a_m_anew a_m_values above below retired manyLine bytesLong tokenAt tokenLong token value told v1 _ _ hw) q_472 q_473 q_474 q_5 q_475 hd_X10_isInfant ⟨(Nat.le_of_ble_eq_true rfl), (Nat.le_of_ble_eq_true rfl)⟩ rfl rfl hK hP hD [0, 1] rfl rfl 10 0 rfl rfl rfl rfl hl.1 rfl (Nat.le_of_ble_eq_true rfl) dX10_meet_2 ⟨(Nat.le_of_ble_eq_true rfl), (Nat.le_of_ble_eq_true rfl)⟩) hP hD hS hA [0, 1] [2] [1, 2, 0] (fun _ => ww_X10_meet a_m a_m_told a_m_kept a_m_isKept a_m_refused a_m_months a_m_heirs a_m_lasts a_m_cares a_m_bestCares a_m_ones a_m_others a_m_bytes a_m_anew a_m_values cI cB cZ cP cC above below retired manyLine bytesLong tokenAt tokenLong token value told refused) rfl rfl rfl (by decide) rfl (fun _ => rfl) (fun r_1 u H locs hw hP hD hS => ?_)
  try dsimp only at hw
  replace hP : va_P D vwCl (ww_X10_meet a_m a_m_told a_m_kept a_m_isKept a_m_refused a_m_months a_m_heirs a_m_lasts a_m_cares a_m_bestCares a_m_ones a_m_others a_m_bytes a_m_anew a_m_values cI cB cZ cP cC above below retired manyLine bytesLong tokenAt tokenLong token value told refused) H := hP
  replace hD : va_D A (ww_X10_meet a_m a_m_told a_m_kept a_m_isKept a_m_refused a_m_months a_m_heirs a_m_lasts a_m_cares a_m_bestCares a_m_ones a_m_others a_m_bytes a_m_anew a_m_values cI cB cZ cP cC above below retired manyLine bytesLong tokenAt tokenLong token value told refused) := hD
  refine lv_if_eq (tgt := 21) hx hb dX10_meet_5 (by decide) (fun c_2 => ?_) (fun c_2 => ?_)
  · replace hw := hw.1 c_2
    exact k_X10_meet_J21 C0  refused _ _ _ hP hD hS (lv_sub hl [0] rfl) hw
  · replace hw := hw.2 c_2
    refine lv_aload_n hx hb dX10_meet_8 rfl (lv_at hl 0 rfl) ?_
    refine lv_iload_n hx hb dX10_meet_9 rfl (lv_at hl 2 rfl) ?_
    refine mx_ki (mx_rV (rm := rm_X10_isInfant) (rest := []) (C := RX10) hx hb hml hown hts (c_X10_isInfant l D cI cB cZ cP cC a_m a_m_told a_m_kept a_m_isKept a_m_refused a_m_months a_m_heirs a_m_lasts a_m_cares a_m_bestCares a_m_ones a_m_others a_m_bytes a_m_anew a_m_values above below retired manyLine bytesLong tokenAt tokenLong token value told v2 _ _ hw) q_472 q_473 q_474 q_5 q_475 hd_X10_isInfant ⟨(Nat.le_of_ble_eq_true rfl), (Nat.le_of_ble_eq_true rfl)⟩ rfl rfl hK hP hD [0, 1] rfl rfl 10 0 rfl rfl rfl rfl hl.1 rfl (Nat.le_of_ble_eq_true rfl) dX10_meet_10 ⟨(Nat.le_of_ble_eq_true rfl), (Nat.le_of_ble_eq_true rfl)⟩) hP hD hS hA [0, 1] [2] [1, 2, 0] (fun _ => ww_X10_meet a_m a_m_told a_m_kept a_m_isKept a_m_refused a_m_months a_m_heirs a_m_lasts a_m_cares a_m_bestCares a_m_ones a_m_others a_m_bytes a_m_anew a_m_values cI cB cZ cP cC above below retired manyLine bytesLong tokenAt tokenLong token value told refused) rfl rfl rfl (by decide) rfl (fun _ => rfl) (fun r_5 u H locs hw hP hD hS => ?_)
    try dsimp only at hw
    replace hP : va_P D vwCl (ww_X10_meet a_m a_m_told a_m_kept a_m_isKept a_m_refused a_m_months a_m_heirs a_m_lasts a_m_cares a_m_bestCares a_m_ones a_m_others a_m_bytes a_m_anew a_m_values cI cB cZ cP cC above below retired manyLine bytesLong tokenAt tokenLong token value told refused) H := hP
    replace hD : va_D A (ww_X10_meet a_m a_m_told a_m_kept a_m_isKept a_m_refused a_m_months a_m_heirs a_m_lasts a_m_cares a_m_bestCares a_m_ones a_m_others a_m_bytes a_m_anew a_m_values cI cB cZ cP cC above below retired manyLine bytesLong tokenAt tokenLong token value told refused) := hD
    refine lv_if_eq (tgt := 21) hx hb dX10_meet_13 (by decide) (fun c_6 => ?_) (fun c_6 => ?_)
    · replace hw := hw.1 c_6
      exact k_X10_meet_J21 C0  refused _ _ _ hP hD hS (lv_sub hl [0] rfl) hw
    · replace hw := hw.2 c_6
      refine lv_iload_n hx hb dX10_meet_16 rfl (lv_at hl 1 rfl) ?_
      refine lv_iload_n hx hb dX10_meet_17 rfl (lv_at hl 2 rfl) ?_
      refine lv_icmp_ne (tgt := 28) hx hb dX10_meet_18 (by decide) (fun c_7 => ?_) (fun c_7 => ?_)
      · replace hw := hw.2 c_7
        refine lv_aload_n hx hb dX10_meet_28 rfl (lv_at hl 0 rfl) ?_
        refine mx_get (ci := 10) (C := RX10) (T := TX10) (N := 23) hx hb hown in_wsX100 hts hK hP 0 rfl rfl 0 (by decide) q_91 rfl (v := .ref a_m_told) rfl dX10_meet_29 ?_
        refine lv_bipush (v := 10) hx hb dX10_meet_32 (by decide) ?_
        refine mx_iald hx hb hK hP 1 0 rfl rfl (mx_lit rfl) (told 10) rfl dX10_meet_34 ?_
        refine lv_iload_n hx hb dX10_meet_35 rfl (lv_at hl 1 rfl) ?_
        refine mx_ki (mx_rS (rm := rm_X10_has) (rest := []) hx hb hml hown hts (c_X10_has l D cI cB cZ cP cC (told 10) v1 _ _ hw) q_445 q_446 q_5 q_447 hd_X10_has ⟨(Nat.le_of_ble_eq_true rfl), (Nat.le_of_ble_eq_true rfl)⟩ rfl rfl hK hP hD [] rfl rfl rfl hl.1 rfl (Nat.le_of_ble_eq_true rfl) dX10_meet_36 ⟨(Nat.le_of_ble_eq_true rfl), (Nat.le_of_ble_eq_true rfl)⟩) hP hD hS hA [] [0, 1, 2] [0, 1, 2] (fun _ => ww_X10_meet a_m a_m_told a_m_kept a_m_isKept a_m_refused a_m_months a_m_heirs a_m_lasts a_m_cares a_m_bestCares a_m_ones a_m_others a_m_bytes a_m_anew a_m_values cI cB cZ cP cC above below retired manyLine bytesLong tokenAt tokenLong token value told refused) rfl rfl rfl (by decide) rfl (fun _ => rfl) (fun r_8 u H locs hw hP hD hS => ?_)
        try dsimp only at hw
        replace hP : va_P D vwCl (ww_X10_meet a_m a_m_told a_m_kept a_m_isKept a_m_refused a_m_months a_m_heirs a_m_lasts a_m_cares a_m_bestCares a_m_ones a_m_others a_m_bytes a_m_anew a_m_values cI cB cZ cP cC above below retired manyLine bytesLong tokenAt tokenLong token value told refused) H := hP
        replace hD : va_D A (ww_X10_meet a_m a_m_told a_m_kept a_m_isKept a_m_refused a_m_months a_m_heirs a_m_lasts a_m_cares a_m_bestCares a_m_ones a_m_others a_m_bytes a_m_anew a_m_values cI cB cZ cP cC above below retired manyLine bytesLong tokenAt tokenLong token value told refused) := hD
        refine lv_if_ne (tgt := 56) hx hb dX10_meet_39 (by decide) (fun c_9 => ?_) (fun c_9 => ?_)
        · replace hw := hw.2 c_9
          exact k_X10_meet_J56 C0  refused _ _ _ hP hD hS (lv_sub hl [0] rfl) hw
        · replace hw := hw.1 c_9
          refine lv_aload_n hx hb dX10_meet_42 rfl (lv_at hl 0 rfl) ?_
          refine mx_get (ci := 10) (C := RX10) (T := TX10) (N := 23) hx hb hown in_wsX100 hts hK hP 0 rfl rfl 0 (by decide) q_91 rfl (v := .ref a_m_told) rfl dX10_meet_43 ?_
          refine lv_bipush (v := 10) hx hb dX10_meet_46 (by decide) ?_
          refine mx_iald hx hb hK hP 1 0 rfl rfl (mx_lit rfl) (told 10) rfl dX10_meet_48 ?_
          refine lv_iload_n hx hb dX10_meet_49 rfl (lv_at hl 2 rfl) ?_
          refine mx_ki (mx_rS (rm := rm_X10_has) (rest := []) hx hb hml hown hts (c_X10_has l D cI cB cZ cP cC (told 10) v2 _ _ hw) q_445 q_446 q_5 q_447 hd_X10_has ⟨(Nat.le_of_ble_eq_true rfl), (Nat.le_of_ble_eq_true rfl)⟩ rfl rfl hK hP hD [] rfl rfl rfl hl.1 rfl (Nat.le_of_ble_eq_true rfl) dX10_meet_50 ⟨(Nat.le_of_ble_eq_true rfl), (Nat.le_of_ble_eq_true rfl)⟩) hP hD hS hA [] [0, 1, 2] [0, 1, 2] (fun _ => ww_X10_meet a_m a_m_told a_m_kept a_m_isKept a_m_refused a_m_months a_m_heirs a_m_lasts a_m_cares a_m_bestCares a_m_ones a_m_others a_m_bytes a_m_anew a_m_values cI cB cZ cP cC above below retired manyLine bytesLong tokenAt tokenLong token value told refused) rfl rfl rfl (by decide) rfl (fun _ => rfl) (fun r_12 u H locs hw hP hD hS => ?_)
          try dsimp only at hw
          replace hP : va_P D vwCl (ww_X10_meet a_m a_m_told a_m_kept a_m_isKept a_m_refused a_m_months a_m_heirs a_m_lasts a_m_cares a_m_bestCares a_m_ones a_m_others a_m_bytes a_m_anew a_m_values cI cB cZ cP cC above below retired manyLine bytesLong tokenAt tokenLong token value told refused) H := hP
          replace hD : va_D A (ww_X10_meet a_m a_m_told a_m_kept a_m_isKept a_m_refused a_m_months a_m_heirs a_m_lasts a_m_cares a_m_bestCares a_m_ones a_m_others a_m_bytes a_m_anew a_m_values cI cB cZ cP cC above below retired manyLine bytesLong tokenAt tokenLong token value told refused) := hD
          refine lv_if_eq (tgt := 61) hx hb dX10_meet_53 (by decide) (fun c_13 => ?_) (fun c_13 => ?_)
          · replace hw := hw.1 c_13
            refine lv_bipush (v := 7) hx hb dX10_meet_61 (by decide) ?_
            refine lv_istore_n (lv' := [(3, .int 7), (0, .ref a_m), (1, .int v1), (2, .int v2)]) hx hb dX10_meet_63 rfl hl (by decide) rfl (fun ls hl => ?_)
            obtain ⟨n0, hw⟩ := hw
            refine k_X10_meet_L64 C0 ?_ n0 v1 v2 7 refused _ _ _ hP hD hS (lv_sub hl [1, 2, 3, 0] rfl) hw
            intro v3_40 v4_41 refused_42 H locs ls hP hD hS hl hw
            refine lv_bipush (v := 10) hx hb dX10_meet_102 (by decide) ?_
            refine lv_iload_n hx hb dX10_meet_104 rfl (lv_at hl 0 rfl) ?_
            refine lv_imul hx hb dX10_meet_105 ?_
            refine lv_iload hx hb dX10_meet_106 (lv_at hl 1 rfl) ?_
            refine lv_iadd hx hb dX10_meet_108 ?_
            exact mx_iret refused_42 hx hb hr hlocks rfl hw hK hP hD hS dX10_meet_109
          · replace hw := hw.2 c_13
            exact k_X10_meet_J56 C0  refused _ _ _ hP hD hS (lv_sub hl [0] rfl) hw
      · replace hw := hw.1 c_7
        exact k_X10_meet_J21 C0  refused _ _ _ hP hD hS (lv_sub hl [0] rfl) hw
/-! PramStateModel.congress(I)I -/
abbrev ww_X10_congress (a_m a_m_told a_m_kept a_m_isKept a_m_refused a_m_months a_m_heirs a_m_lasts a_m_cares a_m_bestCares a_m_ones a_m_others a_m_bytes a_m_anew a_m_values : Nat) (cI cB cZ cP cC : ClassId) (above : Int64) (below : Int64) (retired : Int32) (manyLine : Int32) (bytesLong : Int32) (tokenAt : Int32) (tokenLong : Int32) (token : Int32) (value : Int32) (told : Nat → Int32) (refused : Nat → Int32) : va_W := [(a_m, .inr (10, [.ref a_m_told, .ref a_m_kept, .ref a_m_isKept, .ref a_m_refused, .long above, .long below, .ref a_m_months, .int retired, .ref a_m_heirs, .ref a_m_lasts, .int manyLine, .ref a_m_cares, .ref a_m_bestCares, .ref a_m_ones, .ref a_m_others, .ref a_m_bytes, .int bytesLong, .int tokenAt, .int tokenLong, .int token, .int value, .ref a_m_anew, .ref a_m_values])), (a_m_told, .inl (cI, 190, .inl told)), (a_m_refused, .inl (cI, 3, .inl refused))]
abbrev qq_X10_congress (D : va_G) (a_m a_m_told a_m_kept a_m_isKept a_m_refused a_m_months a_m_heirs a_m_lasts a_m_cares a_m_bestCares a_m_ones a_m_others a_m_bytes a_m_anew a_m_values : Nat) (cI cB cZ cP cC : ClassId) (above : Int64) (below : Int64) (retired : Int32) (manyLine : Int32) (bytesLong : Int32) (tokenAt : Int32) (tokenLong : Int32) (token : Int32) (value : Int32) (told : Nat → Int32) (Post : Int32 → (Nat → Int32) → Prop) (A : Nat → Prop) : Array Value → State → Outcome → State → Prop := va_Qi (fun (r : Int32) (u : (Nat → Int32)) => Post r u) (fun (u : (Nat → Int32)) t => mxB D (mxTy cI cB cZ cP cC) A (ww_X10_congress a_m a_m_told a_m_kept a_m_isKept a_m_refused a_m_months a_m_heirs a_m_lasts a_m_cares a_m_bestCares a_m_ones a_m_others a_m_bytes a_m_anew a_m_values cI cB cZ cP cC above below retired manyLine bytesLong tokenAt tokenLong token value told u) t) A
abbrev rm_X10_congress : Room := { frames := 3, cells := 0, slots := 0, locals := 67 }
theorem hd_X10_congress : yX10_congress.cls = RX10 ∧ yX10_congress.cls ≠ "java/lang/invoke/MethodHandle" ∧ yX10_congress.cls ≠ "java/lang/invoke/VarHandle" ∧ (parseMethodDescriptor yX10_congress.desc).map (fun d => d.parameters.length) = some 1 := by decide +kernel
def wp_X10_congress_J77 (told : Nat → Int32) (Post : Int32 → (Nat → Int32) → Prop) (K_48 : Int32 → Int32 → Int32 → Int32 → Int32 → Int32 → Int32 → (Nat → Int32) → Prop) (v1 : Int32) (v2 : Int32) (v3 : Int32) (v4 : Int32) (v5 : Int32) (v7 : Int32) (s0 : Int32) (s1 : Int32) (refused : Nat → Int32) : Prop :=
  (∀ x_9 : Int32, x_9 = s1 + s0 → (∀ x_10 : Int32, x_10 = v7 + 1 → K_48 v1 v2 v3 v4 v5 x_9 x_10 refused))
set_option maxHeartbeats 4000000 in
set_option maxRecDepth 100000 in
theorem k_X10_congress_J77 {p : Program} {l : Launch} {e : Env} {s : State} {m : MethodId} {ar : Array Value} {bl : List Frame} {meth : Method} {c : Code} {D : va_G} {A : Nat → Prop} {cI cB cZ cP cC : ClassId} {a_m a_m_told a_m_kept a_m_isKept a_m_refused a_m_months a_m_heirs a_m_lasts a_m_cares a_m_bestCares a_m_ones a_m_others a_m_bytes a_m_anew a_m_values : Nat} {above : Int64} {below : Int64} {retired : Int32} {manyLine : Int32} {bytesLong : Int32} {tokenAt : Int32} {tokenLong : Int32} {token : Int32} {value : Int32} {told : Nat → Int32} {Post : Int32 → (Nat → Int32) → Prop} {K_48 : Int32 → Int32 → Int32 → Int32 → Int32 → Int32 → Int32 → (Nat → Int32) → Prop} (C0 : mxC p s m ar meth c cX10_congress RX10 (some .int) 8 D (mxTy cI cB cZ cP cC) A)
    (hK_48 : ∀ (v1 : Int32) (v2 : Int32) (v3 : Int32) (v4 : Int32) (v5 : Int32) (v6 : Int32) (v7 : Int32) (refused : Nat → Int32) (H : Heap) (locs : List Loc) (ls : Array Slot), va_P D vwCl (ww_X10_congress a_m a_m_told a_m_kept a_m_isKept a_m_refused a_m_months a_m_heirs a_m_lasts a_m_cares a_m_bestCares a_m_ones a_m_others a_m_bytes a_m_anew a_m_values cI cB cZ cP cC above below retired manyLine bytesLong tokenAt tokenLong token value told refused) H → va_D A (ww_X10_congress a_m a_m_told a_m_kept a_m_isKept a_m_refused a_m_months a_m_heirs a_m_lasts a_m_cares a_m_bestCares a_m_ones a_m_others a_m_bytes a_m_anew a_m_values cI cB cZ cP cC above below retired manyLine bytesLong tokenAt tokenLong token value told refused) → va_S A s.heap H locs → lv_has ls 8 [(0, .ref a_m), (1, .int v1), (2, .int v2), (3, .int v3), (4, .int v4), (5, .int v5), (6, .int v6), (7, .int v7)] → K_48 v1 v2 v3 v4 v5 v6 v7 refused → W p l e rm_X10_congress s m ar bl meth c H locs 0 0 (MQ bl (qq_X10_congress D a_m a_m_told a_m_kept a_m_isKept a_m_refused a_m_months a_m_heirs a_m_lasts a_m_cares a_m_bestCares a_m_ones a_m_others a_m_bytes a_m_anew a_m_values cI cB cZ cP cC above below retired manyLine bytesLong tokenAt tokenLong token value told Post A) ar s 0 0 A) (F0 m 48 ls [])) :
    ∀ (v1 : Int32) (v2 : Int32) (v3 : Int32) (v4 : Int32) (v5 : Int32) (v7 : Int32) (s0 : Int32) (s1 : Int32) (refused : Nat → Int32) (H : Heap) (locs : List Loc) (ls : Array Slot), va_P D vwCl (ww_X10_congress a_m a_m_told a_m_kept a_m_isKept a_m_refused a_m_months a_m_heirs a_m_lasts a_m_cares a_m_bestCares a_m_ones a_m_others a_m_bytes a_m_anew a_m_values cI cB cZ cP cC above below retired manyLine bytesLong tokenAt tokenLong token value told refused) H → va_D A (ww_X10_congress a_m a_m_told a_m_kept a_m_isKept a_m_refused a_m_months a_m_heirs a_m_lasts a_m_cares a_m_bestCares a_m_ones a_m_others a_m_bytes a_m_anew a_m_values cI cB cZ cP cC above below retired manyLine bytesLong tokenAt tokenLong token value told refused) → va_S A s.heap H locs → lv_has ls 8 [(0, .ref a_m), (1, .int v1), (2, .int v2), (3, .int v3), (4, .int v4), (5, .int v5), (7, .int v7)] → wp_X10_congress_J77 told Post K_48 v1 v2 v3 v4 v5 v7 s0 s1 refused → W p l e rm_X10_congress s m ar bl meth c H locs 0 0 (MQ bl (qq_X10_congress D a_m a_m_told a_m_kept a_m_isKept a_m_refused a_m_months a_m_heirs a_m_lasts a_m_cares a_m_bestCares a_m_ones a_m_others a_m_bytes a_m_anew a_m_values cI cB cZ cP cC above below retired manyLine bytesLong tokenAt tokenLong token value told Post A) ar s 0 0 A) (F0 m 77 ls [.int s0, .int s1]) := by
  obtain ⟨hx, hb, hr, hlocks, hml, hown, hts, hK, hA⟩ := id C0
  intro v1 v2 v3 v4 v5 v7 s0 s1 refused H locs ls hP hD hS hl hw
  refine lv_iadd hx hb dX10_congress_77 ?_
  refine lv_topi (fun x_9 ex_9 => ?_)
  replace hw := hw x_9 ex_9
  refine lv_istore (lv' := [(6, .int x_9), (0, .ref a_m), (1, .int v1), (2, .int v2), (3, .int v3), (4, .int v4), (5, .int v5), (7, .int v7)]) hx hb dX10_congress_78 hl (by decide) rfl (fun ls hl => ?_)
  obtain ⟨x_10, ex_10⟩ : ∃ y : Int32, y = v7 + 1 := ⟨_, rfl⟩
  replace hw := hw x_10 ex_10
  refine lv_iinc (v := x_10) (lv' := [(7, .int x_10), (6, .int x_9), (0, .ref a_m), (1, .int v1), (2, .int v2), (3, .int v3), (4, .int v4), (5, .int v5)]) hx hb dX10_congress_80 hl (k := 7) rfl (by rw [ex_10]; rfl) (by decide) rfl (fun ls hl => ?_)
  refine lv_goto (tgt := 48) hx hb dX10_congress_83 (by decide) ?_
  exact hK_48 v1 v2 v3 v4 v5 x_9 x_10 refused _ _ _ hP hD hS (lv_sub hl [2, 3, 4, 5, 6, 7, 1, 0] rfl) hw
def wp_X10_congress_L48 (told : Nat → Int32) (Post : Int32 → (Nat → Int32) → Prop) (K_86 : Int32 → Int32 → Int32 → Int32 → Int32 → Int32 → (Nat → Int32) → Prop) : Nat → Int32 → Int32 → Int32 → Int32 → Int32 → Int32 → Int32 → (Nat → Int32) → Prop
  | 0, _, _, _, _, _, _, _, _ => False
  | n + 1, v1, v2, v3, v4, v5, v6, v7, refused => (wp_X10_many told (fun r_5 => ((r_5 ≤ v7 → K_86 v1 v2 v3 v4 v5 v6 refused) ∧ (¬ r_5 ≤ v7 → (wp_X10_canBe told v7 v4 v5 (fun r_7 => ((r_7 = 0 → (wp_X10_congress_J77 told Post (fun (v1_11 : Int32) (v2_12 : Int32) (v3_13 : Int32) (v4_14 : Int32) (v5_15 : Int32) (v6_16 : Int32) (v7_17 : Int32) (refused_18 : Nat → Int32) => wp_X10_congress_L48 told Post K_86 n v1_11 v2_12 v3_13 v4_14 v5_15 v6_16 v7_17 refused_18) v1 v2 v3 v4 v5 v7 0 v6 refused)) ∧ (¬ r_7 = 0 → (wp_X10_congress_J77 told Post (fun (v1_19 : Int32) (v2_20 : Int32) (v3_21 : Int32) (v4_22 : Int32) (v5_23 : Int32) (v6_24 : Int32) (v7_25 : Int32) (refused_26 : Nat → Int32) => wp_X10_congress_L48 told Post K_86 n v1_19 v2_20 v3_21 v4_22 v5_23 v6_24 v7_25 refused_26) v1 v2 v3 v4 v5 v7 1 v6 refused)))))))))
set_option maxHeartbeats 4000000 in
set_option maxRecDepth 100000 in
theorem k_X10_congress_L48 {p : Program} {l : Launch} {e : Env} {s : State} {m : MethodId} {ar : Array Value} {bl : List Frame} {meth : Method} {c : Code} {D : va_G} {A : Nat → Prop} {cI cB cZ cP cC : ClassId} {a_m a_m_told a_m_kept a_m_isKept a_m_refused a_m_months a_m_heirs a_m_lasts a_m_cares a_m_bestCares a_m_ones a_m_others a_m_bytes a_m_anew a_m_values : Nat} {above : Int64} {below : Int64} {retired : Int32} {manyLine : Int32} {bytesLong : Int32} {tokenAt : Int32} {tokenLong : Int32} {token : Int32} {value : Int32} {told : Nat → Int32} {Post : Int32 → (Nat → Int32) → Prop} {K_86 : Int32 → Int32 → Int32 → Int32 → Int32 → Int32 → (Nat → Int32) → Prop} (C0 : mxC p s m ar meth c cX10_congress RX10 (some .int) 8 D (mxTy cI cB cZ cP cC) A)
    (hK_86 : ∀ (v1 : Int32) (v2 : Int32) (v3 : Int32) (v4 : Int32) (v5 : Int32) (v6 : Int32) (refused : Nat → Int32) (H : Heap) (locs : List Loc) (ls : Array Slot), va_P D vwCl (ww_X10_congress a_m a_m_told a_m_kept a_m_isKept a_m_refused a_m_months a_m_heirs a_m_lasts a_m_cares a_m_bestCares a_m_ones a_m_others a_m_bytes a_m_anew a_m_values cI cB cZ cP cC above below retired manyLine bytesLong tokenAt tokenLong token value told refused) H → va_D A (ww_X10_congress a_m a_m_told a_m_kept a_m_isKept a_m_refused a_m_months a_m_heirs a_m_lasts a_m_cares a_m_bestCares a_m_ones a_m_others a_m_bytes a_m_anew a_m_values cI cB cZ cP cC above below retired manyLine bytesLong tokenAt tokenLong token value told refused) → va_S A s.heap H locs → lv_has ls 8 [(0, .ref a_m), (1, .int v1), (2, .int v2), (3, .int v3), (4, .int v4), (5, .int v5), (6, .int v6)] → K_86 v1 v2 v3 v4 v5 v6 refused → W p l e rm_X10_congress s m ar bl meth c H locs 0 0 (MQ bl (qq_X10_congress D a_m a_m_told a_m_kept a_m_isKept a_m_refused a_m_months a_m_heirs a_m_lasts a_m_cares a_m_bestCares a_m_ones a_m_others a_m_bytes a_m_anew a_m_values cI cB cZ cP cC above below retired manyLine bytesLong tokenAt tokenLong token value told Post A) ar s 0 0 A) (F0 m 86 ls [])) :
    ∀ (n : Nat) (v1 : Int32) (v2 : Int32) (v3 : Int32) (v4 : Int32) (v5 : Int32) (v6 : Int32) (v7 : Int32) (refused : Nat → Int32) (H : Heap) (locs : List Loc) (ls : Array Slot), va_P D vwCl (ww_X10_congress a_m a_m_told a_m_kept a_m_isKept a_m_refused a_m_months a_m_heirs a_m_lasts a_m_cares a_m_bestCares a_m_ones a_m_others a_m_bytes a_m_anew a_m_values cI cB cZ cP cC above below retired manyLine bytesLong tokenAt tokenLong token value told refused) H → va_D A (ww_X10_congress a_m a_m_told a_m_kept a_m_isKept a_m_refused a_m_months a_m_heirs a_m_lasts a_m_cares a_m_bestCares a_m_ones a_m_others a_m_bytes a_m_anew a_m_values cI cB cZ cP cC above below retired manyLine bytesLong tokenAt tokenLong token value told refused) → va_S A s.heap H locs → lv_has ls 8 [(0, .ref a_m), (1, .int v1), (2, .int v2), (3, .int v3), (4, .int v4), (5, .int v5), (6, .int v6), (7, .int v7)] → wp_X10_congress_L48 told Post K_86 n v1 v2 v3 v4 v5 v6 v7 refused → W p l e rm_X10_congress s m ar bl meth c H locs 0 0 (MQ bl (qq_X10_congress D a_m a_m_told a_m_kept a_m_isKept a_m_refused a_m_months a_m_heirs a_m_lasts a_m_cares a_m_bestCares a_m_ones a_m_others a_m_bytes a_m_anew a_m_values cI cB cZ cP cC above below retired manyLine bytesLong tokenAt tokenLong token value told Post A) ar s 0 0 A) (F0 m 48 ls []) := by
  obtain ⟨hx, hb, hr, hlocks, hml, hown, hts, hK, hA⟩ := id C0
  intro n
  induction n with
  | zero =>
    intro v1 v2 v3 v4 v5 v6 v7 refused H locs ls hP hD hS hl hw
    exact absurd hw (fun h => h)
  | succ n ih =>
    intro v1 v2 v3 v4 v5 v6 v7 refused H locs ls hP hD hS hl hw
    refine lv_iload hx hb dX10_congress_48 (lv_at hl 7 rfl) ?_
    refine lv_aload_n hx hb dX10_congress_50 rfl (lv_at hl 0 rfl) ?_
    refine mx_ki (mx_rV (rm := rm_X10_many) (rest := [.int v7]) (C := RX10) hx hb hml hown hts (c_X10_many l D cI cB cZ cP cC a_m a_m_told a_m_kept a_m_isKept a_m_refused a_m_months a_m_heirs a_m_lasts a_m_cares a_m_bestCares a_m_ones a_m_others a_m_bytes a_m_anew a_m_values above below retired manyLine bytesLong tokenAt tokenLong token value told _ _ hw) q_132 q_133 q_134 q_5 q_135 hd_X10_many ⟨(Nat.le_of_ble_eq_true rfl), (Nat.le_of_ble_eq_true rfl)⟩ rfl rfl hK hP hD [0, 1] rfl rfl 10 0 rfl rfl rfl rfl hl.1 rfl (Nat.le_of_ble_eq_true rfl) dX10_congress_51 ⟨(Nat.le_of_ble_eq_true rfl), (Nat.le_of_ble_eq_true rfl)⟩) hP hD hS hA [0, 1] [2] [1, 2, 0] (fun _ => ww_X10_congress a_m a_m_told a_m_kept a_m_isKept a_m_refused a_m_months a_m_heirs a_m_lasts a_m_cares a_m_bestCares a_m_ones a_m_others a_m_bytes a_m_anew a_m_values cI cB cZ cP cC above below retired manyLine bytesLong tokenAt tokenLong token value told refused) rfl rfl rfl (by decide) rfl (fun _ => rfl) (fun r_5 u H locs hw hP hD hS => ?_)
    try dsimp only at hw
    replace hP : va_P D vwCl (ww_X10_congress a_m a_m_told a_m_kept a_m_isKept a_m_refused a_m_months a_m_heirs a_m_lasts a_m_cares a_m_bestCares a_m_ones a_m_others a_m_bytes a_m_anew a_m_values cI cB cZ cP cC above below retired manyLine bytesLong tokenAt tokenLong token value told refused) H := hP
    replace hD : va_D A (ww_X10_congress a_m a_m_told a_m_kept a_m_isKept a_m_refused a_m_months a_m_heirs a_m_lasts a_m_cares a_m_bestCares a_m_ones a_m_others a_m_bytes a_m_anew a_m_values cI cB cZ cP cC above below retired manyLine bytesLong tokenAt tokenLong token value told refused) := hD
    refine lv_icmp_ge (tgt := 86) hx hb dX10_congress_54 (by decide) (fun c_6 => ?_) (fun c_6 => ?_)
    · replace hw := hw.1 c_6
      exact hK_86 v1 v2 v3 v4 v5 v6 refused _ _ _ hP hD hS (lv_sub hl [0, 1, 2, 3, 4, 5, 6] rfl) hw
    · replace hw := hw.2 c_6
      refine lv_iload hx hb dX10_congress_57 (lv_at hl 6 rfl) ?_
      refine lv_aload_n hx hb dX10_congress_59 rfl (lv_at hl 0 rfl) ?_
      refine lv_iload hx hb dX10_congress_60 (lv_at hl 7 rfl) ?_
      refine lv_iload hx hb dX10_congress_62 (lv_at hl 4 rfl) ?_
      refine lv_iload hx hb dX10_congress_64 (lv_at hl 5 rfl) ?_
      refine mx_ki (mx_rV (rm := rm_X10_canBe) (rest := [.int v6]) (C := RX10) hx hb hml hown hts (c_X10_canBe l D cI cB cZ cP cC a_m a_m_told a_m_kept a_m_isKept a_m_refused a_m_months a_m_heirs a_m_lasts a_m_cares a_m_bestCares a_m_ones a_m_others a_m_bytes a_m_anew a_m_values above below retired manyLine bytesLong tokenAt tokenLong token value told v7 v4 v5 _ _ hw) q_692 q_693 q_694 q_5 q_695 hd_X10_canBe ⟨(Nat.le_of_ble_eq_true rfl), (Nat.le_of_ble_eq_true rfl)⟩ rfl rfl hK hP hD [0, 1] rfl rfl 10 0 rfl rfl rfl rfl hl.1 rfl (Nat.le_of_ble_eq_true rfl) dX10_congress_66 ⟨(Nat.le_of_ble_eq_true rfl), (Nat.le_of_ble_eq_true rfl)⟩) hP hD hS hA [0, 1] [2] [1, 2, 0] (fun _ => ww_X10_congress a_m a_m_told a_m_kept a_m_isKept a_m_refused a_m_months a_m_heirs a_m_lasts a_m_cares a_m_bestCares a_m_ones a_m_others a_m_bytes a_m_anew a_m_values cI cB cZ cP cC above below retired manyLine bytesLong tokenAt tokenLong token value told refused) rfl rfl rfl (by decide) rfl (fun _ => rfl) (fun r_7 u H locs hw hP hD hS => ?_)
      try dsimp only at hw
      replace hP : va_P D vwCl (ww_X10_congress a_m a_m_told a_m_kept a_m_isKept a_m_refused a_m_months a_m_heirs a_m_lasts a_m_cares a_m_bestCares a_m_ones a_m_others a_m_bytes a_m_anew a_m_values cI cB cZ cP cC above below retired manyLine bytesLong tokenAt tokenLong token value told refused) H := hP
      replace hD : va_D A (ww_X10_congress a_m a_m_told a_m_kept a_m_isKept a_m_refused a_m_months a_m_heirs a_m_lasts a_m_cares a_m_bestCares a_m_ones a_m_others a_m_bytes a_m_anew a_m_values cI cB cZ cP cC above below retired manyLine bytesLong tokenAt tokenLong token value told refused) := hD
      refine lv_if_eq (tgt := 76) hx hb dX10_congress_69 (by decide) (fun c_8 => ?_) (fun c_8 => ?_)
      · replace hw := hw.1 c_8
        refine lv_iconst (v := 0) hx hb dX10_congress_76 (by decide) ?_
        refine k_X10_congress_J77 C0 ?_ v1 v2 v3 v4 v5 v7 0 v6 refused _ _ _ hP hD hS (lv_sub hl [0, 1, 2, 3, 4, 5, 7] rfl) hw
        intro v1_11 v2_12 v3_13 v4_14 v5_15 v6_16 v7_17 refused_18 H locs ls hP hD hS hl hw
        exact ih v1_11 v2_12 v3_13 v4_14 v5_15 v6_16 v7_17 refused_18 _ _ _ hP hD hS (lv_sub hl [0, 1, 2, 3, 4, 5, 6, 7] rfl) hw
      · replace hw := hw.2 c_8
        refine lv_iconst (v := 1) hx hb dX10_congress_72 (by decide) ?_
        refine lv_goto (tgt := 77) hx hb dX10_congress_73 (by decide) ?_
        refine k_X10_congress_J77 C0 ?_ v1 v2 v3 v4 v5 v7 1 v6 refused _ _ _ hP hD hS (lv_sub hl [0, 1, 2, 3, 4, 5, 7] rfl) hw
        intro v1_19 v2_20 v3_21 v4_22 v5_23 v6_24 v7_25 refused_26 H locs ls hP hD hS hl hw
        exact ih v1_19 v2_20 v3_21 v4_22 v5_23 v6_24 v7_25 refused_26 _ _ _ hP hD hS (lv_sub hl [0, 1, 2, 3, 4, 5, 6, 7] rfl) hw
def wp_X10_congress_J117 (told : Nat → Int32) (Post : Int32 → (Nat → Int32) → Prop) (K_35 : Int32 → Int32 → Int32 → Int32 → Int32 → (Nat → Int32) → Prop) (v1 : Int32) (v2 : Int32) (v4 : Int32) (v5 : Int32) (s0 : Int32) (refused : Nat → Int32) : Prop :=
  (∀ x_36 : Int32, x_36 = v5 + 1 → K_35 v1 v2 s0 v4 x_36 refused)
set_option maxHeartbeats 4000000 in
set_option maxRecDepth 100000 in
theorem k_X10_congress_J117 {p : Program} {l : Launch} {e : Env} {s : State} {m : MethodId} {ar : Array Value} {bl : List Frame} {meth : Method} {c : Code} {D : va_G} {A : Nat → Prop} {cI cB cZ cP cC : ClassId} {a_m a_m_told a_m_kept a_m_isKept a_m_refused a_m_months a_m_heirs a_m_lasts a_m_cares a_m_bestCares a_m_ones a_m_others a_m_bytes a_m_anew a_m_values : Nat} {above : Int64} {below : Int64} {retired : Int32} {manyLine : Int32} {bytesLong : Int32} {tokenAt : Int32} {tokenLong : Int32} {token : Int32} {value : Int32} {told : Nat → Int32} {Post : Int32 → (Nat → Int32) → Prop} {K_35 : Int32 → Int32 → Int32 → Int32 → Int32 → (Nat → Int32) → Prop} (C0 : mxC p s m ar meth c cX10_congress RX10 (some .int) 8 D (mxTy cI cB cZ cP cC) A)
    (hK_35 : ∀ (v1 : Int32) (v2 : Int32) (v3 : Int32) (v4 : Int32) (v5 : Int32) (refused : Nat → Int32) (H : Heap) (locs : List Loc) (ls : Array Slot), va_P D vwCl (ww_X10_congress a_m a_m_told a_m_kept a_m_isKept a_m_refused a_m_months a_m_heirs a_m_lasts a_m_cares a_m_bestCares a_m_ones a_m_others a_m_bytes a_m_anew a_m_values cI cB cZ cP cC above below retired manyLine bytesLong tokenAt tokenLong token value told refused) H → va_D A (ww_X10_congress a_m a_m_told a_m_kept a_m_isKept a_m_refused a_m_months a_m_heirs a_m_lasts a_m_cares a_m_bestCares a_m_ones a_m_others a_m_bytes a_m_anew a_m_values cI cB cZ cP cC above below retired manyLine bytesLong tokenAt tokenLong token value told refused) → va_S A s.heap H locs → lv_has ls 8 [(0, .ref a_m), (1, .int v1), (2, .int v2), (3, .int v3), (4, .int v4), (5, .int v5)] → K_35 v1 v2 v3 v4 v5 refused → W p l e rm_X10_congress s m ar bl meth c H locs 0 0 (MQ bl (qq_X10_congress D a_m a_m_told a_m_kept a_m_isKept a_m_refused a_m_months a_m_heirs a_m_lasts a_m_cares a_m_bestCares a_m_ones a_m_others a_m_bytes a_m_anew a_m_values cI cB cZ cP cC above below retired manyLine bytesLong tokenAt tokenLong token value told Post A) ar s 0 0 A) (F0 m 35 ls [])) :
    ∀ (v1 : Int32) (v2 : Int32) (v4 : Int32) (v5 : Int32) (s0 : Int32) (refused : Nat → Int32) (H : Heap) (locs : List Loc) (ls : Array Slot), va_P D vwCl (ww_X10_congress a_m a_m_told a_m_kept a_m_isKept a_m_refused a_m_months a_m_heirs a_m_lasts a_m_cares a_m_bestCares a_m_ones a_m_others a_m_bytes a_m_anew a_m_values cI cB cZ cP cC above below retired manyLine bytesLong tokenAt tokenLong token value told refused) H → va_D A (ww_X10_congress a_m a_m_told a_m_kept a_m_isKept a_m_refused a_m_months a_m_heirs a_m_lasts a_m_cares a_m_bestCares a_m_ones a_m_others a_m_bytes a_m_anew a_m_values cI cB cZ cP cC above below retired manyLine bytesLong tokenAt tokenLong token value told refused) → va_S A s.heap H locs → lv_has ls 8 [(0, .ref a_m), (1, .int v1), (2, .int v2), (4, .int v4), (5, .int v5)] → wp_X10_congress_J117 told Post K_35 v1 v2 v4 v5 s0 refused → W p l e rm_X10_congress s m ar bl meth c H locs 0 0 (MQ bl (qq_X10_congress D a_m a_m_told a_m_kept a_m_isKept a_m_refused a_m_months a_m_heirs a_m_lasts a_m_cares a_m_bestCares a_m_ones a_m_others a_m_bytes a_m_anew a_m_values cI cB cZ cP cC above below retired manyLine bytesLong tokenAt tokenLong token value told Post A) ar s 0 0 A) (F0 m 117 ls [.int s0]) := by
  obtain ⟨hx, hb, hr, hlocks, hml, hown, hts, hK, hA⟩ := id C0
  intro v1 v2 v4 v5 s0 refused H locs ls hP hD hS hl hw
  refine lv_istore_n (lv' := [(3, .int s0), (0, .ref a_m), (1, .int v1), (2, .int v2), (4, .int v4), (5, .int v5)]) hx hb dX10_congress_117 rfl hl (by decide) rfl (fun ls hl => ?_)
  obtain ⟨x_36, ex_36⟩ : ∃ y : Int32, y = v5 + 1 := ⟨_, rfl⟩
  replace hw := hw x_36 ex_36
  refine lv_iinc (v := x_36) (lv' := [(5, .int x_36), (3, .int s0), (0, .ref a_m), (1, .int v1), (2, .int v2), (4, .int v4)]) hx hb dX10_congress_118 hl (k := 5) rfl (by rw [ex_36]; rfl) (by decide) rfl (fun ls hl => ?_)
  refine lv_goto (tgt := 35) hx hb dX10_congress_121 (by decide) ?_
  exact hK_35 v1 v2 s0 v4 x_36 refused _ _ _ hP hD hS (lv_sub hl [2, 3, 4, 1, 5, 0] rfl) hw
def wp_X10_congress_J104 (told : Nat → Int32) (Post : Int32 → (Nat → Int32) → Prop) (K_35 : Int32 → Int32 → Int32 → Int32 → Int32 → (Nat → Int32) → Prop) (v1 : Int32) (v3 : Int32) (v4 : Int32) (v5 : Int32) (v6 : Int32) (s0 : Int32) (refused : Nat → Int32) : Prop :=
  ((v6 ≤ v3 → (wp_X10_congress_J117 told Post K_35 v1 s0 v4 v5 v3 refused)) ∧ (¬ v6 ≤ v3 → (wp_X10_congress_J117 told Post K_35 v1 s0 v4 v5 v6 refused)))
set_option maxHeartbeats 4000000 in
set_option maxRecDepth 100000 in
theorem k_X10_congress_J104 {p : Program} {l : Launch} {e : Env} {s : State} {m : MethodId} {ar : Array Value} {bl : List Frame} {meth : Method} {c : Code} {D : va_G} {A : Nat → Prop} {cI cB cZ cP cC : ClassId} {a_m a_m_told a_m_kept a_m_isKept a_m_refused a_m_months a_m_heirs a_m_lasts a_m_cares a_m_bestCares a_m_ones a_m_others a_m_bytes a_m_anew a_m_values : Nat} {above : Int64} {below : Int64} {retired : Int32} {manyLine : Int32} {bytesLong : Int32} {tokenAt : Int32} {tokenLong : Int32} {token : Int32} {value : Int32} {told : Nat → Int32} {Post : Int32 → (Nat → Int32) → Prop} {K_35 : Int32 → Int32 → Int32 → Int32 → Int32 → (Nat → Int32) → Prop} (C0 : mxC p s m ar meth c cX10_congress RX10 (some .int) 8 D (mxTy cI cB cZ cP cC) A)
    (hK_35 : ∀ (v1 : Int32) (v2 : Int32) (v3 : Int32) (v4 : Int32) (v5 : Int32) (refused : Nat → Int32) (H : Heap) (locs : List Loc) (ls : Array Slot), va_P D vwCl (ww_X10_congress a_m a_m_told a_m_kept a_m_isKept a_m_refused a_m_months a_m_heirs a_m_lasts a_m_cares a_m_bestCares a_m_ones a_m_others a_m_bytes a_m_anew a_m_values cI cB cZ cP cC above below retired manyLine bytesLong tokenAt tokenLong token value told refused) H → va_D A (ww_X10_congress a_m a_m_told a_m_kept a_m_isKept a_m_refused a_m_months a_m_heirs a_m_lasts a_m_cares a_m_bestCares a_m_ones a_m_others a_m_bytes a_m_anew a_m_values cI cB cZ cP cC above below retired manyLine bytesLong tokenAt tokenLong token value told refused) → va_S A s.heap H locs → lv_has ls 8 [(0, .ref a_m), (1, .int v1), (2, .int v2), (3, .int v3), (4, .int v4), (5, .int v5)] → K_35 v1 v2 v3 v4 v5 refused → W p l e rm_X10_congress s m ar bl meth c H locs 0 0 (MQ bl (qq_X10_congress D a_m a_m_told a_m_kept a_m_isKept a_m_refused a_m_months a_m_heirs a_m_lasts a_m_cares a_m_bestCares a_m_ones a_m_others a_m_bytes a_m_anew a_m_values cI cB cZ cP cC above below retired manyLine bytesLong tokenAt tokenLong token value told Post A) ar s 0 0 A) (F0 m 35 ls [])) :
    ∀ (v1 : Int32) (v3 : Int32) (v4 : Int32) (v5 : Int32) (v6 : Int32) (s0 : Int32) (refused : Nat → Int32) (H : Heap) (locs : List Loc) (ls : Array Slot), va_P D vwCl (ww_X10_congress a_m a_m_told a_m_kept a_m_isKept a_m_refused a_m_months a_m_heirs a_m_lasts a_m_cares a_m_bestCares a_m_ones a_m_others a_m_bytes a_m_anew a_m_values cI cB cZ cP cC above below retired manyLine bytesLong tokenAt tokenLong token value told refused) H → va_D A (ww_X10_congress a_m a_m_told a_m_kept a_m_isKept a_m_refused a_m_months a_m_heirs a_m_lasts a_m_cares a_m_bestCares a_m_ones a_m_others a_m_bytes a_m_anew a_m_values cI cB cZ cP cC above below retired manyLine bytesLong tokenAt tokenLong token value told refused) → va_S A s.heap H locs → lv_has ls 8 [(0, .ref a_m), (1, .int v1), (3, .int v3), (4, .int v4), (5, .int v5), (6, .int v6)] → wp_X10_congress_J104 told Post K_35 v1 v3 v4 v5 v6 s0 refused → W p l e rm_X10_congress s m ar bl meth c H locs 0 0 (MQ bl (qq_X10_congress D a_m a_m_told a_m_kept a_m_isKept a_m_refused a_m_months a_m_heirs a_m_lasts a_m_cares a_m_bestCares a_m_ones a_m_others a_m_bytes a_m_anew a_m_values cI cB cZ cP cC above below retired manyLine bytesLong tokenAt tokenLong token value told Post A) ar s 0 0 A) (F0 m 104 ls [.int s0]) := by
  obtain ⟨hx, hb, hr, hlocks, hml, hown, hts, hK, hA⟩ := id C0
  intro v1 v3 v4 v5 v6 s0 refused H locs ls hP hD hS hl hw
  refine lv_istore_n (lv' := [(2, .int s0), (0, .ref a_m), (1, .int v1), (3, .int v3), (4, .int v4), (5, .int v5), (6, .int v6)]) hx hb dX10_congress_104 rfl hl (by decide) rfl (fun ls hl => ?_)
  refine lv_iload hx hb dX10_congress_105 (lv_at hl 6 rfl) ?_
  refine lv_iload_n hx hb dX10_congress_107 rfl (lv_at hl 3 rfl) ?_
  refine lv_icmp_le (tgt := 116) hx hb dX10_congress_108 (by decide) (fun c_35 => ?_) (fun c_35 => ?_)
  · replace hw := hw.1 c_35
    refine lv_iload_n hx hb dX10_congress_116 rfl (lv_at hl 3 rfl) ?_
    refine k_X10_congress_J117 C0 ?_ v1 s0 v4 v5 v3 refused _ _ _ hP hD hS (lv_sub hl [1, 2, 0, 4, 5] rfl) hw
    intro v1_37 v2_38 v3_39 v4_40 v5_41 refused_42 H locs ls hP hD hS hl hw
    exact hK_35 v1_37 v2_38 v3_39 v4_40 v5_41 refused_42 _ _ _ hP hD hS (lv_sub hl [0, 1, 2, 3, 4, 5] rfl) hw
  · replace hw := hw.2 c_35
    refine lv_iload hx hb dX10_congress_111 (lv_at hl 6 rfl) ?_
    refine lv_goto (tgt := 117) hx hb dX10_congress_113 (by decide) ?_
    refine k_X10_congress_J117 C0 ?_ v1 s0 v4 v5 v6 refused _ _ _ hP hD hS (lv_sub hl [1, 2, 0, 4, 5] rfl) hw
    intro v1_43 v2_44 v3_45 v4_46 v5_47 refused_48 H locs ls hP hD hS hl hw
    exact hK_35 v1_43 v2_44 v3_45 v4_46 v5_47 refused_48 _ _ _ hP hD hS (lv_sub hl [0, 1, 2, 3, 4, 5] rfl) hw
def wp_X10_congress_L35 (told : Nat → Int32) (Post : Int32 → (Nat → Int32) → Prop) (K_124 : Int32 → Int32 → Int32 → Int32 → (Nat → Int32) → Prop) : Nat → Int32 → Int32 → Int32 → Int32 → Int32 → (Nat → Int32) → Prop
  | 0, _, _, _, _, _, _ => False
  | n + 1, v1, v2, v3, v4, v5, refused => ((6 ≤ v5 → K_124 v1 v2 v3 v4 refused) ∧ (¬ 6 ≤ v5 → (∃ k_61 : Nat, wp_X10_congress_L48 told Post (fun (v1_27 : Int32) (v2_28 : Int32) (v3_29 : Int32) (v4_30 : Int32) (v5_31 : Int32) (v6_32 : Int32) (refused_33 : Nat → Int32) => ((v6_32 ≤ v3_29 → (wp_X10_congress_J104 told Post (fun (v1_49 : Int32) (v2_50 : Int32) (v3_51 : Int32) (v4_52 : Int32) (v5_53 : Int32) (refused_54 : Nat → Int32) => wp_X10_congress_L35 told Post K_124 n v1_49 v2_50 v3_51 v4_52 v5_53 refused_54) v1_27 v3_29 v4_30 v5_31 v6_32 v2_28 refused_33)) ∧ (¬ v6_32 ≤ v3_29 → (wp_X10_congress_J104 told Post (fun (v1_55 : Int32) (v2_56 : Int32) (v3_57 : Int32) (v4_58 : Int32) (v5_59 : Int32) (refused_60 : Nat → Int32) => wp_X10_congress_L35 told Post K_124 n v1_55 v2_56 v3_57 v4_58 v5_59 refused_60) v1_27 v3_29 v4_30 v5_31 v6_32 ((10 * v4_30) + v5_31) refused_33)))) k_61 v1 v2 v3 v4 v5 0 0 refused)))
set_option maxHeartbeats 4000000 in
set_option maxRecDepth 100000 in
theorem k_X10_congress_L35 {p : Program} {l : Launch} {e : Env} {s : State} {m : MethodId} {ar : Array Value} {bl : List Frame} {meth : Method} {c : Code} {D : va_G} {A : Nat → Prop} {cI cB cZ cP cC : ClassId} {a_m a_m_told a_m_kept a_m_isKept a_m_refused a_m_months a_m_heirs a_m_lasts a_m_cares a_m_bestCares a_m_ones a_m_others a_m_bytes a_m_anew a_m_values : Nat} {above : Int64} {below : Int64} {retired : Int32} {manyLine : Int32} {bytesLong : Int32} {tokenAt : Int32} {tokenLong : Int32} {token : Int32} {value : Int32} {told : Nat → Int32} {Post : Int32 → (Nat → Int32) → Prop} {K_124 : Int32 → Int32 → Int32 → Int32 → (Nat → Int32) → Prop} (C0 : mxC p s m ar meth c cX10_congress RX10 (some .int) 8 D (mxTy cI cB cZ cP cC) A)
    (hK_124 : ∀ (v1 : Int32) (v2 : Int32) (v3 : Int32) (v4 : Int32) (refused : Nat → Int32) (H : Heap) (locs : List Loc) (ls : Array Slot), va_P D vwCl (ww_X10_congress a_m a_m_told a_m_kept a_m_isKept a_m_refused a_m_months a_m_heirs a_m_lasts a_m_cares a_m_bestCares a_m_ones a_m_others a_m_bytes a_m_anew a_m_values cI cB cZ cP cC above below retired manyLine bytesLong tokenAt tokenLong token value told refused) H → va_D A (ww_X10_congress a_m a_m_told a_m_kept a_m_isKept a_m_refused a_m_months a_m_heirs a_m_lasts a_m_cares a_m_bestCares a_m_ones a_m_others a_m_bytes a_m_anew a_m_values cI cB cZ cP cC above below retired manyLine bytesLong tokenAt tokenLong token value told refused) → va_S A s.heap H locs → lv_has ls 8 [(0, .ref a_m), (1, .int v1), (2, .int v2), (3, .int v3), (4, .int v4)] → K_124 v1 v2 v3 v4 refused → W p l e rm_X10_congress s m ar bl meth c H locs 0 0 (MQ bl (qq_X10_congress D a_m a_m_told a_m_kept a_m_isKept a_m_refused a_m_months a_m_heirs a_m_lasts a_m_cares a_m_bestCares a_m_ones a_m_others a_m_bytes a_m_anew a_m_values cI cB cZ cP cC above below retired manyLine bytesLong tokenAt tokenLong token value told Post A) ar s 0 0 A) (F0 m 124 ls [])) :
    ∀ (n : Nat) (v1 : Int32) (v2 : Int32) (v3 : Int32) (v4 : Int32) (v5 : Int32) (refused : Nat → Int32) (H : Heap) (locs : List Loc) (ls : Array Slot), va_P D vwCl (ww_X10_congress a_m a_m_told a_m_kept a_m_isKept a_m_refused a_m_months a_m_heirs a_m_lasts a_m_cares a_m_bestCares a_m_ones a_m_others a_m_bytes a_m_anew a_m_values cI cB cZ cP cC above below retired manyLine bytesLong tokenAt tokenLong token value told refused) H → va_D A (ww_X10_congress a_m a_m_told a_m_kept a_m_isKept a_m_refused a_m_months a_m_heirs a_m_lasts a_m_cares a_m_bestCares a_m_ones a_m_others a_m_bytes a_m_anew a_m_values cI cB cZ cP cC above below retired manyLine bytesLong tokenAt tokenLong token value told refused) → va_S A s.heap H locs → lv_has ls 8 [(0, .ref a_m), (1, .int v1), (2, .int v2), (3, .int v3), (4, .int v4), (5, .int v5)] → wp_X10_congress_L35 told Post K_124 n v1 v2 v3 v4 v5 refused → W p l e rm_X10_congress s m ar bl meth c H locs 0 0 (MQ bl (qq_X10_congress D a_m a_m_told a_m_kept a_m_isKept a_m_refused a_m_months a_m_heirs a_m_lasts a_m_cares a_m_bestCares a_m_ones a_m_others a_m_bytes a_m_anew a_m_values cI cB cZ cP cC above below retired manyLine bytesLong tokenAt tokenLong token value told Post A) ar s 0 0 A) (F0 m 35 ls []) := by
  obtain ⟨hx, hb, hr, hlocks, hml, hown, hts, hK, hA⟩ := id C0
  intro n
  induction n with
  | zero =>
    intro v1 v2 v3 v4 v5 refused H locs ls hP hD hS hl hw
    exact absurd hw (fun h => h)
  | succ n ih =>
    intro v1 v2 v3 v4 v5 refused H locs ls hP hD hS hl hw
    refine lv_iload hx hb dX10_congress_35 (lv_at hl 5 rfl) ?_
    refine lv_bipush (v := 6) hx hb dX10_congress_37 (by decide) ?_
    refine lv_icmp_ge (tgt := 124) hx hb dX10_congress_39 (by decide) (fun c_4 => ?_) (fun c_4 => ?_)
    · replace hw := hw.1 c_4
      exact hK_124 v1 v2 v3 v4 refused _ _ _ hP hD hS (lv_sub hl [0, 1, 2, 3, 4] rfl) hw
    · replace hw := hw.2 c_4
      refine lv_iconst (v := 0) hx hb dX10_congress_42 (by decide) ?_
      refine lv_istore (lv' := [(6, .int 0), (0, .ref a_m), (1, .int v1), (2, .int v2), (3, .int v3), (4, .int v4), (5, .int v5)]) hx hb dX10_congress_43 hl (by decide) rfl (fun ls hl => ?_)
      refine lv_iconst (v := 0) hx hb dX10_congress_45 (by decide) ?_
      refine lv_istore (lv' := [(7, .int 0), (6, .int 0), (0, .ref a_m), (1, .int v1), (2, .int v2), (3, .int v3), (4, .int v4), (5, .int v5)]) hx hb dX10_congress_46 hl (by decide) rfl (fun ls hl => ?_)
      obtain ⟨n0, hw⟩ := hw
      refine k_X10_congress_L48 C0 ?_ n0 v1 v2 v3 v4 v5 0 0 refused _ _ _ hP hD hS (lv_sub hl [2, 3, 4, 5, 6, 7, 1, 0] rfl) hw
      intro v1_27 v2_28 v3_29 v4_30 v5_31 v6_32 refused_33 H locs ls hP hD hS hl hw
      refine lv_iload hx hb dX10_congress_86 (lv_at hl 6 rfl) ?_
      refine lv_iload_n hx hb dX10_congress_88 rfl (lv_at hl 3 rfl) ?_
      refine lv_icmp_le (tgt := 103) hx hb dX10_congress_89 (by decide) (fun c_34 => ?_) (fun c_34 => ?_)
      · replace hw := hw.1 c_34
        refine lv_iload_n hx hb dX10_congress_103 rfl (lv_at hl 2 rfl) ?_
        refine k_X10_congress_J104 C0 ?_ v1_27 v3_29 v4_30 v5_31 v6_32 v2_28 refused_33 _ _ _ hP hD hS (lv_sub hl [0, 1, 3, 4, 5, 6] rfl) hw
        intro v1_49 v2_50 v3_51 v4_52 v5_53 refused_54 H locs ls hP hD hS hl hw
        exact ih v1_49 v2_50 v3_51 v4_52 v5_53 refused_54 _ _ _ hP hD hS (lv_sub hl [0, 1, 2, 3, 4, 5] rfl) hw
      · replace hw := hw.2 c_34
        refine lv_bipush (v := 10) hx hb dX10_congress_92 (by decide) ?_
        refine lv_iload hx hb dX10_congress_94 (lv_at hl 4 rfl) ?_
        refine lv_imul hx hb dX10_congress_96 ?_
        refine lv_iload hx hb dX10_congress_97 (lv_at hl 5 rfl) ?_
        refine lv_iadd hx hb dX10_congress_99 ?_
        refine lv_goto (tgt := 104) hx hb dX10_congress_100 (by decide) ?_
        refine k_X10_congress_J104 C0 ?_ v1_27 v3_29 v4_30 v5_31 v6_32 ((10 * v4_30) + v5_31) refused_33 _ _ _ hP hD hS (lv_sub hl [0, 1, 3, 4, 5, 6] rfl) hw
        intro v1_55 v2_56 v3_57 v4_58 v5_59 refused_60 H locs ls hP hD hS hl hw
        exact ih v1_55 v2_56 v3_57 v4_58 v5_59 refused_60 _ _ _ hP hD hS (lv_sub hl [0, 1, 2, 3, 4, 5] rfl) hw
def wp_X10_congress_L25 (told : Nat → Int32) (Post : Int32 → (Nat → Int32) → Prop) (K_130 : Int32 → Int32 → Int32 → (Nat → Int32) → Prop) : Nat → Int32 → Int32 → Int32 → Int32 → (Nat → Int32) → Prop
  | 0, _, _, _, _, _ => False
  | n + 1, v1, v2, v3, v4, refused => ((24 ≤ v4 → K_130 v1 v2 v3 refused) ∧ (¬ 24 ≤ v4 → (∃ k_68 : Nat, wp_X10_congress_L35 told Post (fun (v1_62 : Int32) (v2_63 : Int32) (v3_64 : Int32) (v4_65 : Int32) (refused_66 : Nat → Int32) => (∀ x_67 : Int32, x_67 = v4_65 + 1 → wp_X10_congress_L25 told Post K_130 n v1_62 v2_63 v3_64 x_67 refused_66)) k_68 v1 v2 v3 v4 0 refused)))
set_option maxHeartbeats 4000000 in
set_option maxRecDepth 100000 in
theorem k_X10_congress_L25 {p : Program} {l : Launch} {e : Env} {s : State} {m : MethodId} {ar : Array Value} {bl : List Frame} {meth : Method} {c : Code} {D : va_G} {A : Nat → Prop} {cI cB cZ cP cC : ClassId} {a_m a_m_told a_m_kept a_m_isKept a_m_refused a_m_months a_m_heirs a_m_lasts a_m_cares a_m_bestCares a_m_ones a_m_others a_m_bytes a_m_anew a_m_values : Nat} {above : Int64} {below : Int64} {retired : Int32} {manyLine : Int32} {bytesLong : Int32} {tokenAt : Int32} {tokenLong : Int32} {token : Int32} {value : Int32} {told : Nat → Int32} {Post : Int32 → (Nat → Int32) → Prop} {K_130 : Int32 → Int32 → Int32 → (Nat → Int32) → Prop} (C0 : mxC p s m ar meth c cX10_congress RX10 (some .int) 8 D (mxTy cI cB cZ cP cC) A)
    (hK_130 : ∀ (v1 : Int32) (v2 : Int32) (v3 : Int32) (refused : Nat → Int32) (H : Heap) (locs : List Loc) (ls : Array Slot), va_P D vwCl (ww_X10_congress a_m a_m_told a_m_kept a_m_isKept a_m_refused a_m_months a_m_heirs a_m_lasts a_m_cares a_m_bestCares a_m_ones a_m_others a_m_bytes a_m_anew a_m_values cI cB cZ cP cC above below retired manyLine bytesLong tokenAt tokenLong token value told refused) H → va_D A (ww_X10_congress a_m a_m_told a_m_kept a_m_isKept a_m_refused a_m_months a_m_heirs a_m_lasts a_m_cares a_m_bestCares a_m_ones a_m_others a_m_bytes a_m_anew a_m_values cI cB cZ cP cC above below retired manyLine bytesLong tokenAt tokenLong token value told refused) → va_S A s.heap H locs → lv_has ls 8 [(1, .int v1), (2, .int v2), (3, .int v3)] → K_130 v1 v2 v3 refused → W p l e rm_X10_congress s m ar bl meth c H locs 0 0 (MQ bl (qq_X10_congress D a_m a_m_told a_m_kept a_m_isKept a_m_refused a_m_months a_m_heirs a_m_lasts a_m_cares a_m_bestCares a_m_ones a_m_others a_m_bytes a_m_anew a_m_values cI cB cZ cP cC above below retired manyLine bytesLong tokenAt tokenLong token value told Post A) ar s 0 0 A) (F0 m 130 ls [])) :
    ∀ (n : Nat) (v1 : Int32) (v2 : Int32) (v3 : Int32) (v4 : Int32) (refused : Nat → Int32) (H : Heap) (locs : List Loc) (ls : Array Slot), va_P D vwCl (ww_X10_congress a_m a_m_told a_m_kept a_m_isKept a_m_refused a_m_months a_m_heirs a_m_lasts a_m_cares a_m_bestCares a_m_ones a_m_others a_m_bytes a_m_anew a_m_values cI cB cZ cP cC above below retired manyLine bytesLong tokenAt tokenLong token value told refused) H → va_D A (ww_X10_congress a_m a_m_told a_m_kept a_m_isKept a_m_refused a_m_months a_m_heirs a_m_lasts a_m_cares a_m_bestCares a_m_ones a_m_others a_m_bytes a_m_anew a_m_values cI cB cZ cP cC above below retired manyLine bytesLong tokenAt tokenLong token value told refused) → va_S A s.heap H locs → lv_has ls 8 [(0, .ref a_m), (1, .int v1), (2, .int v2), (3, .int v3), (4, .int v4)] → wp_X10_congress_L25 told Post K_130 n v1 v2 v3 v4 refused → W p l e rm_X10_congress s m ar bl meth c H locs 0 0 (MQ bl (qq_X10_congress D a_m a_m_told a_m_kept a_m_isKept a_m_refused a_m_months a_m_heirs a_m_lasts a_m_cares a_m_bestCares a_m_ones a_m_others a_m_bytes a_m_anew a_m_values cI cB cZ cP cC above below retired manyLine bytesLong tokenAt tokenLong token value told Post A) ar s 0 0 A) (F0 m 25 ls []) := by
  obtain ⟨hx, hb, hr, hlocks, hml, hown, hts, hK, hA⟩ := id C0
  intro n
  induction n with
  | zero =>
    intro v1 v2 v3 v4 refused H locs ls hP hD hS hl hw
    exact absurd hw (fun h => h)
  | succ n ih =>
    intro v1 v2 v3 v4 refused H locs ls hP hD hS hl hw
    refine lv_iload hx hb dX10_congress_25 (lv_at hl 4 rfl) ?_
    refine lv_bipush (v := 24) hx hb dX10_congress_27 (by decide) ?_
    refine lv_icmp_ge (tgt := 130) hx hb dX10_congress_29 (by decide) (fun c_3 => ?_) (fun c_3 => ?_)
    · replace hw := hw.1 c_3
      exact hK_130 v1 v2 v3 refused _ _ _ hP hD hS (lv_sub hl [1, 2, 3] rfl) hw
    · replace hw := hw.2 c_3
      refine lv_iconst (v := 0) hx hb dX10_congress_32 (by decide) ?_
      refine lv_istore (lv' := [(5, .int 0), (0, .ref a_m), (1, .int v1), (2, .int v2), (3, .int v3), (4, .int v4)]) hx hb dX10_congress_33 hl (by decide) rfl (fun ls hl => ?_)
      obtain ⟨n0, hw⟩ := hw
      refine k_X10_congress_L35 C0 ?_ n0 v1 v2 v3 v4 0 refused _ _ _ hP hD hS (lv_sub hl [1, 2, 3, 4, 5, 0] rfl) hw
      intro v1_62 v2_63 v3_64 v4_65 refused_66 H locs ls hP hD hS hl hw
      obtain ⟨x_67, ex_67⟩ : ∃ y : Int32, y = v4_65 + 1 := ⟨_, rfl⟩
      replace hw := hw x_67 ex_67
      refine lv_iinc (v := x_67) (lv' := [(4, .int x_67), (0, .ref a_m), (1, .int v1_62), (2, .int v2_63), (3, .int v3_64)]) hx hb dX10_congress_124 hl (k := 4) rfl (by rw [ex_67]; rfl) (by decide) rfl (fun ls hl => ?_)
      refine lv_goto (tgt := 25) hx hb dX10_congress_127 (by decide) ?_
      exact ih v1_62 v2_63 v3_64 x_67 refused_66 _ _ _ hP hD hS (lv_sub hl [1, 2, 3, 4, 0] rfl) hw
def wp_X10_congress (told : Nat → Int32) (refused : Nat → Int32) (v1 : Int32) (Post : Int32 → (Nat → Int32) → Prop) : Prop :=
  (wp_X10_in (v1.toInt64) 0 1 (fun r_1 => ((r_1 = 0 → (wp_X10_bad refused (-2) (fun r_76 refused_77 => Post r_76 refused_77))) ∧ (¬ r_1 = 0 → (∃ k_75 : Nat, wp_X10_congress_L25 told Post (fun (v1_69 : Int32) (v2_70 : Int32) (v3_71 : Int32) (refused_72 : Nat → Int32) => ((v1_69 = 0 → Post v2_70 refused_72) ∧ (¬ v1_69 = 0 → ((v2_70 = (-1) → Post v2_70 refused_72) ∧ (¬ v2_70 = (-1) → Post v3_71 refused_72))))) k_75 v1 (-1) 0 7 refused)))))
set_option maxHeartbeats 4000000 in
set_option maxRecDepth 100000 in
theorem c_X10_congress (l : Launch) (D : va_G) (cI cB cZ cP cC : ClassId) (a_m a_m_told a_m_kept a_m_isKept a_m_refused a_m_months a_m_heirs a_m_lasts a_m_cares a_m_bestCares a_m_ones a_m_others a_m_bytes a_m_anew a_m_values : Nat) (above : Int64) (below : Int64) (retired : Int32) (manyLine : Int32) (bytesLong : Int32) (tokenAt : Int32) (tokenLong : Int32) (token : Int32) (value : Int32) (told : Nat → Int32) (refused : Nat → Int32) (v1 : Int32) (sz : Nat) (Post : Int32 → (Nat → Int32) → Prop) (hw : wp_X10_congress told refused v1 Post) :
    Met l yX10_congress (Cond.code yX10_congress cX10_congress 8 (some .int) :: wsAll) rm_X10_congress (va_Pc [.ref a_m, .int v1] (mxP D (mxTy cI cB cZ cP cC) sz (ww_X10_congress a_m a_m_told a_m_kept a_m_isKept a_m_refused a_m_months a_m_heirs a_m_lasts a_m_cares a_m_bestCares a_m_ones a_m_others a_m_bytes a_m_anew a_m_values cI cB cZ cP cC above below retired manyLine bytesLong tokenAt tokenLong token value told refused))) (qq_X10_congress D a_m a_m_told a_m_kept a_m_isKept a_m_refused a_m_months a_m_heirs a_m_lasts a_m_cares a_m_bestCares a_m_ones a_m_others a_m_bytes a_m_anew a_m_values cI cB cZ cP cC above below retired manyLine bytesLong tokenAt tokenLong token value told Post (va_A (ww_X10_congress a_m a_m_told a_m_kept a_m_isKept a_m_refused a_m_months a_m_heirs a_m_lasts a_m_cares a_m_bestCares a_m_ones a_m_others a_m_bytes a_m_anew a_m_values cI cB cZ cP cC above below retired manyLine bytesLong tokenAt tokenLong token value told refused) sz)) 0 0 (va_A (ww_X10_congress a_m a_m_told a_m_kept a_m_isKept a_m_refused a_m_months a_m_heirs a_m_lasts a_m_cares a_m_bestCares a_m_ones a_m_others a_m_bytes a_m_anew a_m_values cI cB cZ cP cC above below retired manyLine bytesLong tokenAt tokenLong token value told refused) sz) := by
  refine mx_of (Qc := qq_X10_congress D a_m a_m_told a_m_kept a_m_isKept a_m_refused a_m_months a_m_heirs a_m_lasts a_m_cares a_m_bestCares a_m_ones a_m_others a_m_bytes a_m_anew a_m_values cI cB cZ cP cC above below retired manyLine bytesLong tokenAt tokenLong token value told Post) (by decide) (Nat.le_of_ble_eq_true rfl) ?_
  intro p e s m bl meth c A ls C0 hP hD hS hl
  replace C0 : mxC p s m [.ref a_m, .int v1].toArray meth c cX10_congress RX10 (some .int) 8 D (mxTy cI cB cZ cP cC) A := C0
  obtain ⟨hx, hb, hr, hlocks, hml, hown, hts, hK, hA⟩ := id C0
  replace hl : lv_has ls 8 [(0, .ref a_m), (1, .int v1)] := hl
  unfold wp_X10_congress at hw
  refine lv_iload_n hx hb dX10_congress_0 rfl (lv_at hl 1 rfl) ?_
  refine lv_i2l (v := v1.toInt64) hx hb dX10_congress_1 rfl ?_
  refine lv_lconst (v := 0) hx hb dX10_congress_2 rfl ?_
  refine lv_lconst (v := 1) hx hb dX10_congress_3 rfl ?_
  refine mx_ki (mx_rS (rm := rm_X10_in) (rest := []) hx hb hml hown hts (c_X10_in l D cI cB cZ cP cC (v1.toInt64) 0 1 _ _ hw) q_163 q_164 q_5 q_165 hd_X10_in ⟨(Nat.le_of_ble_eq_true rfl), (Nat.le_of_ble_eq_true rfl)⟩ rfl rfl hK hP hD [] rfl rfl rfl hl.1 rfl (Nat.le_of_ble_eq_true rfl) dX10_congress_4 ⟨(Nat.le_of_ble_eq_true rfl), (Nat.le_of_ble_eq_true rfl)⟩) hP hD hS hA [] [0, 1, 2] [0, 1, 2] (fun _ => ww_X10_congress a_m a_m_told a_m_kept a_m_isKept a_m_refused a_m_months a_m_heirs a_m_lasts a_m_cares a_m_bestCares a_m_ones a_m_others a_m_bytes a_m_anew a_m_values cI cB cZ cP cC above below retired manyLine bytesLong tokenAt tokenLong token value told refused) rfl rfl rfl (by decide) rfl (fun _ => rfl) (fun r_1 u H locs hw hP hD hS => ?_)
  try dsimp only at hw
  replace hP : va_P D vwCl (ww_X10_congress a_m a_m_told a_m_kept a_m_isKept a_m_refused a_m_months a_m_heirs a_m_lasts a_m_cares a_m_bestCares a_m_ones a_m_others a_m_bytes a_m_anew a_m_values cI cB cZ cP cC above below retired manyLine bytesLong tokenAt tokenLong token value told refused) H := hP
  replace hD : va_D A (ww_X10_congress a_m a_m_told a_m_kept a_m_isKept a_m_refused a_m_months a_m_heirs a_m_lasts a_m_cares a_m_bestCares a_m_ones a_m_others a_m_bytes a_m_anew a_m_values cI cB cZ cP cC above below retired manyLine bytesLong tokenAt tokenLong token value told refused) := hD
  refine lv_if_ne (tgt := 17) hx hb dX10_congress_7 (by decide) (fun c_2 => ?_) (fun c_2 => ?_)
  · replace hw := hw.2 c_2
    refine lv_iconst (v := (-1)) hx hb dX10_congress_17 (by decide) ?_
    refine lv_istore_n (lv' := [(2, .int (-1)), (0, .ref a_m), (1, .int v1)]) hx hb dX10_congress_18 rfl hl (by decide) rfl (fun ls hl => ?_)
    refine lv_iconst (v := 0) hx hb dX10_congress_19 (by decide) ?_
    refine lv_istore_n (lv' := [(3, .int 0), (2, .int (-1)), (0, .ref a_m), (1, .int v1)]) hx hb dX10_congress_20 rfl hl (by decide) rfl (fun ls hl => ?_)
    refine lv_bipush (v := 7) hx hb dX10_congress_21 (by decide) ?_
    refine lv_istore (lv' := [(4, .int 7), (3, .int 0), (2, .int (-1)), (0, .ref a_m), (1, .int v1)]) hx hb dX10_congress_23 hl (by decide) rfl (fun ls hl => ?_)
    obtain ⟨n0, hw⟩ := hw
    refine k_X10_congress_L25 C0 ?_ n0 v1 (-1) 0 7 refused _ _ _ hP hD hS (lv_sub hl [3, 4, 2, 1, 0] rfl) hw
    intro v1_69 v2_70 v3_71 refused_72 H locs ls hP hD hS hl hw
    refine lv_iload_n hx hb dX10_congress_130 rfl (lv_at hl 0 rfl) ?_
    refine lv_if_eq (tgt := 139) hx hb dX10_congress_131 (by decide) (fun c_73 => ?_) (fun c_73 => ?_)
    · replace hw := hw.1 c_73
      refine lv_iload_n hx hb dX10_congress_139 rfl (lv_at hl 1 rfl) ?_
      refine lv_goto (tgt := 144) hx hb dX10_congress_140 (by decide) ?_
      exact mx_iret refused_72 hx hb hr hlocks rfl hw hK hP hD hS dX10_congress_144
    · replace hw := hw.2 c_73
      refine lv_iload_n hx hb dX10_congress_134 rfl (lv_at hl 1 rfl) ?_
      refine lv_iconst (v := (-1)) hx hb dX10_congress_135 (by decide) ?_
      refine lv_icmp_ne (tgt := 143) hx hb dX10_congress_136 (by decide) (fun c_74 => ?_) (fun c_74 => ?_)
      · replace hw := hw.2 c_74
        refine lv_iload_n hx hb dX10_congress_143 rfl (lv_at hl 2 rfl) ?_
        exact mx_iret refused_72 hx hb hr hlocks rfl hw hK hP hD hS dX10_congress_144
      · replace hw := hw.1 c_74
        refine lv_iload_n hx hb dX10_congress_139 rfl (lv_at hl 1 rfl) ?_
        refine lv_goto (tgt := 144) hx hb dX10_congress_140 (by decide) ?_
        exact mx_iret refused_72 hx hb hr hlocks rfl hw hK hP hD hS dX10_congress_144
  · replace hw := hw.1 c_2
    refine lv_aload_n hx hb dX10_congress_10 rfl (lv_at hl 0 rfl) ?_
    refine lv_bipush (v := (-2)) hx hb dX10_congress_11 (by decide) ?_
    refine mx_ki (mx_rV (rm := rm_X10_bad) (rest := []) (C := RX10) hx hb hml hown hts (c_X10_bad l D cI cB cZ cP cC a_m a_m_told a_m_kept a_m_isKept a_m_refused a_m_months a_m_heirs a_m_lasts a_m_cares a_m_bestCares a_m_ones a_m_others a_m_bytes a_m_anew a_m_values above below retired manyLine bytesLong tokenAt tokenLong token value refused (-2) _ _ hw) q_166 q_167 q_168 q_5 q_169 hd_X10_bad ⟨(Nat.le_of_ble_eq_true rfl), (Nat.le_of_ble_eq_true rfl)⟩ rfl rfl hK hP hD [0, 2] rfl rfl 10 0 rfl rfl rfl rfl hl.1 rfl (Nat.le_of_ble_eq_true rfl) dX10_congress_13 ⟨(Nat.le_of_ble_eq_true rfl), (Nat.le_of_ble_eq_true rfl)⟩) hP hD hS hA [0, 2] [1] [1, 0, 2] (fun u => ww_X10_congress a_m a_m_told a_m_kept a_m_isKept a_m_refused a_m_months a_m_heirs a_m_lasts a_m_cares a_m_bestCares a_m_ones a_m_others a_m_bytes a_m_anew a_m_values cI cB cZ cP cC above below retired manyLine bytesLong tokenAt tokenLong token value told u) rfl rfl rfl (by decide) rfl (fun _ => rfl) (fun r_76 refused_77 H locs hw hP hD hS => ?_)
    try dsimp only at hw
    replace hP : va_P D vwCl (ww_X10_congress a_m a_m_told a_m_kept a_m_isKept a_m_refused a_m_months a_m_heirs a_m_lasts a_m_cares a_m_bestCares a_m_ones a_m_others a_m_bytes a_m_anew a_m_values cI cB cZ cP cC above below retired manyLine bytesLong tokenAt tokenLong token value told refused_77) H := hP
    replace hD : va_D A (ww_X10_congress a_m a_m_told a_m_kept a_m_isKept a_m_refused a_m_months a_m_heirs a_m_lasts a_m_cares a_m_bestCares a_m_ones a_m_others a_m_bytes a_m_anew a_m_values cI cB cZ cP cC above below retired manyLine bytesLong tokenAt tokenLong token value told refused_77) := hD
    exact mx_iret refused_77 hx hb hr hlocks rfl hw hK hP hD hS dX10_congress_16
/-! PramStateModel.criedBy(I)I -/
abbrev ww_X10_criedBy (a_m a_m_told a_m_kept a_m_isKept a_m_refused a_m_months a_m_heirs a_m_lasts a_m_cares a_m_bestCares a_m_ones a_m_others a_m_bytes a_m_anew a_m_values : Nat) (cI cB cZ cP cC : ClassId) (above : Int64) (below : Int64) (retired : Int32) (manyLine : Int32) (bytesLong : Int32) (tokenAt : Int32) (tokenLong : Int32) (token : Int32) (value : Int32) (told : Nat → Int32) (cares : Nat → Int32) : va_W := [(a_m, .inr (10, [.ref a_m_told, .ref a_m_kept, .ref a_m_isKept, .ref a_m_refused, .long above, .long below, .ref a_m_months, .int retired, .ref a_m_heirs, .ref a_m_lasts, .int manyLine, .ref a_m_cares, .ref a_m_bestCares, .ref a_m_ones, .ref a_m_others, .ref a_m_bytes, .int bytesLong, .int tokenAt, .int tokenLong, .int token, .int value, .ref a_m_anew, .ref a_m_values])), (a_m_told, .inl (cI, 190, .inl told)), (a_m_cares, .inl (cI, 6, .inl cares))]
abbrev qq_X10_criedBy (D : va_G) (a_m a_m_told a_m_kept a_m_isKept a_m_refused a_m_months a_m_heirs a_m_lasts a_m_cares a_m_bestCares a_m_ones a_m_others a_m_bytes a_m_anew a_m_values : Nat) (cI cB cZ cP cC : ClassId) (above : Int64) (below : Int64) (retired : Int32) (manyLine : Int32) (bytesLong : Int32) (tokenAt : Int32) (tokenLong : Int32) (token : Int32) (value : Int32) (told : Nat → Int32) (Post : Int32 → (Nat → Int32) → Prop) (A : Nat → Prop) : Array Value → State → Outcome → State → Prop := va_Qi (fun (r : Int32) (u : (Nat → Int32)) => Post r u) (fun (u : (Nat → Int32)) t => mxB D (mxTy cI cB cZ cP cC) A (ww_X10_criedBy a_m a_m_told a_m_kept a_m_isKept a_m_refused a_m_months a_m_heirs a_m_lasts a_m_cares a_m_bestCares a_m_ones a_m_others a_m_bytes a_m_anew a_m_values cI cB cZ cP cC above below retired manyLine bytesLong tokenAt tokenLong token value told u) t) A
abbrev rm_X10_criedBy : Room := { frames := 4, cells := 0, slots := 0, locals := 94 }
theorem hd_X10_criedBy : yX10_criedBy.cls = RX10 ∧ yX10_criedBy.cls ≠ "java/lang/invoke/MethodHandle" ∧ yX10_criedBy.cls ≠ "java/lang/invoke/VarHandle" ∧ (parseMethodDescriptor yX10_criedBy.desc).map (fun d => d.parameters.length) = some 1 := by decide +kernel
def wp_X10_criedBy_J123 (told : Nat → Int32) (Post : Int32 → (Nat → Int32) → Prop) (K_15 : Int32 → Int32 → Int32 → Int32 → (Nat → Int32) → Prop) (v2 : Int32) (v3 : Int32) (v5 : Int32) (s0 : Int32) (s1 : Int32) (cares : Nat → Int32) : Prop :=
  (∀ x_17 : Int32, x_17 = s1 + s0 → (∀ x_18 : Int32, x_18 = v5 + (-1) → K_15 v2 v3 x_17 x_18 cares))
set_option maxHeartbeats 4000000 in
set_option maxRecDepth 100000 in
theorem k_X10_criedBy_J123 {p : Program} {l : Launch} {e : Env} {s : State} {m : MethodId} {ar : Array Value} {bl : List Frame} {meth : Method} {c : Code} {D : va_G} {A : Nat → Prop} {cI cB cZ cP cC : ClassId} {a_m a_m_told a_m_kept a_m_isKept a_m_refused a_m_months a_m_heirs a_m_lasts a_m_cares a_m_bestCares a_m_ones a_m_others a_m_bytes a_m_anew a_m_values : Nat} {above : Int64} {below : Int64} {retired : Int32} {manyLine : Int32} {bytesLong : Int32} {tokenAt : Int32} {tokenLong : Int32} {token : Int32} {value : Int32} {told : Nat → Int32} {Post : Int32 → (Nat → Int32) → Prop} {K_15 : Int32 → Int32 → Int32 → Int32 → (Nat → Int32) → Prop} (C0 : mxC p s m ar meth c cX10_criedBy RX10 (some .int) 8 D (mxTy cI cB cZ cP cC) A)
    (hK_15 : ∀ (v2 : Int32) (v3 : Int32) (v4 : Int32) (v5 : Int32) (cares : Nat → Int32) (H : Heap) (locs : List Loc) (ls : Array Slot), va_P D vwCl (ww_X10_criedBy a_m a_m_told a_m_kept a_m_isKept a_m_refused a_m_months a_m_heirs a_m_lasts a_m_cares a_m_bestCares a_m_ones a_m_others a_m_bytes a_m_anew a_m_values cI cB cZ cP cC above below retired manyLine bytesLong tokenAt tokenLong token value told cares) H → va_D A (ww_X10_criedBy a_m a_m_told a_m_kept a_m_isKept a_m_refused a_m_months a_m_heirs a_m_lasts a_m_cares a_m_bestCares a_m_ones a_m_others a_m_bytes a_m_anew a_m_values cI cB cZ cP cC above below retired manyLine bytesLong tokenAt tokenLong token value told cares) → va_S A s.heap H locs → lv_has ls 8 [(0, .ref a_m), (2, .int v2), (3, .int v3), (4, .int v4), (5, .int v5)] → K_15 v2 v3 v4 v5 cares → W p l e rm_X10_criedBy s m ar bl meth c H locs 0 0 (MQ bl (qq_X10_criedBy D a_m a_m_told a_m_kept a_m_isKept a_m_refused a_m_months a_m_heirs a_m_lasts a_m_cares a_m_bestCares a_m_ones a_m_others a_m_bytes a_m_anew a_m_values cI cB cZ cP cC above below retired manyLine bytesLong tokenAt tokenLong token value told Post A) ar s 0 0 A) (F0 m 15 ls [])) :
    ∀ (v2 : Int32) (v3 : Int32) (v5 : Int32) (s0 : Int32) (s1 : Int32) (cares : Nat → Int32) (H : Heap) (locs : List Loc) (ls : Array Slot), va_P D vwCl (ww_X10_criedBy a_m a_m_told a_m_kept a_m_isKept a_m_refused a_m_months a_m_heirs a_m_lasts a_m_cares a_m_bestCares a_m_ones a_m_others a_m_bytes a_m_anew a_m_values cI cB cZ cP cC above below retired manyLine bytesLong tokenAt tokenLong token value told cares) H → va_D A (ww_X10_criedBy a_m a_m_told a_m_kept a_m_isKept a_m_refused a_m_months a_m_heirs a_m_lasts a_m_cares a_m_bestCares a_m_ones a_m_others a_m_bytes a_m_anew a_m_values cI cB cZ cP cC above below retired manyLine bytesLong tokenAt tokenLong token value told cares) → va_S A s.heap H locs → lv_has ls 8 [(0, .ref a_m), (2, .int v2), (3, .int v3), (5, .int v5)] → wp_X10_criedBy_J123 told Post K_15 v2 v3 v5 s0 s1 cares → W p l e rm_X10_criedBy s m ar bl meth c H locs 0 0 (MQ bl (qq_X10_criedBy D a_m a_m_told a_m_kept a_m_isKept a_m_refused a_m_months a_m_heirs a_m_lasts a_m_cares a_m_bestCares a_m_ones a_m_others a_m_bytes a_m_anew a_m_values cI cB cZ cP cC above below retired manyLine bytesLong tokenAt tokenLong token value told Post A) ar s 0 0 A) (F0 m 123 ls [.int s0, .int s1]) := by
  obtain ⟨hx, hb, hr, hlocks, hml, hown, hts, hK, hA⟩ := id C0
  intro v2 v3 v5 s0 s1 cares H locs ls hP hD hS hl hw
  refine lv_iadd hx hb dX10_criedBy_123 ?_
  refine lv_topi (fun x_17 ex_17 => ?_)
  replace hw := hw x_17 ex_17
  refine lv_istore (lv' := [(4, .int x_17), (0, .ref a_m), (2, .int v2), (3, .int v3), (5, .int v5)]) hx hb dX10_criedBy_124 hl (by decide) rfl (fun ls hl => ?_)
  obtain ⟨x_18, ex_18⟩ : ∃ y : Int32, y = v5 + (-1) := ⟨_, rfl⟩
  replace hw := hw x_18 ex_18
  refine lv_iinc (v := x_18) (lv' := [(5, .int x_18), (4, .int x_17), (0, .ref a_m), (2, .int v2), (3, .int v3)]) hx hb dX10_criedBy_126 hl (k := 4) rfl (by rw [ex_18]; rfl) (by decide) rfl (fun ls hl => ?_)
  refine lv_goto (tgt := 15) hx hb dX10_criedBy_129 (by decide) ?_
  exact hK_15 v2 v3 x_17 x_18 cares _ _ _ hP hD hS (lv_sub hl [2, 3, 4, 1, 0] rfl) hw
def wp_X10_criedBy_J102 (told : Nat → Int32) (Post : Int32 → (Nat → Int32) → Prop) (K_15 : Int32 → Int32 → Int32 → Int32 → (Nat → Int32) → Prop) (v2 : Int32) (v4 : Int32) (v5 : Int32) (v6 : Int32) (v7 : Int32) (s0 : Int32) (s1 : Int32) (cares : Nat → Int32) : Prop :=
  (∀ x_14 : Int32, x_14 = s1 ||| s0 → ((v7 = 0 → (wp_X10_dayBy told v5 v6 (fun r_16 => (wp_X10_criedBy_J123 told Post K_15 v2 x_14 v5 r_16 v4 cares)))) ∧ (¬ v7 = 0 → (wp_X10_criedBy_J123 told Post K_15 v2 x_14 v5 0 v4 cares))))
set_option maxHeartbeats 4000000 in
set_option maxRecDepth 100000 in
theorem k_X10_criedBy_J102 {p : Program} {l : Launch} {e : Env} {s : State} {m : MethodId} {ar : Array Value} {bl : List Frame} {meth : Method} {c : Code} {D : va_G} {A : Nat → Prop} {cI cB cZ cP cC : ClassId} {a_m a_m_told a_m_kept a_m_isKept a_m_refused a_m_months a_m_heirs a_m_lasts a_m_cares a_m_bestCares a_m_ones a_m_others a_m_bytes a_m_anew a_m_values : Nat} {above : Int64} {below : Int64} {retired : Int32} {manyLine : Int32} {bytesLong : Int32} {tokenAt : Int32} {tokenLong : Int32} {token : Int32} {value : Int32} {told : Nat → Int32} {Post : Int32 → (Nat → Int32) → Prop} {K_15 : Int32 → Int32 → Int32 → Int32 → (Nat → Int32) → Prop} (C0 : mxC p s m ar meth c cX10_criedBy RX10 (some .int) 8 D (mxTy cI cB cZ cP cC) A)
    (hK_15 : ∀ (v2 : Int32) (v3 : Int32) (v4 : Int32) (v5 : Int32) (cares : Nat → Int32) (H : Heap) (locs : List Loc) (ls : Array Slot), va_P D vwCl (ww_X10_criedBy a_m a_m_told a_m_kept a_m_isKept a_m_refused a_m_months a_m_heirs a_m_lasts a_m_cares a_m_bestCares a_m_ones a_m_others a_m_bytes a_m_anew a_m_values cI cB cZ cP cC above below retired manyLine bytesLong tokenAt tokenLong token value told cares) H → va_D A (ww_X10_criedBy a_m a_m_told a_m_kept a_m_isKept a_m_refused a_m_months a_m_heirs a_m_lasts a_m_cares a_m_bestCares a_m_ones a_m_others a_m_bytes a_m_anew a_m_values cI cB cZ cP cC above below retired manyLine bytesLong tokenAt tokenLong token value told cares) → va_S A s.heap H locs → lv_has ls 8 [(0, .ref a_m), (2, .int v2), (3, .int v3), (4, .int v4), (5, .int v5)] → K_15 v2 v3 v4 v5 cares → W p l e rm_X10_criedBy s m ar bl meth c H locs 0 0 (MQ bl (qq_X10_criedBy D a_m a_m_told a_m_kept a_m_isKept a_m_refused a_m_months a_m_heirs a_m_lasts a_m_cares a_m_bestCares a_m_ones a_m_others a_m_bytes a_m_anew a_m_values cI cB cZ cP cC above below retired manyLine bytesLong tokenAt tokenLong token value told Post A) ar s 0 0 A) (F0 m 15 ls [])) :
    ∀ (v2 : Int32) (v4 : Int32) (v5 : Int32) (v6 : Int32) (v7 : Int32) (s0 : Int32) (s1 : Int32) (cares : Nat → Int32) (H : Heap) (locs : List Loc) (ls : Array Slot), va_P D vwCl (ww_X10_criedBy a_m a_m_told a_m_kept a_m_isKept a_m_refused a_m_months a_m_heirs a_m_lasts a_m_cares a_m_bestCares a_m_ones a_m_others a_m_bytes a_m_anew a_m_values cI cB cZ cP cC above below retired manyLine bytesLong tokenAt tokenLong token value told cares) H → va_D A (ww_X10_criedBy a_m a_m_told a_m_kept a_m_isKept a_m_refused a_m_months a_m_heirs a_m_lasts a_m_cares a_m_bestCares a_m_ones a_m_others a_m_bytes a_m_anew a_m_values cI cB cZ cP cC above below retired manyLine bytesLong tokenAt tokenLong token value told cares) → va_S A s.heap H locs → lv_has ls 8 [(0, .ref a_m), (2, .int v2), (4, .int v4), (5, .int v5), (6, .int v6), (7, .int v7)] → wp_X10_criedBy_J102 told Post K_15 v2 v4 v5 v6 v7 s0 s1 cares → W p l e rm_X10_criedBy s m ar bl meth c H locs 0 0 (MQ bl (qq_X10_criedBy D a_m a_m_told a_m_kept a_m_isKept a_m_refused a_m_months a_m_heirs a_m_lasts a_m_cares a_m_bestCares a_m_ones a_m_others a_m_bytes a_m_anew a_m_values cI cB cZ cP cC above below retired manyLine bytesLong tokenAt tokenLong token value told Post A) ar s 0 0 A) (F0 m 102 ls [.int s0, .int s1]) := by
  obtain ⟨hx, hb, hr, hlocks, hml, hown, hts, hK, hA⟩ := id C0
  intro v2 v4 v5 v6 v7 s0 s1 cares H locs ls hP hD hS hl hw
  refine lv_ior hx hb dX10_criedBy_102 ?_
  refine lv_topi (fun x_14 ex_14 => ?_)
  replace hw := hw x_14 ex_14
  refine lv_istore_n (lv' := [(3, .int x_14), (0, .ref a_m), (2, .int v2), (4, .int v4), (5, .int v5), (6, .int v6), (7, .int v7)]) hx hb dX10_criedBy_103 rfl hl (by decide) rfl (fun ls hl => ?_)
  refine lv_iload hx hb dX10_criedBy_104 (lv_at hl 3 rfl) ?_
  refine lv_iload hx hb dX10_criedBy_106 (lv_at hl 6 rfl) ?_
  refine lv_if_eq (tgt := 115) hx hb dX10_criedBy_108 (by decide) (fun c_15 => ?_) (fun c_15 => ?_)
  · replace hw := hw.1 c_15
    refine lv_aload_n hx hb dX10_criedBy_115 rfl (lv_at hl 1 rfl) ?_
    refine lv_iload hx hb dX10_criedBy_116 (lv_at hl 4 rfl) ?_
    refine lv_iload hx hb dX10_criedBy_118 (lv_at hl 5 rfl) ?_
    refine mx_ki (mx_rV (rm := rm_X10_dayBy) (rest := [.int v4]) (C := RX10) hx hb hml hown hts (c_X10_dayBy l D cI cB cZ cP cC a_m a_m_told a_m_kept a_m_isKept a_m_refused a_m_months a_m_heirs a_m_lasts a_m_cares a_m_bestCares a_m_ones a_m_others a_m_bytes a_m_anew a_m_values above below retired manyLine bytesLong tokenAt tokenLong token value told v5 v6 _ _ hw) q_637 q_638 q_639 q_5 q_640 hd_X10_dayBy ⟨(Nat.le_of_ble_eq_true rfl), (Nat.le_of_ble_eq_true rfl)⟩ rfl rfl hK hP hD [0, 1] rfl rfl 10 0 rfl rfl rfl rfl hl.1 rfl (Nat.le_of_ble_eq_true rfl) dX10_criedBy_120 ⟨(Nat.le_of_ble_eq_true rfl), (Nat.le_of_ble_eq_true rfl)⟩) hP hD hS hA [0, 1] [2] [1, 2, 0] (fun _ => ww_X10_criedBy a_m a_m_told a_m_kept a_m_isKept a_m_refused a_m_months a_m_heirs a_m_lasts a_m_cares a_m_bestCares a_m_ones a_m_others a_m_bytes a_m_anew a_m_values cI cB cZ cP cC above below retired manyLine bytesLong tokenAt tokenLong token value told cares) rfl rfl rfl (by decide) rfl (fun _ => rfl) (fun r_16 u H locs hw hP hD hS => ?_)
    try dsimp only at hw
    replace hP : va_P D vwCl (ww_X10_criedBy a_m a_m_told a_m_kept a_m_isKept a_m_refused a_m_months a_m_heirs a_m_lasts a_m_cares a_m_bestCares a_m_ones a_m_others a_m_bytes a_m_anew a_m_values cI cB cZ cP cC above below retired manyLine bytesLong tokenAt tokenLong token value told cares) H := hP
    replace hD : va_D A (ww_X10_criedBy a_m a_m_told a_m_kept a_m_isKept a_m_refused a_m_months a_m_heirs a_m_lasts a_m_cares a_m_bestCares a_m_ones a_m_others a_m_bytes a_m_anew a_m_values cI cB cZ cP cC above below retired manyLine bytesLong tokenAt tokenLong token value told cares) := hD
    refine k_X10_criedBy_J123 C0 ?_ v2 x_14 v5 r_16 v4 cares _ _ _ hP hD hS (lv_sub hl [1, 2, 0, 4] rfl) hw
    intro v2_19 v3_20 v4_21 v5_22 cares_23 H locs ls hP hD hS hl hw
    exact hK_15 v2_19 v3_20 v4_21 v5_22 cares_23 _ _ _ hP hD hS (lv_sub hl [0, 1, 2, 3, 4] rfl) hw
  · replace hw := hw.2 c_15
    refine lv_iconst (v := 0) hx hb dX10_criedBy_111 (by decide) ?_
    refine lv_goto (tgt := 123) hx hb dX10_criedBy_112 (by decide) ?_
    refine k_X10_criedBy_J123 C0 ?_ v2 x_14 v5 0 v4 cares _ _ _ hP hD hS (lv_sub hl [1, 2, 0, 4] rfl) hw
    intro v2_24 v3_25 v4_26 v5_27 cares_28 H locs ls hP hD hS hl hw
    exact hK_15 v2_24 v3_25 v4_26 v5_27 cares_28 _ _ _ hP hD hS (lv_sub hl [0, 1, 2, 3, 4] rfl) hw
def wp_X10_criedBy_J88 (told : Nat → Int32) (Post : Int32 → (Nat → Int32) → Prop) (K_15 : Int32 → Int32 → Int32 → Int32 → (Nat → Int32) → Prop) (v2 : Int32) (v3 : Int32) (v4 : Int32) (v5 : Int32) (v6 : Int32) (v7 : Int32) (cares : Nat → Int32) : Prop :=
  ((v7 = 0 → (wp_X10_criedBy_J102 told Post K_15 v2 v4 v5 v6 v7 (1 <<< (v6 &&& 31)) v3 cares)) ∧ (¬ v7 = 0 → (wp_X10_criedBy_J102 told Post K_15 v2 v4 v5 v6 v7 0 v3 cares)))
set_option maxHeartbeats 4000000 in
set_option maxRecDepth 100000 in
theorem k_X10_criedBy_J88 {p : Program} {l : Launch} {e : Env} {s : State} {m : MethodId} {ar : Array Value} {bl : List Frame} {meth : Method} {c : Code} {D : va_G} {A : Nat → Prop} {cI cB cZ cP cC : ClassId} {a_m a_m_told a_m_kept a_m_isKept a_m_refused a_m_months a_m_heirs a_m_lasts a_m_cares a_m_bestCares a_m_ones a_m_others a_m_bytes a_m_anew a_m_values : Nat} {above : Int64} {below : Int64} {retired : Int32} {manyLine : Int32} {bytesLong : Int32} {tokenAt : Int32} {tokenLong : Int32} {token : Int32} {value : Int32} {told : Nat → Int32} {Post : Int32 → (Nat → Int32) → Prop} {K_15 : Int32 → Int32 → Int32 → Int32 → (Nat → Int32) → Prop} (C0 : mxC p s m ar meth c cX10_criedBy RX10 (some .int) 8 D (mxTy cI cB cZ cP cC) A)
    (hK_15 : ∀ (v2 : Int32) (v3 : Int32) (v4 : Int32) (v5 : Int32) (cares : Nat → Int32) (H : Heap) (locs : List Loc) (ls : Array Slot), va_P D vwCl (ww_X10_criedBy a_m a_m_told a_m_kept a_m_isKept a_m_refused a_m_months a_m_heirs a_m_lasts a_m_cares a_m_bestCares a_m_ones a_m_others a_m_bytes a_m_anew a_m_values cI cB cZ cP cC above below retired manyLine bytesLong tokenAt tokenLong token value told cares) H → va_D A (ww_X10_criedBy a_m a_m_told a_m_kept a_m_isKept a_m_refused a_m_months a_m_heirs a_m_lasts a_m_cares a_m_bestCares a_m_ones a_m_others a_m_bytes a_m_anew a_m_values cI cB cZ cP cC above below retired manyLine bytesLong tokenAt tokenLong token value told cares) → va_S A s.heap H locs → lv_has ls 8 [(0, .ref a_m), (2, .int v2), (3, .int v3), (4, .int v4), (5, .int v5)] → K_15 v2 v3 v4 v5 cares → W p l e rm_X10_criedBy s m ar bl meth c H locs 0 0 (MQ bl (qq_X10_criedBy D a_m a_m_told a_m_kept a_m_isKept a_m_refused a_m_months a_m_heirs a_m_lasts a_m_cares a_m_bestCares a_m_ones a_m_others a_m_bytes a_m_anew a_m_values cI cB cZ cP cC above below retired manyLine bytesLong tokenAt tokenLong token value told Post A) ar s 0 0 A) (F0 m 15 ls [])) :
    ∀ (v2 : Int32) (v3 : Int32) (v4 : Int32) (v5 : Int32) (v6 : Int32) (v7 : Int32) (cares : Nat → Int32) (H : Heap) (locs : List Loc) (ls : Array Slot), va_P D vwCl (ww_X10_criedBy a_m a_m_told a_m_kept a_m_isKept a_m_refused a_m_months a_m_heirs a_m_lasts a_m_cares a_m_bestCares a_m_ones a_m_others a_m_bytes a_m_anew a_m_values cI cB cZ cP cC above below retired manyLine bytesLong tokenAt tokenLong token value told cares) H → va_D A (ww_X10_criedBy a_m a_m_told a_m_kept a_m_isKept a_m_refused a_m_months a_m_heirs a_m_lasts a_m_cares a_m_bestCares a_m_ones a_m_others a_m_bytes a_m_anew a_m_values cI cB cZ cP cC above below retired manyLine bytesLong tokenAt tokenLong token value told cares) → va_S A s.heap H locs → lv_has ls 8 [(0, .ref a_m), (2, .int v2), (3, .int v3), (4, .int v4), (5, .int v5), (6, .int v6), (7, .int v7)] → wp_X10_criedBy_J88 told Post K_15 v2 v3 v4 v5 v6 v7 cares → W p l e rm_X10_criedBy s m ar bl meth c H locs 0 0 (MQ bl (qq_X10_criedBy D a_m a_m_told a_m_kept a_m_isKept a_m_refused a_m_months a_m_heirs a_m_lasts a_m_cares a_m_bestCares a_m_ones a_m_others a_m_bytes a_m_anew a_m_values cI cB cZ cP cC above below retired manyLine bytesLong tokenAt tokenLong token value told Post A) ar s 0 0 A) (F0 m 88 ls []) := by
  obtain ⟨hx, hb, hr, hlocks, hml, hown, hts, hK, hA⟩ := id C0
  intro v2 v3 v4 v5 v6 v7 cares H locs ls hP hD hS hl hw
  refine lv_iload_n hx hb dX10_criedBy_88 rfl (lv_at hl 2 rfl) ?_
  refine lv_iload hx hb dX10_criedBy_89 (lv_at hl 6 rfl) ?_
  refine lv_if_eq (tgt := 98) hx hb dX10_criedBy_91 (by decide) (fun c_13 => ?_) (fun c_13 => ?_)
  · replace hw := hw.1 c_13
    refine lv_iconst (v := 1) hx hb dX10_criedBy_98 (by decide) ?_
    refine lv_iload hx hb dX10_criedBy_99 (lv_at hl 5 rfl) ?_
    refine lv_ishl hx hb dX10_criedBy_101 ?_
    refine k_X10_criedBy_J102 C0 ?_ v2 v4 v5 v6 v7 (1 <<< (v6 &&& 31)) v3 cares _ _ _ hP hD hS (lv_sub hl [0, 1, 3, 4, 5, 6] rfl) hw
    intro v2_29 v3_30 v4_31 v5_32 cares_33 H locs ls hP hD hS hl hw
    exact hK_15 v2_29 v3_30 v4_31 v5_32 cares_33 _ _ _ hP hD hS (lv_sub hl [0, 1, 2, 3, 4] rfl) hw
  · replace hw := hw.2 c_13
    refine lv_iconst (v := 0) hx hb dX10_criedBy_94 (by decide) ?_
    refine lv_goto (tgt := 102) hx hb dX10_criedBy_95 (by decide) ?_
    refine k_X10_criedBy_J102 C0 ?_ v2 v4 v5 v6 v7 0 v3 cares _ _ _ hP hD hS (lv_sub hl [0, 1, 3, 4, 5, 6] rfl) hw
    intro v2_34 v3_35 v4_36 v5_37 cares_38 H locs ls hP hD hS hl hw
    exact hK_15 v2_34 v3_35 v4_36 v5_37 cares_38 _ _ _ hP hD hS (lv_sub hl [0, 1, 2, 3, 4] rfl) hw
def wp_X10_criedBy_J62 (told : Nat → Int32) (Post : Int32 → (Nat → Int32) → Prop) (K_15 : Int32 → Int32 → Int32 → Int32 → (Nat → Int32) → Prop) (v2 : Int32) (v3 : Int32) (v4 : Int32) (v5 : Int32) (v6 : Int32) (v7 : Int32) (s0 : Int32) (s1 : Int32) (cares : Nat → Int32) : Prop :=
  (vp_in s1 6 ∧ (∀ f_9 : Nat → Int32, f_9 = upd cares s1.toNatClampNeg s0 → ((v7 = 0 → (wp_X10_has v3 v6 (fun r_11 => ((r_11 = 0 → (wp_X10_criedBy_J88 told Post K_15 v2 v3 v4 v5 v6 v7 f_9)) ∧ (¬ r_11 = 0 → Post 1000000 f_9))))) ∧ (¬ v7 = 0 → ((v6 ≤ 0 → (wp_X10_criedBy_J88 told Post K_15 v2 v3 v4 v5 v6 v7 f_9)) ∧ (¬ v6 ≤ 0 → Post 1000000 f_9))))))
set_option maxHeartbeats 4000000 in
set_option maxRecDepth 100000 in
theorem k_X10_criedBy_J62 {p : Program} {l : Launch} {e : Env} {s : State} {m : MethodId} {ar : Array Value} {bl : List Frame} {meth : Method} {c : Code} {D : va_G} {A : Nat → Prop} {cI cB cZ cP cC : ClassId} {a_m a_m_told a_m_kept a_m_isKept a_m_refused a_m_months a_m_heirs a_m_lasts a_m_cares a_m_bestCares a_m_ones a_m_others a_m_bytes a_m_anew a_m_values : Nat} {above : Int64} {below : Int64} {retired : Int32} {manyLine : Int32} {bytesLong : Int32} {tokenAt : Int32} {tokenLong : Int32} {token : Int32} {value : Int32} {told : Nat → Int32} {Post : Int32 → (Nat → Int32) → Prop} {K_15 : Int32 → Int32 → Int32 → Int32 → (Nat → Int32) → Prop} (C0 : mxC p s m ar meth c cX10_criedBy RX10 (some .int) 8 D (mxTy cI cB cZ cP cC) A)
    (hK_15 : ∀ (v2 : Int32) (v3 : Int32) (v4 : Int32) (v5 : Int32) (cares : Nat → Int32) (H : Heap) (locs : List Loc) (ls : Array Slot), va_P D vwCl (ww_X10_criedBy a_m a_m_told a_m_kept a_m_isKept a_m_refused a_m_months a_m_heirs a_m_lasts a_m_cares a_m_bestCares a_m_ones a_m_others a_m_bytes a_m_anew a_m_values cI cB cZ cP cC above below retired manyLine bytesLong tokenAt tokenLong token value told cares) H → va_D A (ww_X10_criedBy a_m a_m_told a_m_kept a_m_isKept a_m_refused a_m_months a_m_heirs a_m_lasts a_m_cares a_m_bestCares a_m_ones a_m_others a_m_bytes a_m_anew a_m_values cI cB cZ cP cC above below retired manyLine bytesLong tokenAt tokenLong token value told cares) → va_S A s.heap H locs → lv_has ls 8 [(0, .ref a_m), (2, .int v2), (3, .int v3), (4, .int v4), (5, .int v5)] → K_15 v2 v3 v4 v5 cares → W p l e rm_X10_criedBy s m ar bl meth c H locs 0 0 (MQ bl (qq_X10_criedBy D a_m a_m_told a_m_kept a_m_isKept a_m_refused a_m_months a_m_heirs a_m_lasts a_m_cares a_m_bestCares a_m_ones a_m_others a_m_bytes a_m_anew a_m_values cI cB cZ cP cC above below retired manyLine bytesLong tokenAt tokenLong token value told Post A) ar s 0 0 A) (F0 m 15 ls [])) :
    ∀ (v2 : Int32) (v3 : Int32) (v4 : Int32) (v5 : Int32) (v6 : Int32) (v7 : Int32) (s0 : Int32) (s1 : Int32) (cares : Nat → Int32) (H : Heap) (locs : List Loc) (ls : Array Slot), va_P D vwCl (ww_X10_criedBy a_m a_m_told a_m_kept a_m_isKept a_m_refused a_m_months a_m_heirs a_m_lasts a_m_cares a_m_bestCares a_m_ones a_m_others a_m_bytes a_m_anew a_m_values cI cB cZ cP cC above below retired manyLine bytesLong tokenAt tokenLong token value told cares) H → va_D A (ww_X10_criedBy a_m a_m_told a_m_kept a_m_isKept a_m_refused a_m_months a_m_heirs a_m_lasts a_m_cares a_m_bestCares a_m_ones a_m_others a_m_bytes a_m_anew a_m_values cI cB cZ cP cC above below retired manyLine bytesLong tokenAt tokenLong token value told cares) → va_S A s.heap H locs → lv_has ls 8 [(0, .ref a_m), (2, .int v2), (3, .int v3), (4, .int v4), (5, .int v5), (6, .int v6), (7, .int v7)] → wp_X10_criedBy_J62 told Post K_15 v2 v3 v4 v5 v6 v7 s0 s1 cares → W p l e rm_X10_criedBy s m ar bl meth c H locs 0 0 (MQ bl (qq_X10_criedBy D a_m a_m_told a_m_kept a_m_isKept a_m_refused a_m_months a_m_heirs a_m_lasts a_m_cares a_m_bestCares a_m_ones a_m_others a_m_bytes a_m_anew a_m_values cI cB cZ cP cC above below retired manyLine bytesLong tokenAt tokenLong token value told Post A) ar s 0 0 A) (F0 m 62 ls [.int s0, .int s1, .ref a_m_cares]) := by
  obtain ⟨hx, hb, hr, hlocks, hml, hown, hts, hK, hA⟩ := id C0
  intro v2 v3 v4 v5 v6 v7 s0 s1 cares H locs ls hP hD hS hl hw
  obtain ⟨h_8, hw⟩ := hw
  obtain ⟨f_9, ef_9⟩ : ∃ y : Nat → Int32, y = upd cares s1.toNatClampNeg s0 := ⟨_, rfl⟩
  replace hw := hw f_9 ef_9
  refine mx_iast hx hb hK hP hD hS 2 0 rfl rfl h_8 f_9 ef_9 (ww_X10_criedBy a_m a_m_told a_m_kept a_m_isKept a_m_refused a_m_months a_m_heirs a_m_lasts a_m_cares a_m_bestCares a_m_ones a_m_others a_m_bytes a_m_anew a_m_values cI cB cZ cP cC above below retired manyLine bytesLong tokenAt tokenLong token value told f_9) rfl dX10_criedBy_62 (fun H locs hP hD hS => ?_)
  refine lv_iload hx hb dX10_criedBy_63 (lv_at hl 6 rfl) ?_
  refine lv_if_eq (tgt := 76) hx hb dX10_criedBy_65 (by decide) (fun c_10 => ?_) (fun c_10 => ?_)
  · replace hw := hw.1 c_10
    refine lv_iload_n hx hb dX10_criedBy_76 rfl (lv_at hl 2 rfl) ?_
    refine lv_iload hx hb dX10_criedBy_77 (lv_at hl 5 rfl) ?_
    refine mx_ki (mx_rS (rm := rm_X10_has) (rest := []) hx hb hml hown hts (c_X10_has l D cI cB cZ cP cC v3 v6 _ _ hw) q_445 q_446 q_5 q_447 hd_X10_has ⟨(Nat.le_of_ble_eq_true rfl), (Nat.le_of_ble_eq_true rfl)⟩ rfl rfl hK hP hD [] rfl rfl rfl hl.1 rfl (Nat.le_of_ble_eq_true rfl) dX10_criedBy_79 ⟨(Nat.le_of_ble_eq_true rfl), (Nat.le_of_ble_eq_true rfl)⟩) hP hD hS hA [] [0, 1, 2] [0, 1, 2] (fun _ => ww_X10_criedBy a_m a_m_told a_m_kept a_m_isKept a_m_refused a_m_months a_m_heirs a_m_lasts a_m_cares a_m_bestCares a_m_ones a_m_others a_m_bytes a_m_anew a_m_values cI cB cZ cP cC above below retired manyLine bytesLong tokenAt tokenLong token value told f_9) rfl rfl rfl (by decide) rfl (fun _ => rfl) (fun r_11 u H locs hw hP hD hS => ?_)
    try dsimp only at hw
    replace hP : va_P D vwCl (ww_X10_criedBy a_m a_m_told a_m_kept a_m_isKept a_m_refused a_m_months a_m_heirs a_m_lasts a_m_cares a_m_bestCares a_m_ones a_m_others a_m_bytes a_m_anew a_m_values cI cB cZ cP cC above below retired manyLine bytesLong tokenAt tokenLong token value told f_9) H := hP
    replace hD : va_D A (ww_X10_criedBy a_m a_m_told a_m_kept a_m_isKept a_m_refused a_m_months a_m_heirs a_m_lasts a_m_cares a_m_bestCares a_m_ones a_m_others a_m_bytes a_m_anew a_m_values cI cB cZ cP cC above below retired manyLine bytesLong tokenAt tokenLong token value told f_9) := hD
    refine lv_if_eq (tgt := 88) hx hb dX10_criedBy_82 (by decide) (fun c_12 => ?_) (fun c_12 => ?_)
    · replace hw := hw.1 c_12
      refine k_X10_criedBy_J88 C0 ?_ v2 v3 v4 v5 v6 v7 f_9 _ _ _ hP hD hS (lv_sub hl [0, 1, 2, 3, 4, 5, 6] rfl) hw
      intro v2_39 v3_40 v4_41 v5_42 cares_43 H locs ls hP hD hS hl hw
      exact hK_15 v2_39 v3_40 v4_41 v5_42 cares_43 _ _ _ hP hD hS (lv_sub hl [0, 1, 2, 3, 4] rfl) hw
    · replace hw := hw.2 c_12
      refine lv_ldc (v := 1000000) hx hb hown (hts _ q_747) dX10_criedBy_85 ?_
      exact mx_iret f_9 hx hb hr hlocks rfl hw hK hP hD hS dX10_criedBy_87
  · replace hw := hw.2 c_10
    refine lv_iload hx hb dX10_criedBy_68 (lv_at hl 5 rfl) ?_
    refine lv_if_le (tgt := 88) hx hb dX10_criedBy_70 (by decide) (fun c_44 => ?_) (fun c_44 => ?_)
    · replace hw := hw.1 c_44
      refine k_X10_criedBy_J88 C0 ?_ v2 v3 v4 v5 v6 v7 f_9 _ _ _ hP hD hS (lv_sub hl [0, 1, 2, 3, 4, 5, 6] rfl) hw
      intro v2_45 v3_46 v4_47 v5_48 cares_49 H locs ls hP hD hS hl hw
      exact hK_15 v2_45 v3_46 v4_47 v5_48 cares_49 _ _ _ hP hD hS (lv_sub hl [0, 1, 2, 3, 4] rfl) hw
    · replace hw := hw.2 c_44
      refine lv_goto (tgt := 85) hx hb dX10_criedBy_73 (by decide) ?_
      refine lv_ldc (v := 1000000) hx hb hown (hts _ q_747) dX10_criedBy_85 ?_
      exact mx_iret f_9 hx hb hr hlocks rfl hw hK hP hD hS dX10_criedBy_87
def wp_X10_criedBy_L15 (told : Nat → Int32) (Post : Int32 → (Nat → Int32) → Prop)  : Nat → Int32 → Int32 → Int32 → Int32 → (Nat → Int32) → Prop
  | 0, _, _, _, _, _ => False
  | n + 1, v2, v3, v4, v5, cares => ((v5 < 0 → Post v4 cares) ∧ (¬ v5 < 0 → (∀ x_4 : Int32, x_4 = v2 - v2 / 6 * 6 → (∀ x_5 : Int32, x_5 = v2 / 6 → (wp_X10_has (told 10) v5 (fun r_6 => ((r_6 = 0 → (wp_X10_criedBy_J62 told Post (fun (v2_50 : Int32) (v3_51 : Int32) (v4_52 : Int32) (v5_53 : Int32) (cares_54 : Nat → Int32) => wp_X10_criedBy_L15 told Post  n v2_50 v3_51 v4_52 v5_53 cares_54) x_5 v3 v4 v5 x_4 r_6 x_4 v5 cares)) ∧ (¬ r_6 = 0 → (wp_X10_criedBy_J62 told Post (fun (v2_55 : Int32) (v3_56 : Int32) (v4_57 : Int32) (v5_58 : Int32) (cares_59 : Nat → Int32) => wp_X10_criedBy_L15 told Post  n v2_55 v3_56 v4_57 v5_58 cares_59) x_5 v3 v4 v5 x_4 r_6 (-1) v5 cares)))))))))
set_option maxHeartbeats 4000000 in
set_option maxRecDepth 100000 in
theorem k_X10_criedBy_L15 {p : Program} {l : Launch} {e : Env} {s : State} {m : MethodId} {ar : Array Value} {bl : List Frame} {meth : Method} {c : Code} {D : va_G} {A : Nat → Prop} {cI cB cZ cP cC : ClassId} {a_m a_m_told a_m_kept a_m_isKept a_m_refused a_m_months a_m_heirs a_m_lasts a_m_cares a_m_bestCares a_m_ones a_m_others a_m_bytes a_m_anew a_m_values : Nat} {above : Int64} {below : Int64} {retired : Int32} {manyLine : Int32} {bytesLong : Int32} {tokenAt : Int32} {tokenLong : Int32} {token : Int32} {value : Int32} {told : Nat → Int32} {Post : Int32 → (Nat → Int32) → Prop} (C0 : mxC p s m ar meth c cX10_criedBy RX10 (some .int) 8 D (mxTy cI cB cZ cP cC) A) :
    ∀ (n : Nat) (v2 : Int32) (v3 : Int32) (v4 : Int32) (v5 : Int32) (cares : Nat → Int32) (H : Heap) (locs : List Loc) (ls : Array Slot), va_P D vwCl (ww_X10_criedBy a_m a_m_told a_m_kept a_m_isKept a_m_refused a_m_months a_m_heirs a_m_lasts a_m_cares a_m_bestCares a_m_ones a_m_others a_m_bytes a_m_anew a_m_values cI cB cZ cP cC above below retired manyLine bytesLong tokenAt tokenLong token value told cares) H → va_D A (ww_X10_criedBy a_m a_m_told a_m_kept a_m_isKept a_m_refused a_m_months a_m_heirs a_m_lasts a_m_cares a_m_bestCares a_m_ones a_m_others a_m_bytes a_m_anew a_m_values cI cB cZ cP cC above below retired manyLine bytesLong tokenAt tokenLong token value told cares) → va_S A s.heap H locs → lv_has ls 8 [(0, .ref a_m), (2, .int v2), (3, .int v3), (4, .int v4), (5, .int v5)] → wp_X10_criedBy_L15 told Post  n v2 v3 v4 v5 cares → W p l e rm_X10_criedBy s m ar bl meth c H locs 0 0 (MQ bl (qq_X10_criedBy D a_m a_m_told a_m_kept a_m_isKept a_m_refused a_m_months a_m_heirs a_m_lasts a_m_cares a_m_bestCares a_m_ones a_m_others a_m_bytes a_m_anew a_m_values cI cB cZ cP cC above below retired manyLine bytesLong tokenAt tokenLong token value told Post A) ar s 0 0 A) (F0 m 15 ls []) := by
  obtain ⟨hx, hb, hr, hlocks, hml, hown, hts, hK, hA⟩ := id C0
  intro n
  induction n with
  | zero =>
    intro v2 v3 v4 v5 cares H locs ls hP hD hS hl hw
    exact absurd hw (fun h => h)
  | succ n ih =>
    intro v2 v3 v4 v5 cares H locs ls hP hD hS hl hw
    refine lv_iload hx hb dX10_criedBy_15 (lv_at hl 4 rfl) ?_
    refine lv_if_lt (tgt := 132) hx hb dX10_criedBy_17 (by decide) (fun c_3 => ?_) (fun c_3 => ?_)
    · replace hw := hw.1 c_3
      refine lv_iload hx hb dX10_criedBy_132 (lv_at hl 3 rfl) ?_
      exact mx_iret cares hx hb hr hlocks rfl hw hK hP hD hS dX10_criedBy_134
    · replace hw := hw.2 c_3
      refine lv_iload_n hx hb dX10_criedBy_20 rfl (lv_at hl 1 rfl) ?_
      refine lv_bipush (v := 6) hx hb dX10_criedBy_21 (by decide) ?_
      refine lv_irem hx hb dX10_criedBy_23 (by decide) ?_
      refine lv_topi (fun x_4 ex_4 => ?_)
      replace hw := hw x_4 ex_4
      refine lv_istore (lv' := [(6, .int x_4), (0, .ref a_m), (2, .int v2), (3, .int v3), (4, .int v4), (5, .int v5)]) hx hb dX10_criedBy_24 hl (by decide) rfl (fun ls hl => ?_)
      refine lv_iload_n hx hb dX10_criedBy_26 rfl (lv_at hl 2 rfl) ?_
      refine lv_bipush (v := 6) hx hb dX10_criedBy_27 (by decide) ?_
      refine lv_idiv hx hb dX10_criedBy_29 (by decide) ?_
      refine lv_topi (fun x_5 ex_5 => ?_)
      replace hw := hw x_5 ex_5
      refine lv_istore_n (lv' := [(2, .int x_5), (6, .int x_4), (0, .ref a_m), (3, .int v3), (4, .int v4), (5, .int v5)]) hx hb dX10_criedBy_30 rfl hl (by decide) rfl (fun ls hl => ?_)
      refine lv_aload_n hx hb dX10_criedBy_31 rfl (lv_at hl 2 rfl) ?_
      refine mx_get (ci := 10) (C := RX10) (T := TX10) (N := 23) hx hb hown in_wsX100 hts hK hP 0 rfl rfl 0 (by decide) q_91 rfl (v := .ref a_m_told) rfl dX10_criedBy_32 ?_
      refine lv_bipush (v := 10) hx hb dX10_criedBy_35 (by decide) ?_
      refine mx_iald hx hb hK hP 1 0 rfl rfl (mx_lit rfl) (told 10) rfl dX10_criedBy_37 ?_
      refine lv_iload hx hb dX10_criedBy_38 (lv_at hl 5 rfl) ?_
      refine mx_ki (mx_rS (rm := rm_X10_has) (rest := []) hx hb hml hown hts (c_X10_has l D cI cB cZ cP cC (told 10) v5 _ _ hw) q_445 q_446 q_5 q_447 hd_X10_has ⟨(Nat.le_of_ble_eq_true rfl), (Nat.le_of_ble_eq_true rfl)⟩ rfl rfl hK hP hD [] rfl rfl rfl hl.1 rfl (Nat.le_of_ble_eq_true rfl) dX10_criedBy_40 ⟨(Nat.le_of_ble_eq_true rfl), (Nat.le_of_ble_eq_true rfl)⟩) hP hD hS hA [] [0, 1, 2] [0, 1, 2] (fun _ => ww_X10_criedBy a_m a_m_told a_m_kept a_m_isKept a_m_refused a_m_months a_m_heirs a_m_lasts a_m_cares a_m_bestCares a_m_ones a_m_others a_m_bytes a_m_anew a_m_values cI cB cZ cP cC above below retired manyLine bytesLong tokenAt tokenLong token value told cares) rfl rfl rfl (by decide) rfl (fun _ => rfl) (fun r_6 u H locs hw hP hD hS => ?_)
      try dsimp only at hw
      replace hP : va_P D vwCl (ww_X10_criedBy a_m a_m_told a_m_kept a_m_isKept a_m_refused a_m_months a_m_heirs a_m_lasts a_m_cares a_m_bestCares a_m_ones a_m_others a_m_bytes a_m_anew a_m_values cI cB cZ cP cC above below retired manyLine bytesLong tokenAt tokenLong token value told cares) H := hP
      replace hD : va_D A (ww_X10_criedBy a_m a_m_told a_m_kept a_m_isKept a_m_refused a_m_months a_m_heirs a_m_lasts a_m_cares a_m_bestCares a_m_ones a_m_others a_m_bytes a_m_anew a_m_values cI cB cZ cP cC above below retired manyLine bytesLong tokenAt tokenLong token value told cares) := hD
      refine lv_istore (lv' := [(7, .int r_6), (2, .int x_5), (6, .int x_4), (0, .ref a_m), (3, .int v3), (4, .int v4), (5, .int v5)]) hx hb dX10_criedBy_43 hl (by decide) rfl (fun ls hl => ?_)
      refine lv_aload_n hx hb dX10_criedBy_45 rfl (lv_at hl 3 rfl) ?_
      refine mx_get (ci := 10) (C := RX10) (T := TX10) (N := 23) hx hb hown in_wsX100 hts hK hP 0 rfl rfl 11 (by decide) q_99 rfl (v := .ref a_m_cares) rfl dX10_criedBy_46 ?_
      refine lv_iload hx hb dX10_criedBy_49 (lv_at hl 6 rfl) ?_
      refine lv_iload hx hb dX10_criedBy_51 (lv_at hl 0 rfl) ?_
      refine lv_if_eq (tgt := 60) hx hb dX10_criedBy_53 (by decide) (fun c_7 => ?_) (fun c_7 => ?_)
      · replace hw := hw.1 c_7
        refine lv_iload hx hb dX10_criedBy_60 (lv_at hl 2 rfl) ?_
        refine k_X10_criedBy_J62 C0 ?_ x_5 v3 v4 v5 x_4 r_6 x_4 v5 cares _ _ _ hP hD hS (lv_sub hl [3, 1, 4, 5, 6, 2, 0] rfl) hw
        intro v2_50 v3_51 v4_52 v5_53 cares_54 H locs ls hP hD hS hl hw
        exact ih v2_50 v3_51 v4_52 v5_53 cares_54 _ _ _ hP hD hS (lv_sub hl [0, 1, 2, 3, 4] rfl) hw
      · replace hw := hw.2 c_7
        refine lv_iconst (v := (-1)) hx hb dX10_criedBy_56 (by decide) ?_
        refine lv_goto (tgt := 62) hx hb dX10_criedBy_57 (by decide) ?_
        refine k_X10_criedBy_J62 C0 ?_ x_5 v3 v4 v5 x_4 r_6 (-1) v5 cares _ _ _ hP hD hS (lv_sub hl [3, 1, 4, 5, 6, 2, 0] rfl) hw
        intro v2_55 v3_56 v4_57 v5_58 cares_59 H locs ls hP hD hS hl hw
        exact ih v2_55 v3_56 v4_57 v5_58 cares_59 _ _ _ hP hD hS (lv_sub hl [0, 1, 2, 3, 4] rfl) hw
def wp_X10_criedBy (told : Nat → Int32) (cares : Nat → Int32) (v1 : Int32) (Post : Int32 → (Nat → Int32) → Prop) : Prop :=
  (wp_X10_many told (fun r_1 => (∀ x_2 : Int32, x_2 = r_1 - 1 → (∃ k_60 : Nat, wp_X10_criedBy_L15 told Post k_60 v1 0 0 x_2 cares))))
set_option maxHeartbeats 4000000 in
set_option maxRecDepth 100000 in
theorem c_X10_criedBy (l : Launch) (D : va_G) (cI cB cZ cP cC : ClassId) (a_m a_m_told a_m_kept a_m_isKept a_m_refused a_m_months a_m_heirs a_m_lasts a_m_cares a_m_bestCares a_m_ones a_m_others a_m_bytes a_m_anew a_m_values : Nat) (above : Int64) (below : Int64) (retired : Int32) (manyLine : Int32) (bytesLong : Int32) (tokenAt : Int32) (tokenLong : Int32) (token : Int32) (value : Int32) (told : Nat → Int32) (cares : Nat → Int32) (v1 : Int32) (sz : Nat) (Post : Int32 → (Nat → Int32) → Prop) (hw : wp_X10_criedBy told cares v1 Post) :
    Met l yX10_criedBy (Cond.code yX10_criedBy cX10_criedBy 8 (some .int) :: wsAll) rm_X10_criedBy (va_Pc [.ref a_m, .int v1] (mxP D (mxTy cI cB cZ cP cC) sz (ww_X10_criedBy a_m a_m_told a_m_kept a_m_isKept a_m_refused a_m_months a_m_heirs a_m_lasts a_m_cares a_m_bestCares a_m_ones a_m_others a_m_bytes a_m_anew a_m_values cI cB cZ cP cC above below retired manyLine bytesLong tokenAt tokenLong token value told cares))) (qq_X10_criedBy D a_m a_m_told a_m_kept a_m_isKept a_m_refused a_m_months a_m_heirs a_m_lasts a_m_cares a_m_bestCares a_m_ones a_m_others a_m_bytes a_m_anew a_m_values cI cB cZ cP cC above below retired manyLine bytesLong tokenAt tokenLong token value told Post (va_A (ww_X10_criedBy a_m a_m_told a_m_kept a_m_isKept a_m_refused a_m_months a_m_heirs a_m_lasts a_m_cares a_m_bestCares a_m_ones a_m_others a_m_bytes a_m_anew a_m_values cI cB cZ cP cC above below retired manyLine bytesLong tokenAt tokenLong token value told cares) sz)) 0 0 (va_A (ww_X10_criedBy a_m a_m_told a_m_kept a_m_isKept a_m_refused a_m_months a_m_heirs a_m_lasts a_m_cares a_m_bestCares a_m_ones a_m_others a_m_bytes a_m_anew a_m_values cI cB cZ cP cC above below retired manyLine bytesLong tokenAt tokenLong token value told cares) sz) := by
  refine mx_of (Qc := qq_X10_criedBy D a_m a_m_told a_m_kept a_m_isKept a_m_refused a_m_months a_m_heirs a_m_lasts a_m_cares a_m_bestCares a_m_ones a_m_others a_m_bytes a_m_anew a_m_values cI cB cZ cP cC above below retired manyLine bytesLong tokenAt tokenLong token value told Post) (by decide) (Nat.le_of_ble_eq_true rfl) ?_
  intro p e s m bl meth c A ls C0 hP hD hS hl
  replace C0 : mxC p s m [.ref a_m, .int v1].toArray meth c cX10_criedBy RX10 (some .int) 8 D (mxTy cI cB cZ cP cC) A := C0
  obtain ⟨hx, hb, hr, hlocks, hml, hown, hts, hK, hA⟩ := id C0
  replace hl : lv_has ls 8 [(0, .ref a_m), (1, .int v1)] := hl
  unfold wp_X10_criedBy at hw
  refine lv_iload_n hx hb dX10_criedBy_0 rfl (lv_at hl 1 rfl) ?_
  refine lv_istore_n (lv' := [(2, .int v1), (0, .ref a_m), (1, .int v1)]) hx hb dX10_criedBy_1 rfl hl (by decide) rfl (fun ls hl => ?_)
  refine lv_iconst (v := 0) hx hb dX10_criedBy_2 (by decide) ?_
  refine lv_istore_n (lv' := [(3, .int 0), (2, .int v1), (0, .ref a_m), (1, .int v1)]) hx hb dX10_criedBy_3 rfl hl (by decide) rfl (fun ls hl => ?_)
  refine lv_iconst (v := 0) hx hb dX10_criedBy_4 (by decide) ?_
  refine lv_istore (lv' := [(4, .int 0), (3, .int 0), (2, .int v1), (0, .ref a_m), (1, .int v1)]) hx hb dX10_criedBy_5 hl (by decide) rfl (fun ls hl => ?_)
  refine lv_aload_n hx hb dX10_criedBy_7 rfl (lv_at hl 3 rfl) ?_
  refine mx_ki (mx_rV (rm := rm_X10_many) (rest := []) (C := RX10) hx hb hml hown hts (c_X10_many l D cI cB cZ cP cC a_m a_m_told a_m_kept a_m_isKept a_m_refused a_m_months a_m_heirs a_m_lasts a_m_cares a_m_bestCares a_m_ones a_m_others a_m_bytes a_m_anew a_m_values above below retired manyLine bytesLong tokenAt tokenLong token value told _ _ hw) q_132 q_133 q_134 q_5 q_135 hd_X10_many ⟨(Nat.le_of_ble_eq_true rfl), (Nat.le_of_ble_eq_true rfl)⟩ rfl rfl hK hP hD [0, 1] rfl rfl 10 0 rfl rfl rfl rfl hl.1 rfl (Nat.le_of_ble_eq_true rfl) dX10_criedBy_8 ⟨(Nat.le_of_ble_eq_true rfl), (Nat.le_of_ble_eq_true rfl)⟩) hP hD hS hA [0, 1] [2] [1, 2, 0] (fun _ => ww_X10_criedBy a_m a_m_told a_m_kept a_m_isKept a_m_refused a_m_months a_m_heirs a_m_lasts a_m_cares a_m_bestCares a_m_ones a_m_others a_m_bytes a_m_anew a_m_values cI cB cZ cP cC above below retired manyLine bytesLong tokenAt tokenLong token value told cares) rfl rfl rfl (by decide) rfl (fun _ => rfl) (fun r_1 u H locs hw hP hD hS => ?_)
  try dsimp only at hw
  replace hP : va_P D vwCl (ww_X10_criedBy a_m a_m_told a_m_kept a_m_isKept a_m_refused a_m_months a_m_heirs a_m_lasts a_m_cares a_m_bestCares a_m_ones a_m_others a_m_bytes a_m_anew a_m_values cI cB cZ cP cC above below retired manyLine bytesLong tokenAt tokenLong token value told cares) H := hP
  replace hD : va_D A (ww_X10_criedBy a_m a_m_told a_m_kept a_m_isKept a_m_refused a_m_months a_m_heirs a_m_lasts a_m_cares a_m_bestCares a_m_ones a_m_others a_m_bytes a_m_anew a_m_values cI cB cZ cP cC above below retired manyLine bytesLong tokenAt tokenLong token value told cares) := hD
  refine lv_iconst (v := 1) hx hb dX10_criedBy_11 (by decide) ?_
  refine lv_isub hx hb dX10_criedBy_12 ?_
  refine lv_topi (fun x_2 ex_2 => ?_)
  replace hw := hw x_2 ex_2
  refine lv_istore (lv' := [(5, .int x_2), (4, .int 0), (3, .int 0), (2, .int v1), (0, .ref a_m), (1, .int v1)]) hx hb dX10_criedBy_13 hl (by decide) rfl (fun ls hl => ?_)
  obtain ⟨n0, hw⟩ := hw
  refine k_X10_criedBy_L15 C0  n0 v1 0 0 x_2 cares _ _ _ hP hD hS (lv_sub hl [4, 3, 2, 1, 0] rfl) hw
/-! PramStateModel.nurses(I)I -/
abbrev ww_X10_nurses (a_m a_m_told a_m_kept a_m_isKept a_m_refused a_m_months a_m_heirs a_m_lasts a_m_cares a_m_bestCares a_m_ones a_m_others a_m_bytes a_m_anew a_m_values : Nat) (cI cB cZ cP cC : ClassId) (above : Int64) (below : Int64) (retired : Int32) (manyLine : Int32) (bytesLong : Int32) (tokenAt : Int32) (tokenLong : Int32) (token : Int32) (value : Int32) (told : Nat → Int32) (refused : Nat → Int32) (cares : Nat → Int32) (bestCares : Nat → Int32) : va_W := [(a_m, .inr (10, [.ref a_m_told, .ref a_m_kept, .ref a_m_isKept, .ref a_m_refused, .long above, .long below, .ref a_m_months, .int retired, .ref a_m_heirs, .ref a_m_lasts, .int manyLine, .ref a_m_cares, .ref a_m_bestCares, .ref a_m_ones, .ref a_m_others, .ref a_m_bytes, .int bytesLong, .int tokenAt, .int tokenLong, .int token, .int value, .ref a_m_anew, .ref a_m_values])), (a_m_told, .inl (cI, 190, .inl told)), (a_m_refused, .inl (cI, 3, .inl refused)), (a_m_cares, .inl (cI, 6, .inl cares)), (a_m_bestCares, .inl (cI, 6, .inl bestCares))]
abbrev qq_X10_nurses (D : va_G) (a_m a_m_told a_m_kept a_m_isKept a_m_refused a_m_months a_m_heirs a_m_lasts a_m_cares a_m_bestCares a_m_ones a_m_others a_m_bytes a_m_anew a_m_values : Nat) (cI cB cZ cP cC : ClassId) (above : Int64) (below : Int64) (retired : Int32) (manyLine : Int32) (bytesLong : Int32) (tokenAt : Int32) (tokenLong : Int32) (token : Int32) (value : Int32) (told : Nat → Int32) (Post : Int32 → (Nat → Int32) → (Nat → Int32) → (Nat → Int32) → Prop) (A : Nat → Prop) : Array Value → State → Outcome → State → Prop := va_Qi (fun (r : Int32) (u : (Nat → Int32) × (Nat → Int32) × (Nat → Int32)) => Post r u.1 u.2.1 u.2.2) (fun (u : (Nat → Int32) × (Nat → Int32) × (Nat → Int32)) t => mxB D (mxTy cI cB cZ cP cC) A (ww_X10_nurses a_m a_m_told a_m_kept a_m_isKept a_m_refused a_m_months a_m_heirs a_m_lasts a_m_cares a_m_bestCares a_m_ones a_m_others a_m_bytes a_m_anew a_m_values cI cB cZ cP cC above below retired manyLine bytesLong tokenAt tokenLong token value told (u.1) (u.2.1) (u.2.2)) t) A
abbrev rm_X10_nurses : Room := { frames := 5, cells := 0, slots := 0, locals := 121 }
theorem hd_X10_nurses : yX10_nurses.cls = RX10 ∧ yX10_nurses.cls ≠ "java/lang/invoke/MethodHandle" ∧ yX10_nurses.cls ≠ "java/lang/invoke/VarHandle" ∧ (parseMethodDescriptor yX10_nurses.desc).map (fun d => d.parameters.length) = some 1 := by decide +kernel
def wp_X10_nurses_L33 (told : Nat → Int32) (Post : Int32 → (Nat → Int32) → (Nat → Int32) → (Nat → Int32) → Prop) (K_53 : Int32 → Int32 → Int32 → (Nat → Int32) → (Nat → Int32) → (Nat → Int32) → Prop) : Nat → Int32 → Int32 → Int32 → Int32 → (Nat → Int32) → (Nat → Int32) → (Nat → Int32) → Prop
  | 0, _, _, _, _, _, _, _ => False
  | n + 1, v1, v2, v3, v4, refused, cares, bestCares => (wp_X10_many told (fun r_4 => ((r_4 ≤ v4 → K_53 v1 v2 v3 refused cares bestCares) ∧ (¬ r_4 ≤ v4 → (∀ x_6 : Int32, x_6 = v2 * 6 → (∀ x_7 : Int32, x_7 = v4 + 1 → wp_X10_nurses_L33 told Post K_53 n v1 x_6 v3 x_7 refused cares bestCares))))))
set_option maxHeartbeats 4000000 in
set_option maxRecDepth 100000 in
theorem k_X10_nurses_L33 {p : Program} {l : Launch} {e : Env} {s : State} {m : MethodId} {ar : Array Value} {bl : List Frame} {meth : Method} {c : Code} {D : va_G} {A : Nat → Prop} {cI cB cZ cP cC : ClassId} {a_m a_m_told a_m_kept a_m_isKept a_m_refused a_m_months a_m_heirs a_m_lasts a_m_cares a_m_bestCares a_m_ones a_m_others a_m_bytes a_m_anew a_m_values : Nat} {above : Int64} {below : Int64} {retired : Int32} {manyLine : Int32} {bytesLong : Int32} {tokenAt : Int32} {tokenLong : Int32} {token : Int32} {value : Int32} {told : Nat → Int32} {Post : Int32 → (Nat → Int32) → (Nat → Int32) → (Nat → Int32) → Prop} {K_53 : Int32 → Int32 → Int32 → (Nat → Int32) → (Nat → Int32) → (Nat → Int32) → Prop} (C0 : mxC p s m ar meth c cX10_nurses RX10 (some .int) 7 D (mxTy cI cB cZ cP cC) A)
    (hK_53 : ∀ (v1 : Int32) (v2 : Int32) (v3 : Int32) (refused : Nat → Int32) (cares : Nat → Int32) (bestCares : Nat → Int32) (H : Heap) (locs : List Loc) (ls : Array Slot), va_P D vwCl (ww_X10_nurses a_m a_m_told a_m_kept a_m_isKept a_m_refused a_m_months a_m_heirs a_m_lasts a_m_cares a_m_bestCares a_m_ones a_m_others a_m_bytes a_m_anew a_m_values cI cB cZ cP cC above below retired manyLine bytesLong tokenAt tokenLong token value told refused cares bestCares) H → va_D A (ww_X10_nurses a_m a_m_told a_m_kept a_m_isKept a_m_refused a_m_months a_m_heirs a_m_lasts a_m_cares a_m_bestCares a_m_ones a_m_others a_m_bytes a_m_anew a_m_values cI cB cZ cP cC above below retired manyLine bytesLong tokenAt tokenLong token value told refused cares bestCares) → va_S A s.heap H locs → lv_has ls 7 [(0, .ref a_m), (1, .int v1), (2, .int v2), (3, .int v3)] → K_53 v1 v2 v3 refused cares bestCares → W p l e rm_X10_nurses s m ar bl meth c H locs 0 0 (MQ bl (qq_X10_nurses D a_m a_m_told a_m_kept a_m_isKept a_m_refused a_m_months a_m_heirs a_m_lasts a_m_cares a_m_bestCares a_m_ones a_m_others a_m_bytes a_m_anew a_m_values cI cB cZ cP cC above below retired manyLine bytesLong tokenAt tokenLong token value told Post A) ar s 0 0 A) (F0 m 53 ls [])) :
    ∀ (n : Nat) (v1 : Int32) (v2 : Int32) (v3 : Int32) (v4 : Int32) (refused : Nat → Int32) (cares : Nat → Int32) (bestCares : Nat → Int32) (H : Heap) (locs : List Loc) (ls : Array Slot), va_P D vwCl (ww_X10_nurses a_m a_m_told a_m_kept a_m_isKept a_m_refused a_m_months a_m_heirs a_m_lasts a_m_cares a_m_bestCares a_m_ones a_m_others a_m_bytes a_m_anew a_m_values cI cB cZ cP cC above below retired manyLine bytesLong tokenAt tokenLong token value told refused cares bestCares) H → va_D A (ww_X10_nurses a_m a_m_told a_m_kept a_m_isKept a_m_refused a_m_months a_m_heirs a_m_lasts a_m_cares a_m_bestCares a_m_ones a_m_others a_m_bytes a_m_anew a_m_values cI cB cZ cP cC above below retired manyLine bytesLong tokenAt tokenLong token value told refused cares bestCares) → va_S A s.heap H locs → lv_has ls 7 [(0, .ref a_m), (1, .int v1), (2, .int v2), (3, .int v3), (4, .int v4)] → wp_X10_nurses_L33 told Post K_53 n v1 v2 v3 v4 refused cares bestCares → W p l e rm_X10_nurses s m ar bl meth c H locs 0 0 (MQ bl (qq_X10_nurses D a_m a_m_told a_m_kept a_m_isKept a_m_refused a_m_months a_m_heirs a_m_lasts a_m_cares a_m_bestCares a_m_ones a_m_others a_m_bytes a_m_anew a_m_values cI cB cZ cP cC above below retired manyLine bytesLong tokenAt tokenLong token value told Post A) ar s 0 0 A) (F0 m 33 ls []) := by
  obtain ⟨hx, hb, hr, hlocks, hml, hown, hts, hK, hA⟩ := id C0
  intro n
  induction n with
  | zero =>
    intro v1 v2 v3 v4 refused cares bestCares H locs ls hP hD hS hl hw
    exact absurd hw (fun h => h)
  | succ n ih =>
    intro v1 v2 v3 v4 refused cares bestCares H locs ls hP hD hS hl hw
    refine lv_iload hx hb dX10_nurses_33 (lv_at hl 4 rfl) ?_
    refine lv_aload_n hx hb dX10_nurses_35 rfl (lv_at hl 0 rfl) ?_
    refine mx_ki (mx_rV (rm := rm_X10_many) (rest := [.int v4]) (C := RX10) hx hb hml hown hts (c_X10_many l D cI cB cZ cP cC a_m a_m_told a_m_kept a_m_isKept a_m_refused a_m_months a_m_heirs a_m_lasts a_m_cares a_m_bestCares a_m_ones a_m_others a_m_bytes a_m_anew a_m_values above below retired manyLine bytesLong tokenAt tokenLong token value told _ _ hw) q_132 q_133 q_134 q_5 q_135 hd_X10_many ⟨(Nat.le_of_ble_eq_true rfl), (Nat.le_of_ble_eq_true rfl)⟩ rfl rfl hK hP hD [0, 1] rfl rfl 10 0 rfl rfl rfl rfl hl.1 rfl (Nat.le_of_ble_eq_true rfl) dX10_nurses_36 ⟨(Nat.le_of_ble_eq_true rfl), (Nat.le_of_ble_eq_true rfl)⟩) hP hD hS hA [0, 1] [2, 3, 4] [3, 4, 0, 1, 2] (fun _ => ww_X10_nurses a_m a_m_told a_m_kept a_m_isKept a_m_refused a_m_months a_m_heirs a_m_lasts a_m_cares a_m_bestCares a_m_ones a_m_others a_m_bytes a_m_anew a_m_values cI cB cZ cP cC above below retired manyLine bytesLong tokenAt tokenLong token value told refused cares bestCares) rfl rfl rfl (by decide) rfl (fun _ => rfl) (fun r_4 u H locs hw hP hD hS => ?_)
    try dsimp only at hw
    replace hP : va_P D vwCl (ww_X10_nurses a_m a_m_told a_m_kept a_m_isKept a_m_refused a_m_months a_m_heirs a_m_lasts a_m_cares a_m_bestCares a_m_ones a_m_others a_m_bytes a_m_anew a_m_values cI cB cZ cP cC above below retired manyLine bytesLong tokenAt tokenLong token value told refused cares bestCares) H := hP
    replace hD : va_D A (ww_X10_nurses a_m a_m_told a_m_kept a_m_isKept a_m_refused a_m_months a_m_heirs a_m_lasts a_m_cares a_m_bestCares a_m_ones a_m_others a_m_bytes a_m_anew a_m_values cI cB cZ cP cC above below retired manyLine bytesLong tokenAt tokenLong token value told refused cares bestCares) := hD
    refine lv_icmp_ge (tgt := 53) hx hb dX10_nurses_39 (by decide) (fun c_5 => ?_) (fun c_5 => ?_)
    · replace hw := hw.1 c_5
      exact hK_53 v1 v2 v3 refused cares bestCares _ _ _ hP hD hS (lv_sub hl [0, 1, 2, 3] rfl) hw
    · replace hw := hw.2 c_5
      refine lv_iload_n hx hb dX10_nurses_42 rfl (lv_at hl 2 rfl) ?_
      refine lv_bipush (v := 6) hx hb dX10_nurses_43 (by decide) ?_
      refine lv_imul hx hb dX10_nurses_45 ?_
      refine lv_topi (fun x_6 ex_6 => ?_)
      replace hw := hw x_6 ex_6
      refine lv_istore_n (lv' := [(2, .int x_6), (0, .ref a_m), (1, .int v1), (3, .int v3), (4, .int v4)]) hx hb dX10_nurses_46 rfl hl (by decide) rfl (fun ls hl => ?_)
      obtain ⟨x_7, ex_7⟩ : ∃ y : Int32, y = v4 + 1 := ⟨_, rfl⟩
      replace hw := hw x_7 ex_7
      refine lv_iinc (v := x_7) (lv' := [(4, .int x_7), (2, .int x_6), (0, .ref a_m), (1, .int v1), (3, .int v3)]) hx hb dX10_nurses_47 hl (k := 4) rfl (by rw [ex_7]; rfl) (by decide) rfl (fun ls hl => ?_)
      refine lv_goto (tgt := 33) hx hb dX10_nurses_50 (by decide) ?_
      exact ih v1 x_6 v3 x_7 refused cares bestCares _ _ _ hP hD hS (lv_sub hl [2, 3, 1, 4, 0] rfl) hw
def wp_X10_nurses_L73 (told : Nat → Int32) (Post : Int32 → (Nat → Int32) → (Nat → Int32) → (Nat → Int32) → Prop) (K_108 : Int32 → Int32 → Int32 → Int32 → Int32 → (Nat → Int32) → (Nat → Int32) → (Nat → Int32) → Prop) : Nat → Int32 → Int32 → Int32 → Int32 → Int32 → Int32 → (Nat → Int32) → (Nat → Int32) → (Nat → Int32) → Prop
  | 0, _, _, _, _, _, _, _, _, _ => False
  | n + 1, v1, v2, v3, v4, v5, v6, refused, cares, bestCares => (wp_X10_many told (fun r_17 => ((r_17 ≤ v6 → K_108 v1 v2 v3 v4 v5 refused cares bestCares) ∧ (¬ r_17 ≤ v6 → ((v3 ≤ v5 → K_108 v1 v2 v3 v4 v5 refused cares bestCares) ∧ (¬ v3 ≤ v5 → (vp_in v6 6 ∧ (∀ x_21 : Int32, x_21 = cares v6.toNatClampNeg → (∀ f_22 : Nat → Int32, f_22 = upd bestCares v6.toNatClampNeg x_21 → (∀ x_23 : Int32, x_23 = v6 + 1 → wp_X10_nurses_L73 told Post K_108 n v1 v2 v3 v4 v5 x_23 refused cares f_22))))))))))
set_option maxHeartbeats 4000000 in
set_option maxRecDepth 100000 in
theorem k_X10_nurses_L73 {p : Program} {l : Launch} {e : Env} {s : State} {m : MethodId} {ar : Array Value} {bl : List Frame} {meth : Method} {c : Code} {D : va_G} {A : Nat → Prop} {cI cB cZ cP cC : ClassId} {a_m a_m_told a_m_kept a_m_isKept a_m_refused a_m_months a_m_heirs a_m_lasts a_m_cares a_m_bestCares a_m_ones a_m_others a_m_bytes a_m_anew a_m_values : Nat} {above : Int64} {below : Int64} {retired : Int32} {manyLine : Int32} {bytesLong : Int32} {tokenAt : Int32} {tokenLong : Int32} {token : Int32} {value : Int32} {told : Nat → Int32} {Post : Int32 → (Nat → Int32) → (Nat → Int32) → (Nat → Int32) → Prop} {K_108 : Int32 → Int32 → Int32 → Int32 → Int32 → (Nat → Int32) → (Nat → Int32) → (Nat → Int32) → Prop} (C0 : mxC p s m ar meth c cX10_nurses RX10 (some .int) 7 D (mxTy cI cB cZ cP cC) A)
    (hK_108 : ∀ (v1 : Int32) (v2 : Int32) (v3 : Int32) (v4 : Int32) (v5 : Int32) (refused : Nat → Int32) (cares : Nat → Int32) (bestCares : Nat → Int32) (H : Heap) (locs : List Loc) (ls : Array Slot), va_P D vwCl (ww_X10_nurses a_m a_m_told a_m_kept a_m_isKept a_m_refused a_m_months a_m_heirs a_m_lasts a_m_cares a_m_bestCares a_m_ones a_m_others a_m_bytes a_m_anew a_m_values cI cB cZ cP cC above below retired manyLine bytesLong tokenAt tokenLong token value told refused cares bestCares) H → va_D A (ww_X10_nurses a_m a_m_told a_m_kept a_m_isKept a_m_refused a_m_months a_m_heirs a_m_lasts a_m_cares a_m_bestCares a_m_ones a_m_others a_m_bytes a_m_anew a_m_values cI cB cZ cP cC above below retired manyLine bytesLong tokenAt tokenLong token value told refused cares bestCares) → va_S A s.heap H locs → lv_has ls 7 [(0, .ref a_m), (1, .int v1), (2, .int v2), (3, .int v3), (4, .int v4), (5, .int v5)] → K_108 v1 v2 v3 v4 v5 refused cares bestCares → W p l e rm_X10_nurses s m ar bl meth c H locs 0 0 (MQ bl (qq_X10_nurses D a_m a_m_told a_m_kept a_m_isKept a_m_refused a_m_months a_m_heirs a_m_lasts a_m_cares a_m_bestCares a_m_ones a_m_others a_m_bytes a_m_anew a_m_values cI cB cZ cP cC above below retired manyLine bytesLong tokenAt tokenLong token value told Post A) ar s 0 0 A) (F0 m 108 ls [])) :
    ∀ (n : Nat) (v1 : Int32) (v2 : Int32) (v3 : Int32) (v4 : Int32) (v5 : Int32) (v6 : Int32) (refused : Nat → Int32) (cares : Nat → Int32) (bestCares : Nat → Int32) (H : Heap) (locs : List Loc) (ls : Array Slot), va_P D vwCl (ww_X10_nurses a_m a_m_told a_m_kept a_m_isKept a_m_refused a_m_months a_m_heirs a_m_lasts a_m_cares a_m_bestCares a_m_ones a_m_others a_m_bytes a_m_anew a_m_values cI cB cZ cP cC above below retired manyLine bytesLong tokenAt tokenLong token value told refused cares bestCares) H → va_D A (ww_X10_nurses a_m a_m_told a_m_kept a_m_isKept a_m_refused a_m_months a_m_heirs a_m_lasts a_m_cares a_m_bestCares a_m_ones a_m_others a_m_bytes a_m_anew a_m_values cI cB cZ cP cC above below retired manyLine bytesLong tokenAt tokenLong token value told refused cares bestCares) → va_S A s.heap H locs → lv_has ls 7 [(0, .ref a_m), (1, .int v1), (2, .int v2), (3, .int v3), (4, .int v4), (5, .int v5), (6, .int v6)] → wp_X10_nurses_L73 told Post K_108 n v1 v2 v3 v4 v5 v6 refused cares bestCares → W p l e rm_X10_nurses s m ar bl meth c H locs 0 0 (MQ bl (qq_X10_nurses D a_m a_m_told a_m_kept a_m_isKept a_m_refused a_m_months a_m_heirs a_m_lasts a_m_cares a_m_bestCares a_m_ones a_m_others a_m_bytes a_m_anew a_m_values cI cB cZ cP cC above below retired manyLine bytesLong tokenAt tokenLong token value told Post A) ar s 0 0 A) (F0 m 73 ls []) := by
  obtain ⟨hx, hb, hr, hlocks, hml, hown, hts, hK, hA⟩ := id C0
  intro n
  induction n with
  | zero =>
    intro v1 v2 v3 v4 v5 v6 refused cares bestCares H locs ls hP hD hS hl hw
    exact absurd hw (fun h => h)
  | succ n ih =>
    intro v1 v2 v3 v4 v5 v6 refused cares bestCares H locs ls hP hD hS hl hw
    refine lv_iload hx hb dX10_nurses_73 (lv_at hl 6 rfl) ?_
    refine lv_aload_n hx hb dX10_nurses_75 rfl (lv_at hl 0 rfl) ?_
    refine mx_ki (mx_rV (rm := rm_X10_many) (rest := [.int v6]) (C := RX10) hx hb hml hown hts (c_X10_many l D cI cB cZ cP cC a_m a_m_told a_m_kept a_m_isKept a_m_refused a_m_months a_m_heirs a_m_lasts a_m_cares a_m_bestCares a_m_ones a_m_others a_m_bytes a_m_anew a_m_values above below retired manyLine bytesLong tokenAt tokenLong token value told _ _ hw) q_132 q_133 q_134 q_5 q_135 hd_X10_many ⟨(Nat.le_of_ble_eq_true rfl), (Nat.le_of_ble_eq_true rfl)⟩ rfl rfl hK hP hD [0, 1] rfl rfl 10 0 rfl rfl rfl rfl hl.1 rfl (Nat.le_of_ble_eq_true rfl) dX10_nurses_76 ⟨(Nat.le_of_ble_eq_true rfl), (Nat.le_of_ble_eq_true rfl)⟩) hP hD hS hA [0, 1] [2, 3, 4] [3, 4, 0, 1, 2] (fun _ => ww_X10_nurses a_m a_m_told a_m_kept a_m_isKept a_m_refused a_m_months a_m_heirs a_m_lasts a_m_cares a_m_bestCares a_m_ones a_m_others a_m_bytes a_m_anew a_m_values cI cB cZ cP cC above below retired manyLine bytesLong tokenAt tokenLong token value told refused cares bestCares) rfl rfl rfl (by decide) rfl (fun _ => rfl) (fun r_17 u H locs hw hP hD hS => ?_)
    try dsimp only at hw
    replace hP : va_P D vwCl (ww_X10_nurses a_m a_m_told a_m_kept a_m_isKept a_m_refused a_m_months a_m_heirs a_m_lasts a_m_cares a_m_bestCares a_m_ones a_m_others a_m_bytes a_m_anew a_m_values cI cB cZ cP cC above below retired manyLine bytesLong tokenAt tokenLong token value told refused cares bestCares) H := hP
    replace hD : va_D A (ww_X10_nurses a_m a_m_told a_m_kept a_m_isKept a_m_refused a_m_months a_m_heirs a_m_lasts a_m_cares a_m_bestCares a_m_ones a_m_others a_m_bytes a_m_anew a_m_values cI cB cZ cP cC above below retired manyLine bytesLong tokenAt tokenLong token value told refused cares bestCares) := hD
    refine lv_icmp_ge (tgt := 108) hx hb dX10_nurses_79 (by decide) (fun c_18 => ?_) (fun c_18 => ?_)
    · replace hw := hw.1 c_18
      exact hK_108 v1 v2 v3 v4 v5 refused cares bestCares _ _ _ hP hD hS (lv_sub hl [0, 1, 2, 3, 4, 5] rfl) hw
    · replace hw := hw.2 c_18
      refine lv_iload hx hb dX10_nurses_82 (lv_at hl 5 rfl) ?_
      refine lv_iload_n hx hb dX10_nurses_84 rfl (lv_at hl 3 rfl) ?_
      refine lv_icmp_ge (tgt := 108) hx hb dX10_nurses_85 (by decide) (fun c_19 => ?_) (fun c_19 => ?_)
      · replace hw := hw.1 c_19
        exact hK_108 v1 v2 v3 v4 v5 refused cares bestCares _ _ _ hP hD hS (lv_sub hl [0, 1, 2, 3, 4, 5] rfl) hw
      · replace hw := hw.2 c_19
        refine lv_aload_n hx hb dX10_nurses_88 rfl (lv_at hl 0 rfl) ?_
        refine mx_get (ci := 10) (C := RX10) (T := TX10) (N := 23) hx hb hown in_wsX100 hts hK hP 0 rfl rfl 12 (by decide) q_100 rfl (v := .ref a_m_bestCares) rfl dX10_nurses_89 ?_
        refine lv_iload hx hb dX10_nurses_92 (lv_at hl 6 rfl) ?_
        refine lv_aload_n hx hb dX10_nurses_94 rfl (lv_at hl 0 rfl) ?_
        refine mx_get (ci := 10) (C := RX10) (T := TX10) (N := 23) hx hb hown in_wsX100 hts hK hP 0 rfl rfl 11 (by decide) q_99 rfl (v := .ref a_m_cares) rfl dX10_nurses_95 ?_
        refine lv_iload hx hb dX10_nurses_98 (lv_at hl 6 rfl) ?_
        obtain ⟨h_20, hw⟩ := hw
        refine mx_iald hx hb hK hP 3 0 rfl rfl h_20 (cares v6.toNatClampNeg) rfl dX10_nurses_100 ?_
        refine lv_topi (fun x_21 ex_21 => ?_)
        replace hw := hw x_21 ex_21
        obtain ⟨f_22, ef_22⟩ : ∃ y : Nat → Int32, y = upd bestCares v6.toNatClampNeg x_21 := ⟨_, rfl⟩
        replace hw := hw f_22 ef_22
        refine mx_iast hx hb hK hP hD hS 4 0 rfl rfl h_20 f_22 ef_22 (ww_X10_nurses a_m a_m_told a_m_kept a_m_isKept a_m_refused a_m_months a_m_heirs a_m_lasts a_m_cares a_m_bestCares a_m_ones a_m_others a_m_bytes a_m_anew a_m_values cI cB cZ cP cC above below retired manyLine bytesLong tokenAt tokenLong token value told refused cares f_22) rfl dX10_nurses_101 (fun H locs hP hD hS => ?_)
        obtain ⟨x_23, ex_23⟩ : ∃ y : Int32, y = v6 + 1 := ⟨_, rfl⟩
        replace hw := hw x_23 ex_23
        refine lv_iinc (v := x_23) (lv' := [(6, .int x_23), (0, .ref a_m), (1, .int v1), (2, .int v2), (3, .int v3), (4, .int v4), (5, .int v5)]) hx hb dX10_nurses_102 hl (k := 6) rfl (by rw [ex_23]; rfl) (by decide) rfl (fun ls hl => ?_)
        refine lv_goto (tgt := 73) hx hb dX10_nurses_105 (by decide) ?_
        exact ih v1 v2 v3 v4 v5 x_23 refused cares f_22 _ _ _ hP hD hS (lv_sub hl [1, 2, 3, 4, 5, 6, 0] rfl) hw
def wp_X10_nurses_J120 (told : Nat → Int32) (Post : Int32 → (Nat → Int32) → (Nat → Int32) → (Nat → Int32) → Prop) (K_56 : Int32 → Int32 → Int32 → Int32 → (Nat → Int32) → (Nat → Int32) → (Nat → Int32) → Prop) (v1 : Int32) (v2 : Int32) (v4 : Int32) (s0 : Int32) (refused : Nat → Int32) (cares : Nat → Int32) (bestCares : Nat → Int32) : Prop :=
  (∀ x_33 : Int32, x_33 = v4 + 1 → K_56 v1 v2 s0 x_33 refused cares bestCares)
set_option maxHeartbeats 4000000 in
set_option maxRecDepth 100000 in
theorem k_X10_nurses_J120 {p : Program} {l : Launch} {e : Env} {s : State} {m : MethodId} {ar : Array Value} {bl : List Frame} {meth : Method} {c : Code} {D : va_G} {A : Nat → Prop} {cI cB cZ cP cC : ClassId} {a_m a_m_told a_m_kept a_m_isKept a_m_refused a_m_months a_m_heirs a_m_lasts a_m_cares a_m_bestCares a_m_ones a_m_others a_m_bytes a_m_anew a_m_values : Nat} {above : Int64} {below : Int64} {retired : Int32} {manyLine : Int32} {bytesLong : Int32} {tokenAt : Int32} {tokenLong : Int32} {token : Int32} {value : Int32} {told : Nat → Int32} {Post : Int32 → (Nat → Int32) → (Nat → Int32) → (Nat → Int32) → Prop} {K_56 : Int32 → Int32 → Int32 → Int32 → (Nat → Int32) → (Nat → Int32) → (Nat → Int32) → Prop} (C0 : mxC p s m ar meth c cX10_nurses RX10 (some .int) 7 D (mxTy cI cB cZ cP cC) A)
    (hK_56 : ∀ (v1 : Int32) (v2 : Int32) (v3 : Int32) (v4 : Int32) (refused : Nat → Int32) (cares : Nat → Int32) (bestCares : Nat → Int32) (H : Heap) (locs : List Loc) (ls : Array Slot), va_P D vwCl (ww_X10_nurses a_m a_m_told a_m_kept a_m_isKept a_m_refused a_m_months a_m_heirs a_m_lasts a_m_cares a_m_bestCares a_m_ones a_m_others a_m_bytes a_m_anew a_m_values cI cB cZ cP cC above below retired manyLine bytesLong tokenAt tokenLong token value told refused cares bestCares) H → va_D A (ww_X10_nurses a_m a_m_told a_m_kept a_m_isKept a_m_refused a_m_months a_m_heirs a_m_lasts a_m_cares a_m_bestCares a_m_ones a_m_others a_m_bytes a_m_anew a_m_values cI cB cZ cP cC above below retired manyLine bytesLong tokenAt tokenLong token value told refused cares bestCares) → va_S A s.heap H locs → lv_has ls 7 [(0, .ref a_m), (1, .int v1), (2, .int v2), (3, .int v3), (4, .int v4)] → K_56 v1 v2 v3 v4 refused cares bestCares → W p l e rm_X10_nurses s m ar bl meth c H locs 0 0 (MQ bl (qq_X10_nurses D a_m a_m_told a_m_kept a_m_isKept a_m_refused a_m_months a_m_heirs a_m_lasts a_m_cares a_m_bestCares a_m_ones a_m_others a_m_bytes a_m_anew a_m_values cI cB cZ cP cC above below retired manyLine bytesLong tokenAt tokenLong token value told Post A) ar s 0 0 A) (F0 m 56 ls [])) :
    ∀ (v1 : Int32) (v2 : Int32) (v4 : Int32) (s0 : Int32) (refused : Nat → Int32) (cares : Nat → Int32) (bestCares : Nat → Int32) (H : Heap) (locs : List Loc) (ls : Array Slot), va_P D vwCl (ww_X10_nurses a_m a_m_told a_m_kept a_m_isKept a_m_refused a_m_months a_m_heirs a_m_lasts a_m_cares a_m_bestCares a_m_ones a_m_others a_m_bytes a_m_anew a_m_values cI cB cZ cP cC above below retired manyLine bytesLong tokenAt tokenLong token value told refused cares bestCares) H → va_D A (ww_X10_nurses a_m a_m_told a_m_kept a_m_isKept a_m_refused a_m_months a_m_heirs a_m_lasts a_m_cares a_m_bestCares a_m_ones a_m_others a_m_bytes a_m_anew a_m_values cI cB cZ cP cC above below retired manyLine bytesLong tokenAt tokenLong token value told refused cares bestCares) → va_S A s.heap H locs → lv_has ls 7 [(0, .ref a_m), (1, .int v1), (2, .int v2), (4, .int v4)] → wp_X10_nurses_J120 told Post K_56 v1 v2 v4 s0 refused cares bestCares → W p l e rm_X10_nurses s m ar bl meth c H locs 0 0 (MQ bl (qq_X10_nurses D a_m a_m_told a_m_kept a_m_isKept a_m_refused a_m_months a_m_heirs a_m_lasts a_m_cares a_m_bestCares a_m_ones a_m_others a_m_bytes a_m_anew a_m_values cI cB cZ cP cC above below retired manyLine bytesLong tokenAt tokenLong token value told Post A) ar s 0 0 A) (F0 m 120 ls [.int s0]) := by
  obtain ⟨hx, hb, hr, hlocks, hml, hown, hts, hK, hA⟩ := id C0
  intro v1 v2 v4 s0 refused cares bestCares H locs ls hP hD hS hl hw
  refine lv_istore_n (lv' := [(3, .int s0), (0, .ref a_m), (1, .int v1), (2, .int v2), (4, .int v4)]) hx hb dX10_nurses_120 rfl hl (by decide) rfl (fun ls hl => ?_)
  obtain ⟨x_33, ex_33⟩ : ∃ y : Int32, y = v4 + 1 := ⟨_, rfl⟩
  replace hw := hw x_33 ex_33
  refine lv_iinc (v := x_33) (lv' := [(4, .int x_33), (3, .int s0), (0, .ref a_m), (1, .int v1), (2, .int v2)]) hx hb dX10_nurses_121 hl (k := 4) rfl (by rw [ex_33]; rfl) (by decide) rfl (fun ls hl => ?_)
  refine lv_goto (tgt := 56) hx hb dX10_nurses_124 (by decide) ?_
  exact hK_56 v1 v2 s0 x_33 refused cares bestCares _ _ _ hP hD hS (lv_sub hl [2, 3, 4, 1, 0] rfl) hw
def wp_X10_nurses_J108 (told : Nat → Int32) (Post : Int32 → (Nat → Int32) → (Nat → Int32) → (Nat → Int32) → Prop) (K_56 : Int32 → Int32 → Int32 → Int32 → (Nat → Int32) → (Nat → Int32) → (Nat → Int32) → Prop) (v1 : Int32) (v2 : Int32) (v3 : Int32) (v4 : Int32) (v5 : Int32) (refused : Nat → Int32) (cares : Nat → Int32) (bestCares : Nat → Int32) : Prop :=
  ((v3 ≤ v5 → (wp_X10_nurses_J120 told Post K_56 v1 v2 v4 v3 refused cares bestCares)) ∧ (¬ v3 ≤ v5 → (wp_X10_nurses_J120 told Post K_56 v1 v2 v4 v5 refused cares bestCares)))
set_option maxHeartbeats 4000000 in
set_option maxRecDepth 100000 in
theorem k_X10_nurses_J108 {p : Program} {l : Launch} {e : Env} {s : State} {m : MethodId} {ar : Array Value} {bl : List Frame} {meth : Method} {c : Code} {D : va_G} {A : Nat → Prop} {cI cB cZ cP cC : ClassId} {a_m a_m_told a_m_kept a_m_isKept a_m_refused a_m_months a_m_heirs a_m_lasts a_m_cares a_m_bestCares a_m_ones a_m_others a_m_bytes a_m_anew a_m_values : Nat} {above : Int64} {below : Int64} {retired : Int32} {manyLine : Int32} {bytesLong : Int32} {tokenAt : Int32} {tokenLong : Int32} {token : Int32} {value : Int32} {told : Nat → Int32} {Post : Int32 → (Nat → Int32) → (Nat → Int32) → (Nat → Int32) → Prop} {K_56 : Int32 → Int32 → Int32 → Int32 → (Nat → Int32) → (Nat → Int32) → (Nat → Int32) → Prop} (C0 : mxC p s m ar meth c cX10_nurses RX10 (some .int) 7 D (mxTy cI cB cZ cP cC) A)
    (hK_56 : ∀ (v1 : Int32) (v2 : Int32) (v3 : Int32) (v4 : Int32) (refused : Nat → Int32) (cares : Nat → Int32) (bestCares : Nat → Int32) (H : Heap) (locs : List Loc) (ls : Array Slot), va_P D vwCl (ww_X10_nurses a_m a_m_told a_m_kept a_m_isKept a_m_refused a_m_months a_m_heirs a_m_lasts a_m_cares a_m_bestCares a_m_ones a_m_others a_m_bytes a_m_anew a_m_values cI cB cZ cP cC above below retired manyLine bytesLong tokenAt tokenLong token value told refused cares bestCares) H → va_D A (ww_X10_nurses a_m a_m_told a_m_kept a_m_isKept a_m_refused a_m_months a_m_heirs a_m_lasts a_m_cares a_m_bestCares a_m_ones a_m_others a_m_bytes a_m_anew a_m_values cI cB cZ cP cC above below retired manyLine bytesLong tokenAt tokenLong token value told refused cares bestCares) → va_S A s.heap H locs → lv_has ls 7 [(0, .ref a_m), (1, .int v1), (2, .int v2), (3, .int v3), (4, .int v4)] → K_56 v1 v2 v3 v4 refused cares bestCares → W p l e rm_X10_nurses s m ar bl meth c H locs 0 0 (MQ bl (qq_X10_nurses D a_m a_m_told a_m_kept a_m_isKept a_m_refused a_m_months a_m_heirs a_m_lasts a_m_cares a_m_bestCares a_m_ones a_m_others a_m_bytes a_m_anew a_m_values cI cB cZ cP cC above below retired manyLine bytesLong tokenAt tokenLong token value told Post A) ar s 0 0 A) (F0 m 56 ls [])) :
    ∀ (v1 : Int32) (v2 : Int32) (v3 : Int32) (v4 : Int32) (v5 : Int32) (refused : Nat → Int32) (cares : Nat → Int32) (bestCares : Nat → Int32) (H : Heap) (locs : List Loc) (ls : Array Slot), va_P D vwCl (ww_X10_nurses a_m a_m_told a_m_kept a_m_isKept a_m_refused a_m_months a_m_heirs a_m_lasts a_m_cares a_m_bestCares a_m_ones a_m_others a_m_bytes a_m_anew a_m_values cI cB cZ cP cC above below retired manyLine bytesLong tokenAt tokenLong token value told refused cares bestCares) H → va_D A (ww_X10_nurses a_m a_m_told a_m_kept a_m_isKept a_m_refused a_m_months a_m_heirs a_m_lasts a_m_cares a_m_bestCares a_m_ones a_m_others a_m_bytes a_m_anew a_m_values cI cB cZ cP cC above below retired manyLine bytesLong tokenAt tokenLong token value told refused cares bestCares) → va_S A s.heap H locs → lv_has ls 7 [(0, .ref a_m), (1, .int v1), (2, .int v2), (3, .int v3), (4, .int v4), (5, .int v5)] → wp_X10_nurses_J108 told Post K_56 v1 v2 v3 v4 v5 refused cares bestCares → W p l e rm_X10_nurses s m ar bl meth c H locs 0 0 (MQ bl (qq_X10_nurses D a_m a_m_told a_m_kept a_m_isKept a_m_refused a_m_months a_m_heirs a_m_lasts a_m_cares a_m_bestCares a_m_ones a_m_others a_m_bytes a_m_anew a_m_values cI cB cZ cP cC above below retired manyLine bytesLong tokenAt tokenLong token value told Post A) ar s 0 0 A) (F0 m 108 ls []) := by
  obtain ⟨hx, hb, hr, hlocks, hml, hown, hts, hK, hA⟩ := id C0
  intro v1 v2 v3 v4 v5 refused cares bestCares H locs ls hP hD hS hl hw
  refine lv_iload hx hb dX10_nurses_108 (lv_at hl 5 rfl) ?_
  refine lv_iload_n hx hb dX10_nurses_110 rfl (lv_at hl 3 rfl) ?_
  refine lv_icmp_ge (tgt := 119) hx hb dX10_nurses_111 (by decide) (fun c_32 => ?_) (fun c_32 => ?_)
  · replace hw := hw.1 c_32
    refine lv_iload_n hx hb dX10_nurses_119 rfl (lv_at hl 3 rfl) ?_
    refine k_X10_nurses_J120 C0 ?_ v1 v2 v4 v3 refused cares bestCares _ _ _ hP hD hS (lv_sub hl [0, 1, 2, 4] rfl) hw
    intro v1_34 v2_35 v3_36 v4_37 refused_38 cares_39 bestCares_40 H locs ls hP hD hS hl hw
    exact hK_56 v1_34 v2_35 v3_36 v4_37 refused_38 cares_39 bestCares_40 _ _ _ hP hD hS (lv_sub hl [0, 1, 2, 3, 4] rfl) hw
  · replace hw := hw.2 c_32
    refine lv_iload hx hb dX10_nurses_114 (lv_at hl 5 rfl) ?_
    refine lv_goto (tgt := 120) hx hb dX10_nurses_116 (by decide) ?_
    refine k_X10_nurses_J120 C0 ?_ v1 v2 v4 v5 refused cares bestCares _ _ _ hP hD hS (lv_sub hl [0, 1, 2, 4] rfl) hw
    intro v1_41 v2_42 v3_43 v4_44 refused_45 cares_46 bestCares_47 H locs ls hP hD hS hl hw
    exact hK_56 v1_41 v2_42 v3_43 v4_44 refused_45 cares_46 bestCares_47 _ _ _ hP hD hS (lv_sub hl [0, 1, 2, 3, 4] rfl) hw
def wp_X10_nurses_L56 (told : Nat → Int32) (Post : Int32 → (Nat → Int32) → (Nat → Int32) → (Nat → Int32) → Prop) (K_127 : Int32 → Int32 → (Nat → Int32) → (Nat → Int32) → (Nat → Int32) → Prop) : Nat → Int32 → Int32 → Int32 → Int32 → (Nat → Int32) → (Nat → Int32) → (Nat → Int32) → Prop
  | 0, _, _, _, _, _, _, _ => False
  | n + 1, v1, v2, v3, v4, refused, cares, bestCares => ((v2 ≤ v4 → K_127 v1 v3 refused cares bestCares) ∧ (¬ v2 ≤ v4 → (wp_X10_criedBy told cares v4 (fun r_15 cares_16 => (∃ k_55 : Nat, wp_X10_nurses_L73 told Post (fun (v1_24 : Int32) (v2_25 : Int32) (v3_26 : Int32) (v4_27 : Int32) (v5_28 : Int32) (refused_29 : Nat → Int32) (cares_30 : Nat → Int32) (bestCares_31 : Nat → Int32) => (wp_X10_nurses_J108 told Post (fun (v1_48 : Int32) (v2_49 : Int32) (v3_50 : Int32) (v4_51 : Int32) (refused_52 : Nat → Int32) (cares_53 : Nat → Int32) (bestCares_54 : Nat → Int32) => wp_X10_nurses_L56 told Post K_127 n v1_48 v2_49 v3_50 v4_51 refused_52 cares_53 bestCares_54) v1_24 v2_25 v3_26 v4_27 v5_28 refused_29 cares_30 bestCares_31)) k_55 v1 v2 v3 v4 r_15 0 refused cares_16 bestCares)))))
set_option maxHeartbeats 4000000 in
set_option maxRecDepth 100000 in
theorem k_X10_nurses_L56 {p : Program} {l : Launch} {e : Env} {s : State} {m : MethodId} {ar : Array Value} {bl : List Frame} {meth : Method} {c : Code} {D : va_G} {A : Nat → Prop} {cI cB cZ cP cC : ClassId} {a_m a_m_told a_m_kept a_m_isKept a_m_refused a_m_months a_m_heirs a_m_lasts a_m_cares a_m_bestCares a_m_ones a_m_others a_m_bytes a_m_anew a_m_values : Nat} {above : Int64} {below : Int64} {retired : Int32} {manyLine : Int32} {bytesLong : Int32} {tokenAt : Int32} {tokenLong : Int32} {token : Int32} {value : Int32} {told : Nat → Int32} {Post : Int32 → (Nat → Int32) → (Nat → Int32) → (Nat → Int32) → Prop} {K_127 : Int32 → Int32 → (Nat → Int32) → (Nat → Int32) → (Nat → Int32) → Prop} (C0 : mxC p s m ar meth c cX10_nurses RX10 (some .int) 7 D (mxTy cI cB cZ cP cC) A)
    (hK_127 : ∀ (v1 : Int32) (v3 : Int32) (refused : Nat → Int32) (cares : Nat → Int32) (bestCares : Nat → Int32) (H : Heap) (locs : List Loc) (ls : Array Slot), va_P D vwCl (ww_X10_nurses a_m a_m_told a_m_kept a_m_isKept a_m_refused a_m_months a_m_heirs a_m_lasts a_m_cares a_m_bestCares a_m_ones a_m_others a_m_bytes a_m_anew a_m_values cI cB cZ cP cC above below retired manyLine bytesLong tokenAt tokenLong token value told refused cares bestCares) H → va_D A (ww_X10_nurses a_m a_m_told a_m_kept a_m_isKept a_m_refused a_m_months a_m_heirs a_m_lasts a_m_cares a_m_bestCares a_m_ones a_m_others a_m_bytes a_m_anew a_m_values cI cB cZ cP cC above below retired manyLine bytesLong tokenAt tokenLong token value told refused cares bestCares) → va_S A s.heap H locs → lv_has ls 7 [(0, .ref a_m), (1, .int v1), (3, .int v3)] → K_127 v1 v3 refused cares bestCares → W p l e rm_X10_nurses s m ar bl meth c H locs 0 0 (MQ bl (qq_X10_nurses D a_m a_m_told a_m_kept a_m_isKept a_m_refused a_m_months a_m_heirs a_m_lasts a_m_cares a_m_bestCares a_m_ones a_m_others a_m_bytes a_m_anew a_m_values cI cB cZ cP cC above below retired manyLine bytesLong tokenAt tokenLong token value told Post A) ar s 0 0 A) (F0 m 127 ls [])) :
    ∀ (n : Nat) (v1 : Int32) (v2 : Int32) (v3 : Int32) (v4 : Int32) (refused : Nat → Int32) (cares : Nat → Int32) (bestCares : Nat → Int32) (H : Heap) (locs : List Loc) (ls : Array Slot), va_P D vwCl (ww_X10_nurses a_m a_m_told a_m_kept a_m_isKept a_m_refused a_m_months a_m_heirs a_m_lasts a_m_cares a_m_bestCares a_m_ones a_m_others a_m_bytes a_m_anew a_m_values cI cB cZ cP cC above below retired manyLine bytesLong tokenAt tokenLong token value told refused cares bestCares) H → va_D A (ww_X10_nurses a_m a_m_told a_m_kept a_m_isKept a_m_refused a_m_months a_m_heirs a_m_lasts a_m_cares a_m_bestCares a_m_ones a_m_others a_m_bytes a_m_anew a_m_values cI cB cZ cP cC above below retired manyLine bytesLong tokenAt tokenLong token value told refused cares bestCares) → va_S A s.heap H locs → lv_has ls 7 [(0, .ref a_m), (1, .int v1), (2, .int v2), (3, .int v3), (4, .int v4)] → wp_X10_nurses_L56 told Post K_127 n v1 v2 v3 v4 refused cares bestCares → W p l e rm_X10_nurses s m ar bl meth c H locs 0 0 (MQ bl (qq_X10_nurses D a_m a_m_told a_m_kept a_m_isKept a_m_refused a_m_months a_m_heirs a_m_lasts a_m_cares a_m_bestCares a_m_ones a_m_others a_m_bytes a_m_anew a_m_values cI cB cZ cP cC above below retired manyLine bytesLong tokenAt tokenLong token value told Post A) ar s 0 0 A) (F0 m 56 ls []) := by
  obtain ⟨hx, hb, hr, hlocks, hml, hown, hts, hK, hA⟩ := id C0
  intro n
  induction n with
  | zero =>
    intro v1 v2 v3 v4 refused cares bestCares H locs ls hP hD hS hl hw
    exact absurd hw (fun h => h)
  | succ n ih =>
    intro v1 v2 v3 v4 refused cares bestCares H locs ls hP hD hS hl hw
    refine lv_iload hx hb dX10_nurses_56 (lv_at hl 4 rfl) ?_
    refine lv_iload_n hx hb dX10_nurses_58 rfl (lv_at hl 2 rfl) ?_
    refine lv_icmp_ge (tgt := 127) hx hb dX10_nurses_59 (by decide) (fun c_14 => ?_) (fun c_14 => ?_)
    · replace hw := hw.1 c_14
      exact hK_127 v1 v3 refused cares bestCares _ _ _ hP hD hS (lv_sub hl [0, 1, 3] rfl) hw
    · replace hw := hw.2 c_14
      refine lv_aload_n hx hb dX10_nurses_62 rfl (lv_at hl 0 rfl) ?_
      refine lv_iload hx hb dX10_nurses_63 (lv_at hl 4 rfl) ?_
      refine mx_ki (mx_rV (rm := rm_X10_criedBy) (rest := []) (C := RX10) hx hb hml hown hts (c_X10_criedBy l D cI cB cZ cP cC a_m a_m_told a_m_kept a_m_isKept a_m_refused a_m_months a_m_heirs a_m_lasts a_m_cares a_m_bestCares a_m_ones a_m_others a_m_bytes a_m_anew a_m_values above below retired manyLine bytesLong tokenAt tokenLong token value told cares v4 _ _ hw) q_748 q_749 q_750 q_5 q_751 hd_X10_criedBy ⟨(Nat.le_of_ble_eq_true rfl), (Nat.le_of_ble_eq_true rfl)⟩ rfl rfl hK hP hD [0, 1, 3] rfl rfl 10 0 rfl rfl rfl rfl hl.1 rfl (Nat.le_of_ble_eq_true rfl) dX10_nurses_65 ⟨(Nat.le_of_ble_eq_true rfl), (Nat.le_of_ble_eq_true rfl)⟩) hP hD hS hA [0, 1, 3] [2, 4] [2, 3, 0, 4, 1] (fun u => ww_X10_nurses a_m a_m_told a_m_kept a_m_isKept a_m_refused a_m_months a_m_heirs a_m_lasts a_m_cares a_m_bestCares a_m_ones a_m_others a_m_bytes a_m_anew a_m_values cI cB cZ cP cC above below retired manyLine bytesLong tokenAt tokenLong token value told refused u bestCares) rfl rfl rfl (by decide) rfl (fun _ => rfl) (fun r_15 cares_16 H locs hw hP hD hS => ?_)
      try dsimp only at hw
      replace hP : va_P D vwCl (ww_X10_nurses a_m a_m_told a_m_kept a_m_isKept a_m_refused a_m_months a_m_heirs a_m_lasts a_m_cares a_m_bestCares a_m_ones a_m_others a_m_bytes a_m_anew a_m_values cI cB cZ cP cC above below retired manyLine bytesLong tokenAt tokenLong token value told refused cares_16 bestCares) H := hP
      replace hD : va_D A (ww_X10_nurses a_m a_m_told a_m_kept a_m_isKept a_m_refused a_m_months a_m_heirs a_m_lasts a_m_cares a_m_bestCares a_m_ones a_m_others a_m_bytes a_m_anew a_m_values cI cB cZ cP cC above below retired manyLine bytesLong tokenAt tokenLong token value told refused cares_16 bestCares) := hD
      refine lv_istore (lv' := [(5, .int r_15), (0, .ref a_m), (1, .int v1), (2, .int v2), (3, .int v3), (4, .int v4)]) hx hb dX10_nurses_68 hl (by decide) rfl (fun ls hl => ?_)
      refine lv_iconst (v := 0) hx hb dX10_nurses_70 (by decide) ?_
      refine lv_istore (lv' := [(6, .int 0), (5, .int r_15), (0, .ref a_m), (1, .int v1), (2, .int v2), (3, .int v3), (4, .int v4)]) hx hb dX10_nurses_71 hl (by decide) rfl (fun ls hl => ?_)
      obtain ⟨n0, hw⟩ := hw
      refine k_X10_nurses_L73 C0 ?_ n0 v1 v2 v3 v4 r_15 0 refused cares_16 bestCares _ _ _ hP hD hS (lv_sub hl [2, 3, 4, 5, 6, 1, 0] rfl) hw
      intro v1_24 v2_25 v3_26 v4_27 v5_28 refused_29 cares_30 bestCares_31 H locs ls hP hD hS hl hw
      refine k_X10_nurses_J108 C0 ?_ v1_24 v2_25 v3_26 v4_27 v5_28 refused_29 cares_30 bestCares_31 _ _ _ hP hD hS (lv_sub hl [0, 1, 2, 3, 4, 5] rfl) hw
      intro v1_48 v2_49 v3_50 v4_51 refused_52 cares_53 bestCares_54 H locs ls hP hD hS hl hw
      exact ih v1_48 v2_49 v3_50 v4_51 refused_52 cares_53 bestCares_54 _ _ _ hP hD hS (lv_sub hl [0, 1, 2, 3, 4] rfl) hw
def wp_X10_nurses (told : Nat → Int32) (refused : Nat → Int32) (cares : Nat → Int32) (bestCares : Nat → Int32) (v1 : Int32) (Post : Int32 → (Nat → Int32) → (Nat → Int32) → (Nat → Int32) → Prop) : Prop :=
  (wp_X10_many told (fun r_1 => (wp_X10_in (v1.toInt64) (-1) ((r_1 - 1).toInt64) (fun r_2 => ((r_2 = 0 → (wp_X10_bad refused (-10) (fun r_65 refused_66 => Post r_65 refused_66 cares bestCares))) ∧ (¬ r_2 = 0 → (∃ k_64 : Nat, wp_X10_nurses_L33 told Post (fun (v1_8 : Int32) (v2_9 : Int32) (v3_10 : Int32) (refused_11 : Nat → Int32) (cares_12 : Nat → Int32) (bestCares_13 : Nat → Int32) => (∃ k_63 : Nat, wp_X10_nurses_L56 told Post (fun (v1_56 : Int32) (v3_57 : Int32) (refused_58 : Nat → Int32) (cares_59 : Nat → Int32) (bestCares_60 : Nat → Int32) => ((v1_56 = (-1) → Post v3_57 refused_58 cares_59 bestCares_60) ∧ (¬ v1_56 = (-1) → (vp_in v1_56 6 ∧ Post (bestCares_60 v1_56.toNatClampNeg) refused_58 cares_59 bestCares_60)))) k_63 v1_8 v2_9 v3_10 0 refused_11 cares_12 bestCares_13)) k_64 v1 1 1000000 0 refused cares bestCares)))))))
set_option maxHeartbeats 4000000 in
set_option maxRecDepth 100000 in
theorem c_X10_nurses (l : Launch) (D : va_G) (cI cB cZ cP cC : ClassId) (a_m a_m_told a_m_kept a_m_isKept a_m_refused a_m_months a_m_heirs a_m_lasts a_m_cares a_m_bestCares a_m_ones a_m_others a_m_bytes a_m_anew a_m_values : Nat) (above : Int64) (below : Int64) (retired : Int32) (manyLine : Int32) (bytesLong : Int32) (tokenAt : Int32) (tokenLong : Int32) (token : Int32) (value : Int32) (told : Nat → Int32) (refused : Nat → Int32) (cares : Nat → Int32) (bestCares : Nat → Int32) (v1 : Int32) (sz : Nat) (Post : Int32 → (Nat → Int32) → (Nat → Int32) → (Nat → Int32) → Prop) (hw : wp_X10_nurses told refused cares bestCares v1 Post) :
    Met l yX10_nurses (Cond.code yX10_nurses cX10_nurses 7 (some .int) :: wsAll) rm_X10_nurses (va_Pc [.ref a_m, .int v1] (mxP D (mxTy cI cB cZ cP cC) sz (ww_X10_nurses a_m a_m_told a_m_kept a_m_isKept a_m_refused a_m_months a_m_heirs a_m_lasts a_m_cares a_m_bestCares a_m_ones a_m_others a_m_bytes a_m_anew a_m_values cI cB cZ cP cC above below retired manyLine bytesLong tokenAt tokenLong token value told refused cares bestCares))) (qq_X10_nurses D a_m a_m_told a_m_kept a_m_isKept a_m_refused a_m_months a_m_heirs a_m_lasts a_m_cares a_m_bestCares a_m_ones a_m_others a_m_bytes a_m_anew a_m_values cI cB cZ cP cC above below retired manyLine bytesLong tokenAt tokenLong token value told Post (va_A (ww_X10_nurses a_m a_m_told a_m_kept a_m_isKept a_m_refused a_m_months a_m_heirs a_m_lasts a_m_cares a_m_bestCares a_m_ones a_m_others a_m_bytes a_m_anew a_m_values cI cB cZ cP cC above below retired manyLine bytesLong tokenAt tokenLong token value told refused cares bestCares) sz)) 0 0 (va_A (ww_X10_nurses a_m a_m_told a_m_kept a_m_isKept a_m_refused a_m_months a_m_heirs a_m_lasts a_m_cares a_m_bestCares a_m_ones a_m_others a_m_bytes a_m_anew a_m_values cI cB cZ cP cC above below retired manyLine bytesLong tokenAt tokenLong token value told refused cares bestCares) sz) := by
  refine mx_of (Qc := qq_X10_nurses D a_m a_m_told a_m_kept a_m_isKept a_m_refused a_m_months a_m_heirs a_m_lasts a_m_cares a_m_bestCares a_m_ones a_m_others a_m_bytes a_m_anew a_m_values cI cB cZ cP cC above below retired manyLine bytesLong tokenAt tokenLong token value told Post) (by decide) (Nat.le_of_ble_eq_true rfl) ?_
  intro p e s m bl meth c A ls C0 hP hD hS hl
  replace C0 : mxC p s m [.ref a_m, .int v1].toArray meth c cX10_nurses RX10 (some .int) 7 D (mxTy cI cB cZ cP cC) A := C0
  obtain ⟨hx, hb, hr, hlocks, hml, hown, hts, hK, hA⟩ := id C0
  replace hl : lv_has ls 7 [(0, .ref a_m), (1, .int v1)] := hl
  unfold wp_X10_nurses at hw
  refine lv_iload_n hx hb dX10_nurses_0 rfl (lv_at hl 1 rfl) ?_
  refine lv_i2l (v := v1.toInt64) hx hb dX10_nurses_1 rfl ?_
  refine lv_ldc2 (v := (-1)) hx hb hown (hts _ q_746) dX10_nurses_2 ?_
  refine lv_aload_n hx hb dX10_nurses_5 rfl (lv_at hl 0 rfl) ?_
  refine mx_ki (mx_rV (rm := rm_X10_many) (rest := [.long (-1), .long (v1.toInt64)]) (C := RX10) hx hb hml hown hts (c_X10_many l D cI cB cZ cP cC a_m a_m_told a_m_kept a_m_isKept a_m_refused a_m_months a_m_heirs a_m_lasts a_m_cares a_m_bestCares a_m_ones a_m_others a_m_bytes a_m_anew a_m_values above below retired manyLine bytesLong tokenAt tokenLong token value told _ _ hw) q_132 q_133 q_134 q_5 q_135 hd_X10_many ⟨(Nat.le_of_ble_eq_true rfl), (Nat.le_of_ble_eq_true rfl)⟩ rfl rfl hK hP hD [0, 1] rfl rfl 10 0 rfl rfl rfl rfl hl.1 rfl (Nat.le_of_ble_eq_true rfl) dX10_nurses_6 ⟨(Nat.le_of_ble_eq_true rfl), (Nat.le_of_ble_eq_true rfl)⟩) hP hD hS hA [0, 1] [2, 3, 4] [3, 4, 0, 1, 2] (fun _ => ww_X10_nurses a_m a_m_told a_m_kept a_m_isKept a_m_refused a_m_months a_m_heirs a_m_lasts a_m_cares a_m_bestCares a_m_ones a_m_others a_m_bytes a_m_anew a_m_values cI cB cZ cP cC above below retired manyLine bytesLong tokenAt tokenLong token value told refused cares bestCares) rfl rfl rfl (by decide) rfl (fun _ => rfl) (fun r_1 u H locs hw hP hD hS => ?_)
  try dsimp only at hw
  replace hP : va_P D vwCl (ww_X10_nurses a_m a_m_told a_m_kept a_m_isKept a_m_refused a_m_months a_m_heirs a_m_lasts a_m_cares a_m_bestCares a_m_ones a_m_others a_m_bytes a_m_anew a_m_values cI cB cZ cP cC above below retired manyLine bytesLong tokenAt tokenLong token value told refused cares bestCares) H := hP
  replace hD : va_D A (ww_X10_nurses a_m a_m_told a_m_kept a_m_isKept a_m_refused a_m_months a_m_heirs a_m_lasts a_m_cares a_m_bestCares a_m_ones a_m_others a_m_bytes a_m_anew a_m_values cI cB cZ cP cC above below retired manyLine bytesLong tokenAt tokenLong token value told refused cares bestCares) := hD
  refine lv_iconst (v := 1) hx hb dX10_nurses_9 (by decide) ?_
  refine lv_isub hx hb dX10_nurses_10 ?_
  refine lv_i2l (v := (r_1 - 1).toInt64) hx hb dX10_nurses_11 rfl ?_
  refine mx_ki (mx_rS (rm := rm_X10_in) (rest := []) hx hb hml hown hts (c_X10_in l D cI cB cZ cP cC (v1.toInt64) (-1) ((r_1 - 1).toInt64) _ _ hw) q_163 q_164 q_5 q_165 hd_X10_in ⟨(Nat.le_of_ble_eq_true rfl), (Nat.le_of_ble_eq_true rfl)⟩ rfl rfl hK hP hD [] rfl rfl rfl hl.1 rfl (Nat.le_of_ble_eq_true rfl) dX10_nurses_12 ⟨(Nat.le_of_ble_eq_true rfl), (Nat.le_of_ble_eq_true rfl)⟩) hP hD hS hA [] [0, 1, 2, 3, 4] [0, 1, 2, 3, 4] (fun _ => ww_X10_nurses a_m a_m_told a_m_kept a_m_isKept a_m_refused a_m_months a_m_heirs a_m_lasts a_m_cares a_m_bestCares a_m_ones a_m_others a_m_bytes a_m_anew a_m_values cI cB cZ cP cC above below retired manyLine bytesLong tokenAt tokenLong token value told refused cares bestCares) rfl rfl rfl (by decide) rfl (fun _ => rfl) (fun r_2 u H locs hw hP hD hS => ?_)
  try dsimp only at hw
  replace hP : va_P D vwCl (ww_X10_nurses a_m a_m_told a_m_kept a_m_isKept a_m_refused a_m_months a_m_heirs a_m_lasts a_m_cares a_m_bestCares a_m_ones a_m_others a_m_bytes a_m_anew a_m_values cI cB cZ cP cC above below retired manyLine bytesLong tokenAt tokenLong token value told refused cares bestCares) H := hP
  replace hD : va_D A (ww_X10_nurses a_m a_m_told a_m_kept a_m_isKept a_m_refused a_m_months a_m_heirs a_m_lasts a_m_cares a_m_bestCares a_m_ones a_m_others a_m_bytes a_m_anew a_m_values cI cB cZ cP cC above below retired manyLine bytesLong tokenAt tokenLong token value told refused cares bestCares) := hD
  refine lv_if_ne (tgt := 25) hx hb dX10_nurses_15 (by decide) (fun c_3 => ?_) (fun c_3 => ?_)
  · replace hw := hw.2 c_3
    refine lv_iconst (v := 1) hx hb dX10_nurses_25 (by decide) ?_
    refine lv_istore_n (lv' := [(2, .int 1), (0, .ref a_m), (1, .int v1)]) hx hb dX10_nurses_26 rfl hl (by decide) rfl (fun ls hl => ?_)
    refine lv_ldc (v := 1000000) hx hb hown (hts _ q_747) dX10_nurses_27 ?_
    refine lv_istore_n (lv' := [(3, .int 1000000), (2, .int 1), (0, .ref a_m), (1, .int v1)]) hx hb dX10_nurses_29 rfl hl (by decide) rfl (fun ls hl => ?_)
    refine lv_iconst (v := 0) hx hb dX10_nurses_30 (by decide) ?_
    refine lv_istore (lv' := [(4, .int 0), (3, .int 1000000), (2, .int 1), (0, .ref a_m), (1, .int v1)]) hx hb dX10_nurses_31 hl (by decide) rfl (fun ls hl => ?_)
    obtain ⟨n0, hw⟩ := hw
    refine k_X10_nurses_L33 C0 ?_ n0 v1 1 1000000 0 refused cares bestCares _ _ _ hP hD hS (lv_sub hl [3, 4, 2, 1, 0] rfl) hw
    intro v1_8 v2_9 v3_10 refused_11 cares_12 bestCares_13 H locs ls hP hD hS hl hw
    refine lv_iconst (v := 0) hx hb dX10_nurses_53 (by decide) ?_
    refine lv_istore (lv' := [(4, .int 0), (0, .ref a_m), (1, .int v1_8), (2, .int v2_9), (3, .int v3_10)]) hx hb dX10_nurses_54 hl (by decide) rfl (fun ls hl => ?_)
    obtain ⟨n0, hw⟩ := hw
    refine k_X10_nurses_L56 C0 ?_ n0 v1_8 v2_9 v3_10 0 refused_11 cares_12 bestCares_13 _ _ _ hP hD hS (lv_sub hl [1, 2, 3, 4, 0] rfl) hw
    intro v1_56 v3_57 refused_58 cares_59 bestCares_60 H locs ls hP hD hS hl hw
    refine lv_iload_n hx hb dX10_nurses_127 rfl (lv_at hl 1 rfl) ?_
    refine lv_iconst (v := (-1)) hx hb dX10_nurses_128 (by decide) ?_
    refine lv_icmp_ne (tgt := 136) hx hb dX10_nurses_129 (by decide) (fun c_61 => ?_) (fun c_61 => ?_)
    · replace hw := hw.2 c_61
      refine lv_aload_n hx hb dX10_nurses_136 rfl (lv_at hl 0 rfl) ?_
      refine mx_get (ci := 10) (C := RX10) (T := TX10) (N := 23) hx hb hown in_wsX100 hts hK hP 0 rfl rfl 12 (by decide) q_100 rfl (v := .ref a_m_bestCares) rfl dX10_nurses_137 ?_
      refine lv_iload_n hx hb dX10_nurses_140 rfl (lv_at hl 1 rfl) ?_
      obtain ⟨h_62, hw⟩ := hw
      refine mx_iald hx hb hK hP 4 0 rfl rfl h_62 (bestCares_60 v1_56.toNatClampNeg) rfl dX10_nurses_141 ?_
      exact mx_iret (refused_58, cares_59, bestCares_60) hx hb hr hlocks rfl hw hK hP hD hS dX10_nurses_142
    · replace hw := hw.1 c_61
      refine lv_iload_n hx hb dX10_nurses_132 rfl (lv_at hl 2 rfl) ?_
      refine lv_goto (tgt := 142) hx hb dX10_nurses_133 (by decide) ?_
      exact mx_iret (refused_58, cares_59, bestCares_60) hx hb hr hlocks rfl hw hK hP hD hS dX10_nurses_142
  · replace hw := hw.1 c_3
    refine lv_aload_n hx hb dX10_nurses_18 rfl (lv_at hl 0 rfl) ?_
    refine lv_bipush (v := (-10)) hx hb dX10_nurses_19 (by decide) ?_
    refine mx_ki (mx_rV (rm := rm_X10_bad) (rest := []) (C := RX10) hx hb hml hown hts (c_X10_bad l D cI cB cZ cP cC a_m a_m_told a_m_kept a_m_isKept a_m_refused a_m_months a_m_heirs a_m_lasts a_m_cares a_m_bestCares a_m_ones a_m_others a_m_bytes a_m_anew a_m_values above below retired manyLine bytesLong tokenAt tokenLong token value refused (-10) _ _ hw) q_166 q_167 q_168 q_5 q_169 hd_X10_bad ⟨(Nat.le_of_ble_eq_true rfl), (Nat.le_of_ble_eq_true rfl)⟩ rfl rfl hK hP hD [0, 2] rfl rfl 10 0 rfl rfl rfl rfl hl.1 rfl (Nat.le_of_ble_eq_true rfl) dX10_nurses_21 ⟨(Nat.le_of_ble_eq_true rfl), (Nat.le_of_ble_eq_true rfl)⟩) hP hD hS hA [0, 2] [1, 3, 4] [3, 0, 4, 1, 2] (fun u => ww_X10_nurses a_m a_m_told a_m_kept a_m_isKept a_m_refused a_m_months a_m_heirs a_m_lasts a_m_cares a_m_bestCares a_m_ones a_m_others a_m_bytes a_m_anew a_m_values cI cB cZ cP cC above below retired manyLine bytesLong tokenAt tokenLong token value told u cares bestCares) rfl rfl rfl (by decide) rfl (fun _ => rfl) (fun r_65 refused_66 H locs hw hP hD hS => ?_)
    try dsimp only at hw
    replace hP : va_P D vwCl (ww_X10_nurses a_m a_m_told a_m_kept a_m_isKept a_m_refused a_m_months a_m_heirs a_m_lasts a_m_cares a_m_bestCares a_m_ones a_m_others a_m_bytes a_m_anew a_m_values cI cB cZ cP cC above below retired manyLine bytesLong tokenAt tokenLong token value told refused_66 cares bestCares) H := hP
    replace hD : va_D A (ww_X10_nurses a_m a_m_told a_m_kept a_m_isKept a_m_refused a_m_months a_m_heirs a_m_lasts a_m_cares a_m_bestCares a_m_ones a_m_others a_m_bytes a_m_anew a_m_values cI cB cZ cP cC above below retired manyLine bytesLong tokenAt tokenLong token value told refused_66 cares bestCares) := hD
    exact mx_iret (refused_66, cares, bestCares) hx hb hr hlocks rfl hw hK hP hD hS dX10_nurses_24
/-! PramStateModel.visit()I -/
abbrev ww_X10_visit (a_m a_m_told a_m_kept a_m_isKept a_m_refused a_m_months a_m_heirs a_m_lasts a_m_cares a_m_bestCares a_m_ones a_m_others a_m_bytes a_m_anew a_m_values : Nat) (cI cB cZ cP cC : ClassId) (above : Int64) (below : Int64) (retired : Int32) (manyLine : Int32) (bytesLong : Int32) (tokenAt : Int32) (tokenLong : Int32) (token : Int32) (value : Int32) (told : Nat → Int32) (months : Nat → Int32) : va_W := [(a_m, .inr (10, [.ref a_m_told, .ref a_m_kept, .ref a_m_isKept, .ref a_m_refused, .long above, .long below, .ref a_m_months, .int retired, .ref a_m_heirs, .ref a_m_lasts, .int manyLine, .ref a_m_cares, .ref a_m_bestCares, .ref a_m_ones, .ref a_m_others, .ref a_m_bytes, .int bytesLong, .int tokenAt, .int tokenLong, .int token, .int value, .ref a_m_anew, .ref a_m_values])), (a_m_told, .inl (cI, 190, .inl told)), (a_m_months, .inl (cI, 6, .inl months))]
abbrev qq_X10_visit (D : va_G) (a_m a_m_told a_m_kept a_m_isKept a_m_refused a_m_months a_m_heirs a_m_lasts a_m_cares a_m_bestCares a_m_ones a_m_others a_m_bytes a_m_anew a_m_values : Nat) (cI cB cZ cP cC : ClassId) (above : Int64) (below : Int64) (manyLine : Int32) (bytesLong : Int32) (tokenAt : Int32) (tokenLong : Int32) (token : Int32) (value : Int32) (told : Nat → Int32) (Post : Int32 → Int32 → (Nat → Int32) → Prop) (A : Nat → Prop) : Array Value → State → Outcome → State → Prop := va_Qi (fun (r : Int32) (u : Int32 × (Nat → Int32)) => Post r u.1 u.2) (fun (u : Int32 × (Nat → Int32)) t => mxB D (mxTy cI cB cZ cP cC) A (ww_X10_visit a_m a_m_told a_m_kept a_m_isKept a_m_refused a_m_months a_m_heirs a_m_lasts a_m_cares a_m_bestCares a_m_ones a_m_others a_m_bytes a_m_anew a_m_values cI cB cZ cP cC above below (u.1) manyLine bytesLong tokenAt tokenLong token value told (u.2)) t) A
abbrev rm_X10_visit : Room := { frames := 4, cells := 0, slots := 0, locals := 92 }
theorem hd_X10_visit : yX10_visit.cls = RX10 ∧ yX10_visit.cls ≠ "java/lang/invoke/MethodHandle" ∧ yX10_visit.cls ≠ "java/lang/invoke/VarHandle" ∧ (parseMethodDescriptor yX10_visit.desc).map (fun d => d.parameters.length) = some 0 := by decide +kernel
def wp_X10_visit_J74 (told : Nat → Int32) (Post : Int32 → Int32 → (Nat → Int32) → Prop) (K_13 : Int32 → Int32 → Int32 → Int32 → Int32 → (Nat → Int32) → Prop) (v1 : Int32) (v2 : Int32) (v4 : Int32) (s0 : Int32) (retired : Int32) (months : Nat → Int32) : Prop :=
  (∀ x_10 : Int32, x_10 = v4 + 1 → K_13 v1 v2 s0 x_10 retired months)
set_option maxHeartbeats 4000000 in
set_option maxRecDepth 100000 in
theorem k_X10_visit_J74 {p : Program} {l : Launch} {e : Env} {s : State} {m : MethodId} {ar : Array Value} {bl : List Frame} {meth : Method} {c : Code} {D : va_G} {A : Nat → Prop} {cI cB cZ cP cC : ClassId} {a_m a_m_told a_m_kept a_m_isKept a_m_refused a_m_months a_m_heirs a_m_lasts a_m_cares a_m_bestCares a_m_ones a_m_others a_m_bytes a_m_anew a_m_values : Nat} {above : Int64} {below : Int64} {manyLine : Int32} {bytesLong : Int32} {tokenAt : Int32} {tokenLong : Int32} {token : Int32} {value : Int32} {told : Nat → Int32} {Post : Int32 → Int32 → (Nat → Int32) → Prop} {K_13 : Int32 → Int32 → Int32 → Int32 → Int32 → (Nat → Int32) → Prop} (C0 : mxC p s m ar meth c cX10_visit RX10 (some .int) 6 D (mxTy cI cB cZ cP cC) A)
    (hK_13 : ∀ (v1 : Int32) (v2 : Int32) (v3 : Int32) (v4 : Int32) (retired : Int32) (months : Nat → Int32) (H : Heap) (locs : List Loc) (ls : Array Slot), va_P D vwCl (ww_X10_visit a_m a_m_told a_m_kept a_m_isKept a_m_refused a_m_months a_m_heirs a_m_lasts a_m_cares a_m_bestCares a_m_ones a_m_others a_m_bytes a_m_anew a_m_values cI cB cZ cP cC above below retired manyLine bytesLong tokenAt tokenLong token value told months) H → va_D A (ww_X10_visit a_m a_m_told a_m_kept a_m_isKept a_m_refused a_m_months a_m_heirs a_m_lasts a_m_cares a_m_bestCares a_m_ones a_m_others a_m_bytes a_m_anew a_m_values cI cB cZ cP cC above below retired manyLine bytesLong tokenAt tokenLong token value told months) → va_S A s.heap H locs → lv_has ls 6 [(0, .ref a_m), (1, .int v1), (2, .int v2), (3, .int v3), (4, .int v4)] → K_13 v1 v2 v3 v4 retired months → W p l e rm_X10_visit s m ar bl meth c H locs 0 0 (MQ bl (qq_X10_visit D a_m a_m_told a_m_kept a_m_isKept a_m_refused a_m_months a_m_heirs a_m_lasts a_m_cares a_m_bestCares a_m_ones a_m_others a_m_bytes a_m_anew a_m_values cI cB cZ cP cC above below manyLine bytesLong tokenAt tokenLong token value told Post A) ar s 0 0 A) (F0 m 13 ls [])) :
    ∀ (v1 : Int32) (v2 : Int32) (v4 : Int32) (s0 : Int32) (retired : Int32) (months : Nat → Int32) (H : Heap) (locs : List Loc) (ls : Array Slot), va_P D vwCl (ww_X10_visit a_m a_m_told a_m_kept a_m_isKept a_m_refused a_m_months a_m_heirs a_m_lasts a_m_cares a_m_bestCares a_m_ones a_m_others a_m_bytes a_m_anew a_m_values cI cB cZ cP cC above below retired manyLine bytesLong tokenAt tokenLong token value told months) H → va_D A (ww_X10_visit a_m a_m_told a_m_kept a_m_isKept a_m_refused a_m_months a_m_heirs a_m_lasts a_m_cares a_m_bestCares a_m_ones a_m_others a_m_bytes a_m_anew a_m_values cI cB cZ cP cC above below retired manyLine bytesLong tokenAt tokenLong token value told months) → va_S A s.heap H locs → lv_has ls 6 [(0, .ref a_m), (1, .int v1), (2, .int v2), (4, .int v4)] → wp_X10_visit_J74 told Post K_13 v1 v2 v4 s0 retired months → W p l e rm_X10_visit s m ar bl meth c H locs 0 0 (MQ bl (qq_X10_visit D a_m a_m_told a_m_kept a_m_isKept a_m_refused a_m_months a_m_heirs a_m_lasts a_m_cares a_m_bestCares a_m_ones a_m_others a_m_bytes a_m_anew a_m_values cI cB cZ cP cC above below manyLine bytesLong tokenAt tokenLong token value told Post A) ar s 0 0 A) (F0 m 74 ls [.int s0]) := by
  obtain ⟨hx, hb, hr, hlocks, hml, hown, hts, hK, hA⟩ := id C0
  intro v1 v2 v4 s0 retired months H locs ls hP hD hS hl hw
  refine lv_istore_n (lv' := [(3, .int s0), (0, .ref a_m), (1, .int v1), (2, .int v2), (4, .int v4)]) hx hb dX10_visit_74 rfl hl (by decide) rfl (fun ls hl => ?_)
  obtain ⟨x_10, ex_10⟩ : ∃ y : Int32, y = v4 + 1 := ⟨_, rfl⟩
  replace hw := hw x_10 ex_10
  refine lv_iinc (v := x_10) (lv' := [(4, .int x_10), (3, .int s0), (0, .ref a_m), (1, .int v1), (2, .int v2)]) hx hb dX10_visit_75 hl (k := 4) rfl (by rw [ex_10]; rfl) (by decide) rfl (fun ls hl => ?_)
  refine lv_goto (tgt := 13) hx hb dX10_visit_78 (by decide) ?_
  exact hK_13 v1 v2 s0 x_10 retired months _ _ _ hP hD hS (lv_sub hl [2, 3, 4, 1, 0] rfl) hw
def wp_X10_visit_J61 (told : Nat → Int32) (Post : Int32 → Int32 → (Nat → Int32) → Prop) (K_13 : Int32 → Int32 → Int32 → Int32 → Int32 → (Nat → Int32) → Prop) (v1 : Int32) (v3 : Int32) (v4 : Int32) (v5 : Int32) (s0 : Int32) (retired : Int32) (months : Nat → Int32) : Prop :=
  ((v3 ≤ v5 → (wp_X10_visit_J74 told Post K_13 v1 s0 v4 v3 retired months)) ∧ (¬ v3 ≤ v5 → (wp_X10_visit_J74 told Post K_13 v1 s0 v4 v5 retired months)))
set_option maxHeartbeats 4000000 in
set_option maxRecDepth 100000 in
theorem k_X10_visit_J61 {p : Program} {l : Launch} {e : Env} {s : State} {m : MethodId} {ar : Array Value} {bl : List Frame} {meth : Method} {c : Code} {D : va_G} {A : Nat → Prop} {cI cB cZ cP cC : ClassId} {a_m a_m_told a_m_kept a_m_isKept a_m_refused a_m_months a_m_heirs a_m_lasts a_m_cares a_m_bestCares a_m_ones a_m_others a_m_bytes a_m_anew a_m_values : Nat} {above : Int64} {below : Int64} {manyLine : Int32} {bytesLong : Int32} {tokenAt : Int32} {tokenLong : Int32} {token : Int32} {value : Int32} {told : Nat → Int32} {Post : Int32 → Int32 → (Nat → Int32) → Prop} {K_13 : Int32 → Int32 → Int32 → Int32 → Int32 → (Nat → Int32) → Prop} (C0 : mxC p s m ar meth c cX10_visit RX10 (some .int) 6 D (mxTy cI cB cZ cP cC) A)
    (hK_13 : ∀ (v1 : Int32) (v2 : Int32) (v3 : Int32) (v4 : Int32) (retired : Int32) (months : Nat → Int32) (H : Heap) (locs : List Loc) (ls : Array Slot), va_P D vwCl (ww_X10_visit a_m a_m_told a_m_kept a_m_isKept a_m_refused a_m_months a_m_heirs a_m_lasts a_m_cares a_m_bestCares a_m_ones a_m_others a_m_bytes a_m_anew a_m_values cI cB cZ cP cC above below retired manyLine bytesLong tokenAt tokenLong token value told months) H → va_D A (ww_X10_visit a_m a_m_told a_m_kept a_m_isKept a_m_refused a_m_months a_m_heirs a_m_lasts a_m_cares a_m_bestCares a_m_ones a_m_others a_m_bytes a_m_anew a_m_values cI cB cZ cP cC above below retired manyLine bytesLong tokenAt tokenLong token value told months) → va_S A s.heap H locs → lv_has ls 6 [(0, .ref a_m), (1, .int v1), (2, .int v2), (3, .int v3), (4, .int v4)] → K_13 v1 v2 v3 v4 retired months → W p l e rm_X10_visit s m ar bl meth c H locs 0 0 (MQ bl (qq_X10_visit D a_m a_m_told a_m_kept a_m_isKept a_m_refused a_m_months a_m_heirs a_m_lasts a_m_cares a_m_bestCares a_m_ones a_m_others a_m_bytes a_m_anew a_m_values cI cB cZ cP cC above below manyLine bytesLong tokenAt tokenLong token value told Post A) ar s 0 0 A) (F0 m 13 ls [])) :
    ∀ (v1 : Int32) (v3 : Int32) (v4 : Int32) (v5 : Int32) (s0 : Int32) (retired : Int32) (months : Nat → Int32) (H : Heap) (locs : List Loc) (ls : Array Slot), va_P D vwCl (ww_X10_visit a_m a_m_told a_m_kept a_m_isKept a_m_refused a_m_months a_m_heirs a_m_lasts a_m_cares a_m_bestCares a_m_ones a_m_others a_m_bytes a_m_anew a_m_values cI cB cZ cP cC above below retired manyLine bytesLong tokenAt tokenLong token value told months) H → va_D A (ww_X10_visit a_m a_m_told a_m_kept a_m_isKept a_m_refused a_m_months a_m_heirs a_m_lasts a_m_cares a_m_bestCares a_m_ones a_m_others a_m_bytes a_m_anew a_m_values cI cB cZ cP cC above below retired manyLine bytesLong tokenAt tokenLong token value told months) → va_S A s.heap H locs → lv_has ls 6 [(0, .ref a_m), (1, .int v1), (3, .int v3), (4, .int v4), (5, .int v5)] → wp_X10_visit_J61 told Post K_13 v1 v3 v4 v5 s0 retired months → W p l e rm_X10_visit s m ar bl meth c H locs 0 0 (MQ bl (qq_X10_visit D a_m a_m_told a_m_kept a_m_isKept a_m_refused a_m_months a_m_heirs a_m_lasts a_m_cares a_m_bestCares a_m_ones a_m_others a_m_bytes a_m_anew a_m_values cI cB cZ cP cC above below manyLine bytesLong tokenAt tokenLong token value told Post A) ar s 0 0 A) (F0 m 61 ls [.int s0]) := by
  obtain ⟨hx, hb, hr, hlocks, hml, hown, hts, hK, hA⟩ := id C0
  intro v1 v3 v4 v5 s0 retired months H locs ls hP hD hS hl hw
  refine lv_istore_n (lv' := [(2, .int s0), (0, .ref a_m), (1, .int v1), (3, .int v3), (4, .int v4), (5, .int v5)]) hx hb dX10_visit_61 rfl hl (by decide) rfl (fun ls hl => ?_)
  refine lv_iload hx hb dX10_visit_62 (lv_at hl 5 rfl) ?_
  refine lv_iload_n hx hb dX10_visit_64 rfl (lv_at hl 3 rfl) ?_
  refine lv_icmp_ge (tgt := 73) hx hb dX10_visit_65 (by decide) (fun c_9 => ?_) (fun c_9 => ?_)
  · replace hw := hw.1 c_9
    refine lv_iload_n hx hb dX10_visit_73 rfl (lv_at hl 3 rfl) ?_
    refine k_X10_visit_J74 C0 ?_ v1 s0 v4 v3 retired months _ _ _ hP hD hS (lv_sub hl [1, 2, 0, 4] rfl) hw
    intro v1_11 v2_12 v3_13 v4_14 retired_15 months_16 H locs ls hP hD hS hl hw
    exact hK_13 v1_11 v2_12 v3_13 v4_14 retired_15 months_16 _ _ _ hP hD hS (lv_sub hl [0, 1, 2, 3, 4] rfl) hw
  · replace hw := hw.2 c_9
    refine lv_iload hx hb dX10_visit_68 (lv_at hl 5 rfl) ?_
    refine lv_goto (tgt := 74) hx hb dX10_visit_70 (by decide) ?_
    refine k_X10_visit_J74 C0 ?_ v1 s0 v4 v5 retired months _ _ _ hP hD hS (lv_sub hl [1, 2, 0, 4] rfl) hw
    intro v1_17 v2_18 v3_19 v4_20 retired_21 months_22 H locs ls hP hD hS hl hw
    exact hK_13 v1_17 v2_18 v3_19 v4_20 retired_21 months_22 _ _ _ hP hD hS (lv_sub hl [0, 1, 2, 3, 4] rfl) hw
def wp_X10_visit_J47 (told : Nat → Int32) (Post : Int32 → Int32 → (Nat → Int32) → Prop) (K_13 : Int32 → Int32 → Int32 → Int32 → Int32 → (Nat → Int32) → Prop) (v1 : Int32) (v2 : Int32) (v3 : Int32) (v4 : Int32) (s0 : Int32) (retired : Int32) (months : Nat → Int32) : Prop :=
  ((v3 ≤ s0 → (wp_X10_visit_J61 told Post K_13 v1 v3 v4 s0 v2 retired months)) ∧ (¬ v3 ≤ s0 → (wp_X10_visit_J61 told Post K_13 v1 v3 v4 s0 v4 retired months)))
set_option maxHeartbeats 4000000 in
set_option maxRecDepth 100000 in
theorem k_X10_visit_J47 {p : Program} {l : Launch} {e : Env} {s : State} {m : MethodId} {ar : Array Value} {bl : List Frame} {meth : Method} {c : Code} {D : va_G} {A : Nat → Prop} {cI cB cZ cP cC : ClassId} {a_m a_m_told a_m_kept a_m_isKept a_m_refused a_m_months a_m_heirs a_m_lasts a_m_cares a_m_bestCares a_m_ones a_m_others a_m_bytes a_m_anew a_m_values : Nat} {above : Int64} {below : Int64} {manyLine : Int32} {bytesLong : Int32} {tokenAt : Int32} {tokenLong : Int32} {token : Int32} {value : Int32} {told : Nat → Int32} {Post : Int32 → Int32 → (Nat → Int32) → Prop} {K_13 : Int32 → Int32 → Int32 → Int32 → Int32 → (Nat → Int32) → Prop} (C0 : mxC p s m ar meth c cX10_visit RX10 (some .int) 6 D (mxTy cI cB cZ cP cC) A)
    (hK_13 : ∀ (v1 : Int32) (v2 : Int32) (v3 : Int32) (v4 : Int32) (retired : Int32) (months : Nat → Int32) (H : Heap) (locs : List Loc) (ls : Array Slot), va_P D vwCl (ww_X10_visit a_m a_m_told a_m_kept a_m_isKept a_m_refused a_m_months a_m_heirs a_m_lasts a_m_cares a_m_bestCares a_m_ones a_m_others a_m_bytes a_m_anew a_m_values cI cB cZ cP cC above below retired manyLine bytesLong tokenAt tokenLong token value told months) H → va_D A (ww_X10_visit a_m a_m_told a_m_kept a_m_isKept a_m_refused a_m_months a_m_heirs a_m_lasts a_m_cares a_m_bestCares a_m_ones a_m_others a_m_bytes a_m_anew a_m_values cI cB cZ cP cC above below retired manyLine bytesLong tokenAt tokenLong token value told months) → va_S A s.heap H locs → lv_has ls 6 [(0, .ref a_m), (1, .int v1), (2, .int v2), (3, .int v3), (4, .int v4)] → K_13 v1 v2 v3 v4 retired months → W p l e rm_X10_visit s m ar bl meth c H locs 0 0 (MQ bl (qq_X10_visit D a_m a_m_told a_m_kept a_m_isKept a_m_refused a_m_months a_m_heirs a_m_lasts a_m_cares a_m_bestCares a_m_ones a_m_others a_m_bytes a_m_anew a_m_values cI cB cZ cP cC above below manyLine bytesLong tokenAt tokenLong token value told Post A) ar s 0 0 A) (F0 m 13 ls [])) :
    ∀ (v1 : Int32) (v2 : Int32) (v3 : Int32) (v4 : Int32) (s0 : Int32) (retired : Int32) (months : Nat → Int32) (H : Heap) (locs : List Loc) (ls : Array Slot), va_P D vwCl (ww_X10_visit a_m a_m_told a_m_kept a_m_isKept a_m_refused a_m_months a_m_heirs a_m_lasts a_m_cares a_m_bestCares a_m_ones a_m_others a_m_bytes a_m_anew a_m_values cI cB cZ cP cC above below retired manyLine bytesLong tokenAt tokenLong token value told months) H → va_D A (ww_X10_visit a_m a_m_told a_m_kept a_m_isKept a_m_refused a_m_months a_m_heirs a_m_lasts a_m_cares a_m_bestCares a_m_ones a_m_others a_m_bytes a_m_anew a_m_values cI cB cZ cP cC above below retired manyLine bytesLong tokenAt tokenLong token value told months) → va_S A s.heap H locs → lv_has ls 6 [(0, .ref a_m), (1, .int v1), (2, .int v2), (3, .int v3), (4, .int v4)] → wp_X10_visit_J47 told Post K_13 v1 v2 v3 v4 s0 retired months → W p l e rm_X10_visit s m ar bl meth c H locs 0 0 (MQ bl (qq_X10_visit D a_m a_m_told a_m_kept a_m_isKept a_m_refused a_m_months a_m_heirs a_m_lasts a_m_cares a_m_bestCares a_m_ones a_m_others a_m_bytes a_m_anew a_m_values cI cB cZ cP cC above below manyLine bytesLong tokenAt tokenLong token value told Post A) ar s 0 0 A) (F0 m 47 ls [.int s0]) := by
  obtain ⟨hx, hb, hr, hlocks, hml, hown, hts, hK, hA⟩ := id C0
  intro v1 v2 v3 v4 s0 retired months H locs ls hP hD hS hl hw
  refine lv_istore (lv' := [(5, .int s0), (0, .ref a_m), (1, .int v1), (2, .int v2), (3, .int v3), (4, .int v4)]) hx hb dX10_visit_47 hl (by decide) rfl (fun ls hl => ?_)
  refine lv_iload hx hb dX10_visit_49 (lv_at hl 0 rfl) ?_
  refine lv_iload_n hx hb dX10_visit_51 rfl (lv_at hl 4 rfl) ?_
  refine lv_icmp_ge (tgt := 60) hx hb dX10_visit_52 (by decide) (fun c_8 => ?_) (fun c_8 => ?_)
  · replace hw := hw.1 c_8
    refine lv_iload_n hx hb dX10_visit_60 rfl (lv_at hl 3 rfl) ?_
    refine k_X10_visit_J61 C0 ?_ v1 v3 v4 s0 v2 retired months _ _ _ hP hD hS (lv_sub hl [1, 2, 4, 5, 0] rfl) hw
    intro v1_23 v2_24 v3_25 v4_26 retired_27 months_28 H locs ls hP hD hS hl hw
    exact hK_13 v1_23 v2_24 v3_25 v4_26 retired_27 months_28 _ _ _ hP hD hS (lv_sub hl [0, 1, 2, 3, 4] rfl) hw
  · replace hw := hw.2 c_8
    refine lv_iload hx hb dX10_visit_55 (lv_at hl 5 rfl) ?_
    refine lv_goto (tgt := 61) hx hb dX10_visit_57 (by decide) ?_
    refine k_X10_visit_J61 C0 ?_ v1 v3 v4 s0 v4 retired months _ _ _ hP hD hS (lv_sub hl [1, 2, 4, 5, 0] rfl) hw
    intro v1_29 v2_30 v3_31 v4_32 retired_33 months_34 H locs ls hP hD hS hl hw
    exact hK_13 v1_29 v2_30 v3_31 v4_32 retired_33 months_34 _ _ _ hP hD hS (lv_sub hl [0, 1, 2, 3, 4] rfl) hw
def wp_X10_visit_L13 (told : Nat → Int32) (Post : Int32 → Int32 → (Nat → Int32) → Prop)  : Nat → Int32 → Int32 → Int32 → Int32 → Int32 → (Nat → Int32) → Prop
  | 0, _, _, _, _, _, _ => False
  | n + 1, v1, v2, v3, v4, retired, months => ((24 ≤ v4 → Post v2 retired months) ∧ (¬ 24 ≤ v4 → ((v1 = (-1) → Post v2 retired months) ∧ (¬ v1 = (-1) → (wp_X10_isAwake told v1 v4 (fun r_6 => ((r_6 = 0 → (wp_X10_visit_J47 told Post (fun (v1_35 : Int32) (v2_36 : Int32) (v3_37 : Int32) (v4_38 : Int32) (retired_39 : Int32) (months_40 : Nat → Int32) => wp_X10_visit_L13 told Post  n v1_35 v2_36 v3_37 v4_38 retired_39 months_40) v1 v2 v3 v4 1000000 retired months)) ∧ (¬ r_6 = 0 → (wp_X10_criesIn told v1 v4 (fun r_41 => (wp_X10_visit_J47 told Post (fun (v1_42 : Int32) (v2_43 : Int32) (v3_44 : Int32) (v4_45 : Int32) (retired_46 : Int32) (months_47 : Nat → Int32) => wp_X10_visit_L13 told Post  n v1_42 v2_43 v3_44 v4_45 retired_46 months_47) v1 v2 v3 v4 r_41 retired months)))))))))))
set_option maxHeartbeats 4000000 in
set_option maxRecDepth 100000 in
theorem k_X10_visit_L13 {p : Program} {l : Launch} {e : Env} {s : State} {m : MethodId} {ar : Array Value} {bl : List Frame} {meth : Method} {c : Code} {D : va_G} {A : Nat → Prop} {cI cB cZ cP cC : ClassId} {a_m a_m_told a_m_kept a_m_isKept a_m_refused a_m_months a_m_heirs a_m_lasts a_m_cares a_m_bestCares a_m_ones a_m_others a_m_bytes a_m_anew a_m_values : Nat} {above : Int64} {below : Int64} {manyLine : Int32} {bytesLong : Int32} {tokenAt : Int32} {tokenLong : Int32} {token : Int32} {value : Int32} {told : Nat → Int32} {Post : Int32 → Int32 → (Nat → Int32) → Prop} (C0 : mxC p s m ar meth c cX10_visit RX10 (some .int) 6 D (mxTy cI cB cZ cP cC) A) :
    ∀ (n : Nat) (v1 : Int32) (v2 : Int32) (v3 : Int32) (v4 : Int32) (retired : Int32) (months : Nat → Int32) (H : Heap) (locs : List Loc) (ls : Array Slot), va_P D vwCl (ww_X10_visit a_m a_m_told a_m_kept a_m_isKept a_m_refused a_m_months a_m_heirs a_m_lasts a_m_cares a_m_bestCares a_m_ones a_m_others a_m_bytes a_m_anew a_m_values cI cB cZ cP cC above below retired manyLine bytesLong tokenAt tokenLong token value told months) H → va_D A (ww_X10_visit a_m a_m_told a_m_kept a_m_isKept a_m_refused a_m_months a_m_heirs a_m_lasts a_m_cares a_m_bestCares a_m_ones a_m_others a_m_bytes a_m_anew a_m_values cI cB cZ cP cC above below retired manyLine bytesLong tokenAt tokenLong token value told months) → va_S A s.heap H locs → lv_has ls 6 [(0, .ref a_m), (1, .int v1), (2, .int v2), (3, .int v3), (4, .int v4)] → wp_X10_visit_L13 told Post  n v1 v2 v3 v4 retired months → W p l e rm_X10_visit s m ar bl meth c H locs 0 0 (MQ bl (qq_X10_visit D a_m a_m_told a_m_kept a_m_isKept a_m_refused a_m_months a_m_heirs a_m_lasts a_m_cares a_m_bestCares a_m_ones a_m_others a_m_bytes a_m_anew a_m_values cI cB cZ cP cC above below manyLine bytesLong tokenAt tokenLong token value told Post A) ar s 0 0 A) (F0 m 13 ls []) := by
  obtain ⟨hx, hb, hr, hlocks, hml, hown, hts, hK, hA⟩ := id C0
  intro n
  induction n with
  | zero =>
    intro v1 v2 v3 v4 retired months H locs ls hP hD hS hl hw
    exact absurd hw (fun h => h)
  | succ n ih =>
    intro v1 v2 v3 v4 retired months H locs ls hP hD hS hl hw
    refine lv_iload hx hb dX10_visit_13 (lv_at hl 4 rfl) ?_
    refine lv_bipush (v := 24) hx hb dX10_visit_15 (by decide) ?_
    refine lv_icmp_ge (tgt := 81) hx hb dX10_visit_17 (by decide) (fun c_4 => ?_) (fun c_4 => ?_)
    · replace hw := hw.1 c_4
      refine lv_iload_n hx hb dX10_visit_81 rfl (lv_at hl 2 rfl) ?_
      exact mx_iret (retired, months) hx hb hr hlocks rfl hw hK hP hD hS dX10_visit_82
    · replace hw := hw.2 c_4
      refine lv_iload_n hx hb dX10_visit_20 rfl (lv_at hl 1 rfl) ?_
      refine lv_iconst (v := (-1)) hx hb dX10_visit_21 (by decide) ?_
      refine lv_icmp_eq (tgt := 81) hx hb dX10_visit_22 (by decide) (fun c_5 => ?_) (fun c_5 => ?_)
      · replace hw := hw.1 c_5
        refine lv_iload_n hx hb dX10_visit_81 rfl (lv_at hl 2 rfl) ?_
        exact mx_iret (retired, months) hx hb hr hlocks rfl hw hK hP hD hS dX10_visit_82
      · replace hw := hw.2 c_5
        refine lv_aload_n hx hb dX10_visit_25 rfl (lv_at hl 0 rfl) ?_
        refine lv_iload_n hx hb dX10_visit_26 rfl (lv_at hl 1 rfl) ?_
        refine lv_iload hx hb dX10_visit_27 (lv_at hl 4 rfl) ?_
        refine mx_ki (mx_rV (rm := rm_X10_isAwake) (rest := []) (C := RX10) hx hb hml hown hts (c_X10_isAwake l D cI cB cZ cP cC a_m a_m_told a_m_kept a_m_isKept a_m_refused a_m_months a_m_heirs a_m_lasts a_m_cares a_m_bestCares a_m_ones a_m_others a_m_bytes a_m_anew a_m_values above below retired manyLine bytesLong tokenAt tokenLong token value told v1 v4 _ _ hw) q_608 q_609 q_610 q_5 q_611 hd_X10_isAwake ⟨(Nat.le_of_ble_eq_true rfl), (Nat.le_of_ble_eq_true rfl)⟩ rfl rfl hK hP hD [0, 1] rfl rfl 10 0 rfl rfl rfl rfl hl.1 rfl (Nat.le_of_ble_eq_true rfl) dX10_visit_29 ⟨(Nat.le_of_ble_eq_true rfl), (Nat.le_of_ble_eq_true rfl)⟩) hP hD hS hA [0, 1] [2] [1, 2, 0] (fun _ => ww_X10_visit a_m a_m_told a_m_kept a_m_isKept a_m_refused a_m_months a_m_heirs a_m_lasts a_m_cares a_m_bestCares a_m_ones a_m_others a_m_bytes a_m_anew a_m_values cI cB cZ cP cC above below retired manyLine bytesLong tokenAt tokenLong token value told months) rfl rfl rfl (by decide) rfl (fun _ => rfl) (fun r_6 u H locs hw hP hD hS => ?_)
        try dsimp only at hw
        replace hP : va_P D vwCl (ww_X10_visit a_m a_m_told a_m_kept a_m_isKept a_m_refused a_m_months a_m_heirs a_m_lasts a_m_cares a_m_bestCares a_m_ones a_m_others a_m_bytes a_m_anew a_m_values cI cB cZ cP cC above below retired manyLine bytesLong tokenAt tokenLong token value told months) H := hP
        replace hD : va_D A (ww_X10_visit a_m a_m_told a_m_kept a_m_isKept a_m_refused a_m_months a_m_heirs a_m_lasts a_m_cares a_m_bestCares a_m_ones a_m_others a_m_bytes a_m_anew a_m_values cI cB cZ cP cC above below retired manyLine bytesLong tokenAt tokenLong token value told months) := hD
        refine lv_if_eq (tgt := 45) hx hb dX10_visit_32 (by decide) (fun c_7 => ?_) (fun c_7 => ?_)
        · replace hw := hw.1 c_7
          refine lv_ldc (v := 1000000) hx hb hown (hts _ q_747) dX10_visit_45 ?_
          refine k_X10_visit_J47 C0 ?_ v1 v2 v3 v4 1000000 retired months _ _ _ hP hD hS (lv_sub hl [0, 1, 2, 3, 4] rfl) hw
          intro v1_35 v2_36 v3_37 v4_38 retired_39 months_40 H locs ls hP hD hS hl hw
          exact ih v1_35 v2_36 v3_37 v4_38 retired_39 months_40 _ _ _ hP hD hS (lv_sub hl [0, 1, 2, 3, 4] rfl) hw
        · replace hw := hw.2 c_7
          refine lv_aload_n hx hb dX10_visit_35 rfl (lv_at hl 0 rfl) ?_
          refine lv_iload_n hx hb dX10_visit_36 rfl (lv_at hl 1 rfl) ?_
          refine lv_iload hx hb dX10_visit_37 (lv_at hl 4 rfl) ?_
          refine mx_ki (mx_rV (rm := rm_X10_criesIn) (rest := []) (C := RX10) hx hb hml hown hts (c_X10_criesIn l D cI cB cZ cP cC a_m a_m_told a_m_kept a_m_isKept a_m_refused a_m_months a_m_heirs a_m_lasts a_m_cares a_m_bestCares a_m_ones a_m_others a_m_bytes a_m_anew a_m_values above below retired manyLine bytesLong tokenAt tokenLong token value told v1 v4 _ _ hw) q_604 q_605 q_606 q_5 q_607 hd_X10_criesIn ⟨(Nat.le_of_ble_eq_true rfl), (Nat.le_of_ble_eq_true rfl)⟩ rfl rfl hK hP hD [0, 1] rfl rfl 10 0 rfl rfl rfl rfl hl.1 rfl (Nat.le_of_ble_eq_true rfl) dX10_visit_39 ⟨(Nat.le_of_ble_eq_true rfl), (Nat.le_of_ble_eq_true rfl)⟩) hP hD hS hA [0, 1] [2] [1, 2, 0] (fun _ => ww_X10_visit a_m a_m_told a_m_kept a_m_isKept a_m_refused a_m_months a_m_heirs a_m_lasts a_m_cares a_m_bestCares a_m_ones a_m_others a_m_bytes a_m_anew a_m_values cI cB cZ cP cC above below retired manyLine bytesLong tokenAt tokenLong token value told months) rfl rfl rfl (by decide) rfl (fun _ => rfl) (fun r_41 u H locs hw hP hD hS => ?_)
          try dsimp only at hw
          replace hP : va_P D vwCl (ww_X10_visit a_m a_m_told a_m_kept a_m_isKept a_m_refused a_m_months a_m_heirs a_m_lasts a_m_cares a_m_bestCares a_m_ones a_m_others a_m_bytes a_m_anew a_m_values cI cB cZ cP cC above below retired manyLine bytesLong tokenAt tokenLong token value told months) H := hP
          replace hD : va_D A (ww_X10_visit a_m a_m_told a_m_kept a_m_isKept a_m_refused a_m_months a_m_heirs a_m_lasts a_m_cares a_m_bestCares a_m_ones a_m_others a_m_bytes a_m_anew a_m_values cI cB cZ cP cC above below retired manyLine bytesLong tokenAt tokenLong token value told months) := hD
          refine lv_goto (tgt := 47) hx hb dX10_visit_42 (by decide) ?_
          refine k_X10_visit_J47 C0 ?_ v1 v2 v3 v4 r_41 retired months _ _ _ hP hD hS (lv_sub hl [0, 1, 2, 3, 4] rfl) hw
          intro v1_42 v2_43 v3_44 v4_45 retired_46 months_47 H locs ls hP hD hS hl hw
          exact ih v1_42 v2_43 v3_44 v4_45 retired_46 months_47 _ _ _ hP hD hS (lv_sub hl [0, 1, 2, 3, 4] rfl) hw
def wp_X10_visit (told : Nat → Int32) (retired : Int32) (months : Nat → Int32) (Post : Int32 → Int32 → (Nat → Int32) → Prop) : Prop :=
  (wp_X10_reignsNow told retired months (fun r_1 retired_2 months_3 => (∃ k_48 : Nat, wp_X10_visit_L13 told Post k_48 r_1 (-1) 1000000 0 retired_2 months_3)))
set_option maxHeartbeats 4000000 in
set_option maxRecDepth 100000 in
theorem c_X10_visit (l : Launch) (D : va_G) (cI cB cZ cP cC : ClassId) (a_m a_m_told a_m_kept a_m_isKept a_m_refused a_m_months a_m_heirs a_m_lasts a_m_cares a_m_bestCares a_m_ones a_m_others a_m_bytes a_m_anew a_m_values : Nat) (above : Int64) (below : Int64) (retired : Int32) (manyLine : Int32) (bytesLong : Int32) (tokenAt : Int32) (tokenLong : Int32) (token : Int32) (value : Int32) (told : Nat → Int32) (months : Nat → Int32)  (sz : Nat) (Post : Int32 → Int32 → (Nat → Int32) → Prop) (hw : wp_X10_visit told retired months Post) :
    Met l yX10_visit (Cond.code yX10_visit cX10_visit 6 (some .int) :: wsAll) rm_X10_visit (va_Pc [.ref a_m] (mxP D (mxTy cI cB cZ cP cC) sz (ww_X10_visit a_m a_m_told a_m_kept a_m_isKept a_m_refused a_m_months a_m_heirs a_m_lasts a_m_cares a_m_bestCares a_m_ones a_m_others a_m_bytes a_m_anew a_m_values cI cB cZ cP cC above below retired manyLine bytesLong tokenAt tokenLong token value told months))) (qq_X10_visit D a_m a_m_told a_m_kept a_m_isKept a_m_refused a_m_months a_m_heirs a_m_lasts a_m_cares a_m_bestCares a_m_ones a_m_others a_m_bytes a_m_anew a_m_values cI cB cZ cP cC above below manyLine bytesLong tokenAt tokenLong token value told Post (va_A (ww_X10_visit a_m a_m_told a_m_kept a_m_isKept a_m_refused a_m_months a_m_heirs a_m_lasts a_m_cares a_m_bestCares a_m_ones a_m_others a_m_bytes a_m_anew a_m_values cI cB cZ cP cC above below retired manyLine bytesLong tokenAt tokenLong token value told months) sz)) 0 0 (va_A (ww_X10_visit a_m a_m_told a_m_kept a_m_isKept a_m_refused a_m_months a_m_heirs a_m_lasts a_m_cares a_m_bestCares a_m_ones a_m_others a_m_bytes a_m_anew a_m_values cI cB cZ cP cC above below retired manyLine bytesLong tokenAt tokenLong token value told months) sz) := by
  refine mx_of (Qc := qq_X10_visit D a_m a_m_told a_m_kept a_m_isKept a_m_refused a_m_months a_m_heirs a_m_lasts a_m_cares a_m_bestCares a_m_ones a_m_others a_m_bytes a_m_anew a_m_values cI cB cZ cP cC above below manyLine bytesLong tokenAt tokenLong token value told Post) (by decide) (Nat.le_of_ble_eq_true rfl) ?_
  intro p e s m bl meth c A ls C0 hP hD hS hl
  replace C0 : mxC p s m [.ref a_m].toArray meth c cX10_visit RX10 (some .int) 6 D (mxTy cI cB cZ cP cC) A := C0
  obtain ⟨hx, hb, hr, hlocks, hml, hown, hts, hK, hA⟩ := id C0
  replace hl : lv_has ls 6 [(0, .ref a_m)] := hl
  unfold wp_X10_visit at hw
  refine lv_aload_n hx hb dX10_visit_0 rfl (lv_at hl 0 rfl) ?_
  refine mx_ki (mx_rV (rm := rm_X10_reignsNow) (rest := []) (C := RX10) hx hb hml hown hts (c_X10_reignsNow l D cI cB cZ cP cC a_m a_m_told a_m_kept a_m_isKept a_m_refused a_m_months a_m_heirs a_m_lasts a_m_cares a_m_bestCares a_m_ones a_m_others a_m_bytes a_m_anew a_m_values above below retired manyLine bytesLong tokenAt tokenLong token value told months _ _ hw) q_657 q_658 q_659 q_5 q_660 hd_X10_reignsNow ⟨(Nat.le_of_ble_eq_true rfl), (Nat.le_of_ble_eq_true rfl)⟩ rfl rfl hK hP hD [0, 1, 2] rfl rfl 10 0 rfl rfl rfl rfl hl.1 rfl (Nat.le_of_ble_eq_true rfl) dX10_visit_1 ⟨(Nat.le_of_ble_eq_true rfl), (Nat.le_of_ble_eq_true rfl)⟩) hP hD hS hA [0, 1, 2] [] [0, 1, 2] (fun u => ww_X10_visit a_m a_m_told a_m_kept a_m_isKept a_m_refused a_m_months a_m_heirs a_m_lasts a_m_cares a_m_bestCares a_m_ones a_m_others a_m_bytes a_m_anew a_m_values cI cB cZ cP cC above below (u.1) manyLine bytesLong tokenAt tokenLong token value told (u.2)) rfl rfl rfl (by decide) rfl (fun _ => rfl) (fun r_1 u H locs hw hP hD hS => ?_)
  obtain ⟨retired_2, months_3⟩ := u
  try dsimp only at hw
  replace hP : va_P D vwCl (ww_X10_visit a_m a_m_told a_m_kept a_m_isKept a_m_refused a_m_months a_m_heirs a_m_lasts a_m_cares a_m_bestCares a_m_ones a_m_others a_m_bytes a_m_anew a_m_values cI cB cZ cP cC above below retired_2 manyLine bytesLong tokenAt tokenLong token value told months_3) H := hP
  replace hD : va_D A (ww_X10_visit a_m a_m_told a_m_kept a_m_isKept a_m_refused a_m_months a_m_heirs a_m_lasts a_m_cares a_m_bestCares a_m_ones a_m_others a_m_bytes a_m_anew a_m_values cI cB cZ cP cC above below retired_2 manyLine bytesLong tokenAt tokenLong token value told months_3) := hD
  refine lv_istore_n (lv' := [(1, .int r_1), (0, .ref a_m)]) hx hb dX10_visit_4 rfl hl (by decide) rfl (fun ls hl => ?_)
  refine lv_iconst (v := (-1)) hx hb dX10_visit_5 (by decide) ?_
  refine lv_istore_n (lv' := [(2, .int (-1)), (1, .int r_1), (0, .ref a_m)]) hx hb dX10_visit_6 rfl hl (by decide) rfl (fun ls hl => ?_)
  refine lv_ldc (v := 1000000) hx hb hown (hts _ q_747) dX10_visit_7 ?_
  refine lv_istore_n (lv' := [(3, .int 1000000), (2, .int (-1)), (1, .int r_1), (0, .ref a_m)]) hx hb dX10_visit_9 rfl hl (by decide) rfl (fun ls hl => ?_)
  refine lv_iconst (v := 0) hx hb dX10_visit_10 (by decide) ?_
  refine lv_istore (lv' := [(4, .int 0), (3, .int 1000000), (2, .int (-1)), (1, .int r_1), (0, .ref a_m)]) hx hb dX10_visit_11 hl (by decide) rfl (fun ls hl => ?_)
  obtain ⟨n0, hw⟩ := hw
  refine k_X10_visit_L13 C0  n0 r_1 (-1) 1000000 0 retired_2 months_3 _ _ _ hP hD hS (lv_sub hl [4, 3, 2, 1, 0] rfl) hw
/-! PramStateModel.note(IIIII)I -/
abbrev ww_X10_note (a_m a_m_told a_m_kept a_m_isKept a_m_refused a_m_months a_m_heirs a_m_lasts a_m_cares a_m_bestCares a_m_ones a_m_others a_m_bytes a_m_anew a_m_values : Nat) (cI cB cZ cP cC : ClassId) (above : Int64) (below : Int64) (retired : Int32) (manyLine : Int32) (bytesLong : Int32) (tokenAt : Int32) (tokenLong : Int32) (token : Int32) (value : Int32) (told : Nat → Int32) (refused : Nat → Int32) : va_W := [(a_m, .inr (10, [.ref a_m_told, .ref a_m_kept, .ref a_m_isKept, .ref a_m_refused, .long above, .long below, .ref a_m_months, .int retired, .ref a_m_heirs, .ref a_m_lasts, .int manyLine, .ref a_m_cares, .ref a_m_bestCares, .ref a_m_ones, .ref a_m_others, .ref a_m_bytes, .int bytesLong, .int tokenAt, .int tokenLong, .int token, .int value, .ref a_m_anew, .ref a_m_values])), (a_m_told, .inl (cI, 190, .inl told)), (a_m_refused, .inl (cI, 3, .inl refused))]
abbrev qq_X10_note (D : va_G) (a_m a_m_told a_m_kept a_m_isKept a_m_refused a_m_months a_m_heirs a_m_lasts a_m_cares a_m_bestCares a_m_ones a_m_others a_m_bytes a_m_anew a_m_values : Nat) (cI cB cZ cP cC : ClassId) (above : Int64) (below : Int64) (retired : Int32) (manyLine : Int32) (bytesLong : Int32) (tokenAt : Int32) (tokenLong : Int32) (token : Int32) (value : Int32) (Post : Int32 → (Nat → Int32) → (Nat → Int32) → Prop) (A : Nat → Prop) : Array Value → State → Outcome → State → Prop := va_Qi (fun (r : Int32) (u : (Nat → Int32) × (Nat → Int32)) => Post r u.1 u.2) (fun (u : (Nat → Int32) × (Nat → Int32)) t => mxB D (mxTy cI cB cZ cP cC) A (ww_X10_note a_m a_m_told a_m_kept a_m_isKept a_m_refused a_m_months a_m_heirs a_m_lasts a_m_cares a_m_bestCares a_m_ones a_m_others a_m_bytes a_m_anew a_m_values cI cB cZ cP cC above below retired manyLine bytesLong tokenAt tokenLong token value (u.1) (u.2)) t) A
abbrev rm_X10_note : Room := { frames := 2, cells := 0, slots := 0, locals := 46 }
theorem hd_X10_note : yX10_note.cls = RX10 ∧ yX10_note.cls ≠ "java/lang/invoke/MethodHandle" ∧ yX10_note.cls ≠ "java/lang/invoke/VarHandle" ∧ (parseMethodDescriptor yX10_note.desc).map (fun d => d.parameters.length) = some 5 := by decide +kernel
def wp_X10_note_J51  (Post : Int32 → (Nat → Int32) → (Nat → Int32) → Prop)  (told : Nat → Int32) (refused : Nat → Int32) : Prop :=
  (wp_X10_bad refused (-2) (fun r_3 refused_4 => Post r_3 told refused_4))
set_option maxHeartbeats 4000000 in
set_option maxRecDepth 100000 in
theorem k_X10_note_J51 {p : Program} {l : Launch} {e : Env} {s : State} {m : MethodId} {ar : Array Value} {bl : List Frame} {meth : Method} {c : Code} {D : va_G} {A : Nat → Prop} {cI cB cZ cP cC : ClassId} {a_m a_m_told a_m_kept a_m_isKept a_m_refused a_m_months a_m_heirs a_m_lasts a_m_cares a_m_bestCares a_m_ones a_m_others a_m_bytes a_m_anew a_m_values : Nat} {above : Int64} {below : Int64} {retired : Int32} {manyLine : Int32} {bytesLong : Int32} {tokenAt : Int32} {tokenLong : Int32} {token : Int32} {value : Int32} {Post : Int32 → (Nat → Int32) → (Nat → Int32) → Prop} (C0 : mxC p s m ar meth c cX10_note RX10 (some .int) 7 D (mxTy cI cB cZ cP cC) A) :
    ∀ (told : Nat → Int32) (refused : Nat → Int32) (H : Heap) (locs : List Loc) (ls : Array Slot), va_P D vwCl (ww_X10_note a_m a_m_told a_m_kept a_m_isKept a_m_refused a_m_months a_m_heirs a_m_lasts a_m_cares a_m_bestCares a_m_ones a_m_others a_m_bytes a_m_anew a_m_values cI cB cZ cP cC above below retired manyLine bytesLong tokenAt tokenLong token value told refused) H → va_D A (ww_X10_note a_m a_m_told a_m_kept a_m_isKept a_m_refused a_m_months a_m_heirs a_m_lasts a_m_cares a_m_bestCares a_m_ones a_m_others a_m_bytes a_m_anew a_m_values cI cB cZ cP cC above below retired manyLine bytesLong tokenAt tokenLong token value told refused) → va_S A s.heap H locs → lv_has ls 7 [(0, .ref a_m)] → wp_X10_note_J51 Post  told refused → W p l e rm_X10_note s m ar bl meth c H locs 0 0 (MQ bl (qq_X10_note D a_m a_m_told a_m_kept a_m_isKept a_m_refused a_m_months a_m_heirs a_m_lasts a_m_cares a_m_bestCares a_m_ones a_m_others a_m_bytes a_m_anew a_m_values cI cB cZ cP cC above below retired manyLine bytesLong tokenAt tokenLong token value Post A) ar s 0 0 A) (F0 m 51 ls []) := by
  obtain ⟨hx, hb, hr, hlocks, hml, hown, hts, hK, hA⟩ := id C0
  intro told refused H locs ls hP hD hS hl hw
  refine lv_aload_n hx hb dX10_note_51 rfl (lv_at hl 0 rfl) ?_
  refine lv_bipush (v := (-2)) hx hb dX10_note_52 (by decide) ?_
  refine mx_ki (mx_rV (rm := rm_X10_bad) (rest := []) (C := RX10) hx hb hml hown hts (c_X10_bad l D cI cB cZ cP cC a_m a_m_told a_m_kept a_m_isKept a_m_refused a_m_months a_m_heirs a_m_lasts a_m_cares a_m_bestCares a_m_ones a_m_others a_m_bytes a_m_anew a_m_values above below retired manyLine bytesLong tokenAt tokenLong token value refused (-2) _ _ hw) q_166 q_167 q_168 q_5 q_169 hd_X10_bad ⟨(Nat.le_of_ble_eq_true rfl), (Nat.le_of_ble_eq_true rfl)⟩ rfl rfl hK hP hD [0, 2] rfl rfl 10 0 rfl rfl rfl rfl hl.1 rfl (Nat.le_of_ble_eq_true rfl) dX10_note_54 ⟨(Nat.le_of_ble_eq_true rfl), (Nat.le_of_ble_eq_true rfl)⟩) hP hD hS hA [0, 2] [1] [1, 0, 2] (fun u => ww_X10_note a_m a_m_told a_m_kept a_m_isKept a_m_refused a_m_months a_m_heirs a_m_lasts a_m_cares a_m_bestCares a_m_ones a_m_others a_m_bytes a_m_anew a_m_values cI cB cZ cP cC above below retired manyLine bytesLong tokenAt tokenLong token value told u) rfl rfl rfl (by decide) rfl (fun _ => rfl) (fun r_3 refused_4 H locs hw hP hD hS => ?_)
  try dsimp only at hw
  replace hP : va_P D vwCl (ww_X10_note a_m a_m_told a_m_kept a_m_isKept a_m_refused a_m_months a_m_heirs a_m_lasts a_m_cares a_m_bestCares a_m_ones a_m_others a_m_bytes a_m_anew a_m_values cI cB cZ cP cC above below retired manyLine bytesLong tokenAt tokenLong token value told refused_4) H := hP
  replace hD : va_D A (ww_X10_note a_m a_m_told a_m_kept a_m_isKept a_m_refused a_m_months a_m_heirs a_m_lasts a_m_cares a_m_bestCares a_m_ones a_m_others a_m_bytes a_m_anew a_m_values cI cB cZ cP cC above below retired manyLine bytesLong tokenAt tokenLong token value told refused_4) := hD
  exact mx_iret (told, refused_4) hx hb hr hlocks rfl hw hK hP hD hS dX10_note_57
def wp_X10_note (told : Nat → Int32) (refused : Nat → Int32) (v1 : Int32) (v2 : Int32) (v3 : Int32) (v4 : Int32) (v5 : Int32) (Post : Int32 → (Nat → Int32) → (Nat → Int32) → Prop) : Prop :=
  (wp_X10_isInfant told v1 (fun r_1 => ((r_1 = 0 → (wp_X10_note_J51 Post told refused)) ∧ (¬ r_1 = 0 → (wp_X10_in (v2.toInt64) 0 35 (fun r_5 => ((r_5 = 0 → (wp_X10_note_J51 Post told refused)) ∧ (¬ r_5 = 0 → (wp_X10_isHour v3 (fun r_7 => ((r_7 = 0 → (wp_X10_note_J51 Post told refused)) ∧ (¬ r_7 = 0 → (wp_X10_in (v4.toInt64) 0 1 (fun r_9 => ((r_9 = 0 → (wp_X10_note_J51 Post told refused)) ∧ (¬ r_9 = 0 → (wp_X10_in (v5.toInt64) 0 20 (fun r_11 => ((r_11 = 0 → (wp_X10_note_J51 Post told refused)) ∧ (¬ r_11 = 0 → (((told 1) = 6 → (wp_X10_full refused (fun r_27 refused_28 => Post r_27 told refused_28))) ∧ (¬ (told 1) = 6 → (∀ x_14 : Int32, x_14 = 36 + (5 * (told 1)) → (vp_in x_14 190 ∧ (∀ f_16 : Nat → Int32, f_16 = upd told x_14.toNatClampNeg v1 → (vp_in (x_14 + 1) 190 ∧ (∀ f_18 : Nat → Int32, f_18 = upd f_16 (x_14 + 1).toNatClampNeg v2 → (vp_in (x_14 + 2) 190 ∧ (∀ f_20 : Nat → Int32, f_20 = upd f_18 (x_14 + 2).toNatClampNeg v3 → (vp_in (x_14 + 3) 190 ∧ (∀ f_22 : Nat → Int32, f_22 = upd f_20 (x_14 + 3).toNatClampNeg v4 → (vp_in (x_14 + 4) 190 ∧ (∀ f_24 : Nat → Int32, f_24 = upd f_22 (x_14 + 4).toNatClampNeg v5 → (∀ x_25 : Int32, x_25 = (f_24 1) + 1 → (∀ f_26 : Nat → Int32, f_26 = upd f_24 1 x_25 → Post (f_26 1) f_26 refused)))))))))))))))))))))))))))))))))))
set_option maxHeartbeats 4000000 in
set_option maxRecDepth 100000 in
theorem c_X10_note (l : Launch) (D : va_G) (cI cB cZ cP cC : ClassId) (a_m a_m_told a_m_kept a_m_isKept a_m_refused a_m_months a_m_heirs a_m_lasts a_m_cares a_m_bestCares a_m_ones a_m_others a_m_bytes a_m_anew a_m_values : Nat) (above : Int64) (below : Int64) (retired : Int32) (manyLine : Int32) (bytesLong : Int32) (tokenAt : Int32) (tokenLong : Int32) (token : Int32) (value : Int32) (told : Nat → Int32) (refused : Nat → Int32) (v1 : Int32) (v2 : Int32) (v3 : Int32) (v4 : Int32) (v5 : Int32) (sz : Nat) (Post : Int32 → (Nat → Int32) → (Nat → Int32) → Prop) (hw : wp_X10_note told refused v1 v2 v3 v4 v5 Post) :
    Met l yX10_note (Cond.code yX10_note cX10_note 7 (some .int) :: wsAll) rm_X10_note (va_Pc [.ref a_m, .int v1, .int v2, .int v3, .int v4, .int v5] (mxP D (mxTy cI cB cZ cP cC) sz (ww_X10_note a_m a_m_told a_m_kept a_m_isKept a_m_refused a_m_months a_m_heirs a_m_lasts a_m_cares a_m_bestCares a_m_ones a_m_others a_m_bytes a_m_anew a_m_values cI cB cZ cP cC above below retired manyLine bytesLong tokenAt tokenLong token value told refused))) (qq_X10_note D a_m a_m_told a_m_kept a_m_isKept a_m_refused a_m_months a_m_heirs a_m_lasts a_m_cares a_m_bestCares a_m_ones a_m_others a_m_bytes a_m_anew a_m_values cI cB cZ cP cC above below retired manyLine bytesLong tokenAt tokenLong token value Post (va_A (ww_X10_note a_m a_m_told a_m_kept a_m_isKept a_m_refused a_m_months a_m_heirs a_m_lasts a_m_cares a_m_bestCares a_m_ones a_m_others a_m_bytes a_m_anew a_m_values cI cB cZ cP cC above below retired manyLine bytesLong tokenAt tokenLong token value told refused) sz)) 0 0 (va_A (ww_X10_note a_m a_m_told a_m_kept a_m_isKept a_m_refused a_m_months a_m_heirs a_m_lasts a_m_cares a_m_bestCares a_m_ones a_m_others a_m_bytes a_m_anew a_m_values cI cB cZ cP cC above below retired manyLine bytesLong tokenAt tokenLong token value told refused) sz) := by
  refine mx_of (Qc := qq_X10_note D a_m a_m_told a_m_kept a_m_isKept a_m_refused a_m_months a_m_heirs a_m_lasts a_m_cares a_m_bestCares a_m_ones a_m_others a_m_bytes a_m_anew a_m_values cI cB cZ cP cC above below retired manyLine bytesLong tokenAt tokenLong token value Post) (by decide) (Nat.le_of_ble_eq_true rfl) ?_
  intro p e s m bl meth c A ls C0 hP hD hS hl
  replace C0 : mxC p s m [.ref a_m, .int v1, .int v2, .int v3, .int v4, .int v5].toArray meth c cX10_note RX10 (some .int) 7 D (mxTy cI cB cZ cP cC) A := C0
  obtain ⟨hx, hb, hr, hlocks, hml, hown, hts, hK, hA⟩ := id C0
  replace hl : lv_has ls 7 [(0, .ref a_m), (1, .int v1), (2, .int v2), (3, .int v3), (4, .int v4), (5, .int v5)] := hl
  unfold wp_X10_note at hw
  refine lv_aload_n hx hb dX10_note_0 rfl (lv_at hl 0 rfl) ?_
  refine lv_iload_n hx hb dX10_note_1 rfl (lv_at hl 1 rfl) ?_
  refine mx_ki (mx_rV (rm := rm_X10_isInfant) (rest := []) (C := RX10) hx hb hml hown hts (c_X10_isInfant l D cI cB cZ cP cC a_m a_m_told a_m_kept a_m_isKept a_m_refused a_m_months a_m_heirs a_m_lasts a_m_cares a_m_bestCares a_m_ones a_m_others a_m_bytes a_m_anew a_m_values above below retired manyLine bytesLong tokenAt tokenLong token value told v1 _ _ hw) q_472 q_473 q_474 q_5 q_475 hd_X10_isInfant ⟨(Nat.le_of_ble_eq_true rfl), (Nat.le_of_ble_eq_true rfl)⟩ rfl rfl hK hP hD [0, 1] rfl rfl 10 0 rfl rfl rfl rfl hl.1 rfl (Nat.le_of_ble_eq_true rfl) dX10_note_2 ⟨(Nat.le_of_ble_eq_true rfl), (Nat.le_of_ble_eq_true rfl)⟩) hP hD hS hA [0, 1] [2] [1, 2, 0] (fun _ => ww_X10_note a_m a_m_told a_m_kept a_m_isKept a_m_refused a_m_months a_m_heirs a_m_lasts a_m_cares a_m_bestCares a_m_ones a_m_others a_m_bytes a_m_anew a_m_values cI cB cZ cP cC above below retired manyLine bytesLong tokenAt tokenLong token value told refused) rfl rfl rfl (by decide) rfl (fun _ => rfl) (fun r_1 u H locs hw hP hD hS => ?_)
  try dsimp only at hw
  replace hP : va_P D vwCl (ww_X10_note a_m a_m_told a_m_kept a_m_isKept a_m_refused a_m_months a_m_heirs a_m_lasts a_m_cares a_m_bestCares a_m_ones a_m_others a_m_bytes a_m_anew a_m_values cI cB cZ cP cC above below retired manyLine bytesLong tokenAt tokenLong token value told refused) H := hP
  replace hD : va_D A (ww_X10_note a_m a_m_told a_m_kept a_m_isKept a_m_refused a_m_months a_m_heirs a_m_lasts a_m_cares a_m_bestCares a_m_ones a_m_others a_m_bytes a_m_anew a_m_values cI cB cZ cP cC above below retired manyLine bytesLong tokenAt tokenLong token value told refused) := hD
  refine lv_if_eq (tgt := 51) hx hb dX10_note_5 (by decide) (fun c_2 => ?_) (fun c_2 => ?_)
  · replace hw := hw.1 c_2
    exact k_X10_note_J51 C0  told refused _ _ _ hP hD hS (lv_sub hl [0] rfl) hw
  · replace hw := hw.2 c_2
    refine lv_iload_n hx hb dX10_note_8 rfl (lv_at hl 2 rfl) ?_
    refine lv_i2l (v := v2.toInt64) hx hb dX10_note_9 rfl ?_
    refine lv_lconst (v := 0) hx hb dX10_note_10 rfl ?_
    refine lv_ldc2 (v := 35) hx hb hown (hts _ q_162) dX10_note_11 ?_
    refine mx_ki (mx_rS (rm := rm_X10_in) (rest := []) hx hb hml hown hts (c_X10_in l D cI cB cZ cP cC (v2.toInt64) 0 35 _ _ hw) q_163 q_164 q_5 q_165 hd_X10_in ⟨(Nat.le_of_ble_eq_true rfl), (Nat.le_of_ble_eq_true rfl)⟩ rfl rfl hK hP hD [] rfl rfl rfl hl.1 rfl (Nat.le_of_ble_eq_true rfl) dX10_note_14 ⟨(Nat.le_of_ble_eq_true rfl), (Nat.le_of_ble_eq_true rfl)⟩) hP hD hS hA [] [0, 1, 2] [0, 1, 2] (fun _ => ww_X10_note a_m a_m_told a_m_kept a_m_isKept a_m_refused a_m_months a_m_heirs a_m_lasts a_m_cares a_m_bestCares a_m_ones a_m_others a_m_bytes a_m_anew a_m_values cI cB cZ cP cC above below retired manyLine bytesLong tokenAt tokenLong token value told refused) rfl rfl rfl (by decide) rfl (fun _ => rfl) (fun r_5 u H locs hw hP hD hS => ?_)
    try dsimp only at hw
    replace hP : va_P D vwCl (ww_X10_note a_m a_m_told a_m_kept a_m_isKept a_m_refused a_m_months a_m_heirs a_m_lasts a_m_cares a_m_bestCares a_m_ones a_m_others a_m_bytes a_m_anew a_m_values cI cB cZ cP cC above below retired manyLine bytesLong tokenAt tokenLong token value told refused) H := hP
    replace hD : va_D A (ww_X10_note a_m a_m_told a_m_kept a_m_isKept a_m_refused a_m_months a_m_heirs a_m_lasts a_m_cares a_m_bestCares a_m_ones a_m_others a_m_bytes a_m_anew a_m_values cI cB cZ cP cC above below retired manyLine bytesLong tokenAt tokenLong token value told refused) := hD
    refine lv_if_eq (tgt := 51) hx hb dX10_note_17 (by decide) (fun c_6 => ?_) (fun c_6 => ?_)
    · replace hw := hw.1 c_6
      exact k_X10_note_J51 C0  told refused _ _ _ hP hD hS (lv_sub hl [0] rfl) hw
    · replace hw := hw.2 c_6
      refine lv_iload_n hx hb dX10_note_20 rfl (lv_at hl 3 rfl) ?_
      refine mx_ki (mx_rS (rm := rm_X10_isHour) (rest := []) hx hb hml hown hts (c_X10_isHour l D cI cB cZ cP cC v3 _ _ hw) q_600 q_601 q_5 q_602 hd_X10_isHour ⟨(Nat.le_of_ble_eq_true rfl), (Nat.le_of_ble_eq_true rfl)⟩ rfl rfl hK hP hD [] rfl rfl rfl hl.1 rfl (Nat.le_of_ble_eq_true rfl) dX10_note_21 ⟨(Nat.le_of_ble_eq_true rfl), (Nat.le_of_ble_eq_true rfl)⟩) hP hD hS hA [] [0, 1, 2] [0, 1, 2] (fun _ => ww_X10_note a_m a_m_told a_m_kept a_m_isKept a_m_refused a_m_months a_m_heirs a_m_lasts a_m_cares a_m_bestCares a_m_ones a_m_others a_m_bytes a_m_anew a_m_values cI cB cZ cP cC above below retired manyLine bytesLong tokenAt tokenLong token value told refused) rfl rfl rfl (by decide) rfl (fun _ => rfl) (fun r_7 u H locs hw hP hD hS => ?_)
      try dsimp only at hw
      replace hP : va_P D vwCl (ww_X10_note a_m a_m_told a_m_kept a_m_isKept a_m_refused a_m_months a_m_heirs a_m_lasts a_m_cares a_m_bestCares a_m_ones a_m_others a_m_bytes a_m_anew a_m_values cI cB cZ cP cC above below retired manyLine bytesLong tokenAt tokenLong token value told refused) H := hP
      replace hD : va_D A (ww_X10_note a_m a_m_told a_m_kept a_m_isKept a_m_refused a_m_months a_m_heirs a_m_lasts a_m_cares a_m_bestCares a_m_ones a_m_others a_m_bytes a_m_anew a_m_values cI cB cZ cP cC above below retired manyLine bytesLong tokenAt tokenLong token value told refused) := hD
      refine lv_if_eq (tgt := 51) hx hb dX10_note_24 (by decide) (fun c_8 => ?_) (fun c_8 => ?_)
      · replace hw := hw.1 c_8
        exact k_X10_note_J51 C0  told refused _ _ _ hP hD hS (lv_sub hl [0] rfl) hw
      · replace hw := hw.2 c_8
        refine lv_iload hx hb dX10_note_27 (lv_at hl 4 rfl) ?_
        refine lv_i2l (v := v4.toInt64) hx hb dX10_note_29 rfl ?_
        refine lv_lconst (v := 0) hx hb dX10_note_30 rfl ?_
        refine lv_lconst (v := 1) hx hb dX10_note_31 rfl ?_
        refine mx_ki (mx_rS (rm := rm_X10_in) (rest := []) hx hb hml hown hts (c_X10_in l D cI cB cZ cP cC (v4.toInt64) 0 1 _ _ hw) q_163 q_164 q_5 q_165 hd_X10_in ⟨(Nat.le_of_ble_eq_true rfl), (Nat.le_of_ble_eq_true rfl)⟩ rfl rfl hK hP hD [] rfl rfl rfl hl.1 rfl (Nat.le_of_ble_eq_true rfl) dX10_note_32 ⟨(Nat.le_of_ble_eq_true rfl), (Nat.le_of_ble_eq_true rfl)⟩) hP hD hS hA [] [0, 1, 2] [0, 1, 2] (fun _ => ww_X10_note a_m a_m_told a_m_kept a_m_isKept a_m_refused a_m_months a_m_heirs a_m_lasts a_m_cares a_m_bestCares a_m_ones a_m_others a_m_bytes a_m_anew a_m_values cI cB cZ cP cC above below retired manyLine bytesLong tokenAt tokenLong token value told refused) rfl rfl rfl (by decide) rfl (fun _ => rfl) (fun r_9 u H locs hw hP hD hS => ?_)
        try dsimp only at hw
        replace hP : va_P D vwCl (ww_X10_note a_m a_m_told a_m_kept a_m_isKept a_m_refused a_m_months a_m_heirs a_m_lasts a_m_cares a_m_bestCares a_m_ones a_m_others a_m_bytes a_m_anew a_m_values cI cB cZ cP cC above below retired manyLine bytesLong tokenAt tokenLong token value told refused) H := hP
        replace hD : va_D A (ww_X10_note a_m a_m_told a_m_kept a_m_isKept a_m_refused a_m_months a_m_heirs a_m_lasts a_m_cares a_m_bestCares a_m_ones a_m_others a_m_bytes a_m_anew a_m_values cI cB cZ cP cC above below retired manyLine bytesLong tokenAt tokenLong token value told refused) := hD
        refine lv_if_eq (tgt := 51) hx hb dX10_note_35 (by decide) (fun c_10 => ?_) (fun c_10 => ?_)
        · replace hw := hw.1 c_10
          exact k_X10_note_J51 C0  told refused _ _ _ hP hD hS (lv_sub hl [0] rfl) hw
        · replace hw := hw.2 c_10
          refine lv_iload hx hb dX10_note_38 (lv_at hl 5 rfl) ?_
          refine lv_i2l (v := v5.toInt64) hx hb dX10_note_40 rfl ?_
          refine lv_lconst (v := 0) hx hb dX10_note_41 rfl ?_
          refine lv_ldc2 (v := 20) hx hb hown (hts _ q_773) dX10_note_42 ?_
          refine mx_ki (mx_rS (rm := rm_X10_in) (rest := []) hx hb hml hown hts (c_X10_in l D cI cB cZ cP cC (v5.toInt64) 0 20 _ _ hw) q_163 q_164 q_5 q_165 hd_X10_in ⟨(Nat.le_of_ble_eq_true rfl), (Nat.le_of_ble_eq_true rfl)⟩ rfl rfl hK hP hD [] rfl rfl rfl hl.1 rfl (Nat.le_of_ble_eq_true rfl) dX10_note_45 ⟨(Nat.le_of_ble_eq_true rfl), (Nat.le_of_ble_eq_true rfl)⟩) hP hD hS hA [] [0, 1, 2] [0, 1, 2] (fun _ => ww_X10_note a_m a_m_told a_m_kept a_m_isKept a_m_refused a_m_months a_m_heirs a_m_lasts a_m_cares a_m_bestCares a_m_ones a_m_others a_m_bytes a_m_anew a_m_values cI cB cZ cP cC above below retired manyLine bytesLong tokenAt tokenLong token value told refused) rfl rfl rfl (by decide) rfl (fun _ => rfl) (fun r_11 u H locs hw hP hD hS => ?_)
          try dsimp only at hw
          replace hP : va_P D vwCl (ww_X10_note a_m a_m_told a_m_kept a_m_isKept a_m_refused a_m_months a_m_heirs a_m_lasts a_m_cares a_m_bestCares a_m_ones a_m_others a_m_bytes a_m_anew a_m_values cI cB cZ cP cC above below retired manyLine bytesLong tokenAt tokenLong token value told refused) H := hP
          replace hD : va_D A (ww_X10_note a_m a_m_told a_m_kept a_m_isKept a_m_refused a_m_months a_m_heirs a_m_lasts a_m_cares a_m_bestCares a_m_ones a_m_others a_m_bytes a_m_anew a_m_values cI cB cZ cP cC above below retired manyLine bytesLong tokenAt tokenLong token value told refused) := hD
          refine lv_if_ne (tgt := 58) hx hb dX10_note_48 (by decide) (fun c_12 => ?_) (fun c_12 => ?_)
          · replace hw := hw.2 c_12
            refine lv_aload_n hx hb dX10_note_58 rfl (lv_at hl 0 rfl) ?_
            refine mx_get (ci := 10) (C := RX10) (T := TX10) (N := 23) hx hb hown in_wsX100 hts hK hP 0 rfl rfl 0 (by decide) q_91 rfl (v := .ref a_m_told) rfl dX10_note_59 ?_
            refine lv_iconst (v := 1) hx hb dX10_note_62 (by decide) ?_
            refine mx_iald hx hb hK hP 1 0 rfl rfl (mx_lit rfl) (told 1) rfl dX10_note_63 ?_
            refine lv_bipush (v := 6) hx hb dX10_note_64 (by decide) ?_
            refine lv_icmp_ne (tgt := 74) hx hb dX10_note_66 (by decide) (fun c_13 => ?_) (fun c_13 => ?_)
            · replace hw := hw.2 c_13
              refine lv_bipush (v := 36) hx hb dX10_note_74 (by decide) ?_
              refine lv_iconst (v := 5) hx hb dX10_note_76 (by decide) ?_
              refine lv_aload_n hx hb dX10_note_77 rfl (lv_at hl 0 rfl) ?_
              refine mx_get (ci := 10) (C := RX10) (T := TX10) (N := 23) hx hb hown in_wsX100 hts hK hP 0 rfl rfl 0 (by decide) q_91 rfl (v := .ref a_m_told) rfl dX10_note_78 ?_
              refine lv_iconst (v := 1) hx hb dX10_note_81 (by decide) ?_
              refine mx_iald hx hb hK hP 1 0 rfl rfl (mx_lit rfl) (told 1) rfl dX10_note_82 ?_
              refine lv_imul hx hb dX10_note_83 ?_
              refine lv_iadd hx hb dX10_note_84 ?_
              refine lv_topi (fun x_14 ex_14 => ?_)
              replace hw := hw x_14 ex_14
              refine lv_istore (lv' := [(6, .int x_14), (0, .ref a_m), (1, .int v1), (2, .int v2), (3, .int v3), (4, .int v4), (5, .int v5)]) hx hb dX10_note_85 hl (by decide) rfl (fun ls hl => ?_)
              refine lv_aload_n hx hb dX10_note_87 rfl (lv_at hl 1 rfl) ?_
              refine mx_get (ci := 10) (C := RX10) (T := TX10) (N := 23) hx hb hown in_wsX100 hts hK hP 0 rfl rfl 0 (by decide) q_91 rfl (v := .ref a_m_told) rfl dX10_note_88 ?_
              refine lv_iload hx hb dX10_note_91 (lv_at hl 0 rfl) ?_
              refine lv_iload_n hx hb dX10_note_93 rfl (lv_at hl 2 rfl) ?_
              obtain ⟨h_15, hw⟩ := hw
              obtain ⟨f_16, ef_16⟩ : ∃ y : Nat → Int32, y = upd told x_14.toNatClampNeg v1 := ⟨_, rfl⟩
              replace hw := hw f_16 ef_16
              refine mx_iast hx hb hK hP hD hS 1 0 rfl rfl h_15 f_16 ef_16 (ww_X10_note a_m a_m_told a_m_kept a_m_isKept a_m_refused a_m_months a_m_heirs a_m_lasts a_m_cares a_m_bestCares a_m_ones a_m_others a_m_bytes a_m_anew a_m_values cI cB cZ cP cC above below retired manyLine bytesLong tokenAt tokenLong token value f_16 refused) rfl dX10_note_94 (fun H locs hP hD hS => ?_)
              refine lv_aload_n hx hb dX10_note_95 rfl (lv_at hl 1 rfl) ?_
              refine mx_get (ci := 10) (C := RX10) (T := TX10) (N := 23) hx hb hown in_wsX100 hts hK hP 0 rfl rfl 0 (by decide) q_91 rfl (v := .ref a_m_told) rfl dX10_note_96 ?_
              refine lv_iload hx hb dX10_note_99 (lv_at hl 0 rfl) ?_
              refine lv_iconst (v := 1) hx hb dX10_note_101 (by decide) ?_
              refine lv_iadd hx hb dX10_note_102 ?_
              refine lv_iload_n hx hb dX10_note_103 rfl (lv_at hl 3 rfl) ?_
              obtain ⟨h_17, hw⟩ := hw
              obtain ⟨f_18, ef_18⟩ : ∃ y : Nat → Int32, y = upd f_16 (x_14 + 1).toNatClampNeg v2 := ⟨_, rfl⟩
              replace hw := hw f_18 ef_18
              refine mx_iast hx hb hK hP hD hS 1 0 rfl rfl h_17 f_18 ef_18 (ww_X10_note a_m a_m_told a_m_kept a_m_isKept a_m_refused a_m_months a_m_heirs a_m_lasts a_m_cares a_m_bestCares a_m_ones a_m_others a_m_bytes a_m_anew a_m_values cI cB cZ cP cC above below retired manyLine bytesLong tokenAt tokenLong token value f_18 refused) rfl dX10_note_104 (fun H locs hP hD hS => ?_)
              refine lv_aload_n hx hb dX10_note_105 rfl (lv_at hl 1 rfl) ?_
              refine mx_get (ci := 10) (C := RX10) (T := TX10) (N := 23) hx hb hown in_wsX100 hts hK hP 0 rfl rfl 0 (by decide) q_91 rfl (v := .ref a_m_told) rfl dX10_note_106 ?_
              refine lv_iload hx hb dX10_note_109 (lv_at hl 0 rfl) ?_
              refine lv_iconst (v := 2) hx hb dX10_note_111 (by decide) ?_
              refine lv_iadd hx hb dX10_note_112 ?_
              refine lv_iload_n hx hb dX10_note_113 rfl (lv_at hl 4 rfl) ?_
              obtain ⟨h_19, hw⟩ := hw
              obtain ⟨f_20, ef_20⟩ : ∃ y : Nat → Int32, y = upd f_18 (x_14 + 2).toNatClampNeg v3 := ⟨_, rfl⟩
              replace hw := hw f_20 ef_20
              refine mx_iast hx hb hK hP hD hS 1 0 rfl rfl h_19 f_20 ef_20 (ww_X10_note a_m a_m_told a_m_kept a_m_isKept a_m_refused a_m_months a_m_heirs a_m_lasts a_m_cares a_m_bestCares a_m_ones a_m_others a_m_bytes a_m_anew a_m_values cI cB cZ cP cC above below retired manyLine bytesLong tokenAt tokenLong token value f_20 refused) rfl dX10_note_114 (fun H locs hP hD hS => ?_)
              refine lv_aload_n hx hb dX10_note_115 rfl (lv_at hl 1 rfl) ?_
              refine mx_get (ci := 10) (C := RX10) (T := TX10) (N := 23) hx hb hown in_wsX100 hts hK hP 0 rfl rfl 0 (by decide) q_91 rfl (v := .ref a_m_told) rfl dX10_note_116 ?_
              refine lv_iload hx hb dX10_note_119 (lv_at hl 0 rfl) ?_
              refine lv_iconst (v := 3) hx hb dX10_note_121 (by decide) ?_
              refine lv_iadd hx hb dX10_note_122 ?_
              refine lv_iload hx hb dX10_note_123 (lv_at hl 5 rfl) ?_
              obtain ⟨h_21, hw⟩ := hw
              obtain ⟨f_22, ef_22⟩ : ∃ y : Nat → Int32, y = upd f_20 (x_14 + 3).toNatClampNeg v4 := ⟨_, rfl⟩
              replace hw := hw f_22 ef_22
              refine mx_iast hx hb hK hP hD hS 1 0 rfl rfl h_21 f_22 ef_22 (ww_X10_note a_m a_m_told a_m_kept a_m_isKept a_m_refused a_m_months a_m_heirs a_m_lasts a_m_cares a_m_bestCares a_m_ones a_m_others a_m_bytes a_m_anew a_m_values cI cB cZ cP cC above below retired manyLine bytesLong tokenAt tokenLong token value f_22 refused) rfl dX10_note_125 (fun H locs hP hD hS => ?_)
              refine lv_aload_n hx hb dX10_note_126 rfl (lv_at hl 1 rfl) ?_
              refine mx_get (ci := 10) (C := RX10) (T := TX10) (N := 23) hx hb hown in_wsX100 hts hK hP 0 rfl rfl 0 (by decide) q_91 rfl (v := .ref a_m_told) rfl dX10_note_127 ?_
              refine lv_iload hx hb dX10_note_130 (lv_at hl 0 rfl) ?_
              refine lv_iconst (v := 4) hx hb dX10_note_132 (by decide) ?_
              refine lv_iadd hx hb dX10_note_133 ?_
              refine lv_iload hx hb dX10_note_134 (lv_at hl 6 rfl) ?_
              obtain ⟨h_23, hw⟩ := hw
              obtain ⟨f_24, ef_24⟩ : ∃ y : Nat → Int32, y = upd f_22 (x_14 + 4).toNatClampNeg v5 := ⟨_, rfl⟩
              replace hw := hw f_24 ef_24
              refine mx_iast hx hb hK hP hD hS 1 0 rfl rfl h_23 f_24 ef_24 (ww_X10_note a_m a_m_told a_m_kept a_m_isKept a_m_refused a_m_months a_m_heirs a_m_lasts a_m_cares a_m_bestCares a_m_ones a_m_others a_m_bytes a_m_anew a_m_values cI cB cZ cP cC above below retired manyLine bytesLong tokenAt tokenLong token value f_24 refused) rfl dX10_note_136 (fun H locs hP hD hS => ?_)
              refine lv_aload_n hx hb dX10_note_137 rfl (lv_at hl 1 rfl) ?_
              refine mx_get (ci := 10) (C := RX10) (T := TX10) (N := 23) hx hb hown in_wsX100 hts hK hP 0 rfl rfl 0 (by decide) q_91 rfl (v := .ref a_m_told) rfl dX10_note_138 ?_
              refine lv_iconst (v := 1) hx hb dX10_note_141 (by decide) ?_
              refine lv_dup2_11 hx hb dX10_note_142 rfl rfl ?_
              refine mx_iald hx hb hK hP 1 0 rfl rfl (mx_lit rfl) (f_24 1) rfl dX10_note_143 ?_
              refine lv_iconst (v := 1) hx hb dX10_note_144 (by decide) ?_
              refine lv_iadd hx hb dX10_note_145 ?_
              refine lv_topi (fun x_25 ex_25 => ?_)
              replace hw := hw x_25 ex_25
              obtain ⟨f_26, ef_26⟩ : ∃ y : Nat → Int32, y = upd f_24 1 x_25 := ⟨_, rfl⟩
              replace hw := hw f_26 ef_26
              refine mx_iast hx hb hK hP hD hS 1 0 rfl rfl (mx_lit rfl) f_26 ef_26 (ww_X10_note a_m a_m_told a_m_kept a_m_isKept a_m_refused a_m_months a_m_heirs a_m_lasts a_m_cares a_m_bestCares a_m_ones a_m_others a_m_bytes a_m_anew a_m_values cI cB cZ cP cC above below retired manyLine bytesLong tokenAt tokenLong token value f_26 refused) rfl dX10_note_146 (fun H locs hP hD hS => ?_)
              refine lv_aload_n hx hb dX10_note_147 rfl (lv_at hl 1 rfl) ?_
              refine mx_get (ci := 10) (C := RX10) (T := TX10) (N := 23) hx hb hown in_wsX100 hts hK hP 0 rfl rfl 0 (by decide) q_91 rfl (v := .ref a_m_told) rfl dX10_note_148 ?_
              refine lv_iconst (v := 1) hx hb dX10_note_151 (by decide) ?_
              refine mx_iald hx hb hK hP 1 0 rfl rfl (mx_lit rfl) (f_26 1) rfl dX10_note_152 ?_
              exact mx_iret (f_26, refused) hx hb hr hlocks rfl hw hK hP hD hS dX10_note_153
            · replace hw := hw.1 c_13
              refine lv_aload_n hx hb dX10_note_69 rfl (lv_at hl 0 rfl) ?_
              refine mx_ki (mx_rV (rm := rm_X10_full) (rest := []) (C := RX10) hx hb hml hown hts (c_X10_full l D cI cB cZ cP cC a_m a_m_told a_m_kept a_m_isKept a_m_refused a_m_months a_m_heirs a_m_lasts a_m_cares a_m_bestCares a_m_ones a_m_others a_m_bytes a_m_anew a_m_values above below retired manyLine bytesLong tokenAt tokenLong token value refused _ _ hw) q_170 q_171 q_172 q_5 q_173 hd_X10_full ⟨(Nat.le_of_ble_eq_true rfl), (Nat.le_of_ble_eq_true rfl)⟩ rfl rfl hK hP hD [0, 2] rfl rfl 10 0 rfl rfl rfl rfl hl.1 rfl (Nat.le_of_ble_eq_true rfl) dX10_note_70 ⟨(Nat.le_of_ble_eq_true rfl), (Nat.le_of_ble_eq_true rfl)⟩) hP hD hS hA [0, 2] [1] [1, 0, 2] (fun u => ww_X10_note a_m a_m_told a_m_kept a_m_isKept a_m_refused a_m_months a_m_heirs a_m_lasts a_m_cares a_m_bestCares a_m_ones a_m_others a_m_bytes a_m_anew a_m_values cI cB cZ cP cC above below retired manyLine bytesLong tokenAt tokenLong token value told u) rfl rfl rfl (by decide) rfl (fun _ => rfl) (fun r_27 refused_28 H locs hw hP hD hS => ?_)
              try dsimp only at hw
              replace hP : va_P D vwCl (ww_X10_note a_m a_m_told a_m_kept a_m_isKept a_m_refused a_m_months a_m_heirs a_m_lasts a_m_cares a_m_bestCares a_m_ones a_m_others a_m_bytes a_m_anew a_m_values cI cB cZ cP cC above below retired manyLine bytesLong tokenAt tokenLong token value told refused_28) H := hP
              replace hD : va_D A (ww_X10_note a_m a_m_told a_m_kept a_m_isKept a_m_refused a_m_months a_m_heirs a_m_lasts a_m_cares a_m_bestCares a_m_ones a_m_others a_m_bytes a_m_anew a_m_values cI cB cZ cP cC above below retired manyLine bytesLong tokenAt tokenLong token value told refused_28) := hD
              exact mx_iret (told, refused_28) hx hb hr hlocks rfl hw hK hP hD hS dX10_note_73
          · replace hw := hw.1 c_12
            exact k_X10_note_J51 C0  told refused _ _ _ hP hD hS (lv_sub hl [0] rfl) hw
/-! PramStateModel.heard(II)I -/
abbrev ww_X10_heard (a_m a_m_told a_m_kept a_m_isKept a_m_refused a_m_months a_m_heirs a_m_lasts a_m_cares a_m_bestCares a_m_ones a_m_others a_m_bytes a_m_anew a_m_values : Nat) (cI cB cZ cP cC : ClassId) (above : Int64) (below : Int64) (retired : Int32) (manyLine : Int32) (bytesLong : Int32) (tokenAt : Int32) (tokenLong : Int32) (token : Int32) (value : Int32) (told : Nat → Int32) (refused : Nat → Int32) : va_W := [(a_m, .inr (10, [.ref a_m_told, .ref a_m_kept, .ref a_m_isKept, .ref a_m_refused, .long above, .long below, .ref a_m_months, .int retired, .ref a_m_heirs, .ref a_m_lasts, .int manyLine, .ref a_m_cares, .ref a_m_bestCares, .ref a_m_ones, .ref a_m_others, .ref a_m_bytes, .int bytesLong, .int tokenAt, .int tokenLong, .int token, .int value, .ref a_m_anew, .ref a_m_values])), (a_m_told, .inl (cI, 190, .inl told)), (a_m_refused, .inl (cI, 3, .inl refused))]
abbrev qq_X10_heard (D : va_G) (a_m a_m_told a_m_kept a_m_isKept a_m_refused a_m_months a_m_heirs a_m_lasts a_m_cares a_m_bestCares a_m_ones a_m_others a_m_bytes a_m_anew a_m_values : Nat) (cI cB cZ cP cC : ClassId) (above : Int64) (below : Int64) (retired : Int32) (manyLine : Int32) (bytesLong : Int32) (tokenAt : Int32) (tokenLong : Int32) (token : Int32) (value : Int32) (Post : Int32 → (Nat → Int32) → (Nat → Int32) → Prop) (A : Nat → Prop) : Array Value → State → Outcome → State → Prop := va_Qi (fun (r : Int32) (u : (Nat → Int32) × (Nat → Int32)) => Post r u.1 u.2) (fun (u : (Nat → Int32) × (Nat → Int32)) t => mxB D (mxTy cI cB cZ cP cC) A (ww_X10_heard a_m a_m_told a_m_kept a_m_isKept a_m_refused a_m_months a_m_heirs a_m_lasts a_m_cares a_m_bestCares a_m_ones a_m_others a_m_bytes a_m_anew a_m_values cI cB cZ cP cC above below retired manyLine bytesLong tokenAt tokenLong token value (u.1) (u.2)) t) A
abbrev rm_X10_heard : Room := { frames := 2, cells := 0, slots := 0, locals := 46 }
theorem hd_X10_heard : yX10_heard.cls = RX10 ∧ yX10_heard.cls ≠ "java/lang/invoke/MethodHandle" ∧ yX10_heard.cls ≠ "java/lang/invoke/VarHandle" ∧ (parseMethodDescriptor yX10_heard.desc).map (fun d => d.parameters.length) = some 2 := by decide +kernel
def wp_X10_heard_J18  (Post : Int32 → (Nat → Int32) → (Nat → Int32) → Prop)  (told : Nat → Int32) (refused : Nat → Int32) : Prop :=
  (wp_X10_bad refused (-2) (fun r_3 refused_4 => Post r_3 told refused_4))
set_option maxHeartbeats 4000000 in
set_option maxRecDepth 100000 in
theorem k_X10_heard_J18 {p : Program} {l : Launch} {e : Env} {s : State} {m : MethodId} {ar : Array Value} {bl : List Frame} {meth : Method} {c : Code} {D : va_G} {A : Nat → Prop} {cI cB cZ cP cC : ClassId} {a_m a_m_told a_m_kept a_m_isKept a_m_refused a_m_months a_m_heirs a_m_lasts a_m_cares a_m_bestCares a_m_ones a_m_others a_m_bytes a_m_anew a_m_values : Nat} {above : Int64} {below : Int64} {retired : Int32} {manyLine : Int32} {bytesLong : Int32} {tokenAt : Int32} {tokenLong : Int32} {token : Int32} {value : Int32} {Post : Int32 → (Nat → Int32) → (Nat → Int32) → Prop} (C0 : mxC p s m ar meth c cX10_heard RX10 (some .int) 3 D (mxTy cI cB cZ cP cC) A) :
    ∀ (told : Nat → Int32) (refused : Nat → Int32) (H : Heap) (locs : List Loc) (ls : Array Slot), va_P D vwCl (ww_X10_heard a_m a_m_told a_m_kept a_m_isKept a_m_refused a_m_months a_m_heirs a_m_lasts a_m_cares a_m_bestCares a_m_ones a_m_others a_m_bytes a_m_anew a_m_values cI cB cZ cP cC above below retired manyLine bytesLong tokenAt tokenLong token value told refused) H → va_D A (ww_X10_heard a_m a_m_told a_m_kept a_m_isKept a_m_refused a_m_months a_m_heirs a_m_lasts a_m_cares a_m_bestCares a_m_ones a_m_others a_m_bytes a_m_anew a_m_values cI cB cZ cP cC above below retired manyLine bytesLong tokenAt tokenLong token value told refused) → va_S A s.heap H locs → lv_has ls 3 [(0, .ref a_m)] → wp_X10_heard_J18 Post  told refused → W p l e rm_X10_heard s m ar bl meth c H locs 0 0 (MQ bl (qq_X10_heard D a_m a_m_told a_m_kept a_m_isKept a_m_refused a_m_months a_m_heirs a_m_lasts a_m_cares a_m_bestCares a_m_ones a_m_others a_m_bytes a_m_anew a_m_values cI cB cZ cP cC above below retired manyLine bytesLong tokenAt tokenLong token value Post A) ar s 0 0 A) (F0 m 18 ls []) := by
  obtain ⟨hx, hb, hr, hlocks, hml, hown, hts, hK, hA⟩ := id C0
  intro told refused H locs ls hP hD hS hl hw
  refine lv_aload_n hx hb dX10_heard_18 rfl (lv_at hl 0 rfl) ?_
  refine lv_bipush (v := (-2)) hx hb dX10_heard_19 (by decide) ?_
  refine mx_ki (mx_rV (rm := rm_X10_bad) (rest := []) (C := RX10) hx hb hml hown hts (c_X10_bad l D cI cB cZ cP cC a_m a_m_told a_m_kept a_m_isKept a_m_refused a_m_months a_m_heirs a_m_lasts a_m_cares a_m_bestCares a_m_ones a_m_others a_m_bytes a_m_anew a_m_values above below retired manyLine bytesLong tokenAt tokenLong token value refused (-2) _ _ hw) q_166 q_167 q_168 q_5 q_169 hd_X10_bad ⟨(Nat.le_of_ble_eq_true rfl), (Nat.le_of_ble_eq_true rfl)⟩ rfl rfl hK hP hD [0, 2] rfl rfl 10 0 rfl rfl rfl rfl hl.1 rfl (Nat.le_of_ble_eq_true rfl) dX10_heard_21 ⟨(Nat.le_of_ble_eq_true rfl), (Nat.le_of_ble_eq_true rfl)⟩) hP hD hS hA [0, 2] [1] [1, 0, 2] (fun u => ww_X10_heard a_m a_m_told a_m_kept a_m_isKept a_m_refused a_m_months a_m_heirs a_m_lasts a_m_cares a_m_bestCares a_m_ones a_m_others a_m_bytes a_m_anew a_m_values cI cB cZ cP cC above below retired manyLine bytesLong tokenAt tokenLong token value told u) rfl rfl rfl (by decide) rfl (fun _ => rfl) (fun r_3 refused_4 H locs hw hP hD hS => ?_)
  try dsimp only at hw
  replace hP : va_P D vwCl (ww_X10_heard a_m a_m_told a_m_kept a_m_isKept a_m_refused a_m_months a_m_heirs a_m_lasts a_m_cares a_m_bestCares a_m_ones a_m_others a_m_bytes a_m_anew a_m_values cI cB cZ cP cC above below retired manyLine bytesLong tokenAt tokenLong token value told refused_4) H := hP
  replace hD : va_D A (ww_X10_heard a_m a_m_told a_m_kept a_m_isKept a_m_refused a_m_months a_m_heirs a_m_lasts a_m_cares a_m_bestCares a_m_ones a_m_others a_m_bytes a_m_anew a_m_values cI cB cZ cP cC above below retired manyLine bytesLong tokenAt tokenLong token value told refused_4) := hD
  exact mx_iret (told, refused_4) hx hb hr hlocks rfl hw hK hP hD hS dX10_heard_24
def wp_X10_heard (told : Nat → Int32) (refused : Nat → Int32) (v1 : Int32) (v2 : Int32) (Post : Int32 → (Nat → Int32) → (Nat → Int32) → Prop) : Prop :=
  (wp_X10_isInfant told v1 (fun r_1 => ((r_1 = 0 → (wp_X10_heard_J18 Post told refused)) ∧ (¬ r_1 = 0 → (wp_X10_in (v2.toInt64) 0 1 (fun r_5 => ((r_5 = 0 → (wp_X10_heard_J18 Post told refused)) ∧ (¬ r_5 = 0 → (((told 2) = 6 → (wp_X10_full refused (fun r_14 refused_15 => Post r_14 told refused_15))) ∧ (¬ (told 2) = 6 → (vp_in (66 + (2 * (told 2))) 190 ∧ (∀ f_9 : Nat → Int32, f_9 = upd told (66 + (2 * (told 2))).toNatClampNeg v1 → (vp_in ((66 + (2 * (f_9 2))) + 1) 190 ∧ (∀ f_11 : Nat → Int32, f_11 = upd f_9 ((66 + (2 * (f_9 2))) + 1).toNatClampNeg v2 → (∀ x_12 : Int32, x_12 = (f_11 2) + 1 → (∀ f_13 : Nat → Int32, f_13 = upd f_11 2 x_12 → Post (f_13 2) f_13 refused))))))))))))))))
set_option maxHeartbeats 4000000 in
set_option maxRecDepth 100000 in
theorem c_X10_heard (l : Launch) (D : va_G) (cI cB cZ cP cC : ClassId) (a_m a_m_told a_m_kept a_m_isKept a_m_refused a_m_months a_m_heirs a_m_lasts a_m_cares a_m_bestCares a_m_ones a_m_others a_m_bytes a_m_anew a_m_values : Nat) (above : Int64) (below : Int64) (retired : Int32) (manyLine : Int32) (bytesLong : Int32) (tokenAt : Int32) (tokenLong : Int32) (token : Int32) (value : Int32) (told : Nat → Int32) (refused : Nat → Int32) (v1 : Int32) (v2 : Int32) (sz : Nat) (Post : Int32 → (Nat → Int32) → (Nat → Int32) → Prop) (hw : wp_X10_heard told refused v1 v2 Post) :
    Met l yX10_heard (Cond.code yX10_heard cX10_heard 3 (some .int) :: wsAll) rm_X10_heard (va_Pc [.ref a_m, .int v1, .int v2] (mxP D (mxTy cI cB cZ cP cC) sz (ww_X10_heard a_m a_m_told a_m_kept a_m_isKept a_m_refused a_m_months a_m_heirs a_m_lasts a_m_cares a_m_bestCares a_m_ones a_m_others a_m_bytes a_m_anew a_m_values cI cB cZ cP cC above below retired manyLine bytesLong tokenAt tokenLong token value told refused))) (qq_X10_heard D a_m a_m_told a_m_kept a_m_isKept a_m_refused a_m_months a_m_heirs a_m_lasts a_m_cares a_m_bestCares a_m_ones a_m_others a_m_bytes a_m_anew a_m_values cI cB cZ cP cC above below retired manyLine bytesLong tokenAt tokenLong token value Post (va_A (ww_X10_heard a_m a_m_told a_m_kept a_m_isKept a_m_refused a_m_months a_m_heirs a_m_lasts a_m_cares a_m_bestCares a_m_ones a_m_others a_m_bytes a_m_anew a_m_values cI cB cZ cP cC above below retired manyLine bytesLong tokenAt tokenLong token value told refused) sz)) 0 0 (va_A (ww_X10_heard a_m a_m_told a_m_kept a_m_isKept a_m_refused a_m_months a_m_heirs a_m_lasts a_m_cares a_m_bestCares a_m_ones a_m_others a_m_bytes a_m_anew a_m_values cI cB cZ cP cC above below retired manyLine bytesLong tokenAt tokenLong token value told refused) sz) := by
  refine mx_of (Qc := qq_X10_heard D a_m a_m_told a_m_kept a_m_isKept a_m_refused a_m_months a_m_heirs a_m_lasts a_m_cares a_m_bestCares a_m_ones a_m_others a_m_bytes a_m_anew a_m_values cI cB cZ cP cC above below retired manyLine bytesLong tokenAt tokenLong token value Post) (by decide) (Nat.le_of_ble_eq_true rfl) ?_
  intro p e s m bl meth c A ls C0 hP hD hS hl
  replace C0 : mxC p s m [.ref a_m, .int v1, .int v2].toArray meth c cX10_heard RX10 (some .int) 3 D (mxTy cI cB cZ cP cC) A := C0
  obtain ⟨hx, hb, hr, hlocks, hml, hown, hts, hK, hA⟩ := id C0
  replace hl : lv_has ls 3 [(0, .ref a_m), (1, .int v1), (2, .int v2)] := hl
  unfold wp_X10_heard at hw
  refine lv_aload_n hx hb dX10_heard_0 rfl (lv_at hl 0 rfl) ?_
  refine lv_iload_n hx hb dX10_heard_1 rfl (lv_at hl 1 rfl) ?_
  refine mx_ki (mx_rV (rm := rm_X10_isInfant) (rest := []) (C := RX10) hx hb hml hown hts (c_X10_isInfant l D cI cB cZ cP cC a_m a_m_told a_m_kept a_m_isKept a_m_refused a_m_months a_m_heirs a_m_lasts a_m_cares a_m_bestCares a_m_ones a_m_others a_m_bytes a_m_anew a_m_values above below retired manyLine bytesLong tokenAt tokenLong token value told v1 _ _ hw) q_472 q_473 q_474 q_5 q_475 hd_X10_isInfant ⟨(Nat.le_of_ble_eq_true rfl), (Nat.le_of_ble_eq_true rfl)⟩ rfl rfl hK hP hD [0, 1] rfl rfl 10 0 rfl rfl rfl rfl hl.1 rfl (Nat.le_of_ble_eq_true rfl) dX10_heard_2 ⟨(Nat.le_of_ble_eq_true rfl), (Nat.le_of_ble_eq_true rfl)⟩) hP hD hS hA [0, 1] [2] [1, 2, 0] (fun _ => ww_X10_heard a_m a_m_told a_m_kept a_m_isKept a_m_refused a_m_months a_m_heirs a_m_lasts a_m_cares a_m_bestCares a_m_ones a_m_others a_m_bytes a_m_anew a_m_values cI cB cZ cP cC above below retired manyLine bytesLong tokenAt tokenLong token value told refused) rfl rfl rfl (by decide) rfl (fun _ => rfl) (fun r_1 u H locs hw hP hD hS => ?_)
  try dsimp only at hw
  replace hP : va_P D vwCl (ww_X10_heard a_m a_m_told a_m_kept a_m_isKept a_m_refused a_m_months a_m_heirs a_m_lasts a_m_cares a_m_bestCares a_m_ones a_m_others a_m_bytes a_m_anew a_m_values cI cB cZ cP cC above below retired manyLine bytesLong tokenAt tokenLong token value told refused) H := hP
  replace hD : va_D A (ww_X10_heard a_m a_m_told a_m_kept a_m_isKept a_m_refused a_m_months a_m_heirs a_m_lasts a_m_cares a_m_bestCares a_m_ones a_m_others a_m_bytes a_m_anew a_m_values cI cB cZ cP cC above below retired manyLine bytesLong tokenAt tokenLong token value told refused) := hD
  refine lv_if_eq (tgt := 18) hx hb dX10_heard_5 (by decide) (fun c_2 => ?_) (fun c_2 => ?_)
  · replace hw := hw.1 c_2
    exact k_X10_heard_J18 C0  told refused _ _ _ hP hD hS (lv_sub hl [0] rfl) hw
  · replace hw := hw.2 c_2
    refine lv_iload_n hx hb dX10_heard_8 rfl (lv_at hl 2 rfl) ?_
    refine lv_i2l (v := v2.toInt64) hx hb dX10_heard_9 rfl ?_
    refine lv_lconst (v := 0) hx hb dX10_heard_10 rfl ?_
    refine lv_lconst (v := 1) hx hb dX10_heard_11 rfl ?_
    refine mx_ki (mx_rS (rm := rm_X10_in) (rest := []) hx hb hml hown hts (c_X10_in l D cI cB cZ cP cC (v2.toInt64) 0 1 _ _ hw) q_163 q_164 q_5 q_165 hd_X10_in ⟨(Nat.le_of_ble_eq_true rfl), (Nat.le_of_ble_eq_true rfl)⟩ rfl rfl hK hP hD [] rfl rfl rfl hl.1 rfl (Nat.le_of_ble_eq_true rfl) dX10_heard_12 ⟨(Nat.le_of_ble_eq_true rfl), (Nat.le_of_ble_eq_true rfl)⟩) hP hD hS hA [] [0, 1, 2] [0, 1, 2] (fun _ => ww_X10_heard a_m a_m_told a_m_kept a_m_isKept a_m_refused a_m_months a_m_heirs a_m_lasts a_m_cares a_m_bestCares a_m_ones a_m_others a_m_bytes a_m_anew a_m_values cI cB cZ cP cC above below retired manyLine bytesLong tokenAt tokenLong token value told refused) rfl rfl rfl (by decide) rfl (fun _ => rfl) (fun r_5 u H locs hw hP hD hS => ?_)
    try dsimp only at hw
    replace hP : va_P D vwCl (ww_X10_heard a_m a_m_told a_m_kept a_m_isKept a_m_refused a_m_months a_m_heirs a_m_lasts a_m_cares a_m_bestCares a_m_ones a_m_others a_m_bytes a_m_anew a_m_values cI cB cZ cP cC above below retired manyLine bytesLong tokenAt tokenLong token value told refused) H := hP
    replace hD : va_D A (ww_X10_heard a_m a_m_told a_m_kept a_m_isKept a_m_refused a_m_months a_m_heirs a_m_lasts a_m_cares a_m_bestCares a_m_ones a_m_others a_m_bytes a_m_anew a_m_values cI cB cZ cP cC above below retired manyLine bytesLong tokenAt tokenLong token value told refused) := hD
    refine lv_if_ne (tgt := 25) hx hb dX10_heard_15 (by decide) (fun c_6 => ?_) (fun c_6 => ?_)
    · replace hw := hw.2 c_6
      refine lv_aload_n hx hb dX10_heard_25 rfl (lv_at hl 0 rfl) ?_
      refine mx_get (ci := 10) (C := RX10) (T := TX10) (N := 23) hx hb hown in_wsX100 hts hK hP 0 rfl rfl 0 (by decide) q_91 rfl (v := .ref a_m_told) rfl dX10_heard_26 ?_
      refine lv_iconst (v := 2) hx hb dX10_heard_29 (by decide) ?_
      refine mx_iald hx hb hK hP 1 0 rfl rfl (mx_lit rfl) (told 2) rfl dX10_heard_30 ?_
      refine lv_bipush (v := 6) hx hb dX10_heard_31 (by decide) ?_
      refine lv_icmp_ne (tgt := 41) hx hb dX10_heard_33 (by decide) (fun c_7 => ?_) (fun c_7 => ?_)
      · replace hw := hw.2 c_7
        refine lv_aload_n hx hb dX10_heard_41 rfl (lv_at hl 0 rfl) ?_
        refine mx_get (ci := 10) (C := RX10) (T := TX10) (N := 23) hx hb hown in_wsX100 hts hK hP 0 rfl rfl 0 (by decide) q_91 rfl (v := .ref a_m_told) rfl dX10_heard_42 ?_
        refine lv_bipush (v := 66) hx hb dX10_heard_45 (by decide) ?_
        refine lv_iconst (v := 2) hx hb dX10_heard_47 (by decide) ?_
        refine lv_aload_n hx hb dX10_heard_48 rfl (lv_at hl 0 rfl) ?_
        refine mx_get (ci := 10) (C := RX10) (T := TX10) (N := 23) hx hb hown in_wsX100 hts hK hP 0 rfl rfl 0 (by decide) q_91 rfl (v := .ref a_m_told) rfl dX10_heard_49 ?_
        refine lv_iconst (v := 2) hx hb dX10_heard_52 (by decide) ?_
        refine mx_iald hx hb hK hP 1 0 rfl rfl (mx_lit rfl) (told 2) rfl dX10_heard_53 ?_
        refine lv_imul hx hb dX10_heard_54 ?_
        refine lv_iadd hx hb dX10_heard_55 ?_
        refine lv_iload_n hx hb dX10_heard_56 rfl (lv_at hl 1 rfl) ?_
        obtain ⟨h_8, hw⟩ := hw
        obtain ⟨f_9, ef_9⟩ : ∃ y : Nat → Int32, y = upd told (66 + (2 * (told 2))).toNatClampNeg v1 := ⟨_, rfl⟩
        replace hw := hw f_9 ef_9
        refine mx_iast hx hb hK hP hD hS 1 0 rfl rfl h_8 f_9 ef_9 (ww_X10_heard a_m a_m_told a_m_kept a_m_isKept a_m_refused a_m_months a_m_heirs a_m_lasts a_m_cares a_m_bestCares a_m_ones a_m_others a_m_bytes a_m_anew a_m_values cI cB cZ cP cC above below retired manyLine bytesLong tokenAt tokenLong token value f_9 refused) rfl dX10_heard_57 (fun H locs hP hD hS => ?_)
        refine lv_aload_n hx hb dX10_heard_58 rfl (lv_at hl 0 rfl) ?_
        refine mx_get (ci := 10) (C := RX10) (T := TX10) (N := 23) hx hb hown in_wsX100 hts hK hP 0 rfl rfl 0 (by decide) q_91 rfl (v := .ref a_m_told) rfl dX10_heard_59 ?_
        refine lv_bipush (v := 66) hx hb dX10_heard_62 (by decide) ?_
        refine lv_iconst (v := 2) hx hb dX10_heard_64 (by decide) ?_
        refine lv_aload_n hx hb dX10_heard_65 rfl (lv_at hl 0 rfl) ?_
        refine mx_get (ci := 10) (C := RX10) (T := TX10) (N := 23) hx hb hown in_wsX100 hts hK hP 0 rfl rfl 0 (by decide) q_91 rfl (v := .ref a_m_told) rfl dX10_heard_66 ?_
        refine lv_iconst (v := 2) hx hb dX10_heard_69 (by decide) ?_
        refine mx_iald hx hb hK hP 1 0 rfl rfl (mx_lit rfl) (f_9 2) rfl dX10_heard_70 ?_
        refine lv_imul hx hb dX10_heard_71 ?_
        refine lv_iadd hx hb dX10_heard_72 ?_
        refine lv_iconst (v := 1) hx hb dX10_heard_73 (by decide) ?_
        refine lv_iadd hx hb dX10_heard_74 ?_
        refine lv_iload_n hx hb dX10_heard_75 rfl (lv_at hl 2 rfl) ?_
        obtain ⟨h_10, hw⟩ := hw
        obtain ⟨f_11, ef_11⟩ : ∃ y : Nat → Int32, y = upd f_9 ((66 + (2 * (f_9 2))) + 1).toNatClampNeg v2 := ⟨_, rfl⟩
        replace hw := hw f_11 ef_11
        refine mx_iast hx hb hK hP hD hS 1 0 rfl rfl h_10 f_11 ef_11 (ww_X10_heard a_m a_m_told a_m_kept a_m_isKept a_m_refused a_m_months a_m_heirs a_m_lasts a_m_cares a_m_bestCares a_m_ones a_m_others a_m_bytes a_m_anew a_m_values cI cB cZ cP cC above below retired manyLine bytesLong tokenAt tokenLong token value f_11 refused) rfl dX10_heard_76 (fun H locs hP hD hS => ?_)
        refine lv_aload_n hx hb dX10_heard_77 rfl (lv_at hl 0 rfl) ?_
        refine mx_get (ci := 10) (C := RX10) (T := TX10) (N := 23) hx hb hown in_wsX100 hts hK hP 0 rfl rfl 0 (by decide) q_91 rfl (v := .ref a_m_told) rfl dX10_heard_78 ?_
        refine lv_iconst (v := 2) hx hb dX10_heard_81 (by decide) ?_
        refine lv_dup2_11 hx hb dX10_heard_82 rfl rfl ?_
        refine mx_iald hx hb hK hP 1 0 rfl rfl (mx_lit rfl) (f_11 2) rfl dX10_heard_83 ?_
        refine lv_iconst (v := 1) hx hb dX10_heard_84 (by decide) ?_
        refine lv_iadd hx hb dX10_heard_85 ?_
        refine lv_topi (fun x_12 ex_12 => ?_)
        replace hw := hw x_12 ex_12
        obtain ⟨f_13, ef_13⟩ : ∃ y : Nat → Int32, y = upd f_11 2 x_12 := ⟨_, rfl⟩
        replace hw := hw f_13 ef_13
        refine mx_iast hx hb hK hP hD hS 1 0 rfl rfl (mx_lit rfl) f_13 ef_13 (ww_X10_heard a_m a_m_told a_m_kept a_m_isKept a_m_refused a_m_months a_m_heirs a_m_lasts a_m_cares a_m_bestCares a_m_ones a_m_others a_m_bytes a_m_anew a_m_values cI cB cZ cP cC above below retired manyLine bytesLong tokenAt tokenLong token value f_13 refused) rfl dX10_heard_86 (fun H locs hP hD hS => ?_)
        refine lv_aload_n hx hb dX10_heard_87 rfl (lv_at hl 0 rfl) ?_
        refine mx_get (ci := 10) (C := RX10) (T := TX10) (N := 23) hx hb hown in_wsX100 hts hK hP 0 rfl rfl 0 (by decide) q_91 rfl (v := .ref a_m_told) rfl dX10_heard_88 ?_
        refine lv_iconst (v := 2) hx hb dX10_heard_91 (by decide) ?_
        refine mx_iald hx hb hK hP 1 0 rfl rfl (mx_lit rfl) (f_13 2) rfl dX10_heard_92 ?_
        exact mx_iret (f_13, refused) hx hb hr hlocks rfl hw hK hP hD hS dX10_heard_93
      · replace hw := hw.1 c_7
        refine lv_aload_n hx hb dX10_heard_36 rfl (lv_at hl 0 rfl) ?_
        refine mx_ki (mx_rV (rm := rm_X10_full) (rest := []) (C := RX10) hx hb hml hown hts (c_X10_full l D cI cB cZ cP cC a_m a_m_told a_m_kept a_m_isKept a_m_refused a_m_months a_m_heirs a_m_lasts a_m_cares a_m_bestCares a_m_ones a_m_others a_m_bytes a_m_anew a_m_values above below retired manyLine bytesLong tokenAt tokenLong token value refused _ _ hw) q_170 q_171 q_172 q_5 q_173 hd_X10_full ⟨(Nat.le_of_ble_eq_true rfl), (Nat.le_of_ble_eq_true rfl)⟩ rfl rfl hK hP hD [0, 2] rfl rfl 10 0 rfl rfl rfl rfl hl.1 rfl (Nat.le_of_ble_eq_true rfl) dX10_heard_37 ⟨(Nat.le_of_ble_eq_true rfl), (Nat.le_of_ble_eq_true rfl)⟩) hP hD hS hA [0, 2] [1] [1, 0, 2] (fun u => ww_X10_heard a_m a_m_told a_m_kept a_m_isKept a_m_refused a_m_months a_m_heirs a_m_lasts a_m_cares a_m_bestCares a_m_ones a_m_others a_m_bytes a_m_anew a_m_values cI cB cZ cP cC above below retired manyLine bytesLong tokenAt tokenLong token value told u) rfl rfl rfl (by decide) rfl (fun _ => rfl) (fun r_14 refused_15 H locs hw hP hD hS => ?_)
        try dsimp only at hw
        replace hP : va_P D vwCl (ww_X10_heard a_m a_m_told a_m_kept a_m_isKept a_m_refused a_m_months a_m_heirs a_m_lasts a_m_cares a_m_bestCares a_m_ones a_m_others a_m_bytes a_m_anew a_m_values cI cB cZ cP cC above below retired manyLine bytesLong tokenAt tokenLong token value told refused_15) H := hP
        replace hD : va_D A (ww_X10_heard a_m a_m_told a_m_kept a_m_isKept a_m_refused a_m_months a_m_heirs a_m_lasts a_m_cares a_m_bestCares a_m_ones a_m_others a_m_bytes a_m_anew a_m_values cI cB cZ cP cC above below retired manyLine bytesLong tokenAt tokenLong token value told refused_15) := hD
        exact mx_iret (told, refused_15) hx hb hr hlocks rfl hw hK hP hD hS dX10_heard_40
    · replace hw := hw.1 c_6
      exact k_X10_heard_J18 C0  told refused _ _ _ hP hD hS (lv_sub hl [0] rfl) hw
/-! PramStateModel.forget(I)I -/
abbrev ww_X10_forget (a_m a_m_told a_m_kept a_m_isKept a_m_refused a_m_months a_m_heirs a_m_lasts a_m_cares a_m_bestCares a_m_ones a_m_others a_m_bytes a_m_anew a_m_values : Nat) (cI cB cZ cP cC : ClassId) (above : Int64) (below : Int64) (retired : Int32) (manyLine : Int32) (bytesLong : Int32) (tokenAt : Int32) (tokenLong : Int32) (token : Int32) (value : Int32) (told : Nat → Int32) (refused : Nat → Int32) : va_W := [(a_m, .inr (10, [.ref a_m_told, .ref a_m_kept, .ref a_m_isKept, .ref a_m_refused, .long above, .long below, .ref a_m_months, .int retired, .ref a_m_heirs, .ref a_m_lasts, .int manyLine, .ref a_m_cares, .ref a_m_bestCares, .ref a_m_ones, .ref a_m_others, .ref a_m_bytes, .int bytesLong, .int tokenAt, .int tokenLong, .int token, .int value, .ref a_m_anew, .ref a_m_values])), (a_m_told, .inl (cI, 190, .inl told)), (a_m_refused, .inl (cI, 3, .inl refused))]
abbrev qq_X10_forget (D : va_G) (a_m a_m_told a_m_kept a_m_isKept a_m_refused a_m_months a_m_heirs a_m_lasts a_m_cares a_m_bestCares a_m_ones a_m_others a_m_bytes a_m_anew a_m_values : Nat) (cI cB cZ cP cC : ClassId) (above : Int64) (below : Int64) (retired : Int32) (manyLine : Int32) (bytesLong : Int32) (tokenAt : Int32) (tokenLong : Int32) (token : Int32) (value : Int32) (Post : Int32 → (Nat → Int32) → (Nat → Int32) → Prop) (A : Nat → Prop) : Array Value → State → Outcome → State → Prop := va_Qi (fun (r : Int32) (u : (Nat → Int32) × (Nat → Int32)) => Post r u.1 u.2) (fun (u : (Nat → Int32) × (Nat → Int32)) t => mxB D (mxTy cI cB cZ cP cC) A (ww_X10_forget a_m a_m_told a_m_kept a_m_isKept a_m_refused a_m_months a_m_heirs a_m_lasts a_m_cares a_m_bestCares a_m_ones a_m_others a_m_bytes a_m_anew a_m_values cI cB cZ cP cC above below retired manyLine bytesLong tokenAt tokenLong token value (u.1) (u.2)) t) A
abbrev rm_X10_forget : Room := { frames := 1, cells := 0, slots := 0, locals := 25 }
theorem hd_X10_forget : yX10_forget.cls = RX10 ∧ yX10_forget.cls ≠ "java/lang/invoke/MethodHandle" ∧ yX10_forget.cls ≠ "java/lang/invoke/VarHandle" ∧ (parseMethodDescriptor yX10_forget.desc).map (fun d => d.parameters.length) = some 1 := by decide +kernel
def wp_X10_forget (told : Nat → Int32) (refused : Nat → Int32) (v1 : Int32) (Post : Int32 → (Nat → Int32) → (Nat → Int32) → Prop) : Prop :=
  (wp_X10_in (v1.toInt64) 0 1 (fun r_1 => ((r_1 = 0 → (wp_X10_bad refused (-2) (fun r_6 refused_7 => Post r_6 told refused_7))) ∧ (¬ r_1 = 0 → (vp_in (1 + v1) 190 ∧ (∀ x_4 : Int32, x_4 = told (1 + v1).toNatClampNeg → (∀ f_5 : Nat → Int32, f_5 = upd told (1 + v1).toNatClampNeg 0 → Post x_4 f_5 refused)))))))
set_option maxHeartbeats 4000000 in
set_option maxRecDepth 100000 in
theorem c_X10_forget (l : Launch) (D : va_G) (cI cB cZ cP cC : ClassId) (a_m a_m_told a_m_kept a_m_isKept a_m_refused a_m_months a_m_heirs a_m_lasts a_m_cares a_m_bestCares a_m_ones a_m_others a_m_bytes a_m_anew a_m_values : Nat) (above : Int64) (below : Int64) (retired : Int32) (manyLine : Int32) (bytesLong : Int32) (tokenAt : Int32) (tokenLong : Int32) (token : Int32) (value : Int32) (told : Nat → Int32) (refused : Nat → Int32) (v1 : Int32) (sz : Nat) (Post : Int32 → (Nat → Int32) → (Nat → Int32) → Prop) (hw : wp_X10_forget told refused v1 Post) :
    Met l yX10_forget (Cond.code yX10_forget cX10_forget 3 (some .int) :: wsAll) rm_X10_forget (va_Pc [.ref a_m, .int v1] (mxP D (mxTy cI cB cZ cP cC) sz (ww_X10_forget a_m a_m_told a_m_kept a_m_isKept a_m_refused a_m_months a_m_heirs a_m_lasts a_m_cares a_m_bestCares a_m_ones a_m_others a_m_bytes a_m_anew a_m_values cI cB cZ cP cC above below retired manyLine bytesLong tokenAt tokenLong token value told refused))) (qq_X10_forget D a_m a_m_told a_m_kept a_m_isKept a_m_refused a_m_months a_m_heirs a_m_lasts a_m_cares a_m_bestCares a_m_ones a_m_others a_m_bytes a_m_anew a_m_values cI cB cZ cP cC above below retired manyLine bytesLong tokenAt tokenLong token value Post (va_A (ww_X10_forget a_m a_m_told a_m_kept a_m_isKept a_m_refused a_m_months a_m_heirs a_m_lasts a_m_cares a_m_bestCares a_m_ones a_m_others a_m_bytes a_m_anew a_m_values cI cB cZ cP cC above below retired manyLine bytesLong tokenAt tokenLong token value told refused) sz)) 0 0 (va_A (ww_X10_forget a_m a_m_told a_m_kept a_m_isKept a_m_refused a_m_months a_m_heirs a_m_lasts a_m_cares a_m_bestCares a_m_ones a_m_others a_m_bytes a_m_anew a_m_values cI cB cZ cP cC above below retired manyLine bytesLong tokenAt tokenLong token value told refused) sz) := by
  refine mx_of (Qc := qq_X10_forget D a_m a_m_told a_m_kept a_m_isKept a_m_refused a_m_months a_m_heirs a_m_lasts a_m_cares a_m_bestCares a_m_ones a_m_others a_m_bytes a_m_anew a_m_values cI cB cZ cP cC above below retired manyLine bytesLong tokenAt tokenLong token value Post) (by decide) (Nat.le_of_ble_eq_true rfl) ?_
  intro p e s m bl meth c A ls C0 hP hD hS hl
  replace C0 : mxC p s m [.ref a_m, .int v1].toArray meth c cX10_forget RX10 (some .int) 3 D (mxTy cI cB cZ cP cC) A := C0
  obtain ⟨hx, hb, hr, hlocks, hml, hown, hts, hK, hA⟩ := id C0
  replace hl : lv_has ls 3 [(0, .ref a_m), (1, .int v1)] := hl
  unfold wp_X10_forget at hw
  refine lv_iload_n hx hb dX10_forget_0 rfl (lv_at hl 1 rfl) ?_
  refine lv_i2l (v := v1.toInt64) hx hb dX10_forget_1 rfl ?_
  refine lv_lconst (v := 0) hx hb dX10_forget_2 rfl ?_
  refine lv_lconst (v := 1) hx hb dX10_forget_3 rfl ?_
  refine mx_ki (mx_rS (rm := rm_X10_in) (rest := []) hx hb hml hown hts (c_X10_in l D cI cB cZ cP cC (v1.toInt64) 0 1 _ _ hw) q_163 q_164 q_5 q_165 hd_X10_in ⟨(Nat.le_of_ble_eq_true rfl), (Nat.le_of_ble_eq_true rfl)⟩ rfl rfl hK hP hD [] rfl rfl rfl hl.1 rfl (Nat.le_of_ble_eq_true rfl) dX10_forget_4 ⟨(Nat.le_of_ble_eq_true rfl), (Nat.le_of_ble_eq_true rfl)⟩) hP hD hS hA [] [0, 1, 2] [0, 1, 2] (fun _ => ww_X10_forget a_m a_m_told a_m_kept a_m_isKept a_m_refused a_m_months a_m_heirs a_m_lasts a_m_cares a_m_bestCares a_m_ones a_m_others a_m_bytes a_m_anew a_m_values cI cB cZ cP cC above below retired manyLine bytesLong tokenAt tokenLong token value told refused) rfl rfl rfl (by decide) rfl (fun _ => rfl) (fun r_1 u H locs hw hP hD hS => ?_)
  try dsimp only at hw
  replace hP : va_P D vwCl (ww_X10_forget a_m a_m_told a_m_kept a_m_isKept a_m_refused a_m_months a_m_heirs a_m_lasts a_m_cares a_m_bestCares a_m_ones a_m_others a_m_bytes a_m_anew a_m_values cI cB cZ cP cC above below retired manyLine bytesLong tokenAt tokenLong token value told refused) H := hP
  replace hD : va_D A (ww_X10_forget a_m a_m_told a_m_kept a_m_isKept a_m_refused a_m_months a_m_heirs a_m_lasts a_m_cares a_m_bestCares a_m_ones a_m_others a_m_bytes a_m_anew a_m_values cI cB cZ cP cC above below retired manyLine bytesLong tokenAt tokenLong token value told refused) := hD
  refine lv_if_ne (tgt := 17) hx hb dX10_forget_7 (by decide) (fun c_2 => ?_) (fun c_2 => ?_)
  · replace hw := hw.2 c_2
    refine lv_aload_n hx hb dX10_forget_17 rfl (lv_at hl 0 rfl) ?_
    refine mx_get (ci := 10) (C := RX10) (T := TX10) (N := 23) hx hb hown in_wsX100 hts hK hP 0 rfl rfl 0 (by decide) q_91 rfl (v := .ref a_m_told) rfl dX10_forget_18 ?_
    refine lv_iconst (v := 1) hx hb dX10_forget_21 (by decide) ?_
    refine lv_iload_n hx hb dX10_forget_22 rfl (lv_at hl 1 rfl) ?_
    refine lv_iadd hx hb dX10_forget_23 ?_
    obtain ⟨h_3, hw⟩ := hw
    refine mx_iald hx hb hK hP 1 0 rfl rfl h_3 (told (1 + v1).toNatClampNeg) rfl dX10_forget_24 ?_
    refine lv_topi (fun x_4 ex_4 => ?_)
    replace hw := hw x_4 ex_4
    refine lv_istore_n (lv' := [(2, .int x_4), (0, .ref a_m), (1, .int v1)]) hx hb dX10_forget_25 rfl hl (by decide) rfl (fun ls hl => ?_)
    refine lv_aload_n hx hb dX10_forget_26 rfl (lv_at hl 1 rfl) ?_
    refine mx_get (ci := 10) (C := RX10) (T := TX10) (N := 23) hx hb hown in_wsX100 hts hK hP 0 rfl rfl 0 (by decide) q_91 rfl (v := .ref a_m_told) rfl dX10_forget_27 ?_
    refine lv_iconst (v := 1) hx hb dX10_forget_30 (by decide) ?_
    refine lv_iload_n hx hb dX10_forget_31 rfl (lv_at hl 2 rfl) ?_
    refine lv_iadd hx hb dX10_forget_32 ?_
    refine lv_iconst (v := 0) hx hb dX10_forget_33 (by decide) ?_
    obtain ⟨f_5, ef_5⟩ : ∃ y : Nat → Int32, y = upd told (1 + v1).toNatClampNeg 0 := ⟨_, rfl⟩
    replace hw := hw f_5 ef_5
    refine mx_iast hx hb hK hP hD hS 1 0 rfl rfl h_3 f_5 ef_5 (ww_X10_forget a_m a_m_told a_m_kept a_m_isKept a_m_refused a_m_months a_m_heirs a_m_lasts a_m_cares a_m_bestCares a_m_ones a_m_others a_m_bytes a_m_anew a_m_values cI cB cZ cP cC above below retired manyLine bytesLong tokenAt tokenLong token value f_5 refused) rfl dX10_forget_34 (fun H locs hP hD hS => ?_)
    refine lv_iload_n hx hb dX10_forget_35 rfl (lv_at hl 0 rfl) ?_
    exact mx_iret (f_5, refused) hx hb hr hlocks rfl hw hK hP hD hS dX10_forget_36
  · replace hw := hw.1 c_2
    refine lv_aload_n hx hb dX10_forget_10 rfl (lv_at hl 0 rfl) ?_
    refine lv_bipush (v := (-2)) hx hb dX10_forget_11 (by decide) ?_
    refine mx_ki (mx_rV (rm := rm_X10_bad) (rest := []) (C := RX10) hx hb hml hown hts (c_X10_bad l D cI cB cZ cP cC a_m a_m_told a_m_kept a_m_isKept a_m_refused a_m_months a_m_heirs a_m_lasts a_m_cares a_m_bestCares a_m_ones a_m_others a_m_bytes a_m_anew a_m_values above below retired manyLine bytesLong tokenAt tokenLong token value refused (-2) _ _ hw) q_166 q_167 q_168 q_5 q_169 hd_X10_bad ⟨(Nat.le_of_ble_eq_true rfl), (Nat.le_of_ble_eq_true rfl)⟩ rfl rfl hK hP hD [0, 2] rfl rfl 10 0 rfl rfl rfl rfl hl.1 rfl (Nat.le_of_ble_eq_true rfl) dX10_forget_13 ⟨(Nat.le_of_ble_eq_true rfl), (Nat.le_of_ble_eq_true rfl)⟩) hP hD hS hA [0, 2] [1] [1, 0, 2] (fun u => ww_X10_forget a_m a_m_told a_m_kept a_m_isKept a_m_refused a_m_months a_m_heirs a_m_lasts a_m_cares a_m_bestCares a_m_ones a_m_others a_m_bytes a_m_anew a_m_values cI cB cZ cP cC above below retired manyLine bytesLong tokenAt tokenLong token value told u) rfl rfl rfl (by decide) rfl (fun _ => rfl) (fun r_6 refused_7 H locs hw hP hD hS => ?_)
    try dsimp only at hw
    replace hP : va_P D vwCl (ww_X10_forget a_m a_m_told a_m_kept a_m_isKept a_m_refused a_m_months a_m_heirs a_m_lasts a_m_cares a_m_bestCares a_m_ones a_m_others a_m_bytes a_m_anew a_m_values cI cB cZ cP cC above below retired manyLine bytesLong tokenAt tokenLong token value told refused_7) H := hP
    replace hD : va_D A (ww_X10_forget a_m a_m_told a_m_kept a_m_isKept a_m_refused a_m_months a_m_heirs a_m_lasts a_m_cares a_m_bestCares a_m_ones a_m_others a_m_bytes a_m_anew a_m_values cI cB cZ cP cC above below retired manyLine bytesLong tokenAt tokenLong token value told refused_7) := hD
    exact mx_iret (told, refused_7) hx hb hr hlocks rfl hw hK hP hD hS dX10_forget_16
/-! PramStateModel.criesThen(III)I -/
abbrev ww_X10_criesThen (cI cB cZ cP cC : ClassId)  : va_W := []
abbrev qq_X10_criesThen (D : va_G) (cI cB cZ cP cC : ClassId)  (Post : Int32 → Prop) (A : Nat → Prop) : Array Value → State → Outcome → State → Prop := va_Qi (fun (r : Int32) (u : Unit) => Post r) (fun (u : Unit) t => mxB D (mxTy cI cB cZ cP cC) A (ww_X10_criesThen cI cB cZ cP cC) t) A
abbrev rm_X10_criesThen : Room := { frames := 2, cells := 0, slots := 0, locals := 47 }
theorem hd_X10_criesThen : yX10_criesThen.cls ≠ "java/lang/invoke/MethodHandle" ∧ yX10_criesThen.cls ≠ "java/lang/invoke/VarHandle" ∧ (parseMethodDescriptor yX10_criesThen.desc).map (fun d => d.parameters.length) = some 3 := by decide +kernel
def wp_X10_criesThen (v0 : Int32) (v1 : Int32) (v2 : Int32) (Post : Int32 → Prop) : Prop :=
  (wp_X10_sleepsAs v0 v2 (fun r_1 => ((r_1 = 0 → (wp_X10_criesAs v0 v1 (fun r_3 => Post r_3))) ∧ (¬ r_1 = 0 → Post 0))))
set_option maxHeartbeats 4000000 in
set_option maxRecDepth 100000 in
theorem c_X10_criesThen (l : Launch) (D : va_G) (cI cB cZ cP cC : ClassId)  (v0 : Int32) (v1 : Int32) (v2 : Int32) (sz : Nat) (Post : Int32 → Prop) (hw : wp_X10_criesThen v0 v1 v2 Post) :
    Met l yX10_criesThen (Cond.code yX10_criesThen cX10_criesThen 3 (some .int) :: wsAll) rm_X10_criesThen (va_Pc [.int v0, .int v1, .int v2] (mxP D (mxTy cI cB cZ cP cC) sz (ww_X10_criesThen cI cB cZ cP cC))) (qq_X10_criesThen D cI cB cZ cP cC Post (va_A (ww_X10_criesThen cI cB cZ cP cC) sz)) 0 0 (va_A (ww_X10_criesThen cI cB cZ cP cC) sz) := by
  refine mx_of (Qc := qq_X10_criesThen D cI cB cZ cP cC Post) (by decide) (Nat.le_of_ble_eq_true rfl) ?_
  intro p e s m bl meth c A ls C0 hP hD hS hl
  replace C0 : mxC p s m [.int v0, .int v1, .int v2].toArray meth c cX10_criesThen RX10 (some .int) 3 D (mxTy cI cB cZ cP cC) A := C0
  obtain ⟨hx, hb, hr, hlocks, hml, hown, hts, hK, hA⟩ := id C0
  replace hl : lv_has ls 3 [(0, .int v0), (1, .int v1), (2, .int v2)] := hl
  unfold wp_X10_criesThen at hw
  refine lv_iload_n hx hb dX10_criesThen_0 rfl (lv_at hl 0 rfl) ?_
  refine lv_iload_n hx hb dX10_criesThen_1 rfl (lv_at hl 2 rfl) ?_
  refine mx_ki (mx_rS (rm := rm_X10_sleepsAs) (rest := []) hx hb hml hown hts (c_X10_sleepsAs l D cI cB cZ cP cC v0 v2 _ _ hw) q_612 q_613 q_5 q_614 hd_X10_sleepsAs ⟨(Nat.le_of_ble_eq_true rfl), (Nat.le_of_ble_eq_true rfl)⟩ rfl rfl hK hP hD [] rfl rfl rfl hl.1 rfl (Nat.le_of_ble_eq_true rfl) dX10_criesThen_2 ⟨(Nat.le_of_ble_eq_true rfl), (Nat.le_of_ble_eq_true rfl)⟩) hP hD hS hA [] [] [] (fun _ => ww_X10_criesThen cI cB cZ cP cC) rfl rfl rfl (by decide) rfl (fun _ => rfl) (fun r_1 u H locs hw hP hD hS => ?_)
  try dsimp only at hw
  replace hP : va_P D vwCl (ww_X10_criesThen cI cB cZ cP cC) H := hP
  replace hD : va_D A (ww_X10_criesThen cI cB cZ cP cC) := hD
  refine lv_if_eq (tgt := 12) hx hb dX10_criesThen_5 (by decide) (fun c_2 => ?_) (fun c_2 => ?_)
  · replace hw := hw.1 c_2
    refine lv_iload_n hx hb dX10_criesThen_12 rfl (lv_at hl 0 rfl) ?_
    refine lv_iload_n hx hb dX10_criesThen_13 rfl (lv_at hl 1 rfl) ?_
    refine mx_ki (mx_rS (rm := rm_X10_criesAs) (rest := []) hx hb hml hown hts (c_X10_criesAs l D cI cB cZ cP cC v0 v1 _ _ hw) q_619 q_620 q_5 q_621 hd_X10_criesAs ⟨(Nat.le_of_ble_eq_true rfl), (Nat.le_of_ble_eq_true rfl)⟩ rfl rfl hK hP hD [] rfl rfl rfl hl.1 rfl (Nat.le_of_ble_eq_true rfl) dX10_criesThen_14 ⟨(Nat.le_of_ble_eq_true rfl), (Nat.le_of_ble_eq_true rfl)⟩) hP hD hS hA [] [] [] (fun _ => ww_X10_criesThen cI cB cZ cP cC) rfl rfl rfl (by decide) rfl (fun _ => rfl) (fun r_3 u H locs hw hP hD hS => ?_)
    try dsimp only at hw
    replace hP : va_P D vwCl (ww_X10_criesThen cI cB cZ cP cC) H := hP
    replace hD : va_D A (ww_X10_criesThen cI cB cZ cP cC) := hD
    exact mx_iret () hx hb hr hlocks rfl hw hK hP hD hS dX10_criesThen_17
  · replace hw := hw.2 c_2
    refine lv_iconst (v := 0) hx hb dX10_criesThen_8 (by decide) ?_
    refine lv_goto (tgt := 17) hx hb dX10_criesThen_9 (by decide) ?_
    exact mx_iret () hx hb hr hlocks rfl hw hK hP hD hS dX10_criesThen_17
/-! PramStateModel.kindsOf(I)I -/
abbrev ww_X10_kindsOf (a_m a_m_told a_m_kept a_m_isKept a_m_refused a_m_months a_m_heirs a_m_lasts a_m_cares a_m_bestCares a_m_ones a_m_others a_m_bytes a_m_anew a_m_values : Nat) (cI cB cZ cP cC : ClassId) (above : Int64) (below : Int64) (retired : Int32) (manyLine : Int32) (bytesLong : Int32) (tokenAt : Int32) (tokenLong : Int32) (token : Int32) (value : Int32) (told : Nat → Int32) : va_W := [(a_m, .inr (10, [.ref a_m_told, .ref a_m_kept, .ref a_m_isKept, .ref a_m_refused, .long above, .long below, .ref a_m_months, .int retired, .ref a_m_heirs, .ref a_m_lasts, .int manyLine, .ref a_m_cares, .ref a_m_bestCares, .ref a_m_ones, .ref a_m_others, .ref a_m_bytes, .int bytesLong, .int tokenAt, .int tokenLong, .int token, .int value, .ref a_m_anew, .ref a_m_values])), (a_m_told, .inl (cI, 190, .inl told))]
abbrev qq_X10_kindsOf (D : va_G) (a_m a_m_told a_m_kept a_m_isKept a_m_refused a_m_months a_m_heirs a_m_lasts a_m_cares a_m_bestCares a_m_ones a_m_others a_m_bytes a_m_anew a_m_values : Nat) (cI cB cZ cP cC : ClassId) (above : Int64) (below : Int64) (retired : Int32) (manyLine : Int32) (bytesLong : Int32) (tokenAt : Int32) (tokenLong : Int32) (token : Int32) (value : Int32) (told : Nat → Int32) (Post : Int32 → Prop) (A : Nat → Prop) : Array Value → State → Outcome → State → Prop := va_Qi (fun (r : Int32) (u : Unit) => Post r) (fun (u : Unit) t => mxB D (mxTy cI cB cZ cP cC) A (ww_X10_kindsOf a_m a_m_told a_m_kept a_m_isKept a_m_refused a_m_months a_m_heirs a_m_lasts a_m_cares a_m_bestCares a_m_ones a_m_others a_m_bytes a_m_anew a_m_values cI cB cZ cP cC above below retired manyLine bytesLong tokenAt tokenLong token value told) t) A
abbrev rm_X10_kindsOf : Room := { frames := 3, cells := 0, slots := 0, locals := 69 }
theorem hd_X10_kindsOf : yX10_kindsOf.cls = RX10 ∧ yX10_kindsOf.cls ≠ "java/lang/invoke/MethodHandle" ∧ yX10_kindsOf.cls ≠ "java/lang/invoke/VarHandle" ∧ (parseMethodDescriptor yX10_kindsOf.desc).map (fun d => d.parameters.length) = some 1 := by decide +kernel
def wp_X10_kindsOf_J137 (told : Nat → Int32) (Post : Int32 → Prop) (K_16 : Int32 → Int32 → Int32 → Int32 → Int32 → Prop) (v1 : Int32) (v2 : Int32) (v3 : Int32) (v5 : Int32) (s0 : Int32) : Prop :=
  (∀ x_10 : Int32, x_10 = v5 + 1 → K_16 v1 v2 v3 s0 x_10)
set_option maxHeartbeats 4000000 in
set_option maxRecDepth 100000 in
theorem k_X10_kindsOf_J137 {p : Program} {l : Launch} {e : Env} {s : State} {m : MethodId} {ar : Array Value} {bl : List Frame} {meth : Method} {c : Code} {D : va_G} {A : Nat → Prop} {cI cB cZ cP cC : ClassId} {a_m a_m_told a_m_kept a_m_isKept a_m_refused a_m_months a_m_heirs a_m_lasts a_m_cares a_m_bestCares a_m_ones a_m_others a_m_bytes a_m_anew a_m_values : Nat} {above : Int64} {below : Int64} {retired : Int32} {manyLine : Int32} {bytesLong : Int32} {tokenAt : Int32} {tokenLong : Int32} {token : Int32} {value : Int32} {told : Nat → Int32} {Post : Int32 → Prop} {K_16 : Int32 → Int32 → Int32 → Int32 → Int32 → Prop} (C0 : mxC p s m ar meth c cX10_kindsOf RX10 (some .int) 8 D (mxTy cI cB cZ cP cC) A)
    (hK_16 : ∀ (v1 : Int32) (v2 : Int32) (v3 : Int32) (v4 : Int32) (v5 : Int32) (H : Heap) (locs : List Loc) (ls : Array Slot), va_P D vwCl (ww_X10_kindsOf a_m a_m_told a_m_kept a_m_isKept a_m_refused a_m_months a_m_heirs a_m_lasts a_m_cares a_m_bestCares a_m_ones a_m_others a_m_bytes a_m_anew a_m_values cI cB cZ cP cC above below retired manyLine bytesLong tokenAt tokenLong token value told) H → va_D A (ww_X10_kindsOf a_m a_m_told a_m_kept a_m_isKept a_m_refused a_m_months a_m_heirs a_m_lasts a_m_cares a_m_bestCares a_m_ones a_m_others a_m_bytes a_m_anew a_m_values cI cB cZ cP cC above below retired manyLine bytesLong tokenAt tokenLong token value told) → va_S A s.heap H locs → lv_has ls 8 [(0, .ref a_m), (1, .int v1), (2, .int v2), (3, .int v3), (4, .int v4), (5, .int v5)] → K_16 v1 v2 v3 v4 v5 → W p l e rm_X10_kindsOf s m ar bl meth c H locs 0 0 (MQ bl (qq_X10_kindsOf D a_m a_m_told a_m_kept a_m_isKept a_m_refused a_m_months a_m_heirs a_m_lasts a_m_cares a_m_bestCares a_m_ones a_m_others a_m_bytes a_m_anew a_m_values cI cB cZ cP cC above below retired manyLine bytesLong tokenAt tokenLong token value told Post A) ar s 0 0 A) (F0 m 16 ls [])) :
    ∀ (v1 : Int32) (v2 : Int32) (v3 : Int32) (v5 : Int32) (s0 : Int32) (H : Heap) (locs : List Loc) (ls : Array Slot), va_P D vwCl (ww_X10_kindsOf a_m a_m_told a_m_kept a_m_isKept a_m_refused a_m_months a_m_heirs a_m_lasts a_m_cares a_m_bestCares a_m_ones a_m_others a_m_bytes a_m_anew a_m_values cI cB cZ cP cC above below retired manyLine bytesLong tokenAt tokenLong token value told) H → va_D A (ww_X10_kindsOf a_m a_m_told a_m_kept a_m_isKept a_m_refused a_m_months a_m_heirs a_m_lasts a_m_cares a_m_bestCares a_m_ones a_m_others a_m_bytes a_m_anew a_m_values cI cB cZ cP cC above below retired manyLine bytesLong tokenAt tokenLong token value told) → va_S A s.heap H locs → lv_has ls 8 [(0, .ref a_m), (1, .int v1), (2, .int v2), (3, .int v3), (5, .int v5)] → wp_X10_kindsOf_J137 told Post K_16 v1 v2 v3 v5 s0 → W p l e rm_X10_kindsOf s m ar bl meth c H locs 0 0 (MQ bl (qq_X10_kindsOf D a_m a_m_told a_m_kept a_m_isKept a_m_refused a_m_months a_m_heirs a_m_lasts a_m_cares a_m_bestCares a_m_ones a_m_others a_m_bytes a_m_anew a_m_values cI cB cZ cP cC above below retired manyLine bytesLong tokenAt tokenLong token value told Post A) ar s 0 0 A) (F0 m 137 ls [.int s0]) := by
  obtain ⟨hx, hb, hr, hlocks, hml, hown, hts, hK, hA⟩ := id C0
  intro v1 v2 v3 v5 s0 H locs ls hP hD hS hl hw
  refine lv_istore (lv' := [(4, .int s0), (0, .ref a_m), (1, .int v1), (2, .int v2), (3, .int v3), (5, .int v5)]) hx hb dX10_kindsOf_137 hl (by decide) rfl (fun ls hl => ?_)
  obtain ⟨x_10, ex_10⟩ : ∃ y : Int32, y = v5 + 1 := ⟨_, rfl⟩
  replace hw := hw x_10 ex_10
  refine lv_iinc (v := x_10) (lv' := [(5, .int x_10), (4, .int s0), (0, .ref a_m), (1, .int v1), (2, .int v2), (3, .int v3)]) hx hb dX10_kindsOf_139 hl (k := 5) rfl (by rw [ex_10]; rfl) (by decide) rfl (fun ls hl => ?_)
  refine lv_goto (tgt := 16) hx hb dX10_kindsOf_142 (by decide) ?_
  exact hK_16 v1 v2 v3 s0 x_10 _ _ _ hP hD hS (lv_sub hl [2, 3, 4, 5, 1, 0] rfl) hw
def wp_X10_kindsOf_J136 (told : Nat → Int32) (Post : Int32 → Prop) (K_16 : Int32 → Int32 → Int32 → Int32 → Int32 → Prop) (v1 : Int32) (v2 : Int32) (v3 : Int32) (v5 : Int32) : Prop :=
  (wp_X10_kindsOf_J137 told Post K_16 v1 v2 v3 v5 0)
set_option maxHeartbeats 4000000 in
set_option maxRecDepth 100000 in
theorem k_X10_kindsOf_J136 {p : Program} {l : Launch} {e : Env} {s : State} {m : MethodId} {ar : Array Value} {bl : List Frame} {meth : Method} {c : Code} {D : va_G} {A : Nat → Prop} {cI cB cZ cP cC : ClassId} {a_m a_m_told a_m_kept a_m_isKept a_m_refused a_m_months a_m_heirs a_m_lasts a_m_cares a_m_bestCares a_m_ones a_m_others a_m_bytes a_m_anew a_m_values : Nat} {above : Int64} {below : Int64} {retired : Int32} {manyLine : Int32} {bytesLong : Int32} {tokenAt : Int32} {tokenLong : Int32} {token : Int32} {value : Int32} {told : Nat → Int32} {Post : Int32 → Prop} {K_16 : Int32 → Int32 → Int32 → Int32 → Int32 → Prop} (C0 : mxC p s m ar meth c cX10_kindsOf RX10 (some .int) 8 D (mxTy cI cB cZ cP cC) A)
    (hK_16 : ∀ (v1 : Int32) (v2 : Int32) (v3 : Int32) (v4 : Int32) (v5 : Int32) (H : Heap) (locs : List Loc) (ls : Array Slot), va_P D vwCl (ww_X10_kindsOf a_m a_m_told a_m_kept a_m_isKept a_m_refused a_m_months a_m_heirs a_m_lasts a_m_cares a_m_bestCares a_m_ones a_m_others a_m_bytes a_m_anew a_m_values cI cB cZ cP cC above below retired manyLine bytesLong tokenAt tokenLong token value told) H → va_D A (ww_X10_kindsOf a_m a_m_told a_m_kept a_m_isKept a_m_refused a_m_months a_m_heirs a_m_lasts a_m_cares a_m_bestCares a_m_ones a_m_others a_m_bytes a_m_anew a_m_values cI cB cZ cP cC above below retired manyLine bytesLong tokenAt tokenLong token value told) → va_S A s.heap H locs → lv_has ls 8 [(0, .ref a_m), (1, .int v1), (2, .int v2), (3, .int v3), (4, .int v4), (5, .int v5)] → K_16 v1 v2 v3 v4 v5 → W p l e rm_X10_kindsOf s m ar bl meth c H locs 0 0 (MQ bl (qq_X10_kindsOf D a_m a_m_told a_m_kept a_m_isKept a_m_refused a_m_months a_m_heirs a_m_lasts a_m_cares a_m_bestCares a_m_ones a_m_others a_m_bytes a_m_anew a_m_values cI cB cZ cP cC above below retired manyLine bytesLong tokenAt tokenLong token value told Post A) ar s 0 0 A) (F0 m 16 ls [])) :
    ∀ (v1 : Int32) (v2 : Int32) (v3 : Int32) (v5 : Int32) (H : Heap) (locs : List Loc) (ls : Array Slot), va_P D vwCl (ww_X10_kindsOf a_m a_m_told a_m_kept a_m_isKept a_m_refused a_m_months a_m_heirs a_m_lasts a_m_cares a_m_bestCares a_m_ones a_m_others a_m_bytes a_m_anew a_m_values cI cB cZ cP cC above below retired manyLine bytesLong tokenAt tokenLong token value told) H → va_D A (ww_X10_kindsOf a_m a_m_told a_m_kept a_m_isKept a_m_refused a_m_months a_m_heirs a_m_lasts a_m_cares a_m_bestCares a_m_ones a_m_others a_m_bytes a_m_anew a_m_values cI cB cZ cP cC above below retired manyLine bytesLong tokenAt tokenLong token value told) → va_S A s.heap H locs → lv_has ls 8 [(0, .ref a_m), (1, .int v1), (2, .int v2), (3, .int v3), (5, .int v5)] → wp_X10_kindsOf_J136 told Post K_16 v1 v2 v3 v5 → W p l e rm_X10_kindsOf s m ar bl meth c H locs 0 0 (MQ bl (qq_X10_kindsOf D a_m a_m_told a_m_kept a_m_isKept a_m_refused a_m_months a_m_heirs a_m_lasts a_m_cares a_m_bestCares a_m_ones a_m_others a_m_bytes a_m_anew a_m_values cI cB cZ cP cC above below retired manyLine bytesLong tokenAt tokenLong token value told Post A) ar s 0 0 A) (F0 m 136 ls []) := by
  obtain ⟨hx, hb, hr, hlocks, hml, hown, hts, hK, hA⟩ := id C0
  intro v1 v2 v3 v5 H locs ls hP hD hS hl hw
  refine lv_iconst (v := 0) hx hb dX10_kindsOf_136 (by decide) ?_
  refine k_X10_kindsOf_J137 C0 ?_ v1 v2 v3 v5 0 _ _ _ hP hD hS (lv_sub hl [0, 1, 2, 3, 4] rfl) hw
  intro v1_11 v2_12 v3_13 v4_14 v5_15 H locs ls hP hD hS hl hw
  exact hK_16 v1_11 v2_12 v3_13 v4_14 v5_15 _ _ _ hP hD hS (lv_sub hl [0, 1, 2, 3, 4, 5] rfl) hw
def wp_X10_kindsOf_J132 (told : Nat → Int32) (Post : Int32 → Prop) (K_16 : Int32 → Int32 → Int32 → Int32 → Int32 → Prop) (v1 : Int32) (v2 : Int32) (v3 : Int32) (v5 : Int32) : Prop :=
  (wp_X10_kindsOf_J137 told Post K_16 v1 v2 v3 v5 1)
set_option maxHeartbeats 4000000 in
set_option maxRecDepth 100000 in
theorem k_X10_kindsOf_J132 {p : Program} {l : Launch} {e : Env} {s : State} {m : MethodId} {ar : Array Value} {bl : List Frame} {meth : Method} {c : Code} {D : va_G} {A : Nat → Prop} {cI cB cZ cP cC : ClassId} {a_m a_m_told a_m_kept a_m_isKept a_m_refused a_m_months a_m_heirs a_m_lasts a_m_cares a_m_bestCares a_m_ones a_m_others a_m_bytes a_m_anew a_m_values : Nat} {above : Int64} {below : Int64} {retired : Int32} {manyLine : Int32} {bytesLong : Int32} {tokenAt : Int32} {tokenLong : Int32} {token : Int32} {value : Int32} {told : Nat → Int32} {Post : Int32 → Prop} {K_16 : Int32 → Int32 → Int32 → Int32 → Int32 → Prop} (C0 : mxC p s m ar meth c cX10_kindsOf RX10 (some .int) 8 D (mxTy cI cB cZ cP cC) A)
    (hK_16 : ∀ (v1 : Int32) (v2 : Int32) (v3 : Int32) (v4 : Int32) (v5 : Int32) (H : Heap) (locs : List Loc) (ls : Array Slot), va_P D vwCl (ww_X10_kindsOf a_m a_m_told a_m_kept a_m_isKept a_m_refused a_m_months a_m_heirs a_m_lasts a_m_cares a_m_bestCares a_m_ones a_m_others a_m_bytes a_m_anew a_m_values cI cB cZ cP cC above below retired manyLine bytesLong tokenAt tokenLong token value told) H → va_D A (ww_X10_kindsOf a_m a_m_told a_m_kept a_m_isKept a_m_refused a_m_months a_m_heirs a_m_lasts a_m_cares a_m_bestCares a_m_ones a_m_others a_m_bytes a_m_anew a_m_values cI cB cZ cP cC above below retired manyLine bytesLong tokenAt tokenLong token value told) → va_S A s.heap H locs → lv_has ls 8 [(0, .ref a_m), (1, .int v1), (2, .int v2), (3, .int v3), (4, .int v4), (5, .int v5)] → K_16 v1 v2 v3 v4 v5 → W p l e rm_X10_kindsOf s m ar bl meth c H locs 0 0 (MQ bl (qq_X10_kindsOf D a_m a_m_told a_m_kept a_m_isKept a_m_refused a_m_months a_m_heirs a_m_lasts a_m_cares a_m_bestCares a_m_ones a_m_others a_m_bytes a_m_anew a_m_values cI cB cZ cP cC above below retired manyLine bytesLong tokenAt tokenLong token value told Post A) ar s 0 0 A) (F0 m 16 ls [])) :
    ∀ (v1 : Int32) (v2 : Int32) (v3 : Int32) (v5 : Int32) (H : Heap) (locs : List Loc) (ls : Array Slot), va_P D vwCl (ww_X10_kindsOf a_m a_m_told a_m_kept a_m_isKept a_m_refused a_m_months a_m_heirs a_m_lasts a_m_cares a_m_bestCares a_m_ones a_m_others a_m_bytes a_m_anew a_m_values cI cB cZ cP cC above below retired manyLine bytesLong tokenAt tokenLong token value told) H → va_D A (ww_X10_kindsOf a_m a_m_told a_m_kept a_m_isKept a_m_refused a_m_months a_m_heirs a_m_lasts a_m_cares a_m_bestCares a_m_ones a_m_others a_m_bytes a_m_anew a_m_values cI cB cZ cP cC above below retired manyLine bytesLong tokenAt tokenLong token value told) → va_S A s.heap H locs → lv_has ls 8 [(0, .ref a_m), (1, .int v1), (2, .int v2), (3, .int v3), (5, .int v5)] → wp_X10_kindsOf_J132 told Post K_16 v1 v2 v3 v5 → W p l e rm_X10_kindsOf s m ar bl meth c H locs 0 0 (MQ bl (qq_X10_kindsOf D a_m a_m_told a_m_kept a_m_isKept a_m_refused a_m_months a_m_heirs a_m_lasts a_m_cares a_m_bestCares a_m_ones a_m_others a_m_bytes a_m_anew a_m_values cI cB cZ cP cC above below retired manyLine bytesLong tokenAt tokenLong token value told Post A) ar s 0 0 A) (F0 m 132 ls []) := by
  obtain ⟨hx, hb, hr, hlocks, hml, hown, hts, hK, hA⟩ := id C0
  intro v1 v2 v3 v5 H locs ls hP hD hS hl hw
  refine lv_iconst (v := 1) hx hb dX10_kindsOf_132 (by decide) ?_
  refine lv_goto (tgt := 137) hx hb dX10_kindsOf_133 (by decide) ?_
  refine k_X10_kindsOf_J137 C0 ?_ v1 v2 v3 v5 1 _ _ _ hP hD hS (lv_sub hl [0, 1, 2, 3, 4] rfl) hw
  intro v1_23 v2_24 v3_25 v4_26 v5_27 H locs ls hP hD hS hl hw
  exact hK_16 v1_23 v2_24 v3_25 v4_26 v5_27 _ _ _ hP hD hS (lv_sub hl [0, 1, 2, 3, 4, 5] rfl) hw
def wp_X10_kindsOf_J109 (told : Nat → Int32) (Post : Int32 → Prop) (K_16 : Int32 → Int32 → Int32 → Int32 → Int32 → Prop) (v1 : Int32) (v2 : Int32) (v3 : Int32) (v4 : Int32) (v5 : Int32) (v6 : Int32) (s0 : Int32) : Prop :=
  ((v4 = 0 → (wp_X10_kindsOf_J136 told Post K_16 v1 v2 v3 v5)) ∧ (¬ v4 = 0 → (vp_in v6 190 ∧ (((told v6.toNatClampNeg) = v1 → ((s0 = 0 → (wp_X10_kindsOf_J136 told Post K_16 v1 v2 v3 v5)) ∧ (¬ s0 = 0 → (wp_X10_kindsOf_J132 told Post K_16 v1 v2 v3 v5)))) ∧ (¬ (told v6.toNatClampNeg) = v1 → (wp_X10_kindsOf_J132 told Post K_16 v1 v2 v3 v5))))))
set_option maxHeartbeats 4000000 in
set_option maxRecDepth 100000 in
theorem k_X10_kindsOf_J109 {p : Program} {l : Launch} {e : Env} {s : State} {m : MethodId} {ar : Array Value} {bl : List Frame} {meth : Method} {c : Code} {D : va_G} {A : Nat → Prop} {cI cB cZ cP cC : ClassId} {a_m a_m_told a_m_kept a_m_isKept a_m_refused a_m_months a_m_heirs a_m_lasts a_m_cares a_m_bestCares a_m_ones a_m_others a_m_bytes a_m_anew a_m_values : Nat} {above : Int64} {below : Int64} {retired : Int32} {manyLine : Int32} {bytesLong : Int32} {tokenAt : Int32} {tokenLong : Int32} {token : Int32} {value : Int32} {told : Nat → Int32} {Post : Int32 → Prop} {K_16 : Int32 → Int32 → Int32 → Int32 → Int32 → Prop} (C0 : mxC p s m ar meth c cX10_kindsOf RX10 (some .int) 8 D (mxTy cI cB cZ cP cC) A)
    (hK_16 : ∀ (v1 : Int32) (v2 : Int32) (v3 : Int32) (v4 : Int32) (v5 : Int32) (H : Heap) (locs : List Loc) (ls : Array Slot), va_P D vwCl (ww_X10_kindsOf a_m a_m_told a_m_kept a_m_isKept a_m_refused a_m_months a_m_heirs a_m_lasts a_m_cares a_m_bestCares a_m_ones a_m_others a_m_bytes a_m_anew a_m_values cI cB cZ cP cC above below retired manyLine bytesLong tokenAt tokenLong token value told) H → va_D A (ww_X10_kindsOf a_m a_m_told a_m_kept a_m_isKept a_m_refused a_m_months a_m_heirs a_m_lasts a_m_cares a_m_bestCares a_m_ones a_m_others a_m_bytes a_m_anew a_m_values cI cB cZ cP cC above below retired manyLine bytesLong tokenAt tokenLong token value told) → va_S A s.heap H locs → lv_has ls 8 [(0, .ref a_m), (1, .int v1), (2, .int v2), (3, .int v3), (4, .int v4), (5, .int v5)] → K_16 v1 v2 v3 v4 v5 → W p l e rm_X10_kindsOf s m ar bl meth c H locs 0 0 (MQ bl (qq_X10_kindsOf D a_m a_m_told a_m_kept a_m_isKept a_m_refused a_m_months a_m_heirs a_m_lasts a_m_cares a_m_bestCares a_m_ones a_m_others a_m_bytes a_m_anew a_m_values cI cB cZ cP cC above below retired manyLine bytesLong tokenAt tokenLong token value told Post A) ar s 0 0 A) (F0 m 16 ls [])) :
    ∀ (v1 : Int32) (v2 : Int32) (v3 : Int32) (v4 : Int32) (v5 : Int32) (v6 : Int32) (s0 : Int32) (H : Heap) (locs : List Loc) (ls : Array Slot), va_P D vwCl (ww_X10_kindsOf a_m a_m_told a_m_kept a_m_isKept a_m_refused a_m_months a_m_heirs a_m_lasts a_m_cares a_m_bestCares a_m_ones a_m_others a_m_bytes a_m_anew a_m_values cI cB cZ cP cC above below retired manyLine bytesLong tokenAt tokenLong token value told) H → va_D A (ww_X10_kindsOf a_m a_m_told a_m_kept a_m_isKept a_m_refused a_m_months a_m_heirs a_m_lasts a_m_cares a_m_bestCares a_m_ones a_m_others a_m_bytes a_m_anew a_m_values cI cB cZ cP cC above below retired manyLine bytesLong tokenAt tokenLong token value told) → va_S A s.heap H locs → lv_has ls 8 [(0, .ref a_m), (1, .int v1), (2, .int v2), (3, .int v3), (4, .int v4), (5, .int v5), (6, .int v6)] → wp_X10_kindsOf_J109 told Post K_16 v1 v2 v3 v4 v5 v6 s0 → W p l e rm_X10_kindsOf s m ar bl meth c H locs 0 0 (MQ bl (qq_X10_kindsOf D a_m a_m_told a_m_kept a_m_isKept a_m_refused a_m_months a_m_heirs a_m_lasts a_m_cares a_m_bestCares a_m_ones a_m_others a_m_bytes a_m_anew a_m_values cI cB cZ cP cC above below retired manyLine bytesLong tokenAt tokenLong token value told Post A) ar s 0 0 A) (F0 m 109 ls [.int s0]) := by
  obtain ⟨hx, hb, hr, hlocks, hml, hown, hts, hK, hA⟩ := id C0
  intro v1 v2 v3 v4 v5 v6 s0 H locs ls hP hD hS hl hw
  refine lv_istore (lv' := [(7, .int s0), (0, .ref a_m), (1, .int v1), (2, .int v2), (3, .int v3), (4, .int v4), (5, .int v5), (6, .int v6)]) hx hb dX10_kindsOf_109 hl (by decide) rfl (fun ls hl => ?_)
  refine lv_iload hx hb dX10_kindsOf_111 (lv_at hl 5 rfl) ?_
  refine lv_if_eq (tgt := 136) hx hb dX10_kindsOf_113 (by decide) (fun c_9 => ?_) (fun c_9 => ?_)
  · replace hw := hw.1 c_9
    refine k_X10_kindsOf_J136 C0 ?_ v1 v2 v3 v5 _ _ _ hP hD hS (lv_sub hl [1, 2, 3, 4, 6] rfl) hw
    intro v1_16 v2_17 v3_18 v4_19 v5_20 H locs ls hP hD hS hl hw
    exact hK_16 v1_16 v2_17 v3_18 v4_19 v5_20 _ _ _ hP hD hS (lv_sub hl [0, 1, 2, 3, 4, 5] rfl) hw
  · replace hw := hw.2 c_9
    refine lv_aload_n hx hb dX10_kindsOf_116 rfl (lv_at hl 1 rfl) ?_
    refine mx_get (ci := 10) (C := RX10) (T := TX10) (N := 23) hx hb hown in_wsX100 hts hK hP 0 rfl rfl 0 (by decide) q_91 rfl (v := .ref a_m_told) rfl dX10_kindsOf_117 ?_
    refine lv_iload hx hb dX10_kindsOf_120 (lv_at hl 7 rfl) ?_
    obtain ⟨h_21, hw⟩ := hw
    refine mx_iald hx hb hK hP 1 0 rfl rfl h_21 (told v6.toNatClampNeg) rfl dX10_kindsOf_122 ?_
    refine lv_iload_n hx hb dX10_kindsOf_123 rfl (lv_at hl 2 rfl) ?_
    refine lv_icmp_ne (tgt := 132) hx hb dX10_kindsOf_124 (by decide) (fun c_22 => ?_) (fun c_22 => ?_)
    · replace hw := hw.2 c_22
      refine k_X10_kindsOf_J132 C0 ?_ v1 v2 v3 v5 _ _ _ hP hD hS (lv_sub hl [1, 2, 3, 4, 6] rfl) hw
      intro v1_28 v2_29 v3_30 v4_31 v5_32 H locs ls hP hD hS hl hw
      exact hK_16 v1_28 v2_29 v3_30 v4_31 v5_32 _ _ _ hP hD hS (lv_sub hl [0, 1, 2, 3, 4, 5] rfl) hw
    · replace hw := hw.1 c_22
      refine lv_iload hx hb dX10_kindsOf_127 (lv_at hl 0 rfl) ?_
      refine lv_if_eq (tgt := 136) hx hb dX10_kindsOf_129 (by decide) (fun c_33 => ?_) (fun c_33 => ?_)
      · replace hw := hw.1 c_33
        refine k_X10_kindsOf_J136 C0 ?_ v1 v2 v3 v5 _ _ _ hP hD hS (lv_sub hl [1, 2, 3, 4, 6] rfl) hw
        intro v1_34 v2_35 v3_36 v4_37 v5_38 H locs ls hP hD hS hl hw
        exact hK_16 v1_34 v2_35 v3_36 v4_37 v5_38 _ _ _ hP hD hS (lv_sub hl [0, 1, 2, 3, 4, 5] rfl) hw
      · replace hw := hw.2 c_33
        refine k_X10_kindsOf_J132 C0 ?_ v1 v2 v3 v5 _ _ _ hP hD hS (lv_sub hl [1, 2, 3, 4, 6] rfl) hw
        intro v1_39 v2_40 v3_41 v4_42 v5_43 H locs ls hP hD hS hl hw
        exact hK_16 v1_39 v2_40 v3_41 v4_42 v5_43 _ _ _ hP hD hS (lv_sub hl [0, 1, 2, 3, 4, 5] rfl) hw
def wp_X10_kindsOf_J108 (told : Nat → Int32) (Post : Int32 → Prop) (K_16 : Int32 → Int32 → Int32 → Int32 → Int32 → Prop) (v1 : Int32) (v2 : Int32) (v3 : Int32) (v4 : Int32) (v5 : Int32) (v6 : Int32) : Prop :=
  (wp_X10_kindsOf_J109 told Post K_16 v1 v2 v3 v4 v5 v6 0)
set_option maxHeartbeats 4000000 in
set_option maxRecDepth 100000 in
theorem k_X10_kindsOf_J108 {p : Program} {l : Launch} {e : Env} {s : State} {m : MethodId} {ar : Array Value} {bl : List Frame} {meth : Method} {c : Code} {D : va_G} {A : Nat → Prop} {cI cB cZ cP cC : ClassId} {a_m a_m_told a_m_kept a_m_isKept a_m_refused a_m_months a_m_heirs a_m_lasts a_m_cares a_m_bestCares a_m_ones a_m_others a_m_bytes a_m_anew a_m_values : Nat} {above : Int64} {below : Int64} {retired : Int32} {manyLine : Int32} {bytesLong : Int32} {tokenAt : Int32} {tokenLong : Int32} {token : Int32} {value : Int32} {told : Nat → Int32} {Post : Int32 → Prop} {K_16 : Int32 → Int32 → Int32 → Int32 → Int32 → Prop} (C0 : mxC p s m ar meth c cX10_kindsOf RX10 (some .int) 8 D (mxTy cI cB cZ cP cC) A)
    (hK_16 : ∀ (v1 : Int32) (v2 : Int32) (v3 : Int32) (v4 : Int32) (v5 : Int32) (H : Heap) (locs : List Loc) (ls : Array Slot), va_P D vwCl (ww_X10_kindsOf a_m a_m_told a_m_kept a_m_isKept a_m_refused a_m_months a_m_heirs a_m_lasts a_m_cares a_m_bestCares a_m_ones a_m_others a_m_bytes a_m_anew a_m_values cI cB cZ cP cC above below retired manyLine bytesLong tokenAt tokenLong token value told) H → va_D A (ww_X10_kindsOf a_m a_m_told a_m_kept a_m_isKept a_m_refused a_m_months a_m_heirs a_m_lasts a_m_cares a_m_bestCares a_m_ones a_m_others a_m_bytes a_m_anew a_m_values cI cB cZ cP cC above below retired manyLine bytesLong tokenAt tokenLong token value told) → va_S A s.heap H locs → lv_has ls 8 [(0, .ref a_m), (1, .int v1), (2, .int v2), (3, .int v3), (4, .int v4), (5, .int v5)] → K_16 v1 v2 v3 v4 v5 → W p l e rm_X10_kindsOf s m ar bl meth c H locs 0 0 (MQ bl (qq_X10_kindsOf D a_m a_m_told a_m_kept a_m_isKept a_m_refused a_m_months a_m_heirs a_m_lasts a_m_cares a_m_bestCares a_m_ones a_m_others a_m_bytes a_m_anew a_m_values cI cB cZ cP cC above below retired manyLine bytesLong tokenAt tokenLong token value told Post A) ar s 0 0 A) (F0 m 16 ls [])) :
    ∀ (v1 : Int32) (v2 : Int32) (v3 : Int32) (v4 : Int32) (v5 : Int32) (v6 : Int32) (H : Heap) (locs : List Loc) (ls : Array Slot), va_P D vwCl (ww_X10_kindsOf a_m a_m_told a_m_kept a_m_isKept a_m_refused a_m_months a_m_heirs a_m_lasts a_m_cares a_m_bestCares a_m_ones a_m_others a_m_bytes a_m_anew a_m_values cI cB cZ cP cC above below retired manyLine bytesLong tokenAt tokenLong token value told) H → va_D A (ww_X10_kindsOf a_m a_m_told a_m_kept a_m_isKept a_m_refused a_m_months a_m_heirs a_m_lasts a_m_cares a_m_bestCares a_m_ones a_m_others a_m_bytes a_m_anew a_m_values cI cB cZ cP cC above below retired manyLine bytesLong tokenAt tokenLong token value told) → va_S A s.heap H locs → lv_has ls 8 [(0, .ref a_m), (1, .int v1), (2, .int v2), (3, .int v3), (4, .int v4), (5, .int v5), (6, .int v6)] → wp_X10_kindsOf_J108 told Post K_16 v1 v2 v3 v4 v5 v6 → W p l e rm_X10_kindsOf s m ar bl meth c H locs 0 0 (MQ bl (qq_X10_kindsOf D a_m a_m_told a_m_kept a_m_isKept a_m_refused a_m_months a_m_heirs a_m_lasts a_m_cares a_m_bestCares a_m_ones a_m_others a_m_bytes a_m_anew a_m_values cI cB cZ cP cC above below retired manyLine bytesLong tokenAt tokenLong token value told Post A) ar s 0 0 A) (F0 m 108 ls []) := by
  obtain ⟨hx, hb, hr, hlocks, hml, hown, hts, hK, hA⟩ := id C0
  intro v1 v2 v3 v4 v5 v6 H locs ls hP hD hS hl hw
  refine lv_iconst (v := 0) hx hb dX10_kindsOf_108 (by decide) ?_
  refine k_X10_kindsOf_J109 C0 ?_ v1 v2 v3 v4 v5 v6 0 _ _ _ hP hD hS (lv_sub hl [0, 1, 2, 3, 4, 5, 6] rfl) hw
  intro v1_44 v2_45 v3_46 v4_47 v5_48 H locs ls hP hD hS hl hw
  exact hK_16 v1_44 v2_45 v3_46 v4_47 v5_48 _ _ _ hP hD hS (lv_sub hl [0, 1, 2, 3, 4, 5] rfl) hw
def wp_X10_kindsOf_J67 (told : Nat → Int32) (Post : Int32 → Prop) (K_16 : Int32 → Int32 → Int32 → Int32 → Int32 → Prop) (v1 : Int32) (v2 : Int32) (v3 : Int32) (v4 : Int32) (v5 : Int32) (v6 : Int32) (s0 : Int32) (s1 : Int32) : Prop :=
  ((s1 = s0 → (vp_in (v6 + 1) 190 ∧ (vp_in (v6 + 2) 190 ∧ (wp_X10_criesThen v3 (told (v6 + 1).toNatClampNeg) (told (v6 + 2).toNatClampNeg) (fun r_56 => (vp_in (v6 + 4) 190 ∧ ((r_56 = (told (v6 + 4).toNatClampNeg) → (wp_X10_kindsOf_J109 told Post K_16 v1 v2 v3 v4 v5 v6 1)) ∧ (¬ r_56 = (told (v6 + 4).toNatClampNeg) → (wp_X10_kindsOf_J108 told Post K_16 v1 v2 v3 v4 v5 v6))))))))) ∧ (¬ s1 = s0 → (wp_X10_kindsOf_J108 told Post K_16 v1 v2 v3 v4 v5 v6)))
set_option maxHeartbeats 4000000 in
set_option maxRecDepth 100000 in
theorem k_X10_kindsOf_J67 {p : Program} {l : Launch} {e : Env} {s : State} {m : MethodId} {ar : Array Value} {bl : List Frame} {meth : Method} {c : Code} {D : va_G} {A : Nat → Prop} {cI cB cZ cP cC : ClassId} {a_m a_m_told a_m_kept a_m_isKept a_m_refused a_m_months a_m_heirs a_m_lasts a_m_cares a_m_bestCares a_m_ones a_m_others a_m_bytes a_m_anew a_m_values : Nat} {above : Int64} {below : Int64} {retired : Int32} {manyLine : Int32} {bytesLong : Int32} {tokenAt : Int32} {tokenLong : Int32} {token : Int32} {value : Int32} {told : Nat → Int32} {Post : Int32 → Prop} {K_16 : Int32 → Int32 → Int32 → Int32 → Int32 → Prop} (C0 : mxC p s m ar meth c cX10_kindsOf RX10 (some .int) 8 D (mxTy cI cB cZ cP cC) A)
    (hK_16 : ∀ (v1 : Int32) (v2 : Int32) (v3 : Int32) (v4 : Int32) (v5 : Int32) (H : Heap) (locs : List Loc) (ls : Array Slot), va_P D vwCl (ww_X10_kindsOf a_m a_m_told a_m_kept a_m_isKept a_m_refused a_m_months a_m_heirs a_m_lasts a_m_cares a_m_bestCares a_m_ones a_m_others a_m_bytes a_m_anew a_m_values cI cB cZ cP cC above below retired manyLine bytesLong tokenAt tokenLong token value told) H → va_D A (ww_X10_kindsOf a_m a_m_told a_m_kept a_m_isKept a_m_refused a_m_months a_m_heirs a_m_lasts a_m_cares a_m_bestCares a_m_ones a_m_others a_m_bytes a_m_anew a_m_values cI cB cZ cP cC above below retired manyLine bytesLong tokenAt tokenLong token value told) → va_S A s.heap H locs → lv_has ls 8 [(0, .ref a_m), (1, .int v1), (2, .int v2), (3, .int v3), (4, .int v4), (5, .int v5)] → K_16 v1 v2 v3 v4 v5 → W p l e rm_X10_kindsOf s m ar bl meth c H locs 0 0 (MQ bl (qq_X10_kindsOf D a_m a_m_told a_m_kept a_m_isKept a_m_refused a_m_months a_m_heirs a_m_lasts a_m_cares a_m_bestCares a_m_ones a_m_others a_m_bytes a_m_anew a_m_values cI cB cZ cP cC above below retired manyLine bytesLong tokenAt tokenLong token value told Post A) ar s 0 0 A) (F0 m 16 ls [])) :
    ∀ (v1 : Int32) (v2 : Int32) (v3 : Int32) (v4 : Int32) (v5 : Int32) (v6 : Int32) (s0 : Int32) (s1 : Int32) (H : Heap) (locs : List Loc) (ls : Array Slot), va_P D vwCl (ww_X10_kindsOf a_m a_m_told a_m_kept a_m_isKept a_m_refused a_m_months a_m_heirs a_m_lasts a_m_cares a_m_bestCares a_m_ones a_m_others a_m_bytes a_m_anew a_m_values cI cB cZ cP cC above below retired manyLine bytesLong tokenAt tokenLong token value told) H → va_D A (ww_X10_kindsOf a_m a_m_told a_m_kept a_m_isKept a_m_refused a_m_months a_m_heirs a_m_lasts a_m_cares a_m_bestCares a_m_ones a_m_others a_m_bytes a_m_anew a_m_values cI cB cZ cP cC above below retired manyLine bytesLong tokenAt tokenLong token value told) → va_S A s.heap H locs → lv_has ls 8 [(0, .ref a_m), (1, .int v1), (2, .int v2), (3, .int v3), (4, .int v4), (5, .int v5), (6, .int v6)] → wp_X10_kindsOf_J67 told Post K_16 v1 v2 v3 v4 v5 v6 s0 s1 → W p l e rm_X10_kindsOf s m ar bl meth c H locs 0 0 (MQ bl (qq_X10_kindsOf D a_m a_m_told a_m_kept a_m_isKept a_m_refused a_m_months a_m_heirs a_m_lasts a_m_cares a_m_bestCares a_m_ones a_m_others a_m_bytes a_m_anew a_m_values cI cB cZ cP cC above below retired manyLine bytesLong tokenAt tokenLong token value told Post A) ar s 0 0 A) (F0 m 67 ls [.int s0, .int s1]) := by
  obtain ⟨hx, hb, hr, hlocks, hml, hown, hts, hK, hA⟩ := id C0
  intro v1 v2 v3 v4 v5 v6 s0 s1 H locs ls hP hD hS hl hw
  refine lv_icmp_ne (tgt := 108) hx hb dX10_kindsOf_67 (by decide) (fun c_8 => ?_) (fun c_8 => ?_)
  · replace hw := hw.2 c_8
    refine k_X10_kindsOf_J108 C0 ?_ v1 v2 v3 v4 v5 v6 _ _ _ hP hD hS (lv_sub hl [0, 1, 2, 3, 4, 5, 6] rfl) hw
    intro v1_49 v2_50 v3_51 v4_52 v5_53 H locs ls hP hD hS hl hw
    exact hK_16 v1_49 v2_50 v3_51 v4_52 v5_53 _ _ _ hP hD hS (lv_sub hl [0, 1, 2, 3, 4, 5] rfl) hw
  · replace hw := hw.1 c_8
    refine lv_iload_n hx hb dX10_kindsOf_70 rfl (lv_at hl 3 rfl) ?_
    refine lv_aload_n hx hb dX10_kindsOf_71 rfl (lv_at hl 0 rfl) ?_
    refine mx_get (ci := 10) (C := RX10) (T := TX10) (N := 23) hx hb hown in_wsX100 hts hK hP 0 rfl rfl 0 (by decide) q_91 rfl (v := .ref a_m_told) rfl dX10_kindsOf_72 ?_
    refine lv_iload hx hb dX10_kindsOf_75 (lv_at hl 6 rfl) ?_
    refine lv_iconst (v := 1) hx hb dX10_kindsOf_77 (by decide) ?_
    refine lv_iadd hx hb dX10_kindsOf_78 ?_
    obtain ⟨h_54, hw⟩ := hw
    refine mx_iald hx hb hK hP 1 0 rfl rfl h_54 (told (v6 + 1).toNatClampNeg) rfl dX10_kindsOf_79 ?_
    refine lv_aload_n hx hb dX10_kindsOf_80 rfl (lv_at hl 0 rfl) ?_
    refine mx_get (ci := 10) (C := RX10) (T := TX10) (N := 23) hx hb hown in_wsX100 hts hK hP 0 rfl rfl 0 (by decide) q_91 rfl (v := .ref a_m_told) rfl dX10_kindsOf_81 ?_
    refine lv_iload hx hb dX10_kindsOf_84 (lv_at hl 6 rfl) ?_
    refine lv_iconst (v := 2) hx hb dX10_kindsOf_86 (by decide) ?_
    refine lv_iadd hx hb dX10_kindsOf_87 ?_
    obtain ⟨h_55, hw⟩ := hw
    refine mx_iald hx hb hK hP 1 0 rfl rfl h_55 (told (v6 + 2).toNatClampNeg) rfl dX10_kindsOf_88 ?_
    refine mx_ki (mx_rS (rm := rm_X10_criesThen) (rest := []) hx hb hml hown hts (c_X10_criesThen l D cI cB cZ cP cC v3 (told (v6 + 1).toNatClampNeg) (told (v6 + 2).toNatClampNeg) _ _ hw) q_819 q_820 q_5 q_821 hd_X10_criesThen ⟨(Nat.le_of_ble_eq_true rfl), (Nat.le_of_ble_eq_true rfl)⟩ rfl rfl hK hP hD [] rfl rfl rfl hl.1 rfl (Nat.le_of_ble_eq_true rfl) dX10_kindsOf_89 ⟨(Nat.le_of_ble_eq_true rfl), (Nat.le_of_ble_eq_true rfl)⟩) hP hD hS hA [] [0, 1] [0, 1] (fun _ => ww_X10_kindsOf a_m a_m_told a_m_kept a_m_isKept a_m_refused a_m_months a_m_heirs a_m_lasts a_m_cares a_m_bestCares a_m_ones a_m_others a_m_bytes a_m_anew a_m_values cI cB cZ cP cC above below retired manyLine bytesLong tokenAt tokenLong token value told) rfl rfl rfl (by decide) rfl (fun _ => rfl) (fun r_56 u H locs hw hP hD hS => ?_)
    try dsimp only at hw
    replace hP : va_P D vwCl (ww_X10_kindsOf a_m a_m_told a_m_kept a_m_isKept a_m_refused a_m_months a_m_heirs a_m_lasts a_m_cares a_m_bestCares a_m_ones a_m_others a_m_bytes a_m_anew a_m_values cI cB cZ cP cC above below retired manyLine bytesLong tokenAt tokenLong token value told) H := hP
    replace hD : va_D A (ww_X10_kindsOf a_m a_m_told a_m_kept a_m_isKept a_m_refused a_m_months a_m_heirs a_m_lasts a_m_cares a_m_bestCares a_m_ones a_m_others a_m_bytes a_m_anew a_m_values cI cB cZ cP cC above below retired manyLine bytesLong tokenAt tokenLong token value told) := hD
    refine lv_aload_n hx hb dX10_kindsOf_92 rfl (lv_at hl 0 rfl) ?_
    refine mx_get (ci := 10) (C := RX10) (T := TX10) (N := 23) hx hb hown in_wsX100 hts hK hP 0 rfl rfl 0 (by decide) q_91 rfl (v := .ref a_m_told) rfl dX10_kindsOf_93 ?_
    refine lv_iload hx hb dX10_kindsOf_96 (lv_at hl 6 rfl) ?_
    refine lv_iconst (v := 4) hx hb dX10_kindsOf_98 (by decide) ?_
    refine lv_iadd hx hb dX10_kindsOf_99 ?_
    obtain ⟨h_57, hw⟩ := hw
    refine mx_iald hx hb hK hP 1 0 rfl rfl h_57 (told (v6 + 4).toNatClampNeg) rfl dX10_kindsOf_100 ?_
    refine lv_icmp_ne (tgt := 108) hx hb dX10_kindsOf_101 (by decide) (fun c_58 => ?_) (fun c_58 => ?_)
    · replace hw := hw.2 c_58
      refine k_X10_kindsOf_J108 C0 ?_ v1 v2 v3 v4 v5 v6 _ _ _ hP hD hS (lv_sub hl [0, 1, 2, 3, 4, 5, 6] rfl) hw
      intro v1_59 v2_60 v3_61 v4_62 v5_63 H locs ls hP hD hS hl hw
      exact hK_16 v1_59 v2_60 v3_61 v4_62 v5_63 _ _ _ hP hD hS (lv_sub hl [0, 1, 2, 3, 4, 5] rfl) hw
    · replace hw := hw.1 c_58
      refine lv_iconst (v := 1) hx hb dX10_kindsOf_104 (by decide) ?_
      refine lv_goto (tgt := 109) hx hb dX10_kindsOf_105 (by decide) ?_
      refine k_X10_kindsOf_J109 C0 ?_ v1 v2 v3 v4 v5 v6 1 _ _ _ hP hD hS (lv_sub hl [0, 1, 2, 3, 4, 5, 6] rfl) hw
      intro v1_64 v2_65 v3_66 v4_67 v5_68 H locs ls hP hD hS hl hw
      exact hK_16 v1_64 v2_65 v3_66 v4_67 v5_68 _ _ _ hP hD hS (lv_sub hl [0, 1, 2, 3, 4, 5] rfl) hw
def wp_X10_kindsOf_L16 (told : Nat → Int32) (Post : Int32 → Prop) (K_145 : Int32 → Int32 → Int32 → Int32 → Prop) : Nat → Int32 → Int32 → Int32 → Int32 → Int32 → Prop
  | 0, _, _, _, _, _ => False
  | n + 1, v1, v2, v3, v4, v5 => (((told 1) ≤ v5 → K_145 v1 v2 v3 v4) ∧ (¬ (told 1) ≤ v5 → (∀ x_3 : Int32, x_3 = 36 + (5 * v5) → (vp_in (x_3 + 2) 190 ∧ (wp_X10_sleepsAs v3 (told (x_3 + 2).toNatClampNeg) (fun r_5 => (vp_in (x_3 + 3) 190 ∧ (((told (x_3 + 3).toNatClampNeg) = 1 → (wp_X10_kindsOf_J67 told Post (fun (v1_74 : Int32) (v2_75 : Int32) (v3_76 : Int32) (v4_77 : Int32) (v5_78 : Int32) => wp_X10_kindsOf_L16 told Post K_145 n v1_74 v2_75 v3_76 v4_77 v5_78) v1 v2 v3 v4 v5 x_3 1 r_5)) ∧ (¬ (told (x_3 + 3).toNatClampNeg) = 1 → (wp_X10_kindsOf_J67 told Post (fun (v1_69 : Int32) (v2_70 : Int32) (v3_71 : Int32) (v4_72 : Int32) (v5_73 : Int32) => wp_X10_kindsOf_L16 told Post K_145 n v1_69 v2_70 v3_71 v4_72 v5_73) v1 v2 v3 v4 v5 x_3 0 r_5))))))))))
set_option maxHeartbeats 4000000 in
set_option maxRecDepth 100000 in
theorem k_X10_kindsOf_L16 {p : Program} {l : Launch} {e : Env} {s : State} {m : MethodId} {ar : Array Value} {bl : List Frame} {meth : Method} {c : Code} {D : va_G} {A : Nat → Prop} {cI cB cZ cP cC : ClassId} {a_m a_m_told a_m_kept a_m_isKept a_m_refused a_m_months a_m_heirs a_m_lasts a_m_cares a_m_bestCares a_m_ones a_m_others a_m_bytes a_m_anew a_m_values : Nat} {above : Int64} {below : Int64} {retired : Int32} {manyLine : Int32} {bytesLong : Int32} {tokenAt : Int32} {tokenLong : Int32} {token : Int32} {value : Int32} {told : Nat → Int32} {Post : Int32 → Prop} {K_145 : Int32 → Int32 → Int32 → Int32 → Prop} (C0 : mxC p s m ar meth c cX10_kindsOf RX10 (some .int) 8 D (mxTy cI cB cZ cP cC) A)
    (hK_145 : ∀ (v1 : Int32) (v2 : Int32) (v3 : Int32) (v4 : Int32) (H : Heap) (locs : List Loc) (ls : Array Slot), va_P D vwCl (ww_X10_kindsOf a_m a_m_told a_m_kept a_m_isKept a_m_refused a_m_months a_m_heirs a_m_lasts a_m_cares a_m_bestCares a_m_ones a_m_others a_m_bytes a_m_anew a_m_values cI cB cZ cP cC above below retired manyLine bytesLong tokenAt tokenLong token value told) H → va_D A (ww_X10_kindsOf a_m a_m_told a_m_kept a_m_isKept a_m_refused a_m_months a_m_heirs a_m_lasts a_m_cares a_m_bestCares a_m_ones a_m_others a_m_bytes a_m_anew a_m_values cI cB cZ cP cC above below retired manyLine bytesLong tokenAt tokenLong token value told) → va_S A s.heap H locs → lv_has ls 8 [(0, .ref a_m), (1, .int v1), (2, .int v2), (3, .int v3), (4, .int v4)] → K_145 v1 v2 v3 v4 → W p l e rm_X10_kindsOf s m ar bl meth c H locs 0 0 (MQ bl (qq_X10_kindsOf D a_m a_m_told a_m_kept a_m_isKept a_m_refused a_m_months a_m_heirs a_m_lasts a_m_cares a_m_bestCares a_m_ones a_m_others a_m_bytes a_m_anew a_m_values cI cB cZ cP cC above below retired manyLine bytesLong tokenAt tokenLong token value told Post A) ar s 0 0 A) (F0 m 145 ls [])) :
    ∀ (n : Nat) (v1 : Int32) (v2 : Int32) (v3 : Int32) (v4 : Int32) (v5 : Int32) (H : Heap) (locs : List Loc) (ls : Array Slot), va_P D vwCl (ww_X10_kindsOf a_m a_m_told a_m_kept a_m_isKept a_m_refused a_m_months a_m_heirs a_m_lasts a_m_cares a_m_bestCares a_m_ones a_m_others a_m_bytes a_m_anew a_m_values cI cB cZ cP cC above below retired manyLine bytesLong tokenAt tokenLong token value told) H → va_D A (ww_X10_kindsOf a_m a_m_told a_m_kept a_m_isKept a_m_refused a_m_months a_m_heirs a_m_lasts a_m_cares a_m_bestCares a_m_ones a_m_others a_m_bytes a_m_anew a_m_values cI cB cZ cP cC above below retired manyLine bytesLong tokenAt tokenLong token value told) → va_S A s.heap H locs → lv_has ls 8 [(0, .ref a_m), (1, .int v1), (2, .int v2), (3, .int v3), (4, .int v4), (5, .int v5)] → wp_X10_kindsOf_L16 told Post K_145 n v1 v2 v3 v4 v5 → W p l e rm_X10_kindsOf s m ar bl meth c H locs 0 0 (MQ bl (qq_X10_kindsOf D a_m a_m_told a_m_kept a_m_isKept a_m_refused a_m_months a_m_heirs a_m_lasts a_m_cares a_m_bestCares a_m_ones a_m_others a_m_bytes a_m_anew a_m_values cI cB cZ cP cC above below retired manyLine bytesLong tokenAt tokenLong token value told Post A) ar s 0 0 A) (F0 m 16 ls []) := by
  obtain ⟨hx, hb, hr, hlocks, hml, hown, hts, hK, hA⟩ := id C0
  intro n
  induction n with
  | zero =>
    intro v1 v2 v3 v4 v5 H locs ls hP hD hS hl hw
    exact absurd hw (fun h => h)
  | succ n ih =>
    intro v1 v2 v3 v4 v5 H locs ls hP hD hS hl hw
    refine lv_iload hx hb dX10_kindsOf_16 (lv_at hl 5 rfl) ?_
    refine lv_aload_n hx hb dX10_kindsOf_18 rfl (lv_at hl 0 rfl) ?_
    refine mx_get (ci := 10) (C := RX10) (T := TX10) (N := 23) hx hb hown in_wsX100 hts hK hP 0 rfl rfl 0 (by decide) q_91 rfl (v := .ref a_m_told) rfl dX10_kindsOf_19 ?_
    refine lv_iconst (v := 1) hx hb dX10_kindsOf_22 (by decide) ?_
    refine mx_iald hx hb hK hP 1 0 rfl rfl (mx_lit rfl) (told 1) rfl dX10_kindsOf_23 ?_
    refine lv_icmp_ge (tgt := 145) hx hb dX10_kindsOf_24 (by decide) (fun c_2 => ?_) (fun c_2 => ?_)
    · replace hw := hw.1 c_2
      exact hK_145 v1 v2 v3 v4 _ _ _ hP hD hS (lv_sub hl [0, 1, 2, 3, 4] rfl) hw
    · replace hw := hw.2 c_2
      refine lv_bipush (v := 36) hx hb dX10_kindsOf_27 (by decide) ?_
      refine lv_iconst (v := 5) hx hb dX10_kindsOf_29 (by decide) ?_
      refine lv_iload hx hb dX10_kindsOf_30 (lv_at hl 5 rfl) ?_
      refine lv_imul hx hb dX10_kindsOf_32 ?_
      refine lv_iadd hx hb dX10_kindsOf_33 ?_
      refine lv_topi (fun x_3 ex_3 => ?_)
      replace hw := hw x_3 ex_3
      refine lv_istore (lv' := [(6, .int x_3), (0, .ref a_m), (1, .int v1), (2, .int v2), (3, .int v3), (4, .int v4), (5, .int v5)]) hx hb dX10_kindsOf_34 hl (by decide) rfl (fun ls hl => ?_)
      refine lv_iload_n hx hb dX10_kindsOf_36 rfl (lv_at hl 4 rfl) ?_
      refine lv_aload_n hx hb dX10_kindsOf_37 rfl (lv_at hl 1 rfl) ?_
      refine mx_get (ci := 10) (C := RX10) (T := TX10) (N := 23) hx hb hown in_wsX100 hts hK hP 0 rfl rfl 0 (by decide) q_91 rfl (v := .ref a_m_told) rfl dX10_kindsOf_38 ?_
      refine lv_iload hx hb dX10_kindsOf_41 (lv_at hl 0 rfl) ?_
      refine lv_iconst (v := 2) hx hb dX10_kindsOf_43 (by decide) ?_
      refine lv_iadd hx hb dX10_kindsOf_44 ?_
      obtain ⟨h_4, hw⟩ := hw
      refine mx_iald hx hb hK hP 1 0 rfl rfl h_4 (told (x_3 + 2).toNatClampNeg) rfl dX10_kindsOf_45 ?_
      refine mx_ki (mx_rS (rm := rm_X10_sleepsAs) (rest := []) hx hb hml hown hts (c_X10_sleepsAs l D cI cB cZ cP cC v3 (told (x_3 + 2).toNatClampNeg) _ _ hw) q_612 q_613 q_5 q_614 hd_X10_sleepsAs ⟨(Nat.le_of_ble_eq_true rfl), (Nat.le_of_ble_eq_true rfl)⟩ rfl rfl hK hP hD [] rfl rfl rfl hl.1 rfl (Nat.le_of_ble_eq_true rfl) dX10_kindsOf_46 ⟨(Nat.le_of_ble_eq_true rfl), (Nat.le_of_ble_eq_true rfl)⟩) hP hD hS hA [] [0, 1] [0, 1] (fun _ => ww_X10_kindsOf a_m a_m_told a_m_kept a_m_isKept a_m_refused a_m_months a_m_heirs a_m_lasts a_m_cares a_m_bestCares a_m_ones a_m_others a_m_bytes a_m_anew a_m_values cI cB cZ cP cC above below retired manyLine bytesLong tokenAt tokenLong token value told) rfl rfl rfl (by decide) rfl (fun _ => rfl) (fun r_5 u H locs hw hP hD hS => ?_)
      try dsimp only at hw
      replace hP : va_P D vwCl (ww_X10_kindsOf a_m a_m_told a_m_kept a_m_isKept a_m_refused a_m_months a_m_heirs a_m_lasts a_m_cares a_m_bestCares a_m_ones a_m_others a_m_bytes a_m_anew a_m_values cI cB cZ cP cC above below retired manyLine bytesLong tokenAt tokenLong token value told) H := hP
      replace hD : va_D A (ww_X10_kindsOf a_m a_m_told a_m_kept a_m_isKept a_m_refused a_m_months a_m_heirs a_m_lasts a_m_cares a_m_bestCares a_m_ones a_m_others a_m_bytes a_m_anew a_m_values cI cB cZ cP cC above below retired manyLine bytesLong tokenAt tokenLong token value told) := hD
      refine lv_aload_n hx hb dX10_kindsOf_49 rfl (lv_at hl 1 rfl) ?_
      refine mx_get (ci := 10) (C := RX10) (T := TX10) (N := 23) hx hb hown in_wsX100 hts hK hP 0 rfl rfl 0 (by decide) q_91 rfl (v := .ref a_m_told) rfl dX10_kindsOf_50 ?_
      refine lv_iload hx hb dX10_kindsOf_53 (lv_at hl 0 rfl) ?_
      refine lv_iconst (v := 3) hx hb dX10_kindsOf_55 (by decide) ?_
      refine lv_iadd hx hb dX10_kindsOf_56 ?_
      obtain ⟨h_6, hw⟩ := hw
      refine mx_iald hx hb hK hP 1 0 rfl rfl h_6 (told (x_3 + 3).toNatClampNeg) rfl dX10_kindsOf_57 ?_
      refine lv_iconst (v := 1) hx hb dX10_kindsOf_58 (by decide) ?_
      refine lv_icmp_ne (tgt := 66) hx hb dX10_kindsOf_59 (by decide) (fun c_7 => ?_) (fun c_7 => ?_)
      · replace hw := hw.2 c_7
        refine lv_iconst (v := 0) hx hb dX10_kindsOf_66 (by decide) ?_
        refine k_X10_kindsOf_J67 C0 ?_ v1 v2 v3 v4 v5 x_3 0 r_5 _ _ _ hP hD hS (lv_sub hl [1, 2, 3, 4, 5, 6, 0] rfl) hw
        intro v1_69 v2_70 v3_71 v4_72 v5_73 H locs ls hP hD hS hl hw
        exact ih v1_69 v2_70 v3_71 v4_72 v5_73 _ _ _ hP hD hS (lv_sub hl [0, 1, 2, 3, 4, 5] rfl) hw
      · replace hw := hw.1 c_7
        refine lv_iconst (v := 1) hx hb dX10_kindsOf_62 (by decide) ?_
        refine lv_goto (tgt := 67) hx hb dX10_kindsOf_63 (by decide) ?_
        refine k_X10_kindsOf_J67 C0 ?_ v1 v2 v3 v4 v5 x_3 1 r_5 _ _ _ hP hD hS (lv_sub hl [1, 2, 3, 4, 5, 6, 0] rfl) hw
        intro v1_74 v2_75 v3_76 v4_77 v5_78 H locs ls hP hD hS hl hw
        exact ih v1_74 v2_75 v3_76 v4_77 v5_78 _ _ _ hP hD hS (lv_sub hl [0, 1, 2, 3, 4, 5] rfl) hw
def wp_X10_kindsOf_J158 (told : Nat → Int32) (Post : Int32 → Prop) (K_4 : Int32 → Int32 → Int32 → Prop) (v1 : Int32) (v3 : Int32) (s0 : Int32) (s1 : Int32) : Prop :=
  (∀ x_84 : Int32, x_84 = s1 ||| s0 → (∀ x_85 : Int32, x_85 = v3 + 1 → K_4 v1 x_84 x_85))
set_option maxHeartbeats 4000000 in
set_option maxRecDepth 100000 in
theorem k_X10_kindsOf_J158 {p : Program} {l : Launch} {e : Env} {s : State} {m : MethodId} {ar : Array Value} {bl : List Frame} {meth : Method} {c : Code} {D : va_G} {A : Nat → Prop} {cI cB cZ cP cC : ClassId} {a_m a_m_told a_m_kept a_m_isKept a_m_refused a_m_months a_m_heirs a_m_lasts a_m_cares a_m_bestCares a_m_ones a_m_others a_m_bytes a_m_anew a_m_values : Nat} {above : Int64} {below : Int64} {retired : Int32} {manyLine : Int32} {bytesLong : Int32} {tokenAt : Int32} {tokenLong : Int32} {token : Int32} {value : Int32} {told : Nat → Int32} {Post : Int32 → Prop} {K_4 : Int32 → Int32 → Int32 → Prop} (C0 : mxC p s m ar meth c cX10_kindsOf RX10 (some .int) 8 D (mxTy cI cB cZ cP cC) A)
    (hK_4 : ∀ (v1 : Int32) (v2 : Int32) (v3 : Int32) (H : Heap) (locs : List Loc) (ls : Array Slot), va_P D vwCl (ww_X10_kindsOf a_m a_m_told a_m_kept a_m_isKept a_m_refused a_m_months a_m_heirs a_m_lasts a_m_cares a_m_bestCares a_m_ones a_m_others a_m_bytes a_m_anew a_m_values cI cB cZ cP cC above below retired manyLine bytesLong tokenAt tokenLong token value told) H → va_D A (ww_X10_kindsOf a_m a_m_told a_m_kept a_m_isKept a_m_refused a_m_months a_m_heirs a_m_lasts a_m_cares a_m_bestCares a_m_ones a_m_others a_m_bytes a_m_anew a_m_values cI cB cZ cP cC above below retired manyLine bytesLong tokenAt tokenLong token value told) → va_S A s.heap H locs → lv_has ls 8 [(0, .ref a_m), (1, .int v1), (2, .int v2), (3, .int v3)] → K_4 v1 v2 v3 → W p l e rm_X10_kindsOf s m ar bl meth c H locs 0 0 (MQ bl (qq_X10_kindsOf D a_m a_m_told a_m_kept a_m_isKept a_m_refused a_m_months a_m_heirs a_m_lasts a_m_cares a_m_bestCares a_m_ones a_m_others a_m_bytes a_m_anew a_m_values cI cB cZ cP cC above below retired manyLine bytesLong tokenAt tokenLong token value told Post A) ar s 0 0 A) (F0 m 4 ls [])) :
    ∀ (v1 : Int32) (v3 : Int32) (s0 : Int32) (s1 : Int32) (H : Heap) (locs : List Loc) (ls : Array Slot), va_P D vwCl (ww_X10_kindsOf a_m a_m_told a_m_kept a_m_isKept a_m_refused a_m_months a_m_heirs a_m_lasts a_m_cares a_m_bestCares a_m_ones a_m_others a_m_bytes a_m_anew a_m_values cI cB cZ cP cC above below retired manyLine bytesLong tokenAt tokenLong token value told) H → va_D A (ww_X10_kindsOf a_m a_m_told a_m_kept a_m_isKept a_m_refused a_m_months a_m_heirs a_m_lasts a_m_cares a_m_bestCares a_m_ones a_m_others a_m_bytes a_m_anew a_m_values cI cB cZ cP cC above below retired manyLine bytesLong tokenAt tokenLong token value told) → va_S A s.heap H locs → lv_has ls 8 [(0, .ref a_m), (1, .int v1), (3, .int v3)] → wp_X10_kindsOf_J158 told Post K_4 v1 v3 s0 s1 → W p l e rm_X10_kindsOf s m ar bl meth c H locs 0 0 (MQ bl (qq_X10_kindsOf D a_m a_m_told a_m_kept a_m_isKept a_m_refused a_m_months a_m_heirs a_m_lasts a_m_cares a_m_bestCares a_m_ones a_m_others a_m_bytes a_m_anew a_m_values cI cB cZ cP cC above below retired manyLine bytesLong tokenAt tokenLong token value told Post A) ar s 0 0 A) (F0 m 158 ls [.int s0, .int s1]) := by
  obtain ⟨hx, hb, hr, hlocks, hml, hown, hts, hK, hA⟩ := id C0
  intro v1 v3 s0 s1 H locs ls hP hD hS hl hw
  refine lv_ior hx hb dX10_kindsOf_158 ?_
  refine lv_topi (fun x_84 ex_84 => ?_)
  replace hw := hw x_84 ex_84
  refine lv_istore_n (lv' := [(2, .int x_84), (0, .ref a_m), (1, .int v1), (3, .int v3)]) hx hb dX10_kindsOf_159 rfl hl (by decide) rfl (fun ls hl => ?_)
  obtain ⟨x_85, ex_85⟩ : ∃ y : Int32, y = v3 + 1 := ⟨_, rfl⟩
  replace hw := hw x_85 ex_85
  refine lv_iinc (v := x_85) (lv' := [(3, .int x_85), (2, .int x_84), (0, .ref a_m), (1, .int v1)]) hx hb dX10_kindsOf_160 hl (k := 3) rfl (by rw [ex_85]; rfl) (by decide) rfl (fun ls hl => ?_)
  refine lv_goto (tgt := 4) hx hb dX10_kindsOf_163 (by decide) ?_
  exact hK_4 v1 x_84 x_85 _ _ _ hP hD hS (lv_sub hl [2, 3, 1, 0] rfl) hw
def wp_X10_kindsOf_L4 (told : Nat → Int32) (Post : Int32 → Prop)  : Nat → Int32 → Int32 → Int32 → Prop
  | 0, _, _, _ => False
  | n + 1, v1, v2, v3 => ((6 ≤ v3 → Post v2) ∧ (¬ 6 ≤ v3 → (∃ k_92 : Nat, wp_X10_kindsOf_L16 told Post (fun (v1_79 : Int32) (v2_80 : Int32) (v3_81 : Int32) (v4_82 : Int32) => ((v4_82 = 0 → (wp_X10_kindsOf_J158 told Post (fun (v1_86 : Int32) (v2_87 : Int32) (v3_88 : Int32) => wp_X10_kindsOf_L4 told Post  n v1_86 v2_87 v3_88) v1_79 v3_81 0 v2_80)) ∧ (¬ v4_82 = 0 → (wp_X10_kindsOf_J158 told Post (fun (v1_89 : Int32) (v2_90 : Int32) (v3_91 : Int32) => wp_X10_kindsOf_L4 told Post  n v1_89 v2_90 v3_91) v1_79 v3_81 (1 <<< (v3_81 &&& 31)) v2_80)))) k_92 v1 v2 v3 1 0)))
set_option maxHeartbeats 4000000 in
set_option maxRecDepth 100000 in
theorem k_X10_kindsOf_L4 {p : Program} {l : Launch} {e : Env} {s : State} {m : MethodId} {ar : Array Value} {bl : List Frame} {meth : Method} {c : Code} {D : va_G} {A : Nat → Prop} {cI cB cZ cP cC : ClassId} {a_m a_m_told a_m_kept a_m_isKept a_m_refused a_m_months a_m_heirs a_m_lasts a_m_cares a_m_bestCares a_m_ones a_m_others a_m_bytes a_m_anew a_m_values : Nat} {above : Int64} {below : Int64} {retired : Int32} {manyLine : Int32} {bytesLong : Int32} {tokenAt : Int32} {tokenLong : Int32} {token : Int32} {value : Int32} {told : Nat → Int32} {Post : Int32 → Prop} (C0 : mxC p s m ar meth c cX10_kindsOf RX10 (some .int) 8 D (mxTy cI cB cZ cP cC) A) :
    ∀ (n : Nat) (v1 : Int32) (v2 : Int32) (v3 : Int32) (H : Heap) (locs : List Loc) (ls : Array Slot), va_P D vwCl (ww_X10_kindsOf a_m a_m_told a_m_kept a_m_isKept a_m_refused a_m_months a_m_heirs a_m_lasts a_m_cares a_m_bestCares a_m_ones a_m_others a_m_bytes a_m_anew a_m_values cI cB cZ cP cC above below retired manyLine bytesLong tokenAt tokenLong token value told) H → va_D A (ww_X10_kindsOf a_m a_m_told a_m_kept a_m_isKept a_m_refused a_m_months a_m_heirs a_m_lasts a_m_cares a_m_bestCares a_m_ones a_m_others a_m_bytes a_m_anew a_m_values cI cB cZ cP cC above below retired manyLine bytesLong tokenAt tokenLong token value told) → va_S A s.heap H locs → lv_has ls 8 [(0, .ref a_m), (1, .int v1), (2, .int v2), (3, .int v3)] → wp_X10_kindsOf_L4 told Post  n v1 v2 v3 → W p l e rm_X10_kindsOf s m ar bl meth c H locs 0 0 (MQ bl (qq_X10_kindsOf D a_m a_m_told a_m_kept a_m_isKept a_m_refused a_m_months a_m_heirs a_m_lasts a_m_cares a_m_bestCares a_m_ones a_m_others a_m_bytes a_m_anew a_m_values cI cB cZ cP cC above below retired manyLine bytesLong tokenAt tokenLong token value told Post A) ar s 0 0 A) (F0 m 4 ls []) := by
  obtain ⟨hx, hb, hr, hlocks, hml, hown, hts, hK, hA⟩ := id C0
  intro n
  induction n with
  | zero =>
    intro v1 v2 v3 H locs ls hP hD hS hl hw
    exact absurd hw (fun h => h)
  | succ n ih =>
    intro v1 v2 v3 H locs ls hP hD hS hl hw
    refine lv_iload_n hx hb dX10_kindsOf_4 rfl (lv_at hl 3 rfl) ?_
    refine lv_bipush (v := 6) hx hb dX10_kindsOf_5 (by decide) ?_
    refine lv_icmp_ge (tgt := 166) hx hb dX10_kindsOf_7 (by decide) (fun c_1 => ?_) (fun c_1 => ?_)
    · replace hw := hw.1 c_1
      refine lv_iload_n hx hb dX10_kindsOf_166 rfl (lv_at hl 2 rfl) ?_
      exact mx_iret () hx hb hr hlocks rfl hw hK hP hD hS dX10_kindsOf_167
    · replace hw := hw.2 c_1
      refine lv_iconst (v := 1) hx hb dX10_kindsOf_10 (by decide) ?_
      refine lv_istore (lv' := [(4, .int 1), (0, .ref a_m), (1, .int v1), (2, .int v2), (3, .int v3)]) hx hb dX10_kindsOf_11 hl (by decide) rfl (fun ls hl => ?_)
      refine lv_iconst (v := 0) hx hb dX10_kindsOf_13 (by decide) ?_
      refine lv_istore (lv' := [(5, .int 0), (4, .int 1), (0, .ref a_m), (1, .int v1), (2, .int v2), (3, .int v3)]) hx hb dX10_kindsOf_14 hl (by decide) rfl (fun ls hl => ?_)
      obtain ⟨n0, hw⟩ := hw
      refine k_X10_kindsOf_L16 C0 ?_ n0 v1 v2 v3 1 0 _ _ _ hP hD hS (lv_sub hl [2, 3, 4, 5, 1, 0] rfl) hw
      intro v1_79 v2_80 v3_81 v4_82 H locs ls hP hD hS hl hw
      refine lv_iload_n hx hb dX10_kindsOf_145 rfl (lv_at hl 2 rfl) ?_
      refine lv_iload hx hb dX10_kindsOf_146 (lv_at hl 4 rfl) ?_
      refine lv_if_eq (tgt := 157) hx hb dX10_kindsOf_148 (by decide) (fun c_83 => ?_) (fun c_83 => ?_)
      · replace hw := hw.1 c_83
        refine lv_iconst (v := 0) hx hb dX10_kindsOf_157 (by decide) ?_
        refine k_X10_kindsOf_J158 C0 ?_ v1_79 v3_81 0 v2_80 _ _ _ hP hD hS (lv_sub hl [0, 1, 3] rfl) hw
        intro v1_86 v2_87 v3_88 H locs ls hP hD hS hl hw
        exact ih v1_86 v2_87 v3_88 _ _ _ hP hD hS (lv_sub hl [0, 1, 2, 3] rfl) hw
      · replace hw := hw.2 c_83
        refine lv_iconst (v := 1) hx hb dX10_kindsOf_151 (by decide) ?_
        refine lv_iload_n hx hb dX10_kindsOf_152 rfl (lv_at hl 3 rfl) ?_
        refine lv_ishl hx hb dX10_kindsOf_153 ?_
        refine lv_goto (tgt := 158) hx hb dX10_kindsOf_154 (by decide) ?_
        refine k_X10_kindsOf_J158 C0 ?_ v1_79 v3_81 (1 <<< (v3_81 &&& 31)) v2_80 _ _ _ hP hD hS (lv_sub hl [0, 1, 3] rfl) hw
        intro v1_89 v2_90 v3_91 H locs ls hP hD hS hl hw
        exact ih v1_89 v2_90 v3_91 _ _ _ hP hD hS (lv_sub hl [0, 1, 2, 3] rfl) hw
def wp_X10_kindsOf (told : Nat → Int32) (v1 : Int32) (Post : Int32 → Prop) : Prop :=
  (∃ k_93 : Nat, wp_X10_kindsOf_L4 told Post k_93 v1 0 0)
set_option maxHeartbeats 4000000 in
set_option maxRecDepth 100000 in
theorem c_X10_kindsOf (l : Launch) (D : va_G) (cI cB cZ cP cC : ClassId) (a_m a_m_told a_m_kept a_m_isKept a_m_refused a_m_months a_m_heirs a_m_lasts a_m_cares a_m_bestCares a_m_ones a_m_others a_m_bytes a_m_anew a_m_values : Nat) (above : Int64) (below : Int64) (retired : Int32) (manyLine : Int32) (bytesLong : Int32) (tokenAt : Int32) (tokenLong : Int32) (token : Int32) (value : Int32) (told : Nat → Int32) (v1 : Int32) (sz : Nat) (Post : Int32 → Prop) (hw : wp_X10_kindsOf told v1 Post) :
    Met l yX10_kindsOf (Cond.code yX10_kindsOf cX10_kindsOf 8 (some .int) :: wsAll) rm_X10_kindsOf (va_Pc [.ref a_m, .int v1] (mxP D (mxTy cI cB cZ cP cC) sz (ww_X10_kindsOf a_m a_m_told a_m_kept a_m_isKept a_m_refused a_m_months a_m_heirs a_m_lasts a_m_cares a_m_bestCares a_m_ones a_m_others a_m_bytes a_m_anew a_m_values cI cB cZ cP cC above below retired manyLine bytesLong tokenAt tokenLong token value told))) (qq_X10_kindsOf D a_m a_m_told a_m_kept a_m_isKept a_m_refused a_m_months a_m_heirs a_m_lasts a_m_cares a_m_bestCares a_m_ones a_m_others a_m_bytes a_m_anew a_m_values cI cB cZ cP cC above below retired manyLine bytesLong tokenAt tokenLong token value told Post (va_A (ww_X10_kindsOf a_m a_m_told a_m_kept a_m_isKept a_m_refused a_m_months a_m_heirs a_m_lasts a_m_cares a_m_bestCares a_m_ones a_m_others a_m_bytes a_m_anew a_m_values cI cB cZ cP cC above below retired manyLine bytesLong tokenAt tokenLong token value told) sz)) 0 0 (va_A (ww_X10_kindsOf a_m a_m_told a_m_kept a_m_isKept a_m_refused a_m_months a_m_heirs a_m_lasts a_m_cares a_m_bestCares a_m_ones a_m_others a_m_bytes a_m_anew a_m_values cI cB cZ cP cC above below retired manyLine bytesLong tokenAt tokenLong token value told) sz) := by
  refine mx_of (Qc := qq_X10_kindsOf D a_m a_m_told a_m_kept a_m_isKept a_m_refused a_m_months a_m_heirs a_m_lasts a_m_cares a_m_bestCares a_m_ones a_m_others a_m_bytes a_m_anew a_m_values cI cB cZ cP cC above below retired manyLine bytesLong tokenAt tokenLong token value told Post) (by decide) (Nat.le_of_ble_eq_true rfl) ?_
  intro p e s m bl meth c A ls C0 hP hD hS hl
  replace C0 : mxC p s m [.ref a_m, .int v1].toArray meth c cX10_kindsOf RX10 (some .int) 8 D (mxTy cI cB cZ cP cC) A := C0
  obtain ⟨hx, hb, hr, hlocks, hml, hown, hts, hK, hA⟩ := id C0
  replace hl : lv_has ls 8 [(0, .ref a_m), (1, .int v1)] := hl
  unfold wp_X10_kindsOf at hw
  refine lv_iconst (v := 0) hx hb dX10_kindsOf_0 (by decide) ?_
  refine lv_istore_n (lv' := [(2, .int 0), (0, .ref a_m), (1, .int v1)]) hx hb dX10_kindsOf_1 rfl hl (by decide) rfl (fun ls hl => ?_)
  refine lv_iconst (v := 0) hx hb dX10_kindsOf_2 (by decide) ?_
  refine lv_istore_n (lv' := [(3, .int 0), (2, .int 0), (0, .ref a_m), (1, .int v1)]) hx hb dX10_kindsOf_3 rfl hl (by decide) rfl (fun ls hl => ?_)
  obtain ⟨n0, hw⟩ := hw
  refine k_X10_kindsOf_L4 C0  n0 v1 0 0 _ _ _ hP hD hS (lv_sub hl [2, 3, 1, 0] rfl) hw
/-! PramStateModel.is(I)I -/
abbrev ww_X10_is (a_m a_m_told a_m_kept a_m_isKept a_m_refused a_m_months a_m_heirs a_m_lasts a_m_cares a_m_bestCares a_m_ones a_m_others a_m_bytes a_m_anew a_m_values : Nat) (cI cB cZ cP cC : ClassId) (above : Int64) (below : Int64) (retired : Int32) (manyLine : Int32) (bytesLong : Int32) (tokenAt : Int32) (tokenLong : Int32) (token : Int32) (value : Int32) (told : Nat → Int32) (refused : Nat → Int32) : va_W := [(a_m, .inr (10, [.ref a_m_told, .ref a_m_kept, .ref a_m_isKept, .ref a_m_refused, .long above, .long below, .ref a_m_months, .int retired, .ref a_m_heirs, .ref a_m_lasts, .int manyLine, .ref a_m_cares, .ref a_m_bestCares, .ref a_m_ones, .ref a_m_others, .ref a_m_bytes, .int bytesLong, .int tokenAt, .int tokenLong, .int token, .int value, .ref a_m_anew, .ref a_m_values])), (a_m_told, .inl (cI, 190, .inl told)), (a_m_refused, .inl (cI, 3, .inl refused))]
abbrev qq_X10_is (D : va_G) (a_m a_m_told a_m_kept a_m_isKept a_m_refused a_m_months a_m_heirs a_m_lasts a_m_cares a_m_bestCares a_m_ones a_m_others a_m_bytes a_m_anew a_m_values : Nat) (cI cB cZ cP cC : ClassId) (above : Int64) (below : Int64) (retired : Int32) (manyLine : Int32) (bytesLong : Int32) (tokenAt : Int32) (tokenLong : Int32) (token : Int32) (value : Int32) (told : Nat → Int32) (Post : Int32 → (Nat → Int32) → Prop) (A : Nat → Prop) : Array Value → State → Outcome → State → Prop := va_Qi (fun (r : Int32) (u : (Nat → Int32)) => Post r u) (fun (u : (Nat → Int32)) t => mxB D (mxTy cI cB cZ cP cC) A (ww_X10_is a_m a_m_told a_m_kept a_m_isKept a_m_refused a_m_months a_m_heirs a_m_lasts a_m_cares a_m_bestCares a_m_ones a_m_others a_m_bytes a_m_anew a_m_values cI cB cZ cP cC above below retired manyLine bytesLong tokenAt tokenLong token value told u) t) A
abbrev rm_X10_is : Room := { frames := 4, cells := 0, slots := 0, locals := 96 }
theorem hd_X10_is : yX10_is.cls = RX10 ∧ yX10_is.cls ≠ "java/lang/invoke/MethodHandle" ∧ yX10_is.cls ≠ "java/lang/invoke/VarHandle" ∧ (parseMethodDescriptor yX10_is.desc).map (fun d => d.parameters.length) = some 1 := by decide +kernel
def wp_X10_is (told : Nat → Int32) (refused : Nat → Int32) (v1 : Int32) (Post : Int32 → (Nat → Int32) → Prop) : Prop :=
  (wp_X10_isInfant told v1 (fun r_1 => ((r_1 = 0 → (wp_X10_bad refused (-2) (fun r_3 refused_4 => Post r_3 refused_4))) ∧ (¬ r_1 = 0 → (wp_X10_kindsOf told v1 (fun r_5 => Post r_5 refused))))))
set_option maxHeartbeats 4000000 in
set_option maxRecDepth 100000 in
theorem c_X10_is (l : Launch) (D : va_G) (cI cB cZ cP cC : ClassId) (a_m a_m_told a_m_kept a_m_isKept a_m_refused a_m_months a_m_heirs a_m_lasts a_m_cares a_m_bestCares a_m_ones a_m_others a_m_bytes a_m_anew a_m_values : Nat) (above : Int64) (below : Int64) (retired : Int32) (manyLine : Int32) (bytesLong : Int32) (tokenAt : Int32) (tokenLong : Int32) (token : Int32) (value : Int32) (told : Nat → Int32) (refused : Nat → Int32) (v1 : Int32) (sz : Nat) (Post : Int32 → (Nat → Int32) → Prop) (hw : wp_X10_is told refused v1 Post) :
    Met l yX10_is (Cond.code yX10_is cX10_is 2 (some .int) :: wsAll) rm_X10_is (va_Pc [.ref a_m, .int v1] (mxP D (mxTy cI cB cZ cP cC) sz (ww_X10_is a_m a_m_told a_m_kept a_m_isKept a_m_refused a_m_months a_m_heirs a_m_lasts a_m_cares a_m_bestCares a_m_ones a_m_others a_m_bytes a_m_anew a_m_values cI cB cZ cP cC above below retired manyLine bytesLong tokenAt tokenLong token value told refused))) (qq_X10_is D a_m a_m_told a_m_kept a_m_isKept a_m_refused a_m_months a_m_heirs a_m_lasts a_m_cares a_m_bestCares a_m_ones a_m_others a_m_bytes a_m_anew a_m_values cI cB cZ cP cC above below retired manyLine bytesLong tokenAt tokenLong token value told Post (va_A (ww_X10_is a_m a_m_told a_m_kept a_m_isKept a_m_refused a_m_months a_m_heirs a_m_lasts a_m_cares a_m_bestCares a_m_ones a_m_others a_m_bytes a_m_anew a_m_values cI cB cZ cP cC above below retired manyLine bytesLong tokenAt tokenLong token value told refused) sz)) 0 0 (va_A (ww_X10_is a_m a_m_told a_m_kept a_m_isKept a_m_refused a_m_months a_m_heirs a_m_lasts a_m_cares a_m_bestCares a_m_ones a_m_others a_m_bytes a_m_anew a_m_values cI cB cZ cP cC above below retired manyLine bytesLong tokenAt tokenLong token value told refused) sz) := by
  refine mx_of (Qc := qq_X10_is D a_m a_m_told a_m_kept a_m_isKept a_m_refused a_m_months a_m_heirs a_m_lasts a_m_cares a_m_bestCares a_m_ones a_m_others a_m_bytes a_m_anew a_m_values cI cB cZ cP cC above below retired manyLine bytesLong tokenAt tokenLong token value told Post) (by decide) (Nat.le_of_ble_eq_true rfl) ?_
  intro p e s m bl meth c A ls C0 hP hD hS hl
  replace C0 : mxC p s m [.ref a_m, .int v1].toArray meth c cX10_is RX10 (some .int) 2 D (mxTy cI cB cZ cP cC) A := C0
  obtain ⟨hx, hb, hr, hlocks, hml, hown, hts, hK, hA⟩ := id C0
  replace hl : lv_has ls 2 [(0, .ref a_m), (1, .int v1)] := hl
  unfold wp_X10_is at hw
  refine lv_aload_n hx hb dX10_is_0 rfl (lv_at hl 0 rfl) ?_
  refine lv_iload_n hx hb dX10_is_1 rfl (lv_at hl 1 rfl) ?_
  refine mx_ki (mx_rV (rm := rm_X10_isInfant) (rest := []) (C := RX10) hx hb hml hown hts (c_X10_isInfant l D cI cB cZ cP cC a_m a_m_told a_m_kept a_m_isKept a_m_refused a_m_months a_m_heirs a_m_lasts a_m_cares a_m_bestCares a_m_ones a_m_others a_m_bytes a_m_anew a_m_values above below retired manyLine bytesLong tokenAt tokenLong token value told v1 _ _ hw) q_472 q_473 q_474 q_5 q_475 hd_X10_isInfant ⟨(Nat.le_of_ble_eq_true rfl), (Nat.le_of_ble_eq_true rfl)⟩ rfl rfl hK hP hD [0, 1] rfl rfl 10 0 rfl rfl rfl rfl hl.1 rfl (Nat.le_of_ble_eq_true rfl) dX10_is_2 ⟨(Nat.le_of_ble_eq_true rfl), (Nat.le_of_ble_eq_true rfl)⟩) hP hD hS hA [0, 1] [2] [1, 2, 0] (fun _ => ww_X10_is a_m a_m_told a_m_kept a_m_isKept a_m_refused a_m_months a_m_heirs a_m_lasts a_m_cares a_m_bestCares a_m_ones a_m_others a_m_bytes a_m_anew a_m_values cI cB cZ cP cC above below retired manyLine bytesLong tokenAt tokenLong token value told refused) rfl rfl rfl (by decide) rfl (fun _ => rfl) (fun r_1 u H locs hw hP hD hS => ?_)
  try dsimp only at hw
  replace hP : va_P D vwCl (ww_X10_is a_m a_m_told a_m_kept a_m_isKept a_m_refused a_m_months a_m_heirs a_m_lasts a_m_cares a_m_bestCares a_m_ones a_m_others a_m_bytes a_m_anew a_m_values cI cB cZ cP cC above below retired manyLine bytesLong tokenAt tokenLong token value told refused) H := hP
  replace hD : va_D A (ww_X10_is a_m a_m_told a_m_kept a_m_isKept a_m_refused a_m_months a_m_heirs a_m_lasts a_m_cares a_m_bestCares a_m_ones a_m_others a_m_bytes a_m_anew a_m_values cI cB cZ cP cC above below retired manyLine bytesLong tokenAt tokenLong token value told refused) := hD
  refine lv_if_eq (tgt := 16) hx hb dX10_is_5 (by decide) (fun c_2 => ?_) (fun c_2 => ?_)
  · replace hw := hw.1 c_2
    refine lv_aload_n hx hb dX10_is_16 rfl (lv_at hl 0 rfl) ?_
    refine lv_bipush (v := (-2)) hx hb dX10_is_17 (by decide) ?_
    refine mx_ki (mx_rV (rm := rm_X10_bad) (rest := []) (C := RX10) hx hb hml hown hts (c_X10_bad l D cI cB cZ cP cC a_m a_m_told a_m_kept a_m_isKept a_m_refused a_m_months a_m_heirs a_m_lasts a_m_cares a_m_bestCares a_m_ones a_m_others a_m_bytes a_m_anew a_m_values above below retired manyLine bytesLong tokenAt tokenLong token value refused (-2) _ _ hw) q_166 q_167 q_168 q_5 q_169 hd_X10_bad ⟨(Nat.le_of_ble_eq_true rfl), (Nat.le_of_ble_eq_true rfl)⟩ rfl rfl hK hP hD [0, 2] rfl rfl 10 0 rfl rfl rfl rfl hl.1 rfl (Nat.le_of_ble_eq_true rfl) dX10_is_19 ⟨(Nat.le_of_ble_eq_true rfl), (Nat.le_of_ble_eq_true rfl)⟩) hP hD hS hA [0, 2] [1] [1, 0, 2] (fun u => ww_X10_is a_m a_m_told a_m_kept a_m_isKept a_m_refused a_m_months a_m_heirs a_m_lasts a_m_cares a_m_bestCares a_m_ones a_m_others a_m_bytes a_m_anew a_m_values cI cB cZ cP cC above below retired manyLine bytesLong tokenAt tokenLong token value told u) rfl rfl rfl (by decide) rfl (fun _ => rfl) (fun r_3 refused_4 H locs hw hP hD hS => ?_)
    try dsimp only at hw
    replace hP : va_P D vwCl (ww_X10_is a_m a_m_told a_m_kept a_m_isKept a_m_refused a_m_months a_m_heirs a_m_lasts a_m_cares a_m_bestCares a_m_ones a_m_others a_m_bytes a_m_anew a_m_values cI cB cZ cP cC above below retired manyLine bytesLong tokenAt tokenLong token value told refused_4) H := hP
    replace hD : va_D A (ww_X10_is a_m a_m_told a_m_kept a_m_isKept a_m_refused a_m_months a_m_heirs a_m_lasts a_m_cares a_m_bestCares a_m_ones a_m_others a_m_bytes a_m_anew a_m_values cI cB cZ cP cC above below retired manyLine bytesLong tokenAt tokenLong token value told refused_4) := hD
    exact mx_iret refused_4 hx hb hr hlocks rfl hw hK hP hD hS dX10_is_22
  · replace hw := hw.2 c_2
    refine lv_aload_n hx hb dX10_is_8 rfl (lv_at hl 0 rfl) ?_
    refine lv_iload_n hx hb dX10_is_9 rfl (lv_at hl 1 rfl) ?_
    refine mx_ki (mx_rV (rm := rm_X10_kindsOf) (rest := []) (C := RX10) hx hb hml hown hts (c_X10_kindsOf l D cI cB cZ cP cC a_m a_m_told a_m_kept a_m_isKept a_m_refused a_m_months a_m_heirs a_m_lasts a_m_cares a_m_bestCares a_m_ones a_m_others a_m_bytes a_m_anew a_m_values above below retired manyLine bytesLong tokenAt tokenLong token value told v1 _ _ hw) q_815 q_816 q_817 q_5 q_818 hd_X10_kindsOf ⟨(Nat.le_of_ble_eq_true rfl), (Nat.le_of_ble_eq_true rfl)⟩ rfl rfl hK hP hD [0, 1] rfl rfl 10 0 rfl rfl rfl rfl hl.1 rfl (Nat.le_of_ble_eq_true rfl) dX10_is_10 ⟨(Nat.le_of_ble_eq_true rfl), (Nat.le_of_ble_eq_true rfl)⟩) hP hD hS hA [0, 1] [2] [1, 2, 0] (fun _ => ww_X10_is a_m a_m_told a_m_kept a_m_isKept a_m_refused a_m_months a_m_heirs a_m_lasts a_m_cares a_m_bestCares a_m_ones a_m_others a_m_bytes a_m_anew a_m_values cI cB cZ cP cC above below retired manyLine bytesLong tokenAt tokenLong token value told refused) rfl rfl rfl (by decide) rfl (fun _ => rfl) (fun r_5 u H locs hw hP hD hS => ?_)
    try dsimp only at hw
    replace hP : va_P D vwCl (ww_X10_is a_m a_m_told a_m_kept a_m_isKept a_m_refused a_m_months a_m_heirs a_m_lasts a_m_cares a_m_bestCares a_m_ones a_m_others a_m_bytes a_m_anew a_m_values cI cB cZ cP cC above below retired manyLine bytesLong tokenAt tokenLong token value told refused) H := hP
    replace hD : va_D A (ww_X10_is a_m a_m_told a_m_kept a_m_isKept a_m_refused a_m_months a_m_heirs a_m_lasts a_m_cares a_m_bestCares a_m_ones a_m_others a_m_bytes a_m_anew a_m_values cI cB cZ cP cC above below retired manyLine bytesLong tokenAt tokenLong token value told refused) := hD
    refine lv_goto (tgt := 22) hx hb dX10_is_13 (by decide) ?_
    exact mx_iret refused hx hb hr hlocks rfl hw hK hP hD hS dX10_is_22
