/-! PramState$NursePlan.costOf(III)I -/
abbrev ww_X5_costOf (a_p a_p_dues a_p_cost a_p_rest : Nat) (cI cB cZ cP cC : ClassId) (awaiting : Int32) (cost : Nat → Int32) (rest : Nat → Int32) : va_W := [(a_p, .inr (5, [.ref a_p_dues, .ref a_p_cost, .ref a_p_rest, .int awaiting])), (a_p_cost, .inl (cI, 36, .inl cost)), (a_p_rest, .inl (cI, 64, .inl rest))]
abbrev qq_X5_costOf (D : va_G) (a_p a_p_dues a_p_cost a_p_rest : Nat) (cI cB cZ cP cC : ClassId) (awaiting : Int32) (cost : Nat → Int32) (rest : Nat → Int32) (Post : Int32 → Prop) (A : Nat → Prop) : Array Value → State → Outcome → State → Prop := va_Qi (fun (r : Int32) (u : Unit) => Post r) (fun (u : Unit) t => mxB D (mxTy cI cB cZ cP cC) A (ww_X5_costOf a_p a_p_dues a_p_cost a_p_rest cI cB cZ cP cC awaiting cost rest) t) A
abbrev rm_X5_costOf : Room := { frames := 0, cells := 0, slots := 0, locals := 0 }
theorem hd_X5_costOf : yX5_costOf.cls = RX5 ∧ yX5_costOf.cls ≠ "java/lang/invoke/MethodHandle" ∧ yX5_costOf.cls ≠ "java/lang/invoke/VarHandle" ∧ (parseMethodDescriptor yX5_costOf.desc).map (fun d => d.parameters.length) = some 3 := by decide +kernel
def wp_X5_costOf (cost : Nat → Int32) (rest : Nat → Int32) (v1 : Int32) (v2 : Int32) (v3 : Int32) (Post : Int32 → Prop) : Prop :=
  (vp_in ((v1 * 6) + v2) 36 ∧ (vp_in (v3 ||| (1 <<< (v2 &&& 31))) 64 ∧ Post ((cost ((v1 * 6) + v2).toNatClampNeg) + (rest (v3 ||| (1 <<< (v2 &&& 31))).toNatClampNeg))))
set_option maxHeartbeats 4000000 in
set_option maxRecDepth 100000 in
theorem c_X5_costOf (l : Launch) (D : va_G) (cI cB cZ cP cC : ClassId) (a_p a_p_dues a_p_cost a_p_rest : Nat) (awaiting : Int32) (cost : Nat → Int32) (rest : Nat → Int32) (v1 : Int32) (v2 : Int32) (v3 : Int32) (sz : Nat) (Post : Int32 → Prop) (hw : wp_X5_costOf cost rest v1 v2 v3 Post) :
    Met l yX5_costOf (Cond.code yX5_costOf cX5_costOf 4 (some .int) :: wsAll) rm_X5_costOf (va_Pc [.ref a_p, .int v1, .int v2, .int v3] (mxP D (mxTy cI cB cZ cP cC) sz (ww_X5_costOf a_p a_p_dues a_p_cost a_p_rest cI cB cZ cP cC awaiting cost rest))) (qq_X5_costOf D a_p a_p_dues a_p_cost a_p_rest cI cB cZ cP cC awaiting cost rest Post (va_A (ww_X5_costOf a_p a_p_dues a_p_cost a_p_rest cI cB cZ cP cC awaiting cost rest) sz)) 0 0 (va_A (ww_X5_costOf a_p a_p_dues a_p_cost a_p_rest cI cB cZ cP cC awaiting cost rest) sz) := by
  refine mx_of (Qc := qq_X5_costOf D a_p a_p_dues a_p_cost a_p_rest cI cB cZ cP cC awaiting cost rest Post) (by decide) (Nat.le_of_ble_eq_true rfl) ?_
  intro p e s m bl meth c A ls C0 hP hD hS hl
  replace C0 : mxC p s m [.ref a_p, .int v1, .int v2, .int v3].toArray meth c cX5_costOf RX5 (some .int) 4 D (mxTy cI cB cZ cP cC) A := C0
  obtain ⟨hx, hb, hr, hlocks, hml, hown, hts, hK, hA⟩ := id C0
  replace hl : lv_has ls 4 [(0, .ref a_p), (1, .int v1), (2, .int v2), (3, .int v3)] := hl
  unfold wp_X5_costOf at hw
  refine lv_aload_n hx hb dX5_costOf_0 rfl (lv_at hl 0 rfl) ?_
  refine mx_get (ci := 5) (C := RX5) (T := TX5) (N := 4) hx hb hown in_wsX50 hts hK hP 0 rfl rfl 1 (by decide) q_85 rfl (v := .ref a_p_cost) rfl dX5_costOf_1 ?_
  refine lv_iload_n hx hb dX5_costOf_4 rfl (lv_at hl 1 rfl) ?_
  refine lv_bipush (v := 6) hx hb dX5_costOf_5 (by decide) ?_
  refine lv_imul hx hb dX5_costOf_7 ?_
  refine lv_iload_n hx hb dX5_costOf_8 rfl (lv_at hl 2 rfl) ?_
  refine lv_iadd hx hb dX5_costOf_9 ?_
  obtain ⟨h_1, hw⟩ := hw
  refine mx_iald hx hb hK hP 1 0 rfl rfl h_1 (cost ((v1 * 6) + v2).toNatClampNeg) rfl dX5_costOf_10 ?_
  refine lv_aload_n hx hb dX5_costOf_11 rfl (lv_at hl 0 rfl) ?_
  refine mx_get (ci := 5) (C := RX5) (T := TX5) (N := 4) hx hb hown in_wsX50 hts hK hP 0 rfl rfl 2 (by decide) q_86 rfl (v := .ref a_p_rest) rfl dX5_costOf_12 ?_
  refine lv_iload_n hx hb dX5_costOf_15 rfl (lv_at hl 3 rfl) ?_
  refine lv_iconst (v := 1) hx hb dX5_costOf_16 (by decide) ?_
  refine lv_iload_n hx hb dX5_costOf_17 rfl (lv_at hl 2 rfl) ?_
  refine lv_ishl hx hb dX5_costOf_18 ?_
  refine lv_ior hx hb dX5_costOf_19 ?_
  obtain ⟨h_2, hw⟩ := hw
  refine mx_iald hx hb hK hP 2 0 rfl rfl h_2 (rest (v3 ||| (1 <<< (v2 &&& 31))).toNatClampNeg) rfl dX5_costOf_20 ?_
  refine lv_iadd hx hb dX5_costOf_21 ?_
  exact mx_iret () hx hb hr hlocks rfl hw hK hP hD hS dX5_costOf_22
/-! PramState$NursePlan.firstBest(II)I -/
abbrev ww_X5_firstBest (a_p a_p_dues a_p_cost a_p_rest : Nat) (cI cB cZ cP cC : ClassId) (awaiting : Int32) (cost : Nat → Int32) (rest : Nat → Int32) : va_W := [(a_p, .inr (5, [.ref a_p_dues, .ref a_p_cost, .ref a_p_rest, .int awaiting])), (a_p_cost, .inl (cI, 36, .inl cost)), (a_p_rest, .inl (cI, 64, .inl rest))]
abbrev qq_X5_firstBest (D : va_G) (a_p a_p_dues a_p_cost a_p_rest : Nat) (cI cB cZ cP cC : ClassId) (awaiting : Int32) (cost : Nat → Int32) (rest : Nat → Int32) (Post : Int32 → Prop) (A : Nat → Prop) : Array Value → State → Outcome → State → Prop := va_Qi (fun (r : Int32) (u : Unit) => Post r) (fun (u : Unit) t => mxB D (mxTy cI cB cZ cP cC) A (ww_X5_firstBest a_p a_p_dues a_p_cost a_p_rest cI cB cZ cP cC awaiting cost rest) t) A
abbrev rm_X5_firstBest : Room := { frames := 1, cells := 0, slots := 0, locals := 23 }
theorem hd_X5_firstBest : yX5_firstBest.cls = RX5 ∧ yX5_firstBest.cls ≠ "java/lang/invoke/MethodHandle" ∧ yX5_firstBest.cls ≠ "java/lang/invoke/VarHandle" ∧ (parseMethodDescriptor yX5_firstBest.desc).map (fun d => d.parameters.length) = some 2 := by decide +kernel
def wp_X5_firstBest_J53 (cost : Nat → Int32) (rest : Nat → Int32) (Post : Int32 → Prop) (K_9 : Int32 → Int32 → Int32 → Int32 → Int32 → Prop) (v1 : Int32) (v2 : Int32) (v3 : Int32) (v4 : Int32) (v5 : Int32) : Prop :=
  (∀ x_5 : Int32, x_5 = v5 + 1 → K_9 v1 v2 v3 v4 x_5)
set_option maxHeartbeats 4000000 in
set_option maxRecDepth 100000 in
theorem k_X5_firstBest_J53 {p : Program} {l : Launch} {e : Env} {s : State} {m : MethodId} {ar : Array Value} {bl : List Frame} {meth : Method} {c : Code} {D : va_G} {A : Nat → Prop} {cI cB cZ cP cC : ClassId} {a_p a_p_dues a_p_cost a_p_rest : Nat} {awaiting : Int32} {cost : Nat → Int32} {rest : Nat → Int32} {Post : Int32 → Prop} {K_9 : Int32 → Int32 → Int32 → Int32 → Int32 → Prop} (C0 : mxC p s m ar meth c cX5_firstBest RX5 (some .int) 7 D (mxTy cI cB cZ cP cC) A)
    (hK_9 : ∀ (v1 : Int32) (v2 : Int32) (v3 : Int32) (v4 : Int32) (v5 : Int32) (H : Heap) (locs : List Loc) (ls : Array Slot), va_P D vwCl (ww_X5_firstBest a_p a_p_dues a_p_cost a_p_rest cI cB cZ cP cC awaiting cost rest) H → va_D A (ww_X5_firstBest a_p a_p_dues a_p_cost a_p_rest cI cB cZ cP cC awaiting cost rest) → va_S A s.heap H locs → lv_has ls 7 [(0, .ref a_p), (1, .int v1), (2, .int v2), (3, .int v3), (4, .int v4), (5, .int v5)] → K_9 v1 v2 v3 v4 v5 → W p l e rm_X5_firstBest s m ar bl meth c H locs 0 0 (MQ bl (qq_X5_firstBest D a_p a_p_dues a_p_cost a_p_rest cI cB cZ cP cC awaiting cost rest Post A) ar s 0 0 A) (F0 m 9 ls [])) :
    ∀ (v1 : Int32) (v2 : Int32) (v3 : Int32) (v4 : Int32) (v5 : Int32) (H : Heap) (locs : List Loc) (ls : Array Slot), va_P D vwCl (ww_X5_firstBest a_p a_p_dues a_p_cost a_p_rest cI cB cZ cP cC awaiting cost rest) H → va_D A (ww_X5_firstBest a_p a_p_dues a_p_cost a_p_rest cI cB cZ cP cC awaiting cost rest) → va_S A s.heap H locs → lv_has ls 7 [(0, .ref a_p), (1, .int v1), (2, .int v2), (3, .int v3), (4, .int v4), (5, .int v5)] → wp_X5_firstBest_J53 cost rest Post K_9 v1 v2 v3 v4 v5 → W p l e rm_X5_firstBest s m ar bl meth c H locs 0 0 (MQ bl (qq_X5_firstBest D a_p a_p_dues a_p_cost a_p_rest cI cB cZ cP cC awaiting cost rest Post A) ar s 0 0 A) (F0 m 53 ls []) := by
  obtain ⟨hx, hb, hr, hlocks, hml, hown, hts, hK, hA⟩ := id C0
  intro v1 v2 v3 v4 v5 H locs ls hP hD hS hl hw
  obtain ⟨x_5, ex_5⟩ : ∃ y : Int32, y = v5 + 1 := ⟨_, rfl⟩
  replace hw := hw x_5 ex_5
  refine lv_iinc (v := x_5) (lv' := [(5, .int x_5), (0, .ref a_p), (1, .int v1), (2, .int v2), (3, .int v3), (4, .int v4)]) hx hb dX5_firstBest_53 hl (k := 5) rfl (by rw [ex_5]; rfl) (by decide) rfl (fun ls hl => ?_)
  refine lv_goto (tgt := 9) hx hb dX5_firstBest_56 (by decide) ?_
  exact hK_9 v1 v2 v3 v4 x_5 _ _ _ hP hD hS (lv_sub hl [1, 2, 3, 4, 5, 0] rfl) hw
def wp_X5_firstBest_L9 (cost : Nat → Int32) (rest : Nat → Int32) (Post : Int32 → Prop)  : Nat → Int32 → Int32 → Int32 → Int32 → Int32 → Prop
  | 0, _, _, _, _, _ => False
  | n + 1, v1, v2, v3, v4, v5 => ((6 ≤ v5 → Post v3) ∧ (¬ 6 ≤ v5 → ((((v2 >>> (v5 &&& 31)) &&& 1) = 1 → (wp_X5_firstBest_J53 cost rest Post (fun (v1_16 : Int32) (v2_17 : Int32) (v3_18 : Int32) (v4_19 : Int32) (v5_20 : Int32) => wp_X5_firstBest_L9 cost rest Post  n v1_16 v2_17 v3_18 v4_19 v5_20) v1 v2 v3 v4 v5)) ∧ (¬ ((v2 >>> (v5 &&& 31)) &&& 1) = 1 → (wp_X5_costOf cost rest v1 v5 v2 (fun r_3 => ((v4 ≤ r_3 → (wp_X5_firstBest_J53 cost rest Post (fun (v1_6 : Int32) (v2_7 : Int32) (v3_8 : Int32) (v4_9 : Int32) (v5_10 : Int32) => wp_X5_firstBest_L9 cost rest Post  n v1_6 v2_7 v3_8 v4_9 v5_10) v1 v2 v3 v4 v5)) ∧ (¬ v4 ≤ r_3 → (wp_X5_firstBest_J53 cost rest Post (fun (v1_11 : Int32) (v2_12 : Int32) (v3_13 : Int32) (v4_14 : Int32) (v5_15 : Int32) => wp_X5_firstBest_L9 cost rest Post  n v1_11 v2_12 v3_13 v4_14 v5_15) v1 v2 v5 r_3 v5)))))))))
set_option maxHeartbeats 4000000 in
set_option maxRecDepth 100000 in
theorem k_X5_firstBest_L9 {p : Program} {l : Launch} {e : Env} {s : State} {m : MethodId} {ar : Array Value} {bl : List Frame} {meth : Method} {c : Code} {D : va_G} {A : Nat → Prop} {cI cB cZ cP cC : ClassId} {a_p a_p_dues a_p_cost a_p_rest : Nat} {awaiting : Int32} {cost : Nat → Int32} {rest : Nat → Int32} {Post : Int32 → Prop} (C0 : mxC p s m ar meth c cX5_firstBest RX5 (some .int) 7 D (mxTy cI cB cZ cP cC) A) :
    ∀ (n : Nat) (v1 : Int32) (v2 : Int32) (v3 : Int32) (v4 : Int32) (v5 : Int32) (H : Heap) (locs : List Loc) (ls : Array Slot), va_P D vwCl (ww_X5_firstBest a_p a_p_dues a_p_cost a_p_rest cI cB cZ cP cC awaiting cost rest) H → va_D A (ww_X5_firstBest a_p a_p_dues a_p_cost a_p_rest cI cB cZ cP cC awaiting cost rest) → va_S A s.heap H locs → lv_has ls 7 [(0, .ref a_p), (1, .int v1), (2, .int v2), (3, .int v3), (4, .int v4), (5, .int v5)] → wp_X5_firstBest_L9 cost rest Post  n v1 v2 v3 v4 v5 → W p l e rm_X5_firstBest s m ar bl meth c H locs 0 0 (MQ bl (qq_X5_firstBest D a_p a_p_dues a_p_cost a_p_rest cI cB cZ cP cC awaiting cost rest Post A) ar s 0 0 A) (F0 m 9 ls []) := by
  obtain ⟨hx, hb, hr, hlocks, hml, hown, hts, hK, hA⟩ := id C0
  intro n
  induction n with
  | zero =>
    intro v1 v2 v3 v4 v5 H locs ls hP hD hS hl hw
    exact absurd hw (fun h => h)
  | succ n ih =>
    intro v1 v2 v3 v4 v5 H locs ls hP hD hS hl hw
    refine lv_iload hx hb dX5_firstBest_9 (lv_at hl 5 rfl) ?_
    refine lv_bipush (v := 6) hx hb dX5_firstBest_11 (by decide) ?_
    refine lv_icmp_ge (tgt := 59) hx hb dX5_firstBest_13 (by decide) (fun c_1 => ?_) (fun c_1 => ?_)
    · replace hw := hw.1 c_1
      refine lv_iload_n hx hb dX5_firstBest_59 rfl (lv_at hl 3 rfl) ?_
      exact mx_iret () hx hb hr hlocks rfl hw hK hP hD hS dX5_firstBest_60
    · replace hw := hw.2 c_1
      refine lv_iload_n hx hb dX5_firstBest_16 rfl (lv_at hl 2 rfl) ?_
      refine lv_iload hx hb dX5_firstBest_17 (lv_at hl 5 rfl) ?_
      refine lv_ishr hx hb dX5_firstBest_19 ?_
      refine lv_iconst (v := 1) hx hb dX5_firstBest_20 (by decide) ?_
      refine lv_iand hx hb dX5_firstBest_21 ?_
      refine lv_iconst (v := 1) hx hb dX5_firstBest_22 (by decide) ?_
      refine lv_icmp_ne (tgt := 29) hx hb dX5_firstBest_23 (by decide) (fun c_2 => ?_) (fun c_2 => ?_)
      · replace hw := hw.2 c_2
        refine lv_aload_n hx hb dX5_firstBest_29 rfl (lv_at hl 0 rfl) ?_
        refine lv_iload_n hx hb dX5_firstBest_30 rfl (lv_at hl 1 rfl) ?_
        refine lv_iload hx hb dX5_firstBest_31 (lv_at hl 5 rfl) ?_
        refine lv_iload_n hx hb dX5_firstBest_33 rfl (lv_at hl 2 rfl) ?_
        refine mx_ki (mx_rV (rm := rm_X5_costOf) (rest := []) (C := RX5) hx hb hml hown hts (c_X5_costOf l D cI cB cZ cP cC a_p a_p_dues a_p_cost a_p_rest awaiting cost rest v1 v5 v2 _ _ hw) q_730 q_731 q_732 q_43 q_733 hd_X5_costOf ⟨(Nat.le_of_ble_eq_true rfl), (Nat.le_of_ble_eq_true rfl)⟩ rfl rfl hK hP hD [0, 1, 2] rfl rfl 5 0 rfl rfl rfl rfl hl.1 rfl (Nat.le_of_ble_eq_true rfl) dX5_firstBest_34 ⟨(Nat.le_of_ble_eq_true rfl), (Nat.le_of_ble_eq_true rfl)⟩) hP hD hS hA [0, 1, 2] [] [0, 1, 2] (fun _ => ww_X5_firstBest a_p a_p_dues a_p_cost a_p_rest cI cB cZ cP cC awaiting cost rest) rfl rfl rfl (by decide) rfl (fun _ => rfl) (fun r_3 u H locs hw hP hD hS => ?_)
        try dsimp only at hw
        replace hP : va_P D vwCl (ww_X5_firstBest a_p a_p_dues a_p_cost a_p_rest cI cB cZ cP cC awaiting cost rest) H := hP
        replace hD : va_D A (ww_X5_firstBest a_p a_p_dues a_p_cost a_p_rest cI cB cZ cP cC awaiting cost rest) := hD
        refine lv_istore (lv' := [(6, .int r_3), (0, .ref a_p), (1, .int v1), (2, .int v2), (3, .int v3), (4, .int v4), (5, .int v5)]) hx hb dX5_firstBest_37 hl (by decide) rfl (fun ls hl => ?_)
        refine lv_iload hx hb dX5_firstBest_39 (lv_at hl 0 rfl) ?_
        refine lv_iload hx hb dX5_firstBest_41 (lv_at hl 5 rfl) ?_
        refine lv_icmp_ge (tgt := 53) hx hb dX5_firstBest_43 (by decide) (fun c_4 => ?_) (fun c_4 => ?_)
        · replace hw := hw.1 c_4
          refine k_X5_firstBest_J53 C0 ?_ v1 v2 v3 v4 v5 _ _ _ hP hD hS (lv_sub hl [1, 2, 3, 4, 5, 6] rfl) hw
          intro v1_6 v2_7 v3_8 v4_9 v5_10 H locs ls hP hD hS hl hw
          exact ih v1_6 v2_7 v3_8 v4_9 v5_10 _ _ _ hP hD hS (lv_sub hl [0, 1, 2, 3, 4, 5] rfl) hw
        · replace hw := hw.2 c_4
          refine lv_iload hx hb dX5_firstBest_46 (lv_at hl 0 rfl) ?_
          refine lv_istore (lv' := [(4, .int r_3), (6, .int r_3), (0, .ref a_p), (1, .int v1), (2, .int v2), (3, .int v3), (5, .int v5)]) hx hb dX5_firstBest_48 hl (by decide) rfl (fun ls hl => ?_)
          refine lv_iload hx hb dX5_firstBest_50 (lv_at hl 6 rfl) ?_
          refine lv_istore_n (lv' := [(3, .int v5), (4, .int r_3), (6, .int r_3), (0, .ref a_p), (1, .int v1), (2, .int v2), (5, .int v5)]) hx hb dX5_firstBest_52 rfl hl (by decide) rfl (fun ls hl => ?_)
          refine k_X5_firstBest_J53 C0 ?_ v1 v2 v5 r_3 v5 _ _ _ hP hD hS (lv_sub hl [3, 4, 5, 0, 1, 6] rfl) hw
          intro v1_11 v2_12 v3_13 v4_14 v5_15 H locs ls hP hD hS hl hw
          exact ih v1_11 v2_12 v3_13 v4_14 v5_15 _ _ _ hP hD hS (lv_sub hl [0, 1, 2, 3, 4, 5] rfl) hw
      · replace hw := hw.1 c_2
        refine lv_goto (tgt := 53) hx hb dX5_firstBest_26 (by decide) ?_
        refine k_X5_firstBest_J53 C0 ?_ v1 v2 v3 v4 v5 _ _ _ hP hD hS (lv_sub hl [0, 1, 2, 3, 4, 5] rfl) hw
        intro v1_16 v2_17 v3_18 v4_19 v5_20 H locs ls hP hD hS hl hw
        exact ih v1_16 v2_17 v3_18 v4_19 v5_20 _ _ _ hP hD hS (lv_sub hl [0, 1, 2, 3, 4, 5] rfl) hw
def wp_X5_firstBest (cost : Nat → Int32) (rest : Nat → Int32) (v1 : Int32) (v2 : Int32) (Post : Int32 → Prop) : Prop :=
  (∃ k_21 : Nat, wp_X5_firstBest_L9 cost rest Post k_21 v1 v2 0 1000000 0)
set_option maxHeartbeats 4000000 in
set_option maxRecDepth 100000 in
theorem c_X5_firstBest (l : Launch) (D : va_G) (cI cB cZ cP cC : ClassId) (a_p a_p_dues a_p_cost a_p_rest : Nat) (awaiting : Int32) (cost : Nat → Int32) (rest : Nat → Int32) (v1 : Int32) (v2 : Int32) (sz : Nat) (Post : Int32 → Prop) (hw : wp_X5_firstBest cost rest v1 v2 Post) :
    Met l yX5_firstBest (Cond.code yX5_firstBest cX5_firstBest 7 (some .int) :: wsAll) rm_X5_firstBest (va_Pc [.ref a_p, .int v1, .int v2] (mxP D (mxTy cI cB cZ cP cC) sz (ww_X5_firstBest a_p a_p_dues a_p_cost a_p_rest cI cB cZ cP cC awaiting cost rest))) (qq_X5_firstBest D a_p a_p_dues a_p_cost a_p_rest cI cB cZ cP cC awaiting cost rest Post (va_A (ww_X5_firstBest a_p a_p_dues a_p_cost a_p_rest cI cB cZ cP cC awaiting cost rest) sz)) 0 0 (va_A (ww_X5_firstBest a_p a_p_dues a_p_cost a_p_rest cI cB cZ cP cC awaiting cost rest) sz) := by
  refine mx_of (Qc := qq_X5_firstBest D a_p a_p_dues a_p_cost a_p_rest cI cB cZ cP cC awaiting cost rest Post) (by decide) (Nat.le_of_ble_eq_true rfl) ?_
  intro p e s m bl meth c A ls C0 hP hD hS hl
  replace C0 : mxC p s m [.ref a_p, .int v1, .int v2].toArray meth c cX5_firstBest RX5 (some .int) 7 D (mxTy cI cB cZ cP cC) A := C0
  obtain ⟨hx, hb, hr, hlocks, hml, hown, hts, hK, hA⟩ := id C0
  replace hl : lv_has ls 7 [(0, .ref a_p), (1, .int v1), (2, .int v2)] := hl
  unfold wp_X5_firstBest at hw
  refine lv_iconst (v := 0) hx hb dX5_firstBest_0 (by decide) ?_
  refine lv_istore_n (lv' := [(3, .int 0), (0, .ref a_p), (1, .int v1), (2, .int v2)]) hx hb dX5_firstBest_1 rfl hl (by decide) rfl (fun ls hl => ?_)
  refine lv_ldc (v := 1000000) hx hb hown (hts _ q_729) dX5_firstBest_2 ?_
  refine lv_istore (lv' := [(4, .int 1000000), (3, .int 0), (0, .ref a_p), (1, .int v1), (2, .int v2)]) hx hb dX5_firstBest_4 hl (by decide) rfl (fun ls hl => ?_)
  refine lv_iconst (v := 0) hx hb dX5_firstBest_6 (by decide) ?_
  refine lv_istore (lv' := [(5, .int 0), (4, .int 1000000), (3, .int 0), (0, .ref a_p), (1, .int v1), (2, .int v2)]) hx hb dX5_firstBest_7 hl (by decide) rfl (fun ls hl => ?_)
  obtain ⟨n0, hw⟩ := hw
  refine k_X5_firstBest_L9 C0  n0 v1 v2 0 1000000 0 _ _ _ hP hD hS (lv_sub hl [3, 4, 5, 2, 1, 0] rfl) hw
/-! PramState$NursePlan.weigh(LPramState$Court;)V -/
abbrev ww_X5_weigh (a_p a_p_dues a_p_cost a_p_rest a_c a_c_kind a_c_months a_c_home a_c_nurse a_c_skills a_c_noteRow a_c_soundRow a_c_pastRow a_K a_k0 a_k1 a_k2 a_k3 a_k4 a_k5 : Nat) (cI cB cZ cP cC : ClassId) (awaiting : Int32) (dues : Nat → Int32) (cost : Nat → Int32) (rest : Nat → Int32) (infants : Int32) (retired : Int32) (month : Int32) (notes : Int32) (sounds : Int32) (pasts : Int32) (kind : Nat → Int32) (months : Nat → Int32) (skills : Nat → Int32) : va_W := [(a_p, .inr (5, [.ref a_p_dues, .ref a_p_cost, .ref a_p_rest, .int awaiting])), (a_p_dues, .inl (cI, 6, .inl dues)), (a_p_cost, .inl (cI, 36, .inl cost)), (a_p_rest, .inl (cI, 64, .inl rest)), (a_c, .inr (1, [.ref a_K, .ref a_c_kind, .ref a_c_months, .ref a_c_home, .ref a_c_nurse, .ref a_c_skills, .ref a_c_noteRow, .ref a_c_soundRow, .ref a_c_pastRow, .int infants, .int retired, .int month, .int notes, .int sounds, .int pasts])), (a_c_kind, .inl (cI, 6, .inl kind)), (a_c_months, .inl (cI, 6, .inl months)), (a_c_skills, .inl (cI, 6, .inl skills)), (a_K, .inl (cP, 6, .inr (.inr (.inr (.inr (mx_kf a_k0 a_k1 a_k2 a_k3 a_k4 a_k5)))))), (a_k0, .inr (6, [])), (a_k1, .inr (8, [])), (a_k2, .inr (7, [])), (a_k3, .inr (3, [])), (a_k4, .inr (4, [])), (a_k5, .inr (0, []))]
abbrev qq_X5_weigh (D : va_G) (a_p a_p_dues a_p_cost a_p_rest a_c a_c_kind a_c_months a_c_home a_c_nurse a_c_skills a_c_noteRow a_c_soundRow a_c_pastRow a_K a_k0 a_k1 a_k2 a_k3 a_k4 a_k5 : Nat) (cI cB cZ cP cC : ClassId) (infants : Int32) (retired : Int32) (month : Int32) (notes : Int32) (sounds : Int32) (pasts : Int32) (kind : Nat → Int32) (months : Nat → Int32) (skills : Nat → Int32) (Post : Int32 → (Nat → Int32) → (Nat → Int32) → (Nat → Int32) → Prop) (A : Nat → Prop) : Array Value → State → Outcome → State → Prop := va_Qv (fun (u : Int32 × (Nat → Int32) × (Nat → Int32) × (Nat → Int32)) => Post u.1 u.2.1 u.2.2.1 u.2.2.2) (fun (u : Int32 × (Nat → Int32) × (Nat → Int32) × (Nat → Int32)) t => mxB D (mxTy cI cB cZ cP cC) A (ww_X5_weigh a_p a_p_dues a_p_cost a_p_rest a_c a_c_kind a_c_months a_c_home a_c_nurse a_c_skills a_c_noteRow a_c_soundRow a_c_pastRow a_K a_k0 a_k1 a_k2 a_k3 a_k4 a_k5 cI cB cZ cP cC (u.1) (u.2.1) (u.2.2.1) (u.2.2.2) infants retired month notes sounds pasts kind months skills) t) A
abbrev rm_X5_weigh : Room := { frames := 5, cells := 0, slots := 0, locals := 111 }
theorem hd_X5_weigh : yX5_weigh.cls = RX5 ∧ yX5_weigh.cls ≠ "java/lang/invoke/MethodHandle" ∧ yX5_weigh.cls ≠ "java/lang/invoke/VarHandle" ∧ (parseMethodDescriptor yX5_weigh.desc).map (fun d => d.parameters.length) = some 1 := by decide +kernel
def wp_X5_weigh_L38 (infants : Int32) (retired : Int32) (kind : Nat → Int32) (months : Nat → Int32) (skills : Nat → Int32) (Post : Int32 → (Nat → Int32) → (Nat → Int32) → (Nat → Int32) → Prop) (K_70 : Int32 → Int32 → (Nat → Int32) → (Nat → Int32) → (Nat → Int32) → Prop) : Nat → Int32 → Int32 → Int32 → (Nat → Int32) → (Nat → Int32) → (Nat → Int32) → Prop
  | 0, _, _, _, _, _, _ => False
  | n + 1, v2, v3, awaiting, dues, cost, rest => ((6 ≤ v3 → K_70 v2 awaiting dues cost rest) ∧ (¬ 6 ≤ v3 → (wp_X1_criesAllDay kind months skills v2 v3 (fun r_7 => (vp_in ((awaiting * 6) + v3) 36 ∧ (∀ f_9 : Nat → Int32, f_9 = upd cost ((awaiting * 6) + v3).toNatClampNeg r_7 → (∀ x_10 : Int32, x_10 = v3 + 1 → wp_X5_weigh_L38 infants retired kind months skills Post K_70 n v2 x_10 awaiting dues f_9 rest)))))))
set_option maxHeartbeats 4000000 in
set_option maxRecDepth 100000 in
theorem k_X5_weigh_L38 {p : Program} {l : Launch} {e : Env} {s : State} {m : MethodId} {ar : Array Value} {bl : List Frame} {meth : Method} {c : Code} {D : va_G} {A : Nat → Prop} {cI cB cZ cP cC : ClassId} {a_p a_p_dues a_p_cost a_p_rest a_c a_c_kind a_c_months a_c_home a_c_nurse a_c_skills a_c_noteRow a_c_soundRow a_c_pastRow a_K a_k0 a_k1 a_k2 a_k3 a_k4 a_k5 : Nat} {infants : Int32} {retired : Int32} {month : Int32} {notes : Int32} {sounds : Int32} {pasts : Int32} {kind : Nat → Int32} {months : Nat → Int32} {skills : Nat → Int32} {Post : Int32 → (Nat → Int32) → (Nat → Int32) → (Nat → Int32) → Prop} {K_70 : Int32 → Int32 → (Nat → Int32) → (Nat → Int32) → (Nat → Int32) → Prop} (C0 : mxC p s m ar meth c cX5_weigh RX5 none 4 D (mxTy cI cB cZ cP cC) A)
    (hK_70 : ∀ (v2 : Int32) (awaiting : Int32) (dues : Nat → Int32) (cost : Nat → Int32) (rest : Nat → Int32) (H : Heap) (locs : List Loc) (ls : Array Slot), va_P D vwCl (ww_X5_weigh a_p a_p_dues a_p_cost a_p_rest a_c a_c_kind a_c_months a_c_home a_c_nurse a_c_skills a_c_noteRow a_c_soundRow a_c_pastRow a_K a_k0 a_k1 a_k2 a_k3 a_k4 a_k5 cI cB cZ cP cC awaiting dues cost rest infants retired month notes sounds pasts kind months skills) H → va_D A (ww_X5_weigh a_p a_p_dues a_p_cost a_p_rest a_c a_c_kind a_c_months a_c_home a_c_nurse a_c_skills a_c_noteRow a_c_soundRow a_c_pastRow a_K a_k0 a_k1 a_k2 a_k3 a_k4 a_k5 cI cB cZ cP cC awaiting dues cost rest infants retired month notes sounds pasts kind months skills) → va_S A s.heap H locs → lv_has ls 4 [(0, .ref a_p), (1, .ref a_c), (2, .int v2)] → K_70 v2 awaiting dues cost rest → W p l e rm_X5_weigh s m ar bl meth c H locs 0 0 (MQ bl (qq_X5_weigh D a_p a_p_dues a_p_cost a_p_rest a_c a_c_kind a_c_months a_c_home a_c_nurse a_c_skills a_c_noteRow a_c_soundRow a_c_pastRow a_K a_k0 a_k1 a_k2 a_k3 a_k4 a_k5 cI cB cZ cP cC infants retired month notes sounds pasts kind months skills Post A) ar s 0 0 A) (F0 m 70 ls [])) :
    ∀ (n : Nat) (v2 : Int32) (v3 : Int32) (awaiting : Int32) (dues : Nat → Int32) (cost : Nat → Int32) (rest : Nat → Int32) (H : Heap) (locs : List Loc) (ls : Array Slot), va_P D vwCl (ww_X5_weigh a_p a_p_dues a_p_cost a_p_rest a_c a_c_kind a_c_months a_c_home a_c_nurse a_c_skills a_c_noteRow a_c_soundRow a_c_pastRow a_K a_k0 a_k1 a_k2 a_k3 a_k4 a_k5 cI cB cZ cP cC awaiting dues cost rest infants retired month notes sounds pasts kind months skills) H → va_D A (ww_X5_weigh a_p a_p_dues a_p_cost a_p_rest a_c a_c_kind a_c_months a_c_home a_c_nurse a_c_skills a_c_noteRow a_c_soundRow a_c_pastRow a_K a_k0 a_k1 a_k2 a_k3 a_k4 a_k5 cI cB cZ cP cC awaiting dues cost rest infants retired month notes sounds pasts kind months skills) → va_S A s.heap H locs → lv_has ls 4 [(0, .ref a_p), (1, .ref a_c), (2, .int v2), (3, .int v3)] → wp_X5_weigh_L38 infants retired kind months skills Post K_70 n v2 v3 awaiting dues cost rest → W p l e rm_X5_weigh s m ar bl meth c H locs 0 0 (MQ bl (qq_X5_weigh D a_p a_p_dues a_p_cost a_p_rest a_c a_c_kind a_c_months a_c_home a_c_nurse a_c_skills a_c_noteRow a_c_soundRow a_c_pastRow a_K a_k0 a_k1 a_k2 a_k3 a_k4 a_k5 cI cB cZ cP cC infants retired month notes sounds pasts kind months skills Post A) ar s 0 0 A) (F0 m 38 ls []) := by
  obtain ⟨hx, hb, hr, hlocks, hml, hown, hts, hK, hA⟩ := id C0
  intro n
  induction n with
  | zero =>
    intro v2 v3 awaiting dues cost rest H locs ls hP hD hS hl hw
    exact absurd hw (fun h => h)
  | succ n ih =>
    intro v2 v3 awaiting dues cost rest H locs ls hP hD hS hl hw
    refine lv_iload_n hx hb dX5_weigh_38 rfl (lv_at hl 3 rfl) ?_
    refine lv_bipush (v := 6) hx hb dX5_weigh_39 (by decide) ?_
    refine lv_icmp_ge (tgt := 70) hx hb dX5_weigh_41 (by decide) (fun c_6 => ?_) (fun c_6 => ?_)
    · replace hw := hw.1 c_6
      exact hK_70 v2 awaiting dues cost rest _ _ _ hP hD hS (lv_sub hl [0, 1, 2] rfl) hw
    · replace hw := hw.2 c_6
      refine lv_aload_n hx hb dX5_weigh_44 rfl (lv_at hl 0 rfl) ?_
      refine mx_get (ci := 5) (C := RX5) (T := TX5) (N := 4) hx hb hown in_wsX50 hts hK hP 0 rfl rfl 1 (by decide) q_85 rfl (v := .ref a_p_cost) rfl dX5_weigh_45 ?_
      refine lv_aload_n hx hb dX5_weigh_48 rfl (lv_at hl 0 rfl) ?_
      refine mx_get (ci := 5) (C := RX5) (T := TX5) (N := 4) hx hb hown in_wsX50 hts hK hP 0 rfl rfl 3 (by decide) q_720 rfl (v := .int awaiting) rfl dX5_weigh_49 ?_
      refine lv_bipush (v := 6) hx hb dX5_weigh_52 (by decide) ?_
      refine lv_imul hx hb dX5_weigh_54 ?_
      refine lv_iload_n hx hb dX5_weigh_55 rfl (lv_at hl 3 rfl) ?_
      refine lv_iadd hx hb dX5_weigh_56 ?_
      refine lv_aload_n hx hb dX5_weigh_57 rfl (lv_at hl 1 rfl) ?_
      refine lv_iload_n hx hb dX5_weigh_58 rfl (lv_at hl 2 rfl) ?_
      refine lv_iload_n hx hb dX5_weigh_59 rfl (lv_at hl 3 rfl) ?_
      refine mx_ki (mx_rV (rm := rm_X1_criesAllDay) (rest := [.int ((awaiting * 6) + v3), .ref a_p_cost]) (C := RX1) hx hb hml hown hts (c_X1_criesAllDay l D cI cB cZ cP cC a_c a_c_kind a_c_months a_c_home a_c_nurse a_c_skills a_c_noteRow a_c_soundRow a_c_pastRow a_K a_k0 a_k1 a_k2 a_k3 a_k4 a_k5 infants retired month notes sounds pasts kind months skills v2 v3 _ _ hw) q_723 q_629 q_630 q_32 q_631 hd_X1_criesAllDay ⟨(Nat.le_of_ble_eq_true rfl), (Nat.le_of_ble_eq_true rfl)⟩ rfl rfl hK hP hD [4, 5, 6, 7, 8, 9, 10, 11, 12, 13, 14] rfl rfl 1 4 rfl rfl rfl rfl hl.1 rfl (Nat.le_of_ble_eq_true rfl) dX5_weigh_60 ⟨(Nat.le_of_ble_eq_true rfl), (Nat.le_of_ble_eq_true rfl)⟩) hP hD hS hA [4, 5, 6, 7, 8, 9, 10, 11, 12, 13, 14] [0, 1, 2, 3] [0, 1, 2, 3, 4, 5, 6, 7, 8, 9, 10, 11, 12, 13, 14] (fun _ => ww_X5_weigh a_p a_p_dues a_p_cost a_p_rest a_c a_c_kind a_c_months a_c_home a_c_nurse a_c_skills a_c_noteRow a_c_soundRow a_c_pastRow a_K a_k0 a_k1 a_k2 a_k3 a_k4 a_k5 cI cB cZ cP cC awaiting dues cost rest infants retired month notes sounds pasts kind months skills) rfl rfl rfl (by decide) rfl (fun _ => rfl) (fun r_7 u H locs hw hP hD hS => ?_)
      try dsimp only at hw
      replace hP : va_P D vwCl (ww_X5_weigh a_p a_p_dues a_p_cost a_p_rest a_c a_c_kind a_c_months a_c_home a_c_nurse a_c_skills a_c_noteRow a_c_soundRow a_c_pastRow a_K a_k0 a_k1 a_k2 a_k3 a_k4 a_k5 cI cB cZ cP cC awaiting dues cost rest infants retired month notes sounds pasts kind months skills) H := hP
      replace hD : va_D A (ww_X5_weigh a_p a_p_dues a_p_cost a_p_rest a_c a_c_kind a_c_months a_c_home a_c_nurse a_c_skills a_c_noteRow a_c_soundRow a_c_pastRow a_K a_k0 a_k1 a_k2 a_k3 a_k4 a_k5 cI cB cZ cP cC awaiting dues cost rest infants retired month notes sounds pasts kind months skills) := hD
      obtain ⟨h_8, hw⟩ := hw
      obtain ⟨f_9, ef_9⟩ : ∃ y : Nat → Int32, y = upd cost ((awaiting * 6) + v3).toNatClampNeg r_7 := ⟨_, rfl⟩
      replace hw := hw f_9 ef_9
      refine mx_iast hx hb hK hP hD hS 2 0 rfl rfl h_8 f_9 ef_9 (ww_X5_weigh a_p a_p_dues a_p_cost a_p_rest a_c a_c_kind a_c_months a_c_home a_c_nurse a_c_skills a_c_noteRow a_c_soundRow a_c_pastRow a_K a_k0 a_k1 a_k2 a_k3 a_k4 a_k5 cI cB cZ cP cC awaiting dues f_9 rest infants retired month notes sounds pasts kind months skills) rfl dX5_weigh_63 (fun H locs hP hD hS => ?_)
      obtain ⟨x_10, ex_10⟩ : ∃ y : Int32, y = v3 + 1 := ⟨_, rfl⟩
      replace hw := hw x_10 ex_10
      refine lv_iinc (v := x_10) (lv' := [(3, .int x_10), (0, .ref a_p), (1, .ref a_c), (2, .int v2)]) hx hb dX5_weigh_64 hl (k := 3) rfl (by rw [ex_10]; rfl) (by decide) rfl (fun ls hl => ?_)
      refine lv_goto (tgt := 38) hx hb dX5_weigh_67 (by decide) ?_
      exact ih v2 x_10 awaiting dues f_9 rest _ _ _ hP hD hS (lv_sub hl [1, 2, 3, 0] rfl) hw
def wp_X5_weigh_J80 (infants : Int32) (retired : Int32) (kind : Nat → Int32) (months : Nat → Int32) (skills : Nat → Int32) (Post : Int32 → (Nat → Int32) → (Nat → Int32) → (Nat → Int32) → Prop) (K_7 : Int32 → Int32 → (Nat → Int32) → (Nat → Int32) → (Nat → Int32) → Prop) (v2 : Int32) (awaiting : Int32) (dues : Nat → Int32) (cost : Nat → Int32) (rest : Nat → Int32) : Prop :=
  (∀ x_17 : Int32, x_17 = v2 + 1 → K_7 x_17 awaiting dues cost rest)
set_option maxHeartbeats 4000000 in
set_option maxRecDepth 100000 in
theorem k_X5_weigh_J80 {p : Program} {l : Launch} {e : Env} {s : State} {m : MethodId} {ar : Array Value} {bl : List Frame} {meth : Method} {c : Code} {D : va_G} {A : Nat → Prop} {cI cB cZ cP cC : ClassId} {a_p a_p_dues a_p_cost a_p_rest a_c a_c_kind a_c_months a_c_home a_c_nurse a_c_skills a_c_noteRow a_c_soundRow a_c_pastRow a_K a_k0 a_k1 a_k2 a_k3 a_k4 a_k5 : Nat} {infants : Int32} {retired : Int32} {month : Int32} {notes : Int32} {sounds : Int32} {pasts : Int32} {kind : Nat → Int32} {months : Nat → Int32} {skills : Nat → Int32} {Post : Int32 → (Nat → Int32) → (Nat → Int32) → (Nat → Int32) → Prop} {K_7 : Int32 → Int32 → (Nat → Int32) → (Nat → Int32) → (Nat → Int32) → Prop} (C0 : mxC p s m ar meth c cX5_weigh RX5 none 4 D (mxTy cI cB cZ cP cC) A)
    (hK_7 : ∀ (v2 : Int32) (awaiting : Int32) (dues : Nat → Int32) (cost : Nat → Int32) (rest : Nat → Int32) (H : Heap) (locs : List Loc) (ls : Array Slot), va_P D vwCl (ww_X5_weigh a_p a_p_dues a_p_cost a_p_rest a_c a_c_kind a_c_months a_c_home a_c_nurse a_c_skills a_c_noteRow a_c_soundRow a_c_pastRow a_K a_k0 a_k1 a_k2 a_k3 a_k4 a_k5 cI cB cZ cP cC awaiting dues cost rest infants retired month notes sounds pasts kind months skills) H → va_D A (ww_X5_weigh a_p a_p_dues a_p_cost a_p_rest a_c a_c_kind a_c_months a_c_home a_c_nurse a_c_skills a_c_noteRow a_c_soundRow a_c_pastRow a_K a_k0 a_k1 a_k2 a_k3 a_k4 a_k5 cI cB cZ cP cC awaiting dues cost rest infants retired month notes sounds pasts kind months skills) → va_S A s.heap H locs → lv_has ls 4 [(0, .ref a_p), (1, .ref a_c), (2, .int v2)] → K_7 v2 awaiting dues cost rest → W p l e rm_X5_weigh s m ar bl meth c H locs 0 0 (MQ bl (qq_X5_weigh D a_p a_p_dues a_p_cost a_p_rest a_c a_c_kind a_c_months a_c_home a_c_nurse a_c_skills a_c_noteRow a_c_soundRow a_c_pastRow a_K a_k0 a_k1 a_k2 a_k3 a_k4 a_k5 cI cB cZ cP cC infants retired month notes sounds pasts kind months skills Post A) ar s 0 0 A) (F0 m 7 ls [])) :
    ∀ (v2 : Int32) (awaiting : Int32) (dues : Nat → Int32) (cost : Nat → Int32) (rest : Nat → Int32) (H : Heap) (locs : List Loc) (ls : Array Slot), va_P D vwCl (ww_X5_weigh a_p a_p_dues a_p_cost a_p_rest a_c a_c_kind a_c_months a_c_home a_c_nurse a_c_skills a_c_noteRow a_c_soundRow a_c_pastRow a_K a_k0 a_k1 a_k2 a_k3 a_k4 a_k5 cI cB cZ cP cC awaiting dues cost rest infants retired month notes sounds pasts kind months skills) H → va_D A (ww_X5_weigh a_p a_p_dues a_p_cost a_p_rest a_c a_c_kind a_c_months a_c_home a_c_nurse a_c_skills a_c_noteRow a_c_soundRow a_c_pastRow a_K a_k0 a_k1 a_k2 a_k3 a_k4 a_k5 cI cB cZ cP cC awaiting dues cost rest infants retired month notes sounds pasts kind months skills) → va_S A s.heap H locs → lv_has ls 4 [(0, .ref a_p), (1, .ref a_c), (2, .int v2)] → wp_X5_weigh_J80 infants retired kind months skills Post K_7 v2 awaiting dues cost rest → W p l e rm_X5_weigh s m ar bl meth c H locs 0 0 (MQ bl (qq_X5_weigh D a_p a_p_dues a_p_cost a_p_rest a_c a_c_kind a_c_months a_c_home a_c_nurse a_c_skills a_c_noteRow a_c_soundRow a_c_pastRow a_K a_k0 a_k1 a_k2 a_k3 a_k4 a_k5 cI cB cZ cP cC infants retired month notes sounds pasts kind months skills Post A) ar s 0 0 A) (F0 m 80 ls []) := by
  obtain ⟨hx, hb, hr, hlocks, hml, hown, hts, hK, hA⟩ := id C0
  intro v2 awaiting dues cost rest H locs ls hP hD hS hl hw
  obtain ⟨x_17, ex_17⟩ : ∃ y : Int32, y = v2 + 1 := ⟨_, rfl⟩
  replace hw := hw x_17 ex_17
  refine lv_iinc (v := x_17) (lv' := [(2, .int x_17), (0, .ref a_p), (1, .ref a_c)]) hx hb dX5_weigh_80 hl (k := 2) rfl (by rw [ex_17]; rfl) (by decide) rfl (fun ls hl => ?_)
  refine lv_goto (tgt := 7) hx hb dX5_weigh_83 (by decide) ?_
  exact hK_7 x_17 awaiting dues cost rest _ _ _ hP hD hS (lv_sub hl [1, 2, 0] rfl) hw
def wp_X5_weigh_L7 (infants : Int32) (retired : Int32) (kind : Nat → Int32) (months : Nat → Int32) (skills : Nat → Int32) (Post : Int32 → (Nat → Int32) → (Nat → Int32) → (Nat → Int32) → Prop) (K_86 : Int32 → (Nat → Int32) → (Nat → Int32) → (Nat → Int32) → Prop) : Nat → Int32 → Int32 → (Nat → Int32) → (Nat → Int32) → (Nat → Int32) → Prop
  | 0, _, _, _, _, _ => False
  | n + 1, v2, awaiting, dues, cost, rest => ((infants ≤ v2 → K_86 awaiting dues cost rest) ∧ (¬ infants ≤ v2 → (wp_X1_isRetired retired v2 (fun r_2 => ((r_2 = 0 → (vp_in awaiting 6 ∧ (∀ f_5 : Nat → Int32, f_5 = upd dues awaiting.toNatClampNeg v2 → (∃ k_23 : Nat, wp_X5_weigh_L38 infants retired kind months skills Post (fun (v2_11 : Int32) (awaiting_12 : Int32) (dues_13 : Nat → Int32) (cost_14 : Nat → Int32) (rest_15 : Nat → Int32) => (∀ x_16 : Int32, x_16 = awaiting_12 + 1 → (wp_X5_weigh_J80 infants retired kind months skills Post (fun (v2_18 : Int32) (awaiting_19 : Int32) (dues_20 : Nat → Int32) (cost_21 : Nat → Int32) (rest_22 : Nat → Int32) => wp_X5_weigh_L7 infants retired kind months skills Post K_86 n v2_18 awaiting_19 dues_20 cost_21 rest_22) v2_11 x_16 dues_13 cost_14 rest_15))) k_23 v2 0 awaiting f_5 cost rest)))) ∧ (¬ r_2 = 0 → (wp_X5_weigh_J80 infants retired kind months skills Post (fun (v2_24 : Int32) (awaiting_25 : Int32) (dues_26 : Nat → Int32) (cost_27 : Nat → Int32) (rest_28 : Nat → Int32) => wp_X5_weigh_L7 infants retired kind months skills Post K_86 n v2_24 awaiting_25 dues_26 cost_27 rest_28) v2 awaiting dues cost rest)))))))
set_option maxHeartbeats 4000000 in
set_option maxRecDepth 100000 in
theorem k_X5_weigh_L7 {p : Program} {l : Launch} {e : Env} {s : State} {m : MethodId} {ar : Array Value} {bl : List Frame} {meth : Method} {c : Code} {D : va_G} {A : Nat → Prop} {cI cB cZ cP cC : ClassId} {a_p a_p_dues a_p_cost a_p_rest a_c a_c_kind a_c_months a_c_home a_c_nurse a_c_skills a_c_noteRow a_c_soundRow a_c_pastRow a_K a_k0 a_k1 a_k2 a_k3 a_k4 a_k5 : Nat} {infants : Int32} {retired : Int32} {month : Int32} {notes : Int32} {sounds : Int32} {pasts : Int32} {kind : Nat → Int32} {months : Nat → Int32} {skills : Nat → Int32} {Post : Int32 → (Nat → Int32) → (Nat → Int32) → (Nat → Int32) → Prop} {K_86 : Int32 → (Nat → Int32) → (Nat → Int32) → (Nat → Int32) → Prop} (C0 : mxC p s m ar meth c cX5_weigh RX5 none 4 D (mxTy cI cB cZ cP cC) A)
    (hK_86 : ∀ (awaiting : Int32) (dues : Nat → Int32) (cost : Nat → Int32) (rest : Nat → Int32) (H : Heap) (locs : List Loc) (ls : Array Slot), va_P D vwCl (ww_X5_weigh a_p a_p_dues a_p_cost a_p_rest a_c a_c_kind a_c_months a_c_home a_c_nurse a_c_skills a_c_noteRow a_c_soundRow a_c_pastRow a_K a_k0 a_k1 a_k2 a_k3 a_k4 a_k5 cI cB cZ cP cC awaiting dues cost rest infants retired month notes sounds pasts kind months skills) H → va_D A (ww_X5_weigh a_p a_p_dues a_p_cost a_p_rest a_c a_c_kind a_c_months a_c_home a_c_nurse a_c_skills a_c_noteRow a_c_soundRow a_c_pastRow a_K a_k0 a_k1 a_k2 a_k3 a_k4 a_k5 cI cB cZ cP cC awaiting dues cost rest infants retired month notes sounds pasts kind months skills) → va_S A s.heap H locs → lv_has ls 4 [(0, .ref a_p)] → K_86 awaiting dues cost rest → W p l e rm_X5_weigh s m ar bl meth c H locs 0 0 (MQ bl (qq_X5_weigh D a_p a_p_dues a_p_cost a_p_rest a_c a_c_kind a_c_months a_c_home a_c_nurse a_c_skills a_c_noteRow a_c_soundRow a_c_pastRow a_K a_k0 a_k1 a_k2 a_k3 a_k4 a_k5 cI cB cZ cP cC infants retired month notes sounds pasts kind months skills Post A) ar s 0 0 A) (F0 m 86 ls [])) :
    ∀ (n : Nat) (v2 : Int32) (awaiting : Int32) (dues : Nat → Int32) (cost : Nat → Int32) (rest : Nat → Int32) (H : Heap) (locs : List Loc) (ls : Array Slot), va_P D vwCl (ww_X5_weigh a_p a_p_dues a_p_cost a_p_rest a_c a_c_kind a_c_months a_c_home a_c_nurse a_c_skills a_c_noteRow a_c_soundRow a_c_pastRow a_K a_k0 a_k1 a_k2 a_k3 a_k4 a_k5 cI cB cZ cP cC awaiting dues cost rest infants retired month notes sounds pasts kind months skills) H → va_D A (ww_X5_weigh a_p a_p_dues a_p_cost a_p_rest a_c a_c_kind a_c_months a_c_home a_c_nurse a_c_skills a_c_noteRow a_c_soundRow a_c_pastRow a_K a_k0 a_k1 a_k2 a_k3 a_k4 a_k5 cI cB cZ cP cC awaiting dues cost rest infants retired month notes sounds pasts kind months skills) → va_S A s.heap H locs → lv_has ls 4 [(0, .ref a_p), (1, .ref a_c), (2, .int v2)] → wp_X5_weigh_L7 infants retired kind months skills Post K_86 n v2 awaiting dues cost rest → W p l e rm_X5_weigh s m ar bl meth c H locs 0 0 (MQ bl (qq_X5_weigh D a_p a_p_dues a_p_cost a_p_rest a_c a_c_kind a_c_months a_c_home a_c_nurse a_c_skills a_c_noteRow a_c_soundRow a_c_pastRow a_K a_k0 a_k1 a_k2 a_k3 a_k4 a_k5 cI cB cZ cP cC infants retired month notes sounds pasts kind months skills Post A) ar s 0 0 A) (F0 m 7 ls []) := by
  obtain ⟨hx, hb, hr, hlocks, hml, hown, hts, hK, hA⟩ := id C0
  intro n
  induction n with
  | zero =>
    intro v2 awaiting dues cost rest H locs ls hP hD hS hl hw
    exact absurd hw (fun h => h)
  | succ n ih =>
    intro v2 awaiting dues cost rest H locs ls hP hD hS hl hw
    refine lv_iload_n hx hb dX5_weigh_7 rfl (lv_at hl 2 rfl) ?_
    refine lv_aload_n hx hb dX5_weigh_8 rfl (lv_at hl 1 rfl) ?_
    refine mx_get (ci := 1) (C := RX1) (T := TX1) (N := 15) hx hb hown in_wsX10 hts hK hP 4 rfl rfl 9 (by decide) q_721 rfl (v := .int infants) rfl dX5_weigh_9 ?_
    refine lv_icmp_ge (tgt := 86) hx hb dX5_weigh_12 (by decide) (fun c_1 => ?_) (fun c_1 => ?_)
    · replace hw := hw.1 c_1
      exact hK_86 awaiting dues cost rest _ _ _ hP hD hS (lv_sub hl [0] rfl) hw
    · replace hw := hw.2 c_1
      refine lv_aload_n hx hb dX5_weigh_15 rfl (lv_at hl 1 rfl) ?_
      refine lv_iload_n hx hb dX5_weigh_16 rfl (lv_at hl 2 rfl) ?_
      refine mx_ki (mx_rV (rm := rm_X1_isRetired) (rest := []) (C := RX1) hx hb hml hown hts (c_X1_isRetired l D cI cB cZ cP cC a_c a_c_kind a_c_months a_c_home a_c_nurse a_c_skills a_c_noteRow a_c_soundRow a_c_pastRow a_K infants retired month notes sounds pasts v2 _ _ hw) q_722 q_396 q_397 q_32 q_398 hd_X1_isRetired ⟨(Nat.le_of_ble_eq_true rfl), (Nat.le_of_ble_eq_true rfl)⟩ rfl rfl hK hP hD [4] rfl rfl 1 4 rfl rfl rfl rfl hl.1 rfl (Nat.le_of_ble_eq_true rfl) dX5_weigh_17 ⟨(Nat.le_of_ble_eq_true rfl), (Nat.le_of_ble_eq_true rfl)⟩) hP hD hS hA [4] [0, 1, 2, 3, 5, 6, 7, 8, 9, 10, 11, 12, 13, 14] [0, 1, 2, 3, 14, 4, 5, 6, 7, 8, 9, 10, 11, 12, 13] (fun _ => ww_X5_weigh a_p a_p_dues a_p_cost a_p_rest a_c a_c_kind a_c_months a_c_home a_c_nurse a_c_skills a_c_noteRow a_c_soundRow a_c_pastRow a_K a_k0 a_k1 a_k2 a_k3 a_k4 a_k5 cI cB cZ cP cC awaiting dues cost rest infants retired month notes sounds pasts kind months skills) rfl rfl rfl (by decide) rfl (fun _ => rfl) (fun r_2 u H locs hw hP hD hS => ?_)
      try dsimp only at hw
      replace hP : va_P D vwCl (ww_X5_weigh a_p a_p_dues a_p_cost a_p_rest a_c a_c_kind a_c_months a_c_home a_c_nurse a_c_skills a_c_noteRow a_c_soundRow a_c_pastRow a_K a_k0 a_k1 a_k2 a_k3 a_k4 a_k5 cI cB cZ cP cC awaiting dues cost rest infants retired month notes sounds pasts kind months skills) H := hP
      replace hD : va_D A (ww_X5_weigh a_p a_p_dues a_p_cost a_p_rest a_c a_c_kind a_c_months a_c_home a_c_nurse a_c_skills a_c_noteRow a_c_soundRow a_c_pastRow a_K a_k0 a_k1 a_k2 a_k3 a_k4 a_k5 cI cB cZ cP cC awaiting dues cost rest infants retired month notes sounds pasts kind months skills) := hD
      refine lv_if_eq (tgt := 26) hx hb dX5_weigh_20 (by decide) (fun c_3 => ?_) (fun c_3 => ?_)
      · replace hw := hw.1 c_3
        refine lv_aload_n hx hb dX5_weigh_26 rfl (lv_at hl 0 rfl) ?_
        refine mx_get (ci := 5) (C := RX5) (T := TX5) (N := 4) hx hb hown in_wsX50 hts hK hP 0 rfl rfl 0 (by decide) q_84 rfl (v := .ref a_p_dues) rfl dX5_weigh_27 ?_
        refine lv_aload_n hx hb dX5_weigh_30 rfl (lv_at hl 0 rfl) ?_
        refine mx_get (ci := 5) (C := RX5) (T := TX5) (N := 4) hx hb hown in_wsX50 hts hK hP 0 rfl rfl 3 (by decide) q_720 rfl (v := .int awaiting) rfl dX5_weigh_31 ?_
        refine lv_iload_n hx hb dX5_weigh_34 rfl (lv_at hl 2 rfl) ?_
        obtain ⟨h_4, hw⟩ := hw
        obtain ⟨f_5, ef_5⟩ : ∃ y : Nat → Int32, y = upd dues awaiting.toNatClampNeg v2 := ⟨_, rfl⟩
        replace hw := hw f_5 ef_5
        refine mx_iast hx hb hK hP hD hS 1 0 rfl rfl h_4 f_5 ef_5 (ww_X5_weigh a_p a_p_dues a_p_cost a_p_rest a_c a_c_kind a_c_months a_c_home a_c_nurse a_c_skills a_c_noteRow a_c_soundRow a_c_pastRow a_K a_k0 a_k1 a_k2 a_k3 a_k4 a_k5 cI cB cZ cP cC awaiting f_5 cost rest infants retired month notes sounds pasts kind months skills) rfl dX5_weigh_35 (fun H locs hP hD hS => ?_)
        refine lv_iconst (v := 0) hx hb dX5_weigh_36 (by decide) ?_
        refine lv_istore_n (lv' := [(3, .int 0), (0, .ref a_p), (1, .ref a_c), (2, .int v2)]) hx hb dX5_weigh_37 rfl hl (by decide) rfl (fun ls hl => ?_)
        obtain ⟨n0, hw⟩ := hw
        refine k_X5_weigh_L38 C0 ?_ n0 v2 0 awaiting f_5 cost rest _ _ _ hP hD hS (lv_sub hl [1, 2, 3, 0] rfl) hw
        intro v2_11 awaiting_12 dues_13 cost_14 rest_15 H locs ls hP hD hS hl hw
        refine lv_aload_n hx hb dX5_weigh_70 rfl (lv_at hl 0 rfl) ?_
        refine lv_dup hx hb dX5_weigh_71 rfl ?_
        refine mx_get (ci := 5) (C := RX5) (T := TX5) (N := 4) hx hb hown in_wsX50 hts hK hP 0 rfl rfl 3 (by decide) q_720 rfl (v := .int awaiting_12) rfl dX5_weigh_72 ?_
        refine lv_iconst (v := 1) hx hb dX5_weigh_75 (by decide) ?_
        refine lv_iadd hx hb dX5_weigh_76 ?_
        refine lv_topi (fun x_16 ex_16 => ?_)
        replace hw := hw x_16 ex_16
        refine mx_put (ci := 5) (C := RX5) (T := TX5) (N := 4) hx hb hown in_wsX50 tyX5 tyX5_ok nmX5 hts hK hP hD hS 0 rfl rfl 3 (by decide) q_720 rfl rfl rfl rfl (Nat.le_of_ble_eq_true rfl) (ww_X5_weigh a_p a_p_dues a_p_cost a_p_rest a_c a_c_kind a_c_months a_c_home a_c_nurse a_c_skills a_c_noteRow a_c_soundRow a_c_pastRow a_K a_k0 a_k1 a_k2 a_k3 a_k4 a_k5 cI cB cZ cP cC x_16 dues_13 cost_14 rest_15 infants retired month notes sounds pasts kind months skills) rfl dX5_weigh_77 (fun H locs hP hD hS => ?_)
        refine k_X5_weigh_J80 C0 ?_ v2_11 x_16 dues_13 cost_14 rest_15 _ _ _ hP hD hS (lv_sub hl [0, 1, 2] rfl) hw
        intro v2_18 awaiting_19 dues_20 cost_21 rest_22 H locs ls hP hD hS hl hw
        exact ih v2_18 awaiting_19 dues_20 cost_21 rest_22 _ _ _ hP hD hS (lv_sub hl [0, 1, 2] rfl) hw
      · replace hw := hw.2 c_3
        refine lv_goto (tgt := 80) hx hb dX5_weigh_23 (by decide) ?_
        refine k_X5_weigh_J80 C0 ?_ v2 awaiting dues cost rest _ _ _ hP hD hS (lv_sub hl [0, 1, 2] rfl) hw
        intro v2_24 awaiting_25 dues_26 cost_27 rest_28 H locs ls hP hD hS hl hw
        exact ih v2_24 awaiting_25 dues_26 cost_27 rest_28 _ _ _ hP hD hS (lv_sub hl [0, 1, 2] rfl) hw
def wp_X5_weigh_J127 (infants : Int32) (retired : Int32) (kind : Nat → Int32) (months : Nat → Int32) (skills : Nat → Int32) (Post : Int32 → (Nat → Int32) → (Nat → Int32) → (Nat → Int32) → Prop) (K_89 : Int32 → Int32 → (Nat → Int32) → (Nat → Int32) → (Nat → Int32) → Prop) (v2 : Int32) (s0 : Int32) (s1 : Int32) (awaiting : Int32) (dues : Nat → Int32) (cost : Nat → Int32) (rest : Nat → Int32) : Prop :=
  (vp_in s1 64 ∧ (∀ f_37 : Nat → Int32, f_37 = upd rest s1.toNatClampNeg s0 → (∀ x_38 : Int32, x_38 = v2 + (-1) → K_89 x_38 awaiting dues cost f_37)))
set_option maxHeartbeats 4000000 in
set_option maxRecDepth 100000 in
theorem k_X5_weigh_J127 {p : Program} {l : Launch} {e : Env} {s : State} {m : MethodId} {ar : Array Value} {bl : List Frame} {meth : Method} {c : Code} {D : va_G} {A : Nat → Prop} {cI cB cZ cP cC : ClassId} {a_p a_p_dues a_p_cost a_p_rest a_c a_c_kind a_c_months a_c_home a_c_nurse a_c_skills a_c_noteRow a_c_soundRow a_c_pastRow a_K a_k0 a_k1 a_k2 a_k3 a_k4 a_k5 : Nat} {infants : Int32} {retired : Int32} {month : Int32} {notes : Int32} {sounds : Int32} {pasts : Int32} {kind : Nat → Int32} {months : Nat → Int32} {skills : Nat → Int32} {Post : Int32 → (Nat → Int32) → (Nat → Int32) → (Nat → Int32) → Prop} {K_89 : Int32 → Int32 → (Nat → Int32) → (Nat → Int32) → (Nat → Int32) → Prop} (C0 : mxC p s m ar meth c cX5_weigh RX5 none 4 D (mxTy cI cB cZ cP cC) A)
    (hK_89 : ∀ (v2 : Int32) (awaiting : Int32) (dues : Nat → Int32) (cost : Nat → Int32) (rest : Nat → Int32) (H : Heap) (locs : List Loc) (ls : Array Slot), va_P D vwCl (ww_X5_weigh a_p a_p_dues a_p_cost a_p_rest a_c a_c_kind a_c_months a_c_home a_c_nurse a_c_skills a_c_noteRow a_c_soundRow a_c_pastRow a_K a_k0 a_k1 a_k2 a_k3 a_k4 a_k5 cI cB cZ cP cC awaiting dues cost rest infants retired month notes sounds pasts kind months skills) H → va_D A (ww_X5_weigh a_p a_p_dues a_p_cost a_p_rest a_c a_c_kind a_c_months a_c_home a_c_nurse a_c_skills a_c_noteRow a_c_soundRow a_c_pastRow a_K a_k0 a_k1 a_k2 a_k3 a_k4 a_k5 cI cB cZ cP cC awaiting dues cost rest infants retired month notes sounds pasts kind months skills) → va_S A s.heap H locs → lv_has ls 4 [(0, .ref a_p), (2, .int v2)] → K_89 v2 awaiting dues cost rest → W p l e rm_X5_weigh s m ar bl meth c H locs 0 0 (MQ bl (qq_X5_weigh D a_p a_p_dues a_p_cost a_p_rest a_c a_c_kind a_c_months a_c_home a_c_nurse a_c_skills a_c_noteRow a_c_soundRow a_c_pastRow a_K a_k0 a_k1 a_k2 a_k3 a_k4 a_k5 cI cB cZ cP cC infants retired month notes sounds pasts kind months skills Post A) ar s 0 0 A) (F0 m 89 ls [])) :
    ∀ (v2 : Int32) (s0 : Int32) (s1 : Int32) (awaiting : Int32) (dues : Nat → Int32) (cost : Nat → Int32) (rest : Nat → Int32) (H : Heap) (locs : List Loc) (ls : Array Slot), va_P D vwCl (ww_X5_weigh a_p a_p_dues a_p_cost a_p_rest a_c a_c_kind a_c_months a_c_home a_c_nurse a_c_skills a_c_noteRow a_c_soundRow a_c_pastRow a_K a_k0 a_k1 a_k2 a_k3 a_k4 a_k5 cI cB cZ cP cC awaiting dues cost rest infants retired month notes sounds pasts kind months skills) H → va_D A (ww_X5_weigh a_p a_p_dues a_p_cost a_p_rest a_c a_c_kind a_c_months a_c_home a_c_nurse a_c_skills a_c_noteRow a_c_soundRow a_c_pastRow a_K a_k0 a_k1 a_k2 a_k3 a_k4 a_k5 cI cB cZ cP cC awaiting dues cost rest infants retired month notes sounds pasts kind months skills) → va_S A s.heap H locs → lv_has ls 4 [(0, .ref a_p), (2, .int v2)] → wp_X5_weigh_J127 infants retired kind months skills Post K_89 v2 s0 s1 awaiting dues cost rest → W p l e rm_X5_weigh s m ar bl meth c H locs 0 0 (MQ bl (qq_X5_weigh D a_p a_p_dues a_p_cost a_p_rest a_c a_c_kind a_c_months a_c_home a_c_nurse a_c_skills a_c_noteRow a_c_soundRow a_c_pastRow a_K a_k0 a_k1 a_k2 a_k3 a_k4 a_k5 cI cB cZ cP cC infants retired month notes sounds pasts kind months skills Post A) ar s 0 0 A) (F0 m 127 ls [.int s0, .int s1, .ref a_p_rest]) := by
  obtain ⟨hx, hb, hr, hlocks, hml, hown, hts, hK, hA⟩ := id C0
  intro v2 s0 s1 awaiting dues cost rest H locs ls hP hD hS hl hw
  obtain ⟨h_36, hw⟩ := hw
  obtain ⟨f_37, ef_37⟩ : ∃ y : Nat → Int32, y = upd rest s1.toNatClampNeg s0 := ⟨_, rfl⟩
  replace hw := hw f_37 ef_37
  refine mx_iast hx hb hK hP hD hS 3 0 rfl rfl h_36 f_37 ef_37 (ww_X5_weigh a_p a_p_dues a_p_cost a_p_rest a_c a_c_kind a_c_months a_c_home a_c_nurse a_c_skills a_c_noteRow a_c_soundRow a_c_pastRow a_K a_k0 a_k1 a_k2 a_k3 a_k4 a_k5 cI cB cZ cP cC awaiting dues cost f_37 infants retired month notes sounds pasts kind months skills) rfl dX5_weigh_127 (fun H locs hP hD hS => ?_)
  obtain ⟨x_38, ex_38⟩ : ∃ y : Int32, y = v2 + (-1) := ⟨_, rfl⟩
  replace hw := hw x_38 ex_38
  refine lv_iinc (v := x_38) (lv' := [(2, .int x_38), (0, .ref a_p)]) hx hb dX5_weigh_128 hl (k := 1) rfl (by rw [ex_38]; rfl) (by decide) rfl (fun ls hl => ?_)
  refine lv_goto (tgt := 89) hx hb dX5_weigh_131 (by decide) ?_
  exact hK_89 x_38 awaiting dues cost f_37 _ _ _ hP hD hS (lv_sub hl [1, 0] rfl) hw
def wp_X5_weigh_L89 (infants : Int32) (retired : Int32) (kind : Nat → Int32) (months : Nat → Int32) (skills : Nat → Int32) (Post : Int32 → (Nat → Int32) → (Nat → Int32) → (Nat → Int32) → Prop)  : Nat → Int32 → Int32 → (Nat → Int32) → (Nat → Int32) → (Nat → Int32) → Prop
  | 0, _, _, _, _, _ => False
  | n + 1, v2, awaiting, dues, cost, rest => ((v2 < 0 → Post awaiting dues cost rest) ∧ (¬ v2 < 0 → (wp_J6_bitCount_0f7a4 v2 (fun r_34 => ((awaiting ≤ r_34 → (wp_X5_weigh_J127 infants retired kind months skills Post (fun (v2_39 : Int32) (awaiting_40 : Int32) (dues_41 : Nat → Int32) (cost_42 : Nat → Int32) (rest_43 : Nat → Int32) => wp_X5_weigh_L89 infants retired kind months skills Post  n v2_39 awaiting_40 dues_41 cost_42 rest_43) v2 0 v2 awaiting dues cost rest)) ∧ (¬ awaiting ≤ r_34 → (wp_X5_firstBest cost rest r_34 v2 (fun r_44 => (wp_X5_costOf cost rest r_34 r_44 v2 (fun r_45 => (wp_X5_weigh_J127 infants retired kind months skills Post (fun (v2_46 : Int32) (awaiting_47 : Int32) (dues_48 : Nat → Int32) (cost_49 : Nat → Int32) (rest_50 : Nat → Int32) => wp_X5_weigh_L89 infants retired kind months skills Post  n v2_46 awaiting_47 dues_48 cost_49 rest_50) v2 r_45 v2 awaiting dues cost rest)))))))))))
set_option maxHeartbeats 4000000 in
set_option maxRecDepth 100000 in
theorem k_X5_weigh_L89 {p : Program} {l : Launch} {e : Env} {s : State} {m : MethodId} {ar : Array Value} {bl : List Frame} {meth : Method} {c : Code} {D : va_G} {A : Nat → Prop} {cI cB cZ cP cC : ClassId} {a_p a_p_dues a_p_cost a_p_rest a_c a_c_kind a_c_months a_c_home a_c_nurse a_c_skills a_c_noteRow a_c_soundRow a_c_pastRow a_K a_k0 a_k1 a_k2 a_k3 a_k4 a_k5 : Nat} {infants : Int32} {retired : Int32} {month : Int32} {notes : Int32} {sounds : Int32} {pasts : Int32} {kind : Nat → Int32} {months : Nat → Int32} {skills : Nat → Int32} {Post : Int32 → (Nat → Int32) → (Nat → Int32) → (Nat → Int32) → Prop} (C0 : mxC p s m ar meth c cX5_weigh RX5 none 4 D (mxTy cI cB cZ cP cC) A) :
    ∀ (n : Nat) (v2 : Int32) (awaiting : Int32) (dues : Nat → Int32) (cost : Nat → Int32) (rest : Nat → Int32) (H : Heap) (locs : List Loc) (ls : Array Slot), va_P D vwCl (ww_X5_weigh a_p a_p_dues a_p_cost a_p_rest a_c a_c_kind a_c_months a_c_home a_c_nurse a_c_skills a_c_noteRow a_c_soundRow a_c_pastRow a_K a_k0 a_k1 a_k2 a_k3 a_k4 a_k5 cI cB cZ cP cC awaiting dues cost rest infants retired month notes sounds pasts kind months skills) H → va_D A (ww_X5_weigh a_p a_p_dues a_p_cost a_p_rest a_c a_c_kind a_c_months a_c_home a_c_nurse a_c_skills a_c_noteRow a_c_soundRow a_c_pastRow a_K a_k0 a_k1 a_k2 a_k3 a_k4 a_k5 cI cB cZ cP cC awaiting dues cost rest infants retired month notes sounds pasts kind months skills) → va_S A s.heap H locs → lv_has ls 4 [(0, .ref a_p), (2, .int v2)] → wp_X5_weigh_L89 infants retired kind months skills Post  n v2 awaiting dues cost rest → W p l e rm_X5_weigh s m ar bl meth c H locs 0 0 (MQ bl (qq_X5_weigh D a_p a_p_dues a_p_cost a_p_rest a_c a_c_kind a_c_months a_c_home a_c_nurse a_c_skills a_c_noteRow a_c_soundRow a_c_pastRow a_K a_k0 a_k1 a_k2 a_k3 a_k4 a_k5 cI cB cZ cP cC infants retired month notes sounds pasts kind months skills Post A) ar s 0 0 A) (F0 m 89 ls []) := by
  obtain ⟨hx, hb, hr, hlocks, hml, hown, hts, hK, hA⟩ := id C0
  intro n
  induction n with
  | zero =>
    intro v2 awaiting dues cost rest H locs ls hP hD hS hl hw
    exact absurd hw (fun h => h)
  | succ n ih =>
    intro v2 awaiting dues cost rest H locs ls hP hD hS hl hw
    refine lv_iload_n hx hb dX5_weigh_89 rfl (lv_at hl 1 rfl) ?_
    refine lv_if_lt (tgt := 134) hx hb dX5_weigh_90 (by decide) (fun c_33 => ?_) (fun c_33 => ?_)
    · replace hw := hw.1 c_33
      exact mx_vret (awaiting, dues, cost, rest) hx hb hr hlocks hw hK hP hD hS dX5_weigh_134
    · replace hw := hw.2 c_33
      refine lv_iload_n hx hb dX5_weigh_93 rfl (lv_at hl 1 rfl) ?_
      refine mx_ki (mx_rS (rm := rm_J6_bitCount_0f7a4) (rest := []) hx hb hml hown hts (c_J6_bitCount_0f7a4 l D cI cB cZ cP cC v2 _ _ hw) q_724 q_488 q_489 q_490 hd_J6_bitCount_0f7a4 ⟨(Nat.le_of_ble_eq_true rfl), (Nat.le_of_ble_eq_true rfl)⟩ rfl rfl hK hP hD [] rfl rfl rfl hl.1 rfl (Nat.le_of_ble_eq_true rfl) dX5_weigh_94 ⟨(Nat.le_of_ble_eq_true rfl), (Nat.le_of_ble_eq_true rfl)⟩) hP hD hS hA [] [0, 1, 2, 3, 4, 5, 6, 7, 8, 9, 10, 11, 12, 13, 14] [0, 1, 2, 3, 4, 5, 6, 7, 8, 9, 10, 11, 12, 13, 14] (fun _ => ww_X5_weigh a_p a_p_dues a_p_cost a_p_rest a_c a_c_kind a_c_months a_c_home a_c_nurse a_c_skills a_c_noteRow a_c_soundRow a_c_pastRow a_K a_k0 a_k1 a_k2 a_k3 a_k4 a_k5 cI cB cZ cP cC awaiting dues cost rest infants retired month notes sounds pasts kind months skills) rfl rfl rfl (by decide) rfl (fun _ => rfl) (fun r_34 u H locs hw hP hD hS => ?_)
      try dsimp only at hw
      replace hP : va_P D vwCl (ww_X5_weigh a_p a_p_dues a_p_cost a_p_rest a_c a_c_kind a_c_months a_c_home a_c_nurse a_c_skills a_c_noteRow a_c_soundRow a_c_pastRow a_K a_k0 a_k1 a_k2 a_k3 a_k4 a_k5 cI cB cZ cP cC awaiting dues cost rest infants retired month notes sounds pasts kind months skills) H := hP
      replace hD : va_D A (ww_X5_weigh a_p a_p_dues a_p_cost a_p_rest a_c a_c_kind a_c_months a_c_home a_c_nurse a_c_skills a_c_noteRow a_c_soundRow a_c_pastRow a_K a_k0 a_k1 a_k2 a_k3 a_k4 a_k5 cI cB cZ cP cC awaiting dues cost rest infants retired month notes sounds pasts kind months skills) := hD
      refine lv_istore_n (lv' := [(3, .int r_34), (0, .ref a_p), (2, .int v2)]) hx hb dX5_weigh_97 rfl hl (by decide) rfl (fun ls hl => ?_)
      refine lv_aload_n hx hb dX5_weigh_98 rfl (lv_at hl 1 rfl) ?_
      refine mx_get (ci := 5) (C := RX5) (T := TX5) (N := 4) hx hb hown in_wsX50 hts hK hP 0 rfl rfl 2 (by decide) q_86 rfl (v := .ref a_p_rest) rfl dX5_weigh_99 ?_
      refine lv_iload_n hx hb dX5_weigh_102 rfl (lv_at hl 2 rfl) ?_
      refine lv_iload_n hx hb dX5_weigh_103 rfl (lv_at hl 0 rfl) ?_
      refine lv_aload_n hx hb dX5_weigh_104 rfl (lv_at hl 1 rfl) ?_
      refine mx_get (ci := 5) (C := RX5) (T := TX5) (N := 4) hx hb hown in_wsX50 hts hK hP 0 rfl rfl 3 (by decide) q_720 rfl (v := .int awaiting) rfl dX5_weigh_105 ?_
      refine lv_icmp_ge (tgt := 126) hx hb dX5_weigh_108 (by decide) (fun c_35 => ?_) (fun c_35 => ?_)
      · replace hw := hw.1 c_35
        refine lv_iconst (v := 0) hx hb dX5_weigh_126 (by decide) ?_
        refine k_X5_weigh_J127 C0 ?_ v2 0 v2 awaiting dues cost rest _ _ _ hP hD hS (lv_sub hl [1, 2] rfl) hw
        intro v2_39 awaiting_40 dues_41 cost_42 rest_43 H locs ls hP hD hS hl hw
        exact ih v2_39 awaiting_40 dues_41 cost_42 rest_43 _ _ _ hP hD hS (lv_sub hl [0, 1] rfl) hw
      · replace hw := hw.2 c_35
        refine lv_aload_n hx hb dX5_weigh_111 rfl (lv_at hl 1 rfl) ?_
        refine lv_iload_n hx hb dX5_weigh_112 rfl (lv_at hl 0 rfl) ?_
        refine lv_aload_n hx hb dX5_weigh_113 rfl (lv_at hl 1 rfl) ?_
        refine lv_iload_n hx hb dX5_weigh_114 rfl (lv_at hl 0 rfl) ?_
        refine lv_iload_n hx hb dX5_weigh_115 rfl (lv_at hl 2 rfl) ?_
        refine mx_ki (mx_rV (rm := rm_X5_firstBest) (rest := [.int r_34, .ref a_p, .int v2, .ref a_p_rest]) (C := RX5) hx hb hml hown hts (c_X5_firstBest l D cI cB cZ cP cC a_p a_p_dues a_p_cost a_p_rest awaiting cost rest r_34 v2 _ _ hw) q_725 q_726 q_727 q_43 q_728 hd_X5_firstBest ⟨(Nat.le_of_ble_eq_true rfl), (Nat.le_of_ble_eq_true rfl)⟩ rfl rfl hK hP hD [0, 2, 3] rfl rfl 5 0 rfl rfl rfl rfl hl.1 rfl (Nat.le_of_ble_eq_true rfl) dX5_weigh_116 ⟨(Nat.le_of_ble_eq_true rfl), (Nat.le_of_ble_eq_true rfl)⟩) hP hD hS hA [0, 2, 3] [1, 4, 5, 6, 7, 8, 9, 10, 11, 12, 13, 14] [12, 0, 13, 14, 1, 2, 3, 4, 5, 6, 7, 8, 9, 10, 11] (fun _ => ww_X5_weigh a_p a_p_dues a_p_cost a_p_rest a_c a_c_kind a_c_months a_c_home a_c_nurse a_c_skills a_c_noteRow a_c_soundRow a_c_pastRow a_K a_k0 a_k1 a_k2 a_k3 a_k4 a_k5 cI cB cZ cP cC awaiting dues cost rest infants retired month notes sounds pasts kind months skills) rfl rfl rfl (by decide) rfl (fun _ => rfl) (fun r_44 u H locs hw hP hD hS => ?_)
        try dsimp only at hw
        replace hP : va_P D vwCl (ww_X5_weigh a_p a_p_dues a_p_cost a_p_rest a_c a_c_kind a_c_months a_c_home a_c_nurse a_c_skills a_c_noteRow a_c_soundRow a_c_pastRow a_K a_k0 a_k1 a_k2 a_k3 a_k4 a_k5 cI cB cZ cP cC awaiting dues cost rest infants retired month notes sounds pasts kind months skills) H := hP
        replace hD : va_D A (ww_X5_weigh a_p a_p_dues a_p_cost a_p_rest a_c a_c_kind a_c_months a_c_home a_c_nurse a_c_skills a_c_noteRow a_c_soundRow a_c_pastRow a_K a_k0 a_k1 a_k2 a_k3 a_k4 a_k5 cI cB cZ cP cC awaiting dues cost rest infants retired month notes sounds pasts kind months skills) := hD
        refine lv_iload_n hx hb dX5_weigh_119 rfl (lv_at hl 2 rfl) ?_
        refine mx_ki (mx_rV (rm := rm_X5_costOf) (rest := [.int v2, .ref a_p_rest]) (C := RX5) hx hb hml hown hts (c_X5_costOf l D cI cB cZ cP cC a_p a_p_dues a_p_cost a_p_rest awaiting cost rest r_34 r_44 v2 _ _ hw) q_730 q_731 q_732 q_43 q_733 hd_X5_costOf ⟨(Nat.le_of_ble_eq_true rfl), (Nat.le_of_ble_eq_true rfl)⟩ rfl rfl hK hP hD [0, 2, 3] rfl rfl 5 0 rfl rfl rfl rfl hl.1 rfl (Nat.le_of_ble_eq_true rfl) dX5_weigh_120 ⟨(Nat.le_of_ble_eq_true rfl), (Nat.le_of_ble_eq_true rfl)⟩) hP hD hS hA [0, 2, 3] [1, 4, 5, 6, 7, 8, 9, 10, 11, 12, 13, 14] [12, 0, 13, 14, 1, 2, 3, 4, 5, 6, 7, 8, 9, 10, 11] (fun _ => ww_X5_weigh a_p a_p_dues a_p_cost a_p_rest a_c a_c_kind a_c_months a_c_home a_c_nurse a_c_skills a_c_noteRow a_c_soundRow a_c_pastRow a_K a_k0 a_k1 a_k2 a_k3 a_k4 a_k5 cI cB cZ cP cC awaiting dues cost rest infants retired month notes sounds pasts kind months skills) rfl rfl rfl (by decide) rfl (fun _ => rfl) (fun r_45 u H locs hw hP hD hS => ?_)
        try dsimp only at hw
        replace hP : va_P D vwCl (ww_X5_weigh a_p a_p_dues a_p_cost a_p_rest a_c a_c_kind a_c_months a_c_home a_c_nurse a_c_skills a_c_noteRow a_c_soundRow a_c_pastRow a_K a_k0 a_k1 a_k2 a_k3 a_k4 a_k5 cI cB cZ cP cC awaiting dues cost rest infants retired month notes sounds pasts kind months skills) H := hP
        replace hD : va_D A (ww_X5_weigh a_p a_p_dues a_p_cost a_p_rest a_c a_c_kind a_c_months a_c_home a_c_nurse a_c_skills a_c_noteRow a_c_soundRow a_c_pastRow a_K a_k0 a_k1 a_k2 a_k3 a_k4 a_k5 cI cB cZ cP cC awaiting dues cost rest infants retired month notes sounds pasts kind months skills) := hD
        refine lv_goto (tgt := 127) hx hb dX5_weigh_123 (by decide) ?_
        refine k_X5_weigh_J127 C0 ?_ v2 r_45 v2 awaiting dues cost rest _ _ _ hP hD hS (lv_sub hl [1, 2] rfl) hw
        intro v2_46 awaiting_47 dues_48 cost_49 rest_50 H locs ls hP hD hS hl hw
        exact ih v2_46 awaiting_47 dues_48 cost_49 rest_50 _ _ _ hP hD hS (lv_sub hl [0, 1] rfl) hw
def wp_X5_weigh (infants : Int32) (retired : Int32) (kind : Nat → Int32) (months : Nat → Int32) (skills : Nat → Int32) (awaiting : Int32) (dues : Nat → Int32) (cost : Nat → Int32) (rest : Nat → Int32) (Post : Int32 → (Nat → Int32) → (Nat → Int32) → (Nat → Int32) → Prop) : Prop :=
  (∃ k_52 : Nat, wp_X5_weigh_L7 infants retired kind months skills Post (fun (awaiting_29 : Int32) (dues_30 : Nat → Int32) (cost_31 : Nat → Int32) (rest_32 : Nat → Int32) => (∃ k_51 : Nat, wp_X5_weigh_L89 infants retired kind months skills Post k_51 63 awaiting_29 dues_30 cost_31 rest_32)) k_52 0 0 dues cost rest)
set_option maxHeartbeats 4000000 in
set_option maxRecDepth 100000 in
theorem c_X5_weigh (l : Launch) (D : va_G) (cI cB cZ cP cC : ClassId) (a_p a_p_dues a_p_cost a_p_rest a_c a_c_kind a_c_months a_c_home a_c_nurse a_c_skills a_c_noteRow a_c_soundRow a_c_pastRow a_K a_k0 a_k1 a_k2 a_k3 a_k4 a_k5 : Nat) (awaiting : Int32) (dues : Nat → Int32) (cost : Nat → Int32) (rest : Nat → Int32) (infants : Int32) (retired : Int32) (month : Int32) (notes : Int32) (sounds : Int32) (pasts : Int32) (kind : Nat → Int32) (months : Nat → Int32) (skills : Nat → Int32)  (sz : Nat) (Post : Int32 → (Nat → Int32) → (Nat → Int32) → (Nat → Int32) → Prop) (hw : wp_X5_weigh infants retired kind months skills awaiting dues cost rest Post) :
    Met l yX5_weigh (Cond.code yX5_weigh cX5_weigh 4 none :: wsAll) rm_X5_weigh (va_Pc [.ref a_p, .ref a_c] (mxP D (mxTy cI cB cZ cP cC) sz (ww_X5_weigh a_p a_p_dues a_p_cost a_p_rest a_c a_c_kind a_c_months a_c_home a_c_nurse a_c_skills a_c_noteRow a_c_soundRow a_c_pastRow a_K a_k0 a_k1 a_k2 a_k3 a_k4 a_k5 cI cB cZ cP cC awaiting dues cost rest infants retired month notes sounds pasts kind months skills))) (qq_X5_weigh D a_p a_p_dues a_p_cost a_p_rest a_c a_c_kind a_c_months a_c_home a_c_nurse a_c_skills a_c_noteRow a_c_soundRow a_c_pastRow a_K a_k0 a_k1 a_k2 a_k3 a_k4 a_k5 cI cB cZ cP cC infants retired month notes sounds pasts kind months skills Post (va_A (ww_X5_weigh a_p a_p_dues a_p_cost a_p_rest a_c a_c_kind a_c_months a_c_home a_c_nurse a_c_skills a_c_noteRow a_c_soundRow a_c_pastRow a_K a_k0 a_k1 a_k2 a_k3 a_k4 a_k5 cI cB cZ cP cC awaiting dues cost rest infants retired month notes sounds pasts kind months skills) sz)) 0 0 (va_A (ww_X5_weigh a_p a_p_dues a_p_cost a_p_rest a_c a_c_kind a_c_months a_c_home a_c_nurse a_c_skills a_c_noteRow a_c_soundRow a_c_pastRow a_K a_k0 a_k1 a_k2 a_k3 a_k4 a_k5 cI cB cZ cP cC awaiting dues cost rest infants retired month notes sounds pasts kind months skills) sz) := by
  refine mx_of (Qc := qq_X5_weigh D a_p a_p_dues a_p_cost a_p_rest a_c a_c_kind a_c_months a_c_home a_c_nurse a_c_skills a_c_noteRow a_c_soundRow a_c_pastRow a_K a_k0 a_k1 a_k2 a_k3 a_k4 a_k5 cI cB cZ cP cC infants retired month notes sounds pasts kind months skills Post) (by decide) (Nat.le_of_ble_eq_true rfl) ?_
  intro p e s m bl meth c A ls C0 hP hD hS hl
  replace C0 : mxC p s m [.ref a_p, .ref a_c].toArray meth c cX5_weigh RX5 none 4 D (mxTy cI cB cZ cP cC) A := C0
  obtain ⟨hx, hb, hr, hlocks, hml, hown, hts, hK, hA⟩ := id C0
  replace hl : lv_has ls 4 [(0, .ref a_p), (1, .ref a_c)] := hl
  unfold wp_X5_weigh at hw
  refine lv_aload_n hx hb dX5_weigh_0 rfl (lv_at hl 0 rfl) ?_
  refine lv_iconst (v := 0) hx hb dX5_weigh_1 (by decide) ?_
  refine mx_put (ci := 5) (C := RX5) (T := TX5) (N := 4) hx hb hown in_wsX50 tyX5 tyX5_ok nmX5 hts hK hP hD hS 0 rfl rfl 3 (by decide) q_720 rfl rfl rfl rfl (Nat.le_of_ble_eq_true rfl) (ww_X5_weigh a_p a_p_dues a_p_cost a_p_rest a_c a_c_kind a_c_months a_c_home a_c_nurse a_c_skills a_c_noteRow a_c_soundRow a_c_pastRow a_K a_k0 a_k1 a_k2 a_k3 a_k4 a_k5 cI cB cZ cP cC 0 dues cost rest infants retired month notes sounds pasts kind months skills) rfl dX5_weigh_2 (fun H locs hP hD hS => ?_)
  refine lv_iconst (v := 0) hx hb dX5_weigh_5 (by decide) ?_
  refine lv_istore_n (lv' := [(2, .int 0), (0, .ref a_p), (1, .ref a_c)]) hx hb dX5_weigh_6 rfl hl (by decide) rfl (fun ls hl => ?_)
  obtain ⟨n0, hw⟩ := hw
  refine k_X5_weigh_L7 C0 ?_ n0 0 0 dues cost rest _ _ _ hP hD hS (lv_sub hl [1, 2, 0] rfl) hw
  intro awaiting_29 dues_30 cost_31 rest_32 H locs ls hP hD hS hl hw
  refine lv_bipush (v := 63) hx hb dX5_weigh_86 (by decide) ?_
  refine lv_istore_n (lv' := [(2, .int 63), (0, .ref a_p)]) hx hb dX5_weigh_88 rfl hl (by decide) rfl (fun ls hl => ?_)
  obtain ⟨n0, hw⟩ := hw
  refine k_X5_weigh_L89 C0  n0 63 awaiting_29 dues_30 cost_31 rest_32 _ _ _ hP hD hS (lv_sub hl [1, 0] rfl) hw
/-! PramState$NursePlan.least()I -/
abbrev ww_X5_least (a_p a_p_dues a_p_cost a_p_rest : Nat) (cI cB cZ cP cC : ClassId) (awaiting : Int32) (rest : Nat → Int32) : va_W := [(a_p, .inr (5, [.ref a_p_dues, .ref a_p_cost, .ref a_p_rest, .int awaiting])), (a_p_rest, .inl (cI, 64, .inl rest))]
abbrev qq_X5_least (D : va_G) (a_p a_p_dues a_p_cost a_p_rest : Nat) (cI cB cZ cP cC : ClassId) (awaiting : Int32) (rest : Nat → Int32) (Post : Int32 → Prop) (A : Nat → Prop) : Array Value → State → Outcome → State → Prop := va_Qi (fun (r : Int32) (u : Unit) => Post r) (fun (u : Unit) t => mxB D (mxTy cI cB cZ cP cC) A (ww_X5_least a_p a_p_dues a_p_cost a_p_rest cI cB cZ cP cC awaiting rest) t) A
abbrev rm_X5_least : Room := { frames := 0, cells := 0, slots := 0, locals := 0 }
theorem hd_X5_least : yX5_least.cls = RX5 ∧ yX5_least.cls ≠ "java/lang/invoke/MethodHandle" ∧ yX5_least.cls ≠ "java/lang/invoke/VarHandle" ∧ (parseMethodDescriptor yX5_least.desc).map (fun d => d.parameters.length) = some 0 := by decide +kernel
def wp_X5_least (rest : Nat → Int32) (Post : Int32 → Prop) : Prop :=
  Post (rest 0)
set_option maxHeartbeats 4000000 in
set_option maxRecDepth 100000 in
theorem c_X5_least (l : Launch) (D : va_G) (cI cB cZ cP cC : ClassId) (a_p a_p_dues a_p_cost a_p_rest : Nat) (awaiting : Int32) (rest : Nat → Int32)  (sz : Nat) (Post : Int32 → Prop) (hw : wp_X5_least rest Post) :
    Met l yX5_least (Cond.code yX5_least cX5_least 1 (some .int) :: wsAll) rm_X5_least (va_Pc [.ref a_p] (mxP D (mxTy cI cB cZ cP cC) sz (ww_X5_least a_p a_p_dues a_p_cost a_p_rest cI cB cZ cP cC awaiting rest))) (qq_X5_least D a_p a_p_dues a_p_cost a_p_rest cI cB cZ cP cC awaiting rest Post (va_A (ww_X5_least a_p a_p_dues a_p_cost a_p_rest cI cB cZ cP cC awaiting rest) sz)) 0 0 (va_A (ww_X5_least a_p a_p_dues a_p_cost a_p_rest cI cB cZ cP cC awaiting rest) sz) := by
  refine mx_of (Qc := qq_X5_least D a_p a_p_dues a_p_cost a_p_rest cI cB cZ cP cC awaiting rest Post) (by decide) (Nat.le_of_ble_eq_true rfl) ?_
  intro p e s m bl meth c A ls C0 hP hD hS hl
  replace C0 : mxC p s m [.ref a_p].toArray meth c cX5_least RX5 (some .int) 1 D (mxTy cI cB cZ cP cC) A := C0
  obtain ⟨hx, hb, hr, hlocks, hml, hown, hts, hK, hA⟩ := id C0
  replace hl : lv_has ls 1 [(0, .ref a_p)] := hl
  unfold wp_X5_least at hw
  refine lv_aload_n hx hb dX5_least_0 rfl (lv_at hl 0 rfl) ?_
  refine mx_get (ci := 5) (C := RX5) (T := TX5) (N := 4) hx hb hown in_wsX50 hts hK hP 0 rfl rfl 2 (by decide) q_86 rfl (v := .ref a_p_rest) rfl dX5_least_1 ?_
  refine lv_iconst (v := 0) hx hb dX5_least_4 (by decide) ?_
  refine mx_iald hx hb hK hP 1 0 rfl rfl (mx_lit rfl) (rest 0) rfl dX5_least_5 ?_
  exact mx_iret () hx hb hr hlocks rfl hw hK hP hD hS dX5_least_6
/-! PramState$NursePlan.nurseOf(I)I -/
abbrev ww_X5_nurseOf (a_p a_p_dues a_p_cost a_p_rest : Nat) (cI cB cZ cP cC : ClassId) (awaiting : Int32) (dues : Nat → Int32) (cost : Nat → Int32) (rest : Nat → Int32) : va_W := [(a_p, .inr (5, [.ref a_p_dues, .ref a_p_cost, .ref a_p_rest, .int awaiting])), (a_p_dues, .inl (cI, 6, .inl dues)), (a_p_cost, .inl (cI, 36, .inl cost)), (a_p_rest, .inl (cI, 64, .inl rest))]
abbrev qq_X5_nurseOf (D : va_G) (a_p a_p_dues a_p_cost a_p_rest : Nat) (cI cB cZ cP cC : ClassId) (awaiting : Int32) (dues : Nat → Int32) (cost : Nat → Int32) (rest : Nat → Int32) (Post : Int32 → Prop) (A : Nat → Prop) : Array Value → State → Outcome → State → Prop := va_Qi (fun (r : Int32) (u : Unit) => Post r) (fun (u : Unit) t => mxB D (mxTy cI cB cZ cP cC) A (ww_X5_nurseOf a_p a_p_dues a_p_cost a_p_rest cI cB cZ cP cC awaiting dues cost rest) t) A
abbrev rm_X5_nurseOf : Room := { frames := 2, cells := 0, slots := 0, locals := 49 }
theorem hd_X5_nurseOf : yX5_nurseOf.cls = RX5 ∧ yX5_nurseOf.cls ≠ "java/lang/invoke/MethodHandle" ∧ yX5_nurseOf.cls ≠ "java/lang/invoke/VarHandle" ∧ (parseMethodDescriptor yX5_nurseOf.desc).map (fun d => d.parameters.length) = some 1 := by decide +kernel
def wp_X5_nurseOf_L4 (awaiting : Int32) (dues : Nat → Int32) (cost : Nat → Int32) (rest : Nat → Int32) (Post : Int32 → Prop)  : Nat → Int32 → Int32 → Int32 → Prop
  | 0, _, _, _ => False
  | n + 1, v1, v2, v3 => ((awaiting ≤ v3 → Post (-1)) ∧ (¬ awaiting ≤ v3 → (wp_X5_firstBest cost rest v3 v2 (fun r_2 => (vp_in v3 6 ∧ (((dues v3.toNatClampNeg) = v1 → Post r_2) ∧ (¬ (dues v3.toNatClampNeg) = v1 → (∀ x_5 : Int32, x_5 = v2 ||| (1 <<< (r_2 &&& 31)) → (∀ x_6 : Int32, x_6 = v3 + 1 → wp_X5_nurseOf_L4 awaiting dues cost rest Post  n v1 x_5 x_6)))))))))
set_option maxHeartbeats 4000000 in
set_option maxRecDepth 100000 in
theorem k_X5_nurseOf_L4 {p : Program} {l : Launch} {e : Env} {s : State} {m : MethodId} {ar : Array Value} {bl : List Frame} {meth : Method} {c : Code} {D : va_G} {A : Nat → Prop} {cI cB cZ cP cC : ClassId} {a_p a_p_dues a_p_cost a_p_rest : Nat} {awaiting : Int32} {dues : Nat → Int32} {cost : Nat → Int32} {rest : Nat → Int32} {Post : Int32 → Prop} (C0 : mxC p s m ar meth c cX5_nurseOf RX5 (some .int) 5 D (mxTy cI cB cZ cP cC) A) :
    ∀ (n : Nat) (v1 : Int32) (v2 : Int32) (v3 : Int32) (H : Heap) (locs : List Loc) (ls : Array Slot), va_P D vwCl (ww_X5_nurseOf a_p a_p_dues a_p_cost a_p_rest cI cB cZ cP cC awaiting dues cost rest) H → va_D A (ww_X5_nurseOf a_p a_p_dues a_p_cost a_p_rest cI cB cZ cP cC awaiting dues cost rest) → va_S A s.heap H locs → lv_has ls 5 [(0, .ref a_p), (1, .int v1), (2, .int v2), (3, .int v3)] → wp_X5_nurseOf_L4 awaiting dues cost rest Post  n v1 v2 v3 → W p l e rm_X5_nurseOf s m ar bl meth c H locs 0 0 (MQ bl (qq_X5_nurseOf D a_p a_p_dues a_p_cost a_p_rest cI cB cZ cP cC awaiting dues cost rest Post A) ar s 0 0 A) (F0 m 4 ls []) := by
  obtain ⟨hx, hb, hr, hlocks, hml, hown, hts, hK, hA⟩ := id C0
  intro n
  induction n with
  | zero =>
    intro v1 v2 v3 H locs ls hP hD hS hl hw
    exact absurd hw (fun h => h)
  | succ n ih =>
    intro v1 v2 v3 H locs ls hP hD hS hl hw
    refine lv_iload_n hx hb dX5_nurseOf_4 rfl (lv_at hl 3 rfl) ?_
    refine lv_aload_n hx hb dX5_nurseOf_5 rfl (lv_at hl 0 rfl) ?_
    refine mx_get (ci := 5) (C := RX5) (T := TX5) (N := 4) hx hb hown in_wsX50 hts hK hP 0 rfl rfl 3 (by decide) q_720 rfl (v := .int awaiting) rfl dX5_nurseOf_6 ?_
    refine lv_icmp_ge (tgt := 46) hx hb dX5_nurseOf_9 (by decide) (fun c_1 => ?_) (fun c_1 => ?_)
    · replace hw := hw.1 c_1
      refine lv_iconst (v := (-1)) hx hb dX5_nurseOf_46 (by decide) ?_
      exact mx_iret () hx hb hr hlocks rfl hw hK hP hD hS dX5_nurseOf_47
    · replace hw := hw.2 c_1
      refine lv_aload_n hx hb dX5_nurseOf_12 rfl (lv_at hl 0 rfl) ?_
      refine lv_iload_n hx hb dX5_nurseOf_13 rfl (lv_at hl 3 rfl) ?_
      refine lv_iload_n hx hb dX5_nurseOf_14 rfl (lv_at hl 2 rfl) ?_
      refine mx_ki (mx_rV (rm := rm_X5_firstBest) (rest := []) (C := RX5) hx hb hml hown hts (c_X5_firstBest l D cI cB cZ cP cC a_p a_p_dues a_p_cost a_p_rest awaiting cost rest v3 v2 _ _ hw) q_725 q_726 q_727 q_43 q_728 hd_X5_firstBest ⟨(Nat.le_of_ble_eq_true rfl), (Nat.le_of_ble_eq_true rfl)⟩ rfl rfl hK hP hD [0, 2, 3] rfl rfl 5 0 rfl rfl rfl rfl hl.1 rfl (Nat.le_of_ble_eq_true rfl) dX5_nurseOf_15 ⟨(Nat.le_of_ble_eq_true rfl), (Nat.le_of_ble_eq_true rfl)⟩) hP hD hS hA [0, 2, 3] [1] [1, 0, 2, 3] (fun _ => ww_X5_nurseOf a_p a_p_dues a_p_cost a_p_rest cI cB cZ cP cC awaiting dues cost rest) rfl rfl rfl (by decide) rfl (fun _ => rfl) (fun r_2 u H locs hw hP hD hS => ?_)
      try dsimp only at hw
      replace hP : va_P D vwCl (ww_X5_nurseOf a_p a_p_dues a_p_cost a_p_rest cI cB cZ cP cC awaiting dues cost rest) H := hP
      replace hD : va_D A (ww_X5_nurseOf a_p a_p_dues a_p_cost a_p_rest cI cB cZ cP cC awaiting dues cost rest) := hD
      refine lv_istore (lv' := [(4, .int r_2), (0, .ref a_p), (1, .int v1), (2, .int v2), (3, .int v3)]) hx hb dX5_nurseOf_18 hl (by decide) rfl (fun ls hl => ?_)
      refine lv_aload_n hx hb dX5_nurseOf_20 rfl (lv_at hl 1 rfl) ?_
      refine mx_get (ci := 5) (C := RX5) (T := TX5) (N := 4) hx hb hown in_wsX50 hts hK hP 0 rfl rfl 0 (by decide) q_84 rfl (v := .ref a_p_dues) rfl dX5_nurseOf_21 ?_
      refine lv_iload_n hx hb dX5_nurseOf_24 rfl (lv_at hl 4 rfl) ?_
      obtain ⟨h_3, hw⟩ := hw
      refine mx_iald hx hb hK hP 1 0 rfl rfl h_3 (dues v3.toNatClampNeg) rfl dX5_nurseOf_25 ?_
      refine lv_iload_n hx hb dX5_nurseOf_26 rfl (lv_at hl 2 rfl) ?_
      refine lv_icmp_ne (tgt := 33) hx hb dX5_nurseOf_27 (by decide) (fun c_4 => ?_) (fun c_4 => ?_)
      · replace hw := hw.2 c_4
        refine lv_iload_n hx hb dX5_nurseOf_33 rfl (lv_at hl 3 rfl) ?_
        refine lv_iconst (v := 1) hx hb dX5_nurseOf_34 (by decide) ?_
        refine lv_iload hx hb dX5_nurseOf_35 (lv_at hl 0 rfl) ?_
        refine lv_ishl hx hb dX5_nurseOf_37 ?_
        refine lv_ior hx hb dX5_nurseOf_38 ?_
        refine lv_topi (fun x_5 ex_5 => ?_)
        replace hw := hw x_5 ex_5
        refine lv_istore_n (lv' := [(2, .int x_5), (4, .int r_2), (0, .ref a_p), (1, .int v1), (3, .int v3)]) hx hb dX5_nurseOf_39 rfl hl (by decide) rfl (fun ls hl => ?_)
        obtain ⟨x_6, ex_6⟩ : ∃ y : Int32, y = v3 + 1 := ⟨_, rfl⟩
        replace hw := hw x_6 ex_6
        refine lv_iinc (v := x_6) (lv' := [(3, .int x_6), (2, .int x_5), (4, .int r_2), (0, .ref a_p), (1, .int v1)]) hx hb dX5_nurseOf_40 hl (k := 4) rfl (by rw [ex_6]; rfl) (by decide) rfl (fun ls hl => ?_)
        refine lv_goto (tgt := 4) hx hb dX5_nurseOf_43 (by decide) ?_
        exact ih v1 x_5 x_6 _ _ _ hP hD hS (lv_sub hl [3, 4, 1, 0] rfl) hw
      · replace hw := hw.1 c_4
        refine lv_iload hx hb dX5_nurseOf_30 (lv_at hl 0 rfl) ?_
        exact mx_iret () hx hb hr hlocks rfl hw hK hP hD hS dX5_nurseOf_32
def wp_X5_nurseOf (awaiting : Int32) (dues : Nat → Int32) (cost : Nat → Int32) (rest : Nat → Int32) (v1 : Int32) (Post : Int32 → Prop) : Prop :=
  (∃ k_7 : Nat, wp_X5_nurseOf_L4 awaiting dues cost rest Post k_7 v1 0 0)
set_option maxHeartbeats 4000000 in
set_option maxRecDepth 100000 in
theorem c_X5_nurseOf (l : Launch) (D : va_G) (cI cB cZ cP cC : ClassId) (a_p a_p_dues a_p_cost a_p_rest : Nat) (awaiting : Int32) (dues : Nat → Int32) (cost : Nat → Int32) (rest : Nat → Int32) (v1 : Int32) (sz : Nat) (Post : Int32 → Prop) (hw : wp_X5_nurseOf awaiting dues cost rest v1 Post) :
    Met l yX5_nurseOf (Cond.code yX5_nurseOf cX5_nurseOf 5 (some .int) :: wsAll) rm_X5_nurseOf (va_Pc [.ref a_p, .int v1] (mxP D (mxTy cI cB cZ cP cC) sz (ww_X5_nurseOf a_p a_p_dues a_p_cost a_p_rest cI cB cZ cP cC awaiting dues cost rest))) (qq_X5_nurseOf D a_p a_p_dues a_p_cost a_p_rest cI cB cZ cP cC awaiting dues cost rest Post (va_A (ww_X5_nurseOf a_p a_p_dues a_p_cost a_p_rest cI cB cZ cP cC awaiting dues cost rest) sz)) 0 0 (va_A (ww_X5_nurseOf a_p a_p_dues a_p_cost a_p_rest cI cB cZ cP cC awaiting dues cost rest) sz) := by
  refine mx_of (Qc := qq_X5_nurseOf D a_p a_p_dues a_p_cost a_p_rest cI cB cZ cP cC awaiting dues cost rest Post) (by decide) (Nat.le_of_ble_eq_true rfl) ?_
  intro p e s m bl meth c A ls C0 hP hD hS hl
  replace C0 : mxC p s m [.ref a_p, .int v1].toArray meth c cX5_nurseOf RX5 (some .int) 5 D (mxTy cI cB cZ cP cC) A := C0
  obtain ⟨hx, hb, hr, hlocks, hml, hown, hts, hK, hA⟩ := id C0
  replace hl : lv_has ls 5 [(0, .ref a_p), (1, .int v1)] := hl
  unfold wp_X5_nurseOf at hw
  refine lv_iconst (v := 0) hx hb dX5_nurseOf_0 (by decide) ?_
  refine lv_istore_n (lv' := [(2, .int 0), (0, .ref a_p), (1, .int v1)]) hx hb dX5_nurseOf_1 rfl hl (by decide) rfl (fun ls hl => ?_)
  refine lv_iconst (v := 0) hx hb dX5_nurseOf_2 (by decide) ?_
  refine lv_istore_n (lv' := [(3, .int 0), (2, .int 0), (0, .ref a_p), (1, .int v1)]) hx hb dX5_nurseOf_3 rfl hl (by decide) rfl (fun ls hl => ?_)
  obtain ⟨n0, hw⟩ := hw
  refine k_X5_nurseOf_L4 C0  n0 v1 0 0 _ _ _ hP hD hS (lv_sub hl [2, 3, 1, 0] rfl) hw
