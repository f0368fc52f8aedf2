/-! The four String constants and the JDK's members over them. -/
abbrev stLen : List Nat := [5, 6, 5, 5]
abbrev stByt : List (List Int32) := [[99, 111, 117, 114, 116], [105, 110, 102, 97, 110, 116], [115, 107, 105, 108, 108], [110, 117, 114, 115, 101]]
abbrev stIx : List Nat := [47, 56, 61, 66]
abbrev stTx : List String := ["court", "infant", "skill", "nurse"]
def stX (adK adV : Nat → Nat) (A : Nat → Prop) (U : State) : Prop :=
  vk_S 4 stLen stByt adK adV A U U.heap ∧ va_Z "java/lang/String" "COMPACT_STRINGS" "Z" (.int 1) A U U.heap ∧ va_Zq "jdk/internal/util/Preconditions" "SIOOBE_FORMATTER" "Ljava/util/function/BiFunction;" A U U.heap ∧ ∀ i, i < 4 → vk_R RX2 (stIx.getD i 0) (stTx.getD i "") (adK i) U
theorem stX_at {adK adV : Nat → Nat} {A B : Nat → Prop} {s U : State} {H : Heap} {locs : List Loc} (h : stX adK adV A s) (hS : va_S A s.heap H locs) (hAB : ∀ q, B q → A q) (hU : U.heap = H) (hW : s.WarmedH U.vm) : stX adK adV B U := by
  obtain ⟨h1, h2, h3, h4⟩ := h
  refine ⟨?_, ?_, ?_, fun i hi => (h4 i hi).warm hW⟩
  · rw [hU]; exact ((h1.kept hS.2.1).moved hW.alike).narrow hAB
  · rw [hU]; exact (va_Z.moved hW.alike (h2.kept hS.2.1)).narrow hAB
  · rw [hU]; exact (va_Zq.moved hW.alike (h3.kept hS.2.1)).narrow hAB
theorem stX_calling {adK adV : Nat → Nat} {A : Nat → Prop} {U : State} {g : JFrame} {mk : MethodId} {a : Array Value} (h : stX adK adV A U) : stX adK adV A (U.calling g mk a) := by
  obtain ⟨h1, h2, h3, h4⟩ := h
  exact ⟨h1.moved (U := U.calling g mk a) (Vm.Alike.refl U.vm), va_Z.moved (U := U.calling g mk a) (Vm.Alike.refl U.vm) h2, va_Zq.moved (U := U.calling g mk a) (Vm.Alike.refl U.vm) h3, fun i hi => (h4 i hi).same (U := U.calling g mk a) rfl⟩
abbrev mxPX (D : va_G) (tys : mxT) (sz : Nat) (ws : va_W) (adK adV : Nat → Nat) : State → Prop := fun U => U.heap.size = sz ∧ va_P D vwCl ws U.heap ∧ va_K D vwCl tys U ∧ va_D (fun _ => True) ws ∧ stX adK adV (va_A ws sz) U
theorem mx_ofX {l : Launch} {y : MethodName} {cc : ByteArray} {maxL : Nat} {ret : Option FieldType} {rm : Room} {D : va_G} {tys : mxT} {av : List Value} {sz : Nat} {ws : va_W} {adK adV : Nat → Nat} {Qc : (Nat → Prop) → Array Value → State → Outcome → State → Prop} (hy : plainName y.cls = true) (hlen : (lg_sl av).length ≤ maxL)
    (body : ∀ (p : Program) (e : Env) (s : State) (m : MethodId) (below : List Frame) (meth : Method) (c : Code) (A : Nat → Prop) (ls : Array Slot), mxC p s m av.toArray meth c cc y.cls ret maxL D tys A → stX adK adV A s → va_P D vwCl ws s.heap → va_D A ws → va_S A s.heap s.heap [] → lv_has ls maxL (lv_args 0 av) → W p l e rm s m av.toArray below meth c s.heap [] 0 0 (MQ below (Qc A) av.toArray s 0 0 A) (F0 m 0 ls [])) :
    Met l y (Cond.code y cc maxL ret :: wsAll) rm (va_Pc av (mxPX D tys sz ws adK adV)) (Qc (va_A ws sz)) 0 0 (va_A ws sz) := by
  refine Met.ofW (cc := cc) (maxL := maxL) (ret := ret) hy rfl ?_
  intro p e s m args below meth c s₁ B hml hv
  obtain ⟨rfl, hsz, hP, hK, hD0, hX⟩ := hv
  have hts := atoms_spec (ws := Cond.code y cc maxL ret :: wsAll) B.pre
  have hown : s.vm.findClass y.cls = some m.cls := findClass_of_methodNamed B.named
  subst hsz
  have hD := hD0.self (sz := s.heap.size)
  have hl := lv_entry av (n := maxL) hlen
  rw [lg_entry_eq]
  exact body p e s m below meth c _ _ ⟨B.exec, B.bytes, B.returns, B.notSynchronized, hml, hown, fun w hw => hts w (List.mem_cons_of_mem _ hw), hK, fun q h => Or.inr h⟩ hX hP hD va_S.rf hl
section MXX
variable {p : Program} {l : Launch} {e : Env} {R : Room} {s : State} {m : MethodId} {args : Array Value} {below : List Frame} {meth : Method} {c : Code} {H : Heap} {locs : List Loc} {cells slots : Nat}
variable {cc : ByteArray} {pc : Nat} {ls : Array Slot} {rest : List Value} {D : va_G} {tys : mxT} {ws : va_W} {A : Nat → Prop} {adK adV : Nat → Nat}
variable {y : MethodName} {bytes : ByteArray} {maxL nL n index : Nat} {ret : Option FieldType} {rm : Room} {own C : String} {b : Addr} {As : List Value} {wc : va_W} {Qc : Array Value → State → Outcome → State → Prop}
theorem mx_blindX {av : List Value} {sz : Nat} : FrameBlind (va_Pc av (mxPX D tys sz wc adK adV)) := fun a U g mk q => by
  obtain ⟨q0, q1, qP, qK, qD, qX⟩ := q
  exact ⟨q0, q1, qP, va_K.moved (u := U) (U := U.calling g mk a) (Vm.Alike.refl U.vm) qK, qD, stX_calling qX⟩
theorem mx_preX {av : List Value} (hX : stX adK adV A s) (hS : va_S A s.heap H locs) (hA : ∀ q, s.heap.size ≤ q → A q) (hK : va_K D vwCl tys s) (hP : va_P D vwCl ws H) (hD : va_D A ws) (isC : List Nat) (hC : isC.map (fun i => ws[i]?) = wc.map some) (hnC : va_nd isC = true) : ∀ U : State, U.heap = H → s.WarmedH U.vm → va_Pc av (mxPX D tys H.size wc adK adV) av.toArray U :=
  fun U hU hW => ⟨rfl, by rw [hU], by rw [hU]; exact hP.sub isC (mx_fm hC), va_K.moved hW.alike hK, (hD.sub isC hnC hC).weaken (fun _ _ _ _ => trivial), stX_at hX hS (va_free hD hS hA isC hC) hU hW⟩
theorem mx_rVX (hx : p.tables.exec = Jvm.exec) (hb : c.code = cc) (hml : c.maxLocals = nL) (hown : s.vm.findClass own = some m.cls) (hts : ∀ w ∈ wsAll, w.before args s = true) (hX : stX adK adV A s) (hS : va_S A s.heap H locs) (hA : ∀ q, s.heap.size ≤ q → A q) (hM : Met l y (Cond.code y bytes maxL ret :: wsAll) rm (va_Pc (.ref b :: As) (mxPX D tys H.size wc adK adV)) Qc 0 0 (va_A wc H.size))
    (h1 : Cond.methodLink own index y ∈ wsAll) (h2 : Cond.instanceMethod y ∈ wsAll) (h3 : Cond.selects C y y ∈ wsAll) (h4 : Cond.initialized C ∈ wsAll) (h5 : Cond.code y bytes maxL ret ∈ wsAll) (hd : y.cls = C ∧ y.cls ≠ "java/lang/invoke/MethodHandle" ∧ y.cls ≠ "java/lang/invoke/VarHandle" ∧ (parseMethodDescriptor y.desc).map (fun d => d.parameters.length) = some n) (hR : rm.frames + 1 ≤ R.frames ∧ 8 + (maxL + 11) + rm.locals ≤ R.locals) (hrc : rm.cells = 0) (hrs : rm.slots = 0)
    (hK : va_K D vwCl tys s) (hP : va_P D vwCl ws H) (hD : va_D A ws) (isC : List Nat) (hC : isC.map (fun i => ws[i]?) = wc.map some) (hnC : va_nd isC = true) (hrv : ∃ cell : Cell, H[b]? = some cell ∧ cell.vm.isStatics = false ∧ s.vm.findClass C = some cell.cls) (hn : As.length = n) (hl : ls.size = nL) {st0 : List Value} (hst : st0 = As.reverse ++ .ref b :: rest) (hroom : (rest.map fun v => v.category).sum ≤ 8) (hdg : decode cc pc = .ok (.invokevirtual index, 3)) (hcs : cells ≤ R.cells ∧ slots ≤ R.slots) :
    va_Run p l e R s m args below meth c H locs cells slots 0 0 (F0 m pc ls st0) rest (Qc (Value.ref b :: As).toArray) (va_A wc H.size) :=
  va_runV (As := As) (rest := rest) ⟨hx, hb, hml, hown, hts⟩ hM (cwV n hts (mx_goodL (fun w hw => by simp only [List.mem_cons, List.not_mem_nil, or_false] at hw; rcases hw with rfl | rfl | rfl | rfl <;> assumption) (mx_goodC h5)) rfl hrc hrs hd hR) ⟨mx_blindX, hrv, mx_preX hX hS hA hK hP hD isC hC hnC⟩ rfl hn hl hst (lv_room hroom) hdg hcs
theorem mx_rSX (hx : p.tables.exec = Jvm.exec) (hb : c.code = cc) (hml : c.maxLocals = nL) (hown : s.vm.findClass own = some m.cls) (hts : ∀ w ∈ wsAll, w.before args s = true) (hX : stX adK adV A s) (hS : va_S A s.heap H locs) (hA : ∀ q, s.heap.size ≤ q → A q) (hM : Met l y (Cond.code y bytes maxL ret :: wsAll) rm (va_Pc As (mxPX D tys H.size wc adK adV)) Qc 0 0 (va_A wc H.size))
    (h1 : Cond.methodLink own index y ∈ wsAll) (h2 : Cond.static y ∈ wsAll) (h4 : Cond.initialized y.cls ∈ wsAll) (h5 : Cond.code y bytes maxL ret ∈ wsAll) (hd : y.cls ≠ "java/lang/invoke/MethodHandle" ∧ y.cls ≠ "java/lang/invoke/VarHandle" ∧ (parseMethodDescriptor y.desc).map (fun d => d.parameters.length) = some n) (hR : rm.frames + 1 ≤ R.frames ∧ 8 + (maxL + 11) + rm.locals ≤ R.locals) (hrc : rm.cells = 0) (hrs : rm.slots = 0)
    (hK : va_K D vwCl tys s) (hP : va_P D vwCl ws H) (hD : va_D A ws) (isC : List Nat) (hC : isC.map (fun i => ws[i]?) = wc.map some) (hnC : va_nd isC = true) (hn : As.length = n) (hl : ls.size = nL) {st0 : List Value} (hst : st0 = As.reverse ++ rest) (hroom : (rest.map fun v => v.category).sum ≤ 8) (hdg : decode cc pc = .ok (.invokestatic index, 3)) (hcs : cells ≤ R.cells ∧ slots ≤ R.slots) :
    va_Run p l e R s m args below meth c H locs cells slots 0 0 (F0 m pc ls st0) rest (Qc As.toArray) (va_A wc H.size) :=
  va_runS (As := As) (rest := rest) ⟨hx, hb, hml, hown, hts⟩ hM (va_cwS n hts (mx_goodL (fun w hw => by simp only [List.mem_cons, List.not_mem_nil, or_false] at hw; rcases hw with rfl | rfl | rfl <;> assumption) (mx_goodC h5)) rfl hrc hrs hd hR) ⟨mx_blindX, mx_preX hX hS hA hK hP hD isC hC hnC⟩ rfl hn hl hst (lv_room hroom) hdg hcs
end MXX
/-- a contract over the String constants alone, with a number as its answer -/
abbrev qqS (D : va_G) (cI cB cZ cP cC : ClassId) (Post : Int32 → Prop) (A : Nat → Prop) : Array Value → State → Outcome → State → Prop := va_Qi (fun (r : Int32) (_ : Unit) => Post r) (fun (_ : Unit) t => mxB D (mxTy cI cB cZ cP cC) A [] t) A
abbrev qqSv (D : va_G) (cI cB cZ cP cC : ClassId) (Post : Prop) (A : Nat → Prop) : Array Value → State → Outcome → State → Prop := va_Qv (fun (_ : Unit) => Post) (fun (_ : Unit) t => mxB D (mxTy cI cB cZ cP cC) A [] t) A
abbrev rm_J0 : Room := { frames := 0, cells := 0, slots := 0, locals := 0 }
abbrev rm_J0_length : Room := { frames := 1, cells := 0, slots := 0, locals := 20 }
abbrev rm_J0_checkIndex : Room := { frames := 1, cells := 0, slots := 0, locals := 22 }
abbrev rm_J1_charAt : Room := { frames := 2, cells := 0, slots := 0, locals := 43 }
abbrev rm_J0_charAt : Room := { frames := 3, cells := 0, slots := 0, locals := 64 }
set_option maxHeartbeats 4000000 in
theorem c_J0_coder (l : Launch) (D : va_G) (cI cB cZ cP cC : ClassId) (adK adV : Nat → Nat) (i : Nat) (hi : i < 4) (sz : Nat) (Post : Int32 → Prop) (hw : Post 0) :
    Met l yJ0_coder_7d493 (Cond.code yJ0_coder_7d493 cJ0_coder_7d493 1 (some .byte) :: wsAll) rm_J0 (va_Pc [.ref (adK i)] (mxPX D (mxTy cI cB cZ cP cC) sz [] adK adV)) (qqS D cI cB cZ cP cC Post (va_A [] sz)) 0 0 (va_A [] sz) := by
  refine mx_ofX (Qc := qqS D cI cB cZ cP cC Post) (by decide) (Nat.le_of_ble_eq_true rfl) ?_
  intro p e s m bl meth c A ls C0 hX hP hD hS hl
  replace C0 : mxC p s m [.ref (adK i)].toArray meth c cJ0_coder_7d493 RJ0 (some .byte) 1 D (mxTy cI cB cZ cP cC) A := C0
  obtain ⟨hx, hb, hr, hlocks, hml, hown, hts, hK, hA⟩ := id C0
  replace hl : lv_has ls 1 [(0, .ref (adK i))] := hl
  refine va_gets hx hb hX.2.1 hS hown (hts _ q_258) (fun _ h => h) dJ0_coder_7d493_0 ?_
  refine lv_if_eq (tgt := 13) hx hb dJ0_coder_7d493_3 (by decide) (fun c_1 => absurd c_1 (by decide)) (fun c_1 => ?_)
  refine lv_aload_n hx hb dJ0_coder_7d493_6 rfl (lv_at hl 0 rfl) ?_
  refine vk_getf hx hb (hX.1.1 i hi).2.1 hS hown (hts _ q_259) (fun _ h => h) dJ0_coder_7d493_7 ?_
  refine lv_goto (tgt := 14) hx hb dJ0_coder_7d493_10 (by decide) ?_
  exact mx_iret () hx hb hr hlocks rfl hw hK hP hD hS dJ0_coder_7d493_14
set_option maxHeartbeats 4000000 in
theorem c_J0_isLatin1 (l : Launch) (D : va_G) (cI cB cZ cP cC : ClassId) (adK adV : Nat → Nat) (i : Nat) (hi : i < 4) (sz : Nat) (Post : Int32 → Prop) (hw : Post 1) :
    Met l yJ0_isLatin1_aae02 (Cond.code yJ0_isLatin1_aae02 cJ0_isLatin1_aae02 1 (some .boolean) :: wsAll) rm_J0 (va_Pc [.ref (adK i)] (mxPX D (mxTy cI cB cZ cP cC) sz [] adK adV)) (qqS D cI cB cZ cP cC Post (va_A [] sz)) 0 0 (va_A [] sz) := by
  refine mx_ofX (Qc := qqS D cI cB cZ cP cC Post) (by decide) (Nat.le_of_ble_eq_true rfl) ?_
  intro p e s m bl meth c A ls C0 hX hP hD hS hl
  replace C0 : mxC p s m [.ref (adK i)].toArray meth c cJ0_isLatin1_aae02 RJ0 (some .boolean) 1 D (mxTy cI cB cZ cP cC) A := C0
  obtain ⟨hx, hb, hr, hlocks, hml, hown, hts, hK, hA⟩ := id C0
  replace hl : lv_has ls 1 [(0, .ref (adK i))] := hl
  refine va_gets hx hb hX.2.1 hS hown (hts _ q_258) (fun _ h => h) dJ0_isLatin1_aae02_0 ?_
  refine lv_if_eq (tgt := 17) hx hb dJ0_isLatin1_aae02_3 (by decide) (fun c_1 => absurd c_1 (by decide)) (fun c_1 => ?_)
  refine lv_aload_n hx hb dJ0_isLatin1_aae02_6 rfl (lv_at hl 0 rfl) ?_
  refine vk_getf hx hb (hX.1.1 i hi).2.1 hS hown (hts _ q_259) (fun _ h => h) dJ0_isLatin1_aae02_7 ?_
  refine lv_if_ne (tgt := 17) hx hb dJ0_isLatin1_aae02_10 (by decide) (fun c_1 => absurd rfl c_1) (fun c_1 => ?_)
  refine lv_iconst (v := 1) hx hb dJ0_isLatin1_aae02_13 (by decide) ?_
  refine lv_goto (tgt := 18) hx hb dJ0_isLatin1_aae02_14 (by decide) ?_
  exact mx_iret () hx hb hr hlocks rfl hw hK hP hD hS dJ0_isLatin1_aae02_18
theorem hd_J0_coder : yJ0_coder_7d493.cls = RJ0 ∧ yJ0_coder_7d493.cls ≠ "java/lang/invoke/MethodHandle" ∧ yJ0_coder_7d493.cls ≠ "java/lang/invoke/VarHandle" ∧ (parseMethodDescriptor yJ0_coder_7d493.desc).map (fun d => d.parameters.length) = some 0 := by decide +kernel
theorem hd_J0_isLatin1 : yJ0_isLatin1_aae02.cls = RJ0 ∧ yJ0_isLatin1_aae02.cls ≠ "java/lang/invoke/MethodHandle" ∧ yJ0_isLatin1_aae02.cls ≠ "java/lang/invoke/VarHandle" ∧ (parseMethodDescriptor yJ0_isLatin1_aae02.desc).map (fun d => d.parameters.length) = some 0 := by decide +kernel
theorem hd_J0_length : yJ0_length_8abf5.cls = RJ0 ∧ yJ0_length_8abf5.cls ≠ "java/lang/invoke/MethodHandle" ∧ yJ0_length_8abf5.cls ≠ "java/lang/invoke/VarHandle" ∧ (parseMethodDescriptor yJ0_length_8abf5.desc).map (fun d => d.parameters.length) = some 0 := by decide +kernel
theorem hd_J0_charAt : yJ0_charAt_5068e.cls = RJ0 ∧ yJ0_charAt_5068e.cls ≠ "java/lang/invoke/MethodHandle" ∧ yJ0_charAt_5068e.cls ≠ "java/lang/invoke/VarHandle" ∧ (parseMethodDescriptor yJ0_charAt_5068e.desc).map (fun d => d.parameters.length) = some 1 := by decide +kernel
theorem hd_J1_charAt : yJ1_charAt_3b067.cls ≠ "java/lang/invoke/MethodHandle" ∧ yJ1_charAt_3b067.cls ≠ "java/lang/invoke/VarHandle" ∧ (parseMethodDescriptor yJ1_charAt_3b067.desc).map (fun d => d.parameters.length) = some 2 := by decide +kernel
theorem hd_J0_checkIndex : yJ0_checkIndex_df160.cls ≠ "java/lang/invoke/MethodHandle" ∧ yJ0_checkIndex_df160.cls ≠ "java/lang/invoke/VarHandle" ∧ (parseMethodDescriptor yJ0_checkIndex_df160.desc).map (fun d => d.parameters.length) = some 2 := by decide +kernel
theorem hd_J3_checkIndex : yJ3_checkIndex_8e157.cls ≠ "java/lang/invoke/MethodHandle" ∧ yJ3_checkIndex_8e157.cls ≠ "java/lang/invoke/VarHandle" ∧ (parseMethodDescriptor yJ3_checkIndex_8e157.desc).map (fun d => d.parameters.length) = some 3 := by decide +kernel
theorem st_len : ∀ i, i < 4 → (nI (stLen.getD i 0)) >>> ((0 : Int32) &&& 31) = nI (stLen.getD i 0) := by decide +kernel
set_option maxHeartbeats 4000000 in
theorem c_J0_length (l : Launch) (D : va_G) (cI cB cZ cP cC : ClassId) (adK adV : Nat → Nat) (i : Nat) (hi : i < 4) (sz : Nat) (Post : Int32 → Prop) (hw : Post (nI (stLen.getD i 0))) :
    Met l yJ0_length_8abf5 (Cond.code yJ0_length_8abf5 cJ0_length_8abf5 1 (some .int) :: wsAll) rm_J0_length (va_Pc [.ref (adK i)] (mxPX D (mxTy cI cB cZ cP cC) sz [] adK adV)) (qqS D cI cB cZ cP cC Post (va_A [] sz)) 0 0 (va_A [] sz) := by
  refine mx_ofX (Qc := qqS D cI cB cZ cP cC Post) (by decide) (Nat.le_of_ble_eq_true rfl) ?_
  intro p e s m bl meth c A ls C0 hX hP hD hS hl
  replace C0 : mxC p s m [.ref (adK i)].toArray meth c cJ0_length_8abf5 RJ0 (some .int) 1 D (mxTy cI cB cZ cP cC) A := C0
  obtain ⟨hx, hb, hr, hlocks, hml, hown, hts, hK, hA⟩ := id C0
  replace hl : lv_has ls 1 [(0, .ref (adK i))] := hl
  refine lv_aload_n hx hb dJ0_length_8abf5_0 rfl (lv_at hl 0 rfl) ?_
  refine vk_getf hx hb (hX.1.1 i hi).2.2.1 hS hown (hts _ q_253) (fun _ h => h) dJ0_length_8abf5_1 ?_
  refine va_tlen hx hb (hX.1.1 i hi).2.2.2 hS (v := nI (stLen.getD i 0)) rfl dJ0_length_8abf5_4 ?_
  refine lv_aload_n hx hb dJ0_length_8abf5_5 rfl (lv_at hl 0 rfl) ?_
  refine mx_ki (wc := []) (ws := []) (w1 := fun _ => []) (mx_rVX (rm := rm_J0) (rest := [.int (nI (stLen.getD i 0))]) (C := RJ0) (wc := []) (ws := []) hx hb hml hown hts hX hS hA (c_J0_coder l D cI cB cZ cP cC adK adV i hi _ (fun r => r = 0) rfl) q_254 q_255 q_256 q_251 q_257 hd_J0_coder ⟨Nat.le_of_ble_eq_true rfl, Nat.le_of_ble_eq_true rfl⟩ rfl rfl hK hP hD [] rfl rfl (vk_recv hX.1 hi hS) rfl hl.1 rfl (Nat.le_of_ble_eq_true rfl) dJ0_length_8abf5_6 ⟨Nat.le_of_ble_eq_true rfl, Nat.le_of_ble_eq_true rfl⟩) hP hD hS hA [] [] [] (fun _ => []) rfl rfl rfl (by decide) rfl (fun _ => rfl) (fun r u H locs hr0 hP hD hS => ?_)
  subst hr0
  refine lv_ishr hx hb dJ0_length_8abf5_9 ?_
  refine W.eq (g2 := F0 m 10 ls [.int (nI (stLen.getD i 0))]) (by rw [st_len i hi]) ?_
  exact mx_iret () hx hb hr hlocks rfl hw hK hP hD hS dJ0_length_8abf5_10
set_option maxHeartbeats 4000000 in
theorem c_J3_checkIndex (l : Launch) (D : va_G) (cI cB cZ cP cC : ClassId) (adK adV : Nat → Nat) (x n : Int32) (v : Value) (hv : v = .null ∨ ∃ t, v = .ref t) (h0 : ¬ x < 0) (hn : x < n) (sz : Nat) (Post : Int32 → Prop) (hw : Post x) :
    Met l yJ3_checkIndex_8e157 (Cond.code yJ3_checkIndex_8e157 cJ3_checkIndex_8e157 3 (some .int) :: wsAll) rm_J0 (va_Pc [.int x, .int n, v] (mxPX D (mxTy cI cB cZ cP cC) sz [] adK adV)) (qqS D cI cB cZ cP cC Post (va_A [] sz)) 0 0 (va_A [] sz) := by
  rcases hv with rfl | ⟨t, rfl⟩ <;>
  · refine mx_ofX (Qc := qqS D cI cB cZ cP cC Post) (by decide) (Nat.le_of_ble_eq_true rfl) ?_
    intro p e s m bl meth c A ls C0 hX hP hD hS hl
    obtain ⟨hx, hb, hr, hlocks, hml, hown, hts, hK, hA⟩ := id C0
    refine lv_iload_n (x := x) hx hb dJ3_checkIndex_8e157_0 rfl (lv_at hl 0 rfl) ?_
    refine lv_if_lt (tgt := 9) hx hb dJ3_checkIndex_8e157_1 (by decide) (fun c_1 => absurd c_1 h0) (fun c_1 => ?_)
    refine lv_iload_n (x := x) hx hb dJ3_checkIndex_8e157_4 rfl (lv_at hl 0 rfl) ?_
    refine lv_iload_n (x := n) hx hb dJ3_checkIndex_8e157_5 rfl (lv_at hl 1 rfl) ?_
    refine lv_icmp_lt (tgt := 16) hx hb dJ3_checkIndex_8e157_6 (by decide) (fun c_1 => ?_) (fun c_1 => absurd hn c_1)
    refine lv_iload_n (x := x) hx hb dJ3_checkIndex_8e157_16 rfl (lv_at hl 0 rfl) ?_
    exact mx_iret () hx hb hr hlocks rfl hw hK hP hD hS dJ3_checkIndex_8e157_17
set_option maxHeartbeats 4000000 in
theorem c_J0_checkIndex (l : Launch) (D : va_G) (cI cB cZ cP cC : ClassId) (adK adV : Nat → Nat) (x n : Int32) (h0 : ¬ x < 0) (hn : x < n) (sz : Nat) (Post : Prop) (hw : Post) :
    Met l yJ0_checkIndex_df160 (Cond.code yJ0_checkIndex_df160 cJ0_checkIndex_df160 2 none :: wsAll) rm_J0_checkIndex (va_Pc [.int x, .int n] (mxPX D (mxTy cI cB cZ cP cC) sz [] adK adV)) (qqSv D cI cB cZ cP cC Post (va_A [] sz)) 0 0 (va_A [] sz) := by
  refine mx_ofX (Qc := qqSv D cI cB cZ cP cC Post) (by decide) (Nat.le_of_ble_eq_true rfl) ?_
  intro p e s m bl meth c A ls C0 hX hP hD hS hl
  replace C0 : mxC p s m [.int x, .int n].toArray meth c cJ0_checkIndex_df160 RJ0 none 2 D (mxTy cI cB cZ cP cC) A := C0
  obtain ⟨hx, hb, hr, hlocks, hml, hown, hts, hK, hA⟩ := id C0
  replace hl : lv_has ls 2 [(0, .int x), (1, .int n)] := hl
  refine lv_iload_n hx hb dJ0_checkIndex_df160_0 rfl (lv_at hl 0 rfl) ?_
  refine lv_iload_n hx hb dJ0_checkIndex_df160_1 rfl (lv_at hl 1 rfl) ?_
  have go : ∀ v : Value, (v = .null ∨ ∃ t, v = .ref t) → W p l e rm_J0_checkIndex s m [.int x, .int n].toArray bl meth c s.heap [] 0 0 (MQ bl (qqSv D cI cB cZ cP cC Post A) [.int x, .int n].toArray s 0 0 A) (F0 m 5 ls [v, .int n, .int x]) := by
    intro v hv
    refine mx_ki (wc := []) (ws := []) (w1 := fun _ => []) (mx_rSX (rm := rm_J0) (rest := []) (wc := []) (ws := []) (As := [.int x, .int n, v]) hx hb hml hown hts hX hS hA (c_J3_checkIndex l D cI cB cZ cP cC adK adV x n v hv h0 hn _ (fun _ => True) trivial) q_276 q_277 q_278 q_279 hd_J3_checkIndex ⟨Nat.le_of_ble_eq_true rfl, Nat.le_of_ble_eq_true rfl⟩ rfl rfl hK hP hD [] rfl rfl rfl hl.1 rfl (Nat.le_of_ble_eq_true rfl) dJ0_checkIndex_df160_5 ⟨Nat.le_of_ble_eq_true rfl, Nat.le_of_ble_eq_true rfl⟩) hP hD hS hA [] [] [] (fun _ => []) rfl rfl rfl (by decide) rfl (fun _ => rfl) (fun r u H locs hr0 hP hD hS => ?_)
    refine lv_pop hx hb dJ0_checkIndex_df160_8 rfl ?_
    exact mx_vret () hx hb hr hlocks hw hK hP hD hS dJ0_checkIndex_df160_9
  rcases hX.2.2.1 with h | ⟨t, h⟩
  · exact va_gets hx hb h hS hown (hts _ q_275) (fun _ h => h) dJ0_checkIndex_df160_2 (go _ (Or.inl rfl))
  · exact va_gets hx hb h hS hown (hts _ q_275) (fun _ h => h) dJ0_checkIndex_df160_2 (go _ (Or.inr ⟨t, rfl⟩))
/-- the sign at a place of a constant -/
def stCh (i : Nat) (x : Int32) : Int32 := (stByt.getD i []).getD x.toNatClampNeg 0
theorem st_ch : ∀ i, i < 4 → ∀ j, j < stLen.getD i 0 → (((stByt.getD i []).getD j 0 &&& 255).toUInt32 % 65536).toInt32 = (stByt.getD i []).getD j 0 ∧ narrow .char (.int ((stByt.getD i []).getD j 0)) = .int ((stByt.getD i []).getD j 0) := by decide +kernel
theorem st_lt : ∀ i, i < 4 → stLen.getD i 0 < 10 := by decide
theorem st_in {i : Nat} (hi : i < 4) {x : Int32} (h : vp_in x (stLen.getD i 0)) : ¬ x < 0 ∧ x < nI (stLen.getD i 0) := by
  have hL := st_lt i hi
  obtain ⟨j, hj, rfl⟩ := vp_in_of h (by omega)
  exact ⟨nI_pos (by omega), nI_lt hj (by omega)⟩
set_option maxHeartbeats 4000000 in
theorem c_J1_charAt (l : Launch) (D : va_G) (cI cB cZ cP cC : ClassId) (adK adV : Nat → Nat) (i : Nat) (hi : i < 4) (x : Int32) (hin : vp_in x (stLen.getD i 0)) (sz : Nat) (Post : Int32 → Prop) (hw : Post (stCh i x)) :
    Met l yJ1_charAt_3b067 (Cond.code yJ1_charAt_3b067 cJ1_charAt_3b067 2 (some .char) :: wsAll) rm_J1_charAt (va_Pc [.ref (adV i), .int x] (mxPX D (mxTy cI cB cZ cP cC) sz [] adK adV)) (qqS D cI cB cZ cP cC Post (va_A [] sz)) 0 0 (va_A [] sz) := by
  refine mx_ofX (Qc := qqS D cI cB cZ cP cC Post) (by decide) (Nat.le_of_ble_eq_true rfl) ?_
  intro p e s m bl meth c A ls C0 hX hP hD hS hl
  replace C0 : mxC p s m [.ref (adV i), .int x].toArray meth c cJ1_charAt_3b067 RJ1 (some .char) 2 D (mxTy cI cB cZ cP cC) A := C0
  obtain ⟨hx, hb, hr, hlocks, hml, hown, hts, hK, hA⟩ := id C0
  replace hl : lv_has ls 2 [(0, .ref (adV i)), (1, .int x)] := hl
  refine lv_iload_n hx hb dJ1_charAt_3b067_0 rfl (lv_at hl 1 rfl) ?_
  refine lv_aload_n hx hb dJ1_charAt_3b067_1 rfl (lv_at hl 0 rfl) ?_
  refine va_tlen hx hb (hX.1.1 i hi).2.2.2 hS (v := nI (stLen.getD i 0)) rfl dJ1_charAt_3b067_2 ?_
  refine mx_kv (wc := []) (ws := []) (w1 := fun _ => []) (mx_rSX (rm := rm_J0_checkIndex) (rest := []) (wc := []) (ws := []) (As := [.int x, .int (nI (stLen.getD i 0))]) hx hb hml hown hts hX hS hA (c_J0_checkIndex l D cI cB cZ cP cC adK adV x (nI (stLen.getD i 0)) (st_in hi hin).1 (st_in hi hin).2 _ True trivial) q_272 q_273 q_251 q_274 hd_J0_checkIndex ⟨Nat.le_of_ble_eq_true rfl, Nat.le_of_ble_eq_true rfl⟩ rfl rfl hK hP hD [] rfl rfl rfl hl.1 rfl (Nat.le_of_ble_eq_true rfl) dJ1_charAt_3b067_3 ⟨Nat.le_of_ble_eq_true rfl, Nat.le_of_ble_eq_true rfl⟩) hP hD hS hA [] [] [] (fun _ => []) rfl rfl rfl (by decide) rfl (fun _ => rfl) (fun u H locs hr0 hP hD hS => ?_)
  refine lv_aload_n hx hb dJ1_charAt_3b067_6 rfl (lv_at hl 0 rfl) ?_
  refine lv_iload_n hx hb dJ1_charAt_3b067_7 rfl (lv_at hl 1 rfl) ?_
  refine va_tb hx hb (hX.1.1 i hi).2.2.2 hS hin (v := .int (stCh i x)) rfl dJ1_charAt_3b067_8 ?_
  refine lv_sipush (v := 255) hx hb dJ1_charAt_3b067_9 (by decide) ?_
  refine lv_iand hx hb dJ1_charAt_3b067_12 ?_
  refine lv_i2c (v := stCh i x) hx hb dJ1_charAt_3b067_13 (st_ch i hi _ (mx_ltn hin)).1 ?_
  exact mx_iret () hx hb hr hlocks (st_ch i hi _ (mx_ltn hin)).2 hw hK hP hD hS dJ1_charAt_3b067_14
set_option maxHeartbeats 4000000 in
theorem c_J0_charAt (l : Launch) (D : va_G) (cI cB cZ cP cC : ClassId) (adK adV : Nat → Nat) (i : Nat) (hi : i < 4) (x : Int32) (hin : vp_in x (stLen.getD i 0)) (sz : Nat) (Post : Int32 → Prop) (hw : Post (stCh i x)) :
    Met l yJ0_charAt_5068e (Cond.code yJ0_charAt_5068e cJ0_charAt_5068e 2 (some .char) :: wsAll) rm_J0_charAt (va_Pc [.ref (adK i), .int x] (mxPX D (mxTy cI cB cZ cP cC) sz [] adK adV)) (qqS D cI cB cZ cP cC Post (va_A [] sz)) 0 0 (va_A [] sz) := by
  refine mx_ofX (Qc := qqS D cI cB cZ cP cC Post) (by decide) (Nat.le_of_ble_eq_true rfl) ?_
  intro p e s m bl meth c A ls C0 hX hP hD hS hl
  replace C0 : mxC p s m [.ref (adK i), .int x].toArray meth c cJ0_charAt_5068e RJ0 (some .char) 2 D (mxTy cI cB cZ cP cC) A := C0
  obtain ⟨hx, hb, hr, hlocks, hml, hown, hts, hK, hA⟩ := id C0
  replace hl : lv_has ls 2 [(0, .ref (adK i)), (1, .int x)] := hl
  refine lv_aload_n hx hb dJ0_charAt_5068e_0 rfl (lv_at hl 0 rfl) ?_
  refine mx_ki (wc := []) (ws := []) (w1 := fun _ => []) (mx_rVX (rm := rm_J0) (rest := []) (C := RJ0) (wc := []) (ws := []) hx hb hml hown hts hX hS hA (c_J0_isLatin1 l D cI cB cZ cP cC adK adV i hi _ (fun r => r = 1) rfl) q_264 q_265 q_266 q_251 q_267 hd_J0_isLatin1 ⟨Nat.le_of_ble_eq_true rfl, Nat.le_of_ble_eq_true rfl⟩ rfl rfl hK hP hD [] rfl rfl (vk_recv hX.1 hi hS) rfl hl.1 rfl (Nat.le_of_ble_eq_true rfl) dJ0_charAt_5068e_1 ⟨Nat.le_of_ble_eq_true rfl, Nat.le_of_ble_eq_true rfl⟩) hP hD hS hA [] [] [] (fun _ => []) rfl rfl rfl (by decide) rfl (fun _ => rfl) (fun r u H locs hr0 hP hD hS => ?_)
  subst hr0
  refine lv_if_eq (tgt := 16) hx hb dJ0_charAt_5068e_4 (by decide) (fun c_1 => absurd c_1 (by decide)) (fun c_1 => ?_)
  refine lv_aload_n hx hb dJ0_charAt_5068e_7 rfl (lv_at hl 0 rfl) ?_
  refine vk_getf hx hb (hX.1.1 i hi).2.2.1 hS hown (hts _ q_253) (fun _ h => h) dJ0_charAt_5068e_8 ?_
  refine lv_iload_n hx hb dJ0_charAt_5068e_11 rfl (lv_at hl 1 rfl) ?_
  refine mx_ki (wc := []) (ws := []) (w1 := fun _ => []) (mx_rSX (rm := rm_J1_charAt) (rest := []) (wc := []) (ws := []) (As := [.ref (adV i), .int x]) hx hb hml hown hts hX hS hA (c_J1_charAt l D cI cB cZ cP cC adK adV i hi x hin _ (fun r => r = stCh i x) rfl) q_268 q_269 q_270 q_271 hd_J1_charAt ⟨Nat.le_of_ble_eq_true rfl, Nat.le_of_ble_eq_true rfl⟩ rfl rfl hK hP hD [] rfl rfl rfl hl.1 rfl (Nat.le_of_ble_eq_true rfl) dJ0_charAt_5068e_12 ⟨Nat.le_of_ble_eq_true rfl, Nat.le_of_ble_eq_true rfl⟩) hP hD hS hA [] [] [] (fun _ => []) rfl rfl rfl (by decide) rfl (fun _ => rfl) (fun r u H locs hr0 hP hD hS => ?_)
  subst hr0
  exact mx_iret () hx hb hr hlocks (st_ch i hi _ (mx_ltn hin)).2 hw hK hP hD hS dJ0_charAt_5068e_15
