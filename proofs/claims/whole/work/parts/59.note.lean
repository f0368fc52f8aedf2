/-! note, heard. -/
theorem CR_mem {infants retired month notes sounds pasts : Int32} {kind months home nurse skills noteRow soundRow pastRow : Nat → Int32} {t : Nat → Nat} (hR : CR t infants retired month notes sounds pasts kind months home nurse skills noteRow soundRow pastRow) (hV : VV t) {T : Nat → Nat} (Tr : ∀ j, j ≠ 1 → j ≠ 2 → (j < 36 ∨ 78 ≤ j) → T j = t j) {notes2 sounds2 : Int32} {noteRow2 soundRow2 : Nat → Int32} (h1 : notes2 = nI (T 1)) (h1b : T 1 ≤ 6) (h2 : sounds2 = nI (T 2)) (h2b : T 2 ≤ 6) (hn2 : ∀ k, k < 5 * T 1 → noteRow2 k = nI (T (36 + k))) (hs2 : ∀ k, k < 2 * T 2 → soundRow2 k = nI (T (66 + k))) (vn2 : ∀ k, k < T 1 → T (36 + 5 * k) < t 0 ∧ T (36 + 5 * k + 1) ≤ 35 ∧ T (36 + 5 * k + 2) < 24 ∧ T (36 + 5 * k + 3) ≤ 1 ∧ T (36 + 5 * k + 4) ≤ 20) (vs2 : ∀ k, k < T 2 → T (66 + 2 * k) < t 0 ∧ T (66 + 2 * k + 1) ≤ 1) : CR T infants retired month notes2 sounds2 pasts kind months home nurse skills noteRow2 soundRow2 pastRow ∧ VV T := by
  obtain ⟨⟨e0, e10, e17, e1, e2, e3⟩, hi, hs, hn, ho, hp⟩ := hR
  obtain ⟨⟨v0, vn, vs, vp, vr, vm⟩, vi, vk, vno, vso, vpa⟩ := hV
  have T0 : T 0 = t 0 := Tr 0 (by omega) (by omega) (by omega)
  have T3 : T 3 = t 3 := Tr 3 (by omega) (by omega) (by omega)
  have T10 : T 10 = t 10 := Tr 10 (by omega) (by omega) (by omega)
  have T17 : T 17 = t 17 := Tr 17 (by omega) (by omega) (by omega)
  refine ⟨⟨⟨?_, ?_, ?_, h1, h2, ?_⟩, ?_, ?_, hn2, hs2, ?_⟩, ⟨⟨?_, h1b, h2b, ?_, ?_, ?_⟩, ?_, ?_, ?_, ?_, ?_⟩⟩
  · rw [T0, e0]
  · rw [T10, e10]
  · rw [T17, e17]
  · rw [T3, e3]
  · intro j hj
    rw [T0] at hj
    rw [Tr (24 + j) (by omega) (by omega) (by omega), Tr (30 + j) (by omega) (by omega) (by omega), Tr (4 + j) (by omega) (by omega) (by omega), Tr (11 + j) (by omega) (by omega) (by omega)]
    exact hi j hj
  · intro j hj; rw [Tr (18 + j) (by omega) (by omega) (by omega)]; exact hs j hj
  · intro p hq
    rw [T3] at hq
    rw [T0, Tr (78 + 14 * p + 13) (by omega) (by omega) (by omega), Tr (78 + 14 * p + 6) (by omega) (by omega) (by omega)]
    obtain ⟨a1, a2, a3⟩ := hp p hq
    refine ⟨a1, a2, fun i h => ?_⟩
    rw [Tr (78 + 14 * p + i) (by omega) (by omega) (by omega), Tr (78 + 14 * p + 7 + i) (by omega) (by omega) (by omega)]
    exact a3 i h
  · rw [T0]; exact v0
  · rw [T3]; exact vp
  · rw [T10]; exact vr
  · rw [T17]; exact vm
  · intro j hj
    rw [T0] at hj
    rw [Tr (24 + j) (by omega) (by omega) (by omega), Tr (30 + j) (by omega) (by omega) (by omega), Tr (4 + j) (by omega) (by omega) (by omega), Tr (11 + j) (by omega) (by omega) (by omega), T10]
    exact vi j hj
  · intro j hj; rw [Tr (18 + j) (by omega) (by omega) (by omega)]; exact vk j hj
  · rw [T0]; exact vn2
  · rw [T0]; exact vs2
  · intro p hq
    rw [T3] at hq
    rw [T0, Tr (78 + 14 * p + 13) (by omega) (by omega) (by omega), Tr (78 + 14 * p + 6) (by omega) (by omega) (by omega)]
    obtain ⟨a1, a2, a3⟩ := vpa p hq
    refine ⟨a1, a2, fun i h => ?_⟩
    rw [Tr (78 + 14 * p + i) (by omega) (by omega) (by omega), Tr (78 + 14 * p + 7 + i) (by omega) (by omega) (by omega)]
    exact a3 i h
theorem d_note {infants retired month notes sounds pasts : Int32} {kind months home nurse skills noteRow soundRow pastRow : Nat → Int32} {told refused : Nat → Int32} {badCalls noCalls fullCalls v1 v2 v3 v4 v5 : Int32} (hC : CC infants retired month notes sounds pasts kind months home nurse skills noteRow soundRow pastRow told) (hS : SR badCalls noCalls fullCalls refused) {P : Int32 → Int32 → Int32 → Int32 → (Nat → Int32) → Int32 → (Nat → Int32) → (Nat → Int32) → Prop} (hP : ∀ r b9 f9 n9 nr9 told9 ref9, CC infants retired month n9 sounds pasts kind months home nurse skills nr9 soundRow pastRow told9 → SR b9 noCalls f9 ref9 → P r b9 f9 n9 nr9 r told9 ref9) :
    wp_X9_note infants badCalls fullCalls notes noteRow v1 v2 v3 v4 v5 (fun r b9 f9 n9 nr9 => wp_X10_note told refused v1 v2 v3 v4 v5 (fun r' told9 ref9 => P r b9 f9 n9 nr9 r' told9 ref9)) := by
  obtain ⟨t, hR, hM, hV⟩ := id hC
  obtain ⟨⟨e0, e10, e17, e1, e2, e3⟩, hi, hs, hn, ho, hp⟩ := id hR
  obtain ⟨⟨v0, vn, vs, vp, vr, vm⟩, vi, vk, vno, vso, vpa⟩ := id hV
  have hM0 := hM 0 (by omega)
  have hM1 := hM 1 (by omega)
  unfold wp_X9_note wp_X10_note wp_X9_note_J26 wp_X9_note_J52 wp_X10_note_J51 wp_X1_addNote
  refine s_inf9 e0 v0 (sp_b (fun a => ?_) (fun a => s_within (m := 35) rfl (by decide) (sp_b (fun b => ?_) (fun b => s_within (m := 23) rfl (by decide) (sp_b (fun c => ?_) (fun c => s_within (m := 1) rfl (by decide) (sp_b (fun d => ?_) (fun d => s_within (m := 20) rfl (by decide) (sp_b (fun e => ?_) (fun e => ?_))))))))))
  · exact fun x ex => s_inf10 hM0 v0 (kf a (fun y ey g eg => hP _ _ _ _ _ _ _ hC (SR_bad hS ex ey eg)))
  · exact fun x ex => s_inf10 hM0 v0 (kt a (s_in0 (m := 35) rfl (by decide) (kf b (fun y ey g eg => hP _ _ _ _ _ _ _ hC (SR_bad hS ex ey eg)))))
  · exact fun x ex => s_inf10 hM0 v0 (kt a (s_in0 (m := 35) rfl (by decide) (kt b (s_hour10 (kf c (fun y ey g eg => hP _ _ _ _ _ _ _ hC (SR_bad hS ex ey eg)))))))
  · exact fun x ex => s_inf10 hM0 v0 (kt a (s_in0 (m := 35) rfl (by decide) (kt b (s_hour10 (kt c (s_in0 (m := 1) rfl (by decide) (kf d (fun y ey g eg => hP _ _ _ _ _ _ _ hC (SR_bad hS ex ey eg)))))))))
  · exact fun x ex => s_inf10 hM0 v0 (kt a (s_in0 (m := 35) rfl (by decide) (kt b (s_hour10 (kt c (s_in0 (m := 1) rfl (by decide) (kt d (s_in0 (m := 20) rfl (by decide) (kf e (fun y ey g eg => hP _ _ _ _ _ _ _ hC (SR_bad hS ex ey eg)))))))))))
  · have ref : ∀ {Q : Prop}, Q → ∀ {A : Prop}, wp_X10_isInfant told v1 (fun r_1 => ((r_1 = 0 → A) ∧ (¬ r_1 = 0 → (wp_X10_in (v2.toInt64) 0 35 (fun r_5 => ((r_5 = 0 → A) ∧ (¬ r_5 = 0 → (wp_X10_isHour v3 (fun r_7 => ((r_7 = 0 → A) ∧ (¬ r_7 = 0 → (wp_X10_in (v4.toInt64) 0 1 (fun r_9 => ((r_9 = 0 → A) ∧ (¬ r_9 = 0 → (wp_X10_in (v5.toInt64) 0 20 (fun r_11 => ((r_11 = 0 → A) ∧ (¬ r_11 = 0 → Q))))))))))))))))))) :=
      fun q A => s_inf10 hM0 v0 (kt a (s_in0 (m := 35) rfl (by decide) (kt b (s_hour10 (kt c (s_in0 (m := 1) rfl (by decide) (kt d (s_in0 (m := 20) rfl (by decide) (kt e q)))))))))
    obtain ⟨n1, g1, rfl⟩ := inF_t a
    obtain ⟨n2, g2, rfl⟩ := inB_t b
    obtain ⟨n3, g3, rfl⟩ := inB_t c
    obtain ⟨n4, g4, rfl⟩ := inB_t d
    obtain ⟨n5, g5, rfl⟩ := inB_t e
    refine pk_lt (t 1) 6 (fun q => pk_lt (t 1) 6 (fun _ x ex => ?_) (fun z => absurd q (by omega)) e1) (fun q x ex => ?_) e1
    · have ex' : x = nI (5 * t 1) := by rw [ex, e1, show (5 : Int32) = nI 5 from rfl, pk_mul]; congr 1; omega
      subst ex'
      have a1 : nI (5 * t 1) + 1 = nI (5 * t 1 + 1) := nI_1 _
      have a2 : nI (5 * t 1) + 2 = nI (5 * t 1 + 2) := nI_add _ 2
      have a3 : nI (5 * t 1) + 3 = nI (5 * t 1 + 3) := nI_add _ 3
      have a4 : nI (5 * t 1) + 4 = nI (5 * t 1 + 4) := nI_add _ 4
      rw [a1, a2, a3, a4, nI_clamp (by omega), nI_clamp (by omega), nI_clamp (by omega), nI_clamp (by omega), nI_clamp (by omega)]
      refine ⟨vp_in_nI (by omega) (by omega), fun f1 ef1 => ⟨vp_in_nI (by omega) (by omega), fun f2 ef2 => ⟨vp_in_nI (by omega) (by omega), fun f3 ef3 => ⟨vp_in_nI (by omega) (by omega), fun f4 ef4 => ⟨vp_in_nI (by omega) (by omega), fun f5 ef5 y ey => ref (pk_eq (t 1) 6 (fun z => absurd z (by omega)) (fun _ w ew => ?_) hM1)⟩⟩⟩⟩⟩
      have ew' : w = nI (36 + 5 * t 1) := by rw [ew, hM1, show (5 : Int32) = nI 5 from rfl, pk_mul, show (36 : Int32) = nI 36 from rfl, nI_add]
      subst ew'
      have b1 : nI (36 + 5 * t 1) + 1 = nI (36 + 5 * t 1 + 1) := nI_1 _
      have b2 : nI (36 + 5 * t 1) + 2 = nI (36 + 5 * t 1 + 2) := nI_add _ 2
      have b3 : nI (36 + 5 * t 1) + 3 = nI (36 + 5 * t 1 + 3) := nI_add _ 3
      have b4 : nI (36 + 5 * t 1) + 4 = nI (36 + 5 * t 1 + 4) := nI_add _ 4
      rw [b1, b2, b3, b4, nI_clamp (by omega), nI_clamp (by omega), nI_clamp (by omega), nI_clamp (by omega), nI_clamp (by omega)]
      refine ⟨vp_in_nI (by omega) (by omega), fun h1 eh1 => ⟨vp_in_nI (by omega) (by omega), fun h2 eh2 => ⟨vp_in_nI (by omega) (by omega), fun h3 eh3 => ⟨vp_in_nI (by omega) (by omega), fun h4 eh4 => ⟨vp_in_nI (by omega) (by omega), fun h5 eh5 z ez h6 eh6 => ?_⟩⟩⟩⟩⟩
      have m1 : MR _ h1 := MR_upf hM eh1 rfl
      have m2 : MR _ h2 := MR_upf m1 eh2 rfl
      have m3 : MR _ h3 := MR_upf m2 eh3 rfl
      have m4 : MR _ h4 := MR_upf m3 eh4 rfl
      have m5 : MR _ h5 := MR_upf m4 eh5 rfl
      have ez' : z = nI (t 1 + 1) := by rw [ez, m5 1 (by omega), up_ne (by omega), up_ne (by omega), up_ne (by omega), up_ne (by omega), up_ne (by omega), nI_1]
      have m6 : MR _ h6 := MR_upf m5 eh6 ez'
      generalize hT : up (up (up (up (up (up t (36 + 5 * t 1) n1) (36 + 5 * t 1 + 1) n2) (36 + 5 * t 1 + 2) n3) (36 + 5 * t 1 + 3) n4) (36 + 5 * t 1 + 4) n5) 1 (t 1 + 1) = T at m6
      have T1 : T 1 = t 1 + 1 := by rw [← hT, up_eq]
      have Tr : ∀ j, j ≠ 1 → (j < 36 + 5 * t 1 ∨ 36 + 5 * t 1 + 5 ≤ j) → T j = t j := by
        intro j h1 h2
        rw [← hT, up_ne h1, up_ne (by omega), up_ne (by omega), up_ne (by omega), up_ne (by omega), up_ne (by omega)]
      have Ta : T (36 + 5 * t 1) = n1 := by rw [← hT, up_ne (by omega), up_ne (by omega), up_ne (by omega), up_ne (by omega), up_ne (by omega), up_eq]
      have Tb : T (36 + 5 * t 1 + 1) = n2 := by rw [← hT, up_ne (by omega), up_ne (by omega), up_ne (by omega), up_ne (by omega), up_eq]
      have Tc : T (36 + 5 * t 1 + 2) = n3 := by rw [← hT, up_ne (by omega), up_ne (by omega), up_ne (by omega), up_eq]
      have Td : T (36 + 5 * t 1 + 3) = n4 := by rw [← hT, up_ne (by omega), up_ne (by omega), up_eq]
      have Te : T (36 + 5 * t 1 + 4) = n5 := by rw [← hT, up_ne (by omega), up_eq]
      have T2 : T 2 = t 2 := Tr 2 (by omega) (by omega)
      have hc := CR_mem hR hV (T := T) (fun j h1 h2 h => Tr j h1 (by omega)) (notes2 := y) (sounds2 := sounds) (noteRow2 := f5) (soundRow2 := soundRow) (by rw [ey, e1, nI_1, T1]) (by rw [T1]; omega) (by rw [T2]; exact e2) (by rw [T2]; exact vs) (fun k hk => by
        rw [T1] at hk
        rw [ef5, upd_at, ef4, upd_at, ef3, upd_at, ef2, upd_at, ef1, upd_at]
        by_cases z4 : k = 5 * t 1 + 4
        · rw [if_pos z4, z4, ← Nat.add_assoc, Te]
        · rw [if_neg z4]
          by_cases z3 : k = 5 * t 1 + 3
          · rw [if_pos z3, z3, ← Nat.add_assoc, Td]
          · rw [if_neg z3]
            by_cases z2 : k = 5 * t 1 + 2
            · rw [if_pos z2, z2, ← Nat.add_assoc, Tc]
            · rw [if_neg z2]
              by_cases z1 : k = 5 * t 1 + 1
              · rw [if_pos z1, z1, ← Nat.add_assoc, Tb]
              · rw [if_neg z1]
                by_cases z0 : k = 5 * t 1
                · rw [if_pos z0, z0, Ta]
                · rw [if_neg z0, Tr _ (by omega) (by omega)]
                  exact hn k (by omega)) (fun k hk => by
        rw [T2] at hk
        rw [Tr _ (by omega) (by omega)]
        exact ho k hk) (fun k hk => by
        rw [T1] at hk
        by_cases z0 : k = t 1
        · subst z0
          rw [Ta, Tb, Tc, Td, Te]
          omega
        · rw [Tr (36 + 5 * k) (by omega) (by omega), Tr (36 + 5 * k + 1) (by omega) (by omega), Tr (36 + 5 * k + 2) (by omega) (by omega), Tr (36 + 5 * k + 3) (by omega) (by omega), Tr (36 + 5 * k + 4) (by omega) (by omega)]
          exact vno k (by omega)) (fun k hk => by
        rw [T2] at hk
        rw [Tr (66 + 2 * k) (by omega) (by omega), Tr (66 + 2 * k + 1) (by omega) (by omega)]
        exact vso k hk)
      rw [show h6 1 = y by rw [m6 1 (by omega), T1, ey, e1, nI_1]]
      exact hP _ _ _ _ _ _ _ ⟨T, hc.1, m6, hc.2⟩ hS
    · exact ref (pk_eq (t 1) 6 (fun _ y ey g eg => hP _ _ _ _ _ _ _ hC (SR_full hS ex ey eg)) (fun z => absurd z (by omega)) hM1)
theorem d_heard {infants retired month notes sounds pasts : Int32} {kind months home nurse skills noteRow soundRow pastRow : Nat → Int32} {told refused : Nat → Int32} {badCalls noCalls fullCalls v1 v2 : Int32} (hC : CC infants retired month notes sounds pasts kind months home nurse skills noteRow soundRow pastRow told) (hS : SR badCalls noCalls fullCalls refused) {P : Int32 → Int32 → Int32 → Int32 → (Nat → Int32) → Int32 → (Nat → Int32) → (Nat → Int32) → Prop} (hP : ∀ r b9 f9 n9 nr9 told9 ref9, CC infants retired month notes n9 pasts kind months home nurse skills noteRow nr9 pastRow told9 → SR b9 noCalls f9 ref9 → P r b9 f9 n9 nr9 r told9 ref9) :
    wp_X9_heard infants badCalls fullCalls sounds soundRow v1 v2 (fun r b9 f9 n9 nr9 => wp_X10_heard told refused v1 v2 (fun r' told9 ref9 => P r b9 f9 n9 nr9 r' told9 ref9)) := by
  obtain ⟨t, hR, hM, hV⟩ := id hC
  obtain ⟨⟨e0, e10, e17, e1, e2, e3⟩, hi, hs, hn, ho, hp⟩ := id hR
  obtain ⟨⟨v0, vn, vs, vp, vr, vm⟩, vi, vk, vno, vso, vpa⟩ := id hV
  have hM0 := hM 0 (by omega)
  have hM2 := hM 2 (by omega)
  unfold wp_X9_heard wp_X10_heard wp_X9_heard_J16 wp_X10_heard_J18 wp_X1_addSound
  refine s_inf9 e0 v0 (sp_b (fun a => ?_) (fun a => s_within (m := 1) rfl (by decide) (sp_b (fun b => ?_) (fun b => ?_))))
  · exact fun x ex => s_inf10 hM0 v0 (kf a (fun y ey g eg => hP _ _ _ _ _ _ _ hC (SR_bad hS ex ey eg)))
  · exact fun x ex => s_inf10 hM0 v0 (kt a (s_in0 (m := 1) rfl (by decide) (kf b (fun y ey g eg => hP _ _ _ _ _ _ _ hC (SR_bad hS ex ey eg)))))
  · obtain ⟨n1, g1, rfl⟩ := inF_t a
    obtain ⟨n2, g2, rfl⟩ := inB_t b
    refine pk_lt (t 2) 6 (fun q => pk_lt (t 2) 6 (fun _ x ex => ?_) (fun z => absurd q (by omega)) e2) (fun q x ex => ?_) e2
    · have ex' : x = nI (2 * t 2) := by rw [ex, e2, show (2 : Int32) = nI 2 from rfl, pk_mul]; congr 1; omega
      subst ex'
      have a1 : nI (2 * t 2) + 1 = nI (2 * t 2 + 1) := nI_1 _
      rw [a1, nI_clamp (by omega), nI_clamp (by omega)]
      refine ⟨vp_in_nI (by omega) (by omega), fun f1 ef1 => ⟨vp_in_nI (by omega) (by omega), fun f2 ef2 y ey => s_inf10 hM0 v0 (kt a (s_in0 (m := 1) rfl (by decide) (kt b (pk_eq (t 2) 6 (fun z => absurd z (by omega)) (fun _ => ?_) hM2))))⟩⟩
      have ew : ∀ w, w = nI (t 2) → (66 : Int32) + 2 * w = nI (66 + 2 * t 2) := by
        intro w hw
        rw [hw, show (2 : Int32) = nI 2 from rfl, pk_mul, show (66 : Int32) = nI 66 from rfl, nI_add]
      rw [ew _ hM2, nI_clamp (by omega)]
      refine ⟨vp_in_nI (by omega) (by omega), fun h1 eh1 => ?_⟩
      have m1 : MR _ h1 := MR_upf hM eh1 rfl
      have h12 : h1 2 = nI (t 2) := by rw [m1 2 (by omega), up_ne (by omega)]
      rw [ew _ h12, nI_1, nI_clamp (by omega)]
      refine ⟨vp_in_nI (by omega) (by omega), fun h2 eh2 z ez h6 eh6 => ?_⟩
      have m2 : MR _ h2 := MR_upf m1 eh2 rfl
      have ez' : z = nI (t 2 + 1) := by rw [ez, m2 2 (by omega), up_ne (by omega), up_ne (by omega), nI_1]
      have m6 : MR _ h6 := MR_upf m2 eh6 ez'
      generalize hT : up (up (up t (66 + 2 * t 2) n1) (66 + 2 * t 2 + 1) n2) 2 (t 2 + 1) = T at m6
      have T2 : T 2 = t 2 + 1 := by rw [← hT, up_eq]
      have Tr : ∀ j, j ≠ 2 → (j < 66 + 2 * t 2 ∨ 66 + 2 * t 2 + 2 ≤ j) → T j = t j := by
        intro j h1 h2
        rw [← hT, up_ne h1, up_ne (by omega), up_ne (by omega)]
      have Ta : T (66 + 2 * t 2) = n1 := by rw [← hT, up_ne (by omega), up_ne (by omega), up_eq]
      have Tb : T (66 + 2 * t 2 + 1) = n2 := by rw [← hT, up_ne (by omega), up_eq]
      have T1 : T 1 = t 1 := Tr 1 (by omega) (by omega)
      have hc := CR_mem hR hV (T := T) (fun j h1 h2 h => Tr j h2 (by omega)) (notes2 := notes) (sounds2 := y) (noteRow2 := noteRow) (soundRow2 := f2) (by rw [T1]; exact e1) (by rw [T1]; exact vn) (by rw [ey, e2, nI_1, T2]) (by rw [T2]; omega) (fun k hk => by
        rw [T1] at hk
        rw [Tr _ (by omega) (by omega)]
        exact hn k hk) (fun k hk => by
        rw [T2] at hk
        rw [ef2, upd_at, ef1, upd_at]
        by_cases z1 : k = 2 * t 2 + 1
        · rw [if_pos z1, z1, ← Nat.add_assoc, Tb]
        · rw [if_neg z1]
          by_cases z0 : k = 2 * t 2
          · rw [if_pos z0, z0, Ta]
          · rw [if_neg z0, Tr _ (by omega) (by omega)]
            exact ho k (by omega)) (fun k hk => by
        rw [T1] at hk
        rw [Tr (36 + 5 * k) (by omega) (by omega), Tr (36 + 5 * k + 1) (by omega) (by omega), Tr (36 + 5 * k + 2) (by omega) (by omega), Tr (36 + 5 * k + 3) (by omega) (by omega), Tr (36 + 5 * k + 4) (by omega) (by omega)]
        exact vno k hk) (fun k hk => by
        rw [T2] at hk
        by_cases z0 : k = t 2
        · subst z0
          rw [Ta, Tb]
          omega
        · rw [Tr (66 + 2 * k) (by omega) (by omega), Tr (66 + 2 * k + 1) (by omega) (by omega)]
          exact vso k (by omega))
      rw [show h6 2 = y by rw [m6 2 (by omega), T2, ey, e2, nI_1]]
      exact hP _ _ _ _ _ _ _ ⟨T, hc.1, m6, hc.2⟩ hS
    · exact s_inf10 hM0 v0 (kt a (s_in0 (m := 1) rfl (by decide) (kt b (pk_eq (t 2) 6 (fun _ y ey g eg => hP _ _ _ _ _ _ _ hC (SR_full hS ex ey eg)) (fun z => absurd z (by omega)) hM2))))
