/-! Counting bits; what may be undone. -/
theorem s_bitCount {r : Nat} (hr : r < 64) {Post : Int32 → Prop} (hp : Post (nI (bcN r))) : wp_J6_bitCount_0f7a4 (nI r) Post := by
  have h := s_bitCount0 r hr
  unfold wp_J6_bitCount_0f7a4 at h ⊢
  intro x1 e1 x2 e2 x3 e3 x4 e4 x5 e5
  rw [h x1 e1 x2 e2 x3 e3 x4 e4 x5 e5]
  exact hp
theorem bc_half : ∀ r, r < 64 → bcN r = r % 2 + bcN (r / 2) ∧ nI r &&& 1 = nI (r % 2) ∧ nI r >>> ((1 : Int32) &&& 31) = nI (r / 2) := by decide +kernel
theorem bcN_le (r : Nat) : bcN r ≤ 6 := fb_ct_le _ 6
theorem s_bits {r : Nat} (hr : r < 64) {Post : Int32 → Prop} (hp : Post (nI (bcN r))) : wp_X10_bits (nI r) Post := by
  refine lp2 (wp_X10_bits_L4 Post) (fun a b => ∃ q c, q < 64 ∧ b = nI q ∧ a = nI c ∧ c + bcN q = bcN r) (fun _ b => b.toNatClampNeg) ?_ 0 (nI r) ⟨r, 0, hr, rfl, rfl, by omega⟩
  rintro m a b ⟨q, c, hq, rfl, rfl, he⟩ ih
  obtain ⟨h1, h2, h3⟩ := bc_half q hq
  refine pk_le q 0 (fun z => ?_) (fun z => fun x ex y ey => ih x y ⟨q / 2, c + q % 2, by omega, by rw [ey, h3], by rw [ex, h2, nI_add], by omega⟩ ?_)
  · obtain rfl : q = 0 := by omega
    have e : bcN 0 = 0 := by decide
    rw [e] at he
    rw [show c = bcN r by omega]
    exact hp
  · rw [ey, h3, nI_clamp (by omega), nI_clamp (by omega)]
    omega
theorem d_count {infants retired month notes sounds pasts : Int32} {kind months home nurse skills noteRow soundRow pastRow : Nat → Int32} {told refused bytes mbytes : Nat → Int32} {badCalls noCalls fullCalls length mlen v1 : Int32} (hC : CC infants retired month notes sounds pasts kind months home nurse skills noteRow soundRow pastRow told) (hS : SR badCalls noCalls fullCalls refused) (hT : TR length bytes mlen mbytes) {P : Int32 → Int32 → Int32 → (Nat → Int32) → Prop} (hP : ∀ r b9 ref9, SR b9 noCalls fullCalls ref9 → P r b9 r ref9) :
    wp_X9_count infants retired month notes sounds pasts length badCalls v1 (fun r b9 => wp_X10_count mlen told refused v1 (fun r' ref9 => P r b9 r' ref9)) := by
  obtain ⟨t, hR, hM, hV⟩ := id hC
  obtain ⟨⟨e0, e10, e17, e1, e2, e3⟩, hi, hs, hn, ho, hp⟩ := hR
  obtain ⟨⟨v0, vn, vs, vp, vr, vm⟩, vi, vk, vno, vso, vpa⟩ := id hV
  obtain ⟨n, hn6, l1, l2, hb⟩ := id hT
  unfold wp_X9_count wp_X10_count wp_X9_tally wp_X10_counted wp_X10_many
  refine s_within (m := 6) rfl (by decide) (sp_b (fun a => ?_) (fun a => ?_))
  · exact fun x ex => s_in0 (m := 6) rfl (by decide) (kf a (fun y ey g eg => hP _ _ _ (SR_bad hS ex ey eg)))
  · obtain ⟨w, hw, rfl⟩ := inB_t a
    rw [nI_ti (by omega), e0, e10, e17, e1, e2, e3, l1, l2, hM 0 (by omega), hM 10 (by omega), hM 17 (by omega), hM 1 (by omega), hM 2 (by omega), hM 3 (by omega)]
    refine ⟨fun e => ?_, fun e => s_bitCount vr ?_, fun e => ?_, fun e => ?_, fun e => ?_, fun e => ?_, fun e => ?_⟩ <;> refine s_in0 (m := 6) rfl (by decide) (kt a ⟨fun q => ?_, fun q => s_bits vr ?_, fun q => ?_, fun q => ?_, fun q => ?_, fun q => ?_, fun q => ?_⟩) <;> first | exact hP _ _ _ hS | omega
theorem d_forget {infants retired month notes sounds pasts : Int32} {kind months home nurse skills noteRow soundRow pastRow : Nat → Int32} {told refused : Nat → Int32} {badCalls noCalls fullCalls v1 : Int32} (hC : CC infants retired month notes sounds pasts kind months home nurse skills noteRow soundRow pastRow told) (hS : SR badCalls noCalls fullCalls refused) {P : Int32 → Int32 → Int32 → Int32 → Int32 → (Nat → Int32) → (Nat → Int32) → Prop} (hP : ∀ r b9 n9 s9 told9 ref9, CC infants retired month n9 s9 pasts kind months home nurse skills noteRow soundRow pastRow told9 → SR b9 noCalls fullCalls ref9 → P r b9 n9 s9 r told9 ref9) :
    wp_X9_forget badCalls notes sounds v1 (fun r b9 n9 s9 => wp_X10_forget told refused v1 (fun r' told9 ref9 => P r b9 n9 s9 r' told9 ref9)) := by
  obtain ⟨t, hR, hM, hV⟩ := id hC
  obtain ⟨⟨e0, e10, e17, e1, e2, e3⟩, hi, hs, hn, ho, hp⟩ := hR
  obtain ⟨⟨v0, vn, vs, vp, vr, vm⟩, vi, vk, vno, vso, vpa⟩ := id hV
  unfold wp_X9_forget wp_X10_forget wp_X9_forget_J36
  refine s_within (m := 1) rfl (by decide) (sp_b (fun a => ?_) (fun a => ?_))
  · exact fun x ex => s_in0 (m := 1) rfl (by decide) (kf a (fun y ey g eg => hP _ _ _ _ _ _ hC (SR_bad hS ex ey eg)))
  · obtain ⟨w, hw, rfl⟩ := inB_t a
    have hM1 := MR_at hM 1 (i := w) (by omega)
    have ref : ∀ (n9 s9 : Int32), (w = 0 → n9 = 0 ∧ s9 = sounds) → (w = 1 → n9 = notes ∧ s9 = 0) → wp_X10_in (nI w).toInt64 0 1 (fun r_1 => (r_1 = 0 → wp_X10_bad refused (-2) (fun r_6 refused_7 => P (nI (t (1 + w))) badCalls n9 s9 r_6 told refused_7)) ∧ (¬ r_1 = 0 → vp_in (1 + nI w) 190 ∧ ∀ x_4 : Int32, x_4 = told (1 + nI w).toNatClampNeg → ∀ f_5 : Nat → Int32, f_5 = upd told (1 + nI w).toNatClampNeg 0 → P (nI (t (1 + w))) badCalls n9 s9 x_4 f_5 refused)) := by
      intro n9 s9 c0 c1
      refine s_in0 (m := 1) rfl (by decide) (kt a ⟨hM1.1, fun x ex f ef => ?_⟩)
      rw [show (1 : Int32) = nI 1 from rfl, hM1.2] at ex
      subst ex
      have hM2 : MR _ f := MR_upc (a := 1) (n := 0) hM ef rfl (by omega) rfl
      generalize hT : up t (1 + w) 0 = T at hM2
      have Tr : ∀ j, j ≠ 1 + w → T j = t j := by rw [← hT]; intro j hj; rw [up_ne hj]
      have Tw : T (1 + w) = 0 := by rw [← hT]; exact up_eq _ _ _
      refine hP _ _ _ _ _ _ ⟨T, ⟨⟨?_, ?_, ?_, ?_, ?_, ?_⟩, ?_, ?_, ?_, ?_, ?_⟩, hM2, ⟨⟨?_, ?_, ?_, ?_, ?_, ?_⟩, ?_, ?_, ?_, ?_, ?_⟩⟩ hS
      · rw [Tr 0 (by omega), e0]
      · rw [Tr 10 (by omega), e10]
      · rw [Tr 17 (by omega), e17]
      · by_cases z : w = 0
        · subst z; rw [Tw, (c0 rfl).1]; rfl
        · obtain rfl : w = 1 := by omega
          rw [Tr 1 (by omega), (c1 rfl).1, e1]
      · by_cases z : w = 0
        · subst z; rw [Tr 2 (by omega), (c0 rfl).2, e2]
        · obtain rfl : w = 1 := by omega
          rw [show T 2 = 0 from Tw, (c1 rfl).2]; rfl
      · rw [Tr 3 (by omega), e3]
      · intro j hj
        rw [Tr 0 (by omega)] at hj
        rw [Tr (24 + j) (by omega), Tr (4 + j) (by omega), Tr (30 + j) (by omega), Tr (11 + j) (by omega)]
        exact hi j hj
      · intro j hj; rw [Tr (18 + j) (by omega)]; exact hs j hj
      · intro j hj
        rw [Tr (36 + j) (by omega)]
        refine hn j ?_
        by_cases z : w = 0
        · subst z; rw [Tw] at hj; omega
        · rw [Tr 1 (by omega)] at hj; exact hj
      · intro j hj
        rw [Tr (66 + j) (by omega)]
        refine ho j ?_
        by_cases z : w = 0
        · rw [Tr 2 (by omega)] at hj; exact hj
        · obtain rfl : w = 1 := by omega
          rw [show T 2 = 0 from Tw] at hj; omega
      · intro p hq
        rw [Tr 3 (by omega)] at hq
        rw [Tr (78 + 14 * p + 13) (by omega), Tr (78 + 14 * p + 6) (by omega)]
        refine ⟨(hp p hq).1, (hp p hq).2.1, fun i h => ?_⟩
        rw [Tr 0 (by omega)] at h
        rw [Tr (78 + 14 * p + i) (by omega), Tr (78 + 14 * p + 7 + i) (by omega)]
        exact (hp p hq).2.2 i h
      · rw [Tr 0 (by omega)]; exact v0
      · by_cases z : w = 0
        · subst z; rw [Tw]; omega
        · rw [Tr 1 (by omega)]; exact vn
      · by_cases z : w = 0
        · rw [Tr 2 (by omega)]; exact vs
        · obtain rfl : w = 1 := by omega
          rw [show T 2 = 0 from Tw]; omega
      · rw [Tr 3 (by omega)]; exact vp
      · rw [Tr 10 (by omega)]; exact vr
      · rw [Tr 17 (by omega)]; exact vm
      · intro j hj
        rw [Tr 0 (by omega)] at hj
        rw [Tr (24 + j) (by omega), Tr (4 + j) (by omega), Tr (30 + j) (by omega), Tr (11 + j) (by omega), Tr 10 (by omega)]
        exact vi j hj
      · intro j hj; rw [Tr (18 + j) (by omega)]; exact vk j hj
      · intro j hj
        rw [Tr (36 + 5 * j) (by omega), Tr (36 + 5 * j + 1) (by omega), Tr (36 + 5 * j + 2) (by omega), Tr (36 + 5 * j + 3) (by omega), Tr (36 + 5 * j + 4) (by omega), Tr 0 (by omega)]
        refine vno j ?_
        by_cases z : w = 0
        · subst z; rw [Tw] at hj; omega
        · rw [Tr 1 (by omega)] at hj; exact hj
      · intro j hj
        rw [Tr (66 + 2 * j) (by omega), Tr (66 + 2 * j + 1) (by omega), Tr 0 (by omega)]
        refine vso j ?_
        by_cases z : w = 0
        · rw [Tr 2 (by omega)] at hj; exact hj
        · obtain rfl : w = 1 := by omega
          rw [show T 2 = 0 from Tw] at hj; omega
      · intro p hq
        rw [Tr 3 (by omega)] at hq
        rw [Tr (78 + 14 * p + 13) (by omega), Tr (78 + 14 * p + 6) (by omega)]
        refine ⟨(vpa p hq).1, (vpa p hq).2.1, fun i h => ?_⟩
        rw [Tr 0 (by omega)] at h
        rw [Tr (78 + 14 * p + i) (by omega), Tr (78 + 14 * p + 7 + i) (by omega)]
        exact (vpa p hq).2.2 i h
    refine pk_eq w 0 (fun q => pk_eq w 0 (fun _ => ?_) (fun z => absurd q z)) (fun q => pk_eq w 0 (fun z => absurd z q) (fun _ => ?_))
    · have := ref 0 sounds (fun _ => ⟨rfl, rfl⟩) (fun z => absurd z (by omega))
      rw [q] at this ⊢
      rw [e1]
      exact this
    · have := ref notes 0 (fun z => absurd z q) (fun _ => ⟨rfl, rfl⟩)
      obtain rfl : w = 1 := by omega
      rw [show (1 + 1 : Nat) = 2 from rfl, ← e2] at this
      exact this
