/-! Both sides of the calls that change or ask little. -/
theorem kt {b : Bool} {A B : Prop} (h : b = true) (hB : B) : (bI b = 0 → A) ∧ (¬ bI b = 0 → B) := ⟨fun q => absurd (((bI_0 b).mp q).symm.trans h) (by decide), fun _ => hB⟩
theorem kf {b : Bool} {A B : Prop} (h : b = false) (hA : A) : (bI b = 0 → A) ∧ (¬ bI b = 0 → B) := ⟨fun _ => hA, fun q => absurd (((bI_n0 b).mp q).symm.trans h) (by decide)⟩
theorem d_skill {infants retired month notes sounds pasts : Int32} {kind months home nurse skills noteRow soundRow pastRow : Nat → Int32} {told refused : Nat → Int32} {badCalls noCalls fullCalls v1 v2 : Int32} (hC : CC infants retired month notes sounds pasts kind months home nurse skills noteRow soundRow pastRow told) (hS : SR badCalls noCalls fullCalls refused) {P : Int32 → Int32 → Int32 → (Nat → Int32) → Int32 → (Nat → Int32) → (Nat → Int32) → Prop} (hP : ∀ r b9 p9 sk9 told9 ref9, CC infants retired month notes sounds p9 kind months home nurse sk9 noteRow soundRow pastRow told9 → SR b9 noCalls fullCalls ref9 → P r b9 p9 sk9 r told9 ref9) :
    wp_X9_skill badCalls pasts skills v1 v2 (fun r b9 p9 sk9 => wp_X10_skill told refused v1 v2 (fun r' told9 ref9 => P r b9 p9 sk9 r' told9 ref9)) := by
  obtain ⟨t, hR, hM, hV⟩ := id hC
  obtain ⟨⟨e0, e10, e17, e1, e2, e3⟩, hi, hs, hn, ho, hp⟩ := hR
  obtain ⟨⟨v0, vn, vs, vp, vr, vm⟩, vi, vk, vno, vso, vpa⟩ := hV
  unfold wp_X9_skill wp_X10_skill wp_X9_skill_J17 wp_X10_skill_J19
  refine s_within (m := 5) rfl (by decide) (sp_b (fun a => ?_) (fun a => s_within (m := 9) rfl (by decide) (sp_b (fun b => ?_) (fun b => ?_))))
  · exact fun x ex => s_nurse10 (kf a (fun y ey g eg => hP _ _ _ _ _ _ hC (SR_bad hS ex ey eg)))
  · exact fun x ex => s_nurse10 (kt a (s_in0 (m := 9) rfl (by decide) (kf b (fun y ey g eg => hP _ _ _ _ _ _ hC (SR_bad hS ex ey eg)))))
  · obtain ⟨n1, h1, rfl⟩ := inB_t a
    obtain ⟨n2, h2, rfl⟩ := inB_t b
    refine ⟨vp_in_nI (by omega) (by omega), fun x ex => ⟨vp_in_nI (by omega) (by omega), fun f ef => s_nurse10 (kt a (s_in0 (m := 9) rfl (by decide) (kt b ⟨pk_in (18 + n1) 190 (by omega) (nI_add 18 _), fun y ey f1 ef1 f2 ef2 => ?_⟩)))⟩⟩
    rw [nI_clamp (by omega)] at ex ef
    have exy : y = x := by rw [ex, hs n1 (by omega), ey, show (18 : Int32) + nI n1 = nI (18 + n1) from nI_add 18 n1, nI_clamp (by omega), hM _ (by omega)]
    subst exy
    have hM1 : MR _ f1 := MR_upc (a := 18) hM ef1 rfl (by omega) rfl
    have hM2 : MR _ f2 := MR_upf (n := 0) hM1 ef2 rfl
    generalize hT : up (up t (18 + n1) n2) 3 0 = T at hM2
    have T3 : T 3 = 0 := by rw [← hT]; exact up_eq _ _ _
    have Ts : ∀ j, j < 6 → T (18 + j) = if j = n1 then n2 else t (18 + j) := by rw [← hT]; intro j hj; rw [up_ne (by omega), up_if]
    have Tr : ∀ j, j ≠ 3 → (j < 18 ∨ 24 ≤ j) → T j = t j := by rw [← hT]; intro j hj hj2; rw [up_ne (by omega), up_ne (by omega)]
    refine hP _ _ _ _ _ _ ⟨T, ⟨⟨?_, ?_, ?_, ?_, ?_, ?_⟩, ?_, ?_, ?_, ?_, ?_⟩, hM2, ⟨⟨?_, ?_, ?_, ?_, ?_, ?_⟩, ?_, ?_, ?_, ?_, ?_⟩⟩ hS
    · rw [Tr 0 (by omega) (by omega), e0]
    · rw [Tr 10 (by omega) (by omega), e10]
    · rw [Tr 17 (by omega) (by omega), e17]
    · rw [Tr 1 (by omega) (by omega), e1]
    · rw [Tr 2 (by omega) (by omega), e2]
    · rw [T3]; rfl
    · intro j hj
      rw [Tr 0 (by omega) (by omega)] at hj
      rw [Tr (24 + j) (by omega) (by omega), Tr (4 + j) (by omega) (by omega), Tr (30 + j) (by omega) (by omega), Tr (11 + j) (by omega) (by omega)]
      exact hi j hj
    · intro j hj
      rw [Ts j hj, ef, upd_at]
      split
      · rfl
      · exact hs j hj
    · intro j hj; rw [Tr 1 (by omega) (by omega)] at hj; rw [Tr (36 + j) (by omega) (by omega)]; exact hn j hj
    · intro j hj; rw [Tr 2 (by omega) (by omega)] at hj; rw [Tr (66 + j) (by omega) (by omega)]; exact ho j hj
    · intro j hj; rw [T3] at hj; exact absurd hj (Nat.not_lt_zero j)
    · rw [Tr 0 (by omega) (by omega)]; exact v0
    · rw [Tr 1 (by omega) (by omega)]; exact vn
    · rw [Tr 2 (by omega) (by omega)]; exact vs
    · rw [T3]; omega
    · rw [Tr 10 (by omega) (by omega)]; exact vr
    · rw [Tr 17 (by omega) (by omega)]; exact vm
    · intro j hj
      rw [Tr 0 (by omega) (by omega)] at hj
      rw [Tr (24 + j) (by omega) (by omega), Tr (4 + j) (by omega) (by omega), Tr (30 + j) (by omega) (by omega), Tr (11 + j) (by omega) (by omega), Tr 10 (by omega) (by omega)]
      exact vi j hj
    · intro j hj
      rw [Ts j hj]
      split
      · exact h2
      · exact vk j hj
    · intro j hj
      rw [Tr 1 (by omega) (by omega)] at hj
      rw [Tr (36 + 5 * j) (by omega) (by omega), Tr (36 + 5 * j + 1) (by omega) (by omega), Tr (36 + 5 * j + 2) (by omega) (by omega), Tr (36 + 5 * j + 3) (by omega) (by omega), Tr (36 + 5 * j + 4) (by omega) (by omega), Tr 0 (by omega) (by omega)]
      exact vno j hj
    · intro j hj
      rw [Tr 2 (by omega) (by omega)] at hj
      rw [Tr (66 + 2 * j) (by omega) (by omega), Tr (66 + 2 * j + 1) (by omega) (by omega), Tr 0 (by omega) (by omega)]
      exact vso j hj
    · intro j hj; rw [T3] at hj; exact absurd hj (Nat.not_lt_zero j)
theorem d_type {badCalls noCalls fullCalls length mlen v1 : Int32} {bytes mbytes refused : Nat → Int32} (hT : TR length bytes mlen mbytes) (hS : SR badCalls noCalls fullCalls refused) {P : Int32 → Int32 → Int32 → Int32 → (Nat → Int32) → Int32 → Int32 → (Nat → Int32) → (Nat → Int32) → Prop} (hP : ∀ r b9 f9 l9 by9 ml9 ref9 mb9, TR l9 by9 ml9 mb9 → SR b9 noCalls f9 ref9 → P r b9 f9 l9 by9 r ml9 ref9 mb9) :
    wp_X9_type badCalls fullCalls length bytes v1 (fun r b9 f9 l9 by9 => wp_X10_type mlen refused mbytes v1 (fun r' ml9 ref9 mb9 => P r b9 f9 l9 by9 r' ml9 ref9 mb9)) := by
  obtain ⟨n, hn, e1, e2, hb⟩ := id hT
  unfold wp_X9_type wp_X10_type wp_X2_append
  refine s_within (m := 127) rfl (by decide) (sp_b (fun a => ?_) (fun a => pk_lt n 150 (fun q => pk_lt n 150 (fun _ => ?_) (fun w => absurd q (by omega)) e1) (fun q => ?_) e1))
  · exact fun x ex => s_in0 (m := 127) rfl (by decide) (kf a (fun y ey g eg => hP _ _ _ _ _ _ _ _ hT (SR_bad hS ex ey eg)))
  · obtain ⟨c, hc, rfl⟩ := inB_t a
    refine fun x ex => ⟨pk_in n 150 q e1, fun f ef y ey => s_in0 (m := 127) rfl (by decide) (kt a (pk_eq n 150 (fun w => absurd q (by omega)) (fun _ => ⟨pk_in n 150 q e2, fun g eg z ez => ?_⟩) e2))⟩
    have ezy : z = y := by rw [ez, ey, e1, e2]
    subst ezy
    rw [fa_byte_small (by omega)] at ex
    have e9 : vp_nar .byte x = nI c := by rw [ex, vp_nar_byte, fa_byte_small (by omega)]
    rw [pk_cl n e1, e9] at ef
    rw [pk_cl n e2] at eg
    refine hP _ _ _ _ _ _ _ _ ⟨n + 1, by omega, by rw [ey, e1, nI_1], by rw [ey, e1, nI_1], fun k hk => ?_⟩ hS
    rw [ef, eg, upd_at, upd_at]
    by_cases z : k = n
    · rw [if_pos z, if_pos z]
      exact ⟨c, by omega, rfl, rfl⟩
    · rw [if_neg z, if_neg z]
      exact hb k (by omega)
  · exact fun x ex => s_in0 (m := 127) rfl (by decide) (kt a (pk_eq n 150 (fun _ => fun y ey g eg => hP _ _ _ _ _ _ _ _ hT (SR_full hS ex ey eg)) (fun w => absurd q (by omega)) e2))
theorem d_clear {length mlen : Int32} {bytes mbytes : Nat → Int32} (hT : TR length bytes mlen mbytes) {P : Int32 → Int32 → Int32 → Int32 → Prop} (hP : ∀ r, TR 0 bytes 0 mbytes → P r 0 r 0) : wp_X9_clear length (fun r l9 => wp_X10_clear mlen (fun r' ml9 => P r l9 r' ml9)) := by
  obtain ⟨n, hn, e1, e2, hb⟩ := id hT
  unfold wp_X9_clear wp_X10_clear
  rw [e1, e2]
  exact hP _ ⟨0, by omega, rfl, rfl, fun k hk => absurd hk (Nat.not_lt_zero k)⟩
def ofN (t : Nat → Nat) (i j : Nat) : Int32 := match j with
  | 0 => nI (t (24 + i))
  | 1 => nI (t (4 + i))
  | 2 => nI (t (30 + i))
  | 3 => nI (t (11 + i))
  | 4 => bI ((t 10).testBit i)
  | _ => nI (wkN (t (24 + i)))
theorem s_of10 {t : Nat → Nat} {told : Nat → Int32} (hM : MR t told) (hV : VV t) {i j : Nat} (hi : i < t 0) (hj : j ≤ 5) {refused : Nat → Int32} {Post : Int32 → (Nat → Int32) → Prop} (hp : Post (ofN t i j) refused) : wp_X10_of told refused (nI i) (nI j) Post := by
  obtain ⟨⟨v0, vn, vs, vp, vr, vm⟩, vi, vk, vno, vso, vpa⟩ := hV
  unfold wp_X10_of
  refine s_inf10 (hM 0 (by omega)) v0 (kt (by unfold inF; rw [nI_toInt (by omega)]; simp; omega) (s_in0 (m := 5) rfl (by decide) (kt (inB_n hj (by omega)) ?_)))
  rw [nI_ti (by omega)]
  have h4 := MR_at hM 4 (i := i) (by omega)
  have h30 := MR_at hM 30 (i := i) (by omega)
  have h11 := MR_at hM 11 (i := i) (by omega)
  refine ⟨fun e => ?_, fun e => ?_, fun e => ?_, fun e => ?_, fun e => ?_, fun e => ?_⟩
  · obtain rfl : j = 0 := by omega
    exact s_kindOf hM (by omega) hp
  · obtain rfl : j = 1 := by omega
    exact ⟨h4.1, by rw [show (4 : Int32) = nI 4 from rfl, h4.2]; exact hp⟩
  · obtain rfl : j = 2 := by omega
    exact ⟨h30.1, by rw [show (30 : Int32) = nI 30 from rfl, h30.2]; exact hp⟩
  · obtain rfl : j = 3 := by omega
    exact ⟨h11.1, by rw [show (11 : Int32) = nI 11 from rfl, h11.2]; exact hp⟩
  · obtain rfl : j = 4 := by omega
    rw [hM 10 (by omega), b_bit _ vr i (by omega)]
    exact hp
  · obtain rfl : j = 5 := by omega
    exact s_kindOf hM (by omega) (s_walksAs (vi i hi).1 hp)
theorem inB_f {x : Int32} {m : Nat} (h : inB x m = false) : x.toInt < 0 ∨ (m : Int) < x.toInt := by
  unfold inB at h
  rw [Bool.and_eq_false_iff, decide_eq_false_iff_not, decide_eq_false_iff_not] at h
  omega
theorem inF_n {i n : Nat} (h : i < n) (hn : n ≤ 6) : inF (nI i) n = true := by
  unfold inF
  rw [nI_toInt (by omega)]
  simp
  omega
theorem d_of {infants retired month notes sounds pasts : Int32} {kind months home nurse skills noteRow soundRow pastRow : Nat → Int32} {told refused : Nat → Int32} {badCalls noCalls fullCalls v1 v2 : Int32} (hC : CC infants retired month notes sounds pasts kind months home nurse skills noteRow soundRow pastRow told) (hS : SR badCalls noCalls fullCalls refused) {P : Int32 → Int32 → Int32 → (Nat → Int32) → Prop} (hP : ∀ r b9 ref9, SR b9 noCalls fullCalls ref9 → P r b9 r ref9) :
    wp_X9_of infants retired kind months home nurse badCalls v1 v2 (fun r b9 => wp_X10_of told refused v1 v2 (fun r' ref9 => P r b9 r' ref9)) := by
  obtain ⟨t, hR, hM, hV⟩ := id hC
  obtain ⟨⟨e0, e10, e17, e1, e2, e3⟩, hi, hs, hn, ho, hp⟩ := hR
  obtain ⟨⟨v0, vn, vs, vp, vr, vm⟩, vi, vk, vno, vso, vpa⟩ := id hV
  have hM0 := hM 0 (by omega)
  unfold wp_X9_of
  refine s_inf9 e0 v0 (sp_b (fun a => ?_) (fun a => ?_))
  · unfold wp_X10_of wp_X10_of_J20
    exact fun x ex => s_inf10 hM0 v0 (kf a (fun y ey g eg => hP _ _ _ (SR_bad hS ex ey eg)))
  · obtain ⟨i, hi0, rfl⟩ := inF_t a
    obtain ⟨k1, k2, k3, k4⟩ := hi i hi0
    have gd : ∀ j : Nat, j ≤ 5 → v2.toInt = (j : Int) → ∀ r, r = ofN t i j → wp_X10_of told refused (nI i) v2 (fun r' ref9 => P r badCalls r' ref9) := by
      intro j hj ej r er
      have ev : v2 = nI j := by rw [fa_eq, ej, nI_ti (by omega)]
      subst ev er
      exact s_of10 hM hV hi0 hj (hP _ _ _ hS)
    refine ⟨fun e => ⟨vp_in_nI (by omega) (by omega), gd 0 (by omega) e _ ?_⟩, fun e => ⟨vp_in_nI (by omega) (by omega), gd 1 (by omega) e _ ?_⟩, fun e => ⟨vp_in_nI (by omega) (by omega), gd 2 (by omega) e _ ?_⟩, fun e => ⟨vp_in_nI (by omega) (by omega), gd 3 (by omega) e _ ?_⟩, fun e => ?_, fun e => ?_, fun e => ?_⟩
    · rw [nI_clamp (by omega), k1]; rfl
    · rw [nI_clamp (by omega), k2]; rfl
    · rw [nI_clamp (by omega), k3]; rfl
    · rw [nI_clamp (by omega), k4]; rfl
    · rw [e10]
      refine s_isRetired vr (by omega) ⟨fun q => gd 4 (by omega) e _ ?_, fun q => gd 4 (by omega) e _ ?_⟩
      · rw [bI_0] at q
        show _ = bI _
        rw [q]; rfl
      · rw [bI_n0] at q
        show _ = bI _
        rw [q]; rfl
    · exact s_walkingAge (by omega) k1 (vi i hi0).1 (gd 5 (by omega) e _ rfl)
    · have b : inB v2 5 = false := by
        unfold inB
        rw [Bool.and_eq_false_iff, decide_eq_false_iff_not, decide_eq_false_iff_not]
        omega
      unfold wp_X10_of wp_X10_of_J20
      exact fun x ex => s_inf10 hM0 v0 (kt a (s_in0 (m := 5) rfl (by decide) (kf b (fun y ey g eg => hP _ _ _ (SR_bad hS ex ey eg)))))
