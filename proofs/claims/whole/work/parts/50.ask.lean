/-! The calls that ask for hours, days and counts. -/
theorem d_hour {infants retired month notes sounds pasts : Int32} {kind months home nurse skills noteRow soundRow pastRow : Nat → Int32} {told refused : Nat → Int32} {badCalls noCalls fullCalls v1 v2 v3 : Int32} (hC : CC infants retired month notes sounds pasts kind months home nurse skills noteRow soundRow pastRow told) (hS : SR badCalls noCalls fullCalls refused) {P : Int32 → Int32 → Int32 → (Nat → Int32) → Prop} (hP : ∀ r b9 ref9, SR b9 noCalls fullCalls ref9 → P r b9 r ref9) :
    wp_X9_hour infants kind months nurse skills badCalls v1 v2 v3 (fun r b9 => wp_X10_hour told refused v1 v2 v3 (fun r' ref9 => P r b9 r' ref9)) := by
  obtain ⟨t, hR, hM, hV⟩ := id hC
  obtain ⟨⟨e0, e10, e17, e1, e2, e3⟩, hi, hs, hn, ho, hp⟩ := hR
  obtain ⟨⟨v0, vn, vs, vp, vr, vm⟩, vi, vk, vno, vso, vpa⟩ := id hV
  have hM0 := hM 0 (by omega)
  unfold wp_X9_hour wp_X10_hour wp_X9_hour_J25 wp_X10_hour_J25
  refine s_inf9 e0 v0 (sp_b (fun a => ?_) (fun a => s_within (m := 23) rfl (by decide) (sp_b (fun b => ?_) (fun b => s_within (m := 1) rfl (by decide) (sp_b (fun c => ?_) (fun c => ?_))))))
  · exact fun x ex => s_inf10 hM0 v0 (kf a (fun y ey g eg => hP _ _ _ (SR_bad hS ex ey eg)))
  · exact fun x ex => s_inf10 hM0 v0 (kt a (s_hour10 (kf b (fun y ey g eg => hP _ _ _ (SR_bad hS ex ey eg)))))
  · exact fun x ex => s_inf10 hM0 v0 (kt a (s_hour10 (kt b (s_in0 (m := 1) rfl (by decide) (kf c (fun y ey g eg => hP _ _ _ (SR_bad hS ex ey eg)))))))
  · obtain ⟨i, hi0, rfl⟩ := inF_t a
    obtain ⟨h, hh, rfl⟩ := inB_t b
    obtain ⟨w, hw, rfl⟩ := inB_t c
    obtain ⟨k1, k2, k3, k4⟩ := hi i hi0
    obtain ⟨w1, w2, w3, w4, w5⟩ := vi i hi0
    refine pk_eq w 0 (fun q => ?_) (fun q => ?_)
    · refine s_isAsleep (by omega) k1 w1 (by omega) ⟨fun z => s_inf10 hM0 v0 (kt a (s_hour10 (kt b (s_in0 (m := 1) rfl (by decide) (kt c (pk_eq w 1 (fun z2 => absurd z2 (by omega)) (fun _ => s_isAwake hM (by omega) rfl w1 (by omega) ?_))))))), fun z => s_inf10 hM0 v0 (kt a (s_hour10 (kt b (s_in0 (m := 1) rfl (by decide) (kt c (pk_eq w 1 (fun z2 => absurd z2 (by omega)) (fun _ => s_isAwake hM (by omega) rfl w1 (by omega) ?_)))))))⟩
      · rw [bI_0] at z
        exact kt (by rw [z]; rfl) (hP _ _ _ hS)
      · rw [bI_n0] at z
        exact kf (by rw [z]; rfl) (hP _ _ _ hS)
    · rw [nI_clamp (by omega), k4]
      have w6 := vk (t (11 + i)) w5
      exact ⟨vp_in_nI (by omega) (by omega), s_criesAt (by omega) k1 w1 k2 (by omega) (by omega) w5 (hs _ w5) (by omega) (s_inf10 hM0 v0 (kt a (s_hour10 (kt b (s_in0 (m := 1) rfl (by decide) (kt c (pk_eq w 1 (fun z2 => s_criesIn hM (by omega) rfl w1 rfl (by omega) rfl w5 rfl (by omega) (by omega) (hP _ _ _ hS)) (fun z2 => absurd z2 (by omega)))))))))⟩
theorem d_day {infants retired month notes sounds pasts : Int32} {kind months home nurse skills noteRow soundRow pastRow : Nat → Int32} {told refused : Nat → Int32} {badCalls noCalls fullCalls v1 : Int32} (hC : CC infants retired month notes sounds pasts kind months home nurse skills noteRow soundRow pastRow told) (hS : SR badCalls noCalls fullCalls refused) {P : Int32 → Int32 → Int32 → (Nat → Int32) → Prop} (hP : ∀ r b9 ref9, SR b9 noCalls fullCalls ref9 → P r b9 r ref9) :
    wp_X9_day infants kind months nurse skills badCalls v1 (fun r b9 => wp_X10_day told refused v1 (fun r' ref9 => P r b9 r' ref9)) := by
  obtain ⟨t, hR, hM, hV⟩ := id hC
  obtain ⟨⟨e0, e10, e17, e1, e2, e3⟩, hi, hs, hn, ho, hp⟩ := hR
  obtain ⟨⟨v0, vn, vs, vp, vr, vm⟩, vi, vk, vno, vso, vpa⟩ := id hV
  have hM0 := hM 0 (by omega)
  unfold wp_X9_day wp_X10_day
  refine s_inf9 e0 v0 (sp_b (fun a => ?_) (fun a => ?_))
  · exact fun x ex => s_inf10 hM0 v0 (kf a (fun y ey g eg => hP _ _ _ (SR_bad hS ex ey eg)))
  · obtain ⟨i, hi0, rfl⟩ := inF_t a
    obtain ⟨k1, k2, k3, k4⟩ := hi i hi0
    obtain ⟨w1, w2, w3, w4, w5⟩ := vi i hi0
    have w6 := vk (t (11 + i)) w5
    have h11 := MR_at hM 11 (i := i) (by omega)
    rw [nI_clamp (by omega), k4]
    refine ⟨vp_in_nI (by omega) (by omega), s_criesAllDay (by omega) k1 w1 k2 (by omega) w5 (hs _ w5) (by omega) (s_inf10 hM0 v0 (kt a ⟨h11.1, ?_⟩))⟩
    rw [show (11 : Int32) = nI 11 from rfl, h11.2]
    exact s_dayBy hM (by omega) rfl w1 rfl (by omega) w5 rfl (by omega) (hP _ _ _ hS)
theorem d_status {refused : Nat → Int32} {badCalls noCalls fullCalls v1 : Int32} (hS : SR badCalls noCalls fullCalls refused) {P : Int32 → Int32 → Int32 → (Nat → Int32) → Prop} (hP : ∀ r b9 ref9, SR b9 noCalls fullCalls ref9 → P r b9 r ref9) :
    wp_X9_status noCalls fullCalls badCalls v1 (fun r b9 => wp_X10_status refused v1 (fun r' ref9 => P r b9 r' ref9)) := by
  unfold wp_X9_status wp_X10_status
  have gd : ∀ j : Nat, j ≤ 2 → v1.toInt = (j : Int) → ∀ r, r = refused j → wp_X10_in v1.toInt64 0 2 (fun r_1 => (r_1 = 0 → wp_X10_bad refused (-1) (fun r_3 refused_4 => P r badCalls r_3 refused_4)) ∧ (¬ r_1 = 0 → vp_in v1 3 ∧ P r badCalls (refused v1.toNatClampNeg) refused)) := by
    intro j hj ej r er
    have ev : v1 = nI j := by rw [fa_eq, ej, nI_ti (by omega)]
    subst ev er
    refine s_in0 (m := 2) rfl (by decide) (kt (inB_n hj (by omega)) ⟨vp_in_nI (by omega) (by omega), ?_⟩)
    rw [nI_clamp (by omega)]
    exact hP _ _ _ hS
  refine ⟨fun e => gd 0 (by omega) e _ hS.1, fun e => gd 1 (by omega) e _ hS.2.1, fun e => gd 2 (by omega) e _ hS.2.2, fun e x ex => s_in0 (m := 2) rfl (by decide) (kf ?_ (fun y ey g eg => hP _ _ _ (SR_bad hS ex ey eg)))⟩
  unfold inB
  rw [Bool.and_eq_false_iff, decide_eq_false_iff_not, decide_eq_false_iff_not]
  omega
theorem d_part {refused : Nat → Int32} {badCalls noCalls fullCalls v1 : Int32} {above below : Int64} (hS : SR badCalls noCalls fullCalls refused) {P : Int64 → Int32 → Int64 → (Nat → Int32) → Prop} (hP : ∀ r b9 ref9, SR b9 noCalls fullCalls ref9 → P r b9 r ref9) :
    wp_X9_part above below badCalls v1 (fun r b9 => wp_X10_part above below refused v1 (fun r' ref9 => P r b9 r' ref9)) := by
  unfold wp_X9_part wp_X10_part
  refine s_within (m := 1) rfl (by decide) (sp_b (fun a => ?_) (fun a => ?_))
  · refine fun x ex => ⟨fun q => ?_, fun _ => ⟨fun q => ?_, fun _ => fun y ey g eg => hP _ _ _ (SR_bad hS ex ey eg)⟩⟩
    · subst q
      exact absurd a (by decide)
    · subst q
      exact absurd a (by decide)
  · obtain ⟨w, hw, rfl⟩ := inB_t a
    refine pk_eq w 0 (fun q => pk_eq w 0 (fun _ => hP _ _ _ hS) (fun z => absurd q z)) (fun q => pk_eq w 0 (fun z => absurd z q) (fun _ => pk_eq w 1 (fun _ => hP _ _ _ hS) (fun z => absurd q (by omega))))
def bcN (r : Nat) : Nat := fb_ct (fun i => r.testBit i) 6
theorem s_bitCount0 : ∀ r, r < 64 → wp_J6_bitCount_0f7a4 (nI r) (fun x => x = nI (bcN r)) := by
  unfold wp_J6_bitCount_0f7a4
  intro r hr x1 e1 x2 e2 x3 e3 x4 e4 x5 e5
  subst e1 e2 e3 e4 e5
  revert r
  decide +kernel
