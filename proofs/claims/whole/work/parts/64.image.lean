/-! image, from. -/
def KR (j : Nat) (kept mik mk : Nat → Int32) (infants retired month notes sounds pasts : Int32) (kind months home nurse skills noteRow soundRow pastRow : Nat → Int32) : Prop := kept j = mik j ∧ (¬ kept j = 0 → CC infants retired month notes sounds pasts kind months home nurse skills noteRow soundRow pastRow (fun k => mk (190 * j + k)))
theorem CR_copy {infants retired month notes sounds pasts : Int32} {kind months home nurse skills noteRow soundRow pastRow : Nat → Int32} {kind2 months2 home2 nurse2 skills2 noteRow2 soundRow2 pastRow2 : Nat → Int32} {t : Nat → Nat} (hR : CR t infants retired month notes sounds pasts kind months home nurse skills noteRow soundRow pastRow) (hV : VV t) : CR t infants retired month notes sounds pasts (va_cpy kind kind2 0 0 6) (va_cpy months months2 0 0 6) (va_cpy home home2 0 0 6) (va_cpy nurse nurse2 0 0 6) (va_cpy skills skills2 0 0 6) (va_cpy noteRow noteRow2 0 0 30) (va_cpy soundRow soundRow2 0 0 12) (va_cpy pastRow pastRow2 0 0 112) := by
  obtain ⟨h0, hi, hs, hn, ho, hp⟩ := hR
  obtain ⟨⟨v0, vn, vs, vp, vr, vm⟩, vi, vk, vno, vso, vpa⟩ := hV
  have cp : ∀ (f g : Nat → Int32) (n k : Nat), k < n → va_cpy f g 0 0 n k = f k := by
    intro f g n k h
    rw [pk_cpy_in (Nat.zero_le _) (by omega), Nat.zero_add, Nat.sub_zero]
  refine ⟨h0, ?_, ?_, ?_, ?_, ?_⟩
  · intro i h
    rw [cp _ _ _ _ (by omega), cp _ _ _ _ (by omega), cp _ _ _ _ (by omega), cp _ _ _ _ (by omega)]
    exact hi i h
  · intro j h
    rw [cp _ _ _ _ h]
    exact hs j h
  · intro k h
    rw [cp _ _ _ _ (by omega)]
    exact hn k h
  · intro k h
    rw [cp _ _ _ _ (by omega)]
    exact ho k h
  · intro p h
    rw [cp _ _ _ _ (by omega), cp _ _ _ _ (by omega)]
    refine ⟨(hp p h).1, (hp p h).2.1, fun i h2 => ?_⟩
    rw [cp _ _ _ _ (by omega), cp _ _ _ _ (by omega)]
    exact (hp p h).2.2 i h2
theorem s_copy9 {infants retired month notes sounds pasts : Int32} {kind months home nurse skills noteRow soundRow pastRow : Nat → Int32} {o_infants o_retired o_month o_notes o_sounds o_pasts : Int32} {o_kind o_months o_home o_nurse o_skills o_noteRow o_soundRow o_pastRow : Nat → Int32} {t : Nat → Nat} (hR : CR t o_infants o_retired o_month o_notes o_sounds o_pasts o_kind o_months o_home o_nurse o_skills o_noteRow o_soundRow o_pastRow) (hV : VV t) {Post : Int32 → Int32 → Int32 → Int32 → Int32 → Int32 → (Nat → Int32) → (Nat → Int32) → (Nat → Int32) → (Nat → Int32) → (Nat → Int32) → (Nat → Int32) → (Nat → Int32) → (Nat → Int32) → Prop} (hp : ∀ a1 a2 a3 a4 a5 a6 a7 a8 a9 b1 b2 b3 b4 b5, CR t a1 a2 a3 a4 a5 a6 a7 a8 a9 b1 b2 b3 b4 b5 → Post a1 a2 a3 a4 a5 a6 a7 a8 a9 b1 b2 b3 b4 b5) : wp_X1_copyFrom o_infants o_retired o_month o_notes o_sounds o_pasts o_kind o_months o_home o_nurse o_skills o_noteRow o_soundRow o_pastRow infants retired month notes sounds pasts kind months home nurse skills noteRow soundRow pastRow Post := by
  unfold wp_X1_copyFrom
  intro f1 e1 f2 e2 f3 e3 f4 e4 f5 e5 f6 e6 f7 e7 f8 e8
  subst e1 e2 e3 e4 e5 e6 e7 e8
  exact hp _ _ _ _ _ _ _ _ _ _ _ _ _ _ (CR_copy hR hV)
theorem s_imgL10 {told : Nat → Int32} {j : Nat} (hj : j ≤ 1) {mk mik refused : Nat → Int32} {Post : Int32 → (Nat → Int32) → (Nat → Int32) → (Nat → Int32) → Prop} {K : Int32 → (Nat → Int32) → (Nat → Int32) → (Nat → Int32) → Prop} (hp : ∀ f, (∀ k, k < 190 → f (190 * j + k) = told k) → (∀ k, k < 190 * j ∨ 190 * j + 190 ≤ k → f k = mk k) → K (nI j) f mik refused) : ∀ d k, k + d = 190 → ∀ f, (∀ i, i < k → f (190 * j + i) = told i) → (∀ i, i < 190 * j ∨ 190 * j + 190 ≤ i → f i = mk i) → wp_X10_image_L19 told Post K (d + 1) (nI j) (nI k) f mik refused := by
  intro d
  induction d with
  | zero =>
    intro k e f h1 h2
    obtain rfl : k = 190 := by omega
    exact ⟨fun _ => hp f h1 h2, fun q => absurd (show (190 : Int32) ≤ nI 190 by decide) q⟩
  | succ d ih =>
    intro k e f h1 h2
    have ei : (190 : Int32) * nI j + nI k = nI (190 * j + k) := by rw [show (190 : Int32) = nI 190 from rfl, pk_mul, nI_add]
    rw [show wp_X10_image_L19 told Post K (d + 1 + 1) (nI j) (nI k) f mik refused = ((190 ≤ nI k → K (nI j) f mik refused) ∧ (¬ (190 : Int32) ≤ nI k → (vp_in (nI k) 190 ∧ (∀ x_5 : Int32, x_5 = told (nI k).toNatClampNeg → (vp_in ((190 * nI j) + nI k) 380 ∧ (∀ f_7 : Nat → Int32, f_7 = upd f ((190 * nI j) + nI k).toNatClampNeg x_5 → (∀ x_8 : Int32, x_8 = nI k + 1 → wp_X10_image_L19 told Post K (d + 1) (nI j) x_8 f_7 mik refused))))))) from rfl, ei, nI_clamp (by omega), nI_clamp (by omega)]
    refine ⟨fun q => absurd q (nI_ge (a := k) (b := 190) (by omega) (by omega)), fun _ => ⟨vp_in_nI (by omega) (by omega), fun x ex => ⟨vp_in_nI (by omega) (by omega), fun g eg y ey => ?_⟩⟩⟩
    rw [ey, nI_1]
    refine ih (k + 1) (by omega) g (fun i hi => ?_) (fun i hi => ?_)
    · rw [eg, upd_at]
      by_cases z : i = k
      · rw [if_pos (by omega), ex, z]
      · rw [if_neg (by omega)]
        exact h1 i (by omega)
    · rw [eg, upd_at, if_neg (by omega)]
      exact h2 i hi
theorem CC_cong {infants retired month notes sounds pasts : Int32} {kind months home nurse skills noteRow soundRow pastRow : Nat → Int32} {told told2 : Nat → Int32} (h : CC infants retired month notes sounds pasts kind months home nurse skills noteRow soundRow pastRow told) (he : ∀ k, k < 190 → told2 k = told k) : CC infants retired month notes sounds pasts kind months home nurse skills noteRow soundRow pastRow told2 := by
  obtain ⟨t, hR, hM, hV⟩ := h
  exact ⟨t, hR, fun k hk => by rw [he k hk]; exact hM k hk, hV⟩
theorem d_image {infants retired month notes sounds pasts : Int32} {kind months home nurse skills noteRow soundRow pastRow : Nat → Int32} {p_infants p_retired p_month p_notes p_sounds p_pasts : Int32} {p_kind p_months p_home p_nurse p_skills p_noteRow p_soundRow p_pastRow : Nat → Int32} {q_infants q_retired q_month q_notes q_sounds q_pasts : Int32} {q_kind q_months q_home q_nurse q_skills q_noteRow q_soundRow q_pastRow : Nat → Int32} {told refused kept mk mik : Nat → Int32} {badCalls noCalls fullCalls v1 : Int32} (hC : CC infants retired month notes sounds pasts kind months home nurse skills noteRow soundRow pastRow told) (hS : SR badCalls noCalls fullCalls refused) (h0 : KR 0 kept mik mk p_infants p_retired p_month p_notes p_sounds p_pasts p_kind p_months p_home p_nurse p_skills p_noteRow p_soundRow p_pastRow) (h1 : KR 1 kept mik mk q_infants q_retired q_month q_notes q_sounds q_pasts q_kind q_months q_home q_nurse q_skills q_noteRow q_soundRow q_pastRow) {P : Int32 → Int32 → (Nat → Int32) → Int32 → Int32 → Int32 → Int32 → Int32 → Int32 → (Nat → Int32) → (Nat → Int32) → (Nat → Int32) → (Nat → Int32) → (Nat → Int32) → (Nat → Int32) → (Nat → Int32) → (Nat → Int32) → Int32 → Int32 → Int32 → Int32 → Int32 → Int32 → (Nat → Int32) → (Nat → Int32) → (Nat → Int32) → (Nat → Int32) → (Nat → Int32) → (Nat → Int32) → (Nat → Int32) → (Nat → Int32) → Int32 → (Nat → Int32) → (Nat → Int32) → (Nat → Int32) → Prop} (hP : ∀ r b9 k9 a1 a2 a3 a4 a5 a6 a7 a8 a9 b1 b2 b3 b4 b5 c1 c2 c3 c4 c5 c6 c7 c8 c9 d1 d2 d3 d4 d5 mk9 mik9 ref9, KR 0 k9 mik9 mk9 a1 a2 a3 a4 a5 a6 a7 a8 a9 b1 b2 b3 b4 b5 → KR 1 k9 mik9 mk9 c1 c2 c3 c4 c5 c6 c7 c8 c9 d1 d2 d3 d4 d5 → SR b9 noCalls fullCalls ref9 → P r b9 k9 a1 a2 a3 a4 a5 a6 a7 a8 a9 b1 b2 b3 b4 b5 c1 c2 c3 c4 c5 c6 c7 c8 c9 d1 d2 d3 d4 d5 r mk9 mik9 ref9) :
    wp_X9_image infants retired month notes sounds pasts kind months home nurse skills noteRow soundRow pastRow badCalls kept p_infants p_retired p_month p_notes p_sounds p_pasts p_kind p_months p_home p_nurse p_skills p_noteRow p_soundRow p_pastRow q_infants q_retired q_month q_notes q_sounds q_pasts q_kind q_months q_home q_nurse q_skills q_noteRow q_soundRow q_pastRow v1 (fun r b9 k9 a1 a2 a3 a4 a5 a6 a7 a8 a9 b1 b2 b3 b4 b5 c1 c2 c3 c4 c5 c6 c7 c8 c9 d1 d2 d3 d4 d5 => wp_X10_image told mk mik refused v1 (fun r' mk9 mik9 ref9 => P r b9 k9 a1 a2 a3 a4 a5 a6 a7 a8 a9 b1 b2 b3 b4 b5 c1 c2 c3 c4 c5 c6 c7 c8 c9 d1 d2 d3 d4 d5 r' mk9 mik9 ref9)) := by
  obtain ⟨t, hR, hM, hV⟩ := id hC
  have nar : vp_nar .boolean 1 = 1 := rfl
  unfold wp_X9_image wp_X10_image
  refine s_within (m := 1) rfl (by decide) (sp_b (fun a => ?_) (fun a => ?_))
  · exact fun x ex => s_in0 (m := 1) rfl (by decide) (kf a (fun y ey g eg => hP _ _ _ _ _ _ _ _ _ _ _ _ _ _ _ _ _ _ _ _ _ _ _ _ _ _ _ _ _ _ _ _ _ _ h0 h1 (SR_bad hS ex ey eg)))
  · obtain ⟨j, hj, rfl⟩ := inB_t a
    rw [nI_clamp (by omega), nar]
    refine ⟨vp_in_nI (by omega) (by omega), fun z => ?_, fun z => ?_⟩
    · subst z
      refine s_copy9 hR hV (fun a1 a2 a3 a4 a5 a6 a7 a8 a9 b1 b2 b3 b4 b5 hR2 f ef => s_in0 (m := 1) rfl (by decide) (kt a ⟨191, s_imgL10 (j := 0) (mk := mk) hj (fun g g1 g2 => ?_) 190 0 (by omega) mk (fun i hi => absurd hi (Nat.not_lt_zero i)) (fun i _ => rfl)⟩))
      rw [nI_clamp (by omega)]
      refine ⟨vp_in_nI (by omega) (by omega), fun f2 ef2 => hP _ _ _ _ _ _ _ _ _ _ _ _ _ _ _ _ _ _ _ _ _ _ _ _ _ _ _ _ _ _ _ _ _ _ ⟨?_, fun _ => ?_⟩ ⟨?_, fun w => ?_⟩ hS⟩
      · rw [ef, ef2, pk_us, pk_us]
      · exact CC_cong ⟨t, hR2, hM, hV⟩ g1
      · rw [ef, ef2, pk_un (by omega), pk_un (by omega)]
        exact h1.1
      · rw [ef, pk_un (by omega)] at w
        exact CC_cong (h1.2 w) (fun k hk => g2 _ (by omega))
    · subst z
      refine s_copy9 hR hV (fun a1 a2 a3 a4 a5 a6 a7 a8 a9 b1 b2 b3 b4 b5 hR2 f ef => s_in0 (m := 1) rfl (by decide) (kt a ⟨191, s_imgL10 (j := 1) (mk := mk) hj (fun g g1 g2 => ?_) 190 0 (by omega) mk (fun i hi => absurd hi (Nat.not_lt_zero i)) (fun i _ => rfl)⟩))
      rw [nI_clamp (by omega)]
      refine ⟨vp_in_nI (by omega) (by omega), fun f2 ef2 => hP _ _ _ _ _ _ _ _ _ _ _ _ _ _ _ _ _ _ _ _ _ _ _ _ _ _ _ _ _ _ _ _ _ _ ⟨?_, fun w => ?_⟩ ⟨?_, fun _ => ?_⟩ hS⟩
      · rw [ef, ef2, pk_un (by omega), pk_un (by omega)]
        exact h0.1
      · rw [ef, pk_un (by omega)] at w
        exact CC_cong (h0.2 w) (fun k hk => g2 _ (by omega))
      · rw [ef, ef2, pk_us, pk_us]
      · exact CC_cong ⟨t, hR2, hM, hV⟩ g1
theorem s_fromL10 {mk mik : Nat → Int32} {j : Nat} (hj : j ≤ 1) {refused : Nat → Int32} {Post : Int32 → (Nat → Int32) → (Nat → Int32) → Prop} (hp : ∀ f, (∀ k, k < 190 → f k = mk (190 * j + k)) → Post 1 f refused) : ∀ d k, k + d = 190 → ∀ f, (∀ i, i < k → f i = mk (190 * j + i)) → wp_X10_from_L33 mk mik Post (d + 1) (nI j) (nI k) f refused := by
  intro d
  induction d with
  | zero =>
    intro k e f h1
    obtain rfl : k = 190 := by omega
    exact ⟨fun _ => hp f h1, fun q => absurd (show (190 : Int32) ≤ nI 190 by decide) q⟩
  | succ d ih =>
    intro k e f h1
    have ei : (190 : Int32) * nI j + nI k = nI (190 * j + k) := by rw [show (190 : Int32) = nI 190 from rfl, pk_mul, nI_add]
    refine ⟨fun q => absurd q (nI_ge (a := k) (b := 190) (by omega) (by omega)), fun _ => ?_⟩
    rw [ei, nI_clamp (by omega), nI_clamp (by omega)]
    refine ⟨vp_in_nI (by omega) (by omega), fun x ex => ⟨vp_in_nI (by omega) (by omega), fun g eg y ey => ?_⟩⟩
    rw [ey, nI_1]
    refine ih (k + 1) (by omega) g (fun i hi => ?_)
    rw [eg, upd_at]
    by_cases z : i = k
    · rw [if_pos z, ex, z]
    · rw [if_neg z]
      exact h1 i (by omega)
theorem d_from {infants retired month notes sounds pasts : Int32} {kind months home nurse skills noteRow soundRow pastRow : Nat → Int32} {p_infants p_retired p_month p_notes p_sounds p_pasts : Int32} {p_kind p_months p_home p_nurse p_skills p_noteRow p_soundRow p_pastRow : Nat → Int32} {q_infants q_retired q_month q_notes q_sounds q_pasts : Int32} {q_kind q_months q_home q_nurse q_skills q_noteRow q_soundRow q_pastRow : Nat → Int32} {told refused kept mk mik : Nat → Int32} {badCalls noCalls fullCalls v1 : Int32} (hC : CC infants retired month notes sounds pasts kind months home nurse skills noteRow soundRow pastRow told) (hS : SR badCalls noCalls fullCalls refused) (h0 : KR 0 kept mik mk p_infants p_retired p_month p_notes p_sounds p_pasts p_kind p_months p_home p_nurse p_skills p_noteRow p_soundRow p_pastRow) (h1 : KR 1 kept mik mk q_infants q_retired q_month q_notes q_sounds q_pasts q_kind q_months q_home q_nurse q_skills q_noteRow q_soundRow q_pastRow) {P : Int32 → Int32 → Int32 → Int32 → Int32 → Int32 → Int32 → Int32 → Int32 → (Nat → Int32) → (Nat → Int32) → (Nat → Int32) → (Nat → Int32) → (Nat → Int32) → (Nat → Int32) → (Nat → Int32) → (Nat → Int32) → Int32 → (Nat → Int32) → (Nat → Int32) → Prop} (hP : ∀ r b9 n9 a1 a2 a3 a4 a5 a6 a7 a8 a9 b1 b2 b3 b4 b5 told9 ref9, CC a1 a2 a3 a4 a5 a6 a7 a8 a9 b1 b2 b3 b4 b5 told9 → SR b9 n9 fullCalls ref9 → P r b9 n9 a1 a2 a3 a4 a5 a6 a7 a8 a9 b1 b2 b3 b4 b5 r told9 ref9) :
    wp_X9_from kept p_infants p_retired p_month p_notes p_sounds p_pasts p_kind p_months p_home p_nurse p_skills p_noteRow p_soundRow p_pastRow q_infants q_retired q_month q_notes q_sounds q_pasts q_kind q_months q_home q_nurse q_skills q_noteRow q_soundRow q_pastRow badCalls noCalls infants retired month notes sounds pasts kind months home nurse skills noteRow soundRow pastRow v1 (fun r b9 n9 a1 a2 a3 a4 a5 a6 a7 a8 a9 b1 b2 b3 b4 b5 => wp_X10_from mk mik told refused v1 (fun r' told9 ref9 => P r b9 n9 a1 a2 a3 a4 a5 a6 a7 a8 a9 b1 b2 b3 b4 b5 r' told9 ref9)) := by
  unfold wp_X9_from wp_X10_from
  refine s_within (m := 1) rfl (by decide) (sp_b (fun a => ?_) (fun a => ?_))
  · exact fun x ex => s_in0 (m := 1) rfl (by decide) (kf a (fun y ey g eg => hP _ _ _ _ _ _ _ _ _ _ _ _ _ _ _ _ _ _ _ hC (SR_bad hS ex ey eg)))
  · obtain ⟨j, hj, rfl⟩ := inB_t a
    rw [nI_clamp (by omega)]
    have hkm : kept j = mik j := by
      rcases Nat.eq_zero_or_pos j with z | z
      · subst z; exact h0.1
      · obtain rfl : j = 1 := by omega
        exact h1.1
    refine ⟨vp_in_nI (by omega) (by omega), fun z x ex => ?_, fun z => ⟨fun w => ?_, fun w => ?_⟩⟩
    · exact s_in0 (m := 1) rfl (by decide) (kt a ⟨vp_in_nI (by omega) (by omega), fun _ y ey g eg => hP _ _ _ _ _ _ _ _ _ _ _ _ _ _ _ _ _ _ _ hC (SR_no hS ex ey eg), fun w => absurd (hkm.symm.trans z) w⟩)
    · subst w
      obtain ⟨t, hR, hM, hV⟩ := h0.2 z
      exact s_copy9 hR hV (fun a1 a2 a3 a4 a5 a6 a7 a8 a9 b1 b2 b3 b4 b5 hR2 => s_in0 (m := 1) rfl (by decide) (kt a ⟨vp_in_nI (by omega) (by omega), fun w => absurd (hkm.trans w) z, fun _ => ⟨191, s_fromL10 (j := 0) hj (fun f hf => hP _ _ _ _ _ _ _ _ _ _ _ _ _ _ _ _ _ _ _ (CC_cong ⟨t, hR2, hM, hV⟩ hf) hS) 190 0 (by omega) _ (fun i hi => absurd hi (Nat.not_lt_zero i))⟩⟩))
    · subst w
      obtain ⟨t, hR, hM, hV⟩ := h1.2 z
      exact s_copy9 hR hV (fun a1 a2 a3 a4 a5 a6 a7 a8 a9 b1 b2 b3 b4 b5 hR2 => s_in0 (m := 1) rfl (by decide) (kt a ⟨vp_in_nI (by omega) (by omega), fun w => absurd (hkm.trans w) z, fun _ => ⟨191, s_fromL10 (j := 1) hj (fun f hf => hP _ _ _ _ _ _ _ _ _ _ _ _ _ _ _ _ _ _ _ (CC_cong ⟨t, hR2, hM, hV⟩ hf) hS) 190 0 (by omega) _ (fun i hi => absurd hi (Nat.not_lt_zero i))⟩⟩))
