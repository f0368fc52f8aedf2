/-! meet, congress, visit. -/
def dfN (a p : Nat) : Nat := if a < p then p - a else a - p
def faN (a p : Nat) : Nat := min (dfN a p) (6 - dfN a p)
theorem df_9 : ∀ a, a < 6 → ∀ p, p < 6 → (if 0 ≤ nI a - nI p then nI a - nI p else 0 - (nI a - nI p)) = nI (dfN a p) ∧ dfN a p < 6 := by decide +kernel
theorem fa_9 : ∀ d, d < 6 → (if 6 - nI d < nI d then 6 - nI d else nI d) = nI (min d (6 - d)) := by decide +kernel
theorem fa_10 (a : Nat) (ha : a < 6) (p : Nat) (hp : p < 6) : wp_X10_far (nI a) (nI p) (fun r => r = nI (faN a p)) := by
  have e6 : ∀ d, d < 6 → (6 : Int32) - nI d = nI (6 - d) := fun d hd => pk_sub (a := 6) (b := d) (by omega)
  unfold wp_X10_far wp_X10_far_J14
  refine ⟨fun z => ?_, fun z => ?_⟩
  · rw [nI_leI (by omega) (by omega)] at z
    rw [pk_sub z]
    refine pk_le (a - p) 3 (fun y => ?_) (fun y => ?_)
    · congr 1
      unfold faN dfN
      split <;> omega
    · rw [e6 _ (by omega)]
      congr 1
      unfold faN dfN
      split <;> omega
  · rw [nI_leI (by omega) (by omega)] at z
    rw [pk_sub (show a ≤ p by omega)]
    refine pk_le (p - a) 3 (fun y => ?_) (fun y => ?_)
    · congr 1
      unfold faN dfN
      split <;> omega
    · rw [e6 _ (by omega)]
      congr 1
      unfold faN dfN
      split <;> omega
theorem m_far {a b : Int32} {P Q : Int32 → Prop} (hPQ : ∀ r, P r → Q r) (hw : wp_X10_far a b P) : wp_X10_far a b Q := by
  unfold wp_X10_far wp_X10_far_J14 at *
  revert hw
  repeat' first | exact hPQ _ | exact id | refine mo_and ?_ ?_ | refine mo_imp ?_
theorem faN_le {a p : Nat} (ha : a < 6) (hp : p < 6) : faN a p < 6 := by
  have := (df_9 a ha p hp).2
  unfold faN
  omega
/-- whether one of a kind with that home can be there awake in that hour -/
def caN (k hm h p : Nat) : Bool := decide (faN hm p + 7 ≤ h) && !slN k h
theorem s_can9 {kind home : Nat → Int32} {i k hm h p : Nat} (hi : i < 6) (hk : kind i = nI k) (hk6 : k < 6) (hh : home i = nI hm) (hh6 : hm < 6) (h7 : 7 ≤ h) (h24 : h < 24) (hp6 : p < 6) {Post : Int32 → Prop} (hp : Post (bI (caN k hm h p))) : wp_X1_canBeAwakeAt kind home (nI i) (nI h) (nI p) Post := by
  have hf := faN_le hh6 hp6
  refine ⟨vp_in_nI hi (by omega), fun x ex y ey => ?_⟩
  rw [nI_clamp (by omega), hh, (df_9 hm hh6 p hp6).1] at ex
  rw [ex, fa_9 _ (df_9 hm hh6 p hp6).2] at ey
  have e7 : nI h - 7 = nI (h - 7) := pk_sub (a := h) (b := 7) h7
  rw [e7]
  unfold caN at hp
  refine pk_lt (h - 7) (faN hm p) (fun z => ?_) (fun z => s_isAsleep hi hk hk6 h24 ?_) rfl ey
  · rw [decide_eq_false (by omega)] at hp
    exact hp
  · rw [decide_eq_true (by omega)] at hp
    cases hs : slN k h <;> rw [hs] at hp
    · exact kf rfl hp
    · exact kt rfl hp
theorem s_can10 {t : Nat → Nat} {told : Nat → Int32} (hM : MR t told) (hV : VV t) {i h p : Nat} (hi : i < t 0) (h7 : 7 ≤ h) (h24 : h < 24) (hp6 : p < 6) {Post : Int32 → Prop} (hp : Post (bI (!(t 10).testBit i && caN (t (24 + i)) (t (30 + i)) h p))) : wp_X10_canBe told (nI i) (nI h) (nI p) Post := by
  obtain ⟨⟨v0, vn, vs, vp, vr, vm⟩, vi, vk, vno, vso, vpa⟩ := id hV
  obtain ⟨w1, w2, w3, w4, w5⟩ := vi i hi
  have h30 := MR_at hM 30 (i := i) (by omega)
  have hf := faN_le w4 hp6
  unfold wp_X10_canBe
  rw [hM 10 (by omega)]
  refine s_has vr (by omega) (sp_b (fun a => ?_) (fun a => ?_))
  · rw [a] at hp
    refine s_isAwake hM (by omega) rfl w1 h24 (sp_b (fun b => ?_) (fun b => ⟨h30.1, ?_⟩))
    · have e : caN (t (24 + i)) (t (30 + i)) h p = false := by
        unfold caN
        rw [b, Bool.and_false]
      rw [e] at hp
      exact hp
    · rw [show (30 : Int32) = nI 30 from rfl, h30.2]
      refine m_far (fun r er => ?_) (fa_10 _ w4 _ hp6)
      have e7 : nI h - 7 = nI (h - 7) := pk_sub (a := h) (b := 7) h7
      rw [e7]
      have e : caN (t (24 + i)) (t (30 + i)) h p = decide (faN (t (30 + i)) p + 7 ≤ h) := by
        unfold caN
        rw [b, Bool.and_true]
      rw [e] at hp
      refine pk_lt (h - 7) (faN (t (30 + i)) p) (fun z => ?_) (fun z => ?_) rfl er
      · rw [decide_eq_false (by omega)] at hp
        exact hp
      · rw [decide_eq_true (by omega)] at hp
        exact hp
  · rw [a] at hp
    exact hp
/-- the first of d from k on -/
def fsP (q : Nat → Bool) : Nat → Nat → Option Nat
  | 0, _ => none
  | d + 1, k => if q k then some k else fsP q d (k + 1)
def fsH (q : Nat → Nat → Bool) : Nat → Nat → Int32
  | 0, _ => -1
  | d + 1, h => match fsP (q h) 6 0 with
    | some p => nI (10 * h + p)
    | none => fsH q d (h + 1)
theorem fsP_succ (q : Nat → Bool) (d k : Nat) : fsP q (d + 1) k = if q k then some k else fsP q d (k + 1) := rfl
def mqN (t : Nat → Nat) (a b h p : Nat) : Bool := caN (t (24 + a)) (t (30 + a)) h p && caN (t (24 + b)) (t (30 + b)) h p
theorem s_meetP9 {infants retired month notes sounds pasts : Int32} {kind months home nurse skills noteRow soundRow pastRow : Nat → Int32} {t : Nat → Nat} (hR : CR t infants retired month notes sounds pasts kind months home nurse skills noteRow soundRow pastRow) (hV : VV t) {a b h : Nat} (ha : a < t 0) (hb : b < t 0) (h7 : 7 ≤ h) (h24 : h < 24) {badCalls noCalls : Int32} {Post : Int32 → Int32 → Int32 → Prop} {K1 : Int32 → Int32 → Int32 → Int32 → Int32 → Prop} {K2 : Int32 → Int32 → Int32 → Int32 → Prop} : ∀ d p, p + d = 6 → (fsP (mqN t a b h) d p = none → K1 (nI a) (nI b) (nI h) badCalls noCalls) → (∀ z, fsP (mqN t a b h) d p = some z → K2 (nI h) (nI z) badCalls noCalls) → wp_X9_meet_L67 infants retired kind home Post K1 K2 (d + 1) (nI a) (nI b) (nI h) (nI p) badCalls noCalls := by
  obtain ⟨⟨v0, vn, vs, vp, vr, vm⟩, vi, vk, vno, vso, vpa⟩ := id hV
  intro d
  induction d with
  | zero =>
    intro p e h1 h2
    obtain rfl : p = 6 := by omega
    exact ⟨fun _ => h1 rfl, fun q => absurd (show (6 : Int32) ≤ nI 6 by decide) q⟩
  | succ d ih =>
    intro p e h1 h2
    obtain ⟨a1, a2, a3, a4⟩ := hR.2.1 a ha
    obtain ⟨b1, b2, b3, b4⟩ := hR.2.1 b hb
    have wa := vi a ha
    have wb := vi b hb
    rw [fsP_succ] at h1 h2
    have go : mqN t a b h p = false → ∀ x : Int32, x = nI p + 1 → wp_X9_meet_L67 infants retired kind home Post K1 K2 (d + 1) (nI a) (nI b) (nI h) x badCalls noCalls := by
      intro q x ex
      rw [q] at h1 h2
      rw [ex, nI_1]
      exact ih (p + 1) (by omega) h1 h2
    refine ⟨fun q => absurd q (nI_ge (a := p) (b := 6) (by omega) (by omega)), fun _ => ?_⟩
    refine s_can9 (by omega) a1 wa.1 a3 wa.2.2.2.1 h7 h24 (by omega) (sp_b (fun q1 => ?_) (fun q1 => ?_))
    · exact go (by unfold mqN; rw [q1]; rfl)
    · refine s_can9 (by omega) b1 wb.1 b3 wb.2.2.2.1 h7 h24 (by omega) (sp_b (fun q2 => ?_) (fun q2 => ?_))
      · exact go (by unfold mqN; rw [q1, q2]; rfl)
      · exact h2 p (by rw [show mqN t a b h p = true by unfold mqN; rw [q1, q2]; rfl]; rfl)
theorem s_meetH9 {infants retired month notes sounds pasts : Int32} {kind months home nurse skills noteRow soundRow pastRow : Nat → Int32} {t : Nat → Nat} (hR : CR t infants retired month notes sounds pasts kind months home nurse skills noteRow soundRow pastRow) (hV : VV t) {a b : Nat} (ha : a < t 0) (hb : b < t 0) {badCalls noCalls : Int32} {Post : Int32 → Int32 → Int32 → Prop} : ∀ d h, h + d = 24 → 7 ≤ h → Post (fsH (mqN t a b) d h) badCalls noCalls → wp_X9_meet_L58 infants retired kind home Post (fun (v3_44 : Int32) (v4_45 : Int32) (badCalls_46 : Int32) (noCalls_47 : Int32) => Post ((10 * v3_44) + v4_45) badCalls_46 noCalls_47) (d + 1) (nI a) (nI b) (nI h) badCalls noCalls := by
  intro d
  induction d with
  | zero =>
    intro h e h7 hp
    obtain rfl : h = 24 := by omega
    exact ⟨fun _ => hp, fun q => absurd (show (24 : Int32) ≤ nI 24 by decide) q⟩
  | succ d ih =>
    intro h e h7 hp
    refine ⟨fun q => absurd q (nI_ge (a := h) (b := 24) (by omega) (by omega)), fun _ => ⟨7, s_meetP9 hR hV ha hb h7 (by omega) 6 0 (by omega) (fun q x ex => ?_) (fun z q => ?_)⟩⟩
    · rw [ex, nI_1]
      refine ih (h + 1) (by omega) (by omega) ?_
      unfold fsH at hp
      rw [q] at hp
      exact hp
    · unfold fsH at hp
      rw [q] at hp
      show Post ((10 : Int32) * nI h + nI z) badCalls noCalls
      rw [show (10 : Int32) = nI 10 from rfl, pk_mul, nI_add]
      exact hp
theorem s_meetP10 {t : Nat → Nat} {told : Nat → Int32} (hM : MR t told) (hV : VV t) {a b h : Nat} (ha : a < t 0) (hb : b < t 0) (ra : (t 10).testBit a = false) (rb : (t 10).testBit b = false) (h7 : 7 ≤ h) (h24 : h < 24) {refused : Nat → Int32} {Post : Int32 → (Nat → Int32) → Prop} {K1 : Int32 → Int32 → Int32 → (Nat → Int32) → Prop} {K2 : Int32 → Int32 → (Nat → Int32) → Prop} : ∀ d p, p + d = 6 → (fsP (mqN t a b h) d p = none → K1 (nI a) (nI b) (nI h) refused) → (∀ z, fsP (mqN t a b h) d p = some z → K2 (nI h) (nI z) refused) → wp_X10_meet_L73 told Post K1 K2 (d + 1) (nI a) (nI b) (nI h) (nI p) refused := by
  intro d
  induction d with
  | zero =>
    intro p e h1 h2
    obtain rfl : p = 6 := by omega
    exact ⟨fun _ => h1 rfl, fun q => absurd (show (6 : Int32) ≤ nI 6 by decide) q⟩
  | succ d ih =>
    intro p e h1 h2
    rw [fsP_succ] at h1 h2
    have go : mqN t a b h p = false → ∀ x : Int32, x = nI p + 1 → wp_X10_meet_L73 told Post K1 K2 (d + 1) (nI a) (nI b) (nI h) x refused := by
      intro q x ex
      rw [q] at h1 h2
      rw [ex, nI_1]
      exact ih (p + 1) (by omega) h1 h2
    refine ⟨fun q => absurd q (nI_ge (a := p) (b := 6) (by omega) (by omega)), fun _ => ?_⟩
    refine s_can10 hM hV ha h7 h24 (by omega) (sp_b (fun q1 => ?_) (fun q1 => ?_))
    · rw [ra] at q1
      exact go (by unfold mqN; rw [show caN (t (24 + a)) (t (30 + a)) h p = false from q1]; rfl)
    · rw [ra] at q1
      refine s_can10 hM hV hb h7 h24 (by omega) (sp_b (fun q2 => ?_) (fun q2 => ?_))
      · rw [rb] at q2
        exact go (by unfold mqN; rw [show caN (t (24 + b)) (t (30 + b)) h p = false from q2, Bool.and_false])
      · rw [rb] at q2
        exact h2 p (by rw [show mqN t a b h p = true by unfold mqN; rw [show caN (t (24 + a)) (t (30 + a)) h p = true from q1, show caN (t (24 + b)) (t (30 + b)) h p = true from q2]; rfl]; rfl)
theorem s_meetH10 {t : Nat → Nat} {told : Nat → Int32} (hM : MR t told) (hV : VV t) {a b : Nat} (ha : a < t 0) (hb : b < t 0) (ra : (t 10).testBit a = false) (rb : (t 10).testBit b = false) {refused : Nat → Int32} {Post : Int32 → (Nat → Int32) → Prop} : ∀ d h, h + d = 24 → 7 ≤ h → Post (fsH (mqN t a b) d h) refused → wp_X10_meet_L64 told Post (fun (v3_40 : Int32) (v4_41 : Int32) (refused_42 : Nat → Int32) => Post ((10 * v3_40) + v4_41) refused_42) (d + 1) (nI a) (nI b) (nI h) refused := by
  intro d
  induction d with
  | zero =>
    intro h e h7 hp
    obtain rfl : h = 24 := by omega
    exact ⟨fun _ => hp, fun q => absurd (show (24 : Int32) ≤ nI 24 by decide) q⟩
  | succ d ih =>
    intro h e h7 hp
    refine ⟨fun q => absurd q (nI_ge (a := h) (b := 24) (by omega) (by omega)), fun _ => ⟨7, s_meetP10 hM hV ha hb ra rb h7 (by omega) 6 0 (by omega) (fun q x ex => ?_) (fun z q => ?_)⟩⟩
    · rw [ex, nI_1]
      refine ih (h + 1) (by omega) (by omega) ?_
      unfold fsH at hp
      rw [q] at hp
      exact hp
    · unfold fsH at hp
      rw [q] at hp
      show Post ((10 : Int32) * nI h + nI z) refused
      rw [show (10 : Int32) = nI 10 from rfl, pk_mul, nI_add]
      exact hp
theorem d_meet {infants retired month notes sounds pasts : Int32} {kind months home nurse skills noteRow soundRow pastRow : Nat → Int32} {told refused : Nat → Int32} {badCalls noCalls fullCalls v1 v2 : Int32} (hC : CC infants retired month notes sounds pasts kind months home nurse skills noteRow soundRow pastRow told) (hS : SR badCalls noCalls fullCalls refused) {P : Int32 → Int32 → Int32 → Int32 → (Nat → Int32) → Prop} (hP : ∀ r b9 n9 ref9, SR b9 n9 fullCalls ref9 → P r b9 n9 r ref9) :
    wp_X9_meet infants retired kind home badCalls noCalls v1 v2 (fun r b9 n9 => wp_X10_meet told refused v1 v2 (fun r' ref9 => P r b9 n9 r' ref9)) := by
  obtain ⟨t, hR, hM, hV⟩ := id hC
  obtain ⟨⟨e0, e10, e17, e1, e2, e3⟩, hi, hs, hn, ho, hp⟩ := id hR
  obtain ⟨⟨v0, vn, vs, vp, vr, vm⟩, vi, vk, vno, vso, vpa⟩ := id hV
  have hM0 := hM 0 (by omega)
  have hM10 := hM 10 (by omega)
  unfold wp_X9_meet wp_X10_meet wp_X9_meet_J21 wp_X10_meet_J21 wp_X9_meet_J50 wp_X10_meet_J56
  rw [hM10, e10]
  refine s_inf9 e0 v0 (sp_b (fun a => ?_) (fun a => s_inf9 e0 v0 (sp_b (fun b => ?_) (fun b => ⟨fun c => ?_, fun c => ?_⟩))))
  · exact fun x ex => s_inf10 hM0 v0 (kf a (fun y ey g eg => hP _ _ _ _ (SR_bad hS ex ey eg)))
  · exact fun x ex => s_inf10 hM0 v0 (kt a (s_inf10 hM0 v0 (kf b (fun y ey g eg => hP _ _ _ _ (SR_bad hS ex ey eg)))))
  · exact fun x ex => s_inf10 hM0 v0 (kt a (s_inf10 hM0 v0 (kt b ⟨fun _ y ey g eg => hP _ _ _ _ (SR_bad hS ex ey eg), fun z => absurd c z⟩)))
  · obtain ⟨i, hi0, rfl⟩ := inF_t a
    obtain ⟨j, hj0, rfl⟩ := inF_t b
    refine s_isRetired vr (by omega) (sp_b (fun r1 => s_isRetired vr (by omega) (sp_b (fun r2 => ?_) (fun r2 => ?_))) (fun r1 => ?_))
    · have hR' : CR t infants (nI (t 10)) month notes sounds pasts kind months home nurse skills noteRow soundRow pastRow := by rw [← e10]; exact hR
      exact ⟨18, s_meetH9 hR' hV hi0 hj0 17 7 (by omega) (by omega) (s_inf10 hM0 v0 (kt a (s_inf10 hM0 v0 (kt b ⟨fun z => absurd z c, fun _ => s_has vr (by omega) (kf r1 (s_has vr (by omega) (kf r2 ⟨18, s_meetH10 hM hV hi0 hj0 r1 r2 17 7 (by omega) (by omega) (hP _ _ _ _ hS)⟩)))⟩))))⟩
    · exact fun x ex => s_inf10 hM0 v0 (kt a (s_inf10 hM0 v0 (kt b ⟨fun z => absurd z c, fun _ => s_has vr (by omega) (kf r1 (s_has vr (by omega) (kt r2 (fun y ey g eg => hP _ _ _ _ (SR_no hS ex ey eg)))))⟩)))
    · exact fun x ex => s_inf10 hM0 v0 (kt a (s_inf10 hM0 v0 (kt b ⟨fun z => absurd z c, fun _ => s_has vr (by omega) (kt r1 (fun y ey g eg => hP _ _ _ _ (SR_no hS ex ey eg)))⟩)))
