/-! congress, visit. -/
def awN (t : Nat → Nat) (h p : Nat) : Nat := fb_ct (fun i => !(t 10).testBit i && caN (t (24 + i)) (t (30 + i)) h p) (t 0)
theorem awN_le {t : Nat → Nat} (hV : VV t) (h p : Nat) : awN t h p ≤ 6 := Nat.le_trans (fb_ct_le _ _) hV.1.1
theorem s_awL9 {infants retired month notes sounds pasts : Int32} {kind months home nurse skills noteRow soundRow pastRow : Nat → Int32} {t : Nat → Nat} (hR : CR t infants retired month notes sounds pasts kind months home nurse skills noteRow soundRow pastRow) (hV : VV t) {h p : Nat} (h7 : 7 ≤ h) (h24 : h < 24) (hp6 : p < 6) {Post : Int32 → Prop} (hp : Post (nI (awN t h p))) : ∀ d i, i + d = t 0 → wp_X1_awakeAt_L5 infants retired kind home Post (d + 1) (nI h) (nI p) (nI (fb_ct (fun i => !(t 10).testBit i && caN (t (24 + i)) (t (30 + i)) h p) i)) (nI i) := by
  obtain ⟨⟨e0, e10, e17, e1, e2, e3⟩, hi, hs, hn, ho, hpp⟩ := id hR
  obtain ⟨⟨v0, vn, vs, vp, vr, vm⟩, vi, vk, vno, vso, vpa⟩ := id hV
  intro d
  induction d with
  | zero =>
    intro i e
    obtain rfl : i = t 0 := by omega
    rw [e0]
    exact ⟨fun _ => hp, fun q => absurd (nI_le (Nat.le_refl _) (by omega)) q⟩
  | succ d ih =>
    intro i e
    have ih' := ih (i + 1) (by omega)
    rw [fb_ct_succ] at ih'
    obtain ⟨a1, a2, a3, a4⟩ := hi i (by omega)
    have wa := vi i (by omega)
    refine ⟨fun q => absurd q (by rw [e0]; exact nI_ge (by omega) (by omega)), fun _ => ?_⟩
    rw [e10]
    rw [e10] at ih'
    refine s_isRetired vr (by omega) (sp_b (fun r => ?_) (fun r => ?_))
    · rw [r] at ih'
      refine s_can9 (by omega) a1 wa.1 a3 wa.2.2.2.1 h7 h24 hp6 (sp_b (fun c x ex => ?_) (fun c y ey x ex => ?_))
      · rw [c] at ih'
        rw [ex, nI_1]
        exact ih'
      · rw [c] at ih'
        rw [ex, ey, nI_1, nI_1]
        exact ih'
    · rw [r] at ih'
      intro x ex
      rw [ex, nI_1]
      exact ih'
theorem s_aw9 {infants retired month notes sounds pasts : Int32} {kind months home nurse skills noteRow soundRow pastRow : Nat → Int32} {t : Nat → Nat} (hR : CR t infants retired month notes sounds pasts kind months home nurse skills noteRow soundRow pastRow) (hV : VV t) {h p : Nat} (h7 : 7 ≤ h) (h24 : h < 24) (hp6 : p < 6) {Post : Int32 → Prop} (hp : Post (nI (awN t h p))) : wp_X1_awakeAt infants retired kind home (nI h) (nI p) Post :=
  ⟨t 0 + 1, s_awL9 hR hV h7 h24 hp6 hp (t 0) 0 (by omega)⟩
theorem s_awL10 {t : Nat → Nat} {told : Nat → Int32} (hM : MR t told) (hV : VV t) {h p : Nat} (h7 : 7 ≤ h) (h24 : h < 24) (hp6 : p < 6) {v1 v2 v3 : Int32} {refused : Nat → Int32} {Post : Int32 → (Nat → Int32) → Prop} {K : Int32 → Int32 → Int32 → Int32 → Int32 → Int32 → (Nat → Int32) → Prop} (hp : K v1 v2 v3 (nI h) (nI p) (nI (awN t h p)) refused) : ∀ d i, i + d = t 0 → wp_X10_congress_L48 told Post K (d + 1) v1 v2 v3 (nI h) (nI p) (nI (fb_ct (fun i => !(t 10).testBit i && caN (t (24 + i)) (t (30 + i)) h p) i)) (nI i) refused := by
  have v0 := hV.1.1
  intro d
  induction d with
  | zero =>
    intro i e
    obtain rfl : i = t 0 := by omega
    show wp_X10_many told _
    unfold wp_X10_many
    rw [hM 0 (by omega)]
    exact ⟨fun _ => hp, fun q => absurd (nI_le (Nat.le_refl _) (by omega)) q⟩
  | succ d ih =>
    intro i e
    have ih' := ih (i + 1) (by omega)
    rw [fb_ct_succ] at ih'
    show wp_X10_many told _
    unfold wp_X10_many
    rw [hM 0 (by omega)]
    refine ⟨fun q => absurd q (nI_ge (by omega) (by omega)), fun _ => s_can10 hM hV (by omega) h7 h24 hp6 (sp_b (fun c y ey x ex => ?_) (fun c y ey x ex => ?_))⟩
    · rw [c] at ih'
      rw [ex, ey, nI_1, show (0 : Int32) = nI 0 from rfl, nI_add]
      exact ih'
    · rw [c] at ih'
      rw [ex, ey, nI_1, nI_1]
      exact ih'
/-- the best so far: how many, where -/
def cgP (n : Nat → Nat → Nat) (h : Nat) (s : Nat × Option Nat) : Nat → Nat × Option Nat
  | 0 => s
  | p + 1 => if (cgP n h s p).1 < n h p then (n h p, some (10 * h + p)) else cgP n h s p
theorem cgP_succ (n : Nat → Nat → Nat) (h : Nat) (s : Nat × Option Nat) (p : Nat) : cgP n h s (p + 1) = if (cgP n h s p).1 < n h p then (n h p, some (10 * h + p)) else cgP n h s p := rfl
def cgH (n : Nat → Nat → Nat) : Nat → Nat × Option Nat
  | 0 => (0, none)
  | d + 1 => cgP n (7 + d) (cgH n d) 6
def cgI (s : Nat × Option Nat) : Prop := s.1 ≤ 6 ∧ (s.1 = 0 ↔ s.2 = none) ∧ ∀ j, s.2 = some j → j < 1000
theorem cgP_I {n : Nat → Nat → Nat} (hn : ∀ h p, n h p ≤ 6) {h : Nat} (hh : h < 24) {s : Nat × Option Nat} (hs : cgI s) : ∀ p, p ≤ 6 → cgI (cgP n h s p)
  | 0, _ => hs
  | p + 1, hp => by
    have ih := cgP_I hn hh hs p (by omega)
    rw [cgP_succ]
    split
    · next q =>
      refine ⟨hn h p, ⟨fun z => ?_, fun z => by cases z⟩, fun j hj => ?_⟩
      · have z' : n h p = 0 := z
        omega
      · have : 10 * h + p = j := Option.some.inj hj
        omega
    · exact ih
theorem cgH_I {n : Nat → Nat → Nat} (hn : ∀ h p, n h p ≤ 6) : ∀ d, d ≤ 17 → cgI (cgH n d)
  | 0, _ => ⟨by show 0 ≤ 6; omega, ⟨fun _ => rfl, fun _ => rfl⟩, fun j h => by cases h⟩
  | d + 1, hd => cgP_I hn (by omega) (cgH_I hn d (by omega)) 6 (by omega)
theorem s_conP9 {infants retired month notes sounds pasts : Int32} {kind months home nurse skills noteRow soundRow pastRow : Nat → Int32} {t : Nat → Nat} (hR : CR t infants retired month notes sounds pasts kind months home nurse skills noteRow soundRow pastRow) (hV : VV t) {h : Nat} (h7 : 7 ≤ h) (h24 : h < 24) {s : Nat × Option Nat} (hs : cgI s) {v1 badCalls : Int32} {Post : Int32 → Int32 → Prop} {K : Int32 → Int32 → Int32 → Int32 → Int32 → Prop} (hp : K v1 (nI (cgP (awN t) h s 6).1) (oI (cgP (awN t) h s 6).2) (nI h) badCalls) : ∀ d p, p + d = 6 → wp_X9_congress_L33 infants retired kind home Post K (d + 1) v1 (nI (cgP (awN t) h s p).1) (oI (cgP (awN t) h s p).2) (nI h) (nI p) badCalls := by
  intro d
  induction d with
  | zero =>
    intro p e
    obtain rfl : p = 6 := by omega
    exact ⟨fun _ => hp, fun q => absurd (show (6 : Int32) ≤ nI 6 by decide) q⟩
  | succ d ih =>
    intro p e
    have ih' := ih (p + 1) (by omega)
    have hI := cgP_I (awN_le hV) h24 hs p (by omega)
    have hA := awN_le hV h p
    rw [cgP_succ] at ih'
    have hI1 := hI.1
    refine ⟨fun q => absurd q (nI_ge (a := p) (b := 6) (by omega) (by omega)), fun _ => s_aw9 hR hV h7 h24 (by omega) (pk_le (awN t h p) (cgP (awN t) h s p).1 (fun z x ex => ?_) (fun z y ey x ex => ?_))⟩
    · rw [if_neg (by omega)] at ih'
      rw [ex, nI_1]
      exact ih'
    · rw [if_pos (by omega)] at ih'
      rw [ex, nI_1]
      rw [show y = oI (some (10 * h + p)) by rw [ey, show (10 : Int32) = nI 10 from rfl, pk_mul, nI_add]; rfl]
      exact ih'
theorem s_conH9 {infants retired month notes sounds pasts : Int32} {kind months home nurse skills noteRow soundRow pastRow : Nat → Int32} {t : Nat → Nat} (hR : CR t infants retired month notes sounds pasts kind months home nurse skills noteRow soundRow pastRow) (hV : VV t) {v1 badCalls : Int32} {Post : Int32 → Int32 → Prop} {K : Int32 → Int32 → Int32 → Int32 → Prop} (hp : K v1 (nI (cgH (awN t) 17).1) (oI (cgH (awN t) 17).2) badCalls) : ∀ d e, e + d = 17 → wp_X9_congress_L23 infants retired kind home Post K (d + 1) v1 (nI (cgH (awN t) e).1) (oI (cgH (awN t) e).2) (nI (7 + e)) badCalls := by
  intro d
  induction d with
  | zero =>
    intro e he
    obtain rfl : e = 17 := by omega
    exact ⟨fun _ => hp, fun q => absurd (show (24 : Int32) ≤ nI 24 by decide) q⟩
  | succ d ih =>
    intro e he
    have ih' := ih (e + 1) (by omega)
    refine ⟨fun q => absurd q (nI_ge (a := 7 + e) (b := 24) (by omega) (by omega)), fun _ => ⟨7, s_conP9 hR hV (by omega) (by omega) (cgH_I (awN_le hV) e (by omega)) (fun x ex => ?_) 6 0 (by omega)⟩⟩
    rw [ex, nI_1]
    exact ih'
theorem s_conP10 {t : Nat → Nat} {told : Nat → Int32} (hM : MR t told) (hV : VV t) {h : Nat} (h7 : 7 ≤ h) (h24 : h < 24) {s : Nat × Option Nat} (hs : cgI s) {v1 : Int32} {refused : Nat → Int32} {Post : Int32 → (Nat → Int32) → Prop} {K : Int32 → Int32 → Int32 → Int32 → (Nat → Int32) → Prop} (hp : K v1 (oI (cgP (awN t) h s 6).2) (nI (cgP (awN t) h s 6).1) (nI h) refused) : ∀ d p, p + d = 6 → wp_X10_congress_L35 told Post K (d + 1) v1 (oI (cgP (awN t) h s p).2) (nI (cgP (awN t) h s p).1) (nI h) (nI p) refused := by
  intro d
  induction d with
  | zero =>
    intro p e
    obtain rfl : p = 6 := by omega
    exact ⟨fun _ => hp, fun q => absurd (show (6 : Int32) ≤ nI 6 by decide) q⟩
  | succ d ih =>
    intro p e
    have ih' := ih (p + 1) (by omega)
    have hI := cgP_I (awN_le hV) h24 hs p (by omega)
    have hA := awN_le hV h p
    rw [cgP_succ] at ih'
    have hI1 := hI.1
    refine ⟨fun q => absurd q (nI_ge (a := p) (b := 6) (by omega) (by omega)), fun _ => ⟨t 0 + 1, s_awL10 hM hV h7 h24 (by omega) (pk_le (awN t h p) (cgP (awN t) h s p).1 (fun z => ?_) (fun z => ?_)) (t 0) 0 (by omega)⟩⟩
    · rw [if_neg (by omega)] at ih'
      refine pk_le (awN t h p) (cgP (awN t) h s p).1 (fun _ x ex => ?_) (fun w => absurd w (by omega))
      rw [ex, nI_1]
      exact ih'
    · rw [if_pos (by omega)] at ih'
      refine pk_le (awN t h p) (cgP (awN t) h s p).1 (fun w => absurd w (by omega)) (fun _ x ex => ?_)
      rw [ex, nI_1]
      rw [show (10 : Int32) * nI h + nI p = oI (some (10 * h + p)) by rw [show (10 : Int32) = nI 10 from rfl, pk_mul, nI_add]; rfl]
      exact ih'
theorem s_conH10 {t : Nat → Nat} {told : Nat → Int32} (hM : MR t told) (hV : VV t) {v1 : Int32} {refused : Nat → Int32} {Post : Int32 → (Nat → Int32) → Prop} {K : Int32 → Int32 → Int32 → (Nat → Int32) → Prop} (hp : K v1 (oI (cgH (awN t) 17).2) (nI (cgH (awN t) 17).1) refused) : ∀ d e, e + d = 17 → wp_X10_congress_L25 told Post K (d + 1) v1 (oI (cgH (awN t) e).2) (nI (cgH (awN t) e).1) (nI (7 + e)) refused := by
  intro d
  induction d with
  | zero =>
    intro e he
    obtain rfl : e = 17 := by omega
    exact ⟨fun _ => hp, fun q => absurd (show (24 : Int32) ≤ nI 24 by decide) q⟩
  | succ d ih =>
    intro e he
    have ih' := ih (e + 1) (by omega)
    refine ⟨fun q => absurd q (nI_ge (a := 7 + e) (b := 24) (by omega) (by omega)), fun _ => ⟨7, s_conP10 hM hV (by omega) (by omega) (cgH_I (awN_le hV) e (by omega)) (fun x ex => ?_) 6 0 (by omega)⟩⟩
    rw [ex, nI_1]
    exact ih'
theorem d_congress {infants retired month notes sounds pasts : Int32} {kind months home nurse skills noteRow soundRow pastRow : Nat → Int32} {told refused : Nat → Int32} {badCalls noCalls fullCalls v1 : Int32} (hC : CC infants retired month notes sounds pasts kind months home nurse skills noteRow soundRow pastRow told) (hS : SR badCalls noCalls fullCalls refused) {P : Int32 → Int32 → Int32 → (Nat → Int32) → Prop} (hP : ∀ r b9 ref9, SR b9 noCalls fullCalls ref9 → P r b9 r ref9) :
    wp_X9_congress infants retired kind home badCalls v1 (fun r b9 => wp_X10_congress told refused v1 (fun r' ref9 => P r b9 r' ref9)) := by
  obtain ⟨t, hR, hM, hV⟩ := id hC
  unfold wp_X9_congress wp_X10_congress
  obtain ⟨i1, i2, i3⟩ := cgH_I (awN_le hV) 17 (by omega)
  have i4 : ∀ j, (cgH (awN t) 17).2 = some j → j < 2 ^ 31 := fun j h => by have := i3 j h; omega
  refine s_within (m := 1) rfl (by decide) (sp_b (fun a => ?_) (fun a => ?_))
  · exact fun x ex => s_in0 (m := 1) rfl (by decide) (kf a (fun y ey g eg => hP _ _ _ (SR_bad hS ex ey eg)))
  · have ref : ∀ r, (v1 = 0 → r = oI (cgH (awN t) 17).2) → (¬ v1 = 0 → (cgH (awN t) 17).2 = none → r = oI (cgH (awN t) 17).2) → (¬ v1 = 0 → (cgH (awN t) 17).2 ≠ none → r = nI (cgH (awN t) 17).1) → wp_X10_in (v1.toInt64) 0 1 (fun r_1 => ((r_1 = 0 → (wp_X10_bad refused (-2) (fun r_76 refused_77 => P r badCalls r_76 refused_77))) ∧ (¬ r_1 = 0 → (∃ k_75 : Nat, wp_X10_congress_L25 told (fun r' ref9 => P r badCalls r' ref9) (fun (v1_69 : Int32) (v2_70 : Int32) (v3_71 : Int32) (refused_72 : Nat → Int32) => ((v1_69 = 0 → P r badCalls v2_70 refused_72) ∧ (¬ v1_69 = 0 → ((v2_70 = (-1) → P r badCalls v2_70 refused_72) ∧ (¬ v2_70 = (-1) → P r badCalls v3_71 refused_72))))) k_75 v1 (-1) 0 7 refused)))) := by
      intro r r1 r2 r3
      refine s_in0 (m := 1) rfl (by decide) (kt a ⟨18, s_conH10 hM hV ?_ 17 0 (by omega)⟩)
      rw [oI_none _ i4]
      refine ⟨fun z => ?_, fun z => ⟨fun z2 => ?_, fun z2 => ?_⟩⟩
      · rw [← r1 z]; exact hP _ _ _ hS
      · rw [← r2 z z2]; exact hP _ _ _ hS
      · rw [← r3 z z2]; exact hP _ _ _ hS
    refine ⟨18, s_conH9 hR hV (pk_eq (cgH (awN t) 17).1 0 (fun z => ?_) (fun z => ⟨fun z2 => ?_, fun z2 => ?_⟩)) 17 0 (by omega)⟩
    · have e := i2.mp z
      have e2 : (-1 : Int32) = oI (cgH (awN t) 17).2 := by rw [e]; rfl
      exact ref _ (fun _ => e2) (fun _ _ => e2) (fun _ w => absurd e w)
    · exact ref _ (fun _ => rfl) (fun w => absurd z2 w) (fun w => absurd z2 w)
    · exact ref _ (fun w => absurd w z2) (fun _ w => absurd (i2.mpr w) z) (fun _ _ => rfl)
/-- the hour with the least crying so far -/
def vsN (sl : Nat → Bool) (c : Nat) : Nat → Option Nat × Nat
  | 0 => (none, 1000000)
  | h + 1 => if sl h then vsN sl c h else if c < (vsN sl c h).2 then (some h, c) else vsN sl c h
theorem vsN_succ (sl : Nat → Bool) (c h : Nat) : vsN sl c (h + 1) = if sl h then vsN sl c h else if c < (vsN sl c h).2 then (some h, c) else vsN sl c h := rfl
theorem vsN_I (sl : Nat → Bool) {c : Nat} (hc : c ≤ 6) : ∀ h, ((vsN sl c h).1 = none → (vsN sl c h).2 = 1000000) ∧ (vsN sl c h).2 ≤ 1000000 ∧ ∀ j, (vsN sl c h).1 = some j → j < h
  | 0 => ⟨fun _ => rfl, Nat.le_refl _, fun j h => by cases h⟩
  | h + 1 => by
    obtain ⟨i1, i2, i3⟩ := vsN_I sl hc h
    rw [vsN_succ]
    split
    · exact ⟨i1, i2, fun j hj => Nat.lt_succ_of_lt (i3 j hj)⟩
    · split
      · exact ⟨fun z => (by cases z), (by show c ≤ 1000000; omega), fun j hj => (by have e := Option.some.inj hj; omega)⟩
      · exact ⟨i1, i2, fun j hj => Nat.lt_succ_of_lt (i3 j hj)⟩
def slT (t : Nat → Nat) (w : Nat) : Nat → Bool := fun h => slN (t (24 + w)) h
def cyT (t : Nat → Nat) (w : Nat) : Nat := cyN (t (24 + w)) (t (4 + w)) (t (18 + t (11 + w)))
theorem s_visL9 {infants retired month notes sounds pasts : Int32} {kind months home nurse skills noteRow soundRow pastRow : Nat → Int32} {t : Nat → Nat} (hR : CR t infants retired month notes sounds pasts kind months home nurse skills noteRow soundRow pastRow) (hV : VV t) {w : Nat} (hw : w < t 0) {Post : Int32 → Prop} (hp : Post (oI (vsN (slT t w) (cyT t w) 24).1)) : ∀ d h, h + d = 24 → ∀ v3, ((vsN (slT t w) (cyT t w) h).1 ≠ none → v3 = nI (vsN (slT t w) (cyT t w) h).2) → wp_X9_visit_L23 infants retired kind months nurse skills Post (d + 1) (nI w) (oI (vsN (slT t w) (cyT t w) h).1) v3 (nI h) := by
  obtain ⟨⟨e0, e10, e17, e1, e2, e3⟩, hi, hs, hn, ho, hpp⟩ := id hR
  obtain ⟨⟨v0, vn, vs, vp, vr, vm⟩, vi, vk, vno, vso, vpa⟩ := id hV
  obtain ⟨a1, a2, a3, a4⟩ := hi w hw
  obtain ⟨w1, w2, w3, w4, w5⟩ := vi w hw
  have w6 := vk _ w5
  have hc : cyT t w ≤ 6 := cyN_le _ _ _
  intro d
  induction d with
  | zero =>
    intro h e v3 h3
    obtain rfl : h = 24 := by omega
    exact ⟨fun _ => hp, fun q => absurd (show (24 : Int32) ≤ nI 24 by decide) q⟩
  | succ d ih =>
    intro h e v3 h3
    have ih' := ih (h + 1) (by omega)
    rw [vsN_succ] at ih'
    obtain ⟨i1, i2, i3⟩ := vsN_I (slT t w) hc h
    refine ⟨fun q => absurd q (nI_ge (a := h) (b := 24) (by omega) (by omega)), fun _ => s_isAsleep (by omega) a1 w1 (by omega) (sp_b (fun b => ?_) (fun b => ?_))⟩
    · have b' : slT t w h = false := b
      rw [b'] at ih'
      simp only [Bool.false_eq_true, if_false] at ih'
      rw [nI_clamp (by omega), a4]
      refine ⟨vp_in_nI (by omega) (by omega), s_criesAt (by omega) a1 w1 a2 (by omega) (by omega) w5 (hs _ w5) (by omega) ?_⟩
      rw [b]
      simp only [Bool.false_eq_true, if_false]
      show (oI (vsN (slT t w) (cyT t w) h).1 = -1 → _) ∧ _
      rw [oI_none _ (fun j hj => by have := i3 j hj; omega)]
      refine ⟨fun z x ex => ?_, fun z => ?_⟩
      · rw [if_pos (by rw [i1 z]; omega)] at ih'
        rw [ex, nI_1]
        exact ih' _ (fun _ => rfl)
      · rw [h3 z]
        refine pk_le (vsN (slT t w) (cyT t w) h).2 (cyT t w) (fun y x ex => ?_) (fun y x ex => ?_)
        · rw [if_neg (by omega)] at ih'
          rw [ex, nI_1]
          exact ih' _ (fun _ => rfl)
        · rw [if_pos (by omega)] at ih'
          rw [ex, nI_1]
          exact ih' _ (fun _ => rfl)
    · have b' : slT t w h = true := b
      rw [b'] at ih'
      simp only [if_true] at ih'
      intro x ex
      rw [ex, nI_1]
      exact ih' v3 h3
theorem s_visL10 {t : Nat → Nat} {told : Nat → Int32} (hM : MR t told) (hV : VV t) {w : Nat} (hw : w < t 0) {retired : Int32} {months : Nat → Int32} {Post : Int32 → Int32 → (Nat → Int32) → Prop} (hp : Post (oI (vsN (slT t w) (cyT t w) 24).1) retired months) : ∀ d h, h + d = 24 → wp_X10_visit_L13 told Post (d + 1) (nI w) (oI (vsN (slT t w) (cyT t w) h).1) (nI (vsN (slT t w) (cyT t w) h).2) (nI h) retired months := by
  obtain ⟨⟨v0, vn, vs, vp, vr, vm⟩, vi, vk, vno, vso, vpa⟩ := id hV
  obtain ⟨w1, w2, w3, w4, w5⟩ := vi w hw
  have w6 := vk _ w5
  have hc : cyT t w ≤ 6 := cyN_le _ _ _
  intro d
  induction d with
  | zero =>
    intro h e
    obtain rfl : h = 24 := by omega
    exact ⟨fun _ => hp, fun q => absurd (show (24 : Int32) ≤ nI 24 by decide) q⟩
  | succ d ih =>
    intro h e
    have ih' := ih (h + 1) (by omega)
    rw [vsN_succ] at ih'
    obtain ⟨i1, i2, i3⟩ := vsN_I (slT t w) hc h
    refine ⟨fun q => absurd q (nI_ge (a := h) (b := 24) (by omega) (by omega)), fun _ => ⟨fun z => absurd z (nI_m1 (by omega)), fun _ => s_isAwake hM (by omega) rfl w1 (by omega) (sp_b (fun b => ?_) (fun b => ?_))⟩⟩
    · have b' : slT t w h = true := by unfold slT; simpa using b
      rw [b'] at ih'
      simp only [if_true] at ih'
      refine pk_le (vsN (slT t w) (cyT t w) h).2 1000000 (fun _ => pk_le (vsN (slT t w) (cyT t w) h).2 1000000 (fun _ x ex => ?_) (fun z => absurd i2 (by omega))) (fun z => absurd i2 (by omega))
      rw [ex, nI_1]
      exact ih'
    · have b' : slT t w h = false := by unfold slT; simpa using b
      rw [b'] at ih'
      simp only [Bool.false_eq_true, if_false] at ih'
      refine s_criesIn hM (by omega) rfl w1 rfl (by omega) rfl w5 rfl (by omega) (by omega) ?_
      rw [show slN (t (24 + w)) h = false from b']
      simp only [Bool.false_eq_true, if_false]
      refine pk_le (vsN (slT t w) (cyT t w) h).2 (cyT t w) (fun y => pk_le (vsN (slT t w) (cyT t w) h).2 (cyT t w) (fun _ x ex => ?_) (fun z => absurd y (by omega))) (fun y => pk_le (vsN (slT t w) (cyT t w) h).2 (cyT t w) (fun z => absurd y (by omega)) (fun _ x ex => ?_))
      · rw [if_neg (by omega)] at ih'
        rw [ex, nI_1]
        exact ih'
      · rw [if_pos (by omega)] at ih'
        rw [ex, nI_1]
        exact ih'
theorem d_visit {infants retired month notes sounds pasts : Int32} {kind months home nurse skills noteRow soundRow pastRow : Nat → Int32} {told mmonths : Nat → Int32} {mretired : Int32} (hC : CC infants retired month notes sounds pasts kind months home nurse skills noteRow soundRow pastRow told) {P : Int32 → Int32 → Int32 → (Nat → Int32) → Prop} (hP : ∀ r mr9 mm9, P r r mr9 mm9) :
    wp_X9_visit infants retired kind months nurse skills (fun r => wp_X10_visit told mretired mmonths (fun r' mr9 mm9 => P r r' mr9 mm9)) := by
  obtain ⟨t, hR, hM, hV⟩ := id hC
  unfold wp_X9_visit wp_X10_visit
  refine s9_sov hR hV (m := 0) (by omega) ?_
  rw [so_no hV]
  refine ⟨fun q => s10_now hM hV (fun months retired hd => ?_), fun q => ?_⟩
  · refine ⟨1, ⟨fun z => absurd z (by decide), fun _ => ?_⟩⟩
    rw [so_no hV]
    exact ⟨fun _ => hP _ _ _, fun z => absurd q z⟩
  · cases ew : so t 0 with
    | none => exact absurd ew q
    | some w =>
      have hw := (so_lt hV ew).1
      refine ⟨25, s_visL9 hR hV hw (s10_now hM hV (fun months retired hd => ?_)) 24 0 (by omega) 0 (fun z => absurd rfl z)⟩
      rw [ew]
      exact ⟨25, s_visL10 hM hV hw (hP _ _ _) 24 0 (by omega)⟩
