/-! month, reign, falls. -/
abbrev hh (t : Nat → Nat) (k : Nat) : Nat × (Nat → Nat) := hM (t 0) (fun i => t (24 + i)) (t 10) (fun i => t (4 + i)) k
abbrev so (t : Nat → Nat) (m : Nat) : Option Nat := rg (soO (t 10) m (fun i => t (24 + i)) (fun i => t (4 + i))) (fun i => t (4 + i)) (t 0)
theorem hh_900 {t : Nat → Nat} (hV : VV t) {k : Nat} (hk : k ≤ 100) : ∀ i, i < t 0 → (hh t k).2 i < 900 := fun i hi => by
  have h1 := hM_le (t 0) (fun i => t (24 + i)) (t 10) (fun i => t (4 + i)) i k
  have h2 := (hV.2.1 i hi).2.1
  exact Nat.lt_of_le_of_lt h1 (by omega)
theorem so_lt {t : Nat → Nat} (hV : VV t) {m j : Nat} (h : so t m = some j) : j < t 0 ∧ j < 6 := by
  have h1 := (rg_lt _ _ _ _ h).1
  have h2 := hV.1.1
  omega
theorem s9_sov {infants retired month notes sounds pasts : Int32} {kind months home nurse skills noteRow soundRow pastRow : Nat → Int32} {t : Nat → Nat} (hR : CR t infants retired month notes sounds pasts kind months home nurse skills noteRow soundRow pastRow) (hV : VV t) {m : Nat} (hm : m ≤ 60) {Post : Int32 → Prop} (hp : Post (oI (so t m))) : wp_X1_sovereign infants retired kind months (nI m) Post :=
  s_sovereign (kd := fun i => t (24 + i)) (mo := fun i => t (4 + i)) hV.1.1 hR.1.1 hR.1.2.1 hV.1.2.2.2.2.1 (fun i hi => ⟨(hR.2.1 i hi).1, (hV.2.1 i hi).1⟩) (fun i hi => ⟨(hR.2.1 i hi).2.1, by have := (hV.2.1 i hi).2.1; omega⟩) (by omega) hp
theorem s10_lay {t : Nat → Nat} {told : Nat → Int32} (hM : MR t told) (hV : VV t) {retired : Int32} {months : Nat → Int32} {Post : Int32 → (Nat → Int32) → Prop} (hp : ∀ months retired, HD (t 0) months retired (hh t 0).1 (hh t 0).2 → Post retired months) : wp_X10_layHand told retired months Post :=
  s_layHand hM hV.1.1 hV.1.2.2.2.2.1 (fun i hi => by have := (hV.2.1 i hi).2.1; omega) hp
theorem s10_go {t : Nat → Nat} {told : Nat → Int32} (hM : MR t told) (hV : VV t) {k : Nat} (hk : k ≤ 100) {months : Nat → Int32} {retired : Int32} (hd : HD (t 0) months retired (hh t k).1 (hh t k).2) {Post : Int32 → (Nat → Int32) → Prop} (hp : ∀ months retired, HD (t 0) months retired (hh t (k + 1)).1 (hh t (k + 1)).2 → Post retired months) : wp_X10_goMonth told retired months Post :=
  s_goMonth hM hV.1.1 (fun i hi => (hV.2.1 i hi).1) hd (hh_900 hV hk) hp
theorem s10_reigns {t : Nat → Nat} {told : Nat → Int32} (hM : MR t told) (hV : VV t) {k : Nat} {months : Nat → Int32} {retired : Int32} (hd : HD (t 0) months retired (hh t k).1 (hh t k).2) {Post : Int32 → Prop} (hp : Post (oI (so t k))) : wp_X10_reigns retired told months Post := by
  refine s_reigns hM hV.1.1 hd ?_
  rw [hM_rg hV.1.1 _ hV.1.2.2.2.2.1]
  exact hp
theorem s10_now {t : Nat → Nat} {told : Nat → Int32} (hM : MR t told) (hV : VV t) {retired : Int32} {months : Nat → Int32} {Post : Int32 → Int32 → (Nat → Int32) → Prop} (hp : ∀ months retired, HD (t 0) months retired (hh t 0).1 (hh t 0).2 → Post (oI (so t 0)) retired months) : wp_X10_reignsNow told retired months Post :=
  s10_lay hM hV (fun months retired hd => s10_reigns hM hV hd (hp months retired hd))
theorem s_reignL {t : Nat → Nat} {told : Nat → Int32} (hM : MR t told) (hV : VV t) {m : Nat} (hm : m ≤ 60) {refused : Nat → Int32} {Post : Int32 → Int32 → (Nat → Int32) → (Nat → Int32) → Prop} {K : Int32 → (Nat → Int32) → (Nat → Int32) → Prop} (hp : ∀ months retired, HD (t 0) months retired (hh t m).1 (hh t m).2 → K retired refused months) :
    ∀ d k, k + d = m → ∀ (retired : Int32) (months : Nat → Int32), HD (t 0) months retired (hh t k).1 (hh t k).2 → wp_X10_reign_L25 told Post K (d + 1) (nI m) (nI k) retired refused months := by
  intro d
  induction d with
  | zero =>
    intro k e retired months hd
    obtain rfl : k = m := by omega
    exact ⟨fun _ => hp _ _ hd, fun q => absurd (nI_le (Nat.le_refl _) (by omega)) q⟩
  | succ d ih =>
    intro k e retired months hd
    refine ⟨fun q => absurd q (nI_ge (by omega) (by omega)), fun _ => s10_go hM hV (by omega) hd (fun months retired hd x ex => ?_)⟩
    rw [ex, nI_1]
    exact ih (k + 1) (by omega) _ _ hd
theorem d_reign {infants retired month notes sounds pasts : Int32} {kind months home nurse skills noteRow soundRow pastRow : Nat → Int32} {told refused mmonths : Nat → Int32} {badCalls noCalls fullCalls mretired v1 : Int32} (hC : CC infants retired month notes sounds pasts kind months home nurse skills noteRow soundRow pastRow told) (hS : SR badCalls noCalls fullCalls refused) {P : Int32 → Int32 → Int32 → Int32 → (Nat → Int32) → (Nat → Int32) → Prop} (hP : ∀ r b9 mr9 ref9 mm9, SR b9 noCalls fullCalls ref9 → P r b9 r mr9 ref9 mm9) :
    wp_X9_reign infants retired kind months badCalls v1 (fun r b9 => wp_X10_reign told mretired refused mmonths v1 (fun r' mr9 ref9 mm9 => P r b9 r' mr9 ref9 mm9)) := by
  obtain ⟨t, hR, hM, hV⟩ := id hC
  unfold wp_X9_reign wp_X10_reign
  refine s_within (m := 60) rfl (by decide) (sp_b (fun a => ?_) (fun a => ?_))
  · exact fun x ex => s_in0 (m := 60) rfl (by decide) (kf a (fun y ey g eg => hP _ _ _ _ _ (SR_bad hS ex ey eg)))
  · obtain ⟨m, hm, rfl⟩ := inB_t a
    exact s9_sov hR hV hm (s_in0 (m := 60) rfl (by decide) (kt a (s10_lay hM hV (fun months retired hd => ⟨m + 1, s_reignL hM hV hm (fun months retired hd => s10_reigns hM hV hd (hP _ _ _ _ _ hS)) m 0 (by omega) _ _ hd⟩))))
/-- the answer of falls -/
def FL (s : Nat → Option Nat) (r : Int32) : Prop := (r = -1 ∧ (s 0 = none ∨ ∀ m, 1 ≤ m → m ≤ 60 → s m = s 0)) ∨ (s 0 ≠ none ∧ ∃ m, 1 ≤ m ∧ m ≤ 60 ∧ r = nI m ∧ s m ≠ s 0 ∧ ∀ j, 1 ≤ j → j < m → s j = s 0)
theorem oI_inj {a b : Option Nat} (ha : ∀ j, a = some j → j < 2 ^ 31) (hb : ∀ j, b = some j → j < 2 ^ 31) (h : oI a = oI b) : a = b := by
  cases a with
  | none => exact ((oI_none b hb).mp h.symm).symm
  | some i =>
    cases b with
    | none => exact (oI_none (some i) ha).mp h
    | some j => rw [(nI_eq (ha i rfl) (hb j rfl)).mp h]
theorem so_31 {t : Nat → Nat} (hV : VV t) (m : Nat) : ∀ j, so t m = some j → j < 2 ^ 31 := fun j h => by have := (so_lt hV h).2; omega
theorem so_eq {t : Nat → Nat} (hV : VV t) (m k : Nat) : oI (so t m) = oI (so t k) ↔ so t m = so t k := ⟨fun h => oI_inj (so_31 hV m) (so_31 hV k) h, fun h => by rw [h]⟩
theorem so_no {t : Nat → Nat} (hV : VV t) (m : Nat) : oI (so t m) = -1 ↔ so t m = none := oI_none _ (so_31 hV m)
theorem s_fallsL9 {infants retired month notes sounds pasts : Int32} {kind months home nurse skills noteRow soundRow pastRow : Nat → Int32} {t : Nat → Nat} (hR : CR t infants retired month notes sounds pasts kind months home nurse skills noteRow soundRow pastRow) (hV : VV t) (h0 : so t 0 ≠ none) {Post : Int32 → Prop} (hp : ∀ r, FL (so t) r → Post r) : ∀ d k, k + d = 61 → 1 ≤ k → (∀ j, 1 ≤ j → j < k → so t j = so t 0) → wp_X9_falls_L18 infants retired kind months Post (d + 1) (oI (so t 0)) (nI k) := by
  intro d
  induction d with
  | zero =>
    intro k e hk1 hk
    obtain rfl : k = 61 := by omega
    exact ⟨fun _ => hp _ (Or.inl ⟨rfl, Or.inr (fun m h1 h2 => hk m h1 (by omega))⟩), fun q => absurd (show (60 : Int32) < nI 61 by decide) q⟩
  | succ d ih =>
    intro k e hk1 hk
    refine ⟨fun q => absurd q (nI_nlt (a := 60) (b := k) (by omega) (by omega)), fun _ => s9_sov hR hV (by omega) ?_⟩
    rw [so_eq hV]
    refine ⟨fun q x ex => ?_, fun q => hp _ (Or.inr ⟨h0, k, hk1, by omega, rfl, q, hk⟩)⟩
    rw [ex, nI_1]
    refine ih (k + 1) (by omega) (by omega) (fun j h1 h2 => ?_)
    rcases Nat.lt_or_ge j k with z | z
    · exact hk j h1 z
    · obtain rfl : j = k := by omega
      exact q
theorem s_fallsL10 {t : Nat → Nat} {told : Nat → Int32} (hM : MR t told) (hV : VV t) {r : Int32} (hr : FL (so t) r) {Post : Int32 → Int32 → (Nat → Int32) → Prop} (hp : ∀ a b, Post r a b) : ∀ d k, k + d = 61 → 1 ≤ k → (∀ j, 1 ≤ j → j < k → so t j = so t 0) → ∀ retired months, HD (t 0) months retired (hh t (k - 1)).1 (hh t (k - 1)).2 → wp_X10_falls_L7 told Post (d + 1) (oI (so t 0)) (nI k) retired months := by
  have all : (∀ j, 1 ≤ j → j ≤ 60 → so t j = so t 0) → r = -1 := by
    intro h
    rcases hr with ⟨e, _⟩ | ⟨h0, m, h1, h2, e, h3, h4⟩
    · exact e
    · exact absurd (h m h1 h2) h3
  intro d
  induction d with
  | zero =>
    intro k e hk1 hk retired months hd
    obtain rfl : k = 61 := by omega
    refine ⟨fun _ => ?_, fun q => absurd (show (60 : Int32) < nI 61 by decide) q⟩
    rw [← all (fun j h1 h2 => hk j h1 (by omega))]
    exact hp _ _
  | succ d ih =>
    intro k e hk1 hk retired months hd
    refine ⟨fun q => absurd q (nI_nlt (a := 60) (b := k) (by omega) (by omega)), fun _ => ?_⟩
    rw [so_no hV]
    refine ⟨fun q => ?_, fun q => s10_go hM hV (by omega) hd (fun months retired hd => ?_)⟩
    · rcases hr with ⟨e, _⟩ | ⟨h0, _⟩
      · rw [← e]; exact hp _ _
      · exact absurd q h0
    · rw [show k - 1 + 1 = k by omega] at hd
      refine s10_reigns hM hV hd ?_
      rw [so_eq hV]
      refine ⟨fun z x ex => ?_, fun z => ?_⟩
      · rw [ex, nI_1]
        refine ih (k + 1) (by omega) (by omega) (fun j h1 h2 => ?_) _ _ hd
        rcases Nat.lt_or_ge j k with z2 | z2
        · exact hk j h1 z2
        · obtain rfl : j = k := by omega
          exact z
      · rcases hr with ⟨e1, h1⟩ | ⟨h0, m, h1, h2, e1, h3, h4⟩
        · rcases h1 with h1 | h1
          · exact absurd h1 q
          · exact absurd (h1 k hk1 (by omega)) z
        · have : m = k := by
            rcases Nat.lt_trichotomy m k with w | w | w
            · exact absurd (hk m h1 w) h3
            · exact w
            · exact absurd (h4 k hk1 w) z
          rw [← this, ← e1]
          exact hp _ _
theorem d_falls {infants retired month notes sounds pasts : Int32} {kind months home nurse skills noteRow soundRow pastRow : Nat → Int32} {told mmonths : Nat → Int32} {mretired : Int32} (hC : CC infants retired month notes sounds pasts kind months home nurse skills noteRow soundRow pastRow told) {P : Int32 → Int32 → Int32 → (Nat → Int32) → Prop} (hP : ∀ r mr9 mm9, P r r mr9 mm9) :
    wp_X9_falls infants retired kind months (fun r => wp_X10_falls told mretired mmonths (fun r' mr9 mm9 => P r r' mr9 mm9)) := by
  obtain ⟨t, hR, hM, hV⟩ := id hC
  unfold wp_X9_falls wp_X10_falls
  have ref : ∀ r, FL (so t) r → wp_X10_reignsNow told mretired mmonths (fun r_1 retired_2 months_3 => ∃ k_11 : Nat, wp_X10_falls_L7 told (fun r' mr9 mm9 => P r r' mr9 mm9) k_11 r_1 1 retired_2 months_3) :=
    fun r hr => s10_now hM hV (fun months retired hd => ⟨61, s_fallsL10 hM hV hr (fun a b => hP r a b) 60 1 (by omega) (by omega) (fun j h1 h2 => absurd h1 (by omega)) _ _ hd⟩)
  refine s9_sov hR hV (m := 0) (by omega) ?_
  rw [so_no hV]
  exact ⟨fun q => ref _ (Or.inl ⟨rfl, Or.inl q⟩), fun q => ⟨61, s_fallsL9 hR hV q ref 60 1 (by omega) (by omega) (fun j h1 h2 => absurd h1 (by omega))⟩⟩
/-! month -/
theorem s_monthL9 {infants : Int32} {kind nurse : Nat → Int32} {n : Nat} {kd : Nat → Nat} (hn : n ≤ 6) (e0 : infants = nI n) (hkd : ∀ i, i < n → kind i = nI (kd i) ∧ kd i < 6) {r : Nat} {mo : Nat → Nat} (hmo : ∀ i, i < n → mo i ≤ 36) {c m : Nat} (hm : m ≤ 60) {badCalls p9 : Int32} {row9 : Nat → Int32} {Post : Int32 → Int32 → Int32 → Int32 → Int32 → (Nat → Int32) → (Nat → Int32) → Prop} {K : Int32 → Int32 → Int32 → Int32 → (Nat → Int32) → (Nat → Int32) → Prop} (hp : ∀ retired months, HD n months retired (hM n kd r mo m).1 (hM n kd r mo m).2 → K badCalls retired (nI (min 999 (c + m))) p9 months row9) :
    ∀ d k, k + d = m → ∀ retired month months, HD n months retired (hM n kd r mo k).1 (hM n kd r mo k).2 → month = nI (min 999 (c + k)) → wp_X9_month_L27 infants kind nurse Post K (d + 1) (nI m) (nI k) badCalls retired month p9 months row9 := by
  intro d
  induction d with
  | zero =>
    intro k e retired month months hd hc
    obtain rfl : k = m := by omega
    rw [hc]
    exact ⟨fun _ => hp _ _ hd, fun q => absurd (nI_le (Nat.le_refl _) (by omega)) q⟩
  | succ d ih =>
    intro k e retired month months hd hc
    refine ⟨fun q => absurd q (nI_ge (by omega) (by omega)), fun _ => s_passMonth hn e0 hkd (fun i hi => ?_) hd hc (by omega) (fun months retired hd x ex => ?_)⟩
    · have h1 := hM_le n kd r mo i k
      have h2 := hmo i hi
      omega
    · rw [ex, nI_1]
      exact ih (k + 1) (by omega) _ _ _ hd (by congr 1; omega)
theorem s_monthL10 {t : Nat → Nat} {told : Nat → Int32} (hM : MR t told) (hV : VV t) {m : Nat} (hm : m ≤ 60) {refused : Nat → Int32} {Post : Int32 → Int32 → (Nat → Int32) → (Nat → Int32) → (Nat → Int32) → Prop} {K : Int32 → Int32 → (Nat → Int32) → (Nat → Int32) → (Nat → Int32) → Prop} (hp : ∀ months retired, HD (t 0) months retired (hh t m).1 (hh t m).2 → K (nI m) retired told refused months) :
    ∀ d k, k + d = m → ∀ (retired : Int32) (months : Nat → Int32), HD (t 0) months retired (hh t k).1 (hh t k).2 → wp_X10_month_L29 Post K (d + 1) (nI m) (nI k) retired told refused months := by
  intro d
  induction d with
  | zero =>
    intro k e retired months hd
    obtain rfl : k = m := by omega
    exact ⟨fun _ => hp _ _ hd, fun q => absurd (nI_le (Nat.le_refl _) (by omega)) q⟩
  | succ d ih =>
    intro k e retired months hd
    refine ⟨fun q => absurd q (nI_ge (by omega) (by omega)), fun _ => s10_go hM hV (by omega) hd (fun months retired hd x ex => ?_)⟩
    rw [ex, nI_1]
    exact ih (k + 1) (by omega) _ _ hd
def mo0 (t : Nat → Nat) (M : Nat → Nat) (k : Nat) : Nat → Nat := fun j => if 4 ≤ j ∧ j < 4 + k then M (j - 4) else t j
theorem s_monthW {t : Nat → Nat} {told : Nat → Int32} (hM : MR t told) (v0 : t 0 ≤ 6) {M : Nat → Nat} {v1 retired : Int32} {refused months : Nat → Int32} (hd : ∀ i, i < t 0 → months i = nI (M i)) {Post : Int32 → Int32 → (Nat → Int32) → (Nat → Int32) → (Nat → Int32) → Prop} {K : Int32 → Int32 → (Nat → Int32) → (Nat → Int32) → (Nat → Int32) → Prop} (hp : ∀ f, MR (mo0 t M (t 0)) f → K v1 retired f refused months) :
    ∀ d k, k + d = t 0 → ∀ f, MR (mo0 t M k) f → wp_X10_month_L46 Post K (d + 1) v1 (nI k) retired f refused months := by
  intro d
  induction d with
  | zero =>
    intro k e f hf
    obtain rfl : k = t 0 := by omega
    have f0 := hf 0 (by omega)
    unfold mo0 at f0
    rw [if_neg (by omega)] at f0
    show wp_X10_many f _
    unfold wp_X10_many
    rw [f0]
    exact ⟨fun _ => hp _ hf, fun q => absurd (nI_le (Nat.le_refl _) (by omega)) q⟩
  | succ d ih =>
    intro k e f hf
    have f0 := hf 0 (by omega)
    unfold mo0 at f0
    rw [if_neg (by omega)] at f0
    show wp_X10_many f _
    unfold wp_X10_many
    rw [f0]
    refine ⟨fun q => absurd q (nI_ge (by omega) (by omega)), fun _ => ⟨vp_in_nI (by omega) (by omega), fun x ex => ⟨pk_in (4 + k) 190 (by omega) (nI_add 4 k), fun g eg y ey => ?_⟩⟩⟩
    rw [ey, nI_1]
    refine ih (k + 1) (by omega) g (fun j hj => ?_)
    rw [eg, show (4 : Int32) + nI k = nI (4 + k) from nI_add 4 k, nI_clamp (by omega), upd_at, ex, nI_clamp (by omega), hd k (by omega), hf j hj]
    unfold mo0
    by_cases z : j = 4 + k
    · rw [if_pos z, if_pos (by omega)]
      congr 2
      omega
    · rw [if_neg z]
      by_cases z2 : 4 ≤ j ∧ j < 4 + k
      · rw [if_pos z2, if_pos (by omega)]
      · rw [if_neg z2, if_neg (by omega)]
theorem d_month {infants retired month notes sounds pasts : Int32} {kind months home nurse skills noteRow soundRow pastRow : Nat → Int32} {told refused mmonths : Nat → Int32} {badCalls noCalls fullCalls mretired v1 : Int32} (hC : CC infants retired month notes sounds pasts kind months home nurse skills noteRow soundRow pastRow told) (hS : SR badCalls noCalls fullCalls refused) {P : Int32 → Int32 → Int32 → Int32 → Int32 → (Nat → Int32) → (Nat → Int32) → Int32 → Int32 → (Nat → Int32) → (Nat → Int32) → (Nat → Int32) → Prop} (hP : ∀ r b9 r9 m9 p9 mo9 pr9 mr9 told9 ref9 mm9, CC infants r9 m9 notes sounds p9 kind mo9 home nurse skills noteRow soundRow pr9 told9 → SR b9 noCalls fullCalls ref9 → P r b9 r9 m9 p9 mo9 pr9 r mr9 told9 ref9 mm9) :
    wp_X9_month infants kind nurse badCalls retired month pasts months pastRow v1 (fun r b9 r9 m9 p9 mo9 pr9 => wp_X10_month mretired told refused mmonths v1 (fun r' mr9 told9 ref9 mm9 => P r b9 r9 m9 p9 mo9 pr9 r' mr9 told9 ref9 mm9)) := by
  obtain ⟨t, hR, hM, hV⟩ := id hC
  unfold wp_X9_month wp_X10_month wp_X9_month_J11
  refine ⟨fun a => ?_, fun a => ⟨fun b => ?_, fun b => ?_⟩⟩
  · rw [fa_lt, show (1 : Int32).toInt = 1 from rfl] at a
    exact fun x ex => s_in1 (m := 60) rfl (by decide) (kf (by rw [Bool.and_eq_false_iff, decide_eq_false_iff_not, decide_eq_false_iff_not]; omega) (fun y ey g eg => hP _ _ _ _ _ _ _ _ _ _ _ hC (SR_bad hS ex ey eg)))
  · rw [fa_lt, show (1 : Int32).toInt = 1 from rfl] at a
    rw [fa_le, show (60 : Int32).toInt = 60 from rfl] at b
    obtain ⟨m, hm, rfl⟩ := nI_of (x := v1) (by rw [fa_lt, show (0 : Int32).toInt = 0 from rfl]; omega)
    rw [nI_toInt hm] at a b
    refine s_remember hR hV (fun p9 row9 hR2 => ?_)
    have hV2 := VV_kp hV
    generalize hu : kp t = u at hR2 hV2
    have w0 := hV2.1.1
    have w10 := hV2.1.2.2.2.2.1
    refine ⟨m + 1, s_monthL9 (kd := fun i => u (24 + i)) (r := u 10) (mo := fun i => u (4 + i)) (c := u 17) (m := m) w0 hR2.1.1 (fun i hi => ⟨(hR2.2.1 i hi).1, (hV2.2.1 i hi).1⟩) (fun i hi => (hV2.2.1 i hi).2.1) (by omega) (fun retired9 months9 hd => ?_) m 0 (by omega) _ _ _ ⟨hR2.1.2.1, w10, fun i hi => ⟨(hR2.2.1 i hi).2.1, by have := (hV2.2.1 i hi).2.1; show u (4 + i) < 1000; omega⟩⟩ (by rw [hR2.1.2.2.1]; congr 1; have := hV2.1.2.2.2.2.2; omega)⟩
    have hb := hM_b w0 (fun i => u (24 + i)) w10 (fun i => u (4 + i)) (fun i hi => ⟨(hV2.2.1 i hi).2.1, (hV2.2.1 i hi).2.2.1⟩) m
    refine s_sovereign (m := 0) (kd := fun i => u (24 + i)) (mo := (hh u m).2) w0 hR2.1.1 hd.1 hd.2.1 (fun i hi => ⟨(hR2.2.1 i hi).1, (hV2.2.1 i hi).1⟩) (fun i hi => ⟨(hd.2.2 i hi).1, Nat.lt_of_le_of_lt (hb i hi).1 (by omega)⟩) (by omega) ?_
    rw [hM_rg0 w0 _ w10]
    refine s_in1 (m := 60) rfl (by decide) (kt (by rw [nI_toInt hm, Bool.and_eq_true, decide_eq_true_eq, decide_eq_true_eq]; omega) (s_keep hM hV.1.2.2.2.1 (fun g hg => ?_)))
    rw [hu] at hg
    refine s10_lay hg hV2 (fun months2 retired2 hd2 => ⟨m + 1, s_monthL10 hg hV2 (by omega) (fun months3 retired3 hd3 => ⟨u 0 + 1, s_monthW hg w0 (M := (hh u m).2) (fun i hi => (hd3.2.2 i hi).1) (fun f hf f4 ef4 => ?_) (u 0) 0 (by omega) g (fun j hj => ?_)⟩) m 0 (by omega) _ _ hd2⟩)
    · generalize hT : (fun j => if j = 10 then (hh u m).1 else if j = 17 then min 999 (u 17 + m) else mo0 u (hh u m).2 (u 0) j) = T
      have Ta : ∀ j, j ≠ 10 → j ≠ 17 → T j = mo0 u (hh u m).2 (u 0) j := by
        intro j h1 h2
        rw [← hT]
        simp only
        rw [if_neg h1, if_neg h2]
      have Tr : ∀ j, j ≠ 3 → (j < 4 ∨ 18 ≤ j) → T j = u j := by
        intro j h3 h
        rw [Ta j (by omega) (by omega)]
        unfold mo0
        rw [if_neg (by omega)]
      have T0 : T 0 = u 0 := Tr 0 (by omega) (by omega)
      have T3 : T 3 = u 3 := by
        rw [Ta 3 (by omega) (by omega)]
        unfold mo0
        rw [if_neg (by omega)]
      have T10 : T 10 = (hh u m).1 := by rw [← hT]; simp
      have T17 : T 17 = min 999 (u 17 + m) := by rw [← hT]; simp
      have T4 : ∀ i, i < u 0 → T (4 + i) = (hh u m).2 i := by
        intro i hi
        rw [Ta _ (by omega) (by omega)]
        unfold mo0
        rw [if_pos (by omega), Nat.add_sub_cancel_left]
      have T11 : ∀ i, i < u 0 → T (11 + i) = u (11 + i) := by
        intro i hi
        rw [Ta _ (by omega) (by omega)]
        unfold mo0
        rw [if_neg (by omega)]
      have f17 : f4 17 = nI (u 17) := by
        rw [ef4, upd_at, if_neg (by omega), hf 17 (by omega)]
        unfold mo0
        rw [if_neg (by omega)]
      have fin : ∀ (y : Int32) (f5 : Nat → Int32), y = nI (T 17) → f5 = upd f4 (17 : Int32).toNatClampNeg y → wp_X10_reigns retired3 f5 months3 (fun r_31 => P (oI (so u m)) badCalls retired9 (nI (min 999 (u 17 + m))) p9 months9 row9 r_31 retired3 f5 refused months3) := by
        intro y f5 ey ef5
        have hM5 : MR T f5 := by
          intro j hj
          rw [ef5, show (17 : Int32).toNatClampNeg = 17 from rfl, upd_at, ey]
          by_cases z : j = 17
          · rw [if_pos z, z]
          · rw [if_neg z, ef4, upd_at]
            by_cases z2 : j = 10
            · rw [if_pos z2, z2, T10]; exact hd3.1
            · rw [if_neg z2, hf j hj, Ta j z2 z]
        have hc := CC_hand hR2 hV2 (T := T) Tr (retired2 := retired9) (month2 := nI (min 999 (u 17 + m))) (pasts2 := p9) (months2 := months9) (nurse2 := nurse) (by rw [T10]; exact hd.1) (by rw [T10]; exact hd.2.1) (by rw [T17]) (by rw [T17]; omega) (by rw [T3]; exact hR2.1.2.2.2.2.2) (by rw [T3]; exact Nat.le_refl _) (fun i hi => by
          rw [T4 i hi, T11 i hi, T10]
          exact ⟨(hd.2.2 i hi).1, (hR2.2.1 i hi).2.2.2, (hb i hi).1, (hb i hi).2, (hV2.2.1 i hi).2.2.2.2⟩)
        refine s_reigns hM5 (by rw [T0]; exact w0) (by rw [T0]; exact hd3) ?_
        rw [T0, hM_rg w0 _ w10]
        exact hP _ _ _ _ _ _ _ _ _ _ _ ⟨T, hc.1, hM5, hc.2⟩ hS
      rw [f17, nI_add]
      have w17 := hV2.1.2.2.2.2.2
      refine pk_le (u 17 + m) 999 (fun z => ⟨pk_in 17 190 (by omega), fun f5 ef5 => fin _ f5 (by rw [T17]; congr 1; omega) ef5⟩) (fun z => ⟨pk_in 17 190 (by omega), fun f5 ef5 => fin _ f5 (by rw [T17, show min 999 (u 17 + m) = 999 by omega]; rfl) ef5⟩)
    · unfold mo0
      rw [if_neg (by omega)]
      exact hg j hj
  · rw [fa_le, show (60 : Int32).toInt = 60 from rfl] at b
    exact fun x ex => s_in1 (m := 60) rfl (by decide) (kf (by rw [Bool.and_eq_false_iff, decide_eq_false_iff_not, decide_eq_false_iff_not]; omega) (fun y ey g eg => hP _ _ _ _ _ _ _ _ _ _ _ hC (SR_bad hS ex ey eg)))
