/-! nurses: the reference, and both. -/
theorem cb_le {out : Nat → Bool} {day : Nat → Nat → Nat} (hday : ∀ i d, day i d ≤ 144) : ∀ (k lo c w s w2 v : Nat), cbN out day k lo c w s = some (w2, v) → v ≤ s + 144 * k
  | 0, lo, c, w, s, w2, v, h => by
    have h1 : (w, s) = (w2, v) := Option.some.inj h
    have := (Prod.mk.inj h1).2
    omega
  | k + 1, lo, c, w, s, w2, v, h => by
    rw [cb_succ] at h
    split at h
    · split at h
      · have := cb_le hday k lo _ _ _ _ _ h
        omega
      · cases h
    · split at h
      · cases h
      · have := cb_le hday k lo _ _ _ _ _ h
        have h2 := hday (lo + k) (c % 6)
        omega
def dgI (t : Nat → Nat) (k c i : Nat) : Int32 := if oT t i then -1 else nI (c / 6 ^ (k - 1 - i) % 6)
theorem dg_lo (t : Nat → Nat) {k c i : Nat} (h : i < k) : dgI t (k + 1) c i = dgI t k (c / 6) i := by
  unfold dgI
  rw [Nat.div_div_eq_div_mul, show 6 * 6 ^ (k - 1 - i) = 6 ^ (k + 1 - 1 - i) by rw [Nat.mul_comm, ← Nat.pow_succ]; congr 1; omega]
theorem s_cbL {t : Nat → Nat} {told : Nat → Int32} (hM : MR t told) (hV : VV t) {Post : Int32 → (Nat → Int32) → Prop} : ∀ k, k ≤ t 0 → ∀ c w s f, c < 46656 → w < 64 → (cbN (oT t) (dT t) k 0 c w s = none → ∀ g, Post 1000000 g) → (∀ w2 v, cbN (oT t) (dT t) k 0 c w s = some (w2, v) → ∀ g, (∀ i, i < k → g i = dgI t k c i) → (∀ i, k ≤ i → g i = f i) → Post (nI v) g) → wp_X10_criedBy_L15 told Post (k + 1) (nI c) (nI w) (nI s) (nI k + (-1)) f := by
  obtain ⟨⟨v0, vn, vs, vp, vr, vm⟩, vi, vk, vno, vso, vpa⟩ := id hV
  intro k
  induction k with
  | zero =>
    intro hk c w s f hc hw h1 h2
    rw [m1_0]
    exact ⟨fun _ => h2 w s rfl f (fun i hi => absurd hi (Nat.not_lt_zero i)) (fun i _ => rfl), fun q => absurd (by decide) q⟩
  | succ k ih =>
    intro hk c w s f hc hw h1 h2
    have ih' := ih (by omega)
    have hr : c % 6 < 6 := Nat.mod_lt _ (by omega)
    have hc6 : c / 6 < 46656 := by omega
    obtain ⟨w1, w2, w3, w4, w5⟩ := vi k (by omega)
    rw [cb_succ, Nat.zero_add] at h1 h2
    rw [pk_m1]
    refine ⟨fun q => absurd q (nI_pos (by omega)), fun _ x ex y ey => ?_⟩
    have ex' : x = nI (c % 6) := by rw [ex]; exact pk_rem (a := c) (d := 6) (by omega) (by omega) (by omega)
    have ey' : y = nI (c / 6) := by rw [ey]; exact pk_div (a := c) (d := 6) (by omega) (by omega) (by omega)
    subst ex' ey'
    rw [hM 10 (by omega)]
    refine s_has vr (by omega) (sp_b (fun a => ?_) (fun a => ?_))
    · have a' : oT t k = false := a
      rw [a]
      rw [if_neg (by rw [a']; decide)] at h1 h2
      unfold wp_X10_criedBy_J62 wp_X10_criedBy_J88 wp_X10_criedBy_J102 wp_X10_criedBy_J123
      rw [nI_clamp (by omega)]
      refine ⟨vp_in_nI (by omega) (by omega), fun g eg => kf rfl (s_has hw hr (sp_b (fun b => kf rfl (fun z ez => kf rfl ?_)) (fun b => ?_)))⟩
      · rw [if_neg (by rw [b]; decide)] at h1 h2
        obtain ⟨b1, b2⟩ := b_set w hw (c % 6) hr
        rw [b1] at ez
        have w6 := vk (c % 6) hr
        refine s_dayBy hM (by omega) rfl w1 rfl (by omega) hr rfl (by omega) (fun p ep q eq => ?_)
        rw [ez, ep, eq, nI_add]
        refine ih' (c / 6) _ _ g hc6 b2 h1 (fun w9 v9 e9 g9 c1 c2 => h2 w9 v9 e9 g9 (fun i hi => ?_) (fun i hi => ?_))
        · rcases Nat.lt_or_ge i k with z1 | z1
          · rw [dg_lo t z1]
            exact c1 i z1
          · obtain rfl : i = k := by omega
            rw [c2 i (Nat.le_refl _), eg, pk_us]
            unfold dgI
            rw [if_neg (by rw [a']; decide), show i + 1 - 1 - i = 0 by omega, Nat.pow_zero, Nat.div_one]
        · rw [c2 i (by omega), eg, pk_un (by omega)]
      · rw [if_pos b] at h1
        exact h1 rfl g
    · have a' : oT t k = true := a
      rw [a]
      rw [if_pos a'] at h1 h2
      unfold wp_X10_criedBy_J62 wp_X10_criedBy_J88 wp_X10_criedBy_J102 wp_X10_criedBy_J123
      rw [nI_clamp (by omega)]
      refine ⟨vp_in_nI (by omega) (by omega), fun g eg => kt rfl (pk_le (c % 6) 0 (fun b => kt rfl (fun z ez => kt rfl (fun p ep q eq => ?_))) (fun b => ?_))⟩
      · rw [if_pos (by omega)] at h1 h2
        rw [ez, ep, eq, show (0 : Int32) = nI 0 from rfl, fa_or, Nat.or_zero, nI_add, Nat.add_zero]
        refine ih' (c / 6) _ _ g hc6 hw h1 (fun w9 v9 e9 g9 c1 c2 => h2 w9 v9 e9 g9 (fun i hi => ?_) (fun i hi => ?_))
        · rcases Nat.lt_or_ge i k with z1 | z1
          · rw [dg_lo t z1]
            exact c1 i z1
          · obtain rfl : i = k := by omega
            rw [c2 i (Nat.le_refl _), eg, pk_us]
            unfold dgI
            rw [if_pos a']
        · rw [c2 i (by omega), eg, pk_un (by omega)]
      · rw [if_neg (by omega)] at h1
        exact h1 rfl g
theorem m1_sub (n : Nat) : nI n - 1 = nI n + (-1) := by
  cases n with
  | zero => decide
  | succ n => rw [nI_pred, pk_m1]
theorem s_cpY {t : Nat → Nat} {told : Nat → Int32} (hM : MR t told) (v0 : t 0 ≤ 6) {v1 v2 v3 v4 v5 : Int32} (hlt : ¬ v3 ≤ v5) {refused cares : Nat → Int32} {Post : Int32 → (Nat → Int32) → (Nat → Int32) → (Nat → Int32) → Prop} {K : Int32 → Int32 → Int32 → Int32 → Int32 → (Nat → Int32) → (Nat → Int32) → (Nat → Int32) → Prop} (hp : ∀ best, (∀ i, i < t 0 → best i = cares i) → K v1 v2 v3 v4 v5 refused cares best) : ∀ d i, i + d = t 0 → ∀ best, (∀ j, j < i → best j = cares j) → wp_X10_nurses_L73 told Post K (d + 1) v1 v2 v3 v4 v5 (nI i) refused cares best := by
  intro d
  induction d with
  | zero =>
    intro i e best hb
    obtain rfl : i = t 0 := by omega
    show wp_X10_many told _
    unfold wp_X10_many
    rw [hM 0 (by omega)]
    exact ⟨fun _ => hp best hb, fun q => absurd (nI_le (Nat.le_refl _) (by omega)) q⟩
  | succ d ih =>
    intro i e best hb
    show wp_X10_many told _
    unfold wp_X10_many
    rw [hM 0 (by omega)]
    refine ⟨fun q => absurd q (nI_ge (by omega) (by omega)), fun _ => ⟨fun q => absurd q hlt, fun _ => ⟨vp_in_nI (by omega) (by omega), fun x ex f ef y ey => ?_⟩⟩⟩
    rw [ey, nI_1]
    rw [nI_clamp (by omega)] at ex ef
    refine ih (i + 1) (by omega) f (fun j hj => ?_)
    rw [ef, upd_at]
    by_cases z : j = i
    · rw [if_pos z, ex, z]
    · rw [if_neg z]
      exact hb j (by omega)
theorem s_cpN {t : Nat → Nat} {told : Nat → Int32} (hM : MR t told) {v1 v2 v3 v4 v5 : Int32} (hle : v3 ≤ v5) {refused cares best : Nat → Int32} {Post : Int32 → (Nat → Int32) → (Nat → Int32) → (Nat → Int32) → Prop} {K : Int32 → Int32 → Int32 → Int32 → Int32 → (Nat → Int32) → (Nat → Int32) → (Nat → Int32) → Prop} (hp : K v1 v2 v3 v4 v5 refused cares best) : wp_X10_nurses_L73 told Post K 1 v1 v2 v3 v4 v5 0 refused cares best :=
  ⟨fun _ => hp, fun _ => ⟨fun _ => hp, fun q => absurd hle q⟩⟩
theorem s_codeL {t : Nat → Nat} {told : Nat → Int32} (hM : MR t told) (hV : VV t) {v1 : Int32} {refused : Nat → Int32} {Post : Int32 → (Nat → Int32) → (Nat → Int32) → (Nat → Int32) → Prop} {K : Int32 → Int32 → (Nat → Int32) → (Nat → Int32) → (Nat → Int32) → Prop} (hp : ∀ cares best, (∀ i, i < t 0 → best i = dgI t (t 0) (opN (oT t) (dT t) (t 0) 0 0).2 i) → K v1 (nI (opN (oT t) (dT t) (t 0) 0 0).1) refused cares best) : ∀ d c, c + d = 6 ^ t 0 → ∀ least cares best, least ≤ 1000000 → (c ≤ (opN (oT t) (dT t) (t 0) 0 0).2 → (opN (oT t) (dT t) (t 0) 0 0).1 < least) → ((opN (oT t) (dT t) (t 0) 0 0).2 < c → least = (opN (oT t) (dT t) (t 0) 0 0).1 ∧ ∀ i, i < t 0 → best i = dgI t (t 0) (opN (oT t) (dT t) (t 0) 0 0).2 i) → wp_X10_nurses_L56 told Post K (d + 1) v1 (nI (6 ^ t 0)) (nI least) (nI c) refused cares best := by
  have v0 := hV.1.1
  have hp6 : 6 ^ t 0 ≤ 46656 := Nat.le_trans (Nat.pow_le_pow_right (by omega) v0) (by decide)
  have hen : enN (oT t) (t 0) 0 0 := by
    unfold enN
    have h1 : bcN 0 = 0 := by decide
    have h2 := fb_ct_le (fun j => !oT t (0 + j)) (t 0)
    omega
  obtain ⟨o1, o2, ⟨w0, o3⟩, o4⟩ := op_ok (dT_le t) (t 0) 0 0 (by omega) v0 hen
  generalize (opN (oT t) (dT t) (t 0) 0 0).1 = L at *
  generalize (opN (oT t) (dT t) (t 0) 0 0).2 = G at *
  intro d
  induction d with
  | zero =>
    intro c e least cares best hl h1 h2
    obtain rfl : c = 6 ^ t 0 := by omega
    obtain ⟨h3, h4⟩ := h2 o2
    rw [h3]
    exact ⟨fun _ => hp cares best h4, fun q => absurd (nI_le (Nat.le_refl _) (by omega)) q⟩
  | succ d ih =>
    intro c e least cares best hl h1 h2
    refine ⟨fun q => absurd q (nI_ge (by omega) (by omega)), fun _ => ?_⟩
    show wp_X10_many told _
    unfold wp_X10_many
    rw [hM 0 (by omega)]
    intro x ex
    rw [m1_sub] at ex
    subst ex
    refine ⟨t 0 + 1, s_cbL hM hV (t 0) (Nat.le_refl _) c 0 0 cares (by omega) (by omega) (fun en g => ?_) (fun w2 v es g c1 c2 => ?_)⟩
    · have hle : nI least ≤ 1000000 := nI_le (a := least) (b := 1000000) hl (by omega)
      refine ⟨1, s_cpN hM hle ⟨fun _ y ey => ?_, fun q => absurd hle q⟩⟩
      rw [ey, nI_1]
      refine ih (c + 1) (by omega) least g best hl (fun z => h1 (by omega)) (fun z => h2 ?_)
      by_cases q : G = c
      · rw [q, en] at o3
        cases o3
      · omega
    · have hv := cb_le (dT_le t) _ _ _ _ _ _ _ es
      have hopt := o4 c v w2 (by omega) es
      have heq : G = c → v = L := by
        intro q
        rw [q, es] at o3
        exact (Prod.mk.inj (Option.some.inj o3)).2
      rcases Nat.lt_or_ge v least with q | q
      · have hlt : ¬ nI least ≤ nI v := nI_ge q (by omega)
        refine ⟨t 0 + 1, s_cpY hM v0 hlt (fun best2 hb2 => ⟨fun z => absurd z hlt, fun _ y ey => ?_⟩) (t 0) 0 (by omega) best (fun j hj => absurd hj (Nat.not_lt_zero j))⟩
        rw [ey, nI_1]
        refine ih (c + 1) (by omega) v g best2 (by omega) (fun z => ?_) (fun z => ?_)
        · rcases hopt with y1 | y1
          · exact y1
          · omega
        · by_cases z2 : G = c
          · refine ⟨heq z2, fun i hi => ?_⟩
            rw [hb2 i hi, c1 i hi, z2]
          · have := (h2 (by omega)).1
            omega
      · have hle : nI least ≤ nI v := nI_le q (by omega)
        refine ⟨1, s_cpN hM hle ⟨fun _ y ey => ?_, fun z => absurd hle z⟩⟩
        rw [ey, nI_1]
        refine ih (c + 1) (by omega) least g best hl (fun z => h1 (by omega)) (fun z => h2 ?_)
        by_cases z2 : G = c
        · have a1 := heq z2
          have a2 := h1 (by omega)
          omega
        · omega
theorem s_codes {t : Nat → Nat} {told : Nat → Int32} (hM : MR t told) (v0 : t 0 ≤ 6) {v1 v3 : Int32} {refused cares best : Nat → Int32} {Post : Int32 → (Nat → Int32) → (Nat → Int32) → (Nat → Int32) → Prop} {K : Int32 → Int32 → Int32 → (Nat → Int32) → (Nat → Int32) → (Nat → Int32) → Prop} (hp : K v1 (nI (6 ^ t 0)) v3 refused cares best) : ∀ d k, k + d = t 0 → wp_X10_nurses_L33 told Post K (d + 1) v1 (nI (6 ^ k)) v3 (nI k) refused cares best := by
  intro d
  induction d with
  | zero =>
    intro k e
    obtain rfl : k = t 0 := by omega
    show wp_X10_many told _
    unfold wp_X10_many
    rw [hM 0 (by omega)]
    exact ⟨fun _ => hp, fun q => absurd (nI_le (Nat.le_refl _) (by omega)) q⟩
  | succ d ih =>
    intro k e
    have ih' := ih (k + 1) (by omega)
    show wp_X10_many told _
    unfold wp_X10_many
    rw [hM 0 (by omega)]
    refine ⟨fun q => absurd q (nI_ge (by omega) (by omega)), fun _ x ex y ey => ?_⟩
    rw [ey, nI_1, ex, show (6 : Int32) = nI 6 from rfl, pk_mul, ← Nat.pow_succ]
    exact ih'
theorem s_inm {x : Int32} {n : Nat} (hn : n ≤ 6) {Post : Int32 → Prop} (hp : Post (bI (decide (-1 ≤ x.toInt) && decide (x.toInt < (n : Int))))) : wp_X10_in x.toInt64 (-1) ((nI n - 1).toInt64) Post := by
  refine s_in ?_
  have e0 : (nI n - 1).toInt = (n : Int) - 1 := by
    have h1 : (1 : Int32).toInt = 1 := rfl
    rw [fb_subI] <;> rw [nI_toInt (by omega), h1] <;> omega
  have e1 : ((-1 : Int64) ≤ x.toInt64 ↔ -1 ≤ x.toInt) := by
    rw [fa_le64, Int32.toInt_toInt64]
    exact Iff.rfl
  have e2 : (x.toInt64 ≤ (nI n - 1).toInt64 ↔ x.toInt < (n : Int)) := by
    rw [fa_le64, Int32.toInt_toInt64, Int32.toInt_toInt64, e0]
    omega
  simp only [e1, e2]
  exact hp
theorem d_nurses {infants retired month notes sounds pasts : Int32} {kind months home nurse skills noteRow soundRow pastRow : Nat → Int32} {told refused cares best dues cost rest : Nat → Int32} {badCalls noCalls fullCalls awaiting v1 : Int32} (hC : CC infants retired month notes sounds pasts kind months home nurse skills noteRow soundRow pastRow told) (hS : SR badCalls noCalls fullCalls refused) {P : Int32 → Int32 → Int32 → (Nat → Int32) → (Nat → Int32) → (Nat → Int32) → Int32 → (Nat → Int32) → (Nat → Int32) → (Nat → Int32) → Prop} (hP : ∀ r b9 a9 d9 c9 r9 ref9 ca9 be9, SR b9 noCalls fullCalls ref9 → P r b9 a9 d9 c9 r9 r ref9 ca9 be9) :
    wp_X9_nurses infants retired kind months skills badCalls awaiting dues cost rest v1 (fun r b9 a9 d9 c9 r9 => wp_X10_nurses told refused cares best v1 (fun r' ref9 ca9 be9 => P r b9 a9 d9 c9 r9 r' ref9 ca9 be9)) := by
  obtain ⟨t, hR, hM, hV⟩ := id hC
  have v0 := hV.1.1
  have hM0 := hM 0 (by omega)
  have hen : enN (oT t) (t 0) 0 0 := by
    unfold enN
    have h1 : bcN 0 = 0 := by decide
    have h2 := fb_ct_le (fun j => !oT t (0 + j)) (t 0)
    omega
  have bc0 : bcN 0 = 0 := by decide
  have ref : ∀ {Q : Int32 → (Nat → Int32) → (Nat → Int32) → (Nat → Int32) → Prop}, (decide (-1 ≤ v1.toInt) && decide (v1.toInt < (t 0 : Int))) = true → (∀ cares best, (∀ i, i < t 0 → best i = dgI t (t 0) (opN (oT t) (dT t) (t 0) 0 0).2 i) → ((v1 = (-1) → Q (nI (opN (oT t) (dT t) (t 0) 0 0).1) refused cares best) ∧ (¬ v1 = (-1) → (vp_in v1 6 ∧ Q (best v1.toNatClampNeg) refused cares best)))) → wp_X10_nurses told refused cares best v1 Q := by
    intro Q hv hq
    unfold wp_X10_nurses wp_X10_many
    rw [hM0]
    refine s_inm v0 (kt hv ⟨t 0 + 1, s_codes hM v0 ⟨6 ^ t 0 + 1, s_codeL hM hV hq (6 ^ t 0) 0 (by omega) 1000000 cares best (Nat.le_refl _) (fun _ => ?_) (fun z => absurd z (Nat.not_lt_zero _))⟩ (t 0) 0 (by omega)⟩)
    have := (op_ok (dT_le t) (t 0) 0 0 (by omega) v0 hen).1
    omega
  unfold wp_X9_nurses
  refine ⟨fun e => ?_, fun e => s_inf9 hR.1.1 v0 (sp_b (fun a => ?_) (fun a => ?_))⟩
  · unfold wp_X9_nurses_J20
    refine s_weigh9 hR hV (fun dues2 cost2 rest2 hD hr => ⟨fun _ => ?_, fun q => absurd e q⟩)
    unfold wp_X5_least
    have er : rest2 0 = nI (opN (oT t) (dT t) (t 0) 0 0).1 := by
      rw [hr 0 (by omega)]
      unfold rvN
      rw [bc0, op_at (t 0) 0 (by omega)]
      rfl
    rw [er]
    refine ref ?_ (fun cares3 best3 hb => ⟨fun _ => hP _ _ _ _ _ _ _ _ _ hS, fun q => absurd e q⟩)
    rw [e, show (-1 : Int32).toInt = -1 from rfl, Bool.and_eq_true, decide_eq_true_eq, decide_eq_true_eq]
    omega
  · intro x ex
    unfold wp_X10_nurses wp_X10_many
    rw [hM0]
    refine s_inm v0 (kf ?_ (fun y ey g eg => hP _ _ _ _ _ _ _ _ _ (SR_bad hS ex ey eg)))
    unfold inF at a
    rw [Bool.and_eq_false_iff, decide_eq_false_iff_not, decide_eq_false_iff_not] at a ⊢
    have : v1.toInt ≠ -1 := fun z => e (by rw [fa_eq, z]; rfl)
    omega
  · obtain ⟨i, hi0, rfl⟩ := inF_t a
    unfold wp_X9_nurses_J20
    refine s_weigh9 hR hV (fun dues2 cost2 rest2 hD hr => ⟨fun q => absurd q e, fun _ => ?_⟩)
    refine ⟨ctT t (t 0) + 1, s_nurseOf9 hV hD hr (by omega) (ctT t (t 0)) 0 (by omega) 0 (by omega) bc0 ?_⟩
    have ea : anN (oT t) (dT t) (t 0 - dlT t 0) (dlT t 0) 0 i = dgI t (t 0) (opN (oT t) (dT t) (t 0) 0 0).2 i := by
      have h1 := an_at (t := t) (i := i) (t 0) 0 (by omega) 0
      have h2 := an_dig (dT_le t) (out := oT t) (i := i) (t 0) 0 0 (by omega) v0 hen (Nat.zero_le _) (by omega)
      rw [show ctT t 0 = 0 from rfl] at h1
      rw [← h1, h2, Nat.zero_add]
      rfl
    rw [ea]
    refine ref ?_ (fun cares3 best3 hb => ⟨fun q => absurd q e, fun _ => ⟨vp_in_nI (by omega) (by omega), ?_⟩⟩)
    · rw [nI_toInt (by omega), Bool.and_eq_true, decide_eq_true_eq, decide_eq_true_eq]
      omega
    · rw [nI_clamp (by omega), hb i hi0]
      exact hP _ _ _ _ _ _ _ _ _ hS
