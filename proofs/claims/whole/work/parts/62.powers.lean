/-! powers, walks. -/
def gnI (c own other : Int32) : Int32 := if own = 0 then 3 - (c + 2 * (own + other)) / 2 else 4 - (c + 2 * (own + other))
def cwJ (c own other : Int32) : Bool := !decide (gnI c own other < gnI c (1 - own) other)
theorem s_gain9 {c a b : Int32} {Post : Int32 → Prop} (hp : Post (gnI c a b)) : wp_X9_gain c a b Post := by
  intro x ex
  subst ex
  unfold gnI at hp
  refine ⟨fun z => ?_, fun z => ?_⟩
  · rw [if_pos z] at hp
    exact hp
  · rw [if_neg z] at hp
    exact hp
theorem s_cont9 {c a b : Int32} {Post : Int32 → Prop} (hp : Post (bI (cwJ c a b))) : wp_X9_contentWith c a b Post := by
  unfold wp_X9_contentWith
  refine s_gain9 (s_gain9 ⟨fun z => ?_, fun z => ?_⟩)
  · unfold cwJ at hp
    rw [decide_eq_true z] at hp
    exact hp
  · unfold cwJ at hp
    rw [decide_eq_false z] at hp
    exact hp
def qpN (c p : Nat) : Bool := cwJ (nI c) (nI (p % 2)) (nI (p / 2)) && cwJ (nI c) (nI (p / 2)) (nI (p % 2))
def pwN (c : Nat) : Nat → Nat
  | 0 => 0
  | p + 1 => if qpN c p then pwN c p ||| 2 ^ p else pwN c p
theorem pwN_succ (c p : Nat) : pwN c (p + 1) = if qpN c p then pwN c p ||| 2 ^ p else pwN c p := rfl
theorem s_powL9 {infants retired badCalls : Int32} {kind months nurse skills : Nat → Int32} {c : Nat} {Post : Int32 → Int32 → Prop} (hp : Post (nI (pwN c 4)) badCalls) : ∀ d p, p + d = 4 → wp_X9_powers_L70 infants retired kind months nurse skills Post (d + 1) (nI c) (nI (pwN c p)) (nI p) badCalls := by
  intro d
  induction d with
  | zero =>
    intro p e
    obtain rfl : p = 4 := by omega
    exact ⟨fun _ => hp, fun q => absurd (show (3 : Int32) < nI 4 by decide) q⟩
  | succ d ih =>
    intro p e
    have ih' := ih (p + 1) (by omega)
    rw [pwN_succ] at ih'
    obtain ⟨b1, b2, b3⟩ := bc_half p (by omega)
    refine ⟨fun q => absurd q (nI_nlt (a := 3) (b := p) (by omega) (by omega)), fun _ x ex y ey => ?_⟩
    rw [b2] at ex
    rw [b3] at ey
    subst ex ey
    refine s_cont9 (sp_b (fun a z ez => ?_) (fun a => s_cont9 (sp_b (fun b z ez => ?_) (fun b w ew z ez => ?_))))
    · rw [show qpN c p = false by unfold qpN; rw [a]; rfl] at ih'
      rw [ez, nI_1]
      exact ih'
    · rw [show qpN c p = false by unfold qpN; rw [a, b]; rfl] at ih'
      rw [ez, nI_1]
      exact ih'
    · rw [show qpN c p = true by unfold qpN; rw [a, b]; rfl] at ih'
      rw [ez, ew, nI_1, b_24 p (by omega), fa_or]
      exact ih'
def onN (c w : Nat) : Int32 := if w % 2 = 1 then 4 - nI (c + 2 * bcN w) else 3 - nI (c + 2 * bcN w) / 2
def otN (c w : Nat) : Int32 := if 1 < w then 4 - nI (c + 2 * bcN w) else 3 - nI (c + 2 * bcN w) / 2
theorem pw_same : ∀ c, c < 7 → ∀ w, w < 4 → (!decide (onN c w < onN c (w ^^^ 1)) && !decide (otN c w < otN c (w ^^^ 2))) = qpN c w := by decide +kernel
theorem pw_xor : ∀ w, w < 4 → nI w ^^^ 1 = nI (w ^^^ 1) ∧ w ^^^ 1 < 4 ∧ nI w ^^^ 2 = nI (w ^^^ 2) ∧ w ^^^ 2 < 4 := by decide +kernel
theorem s_powA10 {t : Nat → Nat} {told : Nat → Int32} (hM : MR t told) (hV : VV t) {w h : Nat} (hw : w < t 0) (hh : h < 24) (haw : slN (t (24 + w)) h = false) {retired : Int32} {refused months : Nat → Int32} {Post : Int32 → Int32 → (Nat → Int32) → (Nat → Int32) → (Nat → Int32) → (Nat → Int32) → Prop} {K : Int32 → (Nat → Int32) → (Nat → Int32) → (Nat → Int32) → (Nat → Int32) → Prop} (hp : ∀ ones others, (∀ j, j < 4 → ones j = onN (cyT t w) j ∧ others j = otN (cyT t w) j) → K retired refused months ones others) : ∀ d k, k + d = 4 → ∀ ones others, (∀ j, j < k → ones j = onN (cyT t w) j ∧ others j = otN (cyT t w) j) → wp_X10_powers_L38 told Post K (d + 1) (nI h) (nI w) (nI k) retired refused months ones others := by
  obtain ⟨⟨v0, vn, vs, vp, vr, vm⟩, vi, vk, vno, vso, vpa⟩ := id hV
  obtain ⟨w1, w2, w3, w4, w5⟩ := vi w hw
  have w6 := vk _ w5
  intro d
  induction d with
  | zero =>
    intro k e ones others ho
    obtain rfl : k = 4 := by omega
    exact ⟨fun _ => hp _ _ ho, fun q => absurd (show (4 : Int32) ≤ nI 4 by decide) q⟩
  | succ d ih =>
    intro k e ones others ho
    obtain ⟨b1, b2, b3⟩ := bc_half k (by omega)
    refine ⟨fun q => absurd q (nI_ge (a := k) (b := 4) (by omega) (by omega)), fun _ => s_criesIn hM (by omega) rfl w1 rfl (by omega) rfl w5 rfl (by omega) hh ?_⟩
    rw [haw]
    simp only [Bool.false_eq_true, if_false]
    refine s_bits (by omega) (fun x ex => ?_)
    have ex' : x = nI (cyT t w + 2 * bcN k) := by
      rw [ex, show (2 : Int32) = nI 2 from rfl, pk_mul, nI_add]
      rfl
    subst ex'
    rw [b2]
    have fin : ∀ (y z : Int32), y = onN (cyT t w) k → z = otN (cyT t w) k → ∀ f1, f1 = upd ones (nI k).toNatClampNeg y → ∀ f2, f2 = upd others (nI k).toNatClampNeg z → ∀ u : Int32, u = nI k + 1 → wp_X10_powers_L38 told Post K (d + 1) (nI h) (nI w) u retired refused months f1 f2 := by
      intro y z ey ez f1 ef1 f2 ef2 u eu
      rw [eu, nI_1]
      rw [nI_clamp (by omega)] at ef1 ef2
      refine ih (k + 1) (by omega) f1 f2 (fun j hj => ?_)
      rw [ef1, ef2, upd_at, upd_at]
      by_cases q : j = k
      · rw [if_pos q, if_pos q, q]
        exact ⟨ey, ez⟩
      · rw [if_neg q, if_neg q]
        exact ho j (by omega)
    have oth : ∀ (y : Int32), y = onN (cyT t w) k → wp_X10_powers_J83 told Post (fun a b c d' e' f g i => wp_X10_powers_L38 told Post K (d + 1) a b c d' e' f g i) (nI h) (nI w) (nI k) (nI (cyT t w + 2 * bcN k)) y (nI k) retired refused months ones others := by
      intro y ey
      refine ⟨vp_in_nI (by omega) (by omega), fun f1 ef1 => pk_le k 1 (fun q => ⟨vp_in_nI (by omega) (by omega), fun f2 ef2 u eu => fin y _ ey ?_ f1 ef1 f2 ef2 u eu⟩) (fun q => ⟨vp_in_nI (by omega) (by omega), fun f2 ef2 u eu => fin y _ ey ?_ f1 ef1 f2 ef2 u eu⟩)⟩
      · unfold otN
        rw [if_neg (by omega)]
      · unfold otN
        rw [if_pos (by omega)]
    refine pk_eq (k % 2) 1 (fun q => oth _ ?_) (fun q => oth _ ?_)
    · unfold onN
      rw [if_pos q]
    · unfold onN
      rw [if_neg q]
theorem s_powB10 {told : Nat → Int32} {c : Nat} (hc : c < 7) {retired : Int32} {refused months ones others : Nat → Int32} (ho : ∀ j, j < 4 → ones j = onN c j ∧ others j = otN c j) {Post : Int32 → Int32 → (Nat → Int32) → (Nat → Int32) → (Nat → Int32) → (Nat → Int32) → Prop} (hp : Post (nI (pwN c 4)) retired refused months ones others) : ∀ d w, w + d = 4 → wp_X10_powers_L119 told Post (d + 1) (nI (pwN c w)) (nI w) retired refused months ones others := by
  intro d
  induction d with
  | zero =>
    intro w e
    obtain rfl : w = 4 := by omega
    exact ⟨fun _ => hp, fun q => absurd (show (4 : Int32) ≤ nI 4 by decide) q⟩
  | succ d ih =>
    intro w e
    have ih' := ih (w + 1) (by omega)
    rw [pwN_succ, ← pw_same c hc w (by omega)] at ih'
    obtain ⟨x1, x2, x3, x4⟩ := pw_xor w (by omega)
    rw [← (ho w (by omega)).1, ← (ho w (by omega)).2, ← (ho _ x2).1, ← (ho _ x4).2] at ih'
    have no : wp_X10_powers_L119 told Post (d + 1) (nI (pwN c w)) (nI (w + 1)) retired refused months ones others → wp_X10_powers_J167 told Post (fun a b c' d' e' f g => wp_X10_powers_L119 told Post (d + 1) a b c' d' e' f g) (nI (pwN c w)) (nI w) retired refused months ones others := by
      intro hw
      unfold wp_X10_powers_J167 wp_X10_powers_J168
      refine ⟨fun _ x ex y ey => ?_, fun q => absurd rfl q⟩
      rw [ex, ey, nI_1, show (0 : Int32) = nI 0 from rfl, fa_or, Nat.or_zero]
      exact hw
    refine ⟨fun q => absurd q (nI_ge (a := w) (b := 4) (by omega) (by omega)), fun _ => ?_⟩
    rw [x1, x3, nI_clamp (by omega), nI_clamp (by omega), nI_clamp (by omega)]
    refine ⟨vp_in_nI (by omega) (by omega), vp_in_nI x2 (by omega), fun q => no ?_, fun q => ⟨vp_in_nI x4 (by omega), fun q2 => no ?_, fun q2 => ?_⟩⟩
    · rw [decide_eq_true q] at ih'
      exact ih'
    · rw [decide_eq_false q, decide_eq_true q2] at ih'
      exact ih'
    · rw [decide_eq_false q, decide_eq_false q2] at ih'
      refine ⟨fun z => absurd z (by decide), fun _ x ex y ey => ?_⟩
      rw [ex, ey, nI_1, b_24 w (by omega), fa_or]
      exact ih'
theorem d_powers {infants retired month notes sounds pasts : Int32} {kind months home nurse skills noteRow soundRow pastRow : Nat → Int32} {told refused mmonths ones others : Nat → Int32} {badCalls noCalls fullCalls mretired v1 : Int32} (hC : CC infants retired month notes sounds pasts kind months home nurse skills noteRow soundRow pastRow told) (hS : SR badCalls noCalls fullCalls refused) {P : Int32 → Int32 → Int32 → Int32 → (Nat → Int32) → (Nat → Int32) → (Nat → Int32) → (Nat → Int32) → Prop} (hP : ∀ r b9 mr9 ref9 mm9 o9 t9, SR b9 noCalls fullCalls ref9 → P r b9 r mr9 ref9 mm9 o9 t9) :
    wp_X9_powers infants retired kind months nurse skills badCalls v1 (fun r b9 => wp_X10_powers told mretired refused mmonths ones others v1 (fun r' mr9 ref9 mm9 o9 t9 => P r b9 r' mr9 ref9 mm9 o9 t9)) := by
  obtain ⟨t, hR, hM, hV⟩ := id hC
  unfold wp_X9_powers wp_X10_powers
  refine s_within (m := 23) rfl (by decide) (sp_b (fun a => ?_) (fun a => ?_))
  · exact fun x ex => s_hour10 (kf a (fun y ey g eg => hP _ _ _ _ _ _ _ (SR_bad hS ex ey eg)))
  · obtain ⟨h, hh, rfl⟩ := inB_t a
    refine s9_sov hR hV (m := 0) (by omega) ?_
    rw [so_no hV]
    refine ⟨fun q => s_hour10 (kt a (s10_now hM hV (fun months retired hd => ?_))), fun q => ?_⟩
    · rw [so_no hV]
      exact ⟨fun _ => hP _ _ _ _ _ _ _ hS, fun z => absurd q z⟩
    · cases ew : so t 0 with
      | none => exact absurd ew q
      | some w =>
        have hw := (so_lt hV ew).1
        obtain ⟨⟨v0, vn, vs, vp, vr, vm⟩, vi, vk, vno, vso, vpa⟩ := id hV
        obtain ⟨a1, a2, a3, a4⟩ := hR.2.1 w hw
        obtain ⟨w1, w2, w3, w4, w5⟩ := vi w hw
        have w6 := vk _ w5
        have ne1 : ¬ oI (some w) = -1 := nI_m1 (by omega)
        refine s_isAsleep (i := w) (by omega) a1 w1 (by omega) (sp_b (fun b => ?_) (fun b => ?_))
        · have b' : slN (t (24 + w)) h = false := b
          show vp_in (nI w) 6 ∧ wp_X1_criesAt kind months skills (nI w) (nI h) (nurse (nI w).toNatClampNeg) _
          rw [nI_clamp (by omega), a4]
          refine ⟨vp_in_nI (by omega) (by omega), s_criesAt (by omega) a1 w1 a2 (by omega) (by omega) w5 (hR.2.2.1 _ w5) (by omega) ?_⟩
          rw [b']
          simp only [Bool.false_eq_true, if_false]
          refine ⟨5, s_powL9 (c := cyT t w) (s_hour10 (kt a (s10_now hM hV (fun months2 retired2 hd => ?_)))) 4 0 (by omega)⟩
          rw [ew]
          refine ⟨fun z => absurd z ne1, fun _ => s_isAwake (i := w) hM (by omega) rfl w1 (by omega) (kt (by rw [b']; rfl) ⟨5, s_powA10 hM hV hw (by omega) b' (fun ones2 others2 ho => ⟨5, s_powB10 (c := cyT t w) (Nat.lt_succ_of_le (cyN_le _ _ _)) ho (hP _ _ _ _ _ _ _ hS) 4 0 (by omega)⟩) 4 0 (by omega) _ _ (fun j hj => absurd hj (Nat.not_lt_zero j))⟩)⟩
        · have b' : slN (t (24 + w)) h = true := b
          refine s_hour10 (kt a (s10_now hM hV (fun months2 retired2 hd => ?_)))
          rw [ew]
          exact ⟨fun z => absurd z ne1, fun _ => s_isAwake (i := w) hM (by omega) rfl w1 (by omega) (kf (by rw [b']; rfl) (hP _ _ _ _ _ _ _ hS))⟩
/-! walks -/
def cmN (x : Nat) : Nat := if x % 10 = 0 then 10 else if x % 5 = 0 then 5 else if x % 2 = 0 then 2 else 1
theorem s_common9 {x : Nat} (hx : x ≤ 10) {Post : Int32 → Prop} (hp : Post (nI (cmN x))) : wp_X9_commonWithTen (nI x) Post := by
  unfold wp_X9_commonWithTen
  have e10 : nI x - nI x / 10 * 10 = nI (x % 10) := pk_rem (a := x) (d := 10) (by omega) (by omega) (by omega)
  have e5 : nI x - nI x / 5 * 5 = nI (x % 5) := pk_rem (a := x) (d := 5) (by omega) (by omega) (by omega)
  have e2 : nI x - nI x / 2 * 2 = nI (x % 2) := pk_rem (a := x) (d := 2) (by omega) (by omega) (by omega)
  rw [e10, e5, e2]
  unfold cmN at hp
  refine pk_eq (x % 10) 0 (fun z => ?_) (fun z => pk_eq (x % 5) 0 (fun y => ?_) (fun y => pk_eq (x % 2) 0 (fun w => ?_) (fun w => ?_)))
  · rw [if_pos z] at hp; exact hp
  · rw [if_neg z, if_pos y] at hp; exact hp
  · rw [if_neg z, if_neg y, if_pos w] at hp; exact hp
  · rw [if_neg z, if_neg y, if_neg w] at hp; exact hp
theorem cmN_b : ∀ x, x < 11 → 0 < cmN x ∧ cmN x < 11 := by decide +kernel
theorem s_spL9 {x c m : Nat} (hx : x < 11) (hc0 : 0 < c) (hc : c < 11) (hm : m ≤ 9) {Post : Int64 → Int64 → Prop} (hp : Post (lN ((x / c) ^ m)) (lN ((10 / c) ^ m))) : ∀ d k, k + d = m → wp_X9_setPower_L18 Post (d + 1) (nI x) (nI m) (nI c) (nI k) (lN ((x / c) ^ k)) (lN ((10 / c) ^ k)) := by
  intro d
  induction d with
  | zero =>
    intro k e
    obtain rfl : k = m := by omega
    exact ⟨fun _ => hp, fun q => absurd (nI_le (Nat.le_refl _) (by omega)) q⟩
  | succ d ih =>
    intro k e
    have ih' := ih (k + 1) (by omega)
    have e1 : nI x / nI c = nI (x / c) := pk_div (by omega) hc0 (by omega)
    have e2 : (10 : Int32) / nI c = nI (10 / c) := pk_div (a := 10) (by omega) hc0 (by omega)
    have hx2 : x / c ≤ x := Nat.div_le_self _ _
    have hx3 : 10 / c ≤ 10 := Nat.div_le_self _ _
    refine ⟨fun q => absurd q (nI_ge (by omega) (by omega)), fun _ => ⟨nI_ne0 hc0 (by omega), fun y ey => ⟨nI_ne0 hc0 (by omega), fun z ez w ew => ?_⟩⟩⟩
    rw [e1, nI_l (by omega), lN_mul, ← Nat.pow_succ] at ey
    rw [e2, nI_l (by omega), lN_mul, ← Nat.pow_succ] at ez
    rw [ey, ez, ew, nI_1]
    exact ih'
theorem lg_0 {b : Nat} (hb : b < 2 ^ 63) : lg_cmp (lN b) 0 = 0 ↔ b = 0 := by
  unfold lg_cmp
  rcases Nat.eq_zero_or_pos b with z | z
  · subst z
    exact ⟨fun _ => rfl, fun _ => by decide⟩
  · rw [if_pos (show lN b > 0 from (pk_lLT (a := 0) (b := b) (by omega) hb).mpr z)]
    exact ⟨fun h => absurd h (by decide), fun h => absurd h (by omega)⟩
theorem s_frac10 {u v : Nat} (hu : u < 2 ^ 63) (hv : v < 2 ^ 63) (hv0 : 0 < v) {above below : Int64} {Post : Int64 → Int64 → Prop} (hp : Post (lN (u / Nat.gcd u v)) (lN (v / Nat.gcd u v))) : wp_X10_fraction above below (lN u) (lN v) Post := by
  unfold wp_X10_fraction
  refine lp6 (wp_X10_fraction_L6 Post _) (fun a b c d e f => a = lN u ∧ b = lN v ∧ ∃ x y, x < 2 ^ 63 ∧ y < 2 ^ 63 ∧ c = lN x ∧ d = lN y ∧ Nat.gcd x y = Nat.gcd u v) (fun _ _ _ d _ _ => d.toInt.toNat) ?_ (lN u) (lN v) (lN u) (lN v) above below ⟨rfl, rfl, u, v, hu, hv, rfl, rfl, rfl⟩
  rintro n a b c d e f ⟨rfl, rfl, x, y, hx, hy, rfl, rfl, hg⟩ ih
  have hgp : 0 < Nat.gcd u v := Nat.gcd_pos_of_pos_right _ hv0
  have hgv : Nat.gcd u v ≤ v := Nat.gcd_le_right _ hv0
  refine ⟨fun q => ?_, fun q => ?_⟩
  · rw [lg_0 hy] at q
    subst q
    rw [Nat.gcd_zero_right] at hg
    subst hg
    have ne : ¬ lN (Nat.gcd u v) = 0 := fun w => by
      have := (pk_lEQ (b := 0) hx (by omega)).mp w
      omega
    refine ⟨ne, fun s es => ⟨ne, fun r er => ?_⟩⟩
    rw [pk_lDiv hu hgp hx] at es
    rw [pk_lDiv hv hgp hx] at er
    rw [es, er]
    exact hp
  · rw [lg_0 hy] at q
    refine ⟨fun w => q ((pk_lEQ (b := 0) hy (by omega)).mp w), fun s es => ?_⟩
    have y0 : 0 < y := by omega
    have hr := Nat.mod_lt x y0
    rw [pk_lRem hx y0 hy] at es
    refine ih _ _ _ _ _ _ ⟨rfl, rfl, y, x % y, hy, by omega, rfl, es, ?_⟩ ?_
    · rw [← hg, Nat.gcd_comm y, ← Nat.gcd_rec, Nat.gcd_comm]
    · rw [es, pk_lT (by omega), pk_lT hy]
      omega
theorem wk_frac : ∀ x, x < 11 → ∀ m, m < 10 → x ^ m / Nat.gcd (x ^ m) (10 ^ m) = (x / cmN x) ^ m ∧ 10 ^ m / Nat.gcd (x ^ m) (10 ^ m) = (10 / cmN x) ^ m ∧ 10 ^ m / 10 ^ m = 1 ∧ x ^ m < 10000000000 ∧ 10 ^ m < 10000000000 ∧ 0 < 10 ^ m := by decide +kernel
theorem s_wkL10 {t : Nat → Nat} {told : Nat → Int32} (hM : MR t told) (hV : VV t) {m c : Nat} (hm : m ≤ 9) (hc : c ≤ 10) {v3 : Int32} {above below : Int64} {refused : Nat → Int32} {Post : Int32 → Int64 → Int64 → Int32 → (Nat → Int32) → (Nat → Int32) → Prop} {K : Int32 → Int64 → Int64 → Int64 → Int64 → Int32 → (Nat → Int32) → (Nat → Int32) → Prop} (hp : ∀ months retired, HD (t 0) months retired (hh t m).1 (hh t m).2 → K v3 (lN ((10 - c) ^ m)) (lN (10 ^ m)) above below retired refused months) : ∀ d k, k + d = m → ∀ (retired : Int32) (months : Nat → Int32), HD (t 0) months retired (hh t k).1 (hh t k).2 → wp_X10_walks_L55 told Post K (d + 1) (nI m) (nI c) v3 (lN ((10 - c) ^ k)) (lN (10 ^ k)) (nI k) above below retired refused months := by
  intro d
  induction d with
  | zero =>
    intro k e retired months hd
    obtain rfl : k = m := by omega
    exact ⟨fun _ => hp _ _ hd, fun q => absurd (nI_le (Nat.le_refl _) (by omega)) q⟩
  | succ d ih =>
    intro k e retired months hd
    refine ⟨fun q => absurd q (nI_ge (by omega) (by omega)), fun _ => s10_go hM hV (by omega) hd (fun months2 retired2 hd2 x ex y ey z ez => ?_)⟩
    have ih' := ih (k + 1) (by omega) _ _ hd2
    have e10 : (10 : Int32) - nI c = nI (10 - c) := pk_sub (a := 10) (b := c) hc
    rw [e10, nI_l (by omega), lN_mul, ← Nat.pow_succ] at ex
    rw [show (10 : Int64) = lN 10 from rfl, lN_mul, ← Nat.pow_succ] at ey
    rw [ex, ey, ez, nI_1]
    exact ih'
theorem d_walks {infants retired month notes sounds pasts : Int32} {kind months home nurse skills noteRow soundRow pastRow : Nat → Int32} {told refused mmonths : Nat → Int32} {badCalls noCalls fullCalls mretired v1 v2 : Int32} {above below : Int64} (hC : CC infants retired month notes sounds pasts kind months home nurse skills noteRow soundRow pastRow told) (hS : SR badCalls noCalls fullCalls refused) {P : Int32 → Int64 → Int64 → Int32 → Int32 → Int32 → Int64 → Int64 → Int32 → (Nat → Int32) → (Nat → Int32) → Prop} (hP : ∀ r a9 e9 b9 n9 mr9 ref9 mm9, SR b9 n9 fullCalls ref9 → P r a9 e9 b9 n9 r a9 e9 mr9 ref9 mm9) :
    wp_X9_walks infants retired kind months above below badCalls noCalls v1 v2 (fun r a9 e9 b9 n9 => wp_X10_walks told above below mretired refused mmonths v1 v2 (fun r' ma9 me9 mr9 ref9 mm9 => P r a9 e9 b9 n9 r' ma9 me9 mr9 ref9 mm9)) := by
  obtain ⟨t, hR, hM, hV⟩ := id hC
  unfold wp_X9_walks wp_X10_walks wp_X9_walks_J18 wp_X10_walks_J24
  refine s_within (m := 9) rfl (by decide) (sp_b (fun a => ?_) (fun a => s_within (m := 10) rfl (by decide) (sp_b (fun b => ?_) (fun b => ?_))))
  · exact fun x ex => s_in0 (m := 9) rfl (by decide) (kf a (fun y ey g eg => hP _ _ _ _ _ _ _ _ (SR_bad hS ex ey eg)))
  · exact fun x ex => s_in0 (m := 9) rfl (by decide) (kt a (s_in0 (m := 10) rfl (by decide) (kf b (fun y ey g eg => hP _ _ _ _ _ _ _ _ (SR_bad hS ex ey eg)))))
  · obtain ⟨m, hm, rfl⟩ := inB_t a
    obtain ⟨c, hc, rfl⟩ := inB_t b
    refine s9_sov hR hV (m := 0) (by omega) ?_
    rw [so_no hV]
    refine ⟨fun q x ex => s_in0 (m := 9) rfl (by decide) (kt a (s_in0 (m := 10) rfl (by decide) (kt b (s10_now hM hV (fun months2 retired2 hd => ?_))))), fun q => ?_⟩
    · rw [so_no hV]
      exact ⟨fun _ y ey g eg => hP _ _ _ _ _ _ _ _ (SR_no hS ex ey eg), fun z => absurd q z⟩
    · obtain ⟨f1, f2, f3, f4, f5, f6⟩ := wk_frac (10 - c) (by omega) m (by omega)
      obtain ⟨cm0, cm1⟩ := cmN_b (10 - c) (by omega)
      have ref : ∀ (A E : Int64), (so t m = so t 0 → A = lN (((10 - c) / cmN (10 - c)) ^ m) ∧ E = lN ((10 / cmN (10 - c)) ^ m)) → (so t m ≠ so t 0 → A = 0 ∧ E = 1) → wp_X10_in ((nI m).toInt64) 0 9 (fun r_1 => ((r_1 = 0 → (wp_X10_bad refused (-2) (fun r_3 refused_4 => P 1 A E badCalls noCalls r_3 above below mretired refused_4 mmonths))) ∧ (¬ r_1 = 0 → (wp_X10_in ((nI c).toInt64) 0 10 (fun r_5 => ((r_5 = 0 → (wp_X10_bad refused (-2) (fun r_3 refused_4 => P 1 A E badCalls noCalls r_3 above below mretired refused_4 mmonths))) ∧ (¬ r_5 = 0 → (wp_X10_reignsNow told mretired mmonths (fun r_7 retired_8 months_9 => ((r_7 = (-1) → (wp_X10_no refused (fun r_30 refused_31 => P 1 A E badCalls noCalls r_30 above below retired_8 refused_31 months_9))) ∧ (¬ r_7 = (-1) → (∃ k_29 : Nat, wp_X10_walks_L55 told (fun r' ma9 me9 mr9 ref9 mm9 => P 1 A E badCalls noCalls r' ma9 me9 mr9 ref9 mm9) (fun (v3_17 : Int32) (v4_18 : Int64) (v6_19 : Int64) (above_20 : Int64) (below_21 : Int64) (retired_22 : Int32) (refused_23 : Nat → Int32) (months_24 : Nat → Int32) => (wp_X10_reigns retired_22 told months_24 (fun r_25 => ((r_25 = v3_17 → (wp_X10_walks_J104 told (fun r' ma9 me9 mr9 ref9 mm9 => P 1 A E badCalls noCalls r' ma9 me9 mr9 ref9 mm9) v6_19 v4_18 above_20 below_21 retired_22 refused_23 months_24)) ∧ (¬ r_25 = v3_17 → (wp_X10_walks_J104 told (fun r' ma9 me9 mr9 ref9 mm9 => P 1 A E badCalls noCalls r' ma9 me9 mr9 ref9 mm9) v6_19 0 above_20 below_21 retired_22 refused_23 months_24)))))) k_29 (nI m) (nI c) r_7 1 1 0 above below retired_8 refused months_9)))))))))))) := by
        intro A E h1 h2
        refine s_in0 (m := 9) rfl (by decide) (kt a (s_in0 (m := 10) rfl (by decide) (kt b (s10_now hM hV (fun months2 retired2 hd => ⟨fun z => absurd ((so_no hV 0).mp z) q, fun _ => ⟨m + 1, s_wkL10 hM hV hm hc (fun months3 retired3 hd3 => s10_reigns hM hV hd3 ?_) m 0 (by omega) _ _ hd⟩⟩)))))
        rw [so_eq hV]
        refine ⟨fun z => ?_, fun z => ?_⟩
        · refine s_frac10 (u := (10 - c) ^ m) (v := 10 ^ m) (by omega) (by omega) f6 ?_
          rw [f1, f2, ← (h1 z).1, ← (h1 z).2]
          exact hP _ _ _ _ _ _ _ _ hS
        · refine s_frac10 (u := 0) (v := 10 ^ m) (by omega) (by omega) f6 ?_
          rw [Nat.gcd_zero_left, Nat.zero_div, f3]
          have := h2 z
          rw [show lN 0 = A from this.1.symm, show lN 1 = E from this.2.symm]
          exact hP _ _ _ _ _ _ _ _ hS
      refine s9_sov hR hV (m := m) (by omega) ?_
      rw [so_eq hV]
      refine ⟨fun z => ?_, fun z => ref 0 1 (fun w => absurd w z) (fun _ => ⟨rfl, rfl⟩)⟩
      have e10 : (10 : Int32) - nI c = nI (10 - c) := pk_sub (a := 10) (b := c) hc
      rw [e10]
      exact s_common9 (by omega) ⟨m + 1, s_spL9 (by omega) cm0 cm1 hm (ref _ _ (fun _ => ⟨rfl, rfl⟩) (fun w => absurd z w)) m 0 (by omega)⟩
