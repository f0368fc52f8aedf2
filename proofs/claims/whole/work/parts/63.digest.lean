/-! dynasties, digest. -/
def lcN (x : Nat) : Nat := (x * 1103515245 + 12345) % 2147483648
theorem lcN_lt (x : Nat) : lcN x < 2147483648 := Nat.mod_lt _ (by omega)
theorem lc_step {x : Nat} (hx : x < 2147483648) : (lN x * 1103515245 + 12345) - (lN x * 1103515245 + 12345) / 2147483648 * 2147483648 = lN (lcN x) := by
  have e : lN x * 1103515245 + 12345 = lN (x * 1103515245 + 12345) := by
    rw [show (1103515245 : Int64) = lN 1103515245 from rfl, lN_mul, show (12345 : Int64) = lN 12345 from rfl, lN_add]
  rw [e]
  exact pk_lRem (a := x * 1103515245 + 12345) (b := 2147483648) (by omega) (by omega) (by omega)
theorem lc_month {y : Nat} (hy : y < 2147483648) : ((lN y / 65536) - (lN y / 65536) / 36 * 36).toInt32 = nI (y / 65536 % 36) := by
  have e : lN y / 65536 = lN (y / 65536) := pk_lDiv (a := y) (b := 65536) (by omega) (by omega) (by omega)
  have h2 : y / 65536 ≤ y := Nat.div_le_self _ _
  have e2 : lN (y / 65536) - lN (y / 65536) / 36 * 36 = lN (y / 65536 % 36) := pk_lRem (a := y / 65536) (b := 36) (by omega) (by omega) (by omega)
  rw [e, e2, lN_i]
def lcS (x : Nat) : Nat → Nat
  | 0 => x
  | i + 1 => lcN (lcS x i)
theorem lcS_lt {x : Nat} (hx : x < 2147483648) : ∀ i, lcS x i < 2147483648
  | 0 => hx
  | i + 1 => lcN_lt _
def dmN (x i : Nat) : Nat := lcS x (i + 1) / 65536 % 36
theorem dmN_lt (x i : Nat) : dmN x i < 36 := Nat.mod_lt _ (by omega)
def dwO (t : Nat → Nat) (x n : Nat) : Option Nat := rg (fun i => decide (wkN (t (24 + i)) ≤ dmN x i + 1)) (fun i => dmN x i + 1) n
def dsN (t : Nat → Nat) (x : Nat) : Nat → Nat × Int32
  | 0 => (x, 0)
  | k + 1 => (lcS (dsN t x k).1 (t 0), (dsN t x k).2 + (oI (dwO t (dsN t x k).1 (t 0)) + 1))
theorem dsN_lt {t : Nat → Nat} {x : Nat} (hx : x < 2147483648) : ∀ k, (dsN t x k).1 < 2147483648
  | 0 => hx
  | k + 1 => lcS_lt (dsN_lt hx k) _
def dwM (x : Nat) (o : Option Nat) : Int32 := match o with
  | none => -1
  | some j => nI (dmN x j + 1)
theorem s_dynI9 {infants retired month notes sounds pasts : Int32} {kind months home nurse skills noteRow soundRow pastRow : Nat → Int32} {t : Nat → Nat} (hR : CR t infants retired month notes sounds pasts kind months home nurse skills noteRow soundRow pastRow) (hV : VV t) {x : Nat} (hx : x < 2147483648) {v2 v5 v6 badCalls : Int32} {Post : Int32 → Int32 → Prop} {K : Int32 → Int64 → Int32 → Int32 → Int32 → Int32 → Prop} (hp : K v2 (lN (lcS x (t 0))) v5 v6 (oI (dwO t x (t 0))) badCalls) : ∀ d i, i + d = t 0 → wp_X9_dynasties_L49 infants kind Post K (d + 1) v2 (lN (lcS x i)) v5 v6 (oI (dwO t x i)) (dwM x (dwO t x i)) (nI i) badCalls := by
  obtain ⟨⟨e0, e10, e17, e1, e2, e3⟩, hi, hs, hn, ho, hpp⟩ := id hR
  obtain ⟨⟨v0, vn, vs, vp, vr, vm⟩, vi, vk, vno, vso, vpa⟩ := id hV
  intro d
  induction d with
  | zero =>
    intro i e
    obtain rfl : i = t 0 := by omega
    rw [e0]
    exact ⟨fun _ => hp, fun q => absurd (nI_le (Nat.le_refl _) (by omega)) q⟩
  | succ d ih =>
    intro i e
    have ih' := ih (i + 1) (by omega)
    have hm := dmN_lt x i
    have hw := wkN_le (t (24 + i))
    refine ⟨fun q => absurd q (by rw [e0]; exact nI_ge (by omega) (by omega)), fun _ y ey z ez => ?_⟩
    rw [lc_step (lcS_lt hx i)] at ey
    subst ey
    rw [lc_month (lcN_lt _)] at ez
    have ez' : z = nI (dmN x i + 1) := by rw [ez, nI_1]; rfl
    subst ez'
    have est : ∀ o, dwO t x (i + 1) = o → ∀ w : Int32, w = nI i + 1 → wp_X9_dynasties_L49 infants kind Post K (d + 1) v2 (lN (lcN (lcS x i))) v5 v6 (oI o) (dwM x o) w badCalls := by
      intro o eo w ew
      rw [eo] at ih'
      rw [ew, nI_1]
      exact ih'
    have rs : dwO t x (i + 1) = match dwO t x i with
        | none => if decide (wkN (t (24 + i)) ≤ dmN x i + 1) = true then none else some i
        | some j => if decide (wkN (t (24 + i)) ≤ dmN x i + 1) = true then some j else if dmN x j + 1 < dmN x i + 1 then some i else some j := rfl
    refine s_walkingAge (by omega) (hi i (by omega)).1 (vi i (by omega)).1 (pk_le (wkN (t (24 + i))) (dmN x i + 1) (fun q => est _ ?_) (fun q => ?_))
    · rw [rs, decide_eq_true q]
      cases dwO t x i <;> rfl
    · cases eo : dwO t x i with
      | none =>
        refine ⟨fun w => absurd w ?_, fun _ => ?_⟩
        · show ¬ nI (dmN x i + 1) ≤ -1
          rw [fa_le, nI_toInt (by omega), show (-1 : Int32).toInt = -1 from rfl]
          omega
        · refine est (some i) ?_
          rw [rs, eo, decide_eq_false (by omega)]
          rfl
      | some j =>
        have hj := dmN_lt x j
        refine pk_le (dmN x i + 1) (dmN x j + 1) (fun w => est (some j) ?_) (fun w => est (some i) ?_)
        · rw [rs, eo, decide_eq_false (by omega)]
          simp only [Bool.false_eq_true, if_false]
          rw [if_neg (by omega)]
        · rw [rs, eo, decide_eq_false (by omega)]
          simp only [Bool.false_eq_true, if_false]
          rw [if_pos w]
theorem s_dynL9 {infants retired month notes sounds pasts : Int32} {kind months home nurse skills noteRow soundRow pastRow : Nat → Int32} {t : Nat → Nat} (hR : CR t infants retired month notes sounds pasts kind months home nurse skills noteRow soundRow pastRow) (hV : VV t) {x n : Nat} (hx : x < 2147483648) (hn : n ≤ 60) {badCalls : Int32} {Post : Int32 → Int32 → Prop} (hp : Post (dsN t x n).2 badCalls) : ∀ d k, k + d = n → wp_X9_dynasties_L34 infants kind Post (d + 1) (nI n) (lN (dsN t x k).1) (dsN t x k).2 (nI k) badCalls := by
  intro d
  induction d with
  | zero =>
    intro k e
    obtain rfl : k = n := by omega
    exact ⟨fun _ => hp, fun q => absurd (nI_le (Nat.le_refl _) (by omega)) q⟩
  | succ d ih =>
    intro k e
    have ih' := ih (k + 1) (by omega)
    refine ⟨fun q => absurd q (nI_ge (by omega) (by omega)), fun _ => ⟨t 0 + 1, s_dynI9 hR hV (dsN_lt hx k) (fun y ey z ez => ?_) (t 0) 0 (by omega)⟩⟩
    rw [ey, ez, nI_1]
    exact ih'
theorem s_dynI10 {t : Nat → Nat} {told : Nat → Int32} (hM : MR t told) (v0 : t 0 ≤ 6) {x : Nat} (hx : x < 2147483648) {v2 v5 v6 retired : Int32} {refused : Nat → Int32} {Post : Int32 → Int32 → (Nat → Int32) → (Nat → Int32) → Prop} {K : Int32 → Int64 → Int32 → Int32 → Int32 → (Nat → Int32) → (Nat → Int32) → Prop} (hp : ∀ months, (∀ i, i < t 0 → months i = nI (dmN x i)) → K v2 (lN (lcS x (t 0))) v5 v6 retired refused months) : ∀ d i, i + d = t 0 → ∀ months, (∀ j, j < i → months j = nI (dmN x j)) → wp_X10_dynasties_L58 told Post K (d + 1) v2 (lN (lcS x i)) v5 v6 (nI i) retired refused months := by
  intro d
  induction d with
  | zero =>
    intro i e months hm
    obtain rfl : i = t 0 := by omega
    show wp_X10_many told _
    unfold wp_X10_many
    rw [hM 0 (by omega)]
    exact ⟨fun _ => hp _ hm, fun q => absurd (nI_le (Nat.le_refl _) (by omega)) q⟩
  | succ d ih =>
    intro i e months hm
    show wp_X10_many told _
    unfold wp_X10_many
    rw [hM 0 (by omega)]
    refine ⟨fun q => absurd q (nI_ge (by omega) (by omega)), fun _ y ey z ez => ⟨vp_in_nI (by omega) (by omega), fun f ef w ew => ?_⟩⟩
    rw [lc_step (lcS_lt hx i)] at ey
    subst ey
    rw [lc_month (lcN_lt _)] at ez
    rw [ew, nI_1]
    rw [nI_clamp (by omega)] at ef
    refine ih (i + 1) (by omega) f (fun j hj => ?_)
    rw [ef, upd_at]
    by_cases q : j = i
    · rw [if_pos q, ez, q]
      rfl
    · rw [if_neg q]
      exact hm j (by omega)
theorem s_dynL10 {t : Nat → Nat} {told : Nat → Int32} (hM : MR t told) (hV : VV t) {x n : Nat} (hx : x < 2147483648) (hn : n ≤ 60) {refused : Nat → Int32} {Post : Int32 → Int32 → (Nat → Int32) → (Nat → Int32) → Prop} (hp : ∀ a b, Post (dsN t x n).2 a refused b) : ∀ d k, k + d = n → ∀ retired months, wp_X10_dynasties_L40 told Post (d + 1) (nI n) (lN (dsN t x k).1) (dsN t x k).2 (nI k) retired refused months := by
  have v0 := hV.1.1
  intro d
  induction d with
  | zero =>
    intro k e retired months
    obtain rfl : k = n := by omega
    exact ⟨fun _ => hp _ _, fun q => absurd (nI_le (Nat.le_refl _) (by omega)) q⟩
  | succ d ih =>
    intro k e retired months
    have ih' := ih (k + 1) (by omega)
    refine ⟨fun q => absurd q (nI_ge (by omega) (by omega)), fun _ => s10_lay hM hV (fun months2 retired2 hd => ⟨t 0 + 1, s_dynI10 hM v0 (dsN_lt hx k) (fun months3 hm3 => ?_) (t 0) 0 (by omega) _ (fun j hj => absurd hj (Nat.not_lt_zero j))⟩)⟩
    have hd0 : HD (t 0) months3 0 0 (dmN (dsN t x k).1) := ⟨rfl, by omega, fun i hi => ⟨hm3 i hi, by have := dmN_lt (dsN t x k).1 i; omega⟩⟩
    refine s_goMonth hM v0 (fun i hi => (hV.2.1 i hi).1) hd0 (fun i hi => by have := dmN_lt (dsN t x k).1 i; omega) (fun months4 retired4 hd4 => s_reigns hM v0 hd4 (fun y ey z ez => ?_))
    have er : rg (fun i => (grt 0 (fun i => t (24 + i)) (dmN (dsN t x k).1) (t 0)).testBit i) (gmo 0 (dmN (dsN t x k).1)) (t 0) = dwO t (dsN t x k).1 (t 0) := by
      unfold dwO
      refine rg_cong (fun i hi => ?_) (fun i j hi hj oi oj => ?_)
      · rw [(grt_ok 0 (by omega) (fun i => t (24 + i)) (dmN (dsN t x k).1) (t 0) v0).2 i (by omega), Nat.zero_testBit, decide_eq_true hi]
        rfl
      · unfold gmo
        rw [Nat.zero_testBit, Nat.zero_testBit]
        exact Iff.rfl
    rw [er] at ey
    rw [ey, ez, nI_1]
    exact ih' _ _
theorem d_dynasties {infants retired month notes sounds pasts : Int32} {kind months home nurse skills noteRow soundRow pastRow : Nat → Int32} {told refused mmonths : Nat → Int32} {badCalls noCalls fullCalls mretired v1 v2 : Int32} (hC : CC infants retired month notes sounds pasts kind months home nurse skills noteRow soundRow pastRow told) (hS : SR badCalls noCalls fullCalls refused) {P : Int32 → Int32 → Int32 → Int32 → (Nat → Int32) → (Nat → Int32) → Prop} (hP : ∀ r b9 mr9 ref9 mm9, SR b9 noCalls fullCalls ref9 → P r b9 r mr9 ref9 mm9) :
    wp_X9_dynasties infants kind badCalls v1 v2 (fun r b9 => wp_X10_dynasties told mretired refused mmonths v1 v2 (fun r' mr9 ref9 mm9 => P r b9 r' mr9 ref9 mm9)) := by
  obtain ⟨t, hR, hM, hV⟩ := id hC
  unfold wp_X9_dynasties wp_X10_dynasties wp_X9_dynasties_J18 wp_X10_dynasties_J24
  refine s_within (m := 999999) rfl (by decide) (sp_b (fun a => ?_) (fun a => s_within (m := 60) rfl (by decide) (sp_b (fun b => ?_) (fun b => ?_))))
  · exact fun x ex => s_in0 (m := 999999) rfl (by decide) (kf a (fun y ey g eg => hP _ _ _ _ _ (SR_bad hS ex ey eg)))
  · exact fun x ex => s_in0 (m := 999999) rfl (by decide) (kt a (s_in0 (m := 60) rfl (by decide) (kf b (fun y ey g eg => hP _ _ _ _ _ (SR_bad hS ex ey eg)))))
  · obtain ⟨x, hx, rfl⟩ := inB_t a
    obtain ⟨n, hn, rfl⟩ := inB_t b
    intro y ey
    have ey' : y = lN x := by rw [ey, nI_l (by omega)]
    subst ey'
    refine ⟨n + 1, s_dynL9 hR hV (x := x) (by omega) hn (s_in0 (m := 999999) rfl (by decide) (kt a (s_in0 (m := 60) rfl (by decide) (kt b (fun z ez => ?_))))) n 0 (by omega)⟩
    have ez' : z = lN x := by rw [ez, nI_l (by omega)]
    subst ez'
    exact ⟨n + 1, s_dynL10 hM hV (x := x) (by omega) hn (fun c d => hP _ _ _ _ _ hS) n 0 (by omega) _ _⟩
/-! digest -/
def hsL (f : Nat → Int32) (x : Int64) : Nat → Int64
  | 0 => x
  | k + 1 => 31 * hsL f x k + (f k).toInt64
def ctN (t : Nat → Nat) (n w : Nat) : Nat := match w with
  | 0 => t 0
  | 1 => bcN (t 10)
  | 2 => t 17
  | 3 => t 1
  | 4 => t 2
  | 5 => t 3
  | _ => n
def hiL (t : Nat → Nat) (x : Int64) : Nat → Int64
  | 0 => x
  | i + 1 => 31 * (31 * (31 * (31 * (31 * hiL t x i + (nI (t (24 + i))).toInt64) + (nI (t (4 + i))).toInt64) + (nI (t (30 + i))).toInt64) + (nI (t (11 + i))).toInt64) + (bI ((t 10).testBit i)).toInt64
theorem s_tally9 {infants retired month notes sounds pasts : Int32} {kind months home nurse skills noteRow soundRow pastRow : Nat → Int32} {t : Nat → Nat} (hR : CR t infants retired month notes sounds pasts kind months home nurse skills noteRow soundRow pastRow) (hV : VV t) {length : Int32} {n : Nat} (hl : length = nI n) {w : Nat} (hw : w ≤ 6) {Post : Int32 → Prop} (hp : Post (nI (ctN t n w))) : wp_X9_tally infants retired month notes sounds pasts length (nI w) Post := by
  obtain ⟨⟨e0, e10, e17, e1, e2, e3⟩, hi, hs, hn, ho, hpp⟩ := id hR
  unfold wp_X9_tally
  rw [nI_ti (by omega), e0, e10, e17, e1, e2, e3, hl]
  refine ⟨fun e => ?_, fun e => s_bitCount hV.1.2.2.2.2.1 ?_, fun e => ?_, fun e => ?_, fun e => ?_, fun e => ?_, fun e => ?_⟩
  · obtain rfl : w = 0 := by omega
    exact hp
  · obtain rfl : w = 1 := by omega
    exact hp
  · obtain rfl : w = 2 := by omega
    exact hp
  · obtain rfl : w = 3 := by omega
    exact hp
  · obtain rfl : w = 4 := by omega
    exact hp
  · obtain rfl : w = 5 := by omega
    exact hp
  · obtain rfl : w = 6 := by omega
    exact hp
theorem s_count10 {t : Nat → Nat} {told : Nat → Int32} (hM : MR t told) (hV : VV t) {mlen : Int32} {n : Nat} (hl : mlen = nI n) {w : Nat} (hw : w ≤ 6) {Post : Int32 → Prop} (hp : Post (nI (ctN t n w))) : wp_X10_counted mlen told (nI w) Post := by
  unfold wp_X10_counted wp_X10_many
  rw [nI_ti (by omega), hl, hM 0 (by omega), hM 10 (by omega), hM 17 (by omega), hM 1 (by omega), hM 2 (by omega), hM 3 (by omega)]
  refine ⟨fun e => ?_, fun e => s_bits hV.1.2.2.2.2.1 ?_, fun e => ?_, fun e => ?_, fun e => ?_, fun e => ?_, fun e => ?_⟩
  · obtain rfl : w = 0 := by omega
    exact hp
  · obtain rfl : w = 1 := by omega
    exact hp
  · obtain rfl : w = 2 := by omega
    exact hp
  · obtain rfl : w = 3 := by omega
    exact hp
  · obtain rfl : w = 4 := by omega
    exact hp
  · obtain rfl : w = 5 := by omega
    exact hp
  · obtain rfl : w = 6 := by omega
    exact hp
theorem s_sums10 {t : Nat → Nat} {told : Nat → Int32} (hM : MR t told) {x : Int64} {a n : Nat} (han : a + n ≤ 190) {Post : Int64 → Prop} (hp : Post (hsL (fun k => nI (t (a + k))) x n)) : wp_X10_sums told x (nI a) (nI n) Post := by
  have go : ∀ d k, k + d = n → wp_X10_sums_L6 told Post (d + 1) (nI a) (nI n) (hsL (fun k => nI (t (a + k))) x k) (nI k) := by
    intro d
    induction d with
    | zero =>
      intro k e
      obtain rfl : k = n := by omega
      exact ⟨fun _ => hp, fun q => absurd (nI_le (Nat.le_refl _) (by omega)) q⟩
    | succ d ih =>
      intro k e
      have ih' := ih (k + 1) (by omega)
      obtain ⟨h1, h2⟩ := MR_at hM a (i := k) (by omega)
      refine ⟨fun q => absurd q (nI_ge (by omega) (by omega)), fun _ => ⟨h1, fun y ey z ez => ?_⟩⟩
      rw [h2] at ey
      rw [ey, ez, nI_1]
      exact ih'
  exact ⟨n + 1, go n 0 (by omega)⟩
theorem d_digest {infants retired month notes sounds pasts : Int32} {kind months home nurse skills noteRow soundRow pastRow : Nat → Int32} {told bytes mbytes : Nat → Int32} {length mlen : Int32} {above below : Int64} (hC : CC infants retired month notes sounds pasts kind months home nurse skills noteRow soundRow pastRow told) (hT : TR length bytes mlen mbytes) {P : Int64 → Int64 → Prop} (hP : ∀ r, P r r) :
    wp_X9_digest above below infants retired month notes sounds pasts kind months home nurse skills noteRow soundRow length (fun r => wp_X10_digest above below mlen told (fun r' => P r r')) := by
  obtain ⟨t, hR, hM, hV⟩ := id hC
  obtain ⟨⟨e0, e10, e17, e1, e2, e3⟩, hi, hs, hn, ho, hpp⟩ := id hR
  obtain ⟨⟨v0, vn, vs, vp, vr, vm⟩, vi, vk, vno, vso, vpa⟩ := id hV
  obtain ⟨n, hn150, l1, l2, hb⟩ := id hT
  -- the reference
  have ref : ∀ {Post : Int64 → Prop}, Post (31 * (31 * hsL (fun k => nI (t (66 + k))) (hsL (fun k => nI (t (36 + k))) (hiL t (hsL (fun k => nI (t (18 + k))) (hsL (fun w => nI (ctN t n w)) 1423 7) 6) (t 0)) (5 * t 1)) (2 * t 2) + above) + below) → wp_X10_digest above below mlen told Post := by
    intro Post hp
    have a2 : ∀ {K : Int64 → Prop} (x : Int64), K (hiL t x (t 0)) → ∀ d i, i + d = t 0 → wp_X10_digest_L43 above below mlen told Post K (d + 1) (hiL t x i) (nI i) := by
      intro K x hK d
      induction d with
      | zero =>
        intro i e
        obtain rfl : i = t 0 := by omega
        show wp_X10_many told _
        unfold wp_X10_many
        rw [hM 0 (by omega)]
        exact ⟨fun _ => hK, fun q => absurd (nI_le (Nat.le_refl _) (by omega)) q⟩
      | succ d ih =>
        intro i e
        have ih' := ih (i + 1) (by omega)
        show wp_X10_many told _
        unfold wp_X10_many
        rw [hM 0 (by omega)]
        obtain ⟨g1, g2⟩ := MR_at hM 4 (i := i) (by omega)
        obtain ⟨g3, g4⟩ := MR_at hM 30 (i := i) (by omega)
        obtain ⟨g5, g6⟩ := MR_at hM 11 (i := i) (by omega)
        refine ⟨fun q => absurd q (nI_ge (by omega) (by omega)), fun _ => s_kindOf hM (by omega) ⟨g1, g3, fun y ey => ⟨g5, fun z ez w ew => ?_⟩⟩⟩
        rw [show (4 : Int32) = nI 4 from rfl, g2, show (30 : Int32) = nI 30 from rfl, g4] at ey
        rw [show (11 : Int32) = nI 11 from rfl, g6, hM 10 (by omega), b_bit _ vr i (by omega), ey] at ez
        rw [ez, ew, nI_1]
        exact ih'
    have a1 : ∀ {K : Int64 → Prop}, K (hsL (fun w => nI (ctN t n w)) 1423 7) → ∀ d w, w + d = 7 → wp_X10_digest_L6 above below mlen told Post K (d + 1) (hsL (fun w => nI (ctN t n w)) 1423 w) (nI w) := by
      intro K hK d
      induction d with
      | zero =>
        intro w e
        obtain rfl : w = 7 := by omega
        exact ⟨fun _ => hK, fun q => absurd (show (7 : Int32) ≤ nI 7 by decide) q⟩
      | succ d ih =>
        intro w e
        have ih' := ih (w + 1) (by omega)
        refine ⟨fun q => absurd q (nI_ge (a := w) (b := 7) (by omega) (by omega)), fun _ => s_count10 hM hV l2 (by omega) (fun y ey z ez => ?_)⟩
        rw [ey, ez, nI_1]
        exact ih'
    have m5 : (5 : Int32) * told 1 = nI (5 * t 1) := by rw [hM 1 (by omega), show (5 : Int32) = nI 5 from rfl, pk_mul]
    have m2 : (2 : Int32) * told 2 = nI (2 * t 2) := by rw [hM 2 (by omega), show (2 : Int32) = nI 2 from rfl, pk_mul]
    refine ⟨8, a1 (s_sums10 (a := 18) (n := 6) hM (by omega) ⟨t 0 + 1, a2 _ ?_ (t 0) 0 (by omega)⟩) 7 0 (by omega)⟩
    rw [m5, m2]
    exact s_sums10 (a := 36) hM (by omega) (s_sums10 (a := 66) hM (by omega) hp)
  have c4 : ∀ {Post : Int64 → Prop} (x : Int64), Post (hsL (fun k => nI (t (66 + k))) x (2 * t 2)) → ∀ d k, k + d = 2 * t 2 → wp_X1_digestFrom_L166 infants retired notes sounds kind months home nurse skills noteRow soundRow Post (d + 1) (hsL (fun k => nI (t (66 + k))) x k) (nI k) := by
    intro Post x hp d
    have em : sounds * 2 = nI (2 * t 2) := by rw [e2, show (2 : Int32) = nI 2 from rfl, pk_mul]; congr 1; omega
    induction d with
    | zero =>
      intro k e
      obtain rfl : k = 2 * t 2 := by omega
      refine ⟨fun _ => hp, fun q => absurd ?_ q⟩
      rw [em]
      exact nI_le (Nat.le_refl _) (by omega)
    | succ d ih =>
      intro k e
      have ih' := ih (k + 1) (by omega)
      refine ⟨fun q => absurd q (by rw [em]; exact nI_ge (by omega) (by omega)), fun _ => ⟨vp_in_nI (by omega) (by omega), fun y ey z ez => ?_⟩⟩
      rw [nI_clamp (by omega), ho k (by omega)] at ey
      rw [ey, ez, nI_1]
      exact ih'
  have c3 : ∀ {Post K : Int64 → Prop} (x : Int64), K (hsL (fun k => nI (t (36 + k))) x (5 * t 1)) → ∀ d k, k + d = 5 * t 1 → wp_X1_digestFrom_L131 infants retired notes sounds kind months home nurse skills noteRow soundRow Post K (d + 1) (hsL (fun k => nI (t (36 + k))) x k) (nI k) := by
    intro Post K x hp d
    have em : notes * 5 = nI (5 * t 1) := by rw [e1, show (5 : Int32) = nI 5 from rfl, pk_mul]; congr 1; omega
    induction d with
    | zero =>
      intro k e
      obtain rfl : k = 5 * t 1 := by omega
      refine ⟨fun _ => hp, fun q => absurd ?_ q⟩
      rw [em]
      exact nI_le (Nat.le_refl _) (by omega)
    | succ d ih =>
      intro k e
      have ih' := ih (k + 1) (by omega)
      refine ⟨fun q => absurd q (by rw [em]; exact nI_ge (by omega) (by omega)), fun _ => ⟨vp_in_nI (by omega) (by omega), fun y ey z ez => ?_⟩⟩
      rw [nI_clamp (by omega), hn k (by omega)] at ey
      rw [ey, ez, nI_1]
      exact ih'
  have c2 : ∀ {Post K : Int64 → Prop} (x : Int64), K (hiL t x (t 0)) → ∀ d i, i + d = t 0 → wp_X1_digestFrom_L36 infants retired notes sounds kind months home nurse skills noteRow soundRow Post K (d + 1) (hiL t x i) (nI i) := by
    intro Post K x hp d
    induction d with
    | zero =>
      intro i e
      obtain rfl : i = t 0 := by omega
      refine ⟨fun _ => hp, fun q => absurd ?_ q⟩
      rw [e0]
      exact nI_le (Nat.le_refl _) (by omega)
    | succ d ih =>
      intro i e
      have ih' := ih (i + 1) (by omega)
      obtain ⟨a1, a2, a3, a4⟩ := hi i (by omega)
      refine ⟨fun q => absurd q (by rw [e0]; exact nI_ge (by omega) (by omega)), fun _ => ⟨vp_in_nI (by omega) (by omega), fun y1 f1 y2 f2 y3 f3 y4 f4 y5 f5 z ez => ?_⟩⟩
      rw [nI_clamp (by omega), a1] at f1
      rw [nI_clamp (by omega), a2, f1] at f2
      rw [nI_clamp (by omega), a3, f2] at f3
      rw [nI_clamp (by omega), a4, f3] at f4
      rw [e10, b_bit _ vr i (by omega), f4] at f5
      rw [f5, ez, nI_1]
      exact ih'
  have c1 : ∀ {Post K : Int64 → Prop} (x : Int64), K (hsL (fun k => nI (t (18 + k))) x 6) → ∀ d k, k + d = 6 → wp_X1_digestFrom_L5 infants retired notes sounds kind months home nurse skills noteRow soundRow Post K (d + 1) (hsL (fun k => nI (t (18 + k))) x k) (nI k) := by
    intro Post K x hp d
    induction d with
    | zero =>
      intro k e
      obtain rfl : k = 6 := by omega
      exact ⟨fun _ => hp, fun q => absurd (show (6 : Int32) ≤ nI 6 by decide) q⟩
    | succ d ih =>
      intro k e
      have ih' := ih (k + 1) (by omega)
      refine ⟨fun q => absurd q (nI_ge (a := k) (b := 6) (by omega) (by omega)), fun _ => ⟨vp_in_nI (by omega) (by omega), fun y ey z ez => ?_⟩⟩
      rw [nI_clamp (by omega), hs k (by omega)] at ey
      rw [ey, ez, nI_1]
      exact ih'
  have c0 : ∀ {Post K : Int64 → Prop}, K (hsL (fun w => nI (ctN t n w)) 1423 7) → ∀ d w, w + d = 7 → wp_X9_digest_L6 above below infants retired month notes sounds pasts kind months home nurse skills noteRow soundRow length Post K (d + 1) (hsL (fun w => nI (ctN t n w)) 1423 w) (nI w) := by
    intro Post K hp d
    induction d with
    | zero =>
      intro w e
      obtain rfl : w = 7 := by omega
      exact ⟨fun _ => hp, fun q => absurd (show (6 : Int32) < nI 7 by decide) q⟩
    | succ d ih =>
      intro w e
      have ih' := ih (w + 1) (by omega)
      refine ⟨fun q => absurd q (nI_nlt (a := 6) (b := w) (by omega) (by omega)), fun _ => s_tally9 hR hV l1 (by omega) (fun y ey z ez => ?_)⟩
      rw [ey, ez, nI_1]
      exact ih'
  refine ⟨8, c0 ⟨7, c1 _ ⟨t 0 + 1, c2 _ ⟨5 * t 1 + 1, c3 _ ⟨2 * t 2 + 1, c4 _ (fun y ey => ?_) (2 * t 2) 0 (by omega)⟩ (5 * t 1) 0 (by omega)⟩ (t 0) 0 (by omega)⟩ 6 0 (by omega)⟩ 7 0 (by omega)⟩
  rw [ey]
  exact ref (hP _)
