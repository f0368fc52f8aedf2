/-! is, which. -/
def mnN (k m h : Nat) : Nat := if slN k h then 100 else crN k m
theorem s_manner9 {k m h : Nat} (hk : k < 6) (hm : m < 64) (hh : h < 24) {Post : Int32 → Prop} (hp : Post (nI (mnN k m h))) : wp_X1_manner (nI k) (nI m) (nI h) Post := by
  unfold wp_X1_manner wp_X1_manner_J10 wp_X1_manner_J28
  rw [nI_clamp (by omega)]
  refine ⟨vp_in_nI hk (by omega), s_sleeps hk hh (sp_b (fun a => ⟨vp_in_nI hk (by omega), s_cries hk hm ?_⟩) (fun a => ?_))⟩
  · unfold mnN at hp
    rw [a] at hp
    exact hp
  · unfold mnN at hp
    rw [a] at hp
    exact hp
theorem mnN_le (k m h : Nat) : mnN k m h ≤ 100 := by
  have := crN_le k m
  unfold mnN
  split <;> omega
theorem s_then10 {k m h : Nat} (hk : k < 6) (hm : m < 64) (hh : h < 24) {Post : Int32 → Prop} (hp : Post (nI (if slN k h then 0 else crN k m))) : wp_X10_criesThen (nI k) (nI m) (nI h) Post := by
  unfold wp_X10_criesThen
  refine s_sleepsAs hk hh (sp_b (fun a => s_criesAs hk hm ?_) (fun a => ?_))
  · rw [a] at hp
    exact hp
  · rw [a] at hp
    exact hp
/-- whether a note of one fits a kind -/
def fqN (t : Nat → Nat) (k i n : Nat) : Bool := !decide (t (36 + 5 * n) = i) || decide (mnN k (t (36 + 5 * n + 1)) (t (36 + 5 * n + 2)) = 100 * t (36 + 5 * n + 3) + t (36 + 5 * n + 4))
def ftN (t : Nat → Nat) (k i : Nat) : Nat → Bool
  | 0 => true
  | n + 1 => ftN t k i n && fqN t k i n
theorem ftN_f {t : Nat → Nat} {k i n : Nat} (h : fqN t k i n = false) : ∀ d, ftN t k i (n + 1 + d) = false
  | 0 => by
    show (ftN t k i n && fqN t k i n) = false
    rw [h, Bool.and_false]
  | d + 1 => by
    show (ftN t k i (n + 1 + d) && fqN t k i (n + 1 + d)) = false
    rw [ftN_f h d, Bool.false_and]
theorem s_fitL9 {infants retired month notes sounds pasts : Int32} {kind months home nurse skills noteRow soundRow pastRow : Nat → Int32} {t : Nat → Nat} (hR : CR t infants retired month notes sounds pasts kind months home nurse skills noteRow soundRow pastRow) (hV : VV t) {k i : Nat} (hk : k < 6) (hi6 : i < 6) {Post : Int32 → Prop} (hp : Post (bI (ftN t k i (t 1)))) : ∀ d n, n + d = t 1 → ftN t k i n = true → wp_X1_fitsNotes_L2 notes noteRow Post (d + 1) (nI k) (nI i) (nI n) := by
  obtain ⟨⟨e0, e10, e17, e1, e2, e3⟩, hi, hs, hn, ho, hpp⟩ := id hR
  obtain ⟨⟨v0, vn, vs, vp, vr, vm⟩, vi, vk, vno, vso, vpa⟩ := id hV
  intro d
  induction d with
  | zero =>
    intro n e hf
    obtain rfl : n = t 1 := by omega
    rw [hf] at hp
    rw [e1]
    exact ⟨fun _ => hp, fun q => absurd (nI_le (Nat.le_refl _) (by omega)) q⟩
  | succ d ih =>
    intro n e hf
    have row : ∀ c, c < 5 → noteRow (5 * n + c) = nI (t (36 + 5 * n + c)) := fun c hc => by rw [hn _ (by omega), ← Nat.add_assoc]
    have row0 : noteRow (5 * n) = nI (t (36 + 5 * n)) := row 0 (by omega)
    obtain ⟨u0, u1, u2, u3, u4⟩ := vno n (by omega)
    refine ⟨fun q => absurd q (by rw [e1]; exact nI_ge (by omega) (by omega)), fun _ x ex => ?_⟩
    have ex' : x = nI (5 * n) := by rw [ex, show (5 : Int32) = nI 5 from rfl, pk_mul]; congr 1; omega
    subst ex'
    have a1 : nI (5 * n) + 1 = nI (5 * n + 1) := nI_1 _
    have a2 : nI (5 * n) + 2 = nI (5 * n + 2) := nI_add _ 2
    have a3 : nI (5 * n) + 3 = nI (5 * n + 3) := nI_add _ 3
    have a4 : nI (5 * n) + 4 = nI (5 * n + 4) := nI_add _ 4
    rw [a1, a2, a3, a4, nI_clamp (by omega), nI_clamp (by omega), nI_clamp (by omega), nI_clamp (by omega), nI_clamp (by omega), row0, row 1 (by omega), row 2 (by omega), row 3 (by omega), row 4 (by omega)]
    have go : fqN t k i n = true → ∀ y : Int32, y = nI n + 1 → wp_X1_fitsNotes_L2 notes noteRow Post (d + 1) (nI k) (nI i) y := by
      intro q y ey
      rw [ey, nI_1]
      refine ih (n + 1) (by omega) ?_
      show (ftN t k i n && fqN t k i n) = true
      rw [hf, q]
      rfl
    refine ⟨vp_in_nI (by omega) (by omega), pk_eq (t (36 + 5 * n)) i (fun z => ⟨vp_in_nI (by omega) (by omega), vp_in_nI (by omega) (by omega), fun w ew => ⟨vp_in_nI (by omega) (by omega), vp_in_nI (by omega) (by omega), s_manner9 hk (by omega) (by omega) ?_⟩⟩) (fun z => ?_)⟩
    · have ew' : w = nI (100 * t (36 + 5 * n + 3) + t (36 + 5 * n + 4)) := by
        rw [ew, show (100 : Int32) = nI 100 from rfl, pk_mul, nI_add]
        congr 2
        omega
      have hm := mnN_le k (t (36 + 5 * n + 1)) (t (36 + 5 * n + 2))
      refine pk_eq (mnN k (t (36 + 5 * n + 1)) (t (36 + 5 * n + 2))) (100 * t (36 + 5 * n + 3) + t (36 + 5 * n + 4)) (fun y => go ?_) (fun y => ?_) rfl ew'
      · unfold fqN
        rw [decide_eq_true y, Bool.or_true]
      · have q : fqN t k i n = false := by
          unfold fqN
          rw [decide_eq_true z, decide_eq_false y]
          rfl
        have := ftN_f q d
        rw [show n + 1 + d = t 1 by omega] at this
        rw [this] at hp
        exact hp
    · refine go ?_
      unfold fqN
      rw [decide_eq_false z]
      rfl
def kfN (t : Nat → Nat) (i : Nat) : Nat → Nat
  | 0 => 0
  | k + 1 => if ftN t k i (t 1) then kfN t i k ||| 2 ^ k else kfN t i k
theorem kfN_succ (t : Nat → Nat) (i k : Nat) : kfN t i (k + 1) = if ftN t k i (t 1) then kfN t i k ||| 2 ^ k else kfN t i k := rfl
theorem kfN_lt (t : Nat → Nat) (i : Nat) : ∀ k, k ≤ 6 → kfN t i k < 64
  | 0, _ => by show 0 < 64; omega
  | k + 1, hk => by
    have ih := kfN_lt t i k (by omega)
    rw [kfN_succ]
    split
    · exact (b_set _ ih k (by omega)).2
    · exact ih
theorem s_kfL9 {infants retired month notes sounds pasts : Int32} {kind months home nurse skills noteRow soundRow pastRow : Nat → Int32} {t : Nat → Nat} (hR : CR t infants retired month notes sounds pasts kind months home nurse skills noteRow soundRow pastRow) (hV : VV t) {i : Nat} (hi6 : i < 6) {Post : Int32 → Prop} (hp : Post (nI (kfN t i 6))) : ∀ d k, k + d = 6 → wp_X1_kindsThatFit_L4 notes noteRow Post (d + 1) (nI i) (nI (kfN t i k)) (nI k) := by
  intro d
  induction d with
  | zero =>
    intro k e
    obtain rfl : k = 6 := by omega
    exact ⟨fun _ => hp, fun q => absurd (show (6 : Int32) ≤ nI 6 by decide) q⟩
  | succ d ih =>
    intro k e
    have ih' := ih (k + 1) (by omega)
    rw [kfN_succ] at ih'
    refine ⟨fun q => absurd q (nI_ge (a := k) (b := 6) (by omega) (by omega)), fun _ => ⟨t 1 + 1, s_fitL9 hR hV (by omega) hi6 (sp_b (fun a y ey => ?_) (fun a x ex y ey => ?_)) (t 1) 0 (by omega) rfl⟩⟩
    · rw [a] at ih'
      rw [ey, nI_1]
      exact ih'
    · rw [a] at ih'
      rw [ex, ey, nI_1, (b_set _ (kfN_lt t i k (by omega)) k (by omega)).1]
      exact ih'
theorem s_kf9 {infants retired month notes sounds pasts : Int32} {kind months home nurse skills noteRow soundRow pastRow : Nat → Int32} {t : Nat → Nat} (hR : CR t infants retired month notes sounds pasts kind months home nurse skills noteRow soundRow pastRow) (hV : VV t) {i : Nat} (hi6 : i < 6) {Post : Int32 → Prop} (hp : Post (nI (kfN t i 6))) : wp_X1_kindsThatFit notes noteRow (nI i) Post := ⟨7, s_kfL9 hR hV hi6 hp 6 0 (by omega)⟩
theorem s_fitL10 {t : Nat → Nat} {told : Nat → Int32} (hM : MR t told) (hV : VV t) {k i : Nat} (hk : k < 6) (hi6 : i < 6) {v2 : Int32} {Post : Int32 → Prop} {K : Int32 → Int32 → Int32 → Int32 → Prop} (hp : K (nI i) v2 (nI k) (bI (ftN t k i (t 1)))) : ∀ d n, n + d = t 1 → wp_X10_kindsOf_L16 told Post K (d + 1) (nI i) v2 (nI k) (bI (ftN t k i n)) (nI n) := by
  obtain ⟨⟨v0, vn, vs, vp, vr, vm⟩, vi, vk, vno, vso, vpa⟩ := id hV
  have hM1 := hM 1 (by omega)
  intro d
  induction d with
  | zero =>
    intro n e
    obtain rfl : n = t 1 := by omega
    refine ⟨fun _ => hp, fun q => absurd ?_ q⟩
    rw [hM1]
    exact nI_le (Nat.le_refl _) (by omega)
  | succ d ih =>
    intro n e
    have ih' := ih (n + 1) (by omega)
    obtain ⟨u0, u1, u2, u3, u4⟩ := vno n (by omega)
    refine ⟨fun q => absurd q (by rw [hM1]; exact nI_ge (by omega) (by omega)), fun _ x ex => ?_⟩
    have ex' : x = nI (36 + 5 * n) := by rw [ex, show (5 : Int32) = nI 5 from rfl, pk_mul, show (36 : Int32) = nI 36 from rfl, nI_add]
    subst ex'
    have a1 : nI (36 + 5 * n) + 1 = nI (36 + 5 * n + 1) := nI_1 _
    have a2 : nI (36 + 5 * n) + 2 = nI (36 + 5 * n + 2) := nI_add _ 2
    have a3 : nI (36 + 5 * n) + 3 = nI (36 + 5 * n + 3) := nI_add _ 3
    have a4 : nI (36 + 5 * n) + 4 = nI (36 + 5 * n + 4) := nI_add _ 4
    rw [a2, a3, nI_clamp (by omega), nI_clamp (by omega), hM (36 + 5 * n + 2) (by omega), hM (36 + 5 * n + 3) (by omega)]
    have fin : ∀ s : Bool, (s = true ↔ mnN k (t (36 + 5 * n + 1)) (t (36 + 5 * n + 2)) = 100 * t (36 + 5 * n + 3) + t (36 + 5 * n + 4)) → wp_X10_kindsOf_J109 told Post (fun a b c d' e' => wp_X10_kindsOf_L16 told Post K (d + 1) a b c d' e') (nI i) v2 (nI k) (bI (ftN t k i n)) (nI n) (nI (36 + 5 * n)) (bI s) := by
      intro s hs
      have no : ftN t k i (n + 1) = false → ∀ y : Int32, y = nI n + 1 → wp_X10_kindsOf_L16 told Post K (d + 1) (nI i) v2 (nI k) 0 y := by
        intro q y ey
        rw [q] at ih'
        rw [ey, nI_1]
        exact ih'
      have yes : ftN t k i (n + 1) = true → ∀ y : Int32, y = nI n + 1 → wp_X10_kindsOf_L16 told Post K (d + 1) (nI i) v2 (nI k) 1 y := by
        intro q y ey
        rw [q] at ih'
        rw [ey, nI_1]
        exact ih'
      unfold wp_X10_kindsOf_J109
      refine sp_b (fun a => no ?_) (fun a => ⟨vp_in_nI (by omega) (by omega), ?_⟩)
      · show (ftN t k i n && fqN t k i n) = false
        rw [a, Bool.false_and]
      · rw [nI_clamp (by omega), hM (36 + 5 * n) (by omega)]
        refine pk_eq (t (36 + 5 * n)) i (fun z => sp_b (fun b => no ?_) (fun b => yes ?_)) (fun z => yes ?_)
        · show (ftN t k i n && fqN t k i n) = false
          unfold fqN
          rw [a, decide_eq_true z, decide_eq_false (fun w => by rw [hs.mpr w] at b; cases b)]
          rfl
        · show (ftN t k i n && fqN t k i n) = true
          unfold fqN
          rw [a, decide_eq_true (hs.mp b), Bool.or_true]
          rfl
        · show (ftN t k i n && fqN t k i n) = true
          unfold fqN
          rw [a, decide_eq_false z]
          rfl
    have hcr := crN_le k (t (36 + 5 * n + 1))
    have j67 : ∀ s : Bool, (s = true ↔ t (36 + 5 * n + 3) = 1) → wp_X10_kindsOf_J67 told Post (fun a b c d' e' => wp_X10_kindsOf_L16 told Post K (d + 1) a b c d' e') (nI i) v2 (nI k) (bI (ftN t k i n)) (nI n) (nI (36 + 5 * n)) (bI s) (bI (slN k (t (36 + 5 * n + 2)))) := by
      intro s hs
      unfold wp_X10_kindsOf_J67
      rw [a1, a2, a4, nI_clamp (by omega), nI_clamp (by omega), nI_clamp (by omega), hM (36 + 5 * n + 1) (by omega), hM (36 + 5 * n + 2) (by omega), hM (36 + 5 * n + 4) (by omega)]
      refine ⟨fun q => ⟨vp_in_nI (by omega) (by omega), vp_in_nI (by omega) (by omega), s_then10 hk (by omega) u2 ⟨vp_in_nI (by omega) (by omega), ?_⟩⟩, fun q => fin false ⟨fun w => (by cases w), fun w => ?_⟩⟩
      · have hq : slN k (t (36 + 5 * n + 2)) = s := by
          cases s <;> cases hsl : slN k (t (36 + 5 * n + 2)) <;> first | rfl | (rw [hsl] at q; exact absurd q (by decide))
        have hkey : ((if slN k (t (36 + 5 * n + 2)) = true then 0 else crN k (t (36 + 5 * n + 1))) = t (36 + 5 * n + 4)) ↔ mnN k (t (36 + 5 * n + 1)) (t (36 + 5 * n + 2)) = 100 * t (36 + 5 * n + 3) + t (36 + 5 * n + 4) := by
          unfold mnN
          rw [hq]
          cases s with
          | true =>
            have := hs.mp rfl
            simp only [if_true]
            omega
          | false =>
            have : ¬ t (36 + 5 * n + 3) = 1 := fun w => by have := hs.mpr w; cases this
            simp only [Bool.false_eq_true, if_false]
            omega
        have hlt : (if slN k (t (36 + 5 * n + 2)) = true then 0 else crN k (t (36 + 5 * n + 1))) < 2 ^ 31 := by split <;> omega
        refine ⟨fun w => fin true ⟨fun _ => ?_, fun _ => rfl⟩, fun w => fin false ⟨fun y => (by cases y), fun y => ?_⟩⟩
        · exact hkey.mp ((nI_eq hlt (by omega)).mp w)
        · exact absurd ((nI_eq hlt (by omega)).mpr (hkey.mpr y)) w
      · exfalso
        apply q
        unfold mnN at w
        cases hsl : slN k (t (36 + 5 * n + 2)) with
        | true =>
          rw [hsl] at w
          simp only [if_true] at w
          rw [hs.mpr (by omega)]
        | false =>
          rw [hsl] at w
          simp only [Bool.false_eq_true, if_false] at w
          have : s = false := by
            cases s with
            | false => rfl
            | true =>
              have := hs.mp rfl
              omega
          rw [this]
    refine ⟨vp_in_nI (by omega) (by omega), s_sleepsAs hk u2 ⟨vp_in_nI (by omega) (by omega), pk_eq (t (36 + 5 * n + 3)) 1 (fun z => j67 true ⟨fun _ => z, fun _ => rfl⟩) (fun z => j67 false ⟨fun w => (by cases w), fun w => absurd w z⟩)⟩⟩
theorem s_kfL10 {t : Nat → Nat} {told : Nat → Int32} (hM : MR t told) (hV : VV t) {i : Nat} (hi6 : i < 6) {Post : Int32 → Prop} (hp : Post (nI (kfN t i 6))) : ∀ d k, k + d = 6 → wp_X10_kindsOf_L4 told Post (d + 1) (nI i) (nI (kfN t i k)) (nI k) := by
  intro d
  induction d with
  | zero =>
    intro k e
    obtain rfl : k = 6 := by omega
    exact ⟨fun _ => hp, fun q => absurd (show (6 : Int32) ≤ nI 6 by decide) q⟩
  | succ d ih =>
    intro k e
    have ih' := ih (k + 1) (by omega)
    rw [kfN_succ] at ih'
    refine ⟨fun q => absurd q (nI_ge (a := k) (b := 6) (by omega) (by omega)), fun _ => ⟨t 1 + 1, s_fitL10 hM hV (by omega) hi6 (sp_b (fun a x ex y ey => ?_) (fun a x ex y ey => ?_)) (t 1) 0 (by omega)⟩⟩
    · rw [a] at ih'
      rw [ex, ey, nI_1, show (0 : Int32) = nI 0 from rfl, fa_or, Nat.or_zero]
      exact ih'
    · rw [a] at ih'
      rw [ex, ey, nI_1, (b_set _ (kfN_lt t i k (by omega)) k (by omega)).1]
      exact ih'
theorem s_kf10 {t : Nat → Nat} {told : Nat → Int32} (hM : MR t told) (hV : VV t) {i : Nat} (hi6 : i < 6) {Post : Int32 → Prop} (hp : Post (nI (kfN t i 6))) : wp_X10_kindsOf told (nI i) Post := ⟨7, s_kfL10 hM hV hi6 hp 6 0 (by omega)⟩
theorem d_is {infants retired month notes sounds pasts : Int32} {kind months home nurse skills noteRow soundRow pastRow : Nat → Int32} {told refused : Nat → Int32} {badCalls noCalls fullCalls v1 : Int32} (hC : CC infants retired month notes sounds pasts kind months home nurse skills noteRow soundRow pastRow told) (hS : SR badCalls noCalls fullCalls refused) {P : Int32 → Int32 → Int32 → (Nat → Int32) → Prop} (hP : ∀ r b9 ref9, SR b9 noCalls fullCalls ref9 → P r b9 r ref9) :
    wp_X9_is infants notes noteRow badCalls v1 (fun r b9 => wp_X10_is told refused v1 (fun r' ref9 => P r b9 r' ref9)) := by
  obtain ⟨t, hR, hM, hV⟩ := id hC
  have v0 := hV.1.1
  have hM0 := hM 0 (by omega)
  unfold wp_X9_is wp_X10_is
  refine s_inf9 hR.1.1 v0 (sp_b (fun a => ?_) (fun a => ?_))
  · exact fun x ex => s_inf10 hM0 v0 (kf a (fun y ey g eg => hP _ _ _ (SR_bad hS ex ey eg)))
  · obtain ⟨i, hi0, rfl⟩ := inF_t a
    exact s_kf9 hR hV (by omega) (s_inf10 hM0 v0 (kt a (s_kf10 hM hV (by omega) (hP _ _ _ hS))))
/-! which -/
def wqN (t : Nat → Nat) (h n : Nat) : Bool := (!slN (t (24 + t (66 + 2 * n))) h) == decide (t (66 + 2 * n + 1) = 1)
def waN (t : Nat → Nat) (h : Nat) : Nat → Bool
  | 0 => true
  | n + 1 => waN t h n && wqN t h n
theorem waN_f {t : Nat → Nat} {h n : Nat} (hq : wqN t h n = false) : ∀ d, waN t h (n + 1 + d) = false
  | 0 => by
    show (waN t h n && wqN t h n) = false
    rw [hq, Bool.and_false]
  | d + 1 => by
    show (waN t h (n + 1 + d) && wqN t h (n + 1 + d)) = false
    rw [waN_f hq d, Bool.false_and]
theorem s_mayL9 {infants retired month notes sounds pasts : Int32} {kind months home nurse skills noteRow soundRow pastRow : Nat → Int32} {t : Nat → Nat} (hR : CR t infants retired month notes sounds pasts kind months home nurse skills noteRow soundRow pastRow) (hV : VV t) {h : Nat} (h24 : h < 24) {Post : Int32 → Prop} (hp : Post (bI (waN t h (t 2)))) : ∀ d n, n + d = t 2 → waN t h n = true → wp_X1_mayHaveBeen_L2 sounds kind soundRow Post (d + 1) (nI h) (nI n) := by
  obtain ⟨⟨e0, e10, e17, e1, e2, e3⟩, hi, hs, hn, ho, hpp⟩ := id hR
  obtain ⟨⟨v0, vn, vs, vp, vr, vm⟩, vi, vk, vno, vso, vpa⟩ := id hV
  intro d
  induction d with
  | zero =>
    intro n e hf
    obtain rfl : n = t 2 := by omega
    rw [hf] at hp
    rw [e2]
    exact ⟨fun _ => hp, fun q => absurd (nI_le (Nat.le_refl _) (by omega)) q⟩
  | succ d ih =>
    intro n e hf
    obtain ⟨u0, u1⟩ := vso n (by omega)
    have row0 : soundRow (2 * n) = nI (t (66 + 2 * n)) := ho _ (by omega)
    have row1 : soundRow (2 * n + 1) = nI (t (66 + 2 * n + 1)) := by rw [ho _ (by omega), ← Nat.add_assoc]
    refine ⟨fun q => absurd q (by rw [e2]; exact nI_ge (by omega) (by omega)), fun _ x ex => ?_⟩
    have ex' : x = nI (2 * n) := by rw [ex, show (2 : Int32) = nI 2 from rfl, pk_mul]; congr 1; omega
    subst ex'
    rw [nI_1, nI_clamp (by omega), nI_clamp (by omega), row0, row1]
    have go : ∀ s : Bool, (s = true ↔ t (66 + 2 * n + 1) = 1) → wp_X1_mayHaveBeen_J42 sounds kind soundRow Post (fun a b => wp_X1_mayHaveBeen_L2 sounds kind soundRow Post (d + 1) a b) (nI h) (nI n) (bI s) (bI (slN (t (24 + t (66 + 2 * n))) h)) := by
      intro s hs1
      have eq : wqN t h n = ((!slN (t (24 + t (66 + 2 * n))) h) == s) := by
        unfold wqN
        congr 1
        cases s with
        | true => exact decide_eq_true (hs1.mp rfl)
        | false => exact decide_eq_false (fun w => by have := hs1.mpr w; cases this)
      refine ⟨fun q => ?_, fun q y ey => ?_⟩
      · have hq : wqN t h n = false := by
          rw [eq]
          cases hsl : slN (t (24 + t (66 + 2 * n))) h <;> cases s <;> first | rfl | (rw [hsl] at q; exact absurd q (by decide))
        have := waN_f hq d
        rw [show n + 1 + d = t 2 by omega] at this
        rw [this] at hp
        exact hp
      · have hq : wqN t h n = true := by
          rw [eq]
          cases hsl : slN (t (24 + t (66 + 2 * n))) h <;> cases s <;> first | rfl | (rw [hsl] at q; exact absurd rfl q)
        rw [ey, nI_1]
        refine ih (n + 1) (by omega) ?_
        show (waN t h n && wqN t h n) = true
        rw [hf, hq]
        rfl
    exact ⟨vp_in_nI (by omega) (by omega), s_isAsleep (by omega) (hi _ u0).1 (vi _ u0).1 h24 ⟨vp_in_nI (by omega) (by omega), pk_eq (t (66 + 2 * n + 1)) 1 (fun z => go true ⟨fun _ => z, fun _ => rfl⟩) (fun z => go false ⟨fun w => (by cases w), fun w => absurd w z⟩)⟩⟩
def whN (t : Nat → Nat) : Nat → Nat
  | 0 => 0
  | h + 1 => if waN t h (t 2) then whN t h ||| 2 ^ h else whN t h
theorem whN_succ (t : Nat → Nat) (h : Nat) : whN t (h + 1) = if waN t h (t 2) then whN t h ||| 2 ^ h else whN t h := rfl
theorem b_24 : ∀ h, h < 24 → (1 : Int32) <<< (nI h &&& 31) = nI (2 ^ h) := by decide +kernel
theorem s_whL9 {infants retired month notes sounds pasts : Int32} {kind months home nurse skills noteRow soundRow pastRow : Nat → Int32} {t : Nat → Nat} (hR : CR t infants retired month notes sounds pasts kind months home nurse skills noteRow soundRow pastRow) (hV : VV t) {Post : Int32 → Prop} (hp : Post (nI (whN t 24))) : ∀ d h, h + d = 24 → wp_X9_which_L4 sounds kind soundRow Post (d + 1) (nI (whN t h)) (nI h) := by
  intro d
  induction d with
  | zero =>
    intro h e
    obtain rfl : h = 24 := by omega
    exact ⟨fun _ => hp, fun q => absurd (show (24 : Int32) ≤ nI 24 by decide) q⟩
  | succ d ih =>
    intro h e
    have ih' := ih (h + 1) (by omega)
    rw [whN_succ] at ih'
    refine ⟨fun q => absurd q (nI_ge (a := h) (b := 24) (by omega) (by omega)), fun _ => ⟨t 2 + 1, s_mayL9 hR hV (by omega) (sp_b (fun a y ey => ?_) (fun a x ex y ey => ?_)) (t 2) 0 (by omega) rfl⟩⟩
    · rw [a] at ih'
      rw [ey, nI_1]
      exact ih'
    · rw [a] at ih'
      rw [ex, ey, nI_1, b_24 h (by omega), fa_or]
      exact ih'
theorem s_mayL10 {t : Nat → Nat} {told : Nat → Int32} (hM : MR t told) (hV : VV t) {h : Nat} (h24 : h < 24) {v1 : Int32} {Post : Int32 → Prop} {K : Int32 → Int32 → Int32 → Prop} (hp : K v1 (nI h) (bI (waN t h (t 2)))) : ∀ d n, n + d = t 2 → wp_X10_which_L15 told Post K (d + 1) v1 (nI h) (bI (waN t h n)) (nI n) := by
  obtain ⟨⟨v0, vn, vs, vp, vr, vm⟩, vi, vk, vno, vso, vpa⟩ := id hV
  have hM2 := hM 2 (by omega)
  intro d
  induction d with
  | zero =>
    intro n e
    obtain rfl : n = t 2 := by omega
    refine ⟨fun _ => hp, fun q => absurd ?_ q⟩
    rw [hM2]
    exact nI_le (Nat.le_refl _) (by omega)
  | succ d ih =>
    intro n e
    have ih' := ih (n + 1) (by omega)
    obtain ⟨u0, u1⟩ := vso n (by omega)
    have no : waN t h (n + 1) = false → ∀ y : Int32, y = nI n + 1 → wp_X10_which_L15 told Post K (d + 1) v1 (nI h) 0 y := by
      intro q y ey
      rw [q] at ih'
      rw [ey, nI_1]
      exact ih'
    have yes : waN t h (n + 1) = true → ∀ y : Int32, y = nI n + 1 → wp_X10_which_L15 told Post K (d + 1) v1 (nI h) 1 y := by
      intro q y ey
      rw [q] at ih'
      rw [ey, nI_1]
      exact ih'
    refine ⟨fun q => absurd q (by rw [hM2]; exact nI_ge (by omega) (by omega)), fun _ => sp_b (fun a => no ?_) (fun a => ?_)⟩
    · show (waN t h n && wqN t h n) = false
      rw [a, Bool.false_and]
    · have ei : (66 : Int32) + 2 * nI n = nI (66 + 2 * n) := by rw [show (2 : Int32) = nI 2 from rfl, pk_mul, show (66 : Int32) = nI 66 from rfl, nI_add]
      rw [ei, nI_1, nI_clamp (by omega), nI_clamp (by omega), hM (66 + 2 * n) (by omega), hM (66 + 2 * n + 1) (by omega)]
      have go : ∀ s : Bool, (s = true ↔ t (66 + 2 * n + 1) = 1) → wp_X10_which_J70 told Post (fun a b c d' => wp_X10_which_L15 told Post K (d + 1) a b c d') v1 (nI h) (nI n) (bI s) (bI (!slN (t (24 + t (66 + 2 * n))) h)) := by
        intro s hs1
        have eq : wqN t h n = ((!slN (t (24 + t (66 + 2 * n))) h) == s) := by
          unfold wqN
          congr 1
          cases s with
          | true => exact decide_eq_true (hs1.mp rfl)
          | false => exact decide_eq_false (fun w => by have := hs1.mpr w; cases this)
        refine ⟨fun q => yes ?_, fun q => no ?_⟩
        · show (waN t h n && wqN t h n) = true
          rw [a, eq]
          cases hsl : slN (t (24 + t (66 + 2 * n))) h <;> cases s <;> first | rfl | (rw [hsl] at q; exact absurd q (by decide))
        · show (waN t h n && wqN t h n) = false
          rw [a, eq]
          cases hsl : slN (t (24 + t (66 + 2 * n))) h <;> cases s <;> first | rfl | (rw [hsl] at q; exact absurd rfl q)
      exact ⟨vp_in_nI (by omega) (by omega), s_isAwake hM (by omega) rfl (vi _ u0).1 h24 ⟨vp_in_nI (by omega) (by omega), pk_eq (t (66 + 2 * n + 1)) 1 (fun z => go true ⟨fun _ => z, fun _ => rfl⟩) (fun z => go false ⟨fun w => (by cases w), fun w => absurd w z⟩)⟩⟩
theorem s_whL10 {t : Nat → Nat} {told : Nat → Int32} (hM : MR t told) (hV : VV t) {Post : Int32 → Prop} (hp : Post (nI (whN t 24))) : ∀ d h, h + d = 24 → wp_X10_which_L4 told Post (d + 1) (nI (whN t h)) (nI h) := by
  intro d
  induction d with
  | zero =>
    intro h e
    obtain rfl : h = 24 := by omega
    exact ⟨fun _ => hp, fun q => absurd (show (24 : Int32) ≤ nI 24 by decide) q⟩
  | succ d ih =>
    intro h e
    have ih' := ih (h + 1) (by omega)
    rw [whN_succ] at ih'
    refine ⟨fun q => absurd q (nI_ge (a := h) (b := 24) (by omega) (by omega)), fun _ => ⟨t 2 + 1, s_mayL10 hM hV (by omega) (sp_b (fun a x ex y ey => ?_) (fun a x ex y ey => ?_)) (t 2) 0 (by omega)⟩⟩
    · rw [a] at ih'
      rw [ex, ey, nI_1, show (0 : Int32) = nI 0 from rfl, fa_or, Nat.or_zero]
      exact ih'
    · rw [a] at ih'
      rw [ex, ey, nI_1, b_24 h (by omega), fa_or]
      exact ih'
theorem d_which {infants retired month notes sounds pasts : Int32} {kind months home nurse skills noteRow soundRow pastRow : Nat → Int32} {told : Nat → Int32} (hC : CC infants retired month notes sounds pasts kind months home nurse skills noteRow soundRow pastRow told) {P : Int32 → Int32 → Prop} (hP : ∀ r, P r r) : wp_X9_which sounds kind soundRow (fun r => wp_X10_which told (fun r' => P r r')) := by
  obtain ⟨t, hR, hM, hV⟩ := id hC
  exact ⟨25, s_whL9 hR hV ⟨25, s_whL10 hM hV (hP _) 24 0 (by omega)⟩ 24 0 (by omega)⟩
