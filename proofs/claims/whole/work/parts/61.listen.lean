/-! listen. -/
theorem alN_iff (a b m h : Nat) : mnN a m h = mnN b m h ↔ (slN a h = slN b h ∧ (if slN a h then 0 else crN a m) = (if slN b h then 0 else crN b m)) := by
  have ha := crN_le a m
  have hb := crN_le b m
  unfold mnN
  cases slN a h <;> cases slN b h <;> simp <;> omega
theorem s_alike10 {a b m h : Nat} (ha : a < 6) (hb : b < 6) (hm : m < 64) (hh : h < 24) {Post : Int32 → Prop} (hp : Post (bI (decide (mnN b m h = mnN a m h)))) : wp_X10_areAlike (nI a) (nI b) (nI m) (nI h) Post := by
  have hca := crN_le a m
  have hcb := crN_le b m
  have hiff := alN_iff b a m h
  unfold wp_X10_areAlike
  refine s_sleepsAs ha hh (s_sleepsAs hb hh ⟨fun q => ?_, fun q => ?_⟩)
  · have hq : slN a h = slN b h := by
      cases hsa : slN a h <;> cases hsb : slN b h <;> first | rfl | (rw [hsa, hsb] at q; exact absurd q (by decide))
    refine s_then10 ha hm hh (s_then10 hb hm hh ?_)
    refine pk_eq (if slN a h then 0 else crN a m) (if slN b h then 0 else crN b m) (fun z => ?_) (fun z => ?_) rfl rfl (by split <;> omega) (by split <;> omega)
    · rw [decide_eq_true (hiff.mpr ⟨hq.symm, z.symm⟩)] at hp
      exact hp
    · rw [decide_eq_false (fun w => z (hiff.mp w).2.symm)] at hp
      exact hp
  · rw [decide_eq_false (fun w => q (by rw [(hiff.mp w).1]))] at hp
    exact hp
def lkN (s m h a : Nat) : Nat → Nat := fb_ct (fun b => s.testBit b && decide (mnN b m h = mnN a m h))
def maN (s m h : Nat) : Nat → Nat
  | 0 => 0
  | a + 1 => if s.testBit a = true ∧ maN s m h a < lkN s m h a 6 then lkN s m h a 6 else maN s m h a
theorem maN_succ (s m h a : Nat) : maN s m h (a + 1) = if s.testBit a = true ∧ maN s m h a < lkN s m h a 6 then lkN s m h a 6 else maN s m h a := rfl
theorem lkN_le (s m h a n : Nat) : lkN s m h a n ≤ n := fb_ct_le _ n
theorem maN_le (s m h : Nat) : ∀ a, maN s m h a ≤ 6
  | 0 => by show 0 ≤ 6; omega
  | a + 1 => by
    have := maN_le s m h a
    have h2 := lkN_le s m h a 6
    rw [maN_succ]
    split <;> omega
theorem s_likeL9 {s m h a : Nat} (hs : s < 64) (ha : a < 6) (hm : m < 64) (hh : h < 24) {v4 : Int32} {Post : Int32 → Prop} {K : Int32 → Int32 → Int32 → Int32 → Int32 → Int32 → Prop} (hp : K (nI s) (nI m) (nI h) v4 (nI a) (nI (lkN s m h a 6))) : ∀ d b, b + d = 6 → wp_X1_mostAlike_L31 Post K (d + 1) (nI s) (nI m) (nI h) v4 (nI a) (nI (lkN s m h a b)) (nI b) := by
  intro d
  induction d with
  | zero =>
    intro b e
    obtain rfl : b = 6 := by omega
    exact ⟨fun _ => hp, fun q => absurd (show (6 : Int32) ≤ nI 6 by decide) q⟩
  | succ d ih =>
    intro b e
    have ih' := ih (b + 1) (by omega)
    unfold lkN at ih'
    rw [fb_ct_succ] at ih'
    refine ⟨fun q => absurd q (nI_ge (a := b) (b := 6) (by omega) (by omega)), fun _ => ?_⟩
    rw [b_has s hs b (by omega)]
    refine ⟨fun q => s_manner9 (by omega) hm hh (s_manner9 ha hm hh ?_), fun q x ex => ?_⟩
    · have h1 := mnN_le b m h
      have h2 := mnN_le a m h
      refine pk_eq (mnN b m h) (mnN a m h) (fun z y ey x ex => ?_) (fun z x ex => ?_)
      · rw [q, decide_eq_true z] at ih'
        rw [ex, ey, nI_1, nI_1]
        exact ih'
      · rw [q, decide_eq_false z] at ih'
        rw [ex, nI_1]
        exact ih'
    · rw [show s.testBit b = false by simpa using q] at ih'
      rw [ex, nI_1]
      exact ih'
theorem s_mostL9 {s m h : Nat} (hs : s < 64) (hm : m < 64) (hh : h < 24) {Post : Int32 → Prop} (hp : Post (nI (maN s m h 6))) : ∀ d a, a + d = 6 → wp_X1_mostAlike_L6 Post (d + 1) (nI s) (nI m) (nI h) (nI (maN s m h a)) (nI a) := by
  intro d
  induction d with
  | zero =>
    intro a e
    obtain rfl : a = 6 := by omega
    exact ⟨fun _ => hp, fun q => absurd (show (6 : Int32) ≤ nI 6 by decide) q⟩
  | succ d ih =>
    intro a e
    have ih' := ih (a + 1) (by omega)
    have h1 := maN_le s m h a
    have h2 := lkN_le s m h a 6
    rw [maN_succ] at ih'
    refine ⟨fun q => absurd q (nI_ge (a := a) (b := 6) (by omega) (by omega)), fun _ => ?_⟩
    rw [b_bit s hs a (by omega)]
    refine sp_b (fun b x ex => ?_) (fun b => ⟨7, s_likeL9 hs (by omega) hm hh (fun y ey x ex => ?_) 6 0 (by omega)⟩)
    · rw [if_neg (fun w => by rw [b] at w; exact absurd w.1 (by decide))] at ih'
      rw [ex, nI_1]
      exact ih'
    · rw [ex, nI_1]
      by_cases z : maN s m h a < lkN s m h a 6
      · rw [if_pos ⟨b, z⟩] at ih'
        rw [if_pos ((nI_ltI (by omega) (by omega)).mpr z)] at ey
        rw [ey]
        exact ih'
      · rw [if_neg (fun w => z w.2)] at ih'
        rw [if_neg (fun w => z ((nI_ltI (by omega) (by omega)).mp w))] at ey
        rw [ey]
        exact ih'
/-- the hour in which fewest are alike so far -/
def lsN (s m : Nat) : Nat → Nat × Nat
  | 0 => (0, 7)
  | h + 1 => if maN s m h 6 < (lsN s m h).2 then (h, maN s m h 6) else lsN s m h
theorem lsN_succ (s m h : Nat) : lsN s m (h + 1) = if maN s m h 6 < (lsN s m h).2 then (h, maN s m h 6) else lsN s m h := rfl
theorem lsN_le (s m : Nat) : ∀ h, (lsN s m h).2 ≤ 7 ∧ (lsN s m h).1 ≤ h
  | 0 => ⟨Nat.le_refl _, Nat.le_refl _⟩
  | h + 1 => by
    have ih := lsN_le s m h
    have h2 := maN_le s m h 6
    rw [lsN_succ]
    split
    · exact ⟨by show maN s m h 6 ≤ 7; omega, by show h ≤ h + 1; omega⟩
    · exact ⟨ih.1, by omega⟩
theorem s_lisL9 {infants notes badCalls : Int32} {months noteRow : Nat → Int32} {i s m : Nat} (hi : i < 6) (hs : s < 64) (hmo : months i = nI m) (hm : m < 64) {Post : Int32 → Int32 → Prop} (hp : Post (nI (lsN s m 24).1) badCalls) : ∀ d h, h + d = 24 → wp_X9_listen_L39 infants notes months noteRow Post (d + 1) (nI i) (nI s) (nI (lsN s m h).1) (nI (lsN s m h).2) (nI h) badCalls := by
  intro d
  induction d with
  | zero =>
    intro h e
    obtain rfl : h = 24 := by omega
    exact ⟨fun _ => hp, fun q => absurd (show (24 : Int32) ≤ nI 24 by decide) q⟩
  | succ d ih =>
    intro h e
    have ih' := ih (h + 1) (by omega)
    have h1 := lsN_le s m h
    have h2 := maN_le s m h 6
    rw [lsN_succ] at ih'
    refine ⟨fun q => absurd q (nI_ge (a := h) (b := 24) (by omega) (by omega)), fun _ => ⟨vp_in_nI hi (by omega), ?_⟩⟩
    rw [nI_clamp (by omega), hmo]
    refine ⟨7, s_mostL9 hs hm (by omega) (pk_le (lsN s m h).2 (maN s m h 6) (fun z x ex => ?_) (fun z x ex => ?_)) 6 0 (by omega)⟩
    · rw [if_neg (by omega)] at ih'
      rw [ex, nI_1]
      exact ih'
    · rw [if_pos z] at ih'
      rw [ex, nI_1]
      exact ih'
theorem s_likeL10 {t : Nat → Nat} {told : Nat → Int32} (hM : MR t told) (hV : VV t) {s i h a : Nat} (hs : s < 64) (hi : i < t 0) (ha : a < 6) (hab : s.testBit a = true) (hh : h < 24) {v3 v4 v6 : Int32} {refused : Nat → Int32} {Post : Int32 → (Nat → Int32) → Prop} {K : Int32 → Int32 → Int32 → Int32 → Int32 → Int32 → Int32 → Int32 → (Nat → Int32) → Prop} (hp : K (nI i) (nI s) v3 v4 (nI h) v6 (nI a) (nI (lkN s (t (4 + i)) h a 6)) refused) : ∀ d b, b + d = 6 → wp_X10_listen_L60 told Post K (d + 1) (nI i) (nI s) v3 v4 (nI h) v6 (nI a) (nI (lkN s (t (4 + i)) h a b)) (nI b) refused := by
  obtain ⟨⟨v0, vn, vs, vp, vr, vm⟩, vi, vk, vno, vso, vpa⟩ := id hV
  have w2 := (vi i hi).2.1
  have h4 := MR_at hM 4 (i := i) (by omega)
  intro d
  induction d with
  | zero =>
    intro b e
    obtain rfl : b = 6 := by omega
    exact ⟨fun _ => hp, fun q => absurd (show (6 : Int32) ≤ nI 6 by decide) q⟩
  | succ d ih =>
    intro b e
    have ih' := ih (b + 1) (by omega)
    unfold lkN at ih'
    rw [fb_ct_succ] at ih'
    have go0 : ∀ {c : Bool}, c = false → wp_X10_listen_L60 told Post K (d + 1) (nI i) (nI s) v3 v4 (nI h) v6 (nI a) (nI (fb_ct (fun b => s.testBit b && decide (mnN b (t (4 + i)) h = mnN a (t (4 + i)) h)) b + if c = true then 1 else 0)) (nI (b + 1)) refused → ∀ x : Int32, x = nI (lkN s (t (4 + i)) h a b) + 0 → ∀ y : Int32, y = nI b + 1 → wp_X10_listen_L60 told Post K (d + 1) (nI i) (nI s) v3 v4 (nI h) v6 (nI a) x y refused := by
      intro c hc hw x ex y ey
      rw [ex, ey, nI_1, show (0 : Int32) = nI 0 from rfl, nI_add]
      rw [hc] at hw
      exact hw
    refine ⟨fun q => absurd q (nI_ge (a := b) (b := 6) (by omega) (by omega)), fun _ => s_has hs ha (kt hab (s_has hs (by omega) (sp_b (fun q => ?_) (fun q => ⟨h4.1, ?_⟩))))⟩
    · exact go0 (by rw [q]; rfl) ih'
    · rw [show (4 : Int32) = nI 4 from rfl, h4.2]
      refine s_alike10 ha (by omega) (by omega) hh (sp_b (fun z => ?_) (fun z x ex y ey => ?_))
      · exact go0 (by rw [q, z]; rfl) ih'
      · rw [q, z] at ih'
        rw [ex, ey, nI_1, nI_1]
        exact ih'
theorem s_mostL10 {t : Nat → Nat} {told : Nat → Int32} (hM : MR t told) (hV : VV t) {s i h : Nat} (hs : s < 64) (hi : i < t 0) (hh : h < 24) {v3 v4 : Int32} {refused : Nat → Int32} {Post : Int32 → (Nat → Int32) → Prop} {K : Int32 → Int32 → Int32 → Int32 → Int32 → Int32 → (Nat → Int32) → Prop} (hp : K (nI i) (nI s) v3 v4 (nI h) (nI (maN s (t (4 + i)) h 6)) refused) : ∀ d a, a + d = 6 → wp_X10_listen_L47 told Post K (d + 1) (nI i) (nI s) v3 v4 (nI h) (nI (maN s (t (4 + i)) h a)) (nI a) refused := by
  intro d
  induction d with
  | zero =>
    intro a e
    obtain rfl : a = 6 := by omega
    exact ⟨fun _ => hp, fun q => absurd (show (6 : Int32) ≤ nI 6 by decide) q⟩
  | succ d ih =>
    intro a e
    have ih' := ih (a + 1) (by omega)
    have h1 := maN_le s (t (4 + i)) h a
    have h2 := lkN_le s (t (4 + i)) h a 6
    rw [maN_succ] at ih'
    refine ⟨fun q => absurd q (nI_ge (a := a) (b := 6) (by omega) (by omega)), fun _ => ?_⟩
    cases hab : s.testBit a with
    | true =>
      refine ⟨7, s_likeL10 hM hV hs hi (by omega) hab hh (pk_le (lkN s (t (4 + i)) h a 6) (maN s (t (4 + i)) h a) (fun z x ex => ?_) (fun z x ex => ?_)) 6 0 (by omega)⟩
      · rw [if_neg (by omega)] at ih'
        rw [ex, nI_1]
        exact ih'
      · rw [if_pos ⟨hab, z⟩] at ih'
        rw [ex, nI_1]
        exact ih'
    | false =>
      refine ⟨1, ⟨fun q => absurd q (by decide), fun _ => s_has hs (by omega) (kf hab (pk_le 0 (maN s (t (4 + i)) h a) (fun z x ex => ?_) (fun z => absurd z (by omega))))⟩⟩
      rw [if_neg (fun w => by rw [hab] at w; exact absurd w.1 (by decide))] at ih'
      rw [ex, nI_1]
      exact ih'
def lrO (s m h : Nat) : Option Nat := if h = 0 then none else some (lsN s m h).1
def lrL (s m h : Nat) : Nat := if h = 0 then 1000000 else (lsN s m h).2
theorem lr_step (s m h : Nat) : (maN s m h 6 < lrL s m h → lrO s m (h + 1) = some h ∧ lrL s m (h + 1) = maN s m h 6) ∧ (¬ maN s m h 6 < lrL s m h → lrO s m (h + 1) = lrO s m h ∧ lrL s m (h + 1) = lrL s m h) := by
  have h2 := maN_le s m h 6
  unfold lrO lrL
  rw [if_neg (Nat.succ_ne_zero h), if_neg (Nat.succ_ne_zero h), lsN_succ]
  rcases Nat.eq_zero_or_pos h with z | z
  · subst z
    rw [if_pos rfl, if_pos rfl]
    refine ⟨fun _ => ?_, fun w => absurd (by omega) w⟩
    rw [if_pos (show maN s m 0 6 < (lsN s m 0).2 by show maN s m 0 6 < 7; omega)]
    exact ⟨rfl, rfl⟩
  · have z0 : h ≠ 0 := by omega
    rw [if_neg z0, if_neg z0]
    refine ⟨fun w => ?_, fun w => ?_⟩
    · rw [if_pos w]
      exact ⟨rfl, rfl⟩
    · rw [if_neg w]
      exact ⟨rfl, rfl⟩
theorem s_lisL10 {t : Nat → Nat} {told : Nat → Int32} (hM : MR t told) (hV : VV t) {s i : Nat} (hs : s < 64) (hs0 : 0 < s) (hi : i < t 0) {refused : Nat → Int32} {Post : Int32 → (Nat → Int32) → Prop} (hp : Post (nI (lsN s (t (4 + i)) 24).1) refused) : ∀ d h, h + d = 24 → wp_X10_listen_L30 told Post (d + 1) (nI i) (nI s) (oI (lrO s (t (4 + i)) h)) (nI (lrL s (t (4 + i)) h)) (nI h) refused := by
  intro d
  induction d with
  | zero =>
    intro h e
    obtain rfl : h = 24 := by omega
    exact ⟨fun _ => hp, fun q => absurd (show (24 : Int32) ≤ nI 24 by decide) q⟩
  | succ d ih =>
    intro h e
    have ih' := ih (h + 1) (by omega)
    have h1 := (lsN_le s (t (4 + i)) h).1
    have h2 := maN_le s (t (4 + i)) h 6
    have h3 : lrL s (t (4 + i)) h ≤ 1000000 := by
      unfold lrL
      split <;> omega
    obtain ⟨st1, st2⟩ := lr_step s (t (4 + i)) h
    refine ⟨fun q => absurd q (nI_ge (a := h) (b := 24) (by omega) (by omega)), fun _ => ⟨fun q => absurd q (nI_nle hs0 (by omega)), fun _ => ⟨7, s_mostL10 hM hV hs hi (by omega) (pk_le (lrL s (t (4 + i)) h) (maN s (t (4 + i)) h 6) (fun z => pk_le (lrL s (t (4 + i)) h) (maN s (t (4 + i)) h 6) (fun _ x ex => ?_) (fun w => absurd z (by omega))) (fun z => pk_le (lrL s (t (4 + i)) h) (maN s (t (4 + i)) h 6) (fun w => absurd z (by omega)) (fun _ x ex => ?_))) 6 0 (by omega)⟩⟩⟩
    · rw [(st2 (by omega)).1, (st2 (by omega)).2] at ih'
      rw [ex, nI_1]
      exact ih'
    · rw [(st1 z).1, (st1 z).2] at ih'
      rw [ex, nI_1]
      exact ih'
theorem d_listen {infants retired month notes sounds pasts : Int32} {kind months home nurse skills noteRow soundRow pastRow : Nat → Int32} {told refused : Nat → Int32} {badCalls noCalls fullCalls v1 : Int32} (hC : CC infants retired month notes sounds pasts kind months home nurse skills noteRow soundRow pastRow told) (hS : SR badCalls noCalls fullCalls refused) {P : Int32 → Int32 → Int32 → (Nat → Int32) → Prop} (hP : ∀ r b9 ref9, SR b9 noCalls fullCalls ref9 → P r b9 r ref9) :
    wp_X9_listen infants notes months noteRow badCalls v1 (fun r b9 => wp_X10_listen told refused v1 (fun r' ref9 => P r b9 r' ref9)) := by
  obtain ⟨t, hR, hM, hV⟩ := id hC
  have v0 := hV.1.1
  have hM0 := hM 0 (by omega)
  unfold wp_X9_listen wp_X10_listen
  refine s_inf9 hR.1.1 v0 (sp_b (fun a => ?_) (fun a => ?_))
  · exact fun x ex => s_inf10 hM0 v0 (kf a (fun y ey g eg => hP _ _ _ (SR_bad hS ex ey eg)))
  · obtain ⟨i, hi0, rfl⟩ := inF_t a
    have hk := kfN_lt t i 6 (by omega)
    have w2 := (hV.2.1 i hi0).2.1
    refine s_kf9 hR hV (by omega) (pk_eq (kfN t i 6) 0 (fun z => ?_) (fun z => ?_))
    · refine s_inf10 hM0 v0 (kt a (s_kf10 hM hV (by omega) ⟨1, ⟨fun q => absurd q (by decide), fun _ => ⟨fun _ => hP _ _ _ hS, fun q => absurd ?_ q⟩⟩⟩))
      rw [z]
      decide
    · exact ⟨25, s_lisL9 (by omega) hk (hR.2.1 i hi0).2.1 (by omega) (s_inf10 hM0 v0 (kt a (s_kf10 hM hV (by omega) ⟨25, s_lisL10 hM hV hk (by omega) hi0 (hP _ _ _ hS) 24 0 (by omega)⟩))) 24 0 (by omega)⟩
