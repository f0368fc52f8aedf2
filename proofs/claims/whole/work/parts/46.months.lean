/-! A month that goes by: both sides. -/
def gmo (r : Nat) (mo : Nat → Nat) (i : Nat) : Nat := if r.testBit i then mo i else mo i + 1
def grt (r : Nat) (kd mo : Nat → Nat) : Nat → Nat
  | 0 => r
  | k + 1 => if r.testBit k = false ∧ wkN (kd k) ≤ mo k + 1 then grt r kd mo k ||| 2 ^ k else grt r kd mo k
theorem grt_ok (r : Nat) (hr : r < 64) (kd mo : Nat → Nat) : ∀ k, k ≤ 6 → grt r kd mo k < 64 ∧ ∀ j, j < 6 → (grt r kd mo k).testBit j = (r.testBit j || (decide (j < k) && decide (wkN (kd j) ≤ mo j + 1)))
  | 0, _ => ⟨hr, fun j _ => by simp [grt]⟩
  | k + 1, hk => by
    obtain ⟨h1, h2⟩ := grt_ok r hr kd mo k (by omega)
    unfold grt
    split
    · next q =>
      refine ⟨(b_set _ h1 k (by omega)).2, fun j hj => ?_⟩
      rw [b_seti _ h1 k (by omega) j hj, h2 j hj]
      by_cases e : k = j
      · subst e
        simp [q.2]
      · have e1 : decide (j < k + 1) = decide (j < k) := by
          by_cases z : j < k
          · rw [decide_eq_true z, decide_eq_true (by omega)]
          · rw [decide_eq_false z, decide_eq_false (by omega)]
        simp [e, e1]
    · next q =>
      refine ⟨h1, fun j hj => ?_⟩
      rw [h2 j hj]
      by_cases e : k = j
      · subst e
        cases hb : r.testBit k
        · have : ¬ wkN (kd k) ≤ mo k + 1 := fun z => q ⟨hb, z⟩
          simp [this]
        · simp
      · have e1 : decide (j < k + 1) = decide (j < k) := by
          by_cases z : j < k
          · rw [decide_eq_true z, decide_eq_true (by omega)]
          · rw [decide_eq_false z, decide_eq_false (by omega)]
        rw [e1]
theorem grt_succ (r : Nat) (kd mo : Nat → Nat) (k : Nat) : grt r kd mo (k + 1) = if r.testBit k = false ∧ wkN (kd k) ≤ mo k + 1 then grt r kd mo k ||| 2 ^ k else grt r kd mo k := rfl
theorem grt_next {r : Nat} (hr : r < 64) (kd mo : Nat → Nat) {k : Nat} (hk : k < 6) : (grt r kd mo k).testBit k = r.testBit k := by
  rw [(grt_ok r hr kd mo k (by omega)).2 k hk]
  simp
/-- a hand: the months and the retired of n infants -/
def HD (n : Nat) (months : Nat → Int32) (retired : Int32) (r : Nat) (mo : Nat → Nat) : Prop := retired = nI r ∧ r < 64 ∧ ∀ i, i < n → months i = nI (mo i) ∧ mo i < 1000
theorem upd_at (f : Nat → Int32) (k : Nat) (x : Int32) (j : Nat) : upd f k x j = if j = k then x else f j := rfl
theorem s_goL {t : Nat → Nat} {told : Nat → Int32} (h : MR t told) (hn : t 0 ≤ 6) (hkd : ∀ i, i < t 0 → t (24 + i) < 6) {r : Nat} (hr : r < 64) {mo : Nat → Nat} (hmo : ∀ i, i < t 0 → mo i < 900) {Post : Int32 → (Nat → Int32) → Prop} (hp : ∀ months retired, HD (t 0) months retired (grt r (fun i => t (24 + i)) mo (t 0)) (gmo r mo) → Post retired months) :
    ∀ d k, k + d = t 0 → ∀ (retired : Int32) (months : Nat → Int32), retired = nI (grt r (fun i => t (24 + i)) mo k) → (∀ i, i < t 0 → months i = nI (if i < k then gmo r mo i else mo i)) → wp_X10_goMonth_L2 told Post (d + 1) (nI k) retired months := by
  intro d
  induction d with
  | zero =>
    intro k e retired months e1 e2
    have e' : k = t 0 := by omega
    subst e'
    show wp_X10_many told _
    unfold wp_X10_many
    rw [h 0 (by omega)]
    refine ⟨fun _ => hp _ _ ⟨e1, (grt_ok r hr _ mo _ hn).1, fun i hi => ?_⟩, fun q => absurd (nI_le (Nat.le_refl _) (by omega)) q⟩
    rw [e2 i hi, if_pos hi]
    refine ⟨rfl, ?_⟩
    have := hmo i hi
    unfold gmo
    split <;> omega
  | succ d ih =>
    intro k e retired months e1 e2
    have hk6 : k < 6 := by omega
    have hk0 : k < t 0 := by omega
    have hmk := hmo k hk0
    have ih' := ih (k + 1) (by omega)
    have hg := grt_ok r hr (fun i => t (24 + i)) mo k (by omega)
    show wp_X10_many told _
    unfold wp_X10_many
    rw [h 0 (by omega)]
    refine ⟨fun q => absurd q (nI_ge (a := k) (b := t 0) (by omega) (by omega)), fun _ => ?_⟩
    have e1s := e1
    rw [e1]
    refine s_has hg.1 hk6 ⟨fun q => ?_, fun q => ?_⟩
    · rw [bI_0, grt_next hr _ _ hk6] at q
      have ek : months (nI k).toNatClampNeg = nI (mo k) := by rw [nI_clamp (by omega), e2 k hk0, if_neg (Nat.lt_irrefl k)]
      refine ⟨vp_in_nI hk6 (by omega), fun x ex f ef => ?_⟩
      rw [ek, nI_1] at ex
      rw [nI_clamp (by omega)] at ef
      refine s_kindOf h hk6 (s_walksAs (hkd k hk0) ?_)
      have hf : f (nI k).toNatClampNeg = nI (mo k + 1) := by rw [nI_clamp (by omega), ef, upd_at, if_pos rfl, ex]
      have hfi : ∀ i, i < t 0 → f i = nI (if i < k + 1 then gmo r mo i else mo i) := by
        intro i hi
        rw [ef, upd_at]
        by_cases z : i = k
        · subst z
          rw [if_pos rfl, if_pos (Nat.lt_succ_self _), ex]
          unfold gmo
          rw [q]
          rfl
        · rw [if_neg z, e2 i hi]
          by_cases z2 : i < k
          · rw [if_pos z2, if_pos (by omega)]
          · rw [if_neg z2, if_neg (by omega)]
      have hw := wkN_le (t (24 + k))
      rw [hf, nI_ltI (by omega) (by omega)]
      refine ⟨fun z x2 ex2 y ey => ?_, fun z x2 ex2 y ey => ?_⟩
      · rw [ey, nI_1]
        refine ih' x2 f ?_ hfi
        rw [ex2, show (0 : Int32) = nI 0 from rfl, fa_or, Nat.or_zero, grt_succ, if_neg (fun w => absurd (show wkN (t (24 + k)) ≤ mo k + 1 from w.2) (by omega))]
      · rw [ey, nI_1]
        refine ih' x2 f ?_ hfi
        rw [ex2, (b_set _ hg.1 k hk6).1, grt_succ, if_pos ⟨q, show wkN (t (24 + k)) ≤ mo k + 1 by omega⟩]
    · rw [bI_n0, grt_next hr _ _ hk6] at q
      intro y ey
      rw [ey, nI_1]
      refine ih' _ months ?_ ?_
      · rw [grt_succ, if_neg (fun w => by rw [q] at w; exact absurd w.1 (by simp))]
      · intro i hi
        rw [e2 i hi]
        by_cases z : i = k
        · subst z
          rw [if_neg (Nat.lt_irrefl _), if_pos (Nat.lt_succ_self _)]
          unfold gmo
          rw [q]
          rfl
        · by_cases z2 : i < k
          · rw [if_pos z2, if_pos (by omega)]
          · rw [if_neg z2, if_neg (by omega)]
theorem s_goMonth {t : Nat → Nat} {told : Nat → Int32} (h : MR t told) (hn : t 0 ≤ 6) (hkd : ∀ i, i < t 0 → t (24 + i) < 6) {r : Nat} {mo : Nat → Nat} {months : Nat → Int32} {retired : Int32} (hd : HD (t 0) months retired r mo) (hmo : ∀ i, i < t 0 → mo i < 900) {Post : Int32 → (Nat → Int32) → Prop} (hp : ∀ months retired, HD (t 0) months retired (grt r (fun i => t (24 + i)) mo (t 0)) (gmo r mo) → Post retired months) : wp_X10_goMonth told retired months Post :=
  ⟨t 0 + 1, s_goL h hn hkd hd.2.1 hmo hp (t 0) 0 (by omega) retired months hd.1 (fun i hi => by rw [if_neg (Nat.not_lt_zero i)]; exact (hd.2.2 i hi).1)⟩
theorem s_layL {t : Nat → Nat} {told : Nat → Int32} (h : MR t told) (hn : t 0 ≤ 6) {retired : Int32} {Post : Int32 → (Nat → Int32) → Prop} {K : Int32 → (Nat → Int32) → Prop} (hp : ∀ months, (∀ i, i < t 0 → months i = nI (t (4 + i))) → K retired months) :
    ∀ d k, k + d = t 0 → ∀ (months : Nat → Int32), (∀ i, i < k → months i = nI (t (4 + i))) → wp_X10_layHand_L2 told Post K (d + 1) (nI k) retired months := by
  intro d
  induction d with
  | zero =>
    intro k e months e2
    have e' : k = t 0 := by omega
    subst e'
    show wp_X10_many told _
    unfold wp_X10_many
    rw [h 0 (by omega)]
    exact ⟨fun _ => hp _ e2, fun q => absurd (nI_le (Nat.le_refl _) (by omega)) q⟩
  | succ d ih =>
    intro k e months e2
    obtain ⟨h1, h2⟩ := MR_at h 4 (i := k) (by omega)
    show wp_X10_many told _
    unfold wp_X10_many
    rw [h 0 (by omega)]
    refine ⟨fun q => absurd q (nI_ge (a := k) (b := t 0) (by omega) (by omega)), fun _ => ⟨h1, fun x ex => ⟨vp_in_nI (by omega) (by omega), fun f ef y ey => ?_⟩⟩⟩
    rw [show (4 : Int32) = nI 4 from rfl, h2] at ex
    rw [nI_clamp (by omega)] at ef
    rw [ey, nI_1]
    refine ih (k + 1) (by omega) f (fun i hi => ?_)
    rw [ef, upd_at]
    by_cases z : i = k
    · subst z
      rw [if_pos rfl, ex]
    · rw [if_neg z]
      exact e2 i (by omega)
theorem s_layHand {t : Nat → Nat} {told : Nat → Int32} (h : MR t told) (hn : t 0 ≤ 6) (hr : t 10 < 64) (hmo : ∀ i, i < t 0 → t (4 + i) < 900) {retired : Int32} {months : Nat → Int32} {Post : Int32 → (Nat → Int32) → Prop} (hp : ∀ months retired, HD (t 0) months retired (t 10) (fun i => t (4 + i)) → Post retired months) : wp_X10_layHand told retired months Post := by
  refine ⟨t 0 + 1, s_layL h hn (fun months hm x ex => hp _ _ ⟨by rw [ex, h 10 (by omega)], hr, fun i hi => ⟨hm i hi, by have := hmo i hi; show t (4 + i) < 1000; omega⟩⟩) (t 0) 0 (by omega) months (fun i hi => absurd hi (Nat.not_lt_zero i))⟩
theorem s_reiL {t : Nat → Nat} {told : Nat → Int32} (h : MR t told) (hn : t 0 ≤ 6) {r : Nat} {mo : Nat → Nat} {months : Nat → Int32} {retired : Int32} (hd : HD (t 0) months retired r mo) {Post : Int32 → Prop} (hp : Post (oI (rg (fun i => r.testBit i) mo (t 0)))) :
    ∀ d k, k + d = t 0 → wp_X10_reigns_L4 retired told months Post (d + 1) (oI (rg (fun i => r.testBit i) mo k)) (nI k) := by
  obtain ⟨hr, hr6, hmo⟩ := hd
  intro d
  induction d with
  | zero =>
    intro k e
    have e' : k = t 0 := by omega
    subst e'
    show wp_X10_many told _
    unfold wp_X10_many
    rw [h 0 (by omega)]
    exact ⟨fun _ => hp, fun q => absurd (nI_le (Nat.le_refl _) (by omega)) q⟩
  | succ d ih =>
    intro k e
    have ih' := ih (k + 1) (by omega)
    have hk6 : k < 6 := by omega
    obtain ⟨hm1, hm2⟩ := hmo k (by omega)
    have hb : ∀ j, rg (fun i => r.testBit i) mo k = some j → j < 2 ^ 31 := fun j h => by have := (rg_lt _ _ _ _ h).1; omega
    have go : ∀ s0 : Bool, (s0 = true ↔ (rg (fun i => r.testBit i) mo k = none ∨ ∃ j, rg (fun i => r.testBit i) mo k = some j ∧ mo j < mo k)) → wp_X10_reigns_J37 retired told months Post (fun a b => wp_X10_reigns_L4 retired told months Post (d + 1) a b) (oI (rg (fun i => r.testBit i) mo k)) (nI k) (bI s0) := by
      intro s0 hs
      unfold wp_X10_reigns_J37
      rw [hr]
      refine s_has hr6 hk6 ⟨fun q => ⟨fun z => ?_, fun z => ?_⟩, fun q => ?_⟩
      · rw [bI_0] at q z
        intro y ey
        rw [ey, nI_1, ← hr]
        rw [rg_succ] at ih'
        cases e0 : rg (fun i => r.testBit i) mo k with
        | none => exact absurd (hs.mpr (Or.inl e0)) (by rw [z]; simp)
        | some j =>
          rw [e0] at ih'
          simp only [q, Bool.false_eq_true, if_false] at ih'
          rw [if_neg (fun w => absurd (hs.mpr (Or.inr ⟨j, e0, w⟩)) (by rw [z]; simp))] at ih'
          exact ih'
      · rw [bI_n0] at z
        rw [bI_0] at q
        intro y ey
        rw [ey, nI_1, ← hr]
        rw [rg_succ] at ih'
        rcases hs.mp z with e0 | ⟨j, e0, w⟩
        · rw [e0] at ih'
          simp only [q, Bool.false_eq_true, if_false] at ih'
          exact ih'
        · rw [e0] at ih'
          simp only [q, Bool.false_eq_true, if_false] at ih'
          rw [if_pos w] at ih'
          exact ih'
      · rw [bI_n0] at q
        intro y ey
        rw [ey, nI_1, ← hr]
        rw [rg_succ] at ih'
        cases e0 : rg (fun i => r.testBit i) mo k with
        | none =>
          rw [e0] at ih'
          simp only [q, if_true] at ih'
          exact ih'
        | some j =>
          rw [e0] at ih'
          simp only [q, if_true] at ih'
          exact ih'
    show wp_X10_many told _
    unfold wp_X10_many
    rw [h 0 (by omega)]
    refine ⟨fun q => absurd q (nI_ge (a := k) (b := t 0) (by omega) (by omega)), fun _ => ⟨fun q => ?_, fun q => ?_⟩⟩
    · rw [oI_none _ hb] at q
      exact go true ⟨fun _ => Or.inl q, fun _ => rfl⟩
    · rw [oI_none _ hb] at q
      cases e0 : rg (fun i => r.testBit i) mo k with
      | none => exact absurd e0 q
      | some j =>
        have hj := (rg_lt _ _ _ _ e0).1
        obtain ⟨hj1, hj2⟩ := hmo j (by omega)
        rw [e0] at go
        show vp_in (nI k) 6 ∧ vp_in (nI j) 6 ∧ _
        rw [nI_clamp (n := k) (by omega), show (oI (some j)).toNatClampNeg = j from nI_clamp (by omega), hm1, hj1]
        refine ⟨vp_in_nI hk6 (by omega), vp_in_nI (by omega) (by omega), fun c => ?_, fun c => ?_⟩
        · rw [nI_leI (by omega) (by omega)] at c
          refine go false ⟨fun z => absurd z (by simp), fun z => ?_⟩
          rcases z with z | ⟨j', z, w⟩
          · cases z
          · cases z; omega
        · rw [nI_leI (by omega) (by omega)] at c
          exact go true ⟨fun _ => Or.inr ⟨j, rfl, by omega⟩, fun _ => rfl⟩
theorem s_reigns {t : Nat → Nat} {told : Nat → Int32} (h : MR t told) (hn : t 0 ≤ 6) {r : Nat} {mo : Nat → Nat} {months : Nat → Int32} {retired : Int32} (hd : HD (t 0) months retired r mo) {Post : Int32 → Prop} (hp : Post (oI (rg (fun i => r.testBit i) mo (t 0)))) : wp_X10_reigns retired told months Post :=
  ⟨t 0 + 1, s_reiL h hn hd hp (t 0) 0 (by omega)⟩
