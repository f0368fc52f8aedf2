/-! Who reigns: the class. -/
theorem rg_succ (out : Nat → Bool) (mo : Nat → Nat) (k : Nat) : rg out mo (k + 1) = match rg out mo k with
    | none => if out k then none else some k
    | some j => if out k then some j else if mo j < mo k then some k else some j := rfl
def soO (r m : Nat) (kd mo : Nat → Nat) (i : Nat) : Bool := r.testBit i || (decide (0 < m) && decide (wkN (kd i) ≤ mo i + m))
theorem s_sovL {infants retired : Int32} {kind months : Nat → Int32} {n r m : Nat} {kd mo : Nat → Nat} (hn : n ≤ 6) (hi : infants = nI n) (hr : retired = nI r) (hr6 : r < 64) (hkd : ∀ i, i < n → kind i = nI (kd i) ∧ kd i < 6) (hmo : ∀ i, i < n → months i = nI (mo i) ∧ mo i < 64) (hm : m < 64) {Post : Int32 → Prop} (hp : Post (oI (rg (soO r m kd mo) mo n))) :
    ∀ d k, k + d = n → wp_X1_sovereign_L4 infants retired kind months Post (d + 1) (nI m) (oI (rg (soO r m kd mo) mo k)) (nI k) := by
  intro d
  induction d with
  | zero =>
    intro k e
    have e' : k = n := by omega
    subst e'
    rw [hi]
    exact ⟨fun _ => hp, fun q => absurd (nI_le (Nat.le_refl k) (by omega)) q⟩
  | succ d ih =>
    intro k e
    have ih' := ih (k + 1) (by omega)
    have hk6 : k < 6 := by omega
    obtain ⟨hk1, hk2⟩ := hkd k (by omega)
    obtain ⟨hm1, hm2⟩ := hmo k (by omega)
    have hb : ∀ j, rg (soO r m kd mo) mo k = some j → j < 2 ^ 31 := fun j h => by have := (rg_lt _ _ _ _ h).1; omega
    have stay : rg (soO r m kd mo) mo (k + 1) = rg (soO r m kd mo) mo k → wp_X1_sovereign_J65 infants retired kind months Post (fun a b c => wp_X1_sovereign_L4 infants retired kind months Post (d + 1) a b c) (nI m) (oI (rg (soO r m kd mo) mo k)) (nI k) := by
      intro q x ex
      rw [ex, nI_1, ← q]
      exact ih'
    have take : rg (soO r m kd mo) mo (k + 1) = some k → wp_X1_sovereign_J63 infants retired kind months Post (fun a b c => wp_X1_sovereign_L4 infants retired kind months Post (d + 1) a b c) (nI m) (nI k) := by
      intro q x ex
      rw [ex, nI_1]
      rw [q] at ih'
      exact ih'
    have cand : soO r m kd mo k = false → wp_X1_sovereign_J43 infants retired kind months Post (fun a b c => wp_X1_sovereign_L4 infants retired kind months Post (d + 1) a b c) (nI m) (oI (rg (soO r m kd mo) mo k)) (nI k) := by
      intro ho
      refine ⟨fun q => ?_, fun q => ?_⟩
      · rw [oI_none _ hb] at q
        exact take (by rw [rg_succ, q, ho]; rfl)
      · rw [oI_none _ hb] at q
        cases e0 : rg (soO r m kd mo) mo k with
        | none => exact absurd e0 q
        | some j =>
          have hj := (rg_lt _ _ _ _ e0).1
          obtain ⟨hj1, hj2⟩ := hmo j (by omega)
          show vp_in (nI k) 6 ∧ vp_in (nI j) 6 ∧ _
          rw [nI_clamp (n := k) (by omega), show (oI (some j)).toNatClampNeg = j from nI_clamp (by omega), hm1, hj1]
          refine ⟨vp_in_nI hk6 (by omega), vp_in_nI (by omega) (by omega), fun c => ?_, fun c => ?_⟩
          · rw [nI_leI (by omega) (by omega)] at c
            have := stay (by rw [rg_succ, e0, ho]; simp only [Bool.false_eq_true, if_false]; rw [if_neg (by omega)])
            rw [e0] at this
            exact this
          · rw [nI_leI (by omega) (by omega)] at c
            exact take (by rw [rg_succ, e0, ho]; simp only [Bool.false_eq_true, if_false]; rw [if_pos (by omega)])
    have out : soO r m kd mo k = true → wp_X1_sovereign_J65 infants retired kind months Post (fun a b c => wp_X1_sovereign_L4 infants retired kind months Post (d + 1) a b c) (nI m) (oI (rg (soO r m kd mo) mo k)) (nI k) := by
      intro ho
      refine stay ?_
      rw [rg_succ, ho]
      cases rg (soO r m kd mo) mo k <;> rfl
    refine ⟨fun q => absurd q (by rw [hi]; exact nI_ge (a := k) (b := n) (by omega) (by omega)), fun _ => ?_⟩
    rw [hr]
    refine s_isRetired hr6 hk6 ⟨fun q => ?_, fun q => ?_⟩
    · rw [bI_0] at q
      refine ⟨fun c => ?_, fun c => ?_⟩
      · have hm0 : m = 0 := by
          rcases Nat.eq_zero_or_pos m with w | w
          · exact w
          · exact absurd c (nI_nle w (by omega))
        rw [← hr]
        exact cand (by simp [soO, q, hm0])
      · have hm0 : 0 < m := by
          rcases Nat.eq_zero_or_pos m with w | w
          · subst w; exact absurd (show nI 0 ≤ 0 by decide) c
          · exact w
        rw [nI_clamp (by omega), hm1]
        refine ⟨vp_in_nI hk6 (by omega), s_walkingAge hk6 hk1 hk2 ?_⟩
        have hw := wkN_le (kd k)
        rw [nI_add, nI_ltI (by omega) (by omega), ← hr]
        refine ⟨fun z => cand ?_, fun z => out ?_⟩
        · simp [soO, q]; omega
        · simp [soO, hm0]; right; omega
    · rw [bI_n0] at q
      rw [← hr]
      exact out (by simp [soO, q])
theorem s_sovereign {infants retired : Int32} {kind months : Nat → Int32} {n r m : Nat} {kd mo : Nat → Nat} (hn : n ≤ 6) (hi : infants = nI n) (hr : retired = nI r) (hr6 : r < 64) (hkd : ∀ i, i < n → kind i = nI (kd i) ∧ kd i < 6) (hmo : ∀ i, i < n → months i = nI (mo i) ∧ mo i < 64) (hm : m < 64) {Post : Int32 → Prop} (hp : Post (oI (rg (soO r m kd mo) mo n))) : wp_X1_sovereign infants retired kind months (nI m) Post :=
  ⟨n + 1, s_sovL hn hi hr hr6 hkd hmo hm hp n 0 (by omega)⟩
/-! The reference. -/
/-- the reference's row of numbers -/
def MR (t : Nat → Nat) (told : Nat → Int32) : Prop := ∀ k, k < 190 → told k = nI (t k)
theorem MR_at {t : Nat → Nat} {told : Nat → Int32} (h : MR t told) (a : Nat) {i : Nat} (hi : a + i < 190) : vp_in (nI a + nI i) 190 ∧ told (nI a + nI i).toNatClampNeg = nI (t (a + i)) := by
  rw [nI_add, nI_clamp (by omega)]
  exact ⟨vp_in_nI hi (by omega), h _ hi⟩
theorem s_kindOf {t : Nat → Nat} {told : Nat → Int32} (h : MR t told) {i : Nat} (hi : i < 6) {Post : Int32 → Prop} (hp : Post (nI (t (24 + i)))) : wp_X10_kindOf told (nI i) Post := by
  obtain ⟨h1, h2⟩ := MR_at h 24 (i := i) (by omega)
  exact ⟨h1, by rw [show (24 : Int32) = nI 24 from rfl, h2]; exact hp⟩
theorem s_isAwake {t : Nat → Nat} {told : Nat → Int32} (h : MR t told) {i k hh : Nat} (hi : i < 6) (hk : t (24 + i) = k) (hk6 : k < 6) (h24 : hh < 24) {Post : Int32 → Prop} (hp : Post (bI (!slN k hh))) : wp_X10_isAwake told (nI i) (nI hh) Post := by
  unfold wp_X10_isAwake
  refine s_kindOf h hi ?_
  rw [hk]
  refine s_sleepsAs hk6 h24 ?_
  cases hs : slN k hh <;> rw [hs] at hp
  · exact ⟨fun _ => hp, fun q => absurd rfl q⟩
  · exact ⟨fun q => absurd q (by decide), fun _ => hp⟩
theorem s_criesBy {t : Nat → Nat} {told : Nat → Int32} (h : MR t told) {i k m n s : Nat} (hi : i < 6) (hk : t (24 + i) = k) (hk6 : k < 6) (hm : t (4 + i) = m) (hm6 : m < 64) (hn : n < 6) (hs : t (18 + n) = s) (hs9 : s < 64) {Post : Int32 → Prop} (hp : Post (nI (cyN k m s))) : wp_X10_criesBy told (nI i) (nI n) Post := by
  obtain ⟨h1, h2⟩ := MR_at h 4 (i := i) (by omega)
  obtain ⟨h3, h4⟩ := MR_at h 18 (i := n) (by omega)
  unfold wp_X10_criesBy
  refine s_kindOf h hi ?_
  rw [hk]
  refine ⟨h1, ?_⟩
  rw [show (4 : Int32) = nI 4 from rfl, h2, hm]
  refine s_criesAs hk6 hm6 ⟨h3, fun x ex => ?_⟩
  rw [show (18 : Int32) = nI 18 from rfl, h4, hs, s_half s (by omega)] at ex
  have hc := crN_le k m
  rcases Nat.lt_or_ge (crN k m) (s / 2) with q | q
  · have hneg := pk_sneg (a := crN k m) (b := s / 2) (by omega) q
    rw [← ex] at hneg
    rw [show cyN k m s = 0 by unfold cyN; omega] at hp
    refine ⟨fun z => absurd z ?_, fun _ => hp⟩
    rw [fa_le]
    rw [fa_lt] at hneg
    omega
  · rw [pk_sub q] at ex
    rw [ex]
    exact ⟨fun _ => hp, fun z => absurd (nI_pos' (by omega)) z⟩
theorem s_criesIn {t : Nat → Nat} {told : Nat → Int32} (h : MR t told) {i k m hh n s : Nat} (hi : i < 6) (hk : t (24 + i) = k) (hk6 : k < 6) (hm : t (4 + i) = m) (hm6 : m < 64) (hn : t (11 + i) = n) (hn6 : n < 6) (hs : t (18 + n) = s) (hs9 : s < 64) (h24 : hh < 24) {Post : Int32 → Prop} (hp : Post (nI (if slN k hh then 0 else cyN k m s))) : wp_X10_criesIn told (nI i) (nI hh) Post := by
  obtain ⟨h1, h2⟩ := MR_at h 11 (i := i) (by omega)
  unfold wp_X10_criesIn
  refine s_isAwake h hi hk hk6 h24 ⟨fun q => ?_, fun q => ⟨h1, ?_⟩⟩
  · rw [bI_0] at q
    rw [show slN k hh = true by simpa using q] at hp
    exact hp
  · rw [bI_n0] at q
    rw [show slN k hh = false by simpa using q] at hp
    rw [show (11 : Int32) = nI 11 from rfl, h2, hn]
    exact s_criesBy h hi hk hk6 hm hm6 hn6 hs hs9 hp
theorem s_dayByL {t : Nat → Nat} {told : Nat → Int32} (h : MR t told) {i k m n s : Nat} (hi : i < 6) (hk : t (24 + i) = k) (hk6 : k < 6) (hm : t (4 + i) = m) (hm6 : m < 64) (hn : n < 6) (hs : t (18 + n) = s) (hs9 : s < 64) {Post : Int32 → Prop} (hp : Post (nI (dyN k m s))) : ∀ d hh, hh + d = 24 → wp_X10_dayBy_L5 told Post (d + 1) (nI i) (nI n) (nI (fb_sm (fun h => if slN k h then 0 else cyN k m s) hh)) (nI hh) := by
  intro d
  induction d with
  | zero =>
    intro hh e
    have e' : hh = 24 := by omega
    subst e'
    exact ⟨fun _ => hp, fun q => absurd (show (24 : Int32) ≤ nI 24 by decide) q⟩
  | succ d ih =>
    intro hh e
    have ih' := ih (hh + 1) (by omega)
    rw [fb_sm_succ] at ih'
    refine ⟨fun q => absurd q (nI_ge (a := hh) (b := 24) (by omega) (by omega)), fun _ => ?_⟩
    refine s_isAwake h hi hk hk6 (by omega) ⟨fun q x ex y ey => ?_, fun q => ?_⟩
    · rw [bI_0] at q
      rw [show slN k hh = true by simpa using q] at ih'
      rw [ex, ey, show (0 : Int32) = nI 0 from rfl, nI_add, nI_1]
      exact ih'
    · rw [bI_n0] at q
      rw [show slN k hh = false by simpa using q] at ih'
      refine s_criesBy h hi hk hk6 hm hm6 hn hs hs9 (fun x ex y ey => ?_)
      rw [ex, ey, nI_add, nI_1]
      exact ih'
theorem s_dayBy {t : Nat → Nat} {told : Nat → Int32} (h : MR t told) {i k m n s : Nat} (hi : i < 6) (hk : t (24 + i) = k) (hk6 : k < 6) (hm : t (4 + i) = m) (hm6 : m < 64) (hn : n < 6) (hs : t (18 + n) = s) (hs9 : s < 64) {Post : Int32 → Prop} (hp : Post (nI (dyN k m s))) : wp_X10_dayBy told (nI i) (nI n) Post :=
  ⟨25, s_dayByL h hi hk hk6 hm hm6 hn hs hs9 hp 24 0 rfl⟩
