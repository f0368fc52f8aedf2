/-! Crying, and who reigns: both sides, over numbers. -/
def oI (o : Option Nat) : Int32 := match o with
  | none => -1
  | some j => nI j
theorem oI_none (o : Option Nat) (h : ∀ j, o = some j → j < 2 ^ 31) : oI o = -1 ↔ o = none := by
  cases o with
  | none => exact ⟨fun _ => rfl, fun _ => rfl⟩
  | some j =>
    have hj := h j rfl
    refine ⟨fun e => ?_, fun e => by cases e⟩
    have e1 : (nI j).toInt = (-1 : Int32).toInt := by rw [show nI j = -1 from e]
    rw [nI_toInt hj] at e1
    exact absurd e1 (by rw [show (-1 : Int32).toInt = -1 from rfl]; omega)
/-- of those that are not out the one with the most, the first of like ones -/
def rg (out : Nat → Bool) (mo : Nat → Nat) : Nat → Option Nat
  | 0 => none
  | k + 1 => match rg out mo k with
    | none => if out k then none else some k
    | some j => if out k then some j else if mo j < mo k then some k else some j
theorem rg_lt (out : Nat → Bool) (mo : Nat → Nat) : ∀ n j, rg out mo n = some j → j < n ∧ out j = false
  | 0, j, h => by cases h
  | n + 1, j, h => by
    unfold rg at h
    split at h
    · next e =>
      split at h
      · cases h
      · next q => cases h; exact ⟨Nat.lt_succ_self _, by simpa using q⟩
    · next i e =>
      have ih := rg_lt out mo n i e
      split at h
      · cases h; exact ⟨Nat.lt_succ_of_lt ih.1, ih.2⟩
      · next q =>
        split at h
        · cases h; exact ⟨Nat.lt_succ_self _, by simpa using q⟩
        · cases h; exact ⟨Nat.lt_succ_of_lt ih.1, ih.2⟩
theorem rg_cong {out out2 : Nat → Bool} {mo mo2 : Nat → Nat} : ∀ {n : Nat}, (∀ i, i < n → out i = out2 i) → (∀ i j, i < n → j < n → out i = false → out j = false → (mo i < mo j ↔ mo2 i < mo2 j)) → rg out mo n = rg out2 mo2 n
  | 0, _, _ => rfl
  | n + 1, h1, h2 => by
    have ih := rg_cong (n := n) (fun i hi => h1 i (Nat.lt_succ_of_lt hi)) (fun i j hi hj => h2 i j (Nat.lt_succ_of_lt hi) (Nat.lt_succ_of_lt hj))
    unfold rg
    rw [← ih, ← h1 n (Nat.lt_succ_self n)]
    cases e : rg out mo n with
    | none => rfl
    | some j =>
      obtain ⟨hj, hoj⟩ := rg_lt out mo n j e
      cases ho : out n with
      | true => rfl
      | false =>
        have := h2 j n (Nat.lt_succ_of_lt hj) (Nat.lt_succ_self n) hoj ho
        simp only [Bool.false_eq_true, if_false]
        by_cases q : mo j < mo n
        · rw [if_pos q, if_pos (this.mp q)]
        · rw [if_neg q, if_neg (fun z => q (this.mpr z))]
theorem s_walkingAge {kind : Nat → Int32} {i k : Nat} (hi : i < 6) (hk : kind i = nI k) (hk6 : k < 6) {Post : Int32 → Prop} (hp : Post (nI (wkN k))) : wp_X1_walkingAge kind (nI i) Post := by
  unfold wp_X1_walkingAge wp_X1_walkingAge_J14
  rw [nI_clamp (by omega), hk, nI_clamp (by omega)]
  exact ⟨vp_in_nI hi (by omega), vp_in_nI hk6 (by omega), s_walks hk6 hp⟩
theorem s_isAsleep {kind : Nat → Int32} {i k h : Nat} (hi : i < 6) (hk : kind i = nI k) (hk6 : k < 6) (hh : h < 24) {Post : Int32 → Prop} (hp : Post (bI (slN k h))) : wp_X1_isAsleep kind (nI i) (nI h) Post := by
  unfold wp_X1_isAsleep wp_X1_isAsleep_J15
  rw [nI_clamp (by omega), hk, nI_clamp (by omega)]
  exact ⟨vp_in_nI hi (by omega), vp_in_nI hk6 (by omega), s_sleeps hk6 hh ⟨bI_01 _, hp⟩⟩
/-- what is cried awake by a nurse of that skill -/
def cyN (k m s : Nat) : Nat := crN k m - s / 2
theorem cyN_le (k m s : Nat) : cyN k m s ≤ 6 := Nat.le_trans (Nat.sub_le _ _) (crN_le k m)
theorem s_half (s : Nat) (hs : s < 2 ^ 31) : nI s / 2 = nI (s / 2) := pk_div (a := s) (d := 2) hs (by omega) (by omega)
theorem s_criesAt {kind months skills : Nat → Int32} {i k m h n s : Nat} (hi : i < 6) (hk : kind i = nI k) (hk6 : k < 6) (hm : months i = nI m) (hm6 : m < 64) (hh : h < 24) (hn : n < 6) (hs : skills n = nI s) (hs9 : s < 64) {Post : Int32 → Prop} (hp : Post (nI (if slN k h then 0 else cyN k m s))) : wp_X1_criesAt kind months skills (nI i) (nI h) (nI n) Post := by
  unfold wp_X1_criesAt
  refine s_isAsleep hi hk hk6 hh ⟨fun e => ?_, fun e => ?_⟩
  · rw [bI_0] at e
    rw [e] at hp
    rw [nI_clamp (by omega), hk, hm, nI_clamp (by omega)]
    refine ⟨vp_in_nI hi (by omega), vp_in_nI hk6 (by omega), s_cries hk6 hm6 ?_⟩
    unfold wp_X1_criesAt_J32
    rw [nI_clamp (by omega), hs, s_half s (by omega)]
    refine ⟨vp_in_nI hn (by omega), fun x ex => ?_⟩
    rw [ex]
    have hc := crN_le k m
    simp only [Bool.false_eq_true, if_false] at hp
    rcases Nat.lt_or_ge (crN k m) (s / 2) with q | q
    · rw [if_neg]
      · rw [show cyN k m s = 0 by unfold cyN; omega] at hp
        exact hp
      · have := pk_sneg (a := crN k m) (b := s / 2) (by omega) q
        intro z
        rw [fa_lt] at this z
        omega
    · rw [pk_sub q]
      split
      · exact hp
      · next z =>
        have : crN k m - s / 2 = 0 := by
          rcases Nat.eq_zero_or_pos (crN k m - s / 2) with w | w
          · exact w
          · exact absurd (nI_lt (a := 0) w (by omega)) z
        rw [show cyN k m s = 0 from this] at hp
        exact hp
  · rw [bI_n0] at e
    rw [e] at hp
    exact hp
/-- what is cried in a day -/
def dyN (k m s : Nat) : Nat := fb_sm (fun h => if slN k h then 0 else cyN k m s) 24
theorem dy_le (k m s : Nat) : ∀ n, fb_sm (fun h => if slN k h then 0 else cyN k m s) n ≤ n * 6
  | 0 => Nat.zero_le _
  | n + 1 => by
    have := dy_le k m s n
    have h2 := cyN_le k m s
    rw [fb_sm_succ]
    split <;> omega
theorem dyN_le (k m s : Nat) : dyN k m s ≤ 144 := dy_le k m s 24
theorem s_dayL {kind months skills : Nat → Int32} {i k m n s : Nat} (hi : i < 6) (hk : kind i = nI k) (hk6 : k < 6) (hm : months i = nI m) (hm6 : m < 64) (hn : n < 6) (hs : skills n = nI s) (hs9 : s < 64) {Post : Int32 → Prop} (hp : Post (nI (dyN k m s))) : ∀ d h, h + d = 24 → wp_X1_criesAllDay_L5 kind months skills Post (d + 1) (nI i) (nI n) (nI (fb_sm (fun h => if slN k h then 0 else cyN k m s) h)) (nI h) := by
  intro d
  induction d with
  | zero =>
    intro h e
    have e' : h = 24 := by omega
    subst e'
    exact ⟨fun _ => hp, fun q => absurd (show (24 : Int32) ≤ nI 24 by decide) q⟩
  | succ d ih =>
    intro h e
    refine ⟨fun q => absurd q (nI_ge (a := h) (b := 24) (by omega) (by omega)), fun _ => ?_⟩
    refine s_criesAt hi hk hk6 hm hm6 (by omega) hn hs hs9 (fun x ex y ey => ?_)
    rw [ex, ey, nI_add, nI_1, ← fb_sm_succ (fun h => if slN k h then 0 else cyN k m s)]
    exact ih (h + 1) (by omega)
theorem s_criesAllDay {kind months skills : Nat → Int32} {i k m n s : Nat} (hi : i < 6) (hk : kind i = nI k) (hk6 : k < 6) (hm : months i = nI m) (hm6 : m < 64) (hn : n < 6) (hs : skills n = nI s) (hs9 : s < 64) {Post : Int32 → Prop} (hp : Post (nI (dyN k m s))) : wp_X1_criesAllDay kind months skills (nI i) (nI n) Post :=
  ⟨25, s_dayL hi hk hk6 hm hm6 hn hs hs9 hp 24 0 rfl⟩
