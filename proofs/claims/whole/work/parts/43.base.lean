/-! The pure level: what the methods do, over numbers. Leaves first. -/
def bI (b : Bool) : Int32 := if b then 1 else 0
theorem bI_t : bI true = 1 := rfl
theorem bI_f : bI false = 0 := rfl
theorem bI_0 (b : Bool) : bI b = 0 ↔ b = false := by cases b <;> decide
theorem bI_n0 (b : Bool) : ¬ bI b = 0 ↔ b = true := by cases b <;> decide
theorem bI_1 (b : Bool) : bI b = 1 ↔ b = true := by cases b <;> decide
theorem bI_01 (b : Bool) : bI b = 0 ∨ bI b = 1 := by cases b <;> decide
/-- whether one of a kind sleeps in an hour -/
def slP (h : Nat) : Bool := decide (19 ≤ h) || decide (h < 7) || decide (h = 12) || decide (h = 13)
def slN (k h : Nat) : Bool := match k with
  | 2 => slP h && !decide (h = 2) && !decide (h = 3)
  | 4 => decide (h = 14) || (slP h && !decide (h = 12))
  | 5 => slP h || decide (h = 17)
  | _ => slP h
def crP (m : Nat) : Nat := if m < 6 then 3 else 2
def crN (k m : Nat) : Nat := match k with
  | 1 => 2 * crP m
  | 2 => if 6 ≤ m ∧ m ≤ 11 then crP m + 3 else crP m
  | 5 => 2 * crP m - 1
  | _ => crP m
def wkN (k : Nat) : Nat := match k with
  | 3 => 11
  | 4 => 18
  | _ => 14
theorem crN_le (k m : Nat) : crN k m ≤ 6 := by
  unfold crN crP
  split <;> split <;> (try split) <;> omega
theorem wkN_le (k : Nat) : 11 ≤ wkN k ∧ wkN k ≤ 18 := by
  unfold wkN
  split <;> omega
theorem mo_and {A A' B B' : Prop} (f : A → A') (g : B → B') : A ∧ B → A' ∧ B' := fun h => ⟨f h.1, g h.2⟩
theorem mo_imp {c A A' : Prop} (f : A → A') : (c → A) → (c → A') := fun h x => f (h x)
theorem mo_all {α : Sort _} {A A' : α → Prop} (f : ∀ x, A x → A' x) : (∀ x, A x) → ∀ x, A' x := fun h x => f x (h x)
theorem mo_ex {α : Sort _} {A A' : α → Prop} (f : ∀ x, A x → A' x) : (∃ x, A x) → ∃ x, A' x := fun ⟨x, h⟩ => ⟨x, f x h⟩
theorem m_cries {k : Nat} {h : Int32} {P Q : Int32 → Prop} (hPQ : ∀ r, P r → Q r) (hw : wpv_criesAwake k h P) : wpv_criesAwake k h Q := by
  unfold wpv_criesAwake wp_X0_criesAwake wp_X8_criesAwakeB wp_X8_criesAwake wp_X7_criesAwake wp_X6_criesAwake at *
  revert hw
  repeat' first | exact hPQ _ | exact id | refine mo_and ?_ ?_ | refine mo_imp ?_
theorem nI_hours : ∀ (h : Nat), h < 24 → ((19 ≤ nI h ↔ 19 ≤ h) ∧ (nI h < 7 ↔ h < 7) ∧ (nI h = 12 ↔ h = 12) ∧ (nI h = 13 ↔ h = 13) ∧ (nI h = 2 ↔ h = 2) ∧ (nI h = 3 ↔ h = 3) ∧ (nI h = 14 ↔ h = 14) ∧ (nI h = 17 ↔ h = 17)) := by decide +kernel
theorem s_sl6 {h : Nat} (hh : h < 24) {Post : Int32 → Prop} (hp : Post (bI (slP h))) : wp_X6_sleepsIn (nI h) Post := by
  obtain ⟨h1, h2, h3, h4, -⟩ := nI_hours h hh
  unfold wp_X6_sleepsIn
  rw [h1, h2, h3, h4]
  by_cases a1 : 19 ≤ h
  · simp_all [bI, slP]
  · by_cases a2 : h < 7
    · simp_all [bI, slP]
    · by_cases a3 : h = 12
      · simp_all [bI, slP]
      · by_cases a4 : h = 13
        · simp_all [bI, slP]
        · have e : slP h = false := by simp only [slP, a1, a2, a3, a4, decide_false, Bool.or_false]
          rw [e] at hp
          exact ⟨fun q => absurd q a1, fun _ => ⟨fun q => absurd q a2, fun _ => ⟨fun q => absurd q a3, fun _ => ⟨fun q => absurd q a4, fun _ => hp⟩⟩⟩⟩
theorem s_sleeps {k h : Nat} (hk : k < 6) (hh : h < 24) {Post : Int32 → Prop} (hp : Post (bI (slN k h))) : wpv_sleepsIn k (nI h) Post := by
  obtain ⟨h1, h2, h3, h4, h5, h6, h7, h8⟩ := nI_hours h hh
  refine ⟨fun e => ?_, fun e => ?_, fun e => ?_, fun e => ?_, fun e => ?_, fun e => ?_⟩ <;> subst e
  · exact s_sl6 hh hp
  · exact s_sl6 hh hp
  · unfold wp_X7_sleepsIn
    rw [h5, h6]
    simp only [slN] at hp
    refine ⟨fun c => ?_, fun c => ⟨fun c2 => ?_, fun c2 => s_sl6 hh ?_⟩⟩
    · simp_all [bI]
    · simp_all [bI]
    · cases hs : slP h <;> simp_all [bI]
  · exact s_sl6 hh hp
  · unfold wp_X4_sleepsIn
    rw [h7, h3]
    simp only [slN] at hp
    refine ⟨fun c => ?_, fun c => ⟨fun c2 => ?_, fun c2 => s_sl6 hh ?_⟩⟩
    · simp_all [bI]
    · simp_all [bI]
    · cases hs : slP h <;> simp_all [bI]
  · unfold wp_X0_sleepsIn
    rw [h8]
    simp only [slN] at hp
    refine ⟨fun c => ?_, fun c => s_sl6 hh ?_⟩
    · simp_all [bI]
    · cases hs : slP h <;> simp_all [bI]
theorem s_cr6 : ∀ h, h < 64 → wp_X6_criesAwake (nI h) (fun r => r = nI (crP h)) := by
  unfold wp_X6_criesAwake
  dsimp only
  decide +kernel
theorem s_cr8 : ∀ h, h < 64 → wp_X8_criesAwake (nI h) (fun r => r = nI (crN 1 h)) := by
  unfold wp_X8_criesAwake wp_X6_criesAwake
  dsimp only
  decide +kernel
theorem s_cr7 (h : Nat) (hh : h < 64) : wp_X7_criesAwake (nI h) (fun r => r = nI (crN 2 h)) := by
  have h6 : 6 ≤ nI h ↔ 6 ≤ h := nI_leI (a := 6) (b := h) (by omega) (by omega)
  have h6' : nI h < 6 ↔ h < 6 := nI_ltI (a := h) (b := 6) (by omega) (by omega)
  have h11 : 11 < nI h ↔ 11 < h := nI_ltI (a := 11) (b := h) (by omega) (by omega)
  unfold wp_X7_criesAwake wp_X6_criesAwake
  rw [h6, h6', h11]
  refine ⟨fun a => ⟨fun b => absurd b (by omega), fun b => ⟨fun c => ?_, fun c => ?_⟩⟩, fun a => ⟨fun b => ?_, fun b => absurd b (by omega)⟩⟩
  · have e : crN 2 h = 2 := by unfold crN crP; simp only; rw [if_neg (by omega), if_neg (by omega)]
    rw [e]; rfl
  · have e : crN 2 h = 5 := by unfold crN crP; simp only; rw [if_pos (by omega), if_neg (by omega)]
    rw [e]; rfl
  · have e : crN 2 h = 3 := by unfold crN crP; simp only; rw [if_neg (by omega), if_pos (by omega)]
    rw [e]; rfl
theorem s_cr0 : ∀ h, h < 64 → wp_X0_criesAwake (nI h) (fun r => r = nI (crN 5 h)) := by
  unfold wp_X0_criesAwake wp_X8_criesAwakeB wp_X6_criesAwake
  dsimp only
  decide +kernel
theorem s_cries0 (k : Nat) (hk : k < 6) (h : Nat) (hh : h < 64) : wpv_criesAwake k (nI h) (fun r => r = nI (crN k h)) := by
  refine ⟨fun e => ?_, fun e => ?_, fun e => ?_, fun e => ?_, fun e => ?_, fun e => ?_⟩ <;> subst e
  · exact s_cr6 h hh
  · exact s_cr8 h hh
  · exact s_cr7 h hh
  · exact s_cr6 h hh
  · exact s_cr6 h hh
  · exact s_cr0 h hh
theorem s_cries {k h : Nat} (hk : k < 6) (hh : h < 64) {Post : Int32 → Prop} (hp : Post (nI (crN k h))) : wpv_criesAwake k (nI h) Post := m_cries (P := fun r => r = nI (crN k h)) (fun r e => by rw [e]; exact hp) (s_cries0 k hk h hh)
theorem s_walks {k : Nat} (hk : k < 6) {Post : Int32 → Prop} (hp : Post (nI (wkN k))) : wpv_walksWith k Post := by
  unfold wpv_walksWith wp_X4_walksWith wp_X3_walksWith wp_X6_walksWith
  refine ⟨fun e => ?_, fun e => ?_, fun e => ?_, fun e => ?_, fun e => ?_, fun e => ?_⟩ <;> subst e <;> exact hp
/-! the reference's leaves -/
theorem s_in {v0 v2 v4 : Int64} {Post : Int32 → Prop} (hp : Post (bI (decide (v2 ≤ v0) && decide (v0 ≤ v4)))) : wp_X10_in v0 v2 v4 Post := by
  have lt64 : ∀ a b : Int64, a < b ↔ ¬ b ≤ a := fun a b => by rw [fa_lt64, fa_le64]; omega
  have c1 : lg_cmp v0 v2 < 0 ↔ ¬ v2 ≤ v0 := by
    unfold lg_cmp
    by_cases h1 : v2 < v0
    · simp only [h1, if_true]
      rw [lt64] at h1
      constructor
      · intro h; exact absurd h (by decide)
      · intro h; exfalso; apply h; rw [fa_le64] at h1 ⊢; omega
    · by_cases h2 : v0 = v2
      · subst h2
        simp only [h1, if_false, if_true]
        constructor
        · intro h; exact absurd h (by decide)
        · intro h; exfalso; apply h; rw [fa_le64]; omega
      · simp only [h1, h2, if_false]
        constructor
        · intro _
          rw [fa_le64]
          rw [fa_lt64] at h1
          rw [fa_eq64] at h2
          omega
        · intro _; decide
  have c2 : 0 < lg_cmp v0 v4 ↔ ¬ v0 ≤ v4 := by
    unfold lg_cmp
    by_cases h1 : v4 < v0
    · simp only [h1, if_true]
      rw [lt64] at h1
      constructor
      · intro _; exact h1
      · intro _; decide
    · by_cases h2 : v0 = v4
      · subst h2
        simp only [h1, if_false, if_true]
        constructor
        · intro h; exact absurd h (by decide)
        · intro h; exfalso; apply h; rw [fa_le64]; omega
      · simp only [h1, h2, if_false]
        constructor
        · intro h; exact absurd h (by decide)
        · intro h; exfalso; apply h1; rw [lt64]; exact h
  unfold wp_X10_in
  rw [c1, c2]
  by_cases h1 : v2 ≤ v0 <;> by_cases h2 : v0 ≤ v4 <;> simp_all [bI]
theorem m_sleepsAs {k h : Int32} {P Q : Int32 → Prop} (hPQ : ∀ r, P r → Q r) (hw : wp_X10_sleepsAs k h P) : wp_X10_sleepsAs k h Q := by
  unfold wp_X10_sleepsAs wp_X10_sleepsAs_J24 wp_X10_sleepsAs_J29 wp_X10_sleepsAs_J90 at *
  revert hw
  repeat' first | exact hPQ _ | exact id | refine mo_and ?_ ?_ | refine mo_imp ?_ | refine mo_all (fun _ => ?_)
theorem nI_ti {n : Nat} (h : n < 64) : (nI n).toInt = (n : Int) := nI_toInt (by omega)
/-- sleepsAs, by the kind: the switch is read off first -/
theorem s_sleepsAs {k h : Nat} (hk : k < 6) (hh : h < 24) {Post : Int32 → Prop} (hp : Post (bI (slN k h))) : wp_X10_sleepsAs (nI k) (nI h) Post := by
  have hv : ∀ (h : Nat), h < 24 → ((19 ≤ nI h ↔ 19 ≤ h) ∧ (nI h < 7 ↔ h < 7) ∧ (nI h = 12 ↔ h = 12) ∧ (nI h = 13 ↔ h = 13) ∧ (nI h = 2 ↔ h = 2) ∧ (nI h = 3 ↔ h = 3) ∧ (nI h = 14 ↔ h = 14) ∧ (nI h = 17 ↔ h = 17)) := by decide +kernel
  obtain ⟨h1, h2, h3, h4, h5, h6, h7, h8⟩ := hv h hh
  have key : ∀ s0 : Bool, s0 = slP h → wp_X10_sleepsAs_J29 Post (nI k) (nI h) (bI s0) := by
    intro s0 e0
    unfold wp_X10_sleepsAs_J29 wp_X10_sleepsAs_J90
    rw [nI_ti (by omega), h3, h5, h6, h7, h8]
    refine ⟨fun e => ?_, fun e => ?_, fun e => ?_, fun e => ?_, fun e => ?_⟩
    · have e' : k = 2 := by omega
      subst e'
      simp only [slN, ← e0] at hp
      cases s0 <;> by_cases a : h = 2 <;> by_cases b : h = 3 <;> simp_all [bI]
    · have e' : k = 3 := by omega
      subst e'
      simp only [slN, ← e0] at hp
      exact ⟨bI_01 _, hp⟩
    · have e' : k = 4 := by omega
      subst e'
      simp only [slN, ← e0] at hp
      cases s0 <;> by_cases a : h = 14 <;> by_cases b : h = 12 <;> simp_all [bI]
    · have e' : k = 5 := by omega
      subst e'
      simp only [slN, ← e0] at hp
      cases s0 <;> by_cases a : h = 17 <;> simp_all [bI]
    · have e' : k = 0 ∨ k = 1 := by omega
      rcases e' with e' | e' <;> subst e' <;> simp only [slN, ← e0] at hp <;> exact ⟨bI_01 _, hp⟩
  unfold wp_X10_sleepsAs wp_X10_sleepsAs_J24
  rw [h1, h2, h3, h4]
  by_cases a1 : 19 ≤ h
  · have := key true (by simp [slP, a1])
    simp_all [bI]
  · by_cases a2 : h < 7
    · have := key true (by simp [slP, a2])
      simp_all [bI]
    · by_cases a3 : h = 12
      · have := key true (by simp [slP, a3])
        simp_all [bI]
      · by_cases a4 : h = 13
        · have := key true (by simp [slP, a4])
          simp_all [bI]
        · have h9 := key false (by simp only [slP, a1, a2, a3, a4, decide_false, Bool.or_false])
          exact ⟨fun q => absurd q a1, fun _ => ⟨fun q => absurd q a2, fun _ => ⟨fun q => absurd q a3, fun _ => ⟨fun q => absurd q a4, fun _ => h9⟩⟩⟩⟩
theorem s_walksAs {k : Nat} (hk : k < 6) {Post : Int32 → Prop} (hp : Post (nI (wkN k))) : wp_X10_walksAs (nI k) Post := by
  unfold wp_X10_walksAs
  have h3 : nI k = 3 ↔ k = 3 := nI_eq (a := k) (b := 3) (by omega) (by omega)
  have h4 : nI k = 4 ↔ k = 4 := nI_eq (a := k) (b := 4) (by omega) (by omega)
  rw [h3, h4]
  refine ⟨fun e => ?_, fun e => ⟨fun e2 => ?_, fun e2 => ?_⟩⟩
  · subst e; exact hp
  · subst e2; exact hp
  · have : wkN k = 14 := by
      unfold wkN
      split <;> first | rfl | omega
    rw [this] at hp
    exact hp
theorem s_criesAs {k m : Nat} (hk : k < 6) (hm : m < 64) {Post : Int32 → Prop} (hp : Post (nI (crN k m))) : wp_X10_criesAs (nI k) (nI m) Post := by
  have h6 : 6 ≤ nI m ↔ 6 ≤ m := nI_leI (a := 6) (b := m) (by omega) (by omega)
  have key : wp_X10_criesAs_J11 Post (nI k) (nI m) (nI (crP m)) := by
    unfold wp_X10_criesAs_J11
    rw [nI_ti (by omega)]
    refine ⟨fun e => ?_, fun e => ?_, fun e => ?_, fun e => ?_, fun e => ?_, fun e => ?_⟩
    · have e' : k = 1 := by omega
      subst e'
      rw [show (2 : Int32) * nI (crP m) = nI (2 * crP m) from pk_mul 2 _]
      exact hp
    · have e' : k = 2 := by omega
      subst e'
      refine s_in ?_
      have e1 : (nI m).toInt64 = lN m := nI_l (by omega)
      have e2 : ((6 : Int64) ≤ lN m ↔ 6 ≤ m) := lN_le (a := 6) (b := m) (by omega) (by omega)
      have e3 : (lN m ≤ (11 : Int64) ↔ m ≤ 11) := lN_le (a := m) (b := 11) (by omega) (by omega)
      rw [e1]
      simp only [e2, e3]
      simp only [crN] at hp
      by_cases a : 6 ≤ m <;> by_cases b : m ≤ 11 <;> simp_all [bI]
      rw [show nI (crP m) + 3 = nI (crP m + 3) from nI_add _ 3]
      exact hp
    · have e' : k = 3 := by omega
      subst e'; exact hp
    · have e' : k = 4 := by omega
      subst e'; exact hp
    · have e' : k = 5 := by omega
      subst e'
      rw [show (2 : Int32) * nI (crP m) = nI (2 * crP m) from pk_mul 2 _, show nI (2 * crP m) - 1 = nI (2 * crP m - 1) from pk_sub (by unfold crP; split <;> omega)]
      exact hp
    · have e' : k = 0 := by omega
      subst e'; exact hp
  unfold wp_X10_criesAs
  rw [h6]
  by_cases a : 6 ≤ m
  · have e : crP m = 2 := by unfold crP; split <;> omega
    rw [e] at key
    exact ⟨fun _ => key, fun q => absurd a q⟩
  · have e : crP m = 3 := by unfold crP; split <;> omega
    rw [e] at key
    exact ⟨fun q => absurd q a, fun _ => key⟩
/-! bits of the retired -/
theorem b_has : ∀ r, r < 64 → ∀ i, i < 6 → (((nI r >>> (nI i &&& 31)) &&& 1) = 1 ↔ r.testBit i = true) := by decide +kernel
theorem b_bit : ∀ r, r < 64 → ∀ i, i < 6 → ((nI r >>> (nI i &&& 31)) &&& 1) = bI (r.testBit i) := by decide +kernel
theorem b_set : ∀ r, r < 64 → ∀ i, i < 6 → (nI r ||| ((1 : Int32) <<< (nI i &&& 31))) = nI (r ||| 2 ^ i) ∧ r ||| 2 ^ i < 64 := by decide +kernel
theorem b_seti : ∀ r, r < 64 → ∀ i, i < 6 → ∀ j, j < 6 → (r ||| 2 ^ i).testBit j = (r.testBit j || decide (i = j)) := by decide +kernel
theorem s_isRetired {r i : Nat} (hr : r < 64) (hi : i < 6) {Post : Int32 → Prop} (hp : Post (bI (r.testBit i))) : wp_X1_isRetired (nI r) (nI i) Post := by
  unfold wp_X1_isRetired
  rw [b_has r hr i hi]
  by_cases h : r.testBit i = true <;> simp_all [bI]
theorem s_has {r i : Nat} (hr : r < 64) (hi : i < 6) {Post : Int32 → Prop} (hp : Post (bI (r.testBit i))) : wp_X10_has (nI r) (nI i) Post := by
  unfold wp_X10_has
  rw [b_has r hr i hi]
  by_cases h : r.testBit i = true <;> simp_all [bI]
