/-! The line of heirs. -/
theorem rg_none (out : Nat → Bool) (mo : Nat → Nat) : ∀ n, rg out mo n = none ↔ ∀ i, i < n → out i = true
  | 0 => ⟨fun _ i h => absurd h (Nat.not_lt_zero i), fun _ => rfl⟩
  | n + 1 => by
    have ih := rg_none out mo n
    rw [rg_succ]
    constructor
    · intro h
      cases e : rg out mo n with
      | some j =>
        rw [e] at h
        simp only at h
        split at h
        · cases h
        · split at h <;> cases h
      | none =>
        rw [e] at h
        simp only at h
        intro i hi
        rcases Nat.lt_or_ge i n with z | z
        · exact ih.mp e i z
        · obtain rfl : i = n := by omega
          cases ho : out i with
          | true => rfl
          | false => rw [ho] at h; cases h
    · intro h
      rw [ih.mpr (fun i hi => h i (by omega))]
      simp only
      rw [h n (by omega)]
      rfl
theorem rg_max {out : Nat → Bool} {mo : Nat → Nat} : ∀ {n j : Nat}, rg out mo n = some j → ∀ i, i < n → out i = false → mo i ≤ mo j
  | 0, j, h, i, hi, _ => absurd hi (Nat.not_lt_zero i)
  | n + 1, j, h, i, hi, ho => by
    have ih : ∀ j, rg out mo n = some j → ∀ i, i < n → out i = false → mo i ≤ mo j := fun j h => rg_max h
    rw [rg_succ] at h
    cases e : rg out mo n with
    | none =>
      rw [e] at h
      simp only at h
      have hall := (rg_none out mo n).mp e
      rcases Nat.lt_or_ge i n with z | z
      · rw [hall i z] at ho; cases ho
      · obtain rfl : i = n := by omega
        rw [ho] at h
        cases h
        exact Nat.le_refl _
    | some k =>
      rw [e] at h
      simp only at h
      rcases Nat.lt_or_ge i n with z | z
      · have h1 := ih k e i z ho
        split at h
        · cases h; exact h1
        · split at h
          · cases h; omega
          · cases h; exact h1
      · obtain rfl : i = n := by omega
        rw [ho] at h
        simp only [Bool.false_eq_true, if_false] at h
        split at h
        · cases h; exact Nat.le_refl _
        · cases h; omega
/-- one who reigns and isn't out goes on reigning where more are out -/
theorem rg_keep {out out2 : Nat → Bool} {mo : Nat → Nat} : ∀ {n j : Nat}, (∀ i, i < n → out i = true → out2 i = true) → rg out mo n = some j → out2 j = false → rg out2 mo n = some j
  | 0, j, _, h, _ => by cases h
  | n + 1, j, hs, h, ho => by
    have ih : ∀ j, rg out mo n = some j → out2 j = false → rg out2 mo n = some j := fun j => rg_keep (fun i hi => hs i (by omega))
    rw [rg_succ] at h ⊢
    cases e : rg out mo n with
    | none =>
      rw [e] at h
      simp only at h
      have hall := (rg_none out mo n).mp e
      have e2 : rg out2 mo n = none := (rg_none out2 mo n).mpr (fun i hi => hs i (by omega) (hall i hi))
      rw [e2]
      simp only
      split at h
      · cases h
      · cases h
        rw [ho]
        rfl
    | some k =>
      rw [e] at h
      simp only at h
      have hk := rg_lt out mo n k e
      cases on : out n with
      | true =>
        rw [on] at h
        simp only [if_true] at h
        have hkj := Option.some.inj h
        rw [← hkj] at ho ⊢
        rw [ih k e ho]
        simp only
        rw [hs n (by omega) on]
        rfl
      | false =>
        rw [on] at h
        simp only [Bool.false_eq_true, if_false] at h
        by_cases q : mo k < mo n
        · rw [if_pos q] at h
          cases h
          cases e2 : rg out2 mo n with
          | none => simp only; rw [ho]; rfl
          | some k2 =>
            simp only
            rw [ho]
            simp only [Bool.false_eq_true, if_false]
            rw [if_pos]
            have hk2 := rg_lt out2 mo n k2 e2
            have ok2 : out k2 = false := by
              cases z : out k2 with
              | false => rfl
              | true => rw [hs k2 (by omega) z] at hk2; exact absurd hk2.2 (by decide)
            exact Nat.lt_of_le_of_lt (rg_max e k2 hk2.1 ok2) q
        · rw [if_neg q] at h
          have hkj := Option.some.inj h
          rw [← hkj] at ho ⊢
          rw [ih k e ho]
          simp only
          split <;> first | rfl | rw [if_neg q]
theorem soO_le {r a b : Nat} {kd mo : Nat → Nat} {i : Nat} (h : a ≤ b) (ha : soO r a kd mo i = true) : soO r b kd mo i = true := by
  obtain ⟨d, rfl⟩ : ∃ d, b = a + d := ⟨b - a, by omega⟩
  clear h
  induction d with
  | zero => exact ha
  | succ d ih => exact soO_step ih
theorem so_nn {t : Nat → Nat} {a b : Nat} (h : a ≤ b) (ha : so t a = none) : so t b = none :=
  (rg_none _ _ _).mpr (fun i hi => soO_le h ((rg_none _ _ _).mp ha i hi))
theorem so_back {t : Nat → Nat} {a b c j : Nat} (h1 : a ≤ b) (h2 : b ≤ c) (ha : so t a = some j) (hc : so t c = some j) : so t b = some j := by
  refine rg_keep (fun i hi => soO_le h1) ha ?_
  have := (rg_lt _ _ _ _ hc).2
  cases z : soO (t 10) b (fun i => t (24 + i)) (fun i => t (4 + i)) j with
  | false => rfl
  | true => rw [soO_le h2 z] at this; cases this
/-- the heirs of the first m months: how many, who, for how long -/
def ln (s : Nat → Option Nat) : Nat → Nat × (Nat → Nat) × (Nat → Nat)
  | 0 => (0, fun _ => 0, fun _ => 0)
  | m + 1 => match s m with
    | none => ln s m
    | some j => if 0 < (ln s m).1 ∧ (ln s m).2.1 ((ln s m).1 - 1) = j then ((ln s m).1, (ln s m).2.1, up (ln s m).2.2 ((ln s m).1 - 1) ((ln s m).2.2 ((ln s m).1 - 1) + 1)) else ((ln s m).1 + 1, up (ln s m).2.1 (ln s m).1 j, up (ln s m).2.2 (ln s m).1 1)
theorem ln_n {s : Nat → Option Nat} {m : Nat} (h : s m = none) : ln s (m + 1) = ln s m := by
  show (match s m with | none => _ | some j => _) = _
  rw [h]
theorem ln_s {s : Nat → Option Nat} {m j : Nat} (h : s m = some j) (h0 : 0 < (ln s m).1) (hj : (ln s m).2.1 ((ln s m).1 - 1) = j) : ln s (m + 1) = ((ln s m).1, (ln s m).2.1, up (ln s m).2.2 ((ln s m).1 - 1) ((ln s m).2.2 ((ln s m).1 - 1) + 1)) := by
  show (match s m with | none => _ | some j => _) = _
  rw [h]
  exact if_pos ⟨h0, hj⟩
theorem ln_w {s : Nat → Option Nat} {m j : Nat} (h : s m = some j) (hj : ¬ (0 < (ln s m).1 ∧ (ln s m).2.1 ((ln s m).1 - 1) = j)) : ln s (m + 1) = ((ln s m).1 + 1, up (ln s m).2.1 (ln s m).1 j, up (ln s m).2.2 (ln s m).1 1) := by
  show (match s m with | none => _ | some j => _) = _
  rw [h]
  exact if_neg hj
/-- what a row of reigns keeps to -/
def SS (s : Nat → Option Nat) : Prop := (∀ a b, a ≤ b → s a = none → s b = none) ∧ (∀ a b c j, a ≤ b → b ≤ c → s a = some j → s c = some j → s b = some j) ∧ ∀ a j, s a = some j → j < 6
/-- and its heirs -/
def LI (s : Nat → Option Nat) (m : Nat) : Prop := (ln s m).1 ≤ 6 ∧ (∀ k, k < (ln s m).1 → (ln s m).2.1 k < 6) ∧ (∀ i j, i < j → j < (ln s m).1 → (ln s m).2.1 i ≠ (ln s m).2.1 j) ∧ (∀ k, k + 1 < (ln s m).1 → ∀ a, m ≤ a → s a ≠ some ((ln s m).2.1 k)) ∧ ((∀ a, a < m → s a ≠ none) → 0 < m → 0 < (ln s m).1 ∧ s (m - 1) = some ((ln s m).2.1 ((ln s m).1 - 1))) ∧ (∀ k, k < (ln s m).1 → (ln s m).2.2 k ≤ m) ∧ (0 < (ln s m).1 → 0 < m)
theorem LI_ok {s : Nat → Option Nat} (hs : SS s) : ∀ m, LI s m
  | 0 => ⟨Nat.zero_le _, fun k h => absurd h (Nat.not_lt_zero k), fun i j _ h => absurd h (Nat.not_lt_zero j), fun k h => absurd h (Nat.not_lt_zero _), fun _ h => absurd h (Nat.not_lt_zero _), fun k h => absurd h (Nat.not_lt_zero k), fun h => absurd h (Nat.not_lt_zero _)⟩
  | m + 1 => by
    obtain ⟨i1, i2, i3, i4, i5, i6, i7⟩ := LI_ok hs m
    obtain ⟨s1, s2, s3⟩ := hs
    unfold LI
    cases e : s m with
    | none =>
      rw [ln_n e]
      exact ⟨i1, i2, i3, fun k hk a ha => i4 k hk a (by omega), fun h => absurd e (h m (by omega)), fun k hk => Nat.le_succ_of_le (i6 k hk), fun _ => Nat.succ_pos m⟩
    | some j =>
      have hsome : ∀ a, a < m → s a ≠ none := fun a ha h => by rw [s1 a m (by omega) h] at e; cases e
      by_cases c : 0 < (ln s m).1 ∧ (ln s m).2.1 ((ln s m).1 - 1) = j
      · rw [ln_s e c.1 c.2]
        refine ⟨i1, i2, i3, fun k hk a ha => i4 k hk a (by omega), fun _ _ => ⟨c.1, ?_⟩, fun k hk => ?_, fun _ => Nat.succ_pos m⟩
        · show s m = _
          rw [e, c.2]
        · show up _ _ _ k ≤ m + 1
          rw [up_at]
          split
          · have := i6 ((ln s m).1 - 1) (by omega)
            omega
          · have := i6 k hk
            omega
      · rw [ln_w e c]
        have old : ∀ k, k < (ln s m).1 → ∀ a, m ≤ a → s a ≠ some ((ln s m).2.1 k) := by
          intro k hk a ha h
          rcases Nat.lt_or_ge (k + 1) (ln s m).1 with z | z
          · exact i4 k z a ha h
          · obtain rfl : k = (ln s m).1 - 1 := by omega
            obtain ⟨_, h2⟩ := i5 hsome (i7 (by omega))
            have h3 := s2 (m - 1) m a _ (by omega) ha h2 h
            rw [e] at h3
            exact c ⟨by omega, (Option.some.inj h3).symm⟩
        have dist : ∀ i j', i < j' → j' < (ln s m).1 + 1 → up (ln s m).2.1 (ln s m).1 j i ≠ up (ln s m).2.1 (ln s m).1 j j' := by
          intro i j' h1 h2
          rw [up_ne (show i ≠ (ln s m).1 by omega)]
          rcases Nat.lt_or_ge j' (ln s m).1 with z | z
          · rw [up_ne (by omega)]
            exact i3 i j' h1 z
          · obtain rfl : j' = (ln s m).1 := by omega
            rw [up_eq]
            intro h
            exact old i (by omega) m (Nat.le_refl _) (by rw [e, h])
        have hlt : ∀ k, k < (ln s m).1 + 1 → up (ln s m).2.1 (ln s m).1 j k < 6 := by
          intro k hk
          rw [up_at]
          split
          · exact s3 m j e
          · exact i2 k (by omega)
        refine ⟨fb_holes 6 _ _ hlt dist, hlt, dist, fun k hk a ha => ?_, fun _ _ => ⟨Nat.succ_pos _, ?_⟩, fun k hk => ?_, fun _ => Nat.succ_pos m⟩
        · show s a ≠ some (up _ _ _ k)
          have hk' : k < (ln s m).1 := Nat.lt_of_succ_lt_succ hk
          rw [up_ne (by omega)]
          exact old k hk' a (by omega)
        · show s m = some (up _ _ _ ((ln s m).1 + 1 - 1))
          rw [show (ln s m).1 + 1 - 1 = (ln s m).1 by omega, up_eq, e]
        · show up _ _ _ k ≤ m + 1
          rw [up_at]
          split
          · omega
          · have hk' : k < (ln s m).1 + 1 := hk
            have := i6 k (by omega)
            omega
theorem ln_keep (s : Nat → Option Nat) (m : Nat) : ∀ d, (ln s m).1 ≤ (ln s (m + d)).1 ∧ (∀ k, k < (ln s m).1 → (ln s (m + d)).2.1 k = (ln s m).2.1 k) ∧ ∀ k, k + 1 < (ln s m).1 → (ln s (m + d)).2.2 k = (ln s m).2.2 k
  | 0 => ⟨Nat.le_refl _, fun _ _ => rfl, fun _ _ => rfl⟩
  | d + 1 => by
    obtain ⟨h1, h2, h3⟩ := ln_keep s m d
    cases e : s (m + d) with
    | none => rw [show m + (d + 1) = m + d + 1 from rfl, ln_n e]; exact ⟨h1, h2, h3⟩
    | some j =>
      by_cases c : 0 < (ln s (m + d)).1 ∧ (ln s (m + d)).2.1 ((ln s (m + d)).1 - 1) = j
      · rw [show m + (d + 1) = m + d + 1 from rfl, ln_s e c.1 c.2]
        refine ⟨h1, h2, fun k hk => ?_⟩
        show up _ _ _ k = _
        rw [up_ne (by omega)]
        exact h3 k hk
      · rw [show m + (d + 1) = m + d + 1 from rfl, ln_w e c]
        refine ⟨Nat.le_succ_of_le h1, fun k hk => ?_, fun k hk => ?_⟩
        · show up _ _ _ k = _
          rw [up_ne (by omega)]
          exact h2 k hk
        · show up _ _ _ k = _
          rw [up_ne (by omega)]
          exact h3 k hk
theorem ln_end {s : Nat → Option Nat} (hs : SS s) {m : Nat} (e : s m = none) : ∀ d, ln s (m + d) = ln s m
  | 0 => rfl
  | d + 1 => by
    rw [show m + (d + 1) = m + d + 1 from rfl, ln_n (hs.1 m (m + d) (by omega) e)]
    exact ln_end hs e d
theorem so_SS {t : Nat → Nat} (hV : VV t) : SS (so t) := ⟨fun a b h => so_nn h, fun a b c j h1 h2 => so_back h1 h2, fun a j h => (so_lt hV h).2⟩
