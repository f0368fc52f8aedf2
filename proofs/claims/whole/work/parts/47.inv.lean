/-! What holds between the calls. t: the reference's row of 190 numbers. -/
def CR (t : Nat → Nat) (infants retired month notes sounds pasts : Int32) (kind months home nurse skills noteRow soundRow pastRow : Nat → Int32) : Prop :=
  (infants = nI (t 0) ∧ retired = nI (t 10) ∧ month = nI (t 17) ∧ notes = nI (t 1) ∧ sounds = nI (t 2) ∧ pasts = nI (t 3)) ∧
  (∀ i, i < t 0 → kind i = nI (t (24 + i)) ∧ months i = nI (t (4 + i)) ∧ home i = nI (t (30 + i)) ∧ nurse i = nI (t (11 + i))) ∧
  (∀ j, j < 6 → skills j = nI (t (18 + j))) ∧ (∀ k, k < 5 * t 1 → noteRow k = nI (t (36 + k))) ∧ (∀ k, k < 2 * t 2 → soundRow k = nI (t (66 + k))) ∧
  ∀ p, p < t 3 → pastRow (14 * p) = nI (t (78 + 14 * p + 13)) ∧ pastRow (14 * p + 1) = nI (t (78 + 14 * p + 6)) ∧ ∀ i, i < t 0 → pastRow (14 * p + 2 + i) = nI (t (78 + 14 * p + i)) ∧ pastRow (14 * p + 8 + i) = nI (t (78 + 14 * p + 7 + i))
def VV (t : Nat → Nat) : Prop :=
  (t 0 ≤ 6 ∧ t 1 ≤ 6 ∧ t 2 ≤ 6 ∧ t 3 ≤ 8 ∧ t 10 < 64 ∧ t 17 ≤ 999) ∧
  (∀ i, i < t 0 → t (24 + i) < 6 ∧ t (4 + i) ≤ 36 ∧ ((t 10).testBit i = false → t (4 + i) ≤ 35) ∧ t (30 + i) < 6 ∧ t (11 + i) < 6) ∧
  (∀ j, j < 6 → t (18 + j) ≤ 9) ∧ (∀ k, k < t 1 → t (36 + 5 * k) < t 0 ∧ t (36 + 5 * k + 1) ≤ 35 ∧ t (36 + 5 * k + 2) < 24 ∧ t (36 + 5 * k + 3) ≤ 1 ∧ t (36 + 5 * k + 4) ≤ 20) ∧
  (∀ k, k < t 2 → t (66 + 2 * k) < t 0 ∧ t (66 + 2 * k + 1) ≤ 1) ∧
  ∀ p, p < t 3 → t (78 + 14 * p + 13) ≤ 999 ∧ t (78 + 14 * p + 6) < 64 ∧ ∀ i, i < t 0 → t (78 + 14 * p + i) ≤ 36 ∧ ((t (78 + 14 * p + 6)).testBit i = false → t (78 + 14 * p + i) ≤ 35) ∧ t (78 + 14 * p + 7 + i) < 6
/-- how many were refused -/
def SR (badCalls noCalls fullCalls : Int32) (refused : Nat → Int32) : Prop := badCalls = refused 0 ∧ noCalls = refused 1 ∧ fullCalls = refused 2
/-- the text -/
def TR (length : Int32) (bytes : Nat → Int32) (mlen : Int32) (mbytes : Nat → Int32) : Prop := ∃ n : Nat, n ≤ 150 ∧ length = nI n ∧ mlen = nI n ∧ ∀ k, k < n → ∃ c : Nat, c < 128 ∧ bytes k = nI c ∧ mbytes k = nI c
theorem SR_bad {b n f : Int32} {r r' : Nat → Int32} {x y : Int32} (h : SR b n f r) (hx : x = b + 1) (hy : y = r 0 + 1) (hr : r' = upd r 0 y) : SR x n f r' := by
  obtain ⟨h1, h2, h3⟩ := h
  subst hr hx hy
  exact ⟨by rw [h1]; rfl, h2, h3⟩
theorem SR_no {b n f : Int32} {r r' : Nat → Int32} {x y : Int32} (h : SR b n f r) (hx : x = n + 1) (hy : y = r 1 + 1) (hr : r' = upd r 1 y) : SR b x f r' := by
  obtain ⟨h1, h2, h3⟩ := h
  subst hr hx hy
  exact ⟨h1, by rw [h2]; rfl, h3⟩
theorem SR_full {b n f : Int32} {r r' : Nat → Int32} {x y : Int32} (h : SR b n f r) (hx : x = f + 1) (hy : y = r 2 + 1) (hr : r' = upd r 2 y) : SR b n x r' := by
  obtain ⟨h1, h2, h3⟩ := h
  subst hr hx hy
  exact ⟨h1, h2, by rw [h3]; rfl⟩
/-- a number from 0 to m -/
def inB (x : Int32) (m : Nat) : Bool := decide (0 ≤ x.toInt) && decide (x.toInt ≤ m)
theorem inB_t {x : Int32} {m : Nat} (h : inB x m = true) : ∃ j : Nat, j ≤ m ∧ x = nI j := by
  unfold inB at h
  rw [Bool.and_eq_true, decide_eq_true_eq, decide_eq_true_eq] at h
  obtain ⟨j, hj, rfl⟩ := nI_of (x := x) (by rw [fa_lt]; have : (0 : Int32).toInt = 0 := rfl; omega)
  rw [nI_toInt hj] at h
  exact ⟨j, by omega, rfl⟩
theorem inB_n {j m : Nat} (hj : j ≤ m) (hm : m < 2 ^ 31) : inB (nI j) m = true := by
  unfold inB
  rw [nI_toInt (by omega), Bool.and_eq_true, decide_eq_true_eq, decide_eq_true_eq]
  omega
theorem s_within {x y : Int32} {m : Nat} (hy : y = nI m) (hm : m < 2 ^ 31) {Post : Int32 → Prop} (hp : Post (bI (inB x m))) : wp_X9_within x y Post := by
  unfold wp_X9_within
  rw [hy, fa_lt, fa_lt, nI_toInt hm, show (0 : Int32).toInt = 0 from rfl]
  unfold inB at hp
  by_cases a : x.toInt < 0
  · rw [show (decide (0 ≤ x.toInt) && decide (x.toInt ≤ (m : Int))) = false by simp; omega] at hp
    exact ⟨fun _ => hp, fun q => absurd a q⟩
  · by_cases b : (m : Int) < x.toInt
    · rw [show (decide (0 ≤ x.toInt) && decide (x.toInt ≤ (m : Int))) = false by simp; omega] at hp
      exact ⟨fun q => absurd q a, fun _ => ⟨fun _ => hp, fun q => absurd b q⟩⟩
    · rw [show (decide (0 ≤ x.toInt) && decide (x.toInt ≤ (m : Int))) = true by simp; omega] at hp
      exact ⟨fun q => absurd q a, fun _ => ⟨fun q => absurd q b, fun _ => hp⟩⟩
theorem s_in0 {x : Int32} {y : Int64} {m : Nat} (hy : y = lN m) (hm : m < 2 ^ 31) {Post : Int32 → Prop} (hp : Post (bI (inB x m))) : wp_X10_in x.toInt64 0 y Post := by
  refine s_in ?_
  have e1 : ((0 : Int64) ≤ x.toInt64 ↔ 0 ≤ x.toInt) := by
    rw [fa_le64, Int32.toInt_toInt64]
    exact Iff.rfl
  have e2 : (x.toInt64 ≤ y ↔ x.toInt ≤ (m : Int)) := by
    rw [hy, fa_le64, Int32.toInt_toInt64, lN_toInt hm]
  simp only [e1, e2]
  exact hp
