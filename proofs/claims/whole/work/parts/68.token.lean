/-! The tokens of the text. -/
def rnE (P : Nat → Bool) : Nat → Nat → Nat
  | 0, p => p
  | d + 1, p => if P p then rnE P d (p + 1) else p
theorem rnE_succ (P : Nat → Bool) (d p : Nat) : rnE P (d + 1) p = if P p then rnE P d (p + 1) else p := rfl
theorem rnE_ok (P : Nat → Bool) : ∀ d p, p ≤ rnE P d p ∧ rnE P d p ≤ p + d ∧ (∀ i, p ≤ i → i < rnE P d p → P i = true) ∧ (rnE P d p < p + d → P (rnE P d p) = false)
  | 0, p => ⟨Nat.le_refl _, Nat.le_refl _, fun i h1 h2 => absurd (Nat.lt_of_le_of_lt h1 h2) (Nat.lt_irrefl _), fun h => absurd h (Nat.lt_irrefl _)⟩
  | d + 1, p => by
    obtain ⟨h1, h2, h3, h4⟩ := rnE_ok P d (p + 1)
    rw [rnE_succ]
    split
    · next a =>
      refine ⟨by omega, by omega, fun i i1 i2 => ?_, fun z => h4 (by omega)⟩
      by_cases z : i = p
      · rw [z]; exact a
      · exact h3 i (by omega) i2
    · next a =>
      exact ⟨Nat.le_refl _, by omega, fun i i1 i2 => absurd (Nat.lt_of_le_of_lt i1 i2) (Nat.lt_irrefl _), fun _ => by simpa using a⟩
def inR (lo hi c : Nat) : Bool := decide (lo ≤ c) && decide (c ≤ hi)
theorem inR_t {lo hi c : Nat} : inR lo hi c = true ↔ lo ≤ c ∧ c ≤ hi := by
  unfold inR
  rw [Bool.and_eq_true, decide_eq_true_eq, decide_eq_true_eq]
theorem inR_f {lo hi c : Nat} : inR lo hi c = false ↔ ¬ (lo ≤ c ∧ c ≤ hi) := by
  rw [← inR_t]
  cases inR lo hi c <;> simp
/-- the end of a run -/
def rnR (b : Nat → Nat) (n lo hi p : Nat) : Nat := rnE (fun i => inR lo hi (b i)) (n - p) p
theorem rnR_ok (b : Nat → Nat) {n lo hi p : Nat} (hp : p ≤ n) : p ≤ rnR b n lo hi p ∧ rnR b n lo hi p ≤ n ∧ (∀ i, p ≤ i → i < rnR b n lo hi p → lo ≤ b i ∧ b i ≤ hi) ∧ (rnR b n lo hi p < n → ¬ (lo ≤ b (rnR b n lo hi p) ∧ b (rnR b n lo hi p) ≤ hi)) := by
  obtain ⟨h1, h2, h3, h4⟩ := rnE_ok (fun i => inR lo hi (b i)) (n - p) p
  exact ⟨h1, by show rnE _ _ _ ≤ n; omega, fun i i1 i2 => inR_t.mp (h3 i i1 i2), fun z => inR_f.mp (h4 (by show rnE _ _ _ < p + (n - p); have z' : rnE (fun i => inR lo hi (b i)) (n - p) p < n := z; omega))⟩
theorem rnR_pos {b : Nat → Nat} {n lo hi p : Nat} (hp : p < n) (h : lo ≤ b p ∧ b p ≤ hi) : p < rnR b n lo hi p := by
  obtain ⟨h1, h2, h3, h4⟩ := rnR_ok b (lo := lo) (hi := hi) (Nat.le_of_lt hp)
  rcases Nat.lt_or_ge p (rnR b n lo hi p) with z | z
  · exact z
  · have e : rnR b n lo hi p = p := by omega
    rw [e] at h4
    exact absurd h (h4 hp)
theorem rnR_no {b : Nat → Nat} {n lo hi p : Nat} (hp : p ≤ n) (h : p < n → ¬ (lo ≤ b p ∧ b p ≤ hi)) : rnR b n lo hi p = p := by
  obtain ⟨h1, h2, h3, h4⟩ := rnR_ok b (lo := lo) (hi := hi) hp
  rcases Nat.lt_or_ge p (rnR b n lo hi p) with z | z
  · exact absurd (h3 p (Nat.le_refl _) z) (h (by omega))
  · omega
/-- the text: n bytes -/
def TX (n : Nat) (b : Nat → Nat) (bytes : Nat → Int32) : Prop := n ≤ 150 ∧ ∀ k, k < n → bytes k = nI (b k) ∧ b k < 128
theorem s_run9 {n : Nat} {b : Nat → Nat} {bytes : Nat → Int32} (hT : TX n b bytes) {lo hi p : Nat} (hlo : lo < 128) (hhi : hi < 128) (hp : p ≤ n) {Post : Int32 → Int32 → Prop} (hpost : Post (nI (rnR b n lo hi p - p)) (nI (rnR b n lo hi p))) : wp_X2_takeRun (nI n) bytes (nI p) (nI lo) (nI hi) Post := by
  obtain ⟨hn, hb⟩ := hT
  obtain ⟨r1, r2, _, _⟩ := rnR_ok b (lo := lo) (hi := hi) hp
  have go : ∀ d q, q + d = n → rnE (fun i => inR lo hi (b i)) d q = rnR b n lo hi p → wp_X2_takeRun_L5 (nI n) bytes Post (fun (v3_6 : Int32) (behind_7 : Int32) => (wp_X2_takeRun_J55 (nI n) bytes Post v3_6 behind_7)) (d + 1) (nI lo) (nI hi) (nI p) (nI q) := by
    intro d
    have fin : ∀ q, q = rnR b n lo hi p → wp_X2_takeRun_J55 (nI n) bytes Post (nI p) (nI q) := by
      intro q e
      subst e
      unfold wp_X2_takeRun_J55
      rw [pk_sub r1]
      exact hpost
    induction d with
    | zero =>
      intro q e er
      obtain rfl : q = n := by omega
      exact ⟨fun _ => fin q er, fun z => absurd (nI_le (Nat.le_refl _) (by omega)) z⟩
    | succ d ih =>
      intro q e er
      obtain ⟨b1, b2⟩ := hb q (by omega)
      rw [rnE_succ] at er
      refine ⟨fun z => absurd z (nI_ge (by omega) (by omega)), fun _ => ⟨vp_in_nI (by omega) (by omega), ?_⟩⟩
      rw [nI_clamp (by omega), b1]
      refine pk_lt (b q) lo (fun z => fin q ?_) (fun z => pk_lt hi (b q) (fun y => fin q ?_) (fun y x ex => ?_))
      · rw [if_neg (by rw [inR_t]; omega)] at er
        exact er
      · rw [if_neg (by rw [inR_t]; omega)] at er
        exact er
      · rw [if_pos (inR_t.mpr ⟨z, y⟩)] at er
        rw [ex, nI_1]
        exact ih (q + 1) (by omega) er
  exact ⟨n - p + 1, go (n - p) p (by omega) rfl⟩
/-- a token looked for from p on: where it is, where it ends, what it is, its value -/
def tqN (b : Nat → Nat) (n p : Nat) : Nat := rnR b n 32 32 p
def teN (b : Nat → Nat) (n p : Nat) : Nat := if tqN b n p < n then (if inR 97 122 (b (tqN b n p)) then rnR b n 97 122 (tqN b n p) else if inR 48 57 (b (tqN b n p)) then rnR b n 48 57 (tqN b n p) else tqN b n p + 1) else tqN b n p
def tkN (b : Nat → Nat) (n p : Nat) : Nat := if tqN b n p < n then (if inR 97 122 (b (tqN b n p)) then 1 else if inR 48 57 (b (tqN b n p)) then (if teN b n p - tqN b n p ≤ 2 then 2 else 4) else if b (tqN b n p) = 59 then 3 else 4) else 0
def tvN (b : Nat → Nat) (n p : Nat) : Nat := if teN b n p - tqN b n p ≤ 1 then b (tqN b n p) - 48 else 10 * (b (tqN b n p) - 48) + (b (tqN b n p + 1) - 48)
theorem t_ok (b : Nat → Nat) {n p : Nat} (hp : p ≤ n) : p ≤ tqN b n p ∧ tqN b n p ≤ n ∧ tqN b n p ≤ teN b n p ∧ teN b n p ≤ n ∧ (tkN b n p ≠ 0 → p < teN b n p) ∧ tkN b n p ≤ 4 := by
  obtain ⟨h1, h2, h3, h4⟩ := rnR_ok b (lo := 32) (hi := 32) hp
  have h1' : p ≤ tqN b n p := h1
  have h2' : tqN b n p ≤ n := h2
  refine ⟨h1', h2', ?_⟩
  unfold teN tkN
  by_cases z : tqN b n p < n
  · rw [if_pos z, if_pos z]
    cases a1 : inR 97 122 (b (tqN b n p)) with
    | true =>
      obtain ⟨g1, g2, _, _⟩ := rnR_ok b (lo := 97) (hi := 122) h2'
      have g3 := rnR_pos z (inR_t.mp a1)
      simp only [if_true]
      refine ⟨by omega, by omega, fun _ => by omega, by omega⟩
    | false =>
      simp only [Bool.false_eq_true, if_false]
      cases a2 : inR 48 57 (b (tqN b n p)) with
      | true =>
        obtain ⟨g1, g2, _, _⟩ := rnR_ok b (lo := 48) (hi := 57) h2'
        have g3 := rnR_pos z (inR_t.mp a2)
        simp only [if_true]
        refine ⟨by omega, by omega, fun _ => by omega, by split <;> omega⟩
      | false =>
        simp only [Bool.false_eq_true, if_false]
        refine ⟨by omega, by omega, fun _ => by omega, by split <;> omega⟩
  · rw [if_neg z, if_neg z]
    exact ⟨Nat.le_refl _, h2', fun w => absurd rfl w, by omega⟩
theorem s_adv9 {n : Nat} {b : Nat → Nat} {bytes : Nat → Int32} (hT : TX n b bytes) {p : Nat} (hp : p ≤ n) {token start value : Int32} {Post : Int32 → Int32 → Int32 → Int32 → Prop} (hpost : ∀ v, (tkN b n p = 2 → v = nI (tvN b n p)) → Post (nI (tkN b n p)) (nI (tqN b n p)) (nI (teN b n p)) v) : wp_X2_advance (nI n) bytes token start (nI p) value Post := by
  obtain ⟨hn, hb⟩ := id hT
  obtain ⟨q1, q2, q3, q4⟩ := rnR_ok b (lo := 32) (hi := 32) hp
  unfold wp_X2_advance
  refine s_run9 (lo := 32) (hi := 32) hT (by omega) (by omega) hp ?_
  have eq : rnR b n 32 32 p = tqN b n p := rfl
  rw [eq] at q1 q2 ⊢
  refine s_run9 (lo := 97) (hi := 122) hT (by omega) (by omega) q2 ?_
  obtain ⟨e1, e2, e3, e4⟩ := rnR_ok b (lo := 97) (hi := 122) q2
  by_cases z : tqN b n p < n
  · obtain ⟨bq1, bq2⟩ := hb _ z
    cases a1 : inR 97 122 (b (tqN b n p)) with
    | true =>
      have g3 := rnR_pos z (inR_t.mp a1)
      refine ⟨fun w => absurd w (nI_nle (by omega) (by omega)), fun _ => ?_⟩
      have ek : tkN b n p = 1 := by unfold tkN; rw [if_pos z, if_pos a1]
      have ee : teN b n p = rnR b n 97 122 (tqN b n p) := by unfold teN; rw [if_pos z, if_pos a1]
      have := hpost value (fun w => by rw [ek] at w; cases w)
      rw [ek, ee] at this
      exact this
    | false =>
      have r0 : rnR b n 97 122 (tqN b n p) = tqN b n p := rnR_no q2 (fun _ => inR_f.mp a1)
      rw [r0, Nat.sub_self]
      refine ⟨fun _ => ?_, fun w => absurd (by decide) w⟩
      refine s_run9 (lo := 48) (hi := 57) hT (by omega) (by omega) q2 ?_
      obtain ⟨f1, f2, f3, f4⟩ := rnR_ok b (lo := 48) (hi := 57) q2
      cases a2 : inR 48 57 (b (tqN b n p)) with
      | true =>
        have g3 := rnR_pos z (inR_t.mp a2)
        have ee : teN b n p = rnR b n 48 57 (tqN b n p) := by unfold teN; rw [if_pos z, if_neg (by rw [a1]; decide), if_pos a2]
        have ek : tkN b n p = if teN b n p - tqN b n p ≤ 2 then 2 else 4 := by unfold tkN; rw [if_pos z, if_neg (by rw [a1]; decide), if_pos a2]
        rw [← ee] at f1 f2 f3 g3 ⊢
        have dig := f3 (tqN b n p) (Nat.le_refl _) g3
        have dig2 := f3 (teN b n p - 1) (by omega) (by omega)
        obtain ⟨be1, be2⟩ := hb (teN b n p - 1) (by omega)
        have esub : nI (teN b n p) - nI (tqN b n p) = nI (teN b n p - tqN b n p) := pk_sub (by omega)
        have esub1 : nI (teN b n p) - 1 = nI (teN b n p - 1) := pk_sub (a := teN b n p) (b := 1) (by omega)
        have s48 : ∀ c, 48 ≤ c → nI c - 48 = nI (c - 48) := fun c hc => pk_sub (a := c) (b := 48) hc
        have j66 : ∀ k : Nat, k = tkN b n p → (k = 2 → teN b n p - tqN b n p ≤ 2) → wp_X2_advance_J66 (nI n) bytes Post (nI k) token (nI (tqN b n p)) (nI (teN b n p)) value := by
          intro k hk hk2
          unfold wp_X2_advance_J66
          rw [esub, esub1, nI_clamp (by omega), be1, s48 _ dig2.1]
          refine ⟨vp_in_nI (by omega) (by omega), fun x ex => pk_le (teN b n p - tqN b n p) 1 (fun y => ?_) (fun y => ⟨vp_in_nI (by omega) (by omega), fun x2 ex2 => ?_⟩)⟩
          · rw [hk]
            refine hpost x (fun _ => ?_)
            unfold tvN
            rw [if_pos y, ex, show teN b n p - 1 = tqN b n p by omega]
          · rw [hk]
            refine hpost x2 (fun w => ?_)
            rw [← hk] at w
            have := hk2 w
            unfold tvN
            rw [if_neg (by omega), ex2, ex, nI_clamp (by omega), bq1, s48 _ dig.1, show (10 : Int32) = nI 10 from rfl, pk_mul, nI_add, show teN b n p - 1 = tqN b n p + 1 by omega]
            congr 1
            omega
        refine ⟨fun w => absurd w (nI_nle (by omega) (by omega)), fun _ => ?_⟩
        rw [esub]
        refine pk_lt 2 (teN b n p - tqN b n p) (fun y => j66 4 ?_ (fun w => by cases w)) (fun y => j66 2 ?_ (fun _ => y))
        · rw [ek, if_neg (by omega)]
        · rw [ek, if_pos y]
      | false =>
        have r1 : rnR b n 48 57 (tqN b n p) = tqN b n p := rnR_no q2 (fun _ => inR_f.mp a2)
        have ee : teN b n p = tqN b n p + 1 := by unfold teN; rw [if_pos z, if_neg (by rw [a1]; decide), if_neg (by rw [a2]; decide)]
        have ek : tkN b n p = if b (tqN b n p) = 59 then 3 else 4 := by unfold tkN; rw [if_pos z, if_neg (by rw [a1]; decide), if_neg (by rw [a2]; decide)]
        rw [r1, Nat.sub_self]
        refine ⟨fun _ => pk_lt (tqN b n p) n (fun _ => ⟨vp_in_nI (by omega) (by omega), ?_⟩) (fun w => absurd z (by omega)), fun w => absurd (by decide) w⟩
        rw [nI_clamp (by omega), bq1]
        have hpost2 := hpost value (fun w => by rw [ek] at w; split at w <;> cases w)
        rw [ee, ek] at hpost2
        refine pk_eq (b (tqN b n p)) 59 (fun y x ex => ?_) (fun y x ex => ?_)
        · rw [if_pos y] at hpost2
          rw [ex, nI_1]
          exact hpost2
        · rw [if_neg y] at hpost2
          rw [ex, nI_1]
          exact hpost2
  · have r0 : rnR b n 97 122 (tqN b n p) = tqN b n p := rnR_no q2 (fun w => absurd w z)
    have r1 : rnR b n 48 57 (tqN b n p) = tqN b n p := rnR_no q2 (fun w => absurd w z)
    have ee : teN b n p = tqN b n p := by unfold teN; rw [if_neg z]
    have ek : tkN b n p = 0 := by unfold tkN; rw [if_neg z]
    rw [r0, Nat.sub_self]
    refine ⟨fun _ => s_run9 (lo := 48) (hi := 57) hT (by omega) (by omega) q2 ?_, fun w => absurd (by decide) w⟩
    rw [r1, Nat.sub_self]
    have hpost2 := hpost value (fun w => by rw [ek] at w; cases w)
    rw [ee, ek] at hpost2
    exact ⟨fun _ => pk_lt (tqN b n p) n (fun w => absurd w z) (fun _ => hpost2), fun w => absurd (by decide) w⟩
