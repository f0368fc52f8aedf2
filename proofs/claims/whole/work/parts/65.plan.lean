/-! Which nurse for whom: numbers alone. -/
/-- a code of k digits, the lowest first: who is used, what is cried -/
def cbN (out : Nat → Bool) (day : Nat → Nat → Nat) : Nat → Nat → Nat → Nat → Nat → Option (Nat × Nat)
  | 0, _, _, w, s => some (w, s)
  | k + 1, lo, c, w, s => if out (lo + k) then (if c % 6 = 0 then cbN out day k lo (c / 6) w s else none) else if w.testBit (c % 6) then none else cbN out day k lo (c / 6) (w ||| 2 ^ (c % 6)) (s + day (lo + k) (c % 6))
theorem cb_succ (out : Nat → Bool) (day : Nat → Nat → Nat) (k lo c w s : Nat) : cbN out day (k + 1) lo c w s = if out (lo + k) then (if c % 6 = 0 then cbN out day k lo (c / 6) w s else none) else if w.testBit (c % 6) then none else cbN out day k lo (c / 6) (w ||| 2 ^ (c % 6)) (s + day (lo + k) (c % 6)) := rfl
/-- the same, the highest first -/
theorem cb_top (out : Nat → Bool) (day : Nat → Nat → Nat) : ∀ (k lo d c w s : Nat), d < 6 → c < 6 ^ k → cbN out day (k + 1) lo (d * 6 ^ k + c) w s = if out lo then (if d = 0 then cbN out day k (lo + 1) c w s else none) else if w.testBit d then none else cbN out day k (lo + 1) c (w ||| 2 ^ d) (s + day lo d)
  | 0, lo, d, c, w, s, hd, hc => by
    have hc0 : c = 0 := by
      rw [Nat.pow_zero] at hc
      omega
    subst hc0
    rw [cb_succ, Nat.pow_zero, Nat.mul_one, Nat.add_zero, Nat.add_zero, Nat.mod_eq_of_lt hd]
    rfl
  | k + 1, lo, d, c, w, s, hd, hc => by
    have hp : 6 ^ (k + 1) = 6 * 6 ^ k := by rw [Nat.pow_succ, Nat.mul_comm]
    have e1 : (d * 6 ^ (k + 1) + c) % 6 = c % 6 := by
      rw [hp, show d * (6 * 6 ^ k) = 6 * (d * 6 ^ k) by rw [Nat.mul_left_comm], Nat.mul_add_mod]
    have e2 : (d * 6 ^ (k + 1) + c) / 6 = d * 6 ^ k + c / 6 := by
      rw [hp, show d * (6 * 6 ^ k) = 6 * (d * 6 ^ k) by rw [Nat.mul_left_comm], Nat.mul_add_div (by omega)]
    have hc6 : c / 6 < 6 ^ k := by
      rw [hp] at hc
      omega
    rw [cb_succ, e1, e2, cb_top out day k lo d (c / 6) w s hd hc6, cb_top out day k lo d (c / 6) (w ||| 2 ^ (c % 6)) (s + day (lo + (k + 1)) (c % 6)) hd hc6, cb_succ out day k (lo + 1) c w s, cb_succ out day k (lo + 1) c (w ||| 2 ^ d) (s + day lo d), show lo + 1 + k = lo + (k + 1) by omega, fb_bit_set, fb_bit_set]
    have eor : w ||| 2 ^ (c % 6) ||| 2 ^ d = w ||| 2 ^ d ||| 2 ^ (c % 6) := by rw [Nat.or_assoc, Nat.or_comm (2 ^ (c % 6)), ← Nat.or_assoc]
    have esum : s + day (lo + (k + 1)) (c % 6) + day lo d = s + day lo d + day (lo + (k + 1)) (c % 6) := by omega
    rw [eor, esum]
    cases out (lo + (k + 1)) <;> cases out lo <;> by_cases z0 : c % 6 = 0 <;> by_cases z1 : d = 0 <;> by_cases z2 : w.testBit (c % 6) = true <;> by_cases z3 : w.testBit d = true <;> by_cases z4 : d = c % 6 <;> simp_all <;> (intro h9; exfalso; omega)
theorem cb_add (out : Nat → Bool) (day : Nat → Nat → Nat) (x : Nat) : ∀ (k lo c w s w2 v : Nat), cbN out day k lo c w (s + x) = some (w2, v) → ∃ v', v = v' + x ∧ cbN out day k lo c w s = some (w2, v')
  | 0, lo, c, w, s, w2, v, h => by
    have h1 : (w, s + x) = (w2, v) := Option.some.inj h
    refine ⟨s, (Prod.mk.inj h1).2.symm, ?_⟩
    rw [← (Prod.mk.inj h1).1]
    rfl
  | k + 1, lo, c, w, s, w2, v, h => by
    rw [cb_succ] at h
    rw [cb_succ]
    split at h
    · next a =>
      rw [if_pos a]
      split at h
      · next b =>
        rw [if_pos b]
        exact cb_add out day x k lo _ _ _ _ _ h
      · cases h
    · next a =>
      rw [if_neg a]
      split at h
      · cases h
      · next b =>
        rw [if_neg b]
        rw [Nat.add_right_comm] at h
        exact cb_add out day x k lo _ _ _ _ _ h
theorem cb_add2 (out : Nat → Bool) (day : Nat → Nat → Nat) (x : Nat) : ∀ (k lo c w s w2 v : Nat), cbN out day k lo c w s = some (w2, v) → cbN out day k lo c w (s + x) = some (w2, v + x)
  | 0, lo, c, w, s, w2, v, h => by
    have h1 : (w, s) = (w2, v) := Option.some.inj h
    rw [← (Prod.mk.inj h1).1, ← (Prod.mk.inj h1).2]
    rfl
  | k + 1, lo, c, w, s, w2, v, h => by
    rw [cb_succ] at h
    rw [cb_succ]
    split at h
    · next a =>
      rw [if_pos a]
      split at h
      · next b =>
        rw [if_pos b]
        exact cb_add2 out day x k lo _ _ _ _ _ h
      · cases h
    · next a =>
      rw [if_neg a]
      split at h
      · cases h
      · next b =>
        rw [if_neg b, Nat.add_right_comm]
        exact cb_add2 out day x k lo _ _ _ _ _ h
/-- the first of the free with the least -/
def fbN (f : Nat → Nat) (u : Nat) : Nat → Nat × Nat
  | 0 => (0, 1000000)
  | n + 1 => if u.testBit n then fbN f u n else if f n < (fbN f u n).2 then (n, f n) else fbN f u n
theorem fbN_succ (f : Nat → Nat) (u n : Nat) : fbN f u (n + 1) = if u.testBit n then fbN f u n else if f n < (fbN f u n).2 then (n, f n) else fbN f u n := rfl
theorem fbN_ok {f : Nat → Nat} {u : Nat} : ∀ n, (∀ d, d < n → u.testBit d = false → (fbN f u n).2 ≤ f d ∧ (d < (fbN f u n).1 → (fbN f u n).2 < f d)) ∧ (((fbN f u n).1 < n ∧ u.testBit (fbN f u n).1 = false ∧ (fbN f u n).2 = f (fbN f u n).1 ∧ (fbN f u n).2 < 1000000) ∨ fbN f u n = (0, 1000000))
  | 0 => ⟨fun d h => absurd h (Nat.not_lt_zero d), Or.inr rfl⟩
  | n + 1 => by
    obtain ⟨h1, h2⟩ := fbN_ok (f := f) (u := u) n
    rw [fbN_succ]
    cases hu : u.testBit n with
    | true =>
      simp only [if_true]
      refine ⟨fun d hd hf => ?_, ?_⟩
      · rcases Nat.lt_or_ge d n with z | z
        · exact h1 d z hf
        · obtain rfl : d = n := by omega
          rw [hu] at hf
          cases hf
      · rcases h2 with ⟨a, b, c, e⟩ | h2
        · exact Or.inl ⟨by omega, b, c, e⟩
        · exact Or.inr h2
    | false =>
      simp only [Bool.false_eq_true, if_false]
      by_cases q : f n < (fbN f u n).2
      · rw [if_pos q]
        refine ⟨fun d hd hf => ?_, Or.inl ⟨Nat.lt_succ_self n, hu, rfl, ?_⟩⟩
        · rcases Nat.lt_or_ge d n with z | z
          · have := (h1 d z hf).1
            show f n ≤ f d ∧ (d < n → f n < f d)
            omega
          · obtain rfl : d = n := by omega
            exact ⟨Nat.le_refl _, fun w => absurd w (Nat.lt_irrefl _)⟩
        · show f n < 1000000
          rcases h2 with ⟨a, b, c, e⟩ | h2
          · omega
          · rw [h2] at q
            exact q
      · rw [if_neg q]
        refine ⟨fun d hd hf => ?_, ?_⟩
        · rcases Nat.lt_or_ge d n with z | z
          · exact h1 d z hf
          · obtain rfl : d = n := by omega
            refine ⟨by omega, fun w => ?_⟩
            rcases h2 with ⟨a, b, c, e⟩ | h2
            · omega
            · rw [h2] at w
              exact absurd w (Nat.not_lt_zero _)
        · rcases h2 with ⟨a, b, c, e⟩ | h2
          · exact Or.inl ⟨by omega, b, c, e⟩
          · exact Or.inr h2
theorem fbN_free {f : Nat → Nat} {u d : Nat} (hd : d < 6) (hu : u.testBit d = false) (hf : f d < 1000000) : (fbN f u 6).1 < 6 ∧ u.testBit (fbN f u 6).1 = false ∧ (fbN f u 6).2 = f (fbN f u 6).1 ∧ (∀ e, e < 6 → u.testBit e = false → f (fbN f u 6).1 ≤ f e ∧ (e < (fbN f u 6).1 → f (fbN f u 6).1 < f e)) := by
  obtain ⟨h1, h2⟩ := fbN_ok (f := f) (u := u) 6
  rcases h2 with ⟨a, b, c, e⟩ | h2
  · refine ⟨a, b, c, fun e he hue => ?_⟩
    rw [← c]
    exact h1 e he hue
  · have := (h1 d hd hu).1
    rw [h2] at this
    exact absurd this (by show ¬ 1000000 ≤ f d; omega)
/-- the least, and the code of the first way to it -/
def opN (out : Nat → Bool) (day : Nat → Nat → Nat) : Nat → Nat → Nat → Nat × Nat
  | 0, _, _ => (0, 0)
  | k + 1, lo, u => if out lo then opN out day k (lo + 1) u else ((fbN (fun n => day lo n + (opN out day k (lo + 1) (u ||| 2 ^ n)).1) u 6).2, (fbN (fun n => day lo n + (opN out day k (lo + 1) (u ||| 2 ^ n)).1) u 6).1 * 6 ^ k + (opN out day k (lo + 1) (u ||| 2 ^ (fbN (fun n => day lo n + (opN out day k (lo + 1) (u ||| 2 ^ n)).1) u 6).1)).2)
def opF (out : Nat → Bool) (day : Nat → Nat → Nat) (k lo u : Nat) : Nat → Nat := fun n => day lo n + (opN out day k (lo + 1) (u ||| 2 ^ n)).1
theorem op_out {out : Nat → Bool} {day : Nat → Nat → Nat} {k lo u : Nat} (h : out lo = true) : opN out day (k + 1) lo u = opN out day k (lo + 1) u := by
  show (if out lo then _ else _) = _
  rw [if_pos h]
theorem op_in {out : Nat → Bool} {day : Nat → Nat → Nat} {k lo u : Nat} (h : out lo = false) : opN out day (k + 1) lo u = ((fbN (opF out day k lo u) u 6).2, (fbN (opF out day k lo u) u 6).1 * 6 ^ k + (opN out day k (lo + 1) (u ||| 2 ^ (fbN (opF out day k lo u) u 6).1)).2) := by
  show (if out lo then _ else _) = _
  rw [if_neg (by rw [h]; decide)]
  rfl
theorem bc_free : ∀ u, u < 64 → bcN u < 6 → ∃ d, d < 6 ∧ u.testBit d = false := by decide +kernel
theorem bc_set : ∀ u, u < 64 → ∀ d, d < 6 → u.testBit d = false → bcN (u ||| 2 ^ d) = bcN u + 1 := by decide +kernel
/-- enough nurses are free -/
def enN (out : Nat → Bool) (k lo u : Nat) : Prop := bcN u + fb_ct (fun j => !out (lo + j)) k ≤ 6
theorem en_out {out : Nat → Bool} {k lo u : Nat} (h : out lo = true) (he : enN out (k + 1) lo u) : enN out k (lo + 1) u := by
  unfold enN at *
  rw [Nat.add_comm k 1, fb_ct_split] at he
  have e : fb_ct (fun j => !out (lo + j)) 1 = 0 := by
    rw [fb_ct_succ, Nat.add_zero, h]
    rfl
  rw [e] at he
  have e2 : fb_ct (fun j => !out (lo + 1 + j)) k = fb_ct (fun j => !out (lo + (1 + j))) k := fb_ct_cong (fun j _ => by rw [Nat.add_assoc])
  rw [e2]
  omega
theorem en_in {out : Nat → Bool} {k lo u : Nat} (h : out lo = false) (he : enN out (k + 1) lo u) : bcN u < 6 ∧ (u < 64 → ∀ d, d < 6 → u.testBit d = false → enN out k (lo + 1) (u ||| 2 ^ d)) := by
  unfold enN at *
  rw [Nat.add_comm k 1, fb_ct_split] at he
  have e : fb_ct (fun j => !out (lo + j)) 1 = 1 := by
    rw [fb_ct_succ, Nat.add_zero, h]
    rfl
  rw [e] at he
  have e2 : fb_ct (fun j => !out (lo + 1 + j)) k = fb_ct (fun j => !out (lo + (1 + j))) k := fb_ct_cong (fun j _ => by rw [Nat.add_assoc])
  rw [e2]
  refine ⟨by omega, fun hu d hd hf => ?_⟩
  rw [bc_set u hu d hd hf]
  omega
theorem op_ok {out : Nat → Bool} {day : Nat → Nat → Nat} (hday : ∀ i d, day i d ≤ 144) : ∀ (k lo u : Nat), u < 64 → k ≤ 6 → enN out k lo u → (opN out day k lo u).1 ≤ 144 * k ∧ (opN out day k lo u).2 < 6 ^ k ∧ (∃ w, cbN out day k lo (opN out day k lo u).2 u 0 = some (w, (opN out day k lo u).1)) ∧ (∀ c v w, c < 6 ^ k → cbN out day k lo c u 0 = some (w, v) → (opN out day k lo u).1 < v ∨ ((opN out day k lo u).1 = v ∧ (opN out day k lo u).2 ≤ c))
  | 0, lo, u, hu, hk, he => by
    refine ⟨Nat.le_refl _, by show 0 < 6 ^ 0; decide, ⟨u, rfl⟩, fun c v w hc h => Or.inr ⟨?_, Nat.zero_le _⟩⟩
    have h1 : (u, 0) = (w, v) := Option.some.inj h
    exact (Prod.mk.inj h1).2
  | k + 1, lo, u, hu, hk, he => by
    have hp : 6 ^ (k + 1) = 6 * 6 ^ k := by rw [Nat.pow_succ, Nat.mul_comm]
    have hp0 : 0 < 6 ^ k := Nat.pow_pos (by omega)
    have split : ∀ c, c < 6 ^ (k + 1) → c / 6 ^ k < 6 ∧ c % 6 ^ k < 6 ^ k ∧ c = c / 6 ^ k * 6 ^ k + c % 6 ^ k := by
      intro c hc
      refine ⟨Nat.div_lt_of_lt_mul (by rw [Nat.mul_comm, ← hp]; exact hc), Nat.mod_lt _ hp0, ?_⟩
      rw [Nat.mul_comm]
      exact (Nat.div_add_mod c (6 ^ k)).symm
    cases ho : out lo with
    | true =>
      obtain ⟨i1, i2, ⟨w0, i3⟩, i4⟩ := op_ok hday k (lo + 1) u hu (by omega) (en_out ho he)
      rw [op_out ho]
      refine ⟨by omega, by omega, ⟨w0, ?_⟩, fun c v w hc h => ?_⟩
      · have := cb_top out day k lo 0 (opN out day k (lo + 1) u).2 u 0 (by omega) i2
        rw [Nat.zero_mul, Nat.zero_add, if_pos ho, if_pos rfl] at this
        rw [this]
        exact i3
      · obtain ⟨c1, c2, c3⟩ := split c hc
        rw [c3, cb_top out day k lo _ _ u 0 c1 c2, if_pos ho] at h
        split at h
        · next z =>
          have c4 : c = c % 6 ^ k := by rw [z, Nat.zero_mul, Nat.zero_add] at c3; exact c3
          rw [c4]
          exact i4 _ v w c2 h
        · cases h
    | false =>
      obtain ⟨e1, e2⟩ := en_in ho he
      have e3 := e2 hu
      have sub : ∀ d, d < 6 → u.testBit d = false → (opN out day k (lo + 1) (u ||| 2 ^ d)).1 ≤ 144 * k ∧ (opN out day k (lo + 1) (u ||| 2 ^ d)).2 < 6 ^ k ∧ (∃ w, cbN out day k (lo + 1) (opN out day k (lo + 1) (u ||| 2 ^ d)).2 (u ||| 2 ^ d) 0 = some (w, (opN out day k (lo + 1) (u ||| 2 ^ d)).1)) ∧ (∀ c v w, c < 6 ^ k → cbN out day k (lo + 1) c (u ||| 2 ^ d) 0 = some (w, v) → (opN out day k (lo + 1) (u ||| 2 ^ d)).1 < v ∨ ((opN out day k (lo + 1) (u ||| 2 ^ d)).1 = v ∧ (opN out day k (lo + 1) (u ||| 2 ^ d)).2 ≤ c)) :=
        fun d hd hf => op_ok hday k (lo + 1) (u ||| 2 ^ d) (b_set u hu d hd).2 (by omega) (e3 d hd hf)
      obtain ⟨d0, hd0, hf0⟩ := bc_free u hu e1
      have hF : ∀ d, d < 6 → u.testBit d = false → opF out day k lo u d ≤ 144 * (k + 1) := by
        intro d hd hf
        have h1 := (sub d hd hf).1
        have h2 := hday lo d
        show day lo d + (opN out day k (lo + 1) (u ||| 2 ^ d)).1 ≤ _
        omega
      obtain ⟨g1, g2, g3, g4⟩ := fbN_free (f := opF out day k lo u) hd0 hf0 (by have := hF d0 hd0 hf0; omega)
      rw [op_in ho]
      generalize hg : (fbN (opF out day k lo u) u 6).1 = g at *
      obtain ⟨s1, s2, ⟨w0, s3⟩, s4⟩ := sub g g1 g2
      have hFg : opF out day k lo u g = day lo g + (opN out day k (lo + 1) (u ||| 2 ^ g)).1 := rfl
      have hmul : g * 6 ^ k ≤ 5 * 6 ^ k := Nat.mul_le_mul_right _ (by omega)
      refine ⟨?_, ?_, ⟨w0, ?_⟩, fun c v w hc h => ?_⟩
      · show (fbN (opF out day k lo u) u 6).2 ≤ _
        rw [g3]
        exact hF g g1 g2
      · show g * 6 ^ k + _ < _
        omega
      · show cbN out day (k + 1) lo (g * 6 ^ k + (opN out day k (lo + 1) (u ||| 2 ^ g)).2) u 0 = some (w0, (fbN (opF out day k lo u) u 6).2)
        rw [cb_top out day k lo g _ u 0 g1 s2, if_neg (by rw [ho]; decide), if_neg (by rw [g2]; decide), cb_add2 out day (day lo g) k (lo + 1) _ _ 0 _ _ s3, g3, hFg, Nat.add_comm]
      · show (fbN (opF out day k lo u) u 6).2 < v ∨ ((fbN (opF out day k lo u) u 6).2 = v ∧ g * 6 ^ k + (opN out day k (lo + 1) (u ||| 2 ^ g)).2 ≤ c)
        obtain ⟨c1, c2, c3⟩ := split c hc
        generalize hd : c / 6 ^ k = d at *
        generalize hr : c % 6 ^ k = r at *
        rw [c3, cb_top out day k lo d r u 0 c1 c2, if_neg (by rw [ho]; decide)] at h
        split at h
        · cases h
        · next z =>
          have zf : u.testBit d = false := by simpa using z
          obtain ⟨v', ev, h'⟩ := cb_add out day (day lo d) k (lo + 1) _ _ 0 _ _ h
          obtain ⟨q1, q2⟩ := g4 d c1 zf
          have hFd : opF out day k lo u d = day lo d + (opN out day k (lo + 1) (u ||| 2 ^ d)).1 := rfl
          have ih := (sub d c1 zf).2.2.2 r v' w c2 h'
          rw [g3]
          rcases Nat.lt_trichotomy d g with y | y | y
          · have := q2 y
            rcases ih with ih | ih
            · left; omega
            · left; omega
          · subst y
            rcases ih with ih | ih
            · left; omega
            · right
              refine ⟨by omega, ?_⟩
              rw [c3]
              exact Nat.add_le_add_left ih.2 _
          · have hm2 : (g + 1) * 6 ^ k ≤ d * 6 ^ k := Nat.mul_le_mul_right _ y
            rw [Nat.succ_mul] at hm2
            rcases ih with ih | ih
            · left; omega
            · rcases Nat.lt_or_ge (opF out day k lo u g) v with x | x
              · left; exact x
              · right
                refine ⟨by omega, ?_⟩
                rw [c3]
                omega
/-- who gets which -/
def anN (out : Nat → Bool) (day : Nat → Nat → Nat) : Nat → Nat → Nat → Nat → Int32
  | 0, _, _, _ => -1
  | k + 1, lo, u, i => if out lo then anN out day k (lo + 1) u i else if lo = i then nI (fbN (opF out day k lo u) u 6).1 else anN out day k (lo + 1) (u ||| 2 ^ (fbN (opF out day k lo u) u 6).1) i
theorem an_succ (out : Nat → Bool) (day : Nat → Nat → Nat) (k lo u i : Nat) : anN out day (k + 1) lo u i = if out lo then anN out day k (lo + 1) u i else if lo = i then nI (fbN (opF out day k lo u) u 6).1 else anN out day k (lo + 1) (u ||| 2 ^ (fbN (opF out day k lo u) u 6).1) i := rfl
theorem an_lt (out : Nat → Bool) (day : Nat → Nat → Nat) {i : Nat} : ∀ k lo u, i < lo → anN out day k lo u i = -1
  | 0, _, _, _ => rfl
  | k + 1, lo, u, h => by
    rw [an_succ]
    split
    · exact an_lt out day k _ _ (by omega)
    · rw [if_neg (by omega)]
      exact an_lt out day k _ _ (by omega)
theorem an_dig {out : Nat → Bool} {day : Nat → Nat → Nat} (hday : ∀ i d, day i d ≤ 144) {i : Nat} : ∀ k lo u, u < 64 → k ≤ 6 → enN out k lo u → lo ≤ i → i < lo + k → anN out day k lo u i = if out i then -1 else nI ((opN out day k lo u).2 / 6 ^ (lo + k - 1 - i) % 6)
  | 0, lo, u, _, _, _, h1, h2 => absurd h2 (by omega)
  | k + 1, lo, u, hu, hk, he, h1, h2 => by
    rw [an_succ]
    cases ho : out lo with
    | true =>
      simp only [if_true]
      rw [op_out ho]
      rcases Nat.lt_or_ge lo i with z | z
      · rw [an_dig hday k (lo + 1) u hu (by omega) (en_out ho he) (by omega) (by omega), show lo + 1 + k - 1 - i = lo + (k + 1) - 1 - i by omega]
      · obtain rfl : lo = i := by omega
        rw [ho, an_lt out day k _ _ (by omega)]
        rfl
    | false =>
      simp only [Bool.false_eq_true, if_false]
      obtain ⟨e1, e2⟩ := en_in ho he
      have e3 := e2 hu
      obtain ⟨d0, hd0, hf0⟩ := bc_free u hu e1
      have hF : opF out day k lo u d0 < 1000000 := by
        have h1 := (op_ok hday k (lo + 1) (u ||| 2 ^ d0) (b_set u hu d0 hd0).2 (by omega) (e3 d0 hd0 hf0)).1
        have h2 := hday lo d0
        show day lo d0 + (opN out day k (lo + 1) (u ||| 2 ^ d0)).1 < _
        omega
      obtain ⟨g1, g2, g3, g4⟩ := fbN_free (f := opF out day k lo u) hd0 hf0 hF
      rw [op_in ho]
      generalize hg : (fbN (opF out day k lo u) u 6).1 = g at *
      have s2 := (op_ok hday k (lo + 1) (u ||| 2 ^ g) (b_set u hu g g1).2 (by omega) (e3 g g1 g2)).2.1
      generalize hc : (opN out day k (lo + 1) (u ||| 2 ^ g)).2 = c at *
      have hp0 : 0 < 6 ^ k := Nat.pow_pos (by omega)
      rcases Nat.lt_or_ge lo i with z | z
      · rw [if_neg (by omega), an_dig hday k (lo + 1) (u ||| 2 ^ g) (b_set u hu g g1).2 (by omega) (e3 g g1 g2) (by omega) (by omega), hc]
        have eexp : lo + 1 + k - 1 - i = lo + (k + 1) - 1 - i := by omega
        rw [eexp]
        have hpow : 6 ^ k = 6 ^ (lo + (k + 1) - 1 - i) * (6 * 6 ^ (i - lo - 1)) := by
          rw [← Nat.mul_assoc, ← Nat.pow_succ, ← Nat.pow_add]
          congr 1
          omega
        have hq0 : 0 < 6 ^ (lo + (k + 1) - 1 - i) := Nat.pow_pos (by omega)
        have edig : (g * 6 ^ k + c) / 6 ^ (lo + (k + 1) - 1 - i) % 6 = c / 6 ^ (lo + (k + 1) - 1 - i) % 6 := by
          rw [show g * 6 ^ k = 6 ^ (lo + (k + 1) - 1 - i) * (6 * (g * 6 ^ (i - lo - 1))) by rw [hpow, Nat.mul_left_comm g, Nat.mul_left_comm g], Nat.mul_add_div hq0, Nat.mul_add_mod]
        show _ = if out i = true then -1 else nI ((g * 6 ^ k + c) / 6 ^ (lo + (k + 1) - 1 - i) % 6)
        rw [edig]
      · obtain rfl : lo = i := by omega
        rw [if_pos rfl, ho]
        simp only [Bool.false_eq_true, if_false]
        rw [show lo + (k + 1) - 1 - lo = k by omega]
        congr 1
        rw [Nat.mul_comm, Nat.mul_add_div hp0, Nat.div_eq_of_lt s2, Nat.add_zero, Nat.mod_eq_of_lt g1]
