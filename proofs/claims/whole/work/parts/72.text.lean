/-! The whole text: both sides. -/
def mxR (row t : Nat → Nat) : Nat → Nat := fun k => if k < 78 then row k else t k
theorem DR_CV {row : Nat → Nat} {infants retired month notes sounds pasts : Int32} {kind months home nurse skills noteRow soundRow pastRow : Nat → Int32} (hD : DR row infants retired month notes sounds pasts kind months home nurse skills) (t : Nat → Nat) : CR (mxR row t) infants retired month notes sounds pasts kind months home nurse skills noteRow soundRow pastRow ∧ VV (mxR row t) := by
  obtain ⟨⟨r0, a0, a10, a17, a1, a2, a3, r1, r2, r3, r10, r17⟩, hi, hs⟩ := hD
  have T : ∀ k, k < 78 → mxR row t k = row k := fun k hk => if_pos hk
  refine ⟨⟨⟨?_, ?_, ?_, ?_, ?_, ?_⟩, ?_, ?_, ?_, ?_, ?_⟩, ⟨⟨?_, ?_, ?_, ?_, ?_, ?_⟩, ?_, ?_, ?_, ?_, ?_⟩⟩
  · exact a0
  · rw [T 10 (by omega), r10]; exact a10
  · rw [T 17 (by omega), r17]; exact a17
  · rw [T 1 (by omega), r1]; exact a1
  · rw [T 2 (by omega), r2]; exact a2
  · rw [T 3 (by omega), r3]; exact a3
  · intro i h
    rw [T 0 (by omega)] at h
    rw [T (24 + i) (by omega), T (4 + i) (by omega), T (30 + i) (by omega), T (11 + i) (by omega)]
    obtain ⟨b1, b2, b3, b4, _⟩ := hi i h
    exact ⟨b1, b2, b3, b4⟩
  · intro j h
    rw [T (18 + j) (by omega)]
    exact (hs j h).1
  · intro k h
    rw [T 1 (by omega), r1] at h
    exact absurd h (by omega)
  · intro k h
    rw [T 2 (by omega), r2] at h
    exact absurd h (by omega)
  · intro k h
    rw [T 3 (by omega), r3] at h
    exact absurd h (Nat.not_lt_zero k)
  · rw [T 0 (by omega)]; exact r0
  · rw [T 1 (by omega), r1]; omega
  · rw [T 2 (by omega), r2]; omega
  · rw [T 3 (by omega), r3]; omega
  · rw [T 10 (by omega), r10]; omega
  · rw [T 17 (by omega), r17]; omega
  · intro i h
    rw [T 0 (by omega)] at h
    rw [T (24 + i) (by omega), T (4 + i) (by omega), T (30 + i) (by omega), T (11 + i) (by omega)]
    obtain ⟨b1, b2, b3, b4, c1, c2, c3, c4⟩ := hi i h
    exact ⟨c1, by omega, fun _ => c2, c3, c4⟩
  · intro j h
    rw [T (18 + j) (by omega)]
    exact (hs j h).2
  · intro k h
    rw [T 1 (by omega), r1] at h
    exact absurd h (Nat.not_lt_zero k)
  · intro k h
    rw [T 2 (by omega), r2] at h
    exact absurd h (Nat.not_lt_zero k)
  · intro k h
    rw [T 3 (by omega), r3] at h
    exact absurd h (Nat.not_lt_zero k)
theorem ic_ok {b : Nat → Nat} {n p : Nat} {row : Nat → Nat} (hp : p ≤ n) : (∀ r2 q, icN b n row p = Sum.inr (r2, q) → p < q ∧ q ≤ n) ∧ ∀ f, icN b n row p = Sum.inl f → f ≤ n := by
  obtain ⟨_, q2, q3, q4, q5, q6⟩ := t_ok b hp
  obtain ⟨q1a, q2a, q3a, q4a, _, q6a⟩ := t_ok b q4
  obtain ⟨q1b, q2b, q3b, q4b, _, _⟩ := t_ok b q4a
  obtain ⟨q1c, q2c, q3c, q4c, _, _⟩ := t_ok b q4b
  have wk : ∀ {w : Nat → Nat} {sz : Nat}, isW w b sz (tqN b n p) (teN b n p) (tkN b n p) = true → p < teN b n p := by
    intro w sz h
    unfold isW at h
    rw [Bool.and_eq_true, Bool.and_eq_true, decide_eq_true_eq] at h
    exact q5 (by rw [h.1.1]; omega)
  unfold icN i3N i2N
  refine ⟨fun r2 q h => ?_, fun f h => ?_⟩
  · split at h
    · next c => have lt := wk c; split at h; · cases h
                split at h
                · split at h
                  · split at h
                    · have e := (Prod.mk.inj (Sum.inr.inj h)).2; omega
                    · cases h
                  · cases h
                · cases h
    · split at h
      · next c => have lt := wk c; split at h
                  · split at h
                    · have e := (Prod.mk.inj (Sum.inr.inj h)).2; omega
                    · cases h
                  · cases h
      · split at h
        · next c => have lt := wk c; split at h
                    · split at h
                      · have e := (Prod.mk.inj (Sum.inr.inj h)).2; omega
                      · cases h
                    · cases h
        · cases h
  · split at h
    · split at h
      · have e := Sum.inl.inj h; omega
      · split at h
        · split at h
          · split at h
            · cases h
            · have e := Sum.inl.inj h; omega
          · have e := Sum.inl.inj h; omega
        · have e := Sum.inl.inj h; omega
    · split at h
      · split at h
        · split at h
          · cases h
          · have e := Sum.inl.inj h; omega
        · have e := Sum.inl.inj h; omega
      · split at h
        · split at h
          · split at h
            · cases h
            · have e := Sum.inl.inj h; omega
          · have e := Sum.inl.inj h; omega
        · have e := Sum.inl.inj h; omega
def paN (b : Nat → Nat) (n : Nat) : Nat → Nat → (Nat → Nat) → Nat → Sum Nat (Nat × (Nat → Nat))
  | 0, _, _, _ => Sum.inl 0
  | d + 1, it, row, p => if tkN b n p = 0 then Sum.inr (it, row) else match icN b n row p with
    | Sum.inl f => Sum.inl f
    | Sum.inr (r2, q) => if tkN b n q = 3 then paN b n d (it + 1) r2 (teN b n q) else Sum.inl q
theorem pa_end {b : Nat → Nat} {n d it p : Nat} {row : Nat → Nat} (h : tkN b n p = 0) : paN b n (d + 1) it row p = Sum.inr (it, row) := if_pos h
theorem pa_bad {b : Nat → Nat} {n d it p f : Nat} {row : Nat → Nat} (h : tkN b n p ≠ 0) (hi : icN b n row p = Sum.inl f) : paN b n (d + 1) it row p = Sum.inl f := by
  show (if tkN b n p = 0 then _ else _) = _
  rw [if_neg h, hi]
theorem pa_go {b : Nat → Nat} {n d it p q : Nat} {row r2 : Nat → Nat} (h : tkN b n p ≠ 0) (hi : icN b n row p = Sum.inr (r2, q)) : paN b n (d + 1) it row p = if tkN b n q = 3 then paN b n d (it + 1) r2 (teN b n q) else Sum.inl q := by
  show (if tkN b n p = 0 then _ else _) = _
  rw [if_neg h, hi]
theorem s_lpL9 {n : Nat} {b : Nat → Nat} {bytes : Nat → Int32} (hT : TX n b bytes) {retired month notes sounds : Int32} {Post : Int32 → Int32 → Int32 → Int32 → Int32 → Int32 → Int32 → Int32 → Int32 → Int32 → Int32 → (Nat → Int32) → (Nat → Int32) → (Nat → Int32) → (Nat → Int32) → (Nat → Int32) → Prop} : ∀ d it row p v infants pasts kind months home nurse skills, it ≤ p → 1 ≤ it → p ≤ n → n < p + d → (tkN b n p = 2 → v = nI (tvN b n p)) → DR row infants retired month notes sounds pasts kind months home nurse skills → (∀ f, paN b n d it row p = Sum.inl f → f ≤ n → ∀ a c e i2 p2 k2 m2 h2 n2 s2, Post ((-10) - nI (tqN b n f)) a (nI (tqN b n f)) c e i2 retired month notes sounds p2 k2 m2 h2 n2 s2) → (∀ it2 r2, paN b n d it row p = Sum.inr (it2, r2) → it2 ≤ n → ∀ a x c e i2 p2 k2 m2 h2 n2 s2, DR r2 i2 retired month notes sounds p2 k2 m2 h2 n2 s2 → Post (nI it2) a x c e i2 retired month notes sounds p2 k2 m2 h2 n2 s2) → wp_X2_readCourt_L20 (nI n) bytes Post (wp_X2_readCourt_J73 (nI n) bytes Post) (wp_X2_readCourt_J73 (nI n) bytes Post) d (nI it) (nI it) (nI (tkN b n p)) (nI (tqN b n p)) (nI (teN b n p)) v infants retired month notes sounds pasts kind months home nurse skills := by
  obtain ⟨hn, _⟩ := id hT
  intro d
  induction d with
  | zero => intro it row p v infants pasts kind months home nurse skills h1 h2 h3 h4; exact absurd h4 (by omega)
  | succ d ih =>
    intro it row p v infants pasts kind months home nurse skills h1 h2 h3 h4 hv hD hf hs
    obtain ⟨i1, i2⟩ := ic_ok (b := b) (row := row) h3
    refine ⟨fun w => absurd w (nI_nlt (by omega) (by omega)), fun _ => pk_eq (tkN b n p) 0 (fun z => ⟨fun w => absurd w (nI_nle (by omega) (by omega)), fun _ => ?_⟩) (fun z => ⟨fun w => absurd w (nI_ne0 (by omega) (by omega)), fun _ => ?_⟩) rfl rfl (by have := (t_ok b h3).2.2.2.2.2; omega)⟩
    · exact hs _ _ (pa_end z) (by omega) _ _ _ _ _ _ _ _ _ _ _ hD
    · refine s_item9 hT h3 hv hD (fun f ef a c e i2' p2 k2 m2 h2' n2 s2 => ⟨fun _ => ?_, fun w => absurd rfl w⟩) (fun row2 q eq i2' p2 k2 m2 h2' n2 s2 hD2 => ⟨fun zq v2 hv2 => ⟨fun w => absurd w (by decide), fun _ x ex y ey => ?_⟩, fun zq v2 => ⟨fun _ => ?_, fun w => absurd rfl w⟩⟩)
      · exact hf f (pa_bad z ef) (i2 f ef) _ _ _ _ _ _ _ _ _ _
      · obtain ⟨j1, j2⟩ := i1 _ _ eq
        obtain ⟨_, _, _, t4, t5, _⟩ := t_ok b j2
        have t5' := t5 (by rw [zq]; omega)
        rw [pa_go z eq, if_pos zq] at hf hs
        rw [ex, ey, nI_1]
        exact ih (it + 1) row2 (teN b n q) v2 _ _ _ _ _ _ _ (by omega) (by omega) t4 (by omega) hv2 hD2 hf hs
      · rw [pa_go z eq, if_neg zq] at hf
        exact hf q rfl (i1 _ _ eq).2 _ _ _ _ _ _ _ _ _ _
theorem s_lpL10 {n : Nat} {b : Nat → Nat} {bytes : Nat → Int32} (hT : TX n b bytes) {told : Nat → Int32} {Post : Int32 → Int32 → Int32 → Int32 → Int32 → (Nat → Int32) → (Nat → Int32) → (Nat → Int32) → Prop} {K1 : Int32 → Int32 → Int32 → Int32 → Int32 → (Nat → Int32) → (Nat → Int32) → (Nat → Int32) → Prop} {K2 : Int32 → Int32 → Int32 → Int32 → (Nat → Int32) → (Nat → Int32) → (Nat → Int32) → Prop} : ∀ d it row p v anew values, p ≤ n → n < p + d → (tkN b n p = 2 → v = nI (tvN b n p)) → row 0 ≤ 6 → AR row anew → (∀ f, paN b n d it row p = Sum.inl f → ∀ a c e an va, K2 (nI (tqN b n f)) a c e told an va) → (∀ it2 r2, paN b n d it row p = Sum.inr (it2, r2) → ∀ a c e x an va, AR r2 an → K1 (nI it2) a c e x told an va) → wp_X10_read_L65 (nI n) bytes Post K1 K2 d (nI it) (nI (tqN b n p)) (nI (teN b n p - tqN b n p)) (nI (tkN b n p)) v told anew values := by
  intro d
  induction d with
  | zero => intro it row p v anew values h3 h4; exact absurd h4 (by omega)
  | succ d ih =>
    intro it row p v anew values h3 h4 hv r6 hA hf hs
    have k4 := (t_ok b h3).2.2.2.2.2
    refine pk_eq (tkN b n p) 0 (fun z => ?_) (fun z => ?_) rfl rfl (by omega)
    · exact hs _ _ (pa_end z) _ _ _ _ _ _ hA
    · refine s_item10 hT h3 hv r6 hA (fun f ef a c e an va => ⟨fun _ => ?_, fun w => absurd rfl w⟩) (fun row2 q eq j2 j1 r62 v2 an va hv2 hA2 => ⟨fun w => absurd w (by decide), fun _ => ?_⟩)
      · exact hf f (pa_bad z ef) _ _ _ _ _
      · obtain ⟨_, _, t3, t4, t5, t6⟩ := t_ok b j2
        rw [pa_go z eq] at hf hs
        refine pk_eq (tkN b n q) 3 (fun zq => ?_) (fun zq => ?_) rfl rfl (by omega)
        · have t5' := t5 (by rw [zq]; omega)
          rw [if_pos zq] at hf hs
          refine s_beh10 hT t3 rfl t4 (fun v3 hv3 x ex => ?_)
          rw [ex, nI_1]
          exact ih (it + 1) row2 (teN b n q) v3 an va t4 (by omega) hv3 r62 hA2 hf hs
        · rw [if_neg zq] at hf
          exact hf q rfl _ _ _ _ _
def coN (b : Nat → Nat) (n : Nat) : Sum Nat (Nat × (Nat → Nat)) := if isW wCo b 5 (tqN b n 0) (teN b n 0) (tkN b n 0) then (if tkN b n (teN b n 0) = 3 then paN b n (n + 1) 1 (fun _ => 0) (teN b n (teN b n 0)) else Sum.inl (teN b n 0)) else Sum.inl 0
theorem m10_neg : ∀ q, q < 151 → (-10 : Int32) - nI q < 0 := by decide +kernel
