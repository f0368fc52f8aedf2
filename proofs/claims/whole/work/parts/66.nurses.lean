/-! nurses: both sides. -/
def oT (t : Nat → Nat) : Nat → Bool := fun i => (t 10).testBit i
def dT (t : Nat → Nat) : Nat → Nat → Nat := fun i d => dyN (t (24 + i)) (t (4 + i)) (t (18 + d))
theorem dT_le (t : Nat → Nat) (i d : Nat) : dT t i d ≤ 144 := dyN_le _ _ _
def ctT (t : Nat → Nat) : Nat → Nat := fb_ct (fun j => !oT t j)
def dlT (t : Nat → Nat) (p : Nat) : Nat := fa_first (fun i => decide (p < ctT t (i + 1))) (t 0)
theorem ct_in {t : Nat → Nat} {i : Nat} (h : oT t i = false) : ctT t (i + 1) = ctT t i + 1 := by
  unfold ctT
  rw [fb_ct_succ, h]
  rfl
theorem ct_out {t : Nat → Nat} {i : Nat} (h : oT t i = true) : ctT t (i + 1) = ctT t i := by
  unfold ctT
  rw [fb_ct_succ, h]
  rfl
theorem ct_mono (t : Nat → Nat) {a b : Nat} (h : a ≤ b) : ctT t a ≤ ctT t b := fb_ct_mono _ h
theorem ct_le (t : Nat → Nat) (n : Nat) : ctT t n ≤ n := fb_ct_le _ n
theorem dl_eq {t : Nat → Nat} {lo : Nat} (h : lo < t 0) (ho : oT t lo = false) : dlT t (ctT t lo) = lo := by
  have h1 := fa_first_le (fun i => decide (ctT t lo < ctT t (i + 1))) (t 0)
  have h2 := fa_first_no (fun i => decide (ctT t lo < ctT t (i + 1))) (t 0)
  have h3 := fa_first_yes (fun i => decide (ctT t lo < ctT t (i + 1))) (t 0)
  have e : dlT t (ctT t lo) = fa_first (fun i => decide (ctT t lo < ctT t (i + 1))) (t 0) := rfl
  rw [← e] at h1 h2 h3
  have a1 : ¬ lo < dlT t (ctT t lo) := by
    intro z
    have := h2 lo z
    rw [decide_eq_false_iff_not, ct_in ho] at this
    omega
  have a2 : ¬ dlT t (ctT t lo) < lo := by
    intro z
    have := h3 (by omega)
    rw [decide_eq_true_eq] at this
    have := ct_mono t (show dlT t (ctT t lo) + 1 ≤ lo from z)
    omega
  omega
theorem dl_n {t : Nat → Nat} {p : Nat} (h : ctT t (t 0) ≤ p) : dlT t p = t 0 := by
  have h1 := fa_first_le (fun i => decide (p < ctT t (i + 1))) (t 0)
  have h3 := fa_first_yes (fun i => decide (p < ctT t (i + 1))) (t 0)
  have e : dlT t p = fa_first (fun i => decide (p < ctT t (i + 1))) (t 0) := rfl
  rw [← e] at h1 h3
  have a2 : ¬ dlT t p < t 0 := by
    intro z
    have := h3 z
    rw [decide_eq_true_eq] at this
    have := ct_mono t (show dlT t p + 1 ≤ t 0 from z)
    omega
  omega
theorem dl_in {t : Nat → Nat} {p : Nat} (h : p < ctT t (t 0)) : dlT t p < t 0 ∧ oT t (dlT t p) = false ∧ ctT t (dlT t p) = p := by
  obtain ⟨i, h1, h2, h3⟩ := fb_ct_kth (p := fun j => !oT t j) h
  have h2' : oT t i = false := by simpa using h2
  have e : dlT t p = i := by
    rw [← h3]
    exact dl_eq h1 h2'
  rw [e]
  exact ⟨h1, h2', h3⟩
theorem op_at {t : Nat → Nat} : ∀ d lo, lo + d = t 0 → ∀ u, opN (oT t) (dT t) d lo u = opN (oT t) (dT t) (t 0 - dlT t (ctT t lo)) (dlT t (ctT t lo)) u
  | 0, lo, h, u => by
    obtain rfl : lo = t 0 := by omega
    rw [dl_n (Nat.le_refl _), Nat.sub_self]
  | d + 1, lo, h, u => by
    cases ho : oT t lo with
    | true =>
      rw [op_out ho, op_at d (lo + 1) (by omega) u, ct_out ho]
    | false =>
      rw [dl_eq (by omega) ho, show t 0 - lo = d + 1 by omega]
theorem an_at {t : Nat → Nat} {i : Nat} : ∀ d lo, lo + d = t 0 → ∀ u, anN (oT t) (dT t) d lo u i = anN (oT t) (dT t) (t 0 - dlT t (ctT t lo)) (dlT t (ctT t lo)) u i
  | 0, lo, h, u => by
    obtain rfl : lo = t 0 := by omega
    rw [dl_n (Nat.le_refl _), Nat.sub_self]
  | d + 1, lo, h, u => by
    cases ho : oT t lo with
    | true =>
      rw [an_succ, if_pos ho, an_at d (lo + 1) (by omega) u, ct_out ho]
    | false =>
      rw [dl_eq (by omega) ho, show t 0 - lo = d + 1 by omega]
def rvN (t : Nat → Nat) (u : Nat) : Nat := (opN (oT t) (dT t) (t 0 - dlT t (bcN u)) (dlT t (bcN u)) u).1
theorem bc_up : ∀ s, s < 64 → ∀ m, m < 6 → s.testBit m = false → s < s ||| 2 ^ m := by decide +kernel
theorem s_first9 {cost rest : Nat → Int32} {p u : Nat} (hp6 : p < 6) (hu : u < 64) {F : Nat → Nat} (hF : ∀ m, m < 6 → u.testBit m = false → cost (p * 6 + m) + rest (u ||| 2 ^ m) = nI (F m) ∧ F m < 1000000) {Post : Int32 → Prop} (hp : Post (nI (fbN F u 6).1)) : wp_X5_firstBest cost rest (nI p) (nI u) Post := by
  have go : ∀ d m, m + d = 6 → wp_X5_firstBest_L9 cost rest Post (d + 1) (nI p) (nI u) (nI (fbN F u m).1) (nI (fbN F u m).2) (nI m) := by
    intro d
    induction d with
    | zero =>
      intro m e
      obtain rfl : m = 6 := by omega
      exact ⟨fun _ => hp, fun q => absurd (show (6 : Int32) ≤ nI 6 by decide) q⟩
    | succ d ih =>
      intro m e
      have ih' := ih (m + 1) (by omega)
      rw [fbN_succ] at ih'
      have hle : (fbN F u m).2 ≤ 1000000 := by
        rcases (fbN_ok (f := F) (u := u) m).2 with ⟨_, _, _, h⟩ | h
        · omega
        · rw [h]; exact Nat.le_refl _
      refine ⟨fun q => absurd q (nI_ge (a := m) (b := 6) (by omega) (by omega)), fun _ => ?_⟩
      rw [b_has u hu m (by omega)]
      refine ⟨fun q x ex => ?_, fun q => ?_⟩
      · rw [if_pos q] at ih'
        rw [ex, nI_1]
        exact ih'
      · rw [if_neg q] at ih'
        have qf : u.testBit m = false := by simpa using q
        obtain ⟨f1, f2⟩ := hF m (by omega) qf
        obtain ⟨s1, s2⟩ := b_set u hu m (by omega)
        have ei : nI p * 6 + nI m = nI (p * 6 + m) := by rw [show (6 : Int32) = nI 6 from rfl, pk_mul, nI_add]
        unfold wp_X5_costOf
        rw [ei, s1, nI_clamp (by omega), nI_clamp (by omega), f1]
        refine ⟨vp_in_nI (by omega) (by omega), vp_in_nI s2 (by omega), pk_le (fbN F u m).2 (F m) (fun z x ex => ?_) (fun z x ex => ?_)⟩
        · rw [if_neg (by omega)] at ih'
          rw [ex, nI_1]
          exact ih'
        · rw [if_pos z] at ih'
          rw [ex, nI_1]
          exact ih'
  exact ⟨7, go 6 0 (by omega)⟩
/-- the dues and their costs, of the first i infants -/
def DU (t : Nat → Nat) (a : Nat) (dues cost : Nat → Int32) : Prop := ∀ q, q < a → dues q = nI (dlT t q) ∧ ∀ m, m < 6 → cost (q * 6 + m) = nI (dT t (dlT t q) m)
theorem s_wgC {infants retired month notes sounds pasts : Int32} {kind months home nurse skills noteRow soundRow pastRow : Nat → Int32} {t : Nat → Nat} (hR : CR t infants retired month notes sounds pasts kind months home nurse skills noteRow soundRow pastRow) (hV : VV t) {i q : Nat} (hi0 : i < t 0) (hq : q < 6) {dues rest cost0 : Nat → Int32} {Post : Int32 → (Nat → Int32) → (Nat → Int32) → (Nat → Int32) → Prop} {K : Int32 → Int32 → (Nat → Int32) → (Nat → Int32) → (Nat → Int32) → Prop} (hp : ∀ cost, (∀ m, m < 6 → cost (q * 6 + m) = nI (dT t i m)) → (∀ j, j < q * 6 → cost j = cost0 j) → K (nI i) (nI q) dues cost rest) : ∀ d m, m + d = 6 → ∀ cost, (∀ j, j < m → cost (q * 6 + j) = nI (dT t i j)) → (∀ j, j < q * 6 → cost j = cost0 j) → wp_X5_weigh_L38 infants retired kind months skills Post K (d + 1) (nI i) (nI m) (nI q) dues cost rest := by
  obtain ⟨⟨e0, e10, e17, e1, e2, e3⟩, hi, hs, hn, ho, hpp⟩ := id hR
  obtain ⟨⟨v0, vn, vs, vp, vr, vm⟩, vi, vk, vno, vso, vpa⟩ := id hV
  obtain ⟨a1, a2, a3, a4⟩ := hi i hi0
  obtain ⟨w1, w2, w3, w4, w5⟩ := vi i hi0
  intro d
  induction d with
  | zero =>
    intro m e cost h1 h2
    obtain rfl : m = 6 := by omega
    exact ⟨fun _ => hp cost h1 h2, fun z => absurd (show (6 : Int32) ≤ nI 6 by decide) z⟩
  | succ d ih =>
    intro m e cost h1 h2
    have w6 := vk m (by omega)
    have ei : nI q * 6 + nI m = nI (q * 6 + m) := by rw [show (6 : Int32) = nI 6 from rfl, pk_mul, nI_add]
    refine ⟨fun z => absurd z (nI_ge (a := m) (b := 6) (by omega) (by omega)), fun _ => s_criesAllDay (by omega) a1 w1 a2 (by omega) (by omega) (hs m (by omega)) (by omega) ?_⟩
    rw [ei, nI_clamp (by omega)]
    refine ⟨vp_in_nI (by omega) (by omega), fun f ef x ex => ?_⟩
    rw [ex, nI_1]
    refine ih (m + 1) (by omega) f (fun j hj => ?_) (fun j hj => ?_)
    · rw [ef, upd_at]
      by_cases z : j = m
      · rw [if_pos (by omega), z]
        rfl
      · rw [if_neg (by omega)]
        exact h1 j (by omega)
    · rw [ef, upd_at, if_neg (by omega)]
      exact h2 j hj
theorem s_wgL {infants retired month notes sounds pasts : Int32} {kind months home nurse skills noteRow soundRow pastRow : Nat → Int32} {t : Nat → Nat} (hR : CR t infants retired month notes sounds pasts kind months home nurse skills noteRow soundRow pastRow) (hV : VV t) {rest : Nat → Int32} {Post : Int32 → (Nat → Int32) → (Nat → Int32) → (Nat → Int32) → Prop} {K : Int32 → (Nat → Int32) → (Nat → Int32) → (Nat → Int32) → Prop} (hp : ∀ dues cost, DU t (ctT t (t 0)) dues cost → K (nI (ctT t (t 0))) dues cost rest) : ∀ d i, i + d = t 0 → ∀ dues cost, DU t (ctT t i) dues cost → wp_X5_weigh_L7 infants retired kind months skills Post K (d + 1) (nI i) (nI (ctT t i)) dues cost rest := by
  obtain ⟨⟨e0, e10, e17, e1, e2, e3⟩, hi, hs, hn, ho, hpp⟩ := id hR
  obtain ⟨⟨v0, vn, vs, vp, vr, vm⟩, vi, vk, vno, vso, vpa⟩ := id hV
  intro d
  induction d with
  | zero =>
    intro i e dues cost hD
    obtain rfl : i = t 0 := by omega
    rw [e0]
    exact ⟨fun _ => hp dues cost hD, fun q => absurd (nI_le (Nat.le_refl _) (by omega)) q⟩
  | succ d ih =>
    intro i e dues cost hD
    have hc := ct_le t i
    refine ⟨fun q => absurd q (by rw [e0]; exact nI_ge (by omega) (by omega)), fun _ => ?_⟩
    rw [e10]
    refine s_isRetired vr (by omega) (sp_b (fun a => ?_) (fun a x ex => ?_))
    · have a' : oT t i = false := a
      have edl := dl_eq (t := t) (lo := i) (by omega) a'
      rw [nI_clamp (by omega), ← e10]
      refine ⟨vp_in_nI (by omega) (by omega), fun f ef => ⟨7, s_wgC hR hV (by omega) (by omega) (cost0 := cost) (fun cost2 c1 c2 y ey x ex => ?_) 6 0 (by omega) cost (fun j hj => absurd hj (Nat.not_lt_zero j)) (fun j _ => rfl)⟩⟩
      rw [ex, ey, nI_1, nI_1, ← ct_in a']
      refine ih (i + 1) (by omega) f cost2 (fun q hq => ?_)
      rw [ct_in a'] at hq
      by_cases z : q = ctT t i
      · rw [z, ef, pk_us, edl]
        exact ⟨rfl, c1⟩
      · rw [ef, pk_un z]
        refine ⟨(hD q (by omega)).1, fun m hm => ?_⟩
        rw [c2 _ (by omega)]
        exact (hD q (by omega)).2 m hm
    · have a' : oT t i = true := a
      have ih' := ih (i + 1) (by omega) dues cost (by rw [ct_out a']; exact hD)
      rw [ct_out a'] at ih'
      rw [ex, nI_1, ← e10]
      exact ih'
/-- what the sum at one place is -/
theorem plF {t : Nat → Nat} (hV : VV t) {cost rest dues : Nat → Int32} (hD : DU t (ctT t (t 0)) dues cost) {p u : Nat} (hp : p < ctT t (t 0)) (hu : u < 64) (hpu : bcN u = p) (hrest : ∀ s, u < s → s < 64 → rest s = nI (rvN t s)) : enN (oT t) (t 0 - dlT t p) (dlT t p) u ∧ ∀ m, m < 6 → u.testBit m = false → cost (p * 6 + m) + rest (u ||| 2 ^ m) = nI (opF (oT t) (dT t) (t 0 - dlT t p - 1) (dlT t p) u m) ∧ opF (oT t) (dT t) (t 0 - dlT t p - 1) (dlT t p) u m < 1000000 := by
  have v0 := hV.1.1
  obtain ⟨l1, l2, l3⟩ := dl_in hp
  have hc6 := ct_le t (t 0)
  have he : enN (oT t) (t 0 - dlT t p) (dlT t p) u := by
    unfold enN
    have hsp := fb_ct_split (fun j => !oT t j) (dlT t p) (t 0 - dlT t p)
    rw [show dlT t p + (t 0 - dlT t p) = t 0 by omega] at hsp
    have e1 : fb_ct (fun j => !oT t j) (t 0) = ctT t (t 0) := rfl
    have e2 : fb_ct (fun j => !oT t j) (dlT t p) = p := l3
    rw [e1, e2] at hsp
    omega
  refine ⟨he, fun m hm hf => ?_⟩
  have hb := bc_set u hu m hm hf
  have hs := b_set u hu m hm
  have hlt := bc_up u hu m hm hf
  rw [show t 0 - dlT t p = (t 0 - dlT t p - 1) + 1 by omega] at he
  have he2 := (en_in l2 he).2 hu m hm hf
  have hok := (op_ok (dT_le t) (t 0 - dlT t p - 1) (dlT t p + 1) (u ||| 2 ^ m) hs.2 (by omega) he2).1
  have hday := dT_le t (dlT t p) m
  have erv : rvN t (u ||| 2 ^ m) = (opN (oT t) (dT t) (t 0 - dlT t p - 1) (dlT t p + 1) (u ||| 2 ^ m)).1 := by
    unfold rvN
    rw [hb, hpu, op_at (t 0 - dlT t p - 1) (dlT t p + 1) (by omega), ct_in l2, l3]
  rw [(hD p hp).2 m hm, hrest _ hlt hs.2, nI_add, erv]
  refine ⟨rfl, ?_⟩
  show dT t (dlT t p) m + (opN (oT t) (dT t) (t 0 - dlT t p - 1) (dlT t p + 1) (u ||| 2 ^ m)).1 < 1000000
  omega
theorem m1_0 : nI 0 + (-1) = -1 := by decide
theorem s_restL {infants retired : Int32} {kind months skills : Nat → Int32} {t : Nat → Nat} (hV : VV t) {dues cost : Nat → Int32} (hD : DU t (ctT t (t 0)) dues cost) {Post : Int32 → (Nat → Int32) → (Nat → Int32) → (Nat → Int32) → Prop} (hp : ∀ rest, (∀ u, u < 64 → rest u = nI (rvN t u)) → Post (nI (ctT t (t 0))) dues cost rest) : ∀ s, s ≤ 64 → ∀ rest, (∀ u, s ≤ u → u < 64 → rest u = nI (rvN t u)) → wp_X5_weigh_L89 infants retired kind months skills Post (s + 1) (nI s + (-1)) (nI (ctT t (t 0))) dues cost rest := by
  have v0 := hV.1.1
  have hc6 := ct_le t (t 0)
  intro s
  induction s with
  | zero =>
    intro _ rest hr
    rw [m1_0]
    exact ⟨fun _ => hp rest (fun u hu => hr u (Nat.zero_le _) hu), fun q => absurd (by decide) q⟩
  | succ s ih =>
    intro hs rest hr
    have hb6 := bcN_le s
    have ih' := ih (by omega)
    rw [pk_m1]
    have fin : ∀ y : Int32, y = nI (rvN t s) → wp_X5_weigh_J127 infants retired kind months skills Post (fun a b c d e => wp_X5_weigh_L89 infants retired kind months skills Post (s + 1) a b c d e) (nI s) y (nI s) (nI (ctT t (t 0))) dues cost rest := by
      intro y ey
      unfold wp_X5_weigh_J127
      rw [nI_clamp (by omega)]
      refine ⟨vp_in_nI (by omega) (by omega), fun f ef x ex => ?_⟩
      rw [ex]
      refine ih' f (fun u h1 h2 => ?_)
      rw [ef, upd_at]
      by_cases z : u = s
      · rw [if_pos z, ey, z]
      · rw [if_neg z]
        exact hr u (by omega) h2
    refine ⟨fun q => absurd q (nI_pos (by omega)), fun _ => s_bitCount (by omega) (pk_le (ctT t (t 0)) (bcN s) (fun q => fin _ ?_) (fun q => ?_))⟩
    · unfold rvN
      rw [dl_n q, Nat.sub_self]
      rfl
    · obtain ⟨he, hF⟩ := plF hV hD q (by omega : s < 64) rfl (fun u h1 h2 => hr u h1 h2)
      obtain ⟨l1, l2, l3⟩ := dl_in q
      have he1 := he
      rw [show t 0 - dlT t (bcN s) = (t 0 - dlT t (bcN s) - 1) + 1 by omega] at he1
      have hu6 := (en_in l2 he1).1
      obtain ⟨d0, hd0, hf0⟩ := bc_free s (by omega) hu6
      obtain ⟨g1, g2, g3, g4⟩ := fbN_free (f := opF (oT t) (dT t) (t 0 - dlT t (bcN s) - 1) (dlT t (bcN s)) s) hd0 hf0 (hF d0 hd0 hf0).2
      refine s_first9 (by omega) (by omega) hF ?_
      have erv : rvN t s = (fbN (opF (oT t) (dT t) (t 0 - dlT t (bcN s) - 1) (dlT t (bcN s)) s) s 6).2 := by
        unfold rvN
        rw [show t 0 - dlT t (bcN s) = (t 0 - dlT t (bcN s) - 1) + 1 by omega, op_in l2]
        rfl
      rw [g3] at erv
      generalize (fbN (opF (oT t) (dT t) (t 0 - dlT t (bcN s) - 1) (dlT t (bcN s)) s) s 6).1 = g at *
      obtain ⟨f1, f2⟩ := hF g g1 g2
      obtain ⟨s1, s2⟩ := b_set s (by omega) g g1
      have ei : nI (bcN s) * 6 + nI g = nI (bcN s * 6 + g) := by rw [show (6 : Int32) = nI 6 from rfl, pk_mul, nI_add]
      unfold wp_X5_costOf
      rw [ei, s1, nI_clamp (by omega), nI_clamp (by omega), f1]
      exact ⟨vp_in_nI (by omega) (by omega), vp_in_nI s2 (by omega), fin _ (by rw [erv])⟩
theorem s_weigh9 {infants retired month notes sounds pasts : Int32} {kind months home nurse skills noteRow soundRow pastRow : Nat → Int32} {t : Nat → Nat} (hR : CR t infants retired month notes sounds pasts kind months home nurse skills noteRow soundRow pastRow) (hV : VV t) {awaiting : Int32} {dues cost rest : Nat → Int32} {Post : Int32 → (Nat → Int32) → (Nat → Int32) → (Nat → Int32) → Prop} (hp : ∀ dues cost rest, DU t (ctT t (t 0)) dues cost → (∀ u, u < 64 → rest u = nI (rvN t u)) → Post (nI (ctT t (t 0))) dues cost rest) : wp_X5_weigh infants retired kind months skills awaiting dues cost rest Post :=
  ⟨t 0 + 1, s_wgL hR hV (fun dues2 cost2 hD => ⟨65, s_restL hV hD (fun rest2 hr => hp dues2 cost2 rest2 hD hr) 64 (Nat.le_refl _) rest (fun u h1 h2 => absurd h1 (by omega))⟩) (t 0) 0 (by omega) dues cost (fun q hq => absurd hq (Nat.not_lt_zero q))⟩
theorem s_nurseOf9 {t : Nat → Nat} (hV : VV t) {dues cost rest : Nat → Int32} (hD : DU t (ctT t (t 0)) dues cost) (hr : ∀ u, u < 64 → rest u = nI (rvN t u)) {i : Nat} (hi : i < 6) {Post : Int32 → Prop} : ∀ d p, p + d = ctT t (t 0) → ∀ u, u < 64 → bcN u = p → Post (anN (oT t) (dT t) (t 0 - dlT t p) (dlT t p) u i) → wp_X5_nurseOf_L4 (nI (ctT t (t 0))) dues cost rest Post (d + 1) (nI i) (nI u) (nI p) := by
  have v0 := hV.1.1
  have hc6 := ct_le t (t 0)
  intro d
  induction d with
  | zero =>
    intro p e u hu hpu hp
    obtain rfl : p = ctT t (t 0) := by omega
    rw [dl_n (Nat.le_refl _), Nat.sub_self] at hp
    exact ⟨fun _ => hp, fun q => absurd (nI_le (Nat.le_refl _) (by omega)) q⟩
  | succ d ih =>
    intro p e u hu hpu hp
    have hpa : p < ctT t (t 0) := by omega
    obtain ⟨he, hF⟩ := plF hV hD hpa hu hpu (fun s h1 h2 => hr s h2)
    obtain ⟨l1, l2, l3⟩ := dl_in hpa
    have he1 := he
    rw [show t 0 - dlT t p = (t 0 - dlT t p - 1) + 1 by omega] at he1
    have hu6 := (en_in l2 he1).1
    obtain ⟨d0, hd0, hf0⟩ := bc_free u hu hu6
    obtain ⟨g1, g2, g3, g4⟩ := fbN_free (f := opF (oT t) (dT t) (t 0 - dlT t p - 1) (dlT t p) u) hd0 hf0 (hF d0 hd0 hf0).2
    refine ⟨fun q => absurd q (nI_ge (by omega) (by omega)), fun _ => s_first9 (by omega) hu hF ⟨vp_in_nI (by omega) (by omega), ?_⟩⟩
    rw [show t 0 - dlT t p = (t 0 - dlT t p - 1) + 1 by omega, an_succ, if_neg (by rw [l2]; decide)] at hp
    generalize (fbN (opF (oT t) (dT t) (t 0 - dlT t p - 1) (dlT t p) u) u 6).1 = g at *
    rw [nI_clamp (by omega), (hD p hpa).1]
    refine pk_eq (dlT t p) i (fun z => ?_) (fun z x ex y ey => ?_)
    · rw [if_pos z] at hp
      exact hp
    · rw [if_neg z, an_at (t 0 - dlT t p - 1) (dlT t p + 1) (by omega), ct_in l2, l3] at hp
      rw [ey, nI_1, ex, (b_set u hu g g1).1]
      exact ih (p + 1) (by omega) _ (b_set u hu g g1).2 (by rw [bc_set u hu g g1 g2, hpu]) hp
