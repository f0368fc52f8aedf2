/-! keep and remember, undo and recall. -/
def kq (t : Nat → Nat) : Nat := if t 3 = 8 then 7 else t 3
def ks (t : Nat → Nat) : Nat := if t 3 = 8 then 1 else 0
def kp (t : Nat → Nat) : Nat → Nat := fun k => if k = 3 then kq t + 1 else if k < 78 then t k else if k < 78 + 14 * kq t then t (k + 14 * ks t) else if k < 92 + 14 * kq t then t (k - (74 + 14 * kq t)) else t k
theorem kq_le {t : Nat → Nat} (h : t 3 ≤ 8) : kq t ≤ 7 := by unfold kq; split <;> omega
theorem kq_ks {t : Nat → Nat} (h : t 3 ≤ 8) : kq t + ks t = t 3 := by unfold kq ks; split <;> omega
theorem kp_3 (t : Nat → Nat) : kp t 3 = kq t + 1 := rfl
theorem kp_lo (t : Nat → Nat) {k : Nat} (h : k < 78) (h3 : k ≠ 3) : kp t k = t k := by
  unfold kp
  rw [if_neg h3, if_pos h]
theorem kp_old (t : Nat → Nat) {p e : Nat} (hp : p < kq t) (he : e < 14) : kp t (78 + 14 * p + e) = t (78 + 14 * (p + ks t) + e) := by
  unfold kp
  rw [if_neg (by omega), if_neg (by omega), if_pos (by omega)]
  congr 1
  omega
theorem kp_new (t : Nat → Nat) {e : Nat} (he : e < 14) : kp t (78 + 14 * kq t + e) = t (4 + e) := by
  unfold kp
  rw [if_neg (by omega), if_neg (by omega), if_neg (by omega), if_pos (by omega)]
  congr 1
  omega
theorem s_keepB {t : Nat → Nat} {told : Nat → Int32} (h : MR t told) {q : Nat} (hq : q ≤ 7) (h3 : t 3 = q) {Post : (Nat → Int32) → Prop} (hp : ∀ f, MR (fun k => if k = 3 then q + 1 else if 78 + 14 * q ≤ k ∧ k < 92 + 14 * q then t (k - (74 + 14 * q)) else t k) f → Post f) : wp_X10_keep_J51 Post told := by
  unfold wp_X10_keep_J51
  refine lp2 (wp_X10_keep_L53 Post _) (fun a f => ∃ e, e ≤ 14 ∧ a = nI e ∧ MR (fun k => if 78 + 14 * q ≤ k ∧ k < 78 + 14 * q + e then t (k - (74 + 14 * q)) else t k) f) (fun a _ => 14 - a.toNatClampNeg) ?_ 0 told ⟨0, by omega, rfl, fun k hk => ?_⟩
  · rintro m a f ⟨e, he, rfl, hf⟩ ih
    refine pk_le 14 e (fun z x ex g eg => ?_) (fun z => ?_)
    · obtain rfl : e = 14 := by omega
      refine hp g (fun k hk => ?_)
      have f3 := hf 3 (by omega)
      simp only at f3
      rw [if_neg (by omega), h3] at f3
      have := hf k hk
      simp only at this ⊢
      rw [eg, upd_at]
      by_cases z3 : k = 3
      · rw [if_pos z3, if_pos z3, ex, f3, nI_1]
      · rw [if_neg z3, if_neg z3, this, show 78 + 14 * q + 14 = 92 + 14 * q by omega]
    · have f3 := hf 3 (by omega)
      have f4 := hf (4 + e) (by omega)
      simp only at f3 f4
      rw [if_neg (by omega), h3] at f3
      rw [if_neg (by omega)] at f4
      have ei : (78 : Int32) + 14 * f 3 + nI e = nI (78 + 14 * q + e) := by
        rw [f3, show (14 : Int32) = nI 14 from rfl, pk_mul, show (78 : Int32) = nI 78 from rfl, nI_add, nI_add]
      refine ⟨pk_in (4 + e) 190 (by omega) (nI_add 4 e), fun x ex => ⟨pk_in _ 190 (by omega) ei, fun g eg y ey => ih y g ⟨e + 1, by omega, by rw [ey, nI_1], fun k hk => ?_⟩ ?_⟩⟩
      · rw [show (4 : Int32) + nI e = nI (4 + e) from nI_add 4 e, nI_clamp (by omega), f4] at ex
        rw [eg, ei, nI_clamp (by omega), upd_at]
        have := hf k hk
        simp only at this ⊢
        by_cases z1 : k = 78 + 14 * q + e
        · rw [if_pos z1, if_pos (by omega), ex]
          congr 2
          omega
        · rw [if_neg z1, this]
          by_cases z2 : 78 + 14 * q ≤ k ∧ k < 78 + 14 * q + e
          · rw [if_pos z2, if_pos (by omega)]
          · rw [if_neg z2, if_neg (by omega)]
      · rw [ey, nI_1, nI_clamp (by omega), nI_clamp (by omega)]
        omega
  · simp only
    rw [if_neg (by omega)]
    exact h k hk
theorem s_keep {t : Nat → Nat} {told : Nat → Int32} (h : MR t told) (h8 : t 3 ≤ 8) {Post : (Nat → Int32) → Prop} (hp : ∀ f, MR (kp t) f → Post f) : wp_X10_keep told Post := by
  unfold wp_X10_keep
  refine pk_eq (t 3) 8 (fun z => ?_) (fun z => ?_) (h 3 (by omega))
  · have ekq : kq t = 7 := by unfold kq; rw [if_pos z]
    have eks : ks t = 1 := by unfold ks; rw [if_pos z]
    refine lp2 (wp_X10_keep_L13 Post _) (fun a f => ∃ e, e ≤ 98 ∧ a = nI e ∧ MR (fun k => if 78 ≤ k ∧ k < 78 + e then t (k + 14) else t k) f) (fun a _ => 98 - a.toNatClampNeg) ?_ 0 told ⟨0, by omega, rfl, fun k hk => ?_⟩
    · rintro m a f ⟨e, he, rfl, hf⟩ ih
      refine pk_le 98 e (fun z2 g eg => ?_) (fun z2 => ?_)
      · obtain rfl : e = 98 := by omega
        refine s_keepB (t := up (fun k => if 78 ≤ k ∧ k < 78 + 98 then t (k + 14) else t k) 3 7) (MR_upf hf eg rfl) (Nat.le_refl 7) (up_eq _ _ _) (fun f2 hf2 => hp f2 (fun k hk => ?_))
        rw [hf2 k hk]
        congr 1
        unfold kp
        rw [ekq, eks]
        simp only
        by_cases c1 : k = 3
        · rw [if_pos c1, if_pos c1]
        · rw [if_neg c1, if_neg c1]
          by_cases c2 : k < 78
          · rw [if_pos c2, if_neg (by omega), up_ne c1, if_neg (by omega)]
          · rw [if_neg c2]
            by_cases c3 : k < 78 + 14 * 7
            · rw [if_pos c3, if_neg (by omega), up_ne c1, if_pos (by omega)]
            · rw [if_neg c3, if_pos (by omega), if_pos (by omega), up_ne (by omega), if_neg (by omega)]
      · have f92 := hf (92 + e) (by omega)
        simp only at f92
        rw [if_neg (by omega)] at f92
        refine ⟨pk_in (92 + e) 190 (by omega) (nI_add 92 e), fun x ex => ⟨pk_in (78 + e) 190 (by omega) (nI_add 78 e), fun g eg y ey => ih y g ⟨e + 1, by omega, by rw [ey, nI_1], fun k hk => ?_⟩ ?_⟩⟩
        · rw [show (92 : Int32) + nI e = nI (92 + e) from nI_add 92 e, nI_clamp (by omega), f92] at ex
          rw [eg, show (78 : Int32) + nI e = nI (78 + e) from nI_add 78 e, nI_clamp (by omega), upd_at]
          have := hf k hk
          simp only at this ⊢
          by_cases z1 : k = 78 + e
          · rw [if_pos z1, if_pos (by omega), ex]
            congr 2
            omega
          · rw [if_neg z1, this]
            by_cases z2 : 78 ≤ k ∧ k < 78 + e
            · rw [if_pos z2, if_pos (by omega)]
            · rw [if_neg z2, if_neg (by omega)]
        · rw [ey, nI_1, nI_clamp (by omega), nI_clamp (by omega)]
          omega
    · simp only
      rw [if_neg (by omega)]
      exact h k hk
  · have ekq : kq t = t 3 := by unfold kq; rw [if_neg z]
    have eks : ks t = 0 := by unfold ks; rw [if_neg z]
    refine s_keepB h (by omega) rfl (fun f hf => hp f (fun k hk => ?_))
    rw [hf k hk]
    congr 1
    unfold kp
    rw [ekq, eks]
    dsimp only
    by_cases c1 : k = 3
    · rw [if_pos c1, if_pos c1]
    · rw [if_neg c1, if_neg c1]
      by_cases c2 : k < 78
      · rw [if_pos c2, if_neg (by omega)]
      · rw [if_neg c2]
        by_cases c3 : k < 78 + 14 * t 3
        · rw [if_pos c3, if_neg (by omega)]
          congr 1
        · rw [if_neg c3]
          by_cases c4 : k < 92 + 14 * t 3
          · rw [if_pos c4, if_pos (by omega)]
          · rw [if_neg c4, if_neg (by omega)]
theorem VV_kp {t : Nat → Nat} (hV : VV t) : VV (kp t) := by
  obtain ⟨⟨v0, vn, vs, vp, vr, vm⟩, vi, vk, vno, vso, vpa⟩ := hV
  have q7 := kq_le vp
  have qs := kq_ks vp
  have lo : ∀ k, k < 78 → k ≠ 3 → kp t k = t k := fun k h h3 => kp_lo t h h3
  refine ⟨⟨?_, ?_, ?_, ?_, ?_, ?_⟩, ?_, ?_, ?_, ?_, ?_⟩
  · rw [lo 0 (by omega) (by omega)]; exact v0
  · rw [lo 1 (by omega) (by omega)]; exact vn
  · rw [lo 2 (by omega) (by omega)]; exact vs
  · rw [kp_3]; omega
  · rw [lo 10 (by omega) (by omega)]; exact vr
  · rw [lo 17 (by omega) (by omega)]; exact vm
  · intro j hj
    rw [lo 0 (by omega) (by omega)] at hj
    rw [lo (24 + j) (by omega) (by omega), lo (4 + j) (by omega) (by omega), lo (30 + j) (by omega) (by omega), lo (11 + j) (by omega) (by omega), lo 10 (by omega) (by omega)]
    exact vi j hj
  · intro j hj; rw [lo (18 + j) (by omega) (by omega)]; exact vk j hj
  · intro j hj
    rw [lo 1 (by omega) (by omega)] at hj
    rw [lo (36 + 5 * j) (by omega) (by omega), lo (36 + 5 * j + 1) (by omega) (by omega), lo (36 + 5 * j + 2) (by omega) (by omega), lo (36 + 5 * j + 3) (by omega) (by omega), lo (36 + 5 * j + 4) (by omega) (by omega), lo 0 (by omega) (by omega)]
    exact vno j hj
  · intro j hj
    rw [lo 2 (by omega) (by omega)] at hj
    rw [lo (66 + 2 * j) (by omega) (by omega), lo (66 + 2 * j + 1) (by omega) (by omega), lo 0 (by omega) (by omega)]
    exact vso j hj
  · intro p hp
    rw [kp_3] at hp
    rw [lo 0 (by omega) (by omega)]
    by_cases z : p < kq t
    · obtain ⟨a1, a2, a3⟩ := vpa (p + ks t) (by omega)
      rw [kp_old t z (by omega), kp_old t z (by omega)]
      refine ⟨a1, a2, fun i hi => ?_⟩
      rw [kp_old t z (by omega), show 78 + 14 * p + 7 + i = 78 + 14 * p + (7 + i) by omega, kp_old t z (by omega), show 78 + 14 * (p + ks t) + (7 + i) = 78 + 14 * (p + ks t) + 7 + i by omega]
      exact a3 i hi
    · obtain rfl : p = kq t := by omega
      rw [kp_new t (by omega), kp_new t (by omega)]
      refine ⟨vm, vr, fun i hi => ?_⟩
      rw [kp_new t (by omega), show 78 + 14 * kq t + 7 + i = 78 + 14 * kq t + (7 + i) by omega, kp_new t (by omega)]
      obtain ⟨a1, a2, a3, a4, a5⟩ := vi i hi
      exact ⟨a2, a3, by rw [show 4 + (7 + i) = 11 + i by omega]; exact a5⟩
theorem s_rememberB {t : Nat → Nat} {retired month pasts : Int32} {months nurse pastRow : Nat → Int32} (er : retired = nI (t 10)) (em : month = nI (t 17)) (v0 : t 0 ≤ 6) (hi : ∀ i, i < t 0 → months i = nI (t (4 + i)) ∧ nurse i = nI (t (11 + i))) {q : Nat} (hq : q ≤ 7) (ep : pasts = nI q) {Post : Int32 → (Nat → Int32) → Prop} (hP : ∀ row, (∀ k, k < 14 * q → row k = pastRow k) → row (14 * q) = nI (t 17) → row (14 * q + 1) = nI (t 10) → (∀ i, i < t 0 → row (14 * q + 2 + i) = nI (t (4 + i)) ∧ row (14 * q + 8 + i) = nI (t (11 + i))) → Post (nI (q + 1)) row) : wp_X1_remember_J31 retired month months nurse Post pasts pastRow := by
  intro x ex
  have ex' : x = nI (14 * q) := by rw [ex, ep, show (14 : Int32) = nI 14 from rfl, pk_mul]; congr 1; omega
  subst ex'
  have a1 : nI (14 * q) + 1 = nI (14 * q + 1) := nI_1 _
  have a2 : nI (14 * q) + 2 = nI (14 * q + 2) := nI_add _ 2
  have a3 : nI (14 * q + 2) + 6 = nI (14 * q + 8) := nI_add _ 6
  rw [a1, a2, a3, nI_clamp (by omega), nI_clamp (by omega), nI_clamp (by omega), nI_clamp (by omega)]
  refine ⟨vp_in_nI (by omega) (by omega), fun f1 e1 => ⟨vp_in_nI (by omega) (by omega), fun f2 e2 => ⟨nI_pos (by omega), by omega, fun f3 e3 => ⟨nI_pos (by omega), by omega, fun f4 e4 y ey => ?_⟩⟩⟩⟩
  rw [ey, ep, nI_1]
  refine hP f4 ?_ ?_ ?_ ?_
  · intro k hk
    rw [e4, pk_cpy_out (by omega), e3, pk_cpy_out (by omega), e2, pk_un (by omega), e1, pk_un (by omega)]
  · rw [e4, pk_cpy_out (by omega), e3, pk_cpy_out (by omega), e2, pk_un (by omega), e1, pk_us, em]
  · rw [e4, pk_cpy_out (by omega), e3, pk_cpy_out (by omega), e2, pk_us, er]
  · intro i h
    obtain ⟨b1, b2⟩ := hi i h
    refine ⟨?_, ?_⟩
    · rw [e4, pk_cpy_out (by omega), e3, pk_cpy_in (by omega) (by omega), show 0 + (14 * q + 2 + i - (14 * q + 2)) = i by omega, b1]
    · rw [e4, pk_cpy_in (by omega) (by omega), show 0 + (14 * q + 8 + i - (14 * q + 8)) = i by omega, b2]
theorem s_remember {infants retired month notes sounds pasts : Int32} {kind months home nurse skills noteRow soundRow pastRow : Nat → Int32} {t : Nat → Nat} (hR : CR t infants retired month notes sounds pasts kind months home nurse skills noteRow soundRow pastRow) (hV : VV t) {Post : Int32 → (Nat → Int32) → Prop} (hP : ∀ p9 row9, CR (kp t) infants retired month notes sounds p9 kind months home nurse skills noteRow soundRow row9 → Post p9 row9) : wp_X1_remember retired month months nurse pasts pastRow Post := by
  obtain ⟨⟨e0, e10, e17, e1, e2, e3⟩, hi, hs, hn, ho, hp⟩ := hR
  obtain ⟨⟨v0, vn, vs, vp, vr, vm⟩, vi, vk, vno, vso, vpa⟩ := hV
  have lo : ∀ k, k < 78 → k ≠ 3 → kp t k = t k := fun k h h3 => kp_lo t h h3
  have q7 := kq_le vp
  have qs := kq_ks vp
  have fin : ∀ row, (∀ k, k < 14 * kq t → row k = pastRow (k + 14 * ks t)) → row (14 * kq t) = nI (t 17) → row (14 * kq t + 1) = nI (t 10) → (∀ i, i < t 0 → row (14 * kq t + 2 + i) = nI (t (4 + i)) ∧ row (14 * kq t + 8 + i) = nI (t (11 + i))) → Post (nI (kq t + 1)) row := by
    intro row r1 r2 r3 r4
    refine hP _ _ ⟨⟨?_, ?_, ?_, ?_, ?_, ?_⟩, ?_, ?_, ?_, ?_, ?_⟩
    · rw [lo 0 (by omega) (by omega), e0]
    · rw [lo 10 (by omega) (by omega), e10]
    · rw [lo 17 (by omega) (by omega), e17]
    · rw [lo 1 (by omega) (by omega), e1]
    · rw [lo 2 (by omega) (by omega), e2]
    · rw [kp_3]
    · intro j hj
      rw [lo 0 (by omega) (by omega)] at hj
      rw [lo (24 + j) (by omega) (by omega), lo (4 + j) (by omega) (by omega), lo (30 + j) (by omega) (by omega), lo (11 + j) (by omega) (by omega)]
      exact hi j hj
    · intro j hj; rw [lo (18 + j) (by omega) (by omega)]; exact hs j hj
    · intro j hj; rw [lo 1 (by omega) (by omega)] at hj; rw [lo (36 + j) (by omega) (by omega)]; exact hn j hj
    · intro j hj; rw [lo 2 (by omega) (by omega)] at hj; rw [lo (66 + j) (by omega) (by omega)]; exact ho j hj
    · intro p hq
      rw [kp_3] at hq
      rw [lo 0 (by omega) (by omega)]
      by_cases z : p < kq t
      · obtain ⟨a1, a2, a3⟩ := hp (p + ks t) (by omega)
        rw [kp_old t z (by omega), kp_old t z (by omega), r1 _ (by omega), r1 _ (by omega), show 14 * p + 14 * ks t = 14 * (p + ks t) by omega, show 14 * p + 1 + 14 * ks t = 14 * (p + ks t) + 1 by omega]
        refine ⟨a1, a2, fun i h => ?_⟩
        rw [kp_old t z (by omega), show 78 + 14 * p + 7 + i = 78 + 14 * p + (7 + i) by omega, kp_old t z (by omega), r1 _ (by omega), r1 _ (by omega), show 14 * p + 2 + i + 14 * ks t = 14 * (p + ks t) + 2 + i by omega, show 14 * p + 8 + i + 14 * ks t = 14 * (p + ks t) + 8 + i by omega, show 78 + 14 * (p + ks t) + (7 + i) = 78 + 14 * (p + ks t) + 7 + i by omega]
        exact a3 i h
      · obtain rfl : p = kq t := by omega
        rw [kp_new t (by omega), kp_new t (by omega)]
        refine ⟨r2, r3, fun i h => ?_⟩
        rw [kp_new t (by omega), show 78 + 14 * kq t + 7 + i = 78 + 14 * kq t + (7 + i) by omega, kp_new t (by omega), show 4 + (7 + i) = 11 + i by omega]
        exact r4 i h
  unfold wp_X1_remember
  refine pk_lt (t 3) 8 (fun z => ?_) (fun z => ?_) e3
  · have ekq : kq t = t 3 := by unfold kq; rw [if_neg (by omega)]
    have eks : ks t = 0 := by unfold ks; rw [if_neg (by omega)]
    rw [ekq, eks] at fin
    exact s_rememberB e10 e17 v0 (fun i h => ⟨(hi i h).2.1, (hi i h).2.2.2⟩) (by omega) e3 fin
  · have ekq : kq t = 7 := by unfold kq; rw [if_pos (by omega)]
    have eks : ks t = 1 := by unfold ks; rw [if_pos (by omega)]
    rw [ekq, eks] at fin
    intro f ef
    refine s_rememberB e10 e17 v0 (fun i h => ⟨(hi i h).2.1, (hi i h).2.2.2⟩) (q := 7) (by omega) rfl (fun row r1 => fin row (fun k hk => ?_))
    rw [r1 k hk, ef, pk_cpy_in (by omega) (by omega)]
    congr 1
    omega
