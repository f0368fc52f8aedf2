/-! keep and remember, undo and recall. -/
def kq (t : Nat → Nat) : Nat := if t 3 = 8 then 7 else t 3
def ks (t : Nat → Nat) : Nat := if t 3 = 8 then 1 else 0
def kp (t : Nat → Nat) : Nat → Nat := fun k => if k = 3 then kq t + 1 else if k < 78 then t k else if k < 78 + 14 * kq t then t (k + 14 * ks t) else if k < 92 + 14 * kq t then t (k - (74 + 14 * kq t)) else t k
theorem kq_le {t : Nat → Nat} (h : t 3 ≤ 8) : kq t ≤ 7 := by unfold kq; split <;> omega
theorem kq_ks {t : Nat → Nat} (h : t 3 ≤ 8) : kq t + ks t = t 3 := by unfold kq ks; split <;> omega
theorem kp_3 (t : Nat → Nat) : kp t 3 = kq t + 1 := rfl
theorem kp_lo (t : Nat → Nat) {k : Nat} (h : k < 78) (h3 : k ≠ 3) : kp t k = t k := by
  unfold kp
  rw [if_neg h3, if_pos h]
theorem kp_old (t : Nat → Nat) {p e : Nat} (hp : p < kq t) (he : e < 14) : kp t (78 + 14 * p + e) = t (78 + 14 * (p + ks t) + e) := by
  unfold kp
  rw [if_neg (by omega), if_neg (by omega), if_pos (by omega)]
  congr 1
  omega
theorem kp_new (t : Nat → Nat) {e : Nat} (he : e < 14) : kp t (78 + 14 * kq t + e) = t (4 + e) := by
  unfold kp
  rw [if_neg (by omega), if_neg (by omega), if_neg (by omega), if_pos (by omega)]
  congr 1
  omega
theorem s_keepB {t : Nat → Nat} {told : Nat → Int32} (h : MR t told) {q : Nat} (hq : q ≤ 7) (h3 : t 3 = q) {Post : (Nat → Int32) → Prop} (hp : ∀ f, MR (fun k => if k = 3 then q + 1 else if 78 + 14 * q ≤ k ∧ k < 92 + 14 * q then t (k - (74 + 14 * q)) else t k) f → Post f) : wp_X10_keep_J51 Post told := by
  unfold wp_X10_keep_J51
  refine lp2 (wp_X10_keep_L53 Post _) (fun a f => ∃ e, e ≤ 14 ∧ a = nI e ∧ MR (fun k => if 78 + 14 * q ≤ k ∧ k < 78 + 14 * q + e then t (k - (74 + 14 * q)) else t k) f) (fun a _ => 14 - a.toNatClampNeg) ?_ 0 told ⟨0, by omega, rfl, fun k hk => ?_⟩
  · rintro m a f ⟨e, he, rfl, hf⟩ ih
    refine pk_le 14 e (fun z x ex g eg => ?_) (fun z => ?_)
    · obtain rfl : e = 14 := by omega
      refine hp g (fun k hk => ?_)
      have f3 := hf 3 (by omega)
      simp only at f3
      rw [if_neg (by omega), h3] at f3
      have := hf k hk
      simp only at this ⊢
      rw [eg, upd_at]
      by_cases z3 : k = 3
      · rw [if_pos z3, if_pos z3, ex, f3, nI_1]
      · rw [if_neg z3, if_neg z3, this]
    · have f3 := hf 3 (by omega)
      have f4 := hf (4 + e) (by omega)
      simp only at f3 f4
      rw [if_neg (by omega), h3] at f3
      rw [if_neg (by omega)] at f4
      have ei : (78 : Int32) + 14 * f 3 + nI e = nI (78 + 14 * q + e) := by
        rw [f3, show (14 : Int32) = nI 14 from rfl, pk_mul, show (78 : Int32) = nI 78 from rfl, nI_add, nI_add]
      refine ⟨pk_in (4 + e) 190 (by omega) (nI_add 4 e), fun x ex => ⟨pk_in _ 190 (by omega) ei, fun g eg y ey => ih y g ⟨e + 1, by omega, by rw [ey, nI_1], fun k hk => ?_⟩ ?_⟩⟩
      · rw [show (4 : Int32) + nI e = nI (4 + e) from nI_add 4 e, nI_clamp (by omega), f4] at ex
        rw [eg, ei, nI_clamp (by omega), upd_at]
        have := hf k hk
        simp only at this ⊢
        by_cases z1 : k = 78 + 14 * q + e
        · rw [if_pos z1, if_pos (by omega), ex]
          congr 2
          omega
        · rw [if_neg z1, this]
          by_cases z2 : 78 + 14 * q ≤ k ∧ k < 78 + 14 * q + e
          · rw [if_pos z2, if_pos (by omega)]
          · rw [if_neg z2, if_neg (by omega)]
      · rw [ey, nI_1, nI_clamp (by omega), nI_clamp (by omega)]
        omega
  · simp only
    rw [if_neg (by omega)]
    exact h k hk
theorem s_keep {t : Nat → Nat} {told : Nat → Int32} (h : MR t told) (h8 : t 3 ≤ 8) {Post : (Nat → Int32) → Prop} (hp : ∀ f, MR (kp t) f → Post f) : wp_X10_keep told Post := by
  unfold wp_X10_keep
  refine pk_eq (t 3) 8 (fun z => ?_) (fun z => ?_) (h 3 (by omega))
  · have ekq : kq t = 7 := by unfold kq; rw [if_pos z]
    have eks : ks t = 1 := by unfold ks; rw [if_pos z]
    refine lp2 (wp_X10_keep_L13 Post _) (fun a f => ∃ e, e ≤ 98 ∧ a = nI e ∧ MR (fun k => if 78 ≤ k ∧ k < 78 + e then t (k + 14) else t k) f) (fun a _ => 98 - a.toNatClampNeg) ?_ 0 told ⟨0, by omega, rfl, fun k hk => ?_⟩
    · rintro m a f ⟨e, he, rfl, hf⟩ ih
      refine pk_le 98 e (fun z2 g eg => ?_) (fun z2 => ?_)
      · obtain rfl : e = 98 := by omega
        refine s_keepB (t := up (fun k => if 78 ≤ k ∧ k < 78 + 98 then t (k + 14) else t k) 3 7) (MR_upf hf eg rfl) (Nat.le_refl 7) (up_eq _ _ _) (fun f2 hf2 => hp f2 (fun k hk => ?_))
        rw [hf2 k hk]
        congr 1
        unfold kp
        rw [ekq, eks]
        simp only
        by_cases c1 : k = 3
        · rw [if_pos c1, if_pos c1]
        · rw [if_neg c1, if_neg c1]
          by_cases c2 : k < 78
          · rw [if_pos c2, if_neg (by omega), up_ne c1, if_neg (by omega)]
          · rw [if_neg c2]
            by_cases c3 : k < 78 + 14 * 7
            · rw [if_pos c3, if_neg (by omega), up_ne c1, if_pos (by omega)]
            · rw [if_neg c3, if_pos (by omega), if_pos (by omega), up_ne (by omega), if_neg (by omega)]
      · have f92 := hf (92 + e) (by omega)
        simp only at f92
        rw [if_neg (by omega)] at f92
        refine ⟨pk_in (92 + e) 190 (by omega) (nI_add 92 e), fun x ex => ⟨pk_in (78 + e) 190 (by omega) (nI_add 78 e), fun g eg y ey => ih y g ⟨e + 1, by omega, by rw [ey, nI_1], fun k hk => ?_⟩ ?_⟩⟩
        · rw [show (92 : Int32) + nI e = nI (92 + e) from nI_add 92 e, nI_clamp (by omega), f92] at ex
          rw [eg, show (78 : Int32) + nI e = nI (78 + e) from nI_add 78 e, nI_clamp (by omega), upd_at]
          have := hf k hk
          simp only at this ⊢
          by_cases z1 : k = 78 + e
          · rw [if_pos z1, if_pos (by omega), ex]
            congr 2
            omega
          · rw [if_neg z1, this]
            by_cases z2 : 78 ≤ k ∧ k < 78 + e
            · rw [if_pos z2, if_pos (by omega)]
            · rw [if_neg z2, if_neg (by omega)]
        · rw [ey, nI_1, nI_clamp (by omega), nI_clamp (by omega)]
          omega
    · simp only
      rw [if_neg (by omega)]
      exact h k hk
  · have ekq : kq t = t 3 := by unfold kq; rw [if_neg z]
    have eks : ks t = 0 := by unfold ks; rw [if_neg z]
    refine s_keepB h (by omega) rfl (fun f hf => hp f (fun k hk => ?_))
    rw [hf k hk]
    congr 1
    unfold kp
    rw [ekq, eks]
    by_cases c1 : k = 3
    · rw [if_pos c1, if_pos c1]
    · rw [if_neg c1, if_neg c1]
      by_cases c2 : k < 78
      · rw [if_pos c2, if_neg (by omega)]
      · rw [if_neg c2]
        by_cases c3 : k < 78 + 14 * t 3
        · rw [if_pos c3, if_neg (by omega)]
          congr 1
        · rw [if_neg c3]
          by_cases c4 : k < 92 + 14 * t 3
          · rw [if_pos c4, if_pos (by omega)]
          · rw [if_neg c4, if_neg (by omega)]
