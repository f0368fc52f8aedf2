/-! The hand after some months; month, nurse, retire, undo. -/
def hM (n : Nat) (kd : Nat → Nat) (r : Nat) (mo : Nat → Nat) : Nat → Nat × (Nat → Nat)
  | 0 => (r, mo)
  | m + 1 => (grt (hM n kd r mo m).1 kd (hM n kd r mo m).2 n, gmo (hM n kd r mo m).1 (hM n kd r mo m).2)
theorem hM_succ (n : Nat) (kd : Nat → Nat) (r : Nat) (mo : Nat → Nat) (m : Nat) : hM n kd r mo (m + 1) = (grt (hM n kd r mo m).1 kd (hM n kd r mo m).2 n, gmo (hM n kd r mo m).1 (hM n kd r mo m).2) := rfl
theorem hM_r {n : Nat} (hn : n ≤ 6) (kd : Nat → Nat) {r : Nat} (hr : r < 64) (mo : Nat → Nat) : ∀ m, (hM n kd r mo m).1 < 64
  | 0 => hr
  | m + 1 => (grt_ok _ (hM_r hn kd hr mo m) kd _ n hn).1
theorem hM_le (n : Nat) (kd : Nat → Nat) (r : Nat) (mo : Nat → Nat) (i : Nat) : ∀ m, (hM n kd r mo m).2 i ≤ mo i + m
  | 0 => Nat.le_refl _
  | m + 1 => by
    have := hM_le n kd r mo i m
    rw [hM_succ]
    show gmo _ _ i ≤ _
    unfold gmo
    split <;> omega
theorem soO_0 (r : Nat) (kd mo : Nat → Nat) (i : Nat) : soO r 0 kd mo i = r.testBit i := by simp [soO]
theorem soO_mono {r m : Nat} {kd mo : Nat → Nat} {i : Nat} (h : soO r (m + 1) kd mo i = false) : soO r m kd mo i = false := by
  unfold soO at h ⊢
  rw [Bool.or_eq_false_iff] at h ⊢
  refine ⟨h.1, ?_⟩
  have h2 := h.2
  rw [Bool.and_eq_false_iff, decide_eq_false_iff_not, decide_eq_false_iff_not] at h2 ⊢
  omega
theorem soO_step {r m : Nat} {kd mo : Nat → Nat} {i : Nat} (h : soO r m kd mo i = true) : soO r (m + 1) kd mo i = true := by
  cases h2 : soO r (m + 1) kd mo i with
  | true => rfl
  | false => rw [soO_mono h2] at h; cases h
/-- who is out after m months, and the months of the others -/
theorem hM_out {n : Nat} (hn : n ≤ 6) (kd : Nat → Nat) {r : Nat} (hr : r < 64) (mo : Nat → Nat) : ∀ m i, i < n → (hM n kd r mo m).1.testBit i = soO r m kd mo i ∧ (soO r m kd mo i = false → (hM n kd r mo m).2 i = mo i + m)
  | 0, i, hi => ⟨(soO_0 r kd mo i).symm, fun _ => rfl⟩
  | m + 1, i, hi => by
    obtain ⟨h1, h2⟩ := hM_out hn kd hr mo m i hi
    have hg := (grt_ok _ (hM_r hn kd hr mo m) kd (hM n kd r mo m).2 n hn).2 i (by omega)
    have a1 : (hM n kd r mo (m + 1)).1.testBit i = soO r (m + 1) kd mo i := by
      rw [hM_succ]
      show (grt _ kd _ n).testBit i = _
      rw [hg, h1]
      cases hs : soO r m kd mo i with
      | true => rw [soO_step hs]; rfl
      | false =>
        rw [h2 hs]
        have hb : r.testBit i = false := by
          unfold soO at hs
          rw [Bool.or_eq_false_iff] at hs
          exact hs.1
        unfold soO
        rw [hb, decide_eq_true hi, decide_eq_true (Nat.succ_pos m)]
        rfl
    refine ⟨a1, fun hs => ?_⟩
    have hs0 := soO_mono hs
    rw [hM_succ]
    show gmo _ _ i = _
    unfold gmo
    rw [h1, hs0, h2 hs0]
    simp only [Bool.false_eq_true, if_false]
    omega
/-- the reference's reign is the class's -/
theorem hM_rg {n : Nat} (hn : n ≤ 6) (kd : Nat → Nat) {r : Nat} (hr : r < 64) (mo : Nat → Nat) (m : Nat) : rg (fun i => (hM n kd r mo m).1.testBit i) (hM n kd r mo m).2 n = rg (soO r m kd mo) mo n := by
  refine rg_cong (fun i hi => (hM_out hn kd hr mo m i hi).1) (fun i j hi hj oi oj => ?_)
  obtain ⟨a1, a2⟩ := hM_out hn kd hr mo m i hi
  obtain ⟨b1, b2⟩ := hM_out hn kd hr mo m j hj
  rw [a2 (a1.symm.trans oi), b2 (b1.symm.trans oj)]
  omega
theorem hM_rg0 {n : Nat} (hn : n ≤ 6) (kd : Nat → Nat) {r : Nat} (hr : r < 64) (mo : Nat → Nat) (m : Nat) : rg (soO (hM n kd r mo m).1 0 kd (hM n kd r mo m).2) (hM n kd r mo m).2 n = rg (soO r m kd mo) mo n := by
  rw [← hM_rg hn kd hr mo m]
  exact rg_cong (fun i hi => soO_0 _ _ _ _) (fun i j hi hj oi oj => Iff.rfl)
theorem hM_b {n : Nat} (hn : n ≤ 6) (kd : Nat → Nat) {r : Nat} (hr : r < 64) (mo : Nat → Nat) (h : ∀ i, i < n → mo i ≤ 36 ∧ (r.testBit i = false → mo i ≤ 35)) : ∀ m i, i < n → (hM n kd r mo m).2 i ≤ 36 ∧ ((hM n kd r mo m).1.testBit i = false → (hM n kd r mo m).2 i ≤ 35)
  | 0, i, hi => h i hi
  | m + 1, i, hi => by
    obtain ⟨h1, h2⟩ := hM_b hn kd hr mo h m i hi
    have hg := (grt_ok _ (hM_r hn kd hr mo m) kd (hM n kd r mo m).2 n hn).2 i (by omega)
    have hw := wkN_le (kd i)
    rw [hM_succ]
    show gmo _ _ i ≤ 36 ∧ ((grt _ kd _ n).testBit i = false → gmo _ _ i ≤ 35)
    rw [hg]
    unfold gmo
    cases hb : (hM n kd r mo m).1.testBit i with
    | true =>
      simp only [if_true, Bool.true_or]
      exact ⟨h1, fun q => absurd q (by decide)⟩
    | false =>
      have := h2 hb
      simp only [Bool.false_eq_true, if_false, Bool.false_or, decide_eq_true hi, Bool.true_and, decide_eq_false_iff_not]
      omega
/-- a month in the class -/
theorem s_passL {infants : Int32} {kind : Nat → Int32} {n : Nat} {kd : Nat → Nat} (hn : n ≤ 6) (e0 : infants = nI n) (hkd : ∀ i, i < n → kind i = nI (kd i) ∧ kd i < 6) {r : Nat} (hr : r < 64) {mo : Nat → Nat} (hmo : ∀ i, i < n → mo i < 900) {month : Int32} {Post : Int32 → Int32 → (Nat → Int32) → Prop} {K : Int32 → Int32 → (Nat → Int32) → Prop} (hp : ∀ months retired, HD n months retired (grt r kd mo n) (gmo r mo) → K retired month months) :
    ∀ d k, k + d = n → ∀ (retired : Int32) (months : Nat → Int32), retired = nI (grt r kd mo k) → (∀ i, i < n → months i = nI (if i < k then gmo r mo i else mo i)) → wp_X1_passMonth_L2 infants kind Post K (d + 1) (nI k) retired month months := by
  intro d
  induction d with
  | zero =>
    intro k e retired months e1 e2
    have e' : k = n := by omega
    subst e'
    rw [e0]
    refine ⟨fun _ => hp _ _ ⟨e1, (grt_ok r hr _ mo _ hn).1, fun i hi => ?_⟩, fun q => absurd (nI_le (Nat.le_refl _) (by omega)) q⟩
    rw [e2 i hi, if_pos hi]
    refine ⟨rfl, ?_⟩
    have := hmo i hi
    unfold gmo
    split <;> omega
  | succ d ih =>
    intro k e retired months e1 e2
    have hk6 : k < 6 := by omega
    have hk0 : k < n := by omega
    have hmk := hmo k hk0
    have ih' := ih (k + 1) (by omega)
    have hg := grt_ok r hr kd mo k (by omega)
    refine ⟨fun q => absurd q (by rw [e0]; exact nI_ge (a := k) (b := n) (by omega) (by omega)), fun _ => ?_⟩
    rw [e1]
    refine s_isRetired hg.1 hk6 ⟨fun q => ?_, fun q => ?_⟩
    · rw [bI_0, grt_next hr _ _ hk6] at q
      have ek : months (nI k).toNatClampNeg = nI (mo k) := by rw [nI_clamp (by omega), e2 k hk0, if_neg (Nat.lt_irrefl k)]
      refine ⟨vp_in_nI hk6 (by omega), fun x ex f ef => ?_⟩
      rw [ek, nI_1] at ex
      rw [nI_clamp (by omega)] at ef
      refine s_walkingAge hk6 (hkd k hk0).1 (hkd k hk0).2 ?_
      have hf : f (nI k).toNatClampNeg = nI (mo k + 1) := by rw [nI_clamp (by omega), ef, upd_at, if_pos rfl, ex]
      have hfi : ∀ i, i < n → f i = nI (if i < k + 1 then gmo r mo i else mo i) := by
        intro i hi
        rw [ef, upd_at]
        by_cases z : i = k
        · subst z
          rw [if_pos rfl, if_pos (Nat.lt_succ_self _), ex]
          unfold gmo
          rw [q]
          rfl
        · rw [if_neg z, e2 i hi]
          by_cases z2 : i < k
          · rw [if_pos z2, if_pos (by omega)]
          · rw [if_neg z2, if_neg (by omega)]
      have hw := wkN_le (kd k)
      rw [hf, nI_ltI (by omega) (by omega)]
      refine ⟨fun z y ey => ?_, fun z x2 ex2 y ey => ?_⟩
      · rw [ey, nI_1]
        refine ih' _ f ?_ hfi
        rw [grt_succ, if_neg (fun w => absurd (show wkN (kd k) ≤ mo k + 1 from w.2) (by omega))]
      · rw [ey, nI_1]
        refine ih' x2 f ?_ hfi
        rw [ex2, (b_set _ hg.1 k hk6).1, grt_succ, if_pos ⟨q, show wkN (kd k) ≤ mo k + 1 by omega⟩]
    · rw [bI_n0, grt_next hr _ _ hk6] at q
      intro y ey
      rw [ey, nI_1]
      refine ih' _ months ?_ ?_
      · rw [grt_succ, if_neg (fun w => by rw [q] at w; exact absurd w.1 (by simp))]
      · intro i hi
        rw [e2 i hi]
        by_cases z : i = k
        · subst z
          rw [if_neg (Nat.lt_irrefl _), if_pos (Nat.lt_succ_self _)]
          unfold gmo
          rw [q]
          rfl
        · by_cases z2 : i < k
          · rw [if_pos z2, if_pos (by omega)]
          · rw [if_neg z2, if_neg (by omega)]
theorem s_passMonth {infants : Int32} {kind : Nat → Int32} {n : Nat} {kd : Nat → Nat} (hn : n ≤ 6) (e0 : infants = nI n) (hkd : ∀ i, i < n → kind i = nI (kd i) ∧ kd i < 6) {r : Nat} {mo : Nat → Nat} (hmo : ∀ i, i < n → mo i < 900) {months : Nat → Int32} {retired month : Int32} (hd : HD n months retired r mo) {c : Nat} (hc : month = nI c) (hc9 : c ≤ 999) {Post : Int32 → Int32 → (Nat → Int32) → Prop} (hp : ∀ months retired, HD n months retired (grt r kd mo n) (gmo r mo) → Post retired (nI (min 999 (c + 1))) months) : wp_X1_passMonth infants kind retired month months Post := by
  refine ⟨n + 1, s_passL hn e0 hkd hd.2.1 hmo (fun months retired h => ?_) n 0 (by omega) retired months hd.1 (fun i hi => by rw [if_neg (Nat.not_lt_zero i)]; exact (hd.2.2 i hi).1)⟩
  have h9 := hp months retired h
  refine pk_le 999 c (fun z => ?_) (fun z => ?_) rfl hc
  · rw [show min 999 (c + 1) = c by omega] at h9
    rw [hc]
    exact h9
  · intro x ex
    rw [ex, hc, nI_1]
    rw [show min 999 (c + 1) = c + 1 by omega] at h9
    exact h9
/-- months, nurses, the retired, the month, and fewer pasts: the court still stands -/
theorem CC_hand {infants retired month notes sounds pasts : Int32} {kind months home nurse skills noteRow soundRow pastRow : Nat → Int32} {t : Nat → Nat} (hR : CR t infants retired month notes sounds pasts kind months home nurse skills noteRow soundRow pastRow) (hV : VV t) {T : Nat → Nat} (Tr : ∀ j, j ≠ 3 → (j < 4 ∨ 18 ≤ j) → T j = t j) {retired2 month2 pasts2 : Int32} {months2 nurse2 : Nat → Int32} (h10 : retired2 = nI (T 10)) (h10b : T 10 < 64) (h17 : month2 = nI (T 17)) (h17b : T 17 ≤ 999) (h3 : pasts2 = nI (T 3)) (h3b : T 3 ≤ t 3) (hh : ∀ i, i < t 0 → months2 i = nI (T (4 + i)) ∧ nurse2 i = nI (T (11 + i)) ∧ T (4 + i) ≤ 36 ∧ ((T 10).testBit i = false → T (4 + i) ≤ 35) ∧ T (11 + i) < 6) : CR T infants retired2 month2 notes sounds pasts2 kind months2 home nurse2 skills noteRow soundRow pastRow ∧ VV T := by
  obtain ⟨⟨e0, e10, e17, e1, e2, e3⟩, hi, hs, hn, ho, hp⟩ := hR
  obtain ⟨⟨v0, vn, vs, vp, vr, vm⟩, vi, vk, vno, vso, vpa⟩ := hV
  have T0 : T 0 = t 0 := Tr 0 (by omega) (by omega)
  have T1 : T 1 = t 1 := Tr 1 (by omega) (by omega)
  have T2 : T 2 = t 2 := Tr 2 (by omega) (by omega)
  refine ⟨⟨⟨?_, ?_, ?_, ?_, ?_, ?_⟩, ?_, ?_, ?_, ?_, ?_⟩, ⟨⟨?_, ?_, ?_, ?_, ?_, ?_⟩, ?_, ?_, ?_, ?_, ?_⟩⟩
  · rw [T0, e0]
  · exact h10
  · exact h17
  · rw [T1, e1]
  · rw [T2, e2]
  · exact h3
  · intro j hj
    rw [T0] at hj
    rw [Tr (24 + j) (by omega) (by omega), Tr (30 + j) (by omega) (by omega)]
    exact ⟨(hi j hj).1, (hh j hj).1, (hi j hj).2.2.1, (hh j hj).2.1⟩
  · intro j hj; rw [Tr (18 + j) (by omega) (by omega)]; exact hs j hj
  · intro j hj; rw [T1] at hj; rw [Tr (36 + j) (by omega) (by omega)]; exact hn j hj
  · intro j hj; rw [T2] at hj; rw [Tr (66 + j) (by omega) (by omega)]; exact ho j hj
  · intro p hq
    rw [T0, Tr (78 + 14 * p + 13) (by omega) (by omega), Tr (78 + 14 * p + 6) (by omega) (by omega)]
    obtain ⟨a1, a2, a3⟩ := hp p (by omega)
    refine ⟨a1, a2, fun i h => ?_⟩
    rw [Tr (78 + 14 * p + i) (by omega) (by omega), Tr (78 + 14 * p + 7 + i) (by omega) (by omega)]
    exact a3 i h
  · rw [T0]; exact v0
  · rw [T1]; exact vn
  · rw [T2]; exact vs
  · omega
  · exact h10b
  · exact h17b
  · intro j hj
    rw [T0] at hj
    rw [Tr (24 + j) (by omega) (by omega), Tr (30 + j) (by omega) (by omega)]
    obtain ⟨_, _, c1, c2, c3⟩ := hh j hj
    exact ⟨(vi j hj).1, c1, c2, (vi j hj).2.2.2.1, c3⟩
  · intro j hj; rw [Tr (18 + j) (by omega) (by omega)]; exact vk j hj
  · intro j hj
    rw [T1] at hj
    rw [Tr (36 + 5 * j) (by omega) (by omega), Tr (36 + 5 * j + 1) (by omega) (by omega), Tr (36 + 5 * j + 2) (by omega) (by omega), Tr (36 + 5 * j + 3) (by omega) (by omega), Tr (36 + 5 * j + 4) (by omega) (by omega), T0]
    exact vno j hj
  · intro j hj
    rw [T2] at hj
    rw [Tr (66 + 2 * j) (by omega) (by omega), Tr (66 + 2 * j + 1) (by omega) (by omega), T0]
    exact vso j hj
  · intro p hq
    rw [T0, Tr (78 + 14 * p + 13) (by omega) (by omega), Tr (78 + 14 * p + 6) (by omega) (by omega)]
    obtain ⟨a1, a2, a3⟩ := vpa p (by omega)
    refine ⟨a1, a2, fun i h => ?_⟩
    rw [Tr (78 + 14 * p + i) (by omega) (by omega), Tr (78 + 14 * p + 7 + i) (by omega) (by omega)]
    exact a3 i h
theorem CR_at {infants retired month notes sounds pasts : Int32} {kind months home nurse skills noteRow soundRow pastRow : Nat → Int32} {t : Nat → Nat} (hR : CR t infants retired month notes sounds pasts kind months home nurse skills noteRow soundRow pastRow) : (infants = nI (t 0) ∧ retired = nI (t 10) ∧ month = nI (t 17) ∧ notes = nI (t 1) ∧ sounds = nI (t 2) ∧ pasts = nI (t 3)) := hR.1
theorem kpV {t : Nat → Nat} (k : Nat) (h : k < 78) (h3 : k ≠ 3) : kp t k = t k := kp_lo t h h3
/-- from 1 to m -/
theorem s_in1 {x : Int32} {y : Int64} {m : Nat} (hy : y = lN m) (hm : m < 2 ^ 31) {Post : Int32 → Prop} (hp : Post (bI (decide (1 ≤ x.toInt) && decide (x.toInt ≤ (m : Int))))) : wp_X10_in x.toInt64 1 y Post := by
  refine s_in ?_
  have e1 : ((1 : Int64) ≤ x.toInt64 ↔ 1 ≤ x.toInt) := by
    rw [fa_le64, Int32.toInt_toInt64]
    exact Iff.rfl
  have e2 : (x.toInt64 ≤ y ↔ x.toInt ≤ (m : Int)) := by
    rw [hy, fa_le64, Int32.toInt_toInt64, lN_toInt hm]
  simp only [e1, e2]
  exact hp
theorem d_nurse {infants retired month notes sounds pasts : Int32} {kind months home nurse skills noteRow soundRow pastRow : Nat → Int32} {told refused : Nat → Int32} {badCalls noCalls fullCalls v1 v2 : Int32} (hC : CC infants retired month notes sounds pasts kind months home nurse skills noteRow soundRow pastRow told) (hS : SR badCalls noCalls fullCalls refused) {P : Int32 → Int32 → Int32 → (Nat → Int32) → (Nat → Int32) → Int32 → (Nat → Int32) → (Nat → Int32) → Prop} (hP : ∀ r b9 p9 n9 pr9 told9 ref9, CC infants retired month notes sounds p9 kind months home n9 skills noteRow soundRow pr9 told9 → SR b9 noCalls fullCalls ref9 → P r b9 p9 n9 pr9 r told9 ref9) :
    wp_X9_nurse infants retired month months badCalls pasts nurse pastRow v1 v2 (fun r b9 p9 n9 pr9 => wp_X10_nurse told refused v1 v2 (fun r' told9 ref9 => P r b9 p9 n9 pr9 r' told9 ref9)) := by
  obtain ⟨t, hR, hM, hV⟩ := id hC
  obtain ⟨⟨e0, e10, e17, e1, e2, e3⟩, hi, hs, hn, ho, hp⟩ := id hR
  obtain ⟨⟨v0, vn, vs, vp, vr, vm⟩, vi, vk, vno, vso, vpa⟩ := id hV
  have hM0 := hM 0 (by omega)
  unfold wp_X9_nurse wp_X10_nurse wp_X9_nurse_J16 wp_X10_nurse_J15
  refine s_inf9 e0 v0 (sp_b (fun a => ?_) (fun a => s_within (m := 5) rfl (by decide) (sp_b (fun b => ?_) (fun b => ?_))))
  · exact fun x ex => s_inf10 hM0 v0 (kf a (fun y ey g eg => hP _ _ _ _ _ _ _ hC (SR_bad hS ex ey eg)))
  · exact fun x ex => s_inf10 hM0 v0 (kt a (s_nurse10 (kf b (fun y ey g eg => hP _ _ _ _ _ _ _ hC (SR_bad hS ex ey eg)))))
  · obtain ⟨i, hi0, rfl⟩ := inF_t a
    obtain ⟨w, hw, rfl⟩ := inB_t b
    have h11 := MR_at hM 11 (i := i) (by omega)
    refine ⟨vp_in_nI (by omega) (by omega), fun x ex => s_remember hR hV (fun p9 row9 hR2 f ef => s_inf10 hM0 v0 (kt a (s_nurse10 (kt b ⟨h11.1, fun y ey => s_keep hM vp (fun g hg f2 ef2 => ?_)⟩))))⟩
    rw [nI_clamp (by omega), (hi i hi0).2.2.2] at ex
    rw [show (11 : Int32) = nI 11 from rfl, h11.2] at ey
    rw [ey, ← ex]
    rw [nI_clamp (by omega)] at ef
    have hM2 : MR (up (kp t) (11 + i) w) f2 := MR_upc (a := 11) hg ef2 rfl (by omega) rfl
    have hV2 := VV_kp hV
    have k0 : kp t 0 = t 0 := kpV 0 (by omega) (by omega)
    have u : ∀ j, j ≠ 11 + i → up (kp t) (11 + i) w j = kp t j := fun j hj => up_ne hj
    have hh := CC_hand hR2 hV2 (T := up (kp t) (11 + i) w) (fun j h3 hj => u j (by omega)) (retired2 := retired) (month2 := month) (pasts2 := p9) (months2 := months) (nurse2 := f) (by rw [u 10 (by omega)]; exact hR2.1.2.1) (by rw [u 10 (by omega)]; exact hV2.1.2.2.2.2.1) (by rw [u 17 (by omega)]; exact hR2.1.2.2.1) (by rw [u 17 (by omega)]; exact hV2.1.2.2.2.2.2) (by rw [u 3 (by omega)]; exact hR2.1.2.2.2.2.2) (by rw [u 3 (by omega)]; exact Nat.le_refl _) (fun j hj => by
      obtain ⟨a1, a2, a3, a4⟩ := hR2.2.1 j hj
      obtain ⟨b1, b2, b3, b4, b5⟩ := hV2.2.1 j hj
      rw [k0] at hj
      rw [u (4 + j) (by omega), u 10 (by omega), up_if, ef, upd_at]
      by_cases z : j = i
      · rw [if_pos z, if_pos z]
        exact ⟨a2, rfl, b2, b3, by omega⟩
      · rw [if_neg z, if_neg z]
        exact ⟨a2, a4, b2, b3, b5⟩)
    exact hP _ _ _ _ _ _ _ ⟨_, hh.1, hM2, hh.2⟩ hS
theorem d_retire {infants retired month notes sounds pasts : Int32} {kind months home nurse skills noteRow soundRow pastRow : Nat → Int32} {told refused : Nat → Int32} {badCalls noCalls fullCalls v1 : Int32} (hC : CC infants retired month notes sounds pasts kind months home nurse skills noteRow soundRow pastRow told) (hS : SR badCalls noCalls fullCalls refused) {P : Int32 → Int32 → Int32 → Int32 → Int32 → (Nat → Int32) → Int32 → (Nat → Int32) → (Nat → Int32) → Prop} (hP : ∀ r b9 n9 r9 p9 pr9 told9 ref9, CC infants r9 month notes sounds p9 kind months home nurse skills noteRow soundRow pr9 told9 → SR b9 n9 fullCalls ref9 → P r b9 n9 r9 p9 pr9 r told9 ref9) :
    wp_X9_retire infants month months nurse badCalls noCalls retired pasts pastRow v1 (fun r b9 n9 r9 p9 pr9 => wp_X10_retire told refused v1 (fun r' told9 ref9 => P r b9 n9 r9 p9 pr9 r' told9 ref9)) := by
  obtain ⟨t, hR, hM, hV⟩ := id hC
  obtain ⟨⟨e0, e10, e17, e1, e2, e3⟩, hi, hs, hn, ho, hp⟩ := id hR
  obtain ⟨⟨v0, vn, vs, vp, vr, vm⟩, vi, vk, vno, vso, vpa⟩ := id hV
  have hM0 := hM 0 (by omega)
  unfold wp_X9_retire wp_X10_retire
  refine s_inf9 e0 v0 (sp_b (fun a => ?_) (fun a => ?_))
  · exact fun x ex => s_inf10 hM0 v0 (kf a (fun y ey g eg => hP _ _ _ _ _ _ _ _ hC (SR_bad hS ex ey eg)))
  · obtain ⟨i, hi0, rfl⟩ := inF_t a
    have hM10 := hM 10 (by omega)
    have e10' := e10
    rw [e10]
    refine s_isRetired vr (by omega) (sp_b (fun b => ?_) (fun b => ?_))
    · rw [← e10]
      refine s_remember hR hV (fun p9 row9 hR2 x ex => ?_)
      have hb := b_set _ vr i (by omega)
      rw [e10', hb.1] at ex
      rw [ex]
      refine s_bitCount hb.2 (s_inf10 hM0 v0 (kt a ?_))
      rw [hM10]
      refine s_has vr (by omega) (kf b (s_keep hM vp (fun g hg y ey f2 ef2 => ?_)))
      rw [hg 10 (by omega), kpV 10 (by omega) (by omega), hb.1] at ey
      have hM2 : MR (up (kp t) 10 (t 10 ||| 2 ^ i)) f2 := MR_upf hg ef2 ey
      rw [hM2 10 (by omega), up_eq]
      refine s_bits hb.2 ?_
      have hV2 := VV_kp hV
      have k0 : kp t 0 = t 0 := kpV 0 (by omega) (by omega)
      have u : ∀ j, j ≠ 10 → up (kp t) 10 (t 10 ||| 2 ^ i) j = kp t j := fun j hj => up_ne hj
      have hh := CC_hand hR2 hV2 (T := up (kp t) 10 (t 10 ||| 2 ^ i)) (fun j h3 hj => u j (by omega)) (retired2 := nI (t 10 ||| 2 ^ i)) (month2 := month) (pasts2 := p9) (months2 := months) (nurse2 := nurse) (by rw [up_eq]) (by rw [up_eq]; exact hb.2) (by rw [u 17 (by omega)]; exact hR2.1.2.2.1) (by rw [u 17 (by omega)]; exact hV2.1.2.2.2.2.2) (by rw [u 3 (by omega)]; exact hR2.1.2.2.2.2.2) (by rw [u 3 (by omega)]; exact Nat.le_refl _) (fun j hj => by
        obtain ⟨a1, a2, a3, a4⟩ := hR2.2.1 j hj
        obtain ⟨b1, b2, b3, b4, b5⟩ := hV2.2.1 j hj
        rw [k0] at hj
        rw [u (4 + j) (by omega), u (11 + j) (by omega), up_eq]
        refine ⟨a2, a4, b2, fun q => b3 ?_, b5⟩
        rw [kpV 10 (by omega) (by omega)]
        rw [b_seti _ vr i (by omega) j (by omega), Bool.or_eq_false_iff] at q
        exact q.1)
      exact hP _ _ _ _ _ _ _ _ ⟨_, hh.1, hM2, hh.2⟩ hS
    · rw [← e10]
      refine fun x ex => s_inf10 hM0 v0 (kt a ?_)
      rw [hM10]
      exact s_has vr (by omega) (kt b (fun y ey g eg => hP _ _ _ _ _ _ _ _ hC (SR_no hS ex ey eg)))
def ud (t : Nat → Nat) : Nat → Nat := fun j => if j = 3 then t 3 - 1 else if 4 ≤ j ∧ j < 18 then t (78 + 14 * (t 3 - 1) + (j - 4)) else t j
theorem ud_3 (t : Nat → Nat) : ud t 3 = t 3 - 1 := rfl
theorem ud_out {t : Nat → Nat} {j : Nat} (h3 : j ≠ 3) (h : j < 4 ∨ 18 ≤ j) : ud t j = t j := by
  unfold ud
  rw [if_neg h3, if_neg (by omega)]
theorem ud_in {t : Nat → Nat} {e : Nat} (h : e < 14) : ud t (4 + e) = t (78 + 14 * (t 3 - 1) + e) := by
  unfold ud
  rw [if_neg (by omega), if_pos (by omega)]
  congr 1
  omega
theorem s_undo10 {t : Nat → Nat} {told : Nat → Int32} (h : MR t told) {q : Nat} (hq : q ≤ 7) (h3 : t 3 = q) {refused : Nat → Int32} {Post : Int32 → (Nat → Int32) → (Nat → Int32) → Prop} {K : (Nat → Int32) → (Nat → Int32) → Prop} (hp : ∀ f, MR (fun j => if 4 ≤ j ∧ j < 18 then t (78 + 14 * q + (j - 4)) else t j) f → K f refused) : ∃ k, wp_X10_undo_L26 Post K k 0 told refused := by
  refine lp3 (wp_X10_undo_L26 Post K) (fun a f g => g = refused ∧ ∃ e, e ≤ 14 ∧ a = nI e ∧ MR (fun j => if 4 ≤ j ∧ j < 4 + e then t (78 + 14 * q + (j - 4)) else t j) f) (fun a _ _ => 14 - a.toNatClampNeg) ?_ 0 told refused ⟨rfl, 0, by omega, rfl, fun k hk => ?_⟩
  · rintro m a f g ⟨rfl, e, he, rfl, hf⟩ ih
    refine pk_le 14 e (fun z => ?_) (fun z => ?_)
    · obtain rfl : e = 14 := by omega
      exact hp f hf
    · have f3 := hf 3 (by omega)
      have f4 := hf (78 + 14 * q + e) (by omega)
      simp only at f3 f4
      rw [if_neg (by omega), h3] at f3
      rw [if_neg (by omega)] at f4
      have ei : (78 : Int32) + 14 * f 3 + nI e = nI (78 + 14 * q + e) := by
        rw [f3, show (14 : Int32) = nI 14 from rfl, pk_mul, show (78 : Int32) = nI 78 from rfl, nI_add, nI_add]
      rw [ei]
      refine ⟨pk_in (78 + 14 * q + e) 190 (by omega), fun x ex => ⟨pk_in (4 + e) 190 (by omega) (nI_add 4 e), fun g2 eg y ey => ih y g2 g ⟨rfl, e + 1, by omega, by rw [ey, nI_1], fun k hk => ?_⟩ ?_⟩⟩
      · rw [nI_clamp (by omega), f4] at ex
        rw [eg, show (4 : Int32) + nI e = nI (4 + e) from nI_add 4 e, nI_clamp (by omega), upd_at]
        have := hf k hk
        simp only at this ⊢
        by_cases z1 : k = 4 + e
        · rw [if_pos z1, if_pos (by omega), ex]
          congr 2
          omega
        · rw [if_neg z1, this]
          by_cases z2 : 4 ≤ k ∧ k < 4 + e
          · rw [if_pos z2, if_pos (by omega)]
          · rw [if_neg z2, if_neg (by omega)]
      · rw [ey, nI_1, nI_clamp (by omega), nI_clamp (by omega)]
        omega
  · simp only
    rw [if_neg (by omega)]
    exact h k hk
theorem d_undo {infants retired month notes sounds pasts : Int32} {kind months home nurse skills noteRow soundRow pastRow : Nat → Int32} {told refused : Nat → Int32} {badCalls noCalls fullCalls : Int32} (hC : CC infants retired month notes sounds pasts kind months home nurse skills noteRow soundRow pastRow told) (hS : SR badCalls noCalls fullCalls refused) {P : Int32 → Int32 → Int32 → Int32 → Int32 → (Nat → Int32) → (Nat → Int32) → Int32 → (Nat → Int32) → (Nat → Int32) → Prop} (hP : ∀ r n9 r9 m9 p9 mo9 nu9 told9 ref9, CC infants r9 m9 notes sounds p9 kind mo9 home nu9 skills noteRow soundRow pastRow told9 → SR badCalls n9 fullCalls ref9 → P r n9 r9 m9 p9 mo9 nu9 r told9 ref9) :
    wp_X9_undo pastRow noCalls retired month pasts months nurse (fun r n9 r9 m9 p9 mo9 nu9 => wp_X10_undo told refused (fun r' told9 ref9 => P r n9 r9 m9 p9 mo9 nu9 r' told9 ref9)) := by
  obtain ⟨t, hR, hM, hV⟩ := id hC
  obtain ⟨⟨e0, e10, e17, e1, e2, e3⟩, hi, hs, hn, ho, hp⟩ := id hR
  obtain ⟨⟨v0, vn, vs, vp, vr, vm⟩, vi, vk, vno, vso, vpa⟩ := id hV
  have hM3 := hM 3 (by omega)
  unfold wp_X9_undo wp_X10_undo wp_X1_recall
  refine pk_lt 0 (t 3) (fun z => pk_lt 0 (t 3) (fun _ => ?_) (fun w => absurd z (by omega)) rfl e3) (fun z => ?_) rfl e3
  · obtain ⟨q, hq⟩ : ∃ q, t 3 = q + 1 := ⟨t 3 - 1, by omega⟩
    obtain ⟨b1, b2, b3⟩ := hp q (by omega)
    obtain ⟨c1, c2, c3⟩ := vpa q (by omega)
    intro x2 ex2 x3 ex3
    have ex2' : x2 = nI q := by rw [ex2, e3, hq, show (1 : Int32) = nI 1 from rfl, pk_sub (by omega)]; congr 1
    have ex3' : x3 = nI (14 * q) := by rw [ex3, ex2', show (14 : Int32) = nI 14 from rfl, pk_mul]; congr 1; omega
    subst ex3'
    have a1 : nI (14 * q) + 1 = nI (14 * q + 1) := nI_1 _
    have a2 : nI (14 * q) + 2 = nI (14 * q + 2) := nI_add _ 2
    have a3 : nI (14 * q + 2) + 6 = nI (14 * q + 8) := nI_add _ 6
    rw [a1, a2, a3, nI_clamp (by omega), nI_clamp (by omega), nI_clamp (by omega), nI_clamp (by omega)]
    refine ⟨vp_in_nI (by omega) (by omega), fun x5 ex5 => ⟨vp_in_nI (by omega) (by omega), fun x7 ex7 => ⟨nI_pos (by omega), by omega, fun f10 ef10 => ⟨nI_pos (by omega), by omega, fun f13 ef13 => ?_⟩⟩⟩⟩
    refine pk_eq (t 3) 0 (fun w => absurd w (by omega)) (fun _ y ey g eg => ?_) hM3
    have ey' : y = nI q := by rw [ey, hM3, hq, show (1 : Int32) = nI 1 from rfl, pk_sub (by omega)]; congr 1
    have hM2 : MR (up t 3 q) g := MR_upf hM eg ey'
    refine s_undo10 hM2 (q := q) (by omega) (up_eq _ _ _) (fun f hf => ?_)
    have hM3' : MR (ud t) f := by
      intro j hj
      rw [hf j hj]
      congr 1
      unfold ud
      rw [hq]
      dsimp only
      by_cases z1 : j = 3
      · subst z1
        rw [if_pos rfl, if_neg (by omega), up_eq]
        rfl
      · rw [if_neg z1]
        by_cases z2 : 4 ≤ j ∧ j < 18
        · rw [if_pos z2, if_pos z2, up_ne (by omega)]
          rfl
        · rw [if_neg z2, if_neg z2, up_ne z1]
    have u10 : ud t 10 = t (78 + 14 * q + 6) := by have := ud_in (t := t) (e := 6) (by omega); rw [hq] at this; exact this
    have u17 : ud t 17 = t (78 + 14 * q + 13) := by have := ud_in (t := t) (e := 13) (by omega); rw [hq] at this; exact this
    have hh := CC_hand hR hV (T := ud t) (fun j h3 hj => ud_out h3 hj) (retired2 := x7) (month2 := x5) (pasts2 := x2) (months2 := f10) (nurse2 := f13) (by rw [ex7, b2, u10]) (by rw [u10]; exact c2) (by rw [ex5, b1, u17]) (by rw [u17]; exact c1) (by rw [ex2', ud_3, hq]; rfl) (by rw [ud_3]; omega) (fun j hj => by
      obtain ⟨d1, d2⟩ := b3 j hj
      obtain ⟨d3, d4, d5⟩ := c3 j hj
      have u4 : ud t (4 + j) = t (78 + 14 * q + j) := by have := ud_in (t := t) (e := j) (by omega); rw [hq] at this; exact this
      have u11 : ud t (11 + j) = t (78 + 14 * q + 7 + j) := by
        have := ud_in (t := t) (e := 7 + j) (by omega)
        rw [hq, show 4 + (7 + j) = 11 + j by omega] at this
        rw [this, show 78 + 14 * (q + 1 - 1) + (7 + j) = 78 + 14 * q + 7 + j by omega]
      rw [u4, u11, u10, ef10, ef13, pk_cpy_in (by omega) (by omega), pk_cpy_in (by omega) (by omega)]
      refine ⟨?_, ?_, d3, d4, d5⟩
      · rw [show 14 * q + 2 + (j - 0) = 14 * q + 2 + j by omega]; exact d1
      · rw [show 14 * q + 8 + (j - 0) = 14 * q + 8 + j by omega]; exact d2)
    rw [show f 17 = x5 by rw [hM3' 17 (by omega), u17, ex5, b1]]
    exact hP _ _ _ _ _ _ _ _ _ ⟨_, hh.1, hM3', hh.2⟩ hS
  · exact fun x ex => pk_eq (t 3) 0 (fun _ y ey g eg => hP _ _ _ _ _ _ _ _ _ hC (SR_no hS ex ey eg)) (fun w => absurd w (by omega)) hM3
