/-! Both sides of the small calls. -/
def up (t : Nat → Nat) (k n : Nat) : Nat → Nat := fun j => if j = k then n else t j
theorem up_at (t : Nat → Nat) (k n j : Nat) : up t k n j = if j = k then n else t j := rfl
theorem up_eq (t : Nat → Nat) (k n : Nat) : up t k n k = n := if_pos rfl
theorem up_ne {t : Nat → Nat} {k n j : Nat} (h : j ≠ k) : up t k n j = t j := if_neg h
theorem up_if (t : Nat → Nat) (a i n j : Nat) : up t (a + i) n (a + j) = if j = i then n else t (a + j) := by
  unfold up
  by_cases h : j = i
  · rw [if_pos h, if_pos (by omega)]
  · rw [if_neg h, if_neg (by omega)]
theorem sp_b {b : Bool} {A B : Prop} (h1 : b = false → A) (h2 : b = true → B) : (bI b = 0 → A) ∧ (¬ bI b = 0 → B) := ⟨fun q => h1 ((bI_0 b).mp q), fun q => h2 ((bI_n0 b).mp q)⟩
theorem sp_n {b : Bool} {A B : Prop} (h1 : b = true → A) (h2 : b = false → B) : (¬ bI b = 0 → A) ∧ (bI b = 0 → B) := ⟨fun q => h1 ((bI_n0 b).mp q), fun q => h2 ((bI_0 b).mp q)⟩
theorem sp_01 {b : Bool} {A : Prop} (h : A) : (bI b = 0 ∨ bI b = 1) ∧ A := ⟨bI_01 b, h⟩
/-- one of n infants -/
def inF (x : Int32) (n : Nat) : Bool := decide (0 ≤ x.toInt) && decide (x.toInt < n)
theorem inF_t {x : Int32} {n : Nat} (h : inF x n = true) : ∃ j : Nat, j < n ∧ x = nI j := by
  unfold inF at h
  rw [Bool.and_eq_true, decide_eq_true_eq, decide_eq_true_eq] at h
  obtain ⟨j, hj, rfl⟩ := nI_of (x := x) (by rw [fa_lt]; have : (0 : Int32).toInt = 0 := rfl; omega)
  rw [nI_toInt hj] at h
  exact ⟨j, by omega, rfl⟩
theorem s_inf9 {infants x : Int32} {n : Nat} (e : infants = nI n) (hn : n ≤ 6) {Post : Int32 → Prop} (hp : Post (bI (inF x n))) : wp_X9_isInfant infants x Post := by
  unfold wp_X9_isInfant
  rw [e, fa_lt, fa_le, nI_toInt (by omega), show (0 : Int32).toInt = 0 from rfl]
  unfold inF at hp
  by_cases a : x.toInt < 0
  · rw [show (decide (0 ≤ x.toInt) && decide (x.toInt < (n : Int))) = false by simp; omega] at hp
    exact ⟨fun _ => hp, fun q => absurd a q⟩
  · by_cases b : (n : Int) ≤ x.toInt
    · rw [show (decide (0 ≤ x.toInt) && decide (x.toInt < (n : Int))) = false by simp; omega] at hp
      exact ⟨fun q => absurd q a, fun _ => ⟨fun _ => hp, fun q => absurd b q⟩⟩
    · rw [show (decide (0 ≤ x.toInt) && decide (x.toInt < (n : Int))) = true by simp; omega] at hp
      exact ⟨fun q => absurd q a, fun _ => ⟨fun q => absurd q b, fun _ => hp⟩⟩
theorem s_inf10 {told : Nat → Int32} {x : Int32} {n : Nat} (e : told 0 = nI n) (hn : n ≤ 6) {Post : Int32 → Prop} (hp : Post (bI (inF x n))) : wp_X10_isInfant told x Post := by
  unfold wp_X10_isInfant wp_X10_many
  rw [e]
  refine s_in (sp_01 (b := _) ?_)
  have e0 : (nI n - 1).toInt = (n : Int) - 1 := by
    have h1 : (1 : Int32).toInt = 1 := rfl
    rw [fb_subI] <;> rw [nI_toInt (by omega), h1] <;> omega
  have e1 : ((0 : Int64) ≤ x.toInt64 ↔ 0 ≤ x.toInt) := by
    rw [fa_le64, Int32.toInt_toInt64]
    exact Iff.rfl
  have e2 : (x.toInt64 ≤ (nI n - 1).toInt64 ↔ x.toInt < (n : Int)) := by
    rw [fa_le64, Int32.toInt_toInt64, Int32.toInt_toInt64, e0]
    omega
  simp only [e1, e2]
  exact hp
theorem s_nurse10 {x : Int32} {Post : Int32 → Prop} (hp : Post (bI (inB x 5))) : wp_X10_isNurse x Post := s_in0 (m := 5) rfl (by decide) (sp_01 hp)
theorem s_hour10 {x : Int32} {Post : Int32 → Prop} (hp : Post (bI (inB x 23))) : wp_X10_isHour x Post := s_in0 (m := 23) rfl (by decide) (sp_01 hp)
/-- the court of both, by one row -/
def CC (infants retired month notes sounds pasts : Int32) (kind months home nurse skills noteRow soundRow pastRow : Nat → Int32) (told : Nat → Int32) : Prop := ∃ t, CR t infants retired month notes sounds pasts kind months home nurse skills noteRow soundRow pastRow ∧ MR t told ∧ VV t
theorem MR_up {t : Nat → Nat} {told : Nat → Int32} (h : MR t told) {k n : Nat} {x : Int32} (hx : x = nI n) : MR (up t k n) (upd told k x) := by
  intro j hj
  rw [upd_at, up_at]
  split
  · exact hx
  · exact h j hj
theorem MR_upc {t : Nat → Nat} {told : Nat → Int32} (h : MR t told) {a i n : Nat} {x y : Int32} {f : Nat → Int32} (ef : f = upd told (nI a + y).toNatClampNeg x) (hy : y = nI i) (hai : a + i < 190) (hx : x = nI n) : MR (up t (a + i) n) f := by
  subst hy
  rw [ef, nI_add, nI_clamp (by omega)]
  exact MR_up h hx
theorem MR_upf {t : Nat → Nat} {told : Nat → Int32} (h : MR t told) {k n : Nat} {x : Int32} {f : Nat → Int32} (ef : f = upd told k x) (hx : x = nI n) : MR (up t k n) f := by
  rw [ef]
  exact MR_up h hx
/-- a refusal on both sides -/
theorem d_bad {b n f : Int32} {r : Nat → Int32} (hS : SR b n f r) (v : Int32) {P : Int32 → Int32 → Int32 → (Nat → Int32) → Prop} (hP : ∀ b' r', SR b' n f r' → P v b' v r') : wp_X9_bad b v (fun x b' => wp_X10_bad r v (fun y r' => P x b' y r')) :=
  fun x ex y ey g eg => hP x g (SR_bad hS ex ey eg)
theorem d_no {b n f : Int32} {r : Nat → Int32} (hS : SR b n f r) {P : Int32 → Int32 → Int32 → (Nat → Int32) → Prop} (hP : ∀ n' r', SR b n' f r' → P (-3) n' (-3) r') : wp_X9_no n (fun x b' => wp_X10_no r (fun y r' => P x b' y r')) :=
  fun x ex y ey g eg => hP x g (SR_no hS ex ey eg)
theorem d_full {b n f : Int32} {r : Nat → Int32} (hS : SR b n f r) {P : Int32 → Int32 → Int32 → (Nat → Int32) → Prop} (hP : ∀ f' r', SR b n f' r' → P (-4) f' (-4) r') : wp_X9_full f (fun x b' => wp_X10_full r (fun y r' => P x b' y r')) :=
  fun x ex y ey g eg => hP x g (SR_full hS ex ey eg)
theorem s_fill {row : Nat → Int32} {v : Int32} {n : Nat} (hn : n < 1000) {Post : (Nat → Int32) → Prop} (hp : ∀ f, (∀ k, k < n → f k = v) → Post f) : wp_J7_fill_53178 n row v Post := by
  intro x ex
  subst ex
  refine lp4 (wp_J7_fill_53178_L5 n Post) (fun a b c f => a = v ∧ c = nI n ∧ ∃ k, k ≤ n ∧ b = nI k ∧ ∀ j, j < k → f j = v) (fun _ b _ _ => n - b.toNatClampNeg) ?_ v 0 (nI n) row ⟨rfl, rfl, 0, Nat.zero_le _, rfl, fun j hj => absurd hj (Nat.not_lt_zero j)⟩
  rintro m a b c f ⟨rfl, rfl, k, hk, rfl, hf⟩ ih
  refine pk_le n k (fun q => hp f (fun j hj => hf j (by omega))) (fun q => ⟨vp_in_nI q (by omega), fun g eg y ey => ih a y (nI n) g ⟨rfl, rfl, k + 1, q, by rw [ey, nI_1], fun j hj => ?_⟩ ?_⟩)
  · rw [eg, nI_clamp (by omega), upd_at]
    split
    · rfl
    · exact hf j (by omega)
  · rw [ey, nI_1, nI_clamp (by omega), nI_clamp (by omega)]
    omega
theorem s_begin {N : Nat} {row : Nat → Int32} (hN : 78 ≤ N) (hN2 : N < 1000) {Post : (Nat → Int32) → Prop} (hp : ∀ f, (∀ k, k < 78 → f k = nI 0) → (∀ k, 78 ≤ k → f k = row k) → Post f) : wp_X10_begin N row Post := by
  refine lp2 (wp_X10_begin_L2 N Post) (fun b f => ∃ k, k ≤ 78 ∧ b = nI k ∧ (∀ j, j < k → f j = nI 0) ∧ ∀ j, 78 ≤ j → f j = row j) (fun b _ => 78 - b.toNatClampNeg) ?_ 0 row ⟨0, Nat.zero_le _, rfl, fun j hj => absurd hj (Nat.not_lt_zero j), fun _ _ => rfl⟩
  rintro m b f ⟨k, hk, rfl, hf, hg⟩ ih
  refine pk_le 78 k (fun q => hp f (fun j hj => hf j (by omega)) hg) (fun q => ⟨vp_in_nI (by omega) (by omega), fun g eg y ey => ih y g ⟨k + 1, q, by rw [ey, nI_1], fun j hj => ?_, fun j hj => ?_⟩ ?_⟩)
  · rw [eg, nI_clamp (by omega), upd_at]
    split
    · rfl
    · exact hf j (by omega)
  · rw [eg, nI_clamp (by omega), upd_at, if_neg (by omega)]
    exact hg j hj
  · rw [ey, nI_1, nI_clamp (by omega), nI_clamp (by omega)]
    omega
theorem d_court {infants retired month notes sounds pasts : Int32} {kind months home nurse skills noteRow soundRow pastRow : Nat → Int32} {told : Nat → Int32} (hC : CC infants retired month notes sounds pasts kind months home nurse skills noteRow soundRow pastRow told) {P : Int32 → Int32 → Int32 → Int32 → Int32 → Int32 → Int32 → (Nat → Int32) → Int32 → (Nat → Int32) → Prop} (hP : ∀ r i9 r9 m9 n9 s9 p9 sk9 told9, CC i9 r9 m9 n9 s9 p9 kind months home nurse sk9 noteRow soundRow pastRow told9 → P r i9 r9 m9 n9 s9 p9 sk9 r told9) :
    wp_X9_court infants retired month notes sounds pasts skills (fun r i9 r9 m9 n9 s9 p9 sk9 => wp_X10_court told (fun r' told9 => P r i9 r9 m9 n9 s9 p9 sk9 r' told9)) := by
  obtain ⟨t, hR, hM, hV⟩ := hC
  obtain ⟨⟨e0, e10, e17, e1, e2, e3⟩, hi, hs, hn, ho, hp⟩ := hR
  unfold wp_X9_court wp_X1_begin
  refine s_fill (by omega) (fun f hf => ?_)
  unfold wp_X10_court wp_X10_many
  refine s_begin (by omega) (by omega) (fun g hg hg2 => ?_)
  rw [e0, hM 0 (by omega)]
  refine hP _ _ _ _ _ _ _ _ _ ⟨fun k => if k < 78 then 0 else t k, ⟨⟨rfl, rfl, rfl, rfl, rfl, rfl⟩, ?_, ?_, ?_, ?_, ?_⟩, ?_, ⟨?_, ?_, ?_, ?_, ?_, ?_⟩⟩
  · intro i h; exact absurd h (Nat.not_lt_zero i)
  · intro j h; rw [hf j h]; simp only; rw [if_pos (by omega)]; rfl
  · intro i h; exact absurd h (by simp)
  · intro i h; exact absurd h (by simp)
  · intro i h; exact absurd h (by simp)
  · intro j hj
    simp only
    split
    · next q => exact hg j q
    · next q => rw [hg2 j (by omega)]; exact hM j hj
  · simp
  · intro i h; exact absurd h (Nat.not_lt_zero i)
  · intro j h; simp only; rw [if_pos (by omega)]; omega
  · intro i h; exact absurd h (by simp)
  · intro i h; exact absurd h (by simp)
  · intro i h; exact absurd h (by simp)
theorem d_infant {infants retired month notes sounds pasts : Int32} {kind months home nurse skills noteRow soundRow pastRow : Nat → Int32} {told refused : Nat → Int32} {badCalls noCalls fullCalls v1 v2 v3 : Int32} (hC : CC infants retired month notes sounds pasts kind months home nurse skills noteRow soundRow pastRow told) (hS : SR badCalls noCalls fullCalls refused) {P : Int32 → Int32 → Int32 → Int32 → Int32 → (Nat → Int32) → (Nat → Int32) → (Nat → Int32) → (Nat → Int32) → Int32 → (Nat → Int32) → (Nat → Int32) → Prop} (hP : ∀ r b9 f9 i9 p9 k9 m9 h9 n9 told9 ref9, CC i9 retired month notes sounds p9 k9 m9 h9 n9 skills noteRow soundRow pastRow told9 → SR b9 noCalls f9 ref9 → P r b9 f9 i9 p9 k9 m9 h9 n9 r told9 ref9) :
    wp_X9_infant badCalls fullCalls infants pasts kind months home nurse v1 v2 v3 (fun r b9 f9 i9 p9 k9 m9 h9 n9 => wp_X10_infant told refused v1 v2 v3 (fun r' told9 ref9 => P r b9 f9 i9 p9 k9 m9 h9 n9 r' told9 ref9)) := by
  obtain ⟨t, hR, hM, hV⟩ := id hC
  obtain ⟨⟨e0, e10, e17, e1, e2, e3⟩, hi, hs, hn, ho, hp⟩ := hR
  obtain ⟨⟨v0, vn, vs, vp, vr, vm⟩, vi, vk, vno, vso, vpa⟩ := hV
  unfold wp_X9_infant wp_X10_infant wp_X9_infant_J25 wp_X10_infant_J36
  refine s_within (m := 5) rfl (by decide) (sp_b (fun a => ?_) (fun a => s_within (m := 35) rfl (by decide) (sp_b (fun b => ?_) (fun b => s_within (m := 5) rfl (by decide) (sp_b (fun c => ?_) (fun c => ?_))))))
  · refine fun x ex => s_in0 (m := 5) rfl (by decide) (sp_b (fun _ y ey g eg => hP _ _ _ _ _ _ _ _ _ _ _ hC (SR_bad hS ex ey eg)) (fun a' => absurd (a.symm.trans a') (by decide)))
  · refine fun x ex => s_in0 (m := 5) rfl (by decide) (sp_b (fun a' => absurd (a.symm.trans a') (by decide)) (fun _ => s_in0 (m := 35) rfl (by decide) (sp_b (fun _ y ey g eg => hP _ _ _ _ _ _ _ _ _ _ _ hC (SR_bad hS ex ey eg)) (fun a' => absurd (b.symm.trans a') (by decide)))))
  · refine fun x ex => s_in0 (m := 5) rfl (by decide) (sp_b (fun a' => absurd (a.symm.trans a') (by decide)) (fun _ => s_in0 (m := 35) rfl (by decide) (sp_b (fun a' => absurd (b.symm.trans a') (by decide)) (fun _ => s_in0 (m := 5) rfl (by decide) (sp_b (fun _ y ey g eg => hP _ _ _ _ _ _ _ _ _ _ _ hC (SR_bad hS ex ey eg)) (fun a' => absurd (c.symm.trans a') (by decide)))))))
  · have ref : ∀ {Post : Int32 → (Nat → Int32) → (Nat → Int32) → Prop}, (t 0 = 6 → wp_X10_full refused (fun r_14 refused_15 => Post r_14 told refused_15)) → (t 0 ≠ 6 → wp_X10_layInfant 190 told v1 v2 v3 (fun told_11 => ∀ f_12 : Nat → Int32, f_12 = upd told_11 3 0 → Post (f_12 0 - 1) f_12 refused)) → wp_X10_infant told refused v1 v2 v3 Post := by
      intro Post hA hB
      unfold wp_X10_infant wp_X10_many
      exact s_in0 (m := 5) rfl (by decide) (sp_b (fun a' => absurd (a.symm.trans a') (by decide)) (fun _ => s_in0 (m := 35) rfl (by decide) (sp_b (fun a' => absurd (b.symm.trans a') (by decide)) (fun _ => s_in0 (m := 5) rfl (by decide) (sp_b (fun a' => absurd (c.symm.trans a') (by decide)) (fun _ => pk_eq (t 0) 6 hA hB (hM 0 (by omega))))))))
    obtain ⟨n1, h1, rfl⟩ := inB_t a
    obtain ⟨n2, h2, rfl⟩ := inB_t b
    obtain ⟨n3, h3, rfl⟩ := inB_t c
    refine pk_lt (t 0) 6 (fun q => ?_) (fun q => fun x ex => ref (fun _ y ey g eg => hP _ _ _ _ _ _ _ _ _ _ _ hC (SR_full hS ex ey eg)) (fun w => absurd w (by omega))) e0
    refine pk_lt (t 0) 6 (fun _ => ⟨pk_in (t 0) 6 q e0, fun k9 ek m9 em h9 eh nu9 en x ex => ref (fun w => absurd w (by omega)) (fun _ => ?_)⟩) (fun w => absurd q (by omega)) e0
    have hM0 := hM 0 (by omega)
    refine ⟨pk_in 0 190 (by omega), fun i ei => ?_⟩
    rw [hM0] at ei
    subst ei
    rw [pk_cl (t 0) e0] at ek em eh en
    refine ⟨pk_in (24 + t 0) 190 (by omega) (nI_add 24 _), fun f1 ef1 => ?_⟩
    have hM1 : MR _ f1 := MR_upc (a := 24) hM ef1 rfl (by omega) rfl
    refine ⟨pk_in (4 + t 0) 190 (by omega) (nI_add 4 _), fun f2 ef2 => ?_⟩
    have hM2 : MR _ f2 := MR_upc (a := 4) hM1 ef2 rfl (by omega) rfl
    refine ⟨pk_in (30 + t 0) 190 (by omega) (nI_add 30 _), fun f3 ef3 => ?_⟩
    have hM3 : MR _ f3 := MR_upc (a := 30) hM2 ef3 rfl (by omega) rfl
    refine ⟨pk_in (11 + t 0) 190 (by omega) (nI_add 11 _), fun f4 ef4 => ?_⟩
    have hM4 : MR _ f4 := MR_upc (a := 11) hM3 ef4 rfl (by omega) rfl
    intro y ey f5 ef5 f6 ef6
    have e40 : f4 0 = nI (t 0) := by
      rw [hM4 0 (by omega)]
      congr 1
      simp only [up_at]
      rw [if_neg (by omega), if_neg (by omega), if_neg (by omega), if_neg (by omega)]
    have hM5 : MR _ f5 := MR_upf (n := t 0 + 1) hM4 ef5 (by rw [ey, e40, nI_1])
    have hM6 : MR _ f6 := MR_upf (n := 0) hM5 ef6 rfl
    generalize hT : up (up (up (up (up (up t (24 + t 0) n1) (4 + t 0) n2) (30 + t 0) n3) (11 + t 0) (t 0)) 0 (t 0 + 1)) 3 0 = T at hM6
    have T0 : T 0 = t 0 + 1 := by rw [← hT]; simp only [up_at]; simp
    have T3 : T 3 = 0 := by rw [← hT]; simp only [up_at]; simp
    have Tk : ∀ j, j < 6 → T (24 + j) = if j = t 0 then n1 else t (24 + j) := by rw [← hT]; intro j hj; rw [up_ne (by omega), up_ne (by omega), up_ne (by omega), up_ne (by omega), up_ne (by omega), up_if]
    have Tm : ∀ j, j < 6 → T (4 + j) = if j = t 0 then n2 else t (4 + j) := by rw [← hT]; intro j hj; rw [up_ne (by omega), up_ne (by omega), up_ne (by omega), up_ne (by omega), up_if, up_ne (by omega)]
    have Th : ∀ j, j < 6 → T (30 + j) = if j = t 0 then n3 else t (30 + j) := by rw [← hT]; intro j hj; rw [up_ne (by omega), up_ne (by omega), up_ne (by omega), up_if, up_ne (by omega), up_ne (by omega)]
    have Tn : ∀ j, j < 6 → T (11 + j) = if j = t 0 then t 0 else t (11 + j) := by rw [← hT]; intro j hj; rw [up_ne (by omega), up_ne (by omega), up_if, up_ne (by omega), up_ne (by omega), up_ne (by omega)]
    have Tr : ∀ j, j = 1 ∨ j = 2 ∨ j = 10 ∨ (17 ≤ j ∧ j < 24) ∨ (36 ≤ j ∧ j < 190) → T j = t j := by rw [← hT]; intro j hj; rw [up_ne (by omega), up_ne (by omega), up_ne (by omega), up_ne (by omega), up_ne (by omega), up_ne (by omega)]
    have e60 : f6 0 = x := by rw [hM6 0 (by omega), T0, ex, e0, nI_1]
    rw [e60]
    refine hP _ _ _ _ _ _ _ _ _ _ _ ⟨T, ⟨⟨?_, ?_, ?_, ?_, ?_, ?_⟩, ?_, ?_, ?_, ?_, ?_⟩, hM6, ⟨⟨?_, ?_, ?_, ?_, ?_, ?_⟩, ?_, ?_, ?_, ?_, ?_⟩⟩ hS
    · rw [T0, ex, e0, nI_1]
    · rw [Tr 10 (by omega), e10]
    · rw [Tr 17 (by omega), e17]
    · rw [Tr 1 (by omega), e1]
    · rw [Tr 2 (by omega), e2]
    · rw [T3]; rfl
    · intro j hj
      rw [T0] at hj
      rw [Tk j (by omega), Tm j (by omega), Th j (by omega), Tn j (by omega), ek, em, eh, en]
      simp only [upd_at]
      by_cases z : j = t 0
      · simp only [z, if_true]
        exact ⟨trivial, trivial, trivial, e0⟩
      · simp only [z, if_false]
        exact hi j (by omega)
    · intro j hj; rw [Tr (18 + j) (by omega)]; exact hs j hj
    · intro j hj; rw [Tr 1 (by omega)] at hj; rw [Tr (36 + j) (by omega)]; exact hn j hj
    · intro j hj; rw [Tr 2 (by omega)] at hj; rw [Tr (66 + j) (by omega)]; exact ho j hj
    · intro j hj; rw [T3] at hj; exact absurd hj (Nat.not_lt_zero j)
    · rw [T0]; omega
    · rw [Tr 1 (by omega)]; exact vn
    · rw [Tr 2 (by omega)]; exact vs
    · rw [T3]; omega
    · rw [Tr 10 (by omega)]; exact vr
    · rw [Tr 17 (by omega)]; exact vm
    · intro j hj
      rw [T0] at hj
      rw [Tk j (by omega), Tm j (by omega), Th j (by omega), Tn j (by omega), Tr 10 (by omega)]
      by_cases z : j = t 0
      · simp only [z, if_true]
        exact ⟨by omega, by omega, fun _ => by omega, by omega, q⟩
      · simp only [z, if_false]
        exact vi j (by omega)
    · intro j hj; rw [Tr (18 + j) (by omega)]; exact vk j hj
    · intro j hj
      rw [Tr 1 (by omega)] at hj
      rw [Tr (36 + 5 * j) (by omega), Tr (36 + 5 * j + 1) (by omega), Tr (36 + 5 * j + 2) (by omega), Tr (36 + 5 * j + 3) (by omega), Tr (36 + 5 * j + 4) (by omega), T0]
      have := vno j hj
      omega
    · intro j hj
      rw [Tr 2 (by omega)] at hj
      rw [Tr (66 + 2 * j) (by omega), Tr (66 + 2 * j + 1) (by omega), T0]
      have := vso j hj
      omega
    · intro j hj; rw [T3] at hj; exact absurd hj (Nat.not_lt_zero j)
