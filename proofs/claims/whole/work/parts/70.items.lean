/-! The items of a text: both sides. -/
def nmN (b : Nat → Nat) (n p h : Nat) : Bool := decide (tkN b n p = 2) && decide (tvN b n p < h)
theorem tv_lt {n : Nat} {b : Nat → Nat} {bytes : Nat → Int32} (hT : TX n b bytes) {p : Nat} (hp : p ≤ n) (h : tkN b n p = 2) : tvN b n p < 2000 := by
  obtain ⟨hn, hb⟩ := hT
  obtain ⟨t1, t2, t3, t4, t5, t6⟩ := t_ok b hp
  have hq : tqN b n p < n := by
    unfold tkN at h
    split at h
    · assumption
    · cases h
  have b1 := (hb _ hq).2
  unfold tvN
  split
  · omega
  · have b2 := (hb (tqN b n p + 1) (by omega)).2
    omega
theorem pred_toInt {h : Nat} (hh : h ≤ 100) : (nI h - 1).toInt = (h : Int) - 1 := by
  have h1 : (1 : Int32).toInt = 1 := rfl
  rw [fb_subI] <;> rw [nI_toInt (by omega), h1] <;> omega
theorem s_num9 {n : Nat} {b : Nat → Nat} {bytes : Nat → Int32} (hT : TX n b bytes) {p h : Nat} (hp : p ≤ n) (hh : h ≤ 100) {x v : Int32} (hx : x = nI h - 1) (hv : tkN b n p = 2 → v = nI (tvN b n p)) {Post : Int32 → Int32 → Int32 → Int32 → Int32 → Prop} (h1 : nmN b n p h = true → ∀ v2, (tkN b n (teN b n p) = 2 → v2 = nI (tvN b n (teN b n p))) → Post (nI (tvN b n p)) (nI (tkN b n (teN b n p))) (nI (tqN b n (teN b n p))) (nI (teN b n (teN b n p))) v2) (h0 : nmN b n p h = false → Post (-1) (nI (tkN b n p)) (nI (tqN b n p)) (nI (teN b n p)) v) : wp_X2_number (nI n) bytes (nI (tkN b n p)) (nI (tqN b n p)) (nI (teN b n p)) v x Post := by
  obtain ⟨t1, t2, t3, t4, t5, t6⟩ := t_ok b hp
  unfold wp_X2_number
  refine pk_eq (tkN b n p) 2 (fun z => ?_) (fun z => h0 ?_)
  · have ht := tv_lt hT hp z
    rw [hv z, hx, fa_le, nI_toInt (by omega), pred_toInt hh]
    refine ⟨fun y => s_adv9 hT t4 (fun v2 hv2 => h1 ?_ v2 hv2), fun y => ?_⟩
    · unfold nmN
      rw [decide_eq_true z, decide_eq_true (by omega)]
      rfl
    · have := h0 (by unfold nmN; rw [decide_eq_false (show ¬ tvN b n p < h by omega), Bool.and_false])
      rw [hv z] at this
      exact this
  · unfold nmN
    rw [decide_eq_false z, Bool.false_and]
theorem s_take10 {n : Nat} {b : Nat → Nat} {bytes : Nat → Int32} (hT : TX n b bytes) {p h k : Nat} (hp : p ≤ n) (hh : h ≤ 100) (hk : k < 3) {x v : Int32} {values : Nat → Int32} (hx : x = nI h - 1) (hv : tkN b n p = 2 → v = nI (tvN b n p)) {Post : Int32 → Int32 → Int32 → Int32 → Int32 → (Nat → Int32) → Prop} (h1 : nmN b n p h = true → ∀ v2, (tkN b n (teN b n p) = 2 → v2 = nI (tvN b n (teN b n p))) → Post 1 (nI (tqN b n (teN b n p))) (nI (teN b n (teN b n p) - tqN b n (teN b n p))) (nI (tkN b n (teN b n p))) v2 (upd values k (nI (tvN b n p)))) (h0 : nmN b n p h = false → Post 0 (nI (tqN b n p)) (nI (teN b n p - tqN b n p)) (nI (tkN b n p)) v values) : wp_X10_takes (nI n) bytes (nI (tqN b n p)) (nI (teN b n p - tqN b n p)) (nI (tkN b n p)) v values (nI k) 0 x Post := by
  obtain ⟨t1, t2, t3, t4, t5, t6⟩ := t_ok b hp
  unfold wp_X10_takes
  refine pk_eq (tkN b n p) 2 (fun z => ?_) (fun z => h0 ?_)
  · have ht := tv_lt hT hp z
    refine s_in ?_
    have e1 : ((0 : Int32).toInt64 ≤ v.toInt64 ↔ True) := by
      rw [fa_le64, Int32.toInt_toInt64, Int32.toInt_toInt64, hv z, nI_toInt (by omega), show (0 : Int32).toInt = 0 from rfl]
      simp
    have e2 : (v.toInt64 ≤ x.toInt64 ↔ tvN b n p < h) := by
      rw [fa_le64, Int32.toInt_toInt64, Int32.toInt_toInt64, hv z, hx, nI_toInt (by omega), pred_toInt hh]
      omega
    simp only [e1, e2]
    by_cases y : tvN b n p < h
    · refine kt (by rw [decide_eq_true y]; rfl) ⟨vp_in_nI hk (by omega), fun f ef => ?_⟩
      rw [nI_clamp (by omega), hv z] at ef
      subst ef
      exact s_beh10 hT t3 rfl t4 (fun v2 hv2 => h1 (by unfold nmN; rw [decide_eq_true z, decide_eq_true y]; rfl) v2 hv2)
    · refine kf (by rw [decide_eq_false y]; rfl) (h0 ?_)
      unfold nmN
      rw [decide_eq_false y, Bool.and_false]
  · unfold nmN
    rw [decide_eq_false z, Bool.false_and]
theorem s_end9 {n : Nat} {b : Nat → Nat} {bytes : Nat → Int32} (hT : TX n b bytes) {p : Nat} (hp : p ≤ n) {v : Int32} {Post : Int32 → Int32 → Int32 → Int32 → Int32 → Prop} (h1 : tkN b n p = 3 → ∀ v2, (tkN b n (teN b n p) = 2 → v2 = nI (tvN b n (teN b n p))) → Post 1 (nI (tkN b n (teN b n p))) (nI (tqN b n (teN b n p))) (nI (teN b n (teN b n p))) v2) (h0 : tkN b n p ≠ 3 → Post 0 (nI (tkN b n p)) (nI (tqN b n p)) (nI (teN b n p)) v) : wp_X2_endItem (nI n) bytes (nI (tkN b n p)) (nI (tqN b n p)) (nI (teN b n p)) v Post := by
  obtain ⟨t1, t2, t3, t4, t5, t6⟩ := t_ok b hp
  unfold wp_X2_endItem
  exact pk_eq (tkN b n p) 3 (fun z => s_adv9 hT t4 (fun v2 hv2 => h1 z v2 hv2)) (fun z => h0 z)
/-! the items, told by numbers -/
def wCo : Nat → Nat := wdF 99 111 117 114 116 0
def wIn : Nat → Nat := wdF 105 110 102 97 110 116
def wSk : Nat → Nat := wdF 115 107 105 108 108 0
def wNu : Nat → Nat := wdF 110 117 114 115 101 0
def laN (row : Nat → Nat) (k m h : Nat) : Nat → Nat := up (up (up (up (up row (24 + row 0) k) (4 + row 0) m) (30 + row 0) h) (11 + row 0) (row 0)) 0 (row 0 + 1)
def i3N (b : Nat → Nat) (n : Nat) (row : Nat → Nat) (p : Nat) : Sum Nat ((Nat → Nat) × Nat) := if nmN b n p 6 then (if nmN b n (teN b n p) 36 then (if nmN b n (teN b n (teN b n p)) 6 then Sum.inr (laN row (tvN b n p) (tvN b n (teN b n p)) (tvN b n (teN b n (teN b n p))), teN b n (teN b n (teN b n p))) else Sum.inl (teN b n (teN b n p))) else Sum.inl (teN b n p)) else Sum.inl p
def i2N (b : Nat → Nat) (n : Nat) (row : Nat → Nat) (a h1 h2 p : Nat) : Sum Nat ((Nat → Nat) × Nat) := if nmN b n p h1 then (if nmN b n (teN b n p) h2 then Sum.inr (up row (a + tvN b n p) (tvN b n (teN b n p)), teN b n (teN b n p)) else Sum.inl (teN b n p)) else Sum.inl p
def icN (b : Nat → Nat) (n : Nat) (row : Nat → Nat) (p : Nat) : Sum Nat ((Nat → Nat) × Nat) := if isW wIn b 6 (tqN b n p) (teN b n p) (tkN b n p) then (if row 0 = 6 then Sum.inl p else i3N b n row (teN b n p)) else if isW wSk b 5 (tqN b n p) (teN b n p) (tkN b n p) then i2N b n row 18 6 10 (teN b n p) else if isW wNu b 5 (tqN b n p) (teN b n p) (tkN b n p) then i2N b n row 11 (row 0) 6 (teN b n p) else Sum.inl p
/-- the draft of a court -/
def DR (row : Nat → Nat) (infants retired month notes sounds pasts : Int32) (kind months home nurse skills : Nat → Int32) : Prop :=
  (row 0 ≤ 6 ∧ infants = nI (row 0) ∧ retired = 0 ∧ month = 0 ∧ notes = 0 ∧ sounds = 0 ∧ pasts = 0 ∧ row 1 = 0 ∧ row 2 = 0 ∧ row 3 = 0 ∧ row 10 = 0 ∧ row 17 = 0) ∧
  (∀ i, i < row 0 → kind i = nI (row (24 + i)) ∧ months i = nI (row (4 + i)) ∧ home i = nI (row (30 + i)) ∧ nurse i = nI (row (11 + i)) ∧ row (24 + i) < 6 ∧ row (4 + i) ≤ 35 ∧ row (30 + i) < 6 ∧ row (11 + i) < 6) ∧
  ∀ j, j < 6 → skills j = nI (row (18 + j)) ∧ row (18 + j) ≤ 9
theorem DR_CC {row : Nat → Nat} {infants retired month notes sounds pasts : Int32} {kind months home nurse skills noteRow soundRow pastRow : Nat → Int32} (hD : DR row infants retired month notes sounds pasts kind months home nurse skills) {told told2 : Nat → Int32} (hC : ∃ t : Nat → Nat, MR t told) (h1 : ∀ k, k < 78 → told2 k = nI (row k)) (h2 : ∀ k, 78 ≤ k → told2 k = told k) : ∃ T, CR T infants retired month notes sounds pasts kind months home nurse skills noteRow soundRow pastRow ∧ MR T told2 ∧ VV T := by
  obtain ⟨t, hM⟩ := hC
  obtain ⟨⟨r0, a0, a10, a17, a1, a2, a3, r1, r2, r3, r10, r17⟩, hi, hs⟩ := hD
  have T : ∀ k, k < 78 → (fun k => if k < 78 then row k else t k) k = row k := fun k hk => if_pos hk
  refine ⟨fun k => if k < 78 then row k else t k, ⟨⟨?_, ?_, ?_, ?_, ?_, ?_⟩, ?_, ?_, ?_, ?_, ?_⟩, ?_, ⟨⟨?_, ?_, ?_, ?_, ?_, ?_⟩, ?_, ?_, ?_, ?_, ?_⟩⟩
  · exact a0
  · rw [T 10 (by omega), r10]; exact a10
  · rw [T 17 (by omega), r17]; exact a17
  · rw [T 1 (by omega), r1]; exact a1
  · rw [T 2 (by omega), r2]; exact a2
  · rw [T 3 (by omega), r3]; exact a3
  · intro i h
    rw [T 0 (by omega)] at h
    rw [T (24 + i) (by omega), T (4 + i) (by omega), T (30 + i) (by omega), T (11 + i) (by omega)]
    obtain ⟨b1, b2, b3, b4, _⟩ := hi i h
    exact ⟨b1, b2, b3, b4⟩
  · intro j h
    rw [T (18 + j) (by omega)]
    exact (hs j h).1
  · intro k h
    rw [T 1 (by omega), r1] at h
    exact absurd h (by omega)
  · intro k h
    rw [T 2 (by omega), r2] at h
    exact absurd h (by omega)
  · intro k h
    rw [T 3 (by omega), r3] at h
    exact absurd h (Nat.not_lt_zero k)
  · intro k hk
    dsimp only
    by_cases z : k < 78
    · rw [if_pos z]; exact h1 k z
    · rw [if_neg z, h2 k (by omega)]; exact hM k hk
  · rw [T 0 (by omega)]; exact r0
  · rw [T 1 (by omega), r1]; omega
  · rw [T 2 (by omega), r2]; omega
  · rw [T 3 (by omega), r3]; omega
  · rw [T 10 (by omega), r10]; omega
  · rw [T 17 (by omega), r17]; omega
  · intro i h
    rw [T 0 (by omega)] at h
    rw [T (24 + i) (by omega), T (4 + i) (by omega), T (30 + i) (by omega), T (11 + i) (by omega)]
    obtain ⟨b1, b2, b3, b4, c1, c2, c3, c4⟩ := hi i h
    exact ⟨c1, by omega, fun _ => c2, c3, c4⟩
  · intro j h
    rw [T (18 + j) (by omega)]
    exact (hs j h).2
  · intro k h
    rw [T 1 (by omega), r1] at h
    exact absurd h (Nat.not_lt_zero k)
  · intro k h
    rw [T 2 (by omega), r2] at h
    exact absurd h (Nat.not_lt_zero k)
  · intro k h
    rw [T 3 (by omega), r3] at h
    exact absurd h (Nat.not_lt_zero k)
theorem nm_t {b : Nat → Nat} {n p h : Nat} (hn : nmN b n p h = true) : tkN b n p = 2 ∧ tvN b n p < h := by
  unfold nmN at hn
  rw [Bool.and_eq_true, decide_eq_true_eq, decide_eq_true_eq] at hn
  exact hn
theorem la_at {row : Nat → Nat} {k m h : Nat} (h6 : row 0 < 6) : laN row k m h 0 = row 0 + 1 ∧ (∀ j, j < 6 → laN row k m h (24 + j) = if j = row 0 then k else row (24 + j)) ∧ (∀ j, j < 6 → laN row k m h (4 + j) = if j = row 0 then m else row (4 + j)) ∧ (∀ j, j < 6 → laN row k m h (30 + j) = if j = row 0 then h else row (30 + j)) ∧ (∀ j, j < 6 → laN row k m h (11 + j) = if j = row 0 then row 0 else row (11 + j)) ∧ (∀ j, j = 1 ∨ j = 2 ∨ j = 3 ∨ j = 10 ∨ (17 ≤ j ∧ j < 24) → laN row k m h j = row j) := by
  unfold laN
  refine ⟨up_eq _ _ _, fun j hj => ?_, fun j hj => ?_, fun j hj => ?_, fun j hj => ?_, fun j hj => ?_⟩
  · rw [up_ne (by omega), up_ne (by omega), up_ne (by omega), up_ne (by omega), up_if]
  · rw [up_ne (by omega), up_ne (by omega), up_ne (by omega), up_if, up_ne (by omega)]
  · rw [up_ne (by omega), up_ne (by omega), up_if, up_ne (by omega), up_ne (by omega)]
  · rw [up_ne (by omega), up_if, up_ne (by omega), up_ne (by omega), up_ne (by omega)]
  · rw [up_ne (by omega), up_ne (by omega), up_ne (by omega), up_ne (by omega), up_ne (by omega)]
theorem DR_add {row : Nat → Nat} {infants retired month notes sounds pasts : Int32} {kind months home nurse skills : Nat → Int32} (hD : DR row infants retired month notes sounds pasts kind months home nurse skills) {k m h : Nat} (h6 : row 0 < 6) (hk : k < 6) (hm : m ≤ 35) (hh : h < 6) {Post : Int32 → Int32 → (Nat → Int32) → (Nat → Int32) → (Nat → Int32) → (Nat → Int32) → Prop} (hp : ∀ i2 p2 k2 m2 h2 n2, DR (laN row k m h) i2 retired month notes sounds p2 k2 m2 h2 n2 skills → Post i2 p2 k2 m2 h2 n2) : wp_X1_add infants pasts kind months home nurse (nI k) (nI m) (nI h) Post := by
  obtain ⟨⟨r0, a0, a10, a17, a1, a2, a3, r1, r2, r3, r10, r17⟩, hi, hs⟩ := hD
  obtain ⟨l0, l1, l2, l3, l4, l5⟩ := la_at (row := row) (k := k) (m := m) (h := h) h6
  unfold wp_X1_add
  refine pk_lt (row 0) 6 (fun _ => ⟨pk_in (row 0) 6 h6 a0, fun k9 ek m9 em h9 eh n9 en x ex => hp _ _ _ _ _ _ ⟨⟨?_, ?_, a10, a17, a1, a2, rfl, ?_, ?_, ?_, ?_, ?_⟩, ?_, ?_⟩⟩) (fun z => absurd h6 (by omega)) a0
  · rw [l0]; omega
  · rw [l0, ex, a0, nI_1]
  · rw [l5 1 (by omega)]; exact r1
  · rw [l5 2 (by omega)]; exact r2
  · rw [l5 3 (by omega)]; exact r3
  · rw [l5 10 (by omega)]; exact r10
  · rw [l5 17 (by omega)]; exact r17
  · intro i h
    rw [l0] at h
    rw [l1 i (by omega), l2 i (by omega), l3 i (by omega), l4 i (by omega)]
    rw [pk_cl (row 0) a0] at ek em eh en
    rw [ek, em, eh, en, upd_at, upd_at, upd_at, upd_at]
    by_cases z : i = row 0
    · simp only [z, if_true]
      exact ⟨trivial, trivial, trivial, a0, hk, hm, hh, h6⟩
    · simp only [z, if_false]
      exact hi i (by omega)
  · intro j hj
    rw [l5 (18 + j) (by omega)]
    exact hs j hj
theorem DR_skill {row : Nat → Nat} {infants retired month notes sounds pasts : Int32} {kind months home nurse skills : Nat → Int32} (hD : DR row infants retired month notes sounds pasts kind months home nurse skills) {k m : Nat} (hk : k < 6) (hm : m < 10) : DR (up row (18 + k) m) infants retired month notes sounds 0 kind months home nurse (upd skills k (nI m)) := by
  obtain ⟨⟨r0, a0, a10, a17, a1, a2, a3, r1, r2, r3, r10, r17⟩, hi, hs⟩ := hD
  have u : ∀ j, j < 18 ∨ 24 ≤ j → up row (18 + k) m j = row j := fun j h => up_ne (by omega)
  refine ⟨⟨?_, ?_, a10, a17, a1, a2, rfl, ?_, ?_, ?_, ?_, ?_⟩, ?_, ?_⟩
  · rw [u 0 (by omega)]; exact r0
  · rw [u 0 (by omega)]; exact a0
  · rw [u 1 (by omega)]; exact r1
  · rw [u 2 (by omega)]; exact r2
  · rw [u 3 (by omega)]; exact r3
  · rw [u 10 (by omega)]; exact r10
  · rw [u 17 (by omega)]; exact r17
  · intro i h
    rw [u 0 (by omega)] at h
    rw [u (24 + i) (by omega), u (4 + i) (by omega), u (30 + i) (by omega), u (11 + i) (by omega)]
    exact hi i h
  · intro j hj
    rw [up_if, upd_at]
    by_cases z : j = k
    · rw [if_pos z, if_pos z]
      exact ⟨rfl, by omega⟩
    · rw [if_neg z, if_neg z]
      exact hs j hj
theorem DR_nurse {row : Nat → Nat} {infants retired month notes sounds pasts : Int32} {kind months home nurse skills : Nat → Int32} (hD : DR row infants retired month notes sounds pasts kind months home nurse skills) {k m : Nat} (hk : k < row 0) (hm : m < 6) : DR (up row (11 + k) m) infants retired month notes sounds pasts kind months home (upd nurse k (nI m)) skills := by
  obtain ⟨⟨r0, a0, a10, a17, a1, a2, a3, r1, r2, r3, r10, r17⟩, hi, hs⟩ := hD
  have u : ∀ j, j < 11 ∨ 17 ≤ j → up row (11 + k) m j = row j := fun j h => up_ne (by omega)
  refine ⟨⟨?_, ?_, a10, a17, a1, a2, a3, ?_, ?_, ?_, ?_, ?_⟩, ?_, ?_⟩
  · rw [u 0 (by omega)]; exact r0
  · rw [u 0 (by omega)]; exact a0
  · rw [u 1 (by omega)]; exact r1
  · rw [u 2 (by omega)]; exact r2
  · rw [u 3 (by omega)]; exact r3
  · rw [u 10 (by omega)]; exact r10
  · rw [u 17 (by omega)]; exact r17
  · intro i h
    rw [u 0 (by omega)] at h
    rw [u (24 + i) (by omega), u (4 + i) (by omega), u (30 + i) (by omega), up_if, upd_at]
    obtain ⟨b1, b2, b3, b4, c1, c2, c3, c4⟩ := hi i h
    by_cases z : i = k
    · rw [if_pos z, if_pos z]
      exact ⟨b1, b2, b3, rfl, c1, c2, c3, hm⟩
    · rw [if_neg z, if_neg z]
      exact ⟨b1, b2, b3, b4, c1, c2, c3, c4⟩
  · intro j hj
    rw [u (18 + j) (by omega)]
    exact hs j hj
