/-! One item: both sides. -/
theorem w_In : ∀ i, i < 6 → stCh 1 (nI i) = nI (wIn i) ∧ wIn i < 128 := by decide +kernel
theorem w_Co : ∀ i, i < 5 → stCh 0 (nI i) = nI (wCo i) ∧ wCo i < 128 := by decide +kernel
theorem w_Sk : ∀ i, i < 5 → stCh 2 (nI i) = nI (wSk i) ∧ wSk i < 128 := by decide +kernel
theorem w_Nu : ∀ i, i < 5 → stCh 3 (nI i) = nI (wNu i) ∧ wNu i < 128 := by decide +kernel
theorem tv_m1 {n : Nat} {b : Nat → Nat} {bytes : Nat → Int32} (hT : TX n b bytes) {p h : Nat} (hp : p ≤ n) (hn : nmN b n p h = true) : ¬ nI (tvN b n p) = -1 := by
  have := tv_lt hT hp (nm_t hn).1
  exact nI_m1 (by omega)
theorem s_item9 {n : Nat} {b : Nat → Nat} {bytes : Nat → Int32} (hT : TX n b bytes) {p : Nat} (hp : p ≤ n) {v : Int32} (hv : tkN b n p = 2 → v = nI (tvN b n p)) {row : Nat → Nat} {infants retired month notes sounds pasts : Int32} {kind months home nurse skills : Nat → Int32} (hD : DR row infants retired month notes sounds pasts kind months home nurse skills) {Post : Int32 → Int32 → Int32 → Int32 → Int32 → Int32 → Int32 → (Nat → Int32) → (Nat → Int32) → (Nat → Int32) → (Nat → Int32) → (Nat → Int32) → Prop} (hf : ∀ f, icN b n row p = Sum.inl f → ∀ a c d i2 p2 k2 m2 h2 n2 s2, Post 0 a (nI (tqN b n f)) c d i2 p2 k2 m2 h2 n2 s2) (hs : ∀ row2 q, icN b n row p = Sum.inr (row2, q) → ∀ i2 p2 k2 m2 h2 n2 s2, DR row2 i2 retired month notes sounds p2 k2 m2 h2 n2 s2 → (tkN b n q = 3 → ∀ v2, (tkN b n (teN b n q) = 2 → v2 = nI (tvN b n (teN b n q))) → Post 1 (nI (tkN b n (teN b n q))) (nI (tqN b n (teN b n q))) (nI (teN b n (teN b n q))) v2 i2 p2 k2 m2 h2 n2 s2) ∧ (tkN b n q ≠ 3 → ∀ v2, Post 0 (nI (tkN b n q)) (nI (tqN b n q)) (nI (teN b n q)) v2 i2 p2 k2 m2 h2 n2 s2)) : wp_X2_readItem (nI n) bytes (nI (tkN b n p)) (nI (tqN b n p)) (nI (teN b n p)) v infants pasts kind months home nurse skills Post := by
  obtain ⟨_, q2, q3, q4, _, q6⟩ := t_ok b hp
  obtain ⟨_, _, _, q4a, _, q6a⟩ := t_ok b q4
  obtain ⟨_, _, _, q4b, _, _⟩ := t_ok b q4a
  obtain ⟨_, _, _, q4c, _, _⟩ := t_ok b q4b
  unfold wp_X2_readItem
  refine s_word9 hT (j := 1) (w := wIn) (sz := 6) rfl w_In (by omega) q3 q4 q6 (sp_b (fun c1 => s_word9 hT (j := 2) (w := wSk) (sz := 5) rfl w_Sk (by omega) q3 q4 q6 (sp_b (fun c2 => s_word9 hT (j := 3) (w := wNu) (sz := 5) rfl w_Nu (by omega) q3 q4 q6 (sp_b (fun c3 => ?_) (fun c3 => ?_))) (fun c2 => ?_))) (fun c1 => ?_))
  · exact hf p (by unfold icN; rw [if_neg (by rw [c1]; decide), if_neg (by rw [c2]; decide), if_neg (by rw [c3]; decide)]) _ _ _ _ _ _ _ _ _ _
  · have ei : icN b n row p = i2N b n row 11 (row 0) 6 (teN b n p) := by unfold icN; rw [if_neg (by rw [c1]; decide), if_neg (by rw [c2]; decide), if_pos c3]
    rw [ei] at hf hs
    unfold i2N at hf hs
    have r6 := hD.1.1
    unfold wp_X2_readNurse
    refine s_adv9 hT q4 (fun v1 hv1 => s_num9 hT q4 (h := row 0) (by omega) (by rw [hD.1.2.1]) hv1 (fun n1 v2 hv2 => ⟨fun w => absurd w (tv_m1 hT q4 n1), fun _ => s_num9 hT q4a (h := 6) (by omega) rfl hv2 (fun n2 v3 hv3 => ⟨fun w => absurd w (tv_m1 hT q4a n2), fun _ => ?_⟩) (fun n2 => ⟨fun _ => ⟨Or.inl rfl, ?_⟩, fun w => absurd rfl w⟩)⟩) (fun n1 => ⟨fun _ => ⟨Or.inl rfl, ?_⟩, fun w => absurd rfl w⟩))
    · have a1 := (nm_t n1).2
      have a2 := (nm_t n2).2
      rw [if_pos n1, if_pos n2] at hs
      rw [nI_clamp (by omega)]
      refine ⟨vp_in_nI (by omega) (by omega), fun f ef => ?_⟩
      have hD2 := DR_nurse hD a1 a2
      rw [← ef] at hD2
      obtain ⟨k1, k2⟩ := hs _ _ rfl _ _ _ _ _ _ _ hD2
      exact s_end9 hT q4b (fun z v4 hv4 => ⟨Or.inr rfl, Or.inr rfl, k1 z v4 hv4⟩) (fun z => ⟨Or.inl rfl, Or.inl rfl, k2 z v3⟩)
    · rw [if_pos n1, if_neg (by rw [n2]; decide)] at hf
      exact hf _ rfl _ _ _ _ _ _ _ _ _ _
    · rw [if_neg (by rw [n1]; decide)] at hf
      exact hf _ rfl _ _ _ _ _ _ _ _ _ _
  · have ei : icN b n row p = i2N b n row 18 6 10 (teN b n p) := by unfold icN; rw [if_neg (by rw [c1]; decide), if_pos c2]
    rw [ei] at hf hs
    unfold i2N at hf hs
    unfold wp_X2_readSkill wp_X1_setSkill
    refine s_adv9 hT q4 (fun v1 hv1 => s_num9 hT q4 (h := 6) (by omega) rfl hv1 (fun n1 v2 hv2 => ⟨fun w => absurd w (tv_m1 hT q4 n1), fun _ => s_num9 hT q4a (h := 10) (by omega) rfl hv2 (fun n2 v3 hv3 => ⟨fun w => absurd w (tv_m1 hT q4a n2), fun _ => ?_⟩) (fun n2 => ⟨fun _ => ⟨Or.inl rfl, ?_⟩, fun w => absurd rfl w⟩)⟩) (fun n1 => ⟨fun _ => ⟨Or.inl rfl, ?_⟩, fun w => absurd rfl w⟩))
    · have a1 := (nm_t n1).2
      have a2 := (nm_t n2).2
      rw [if_pos n1, if_pos n2] at hs
      rw [nI_clamp (by omega)]
      refine ⟨vp_in_nI (by omega) (by omega), fun f ef => ?_⟩
      have hD2 := DR_skill hD a1 a2
      rw [← ef] at hD2
      obtain ⟨k1, k2⟩ := hs _ _ rfl _ _ _ _ _ _ _ hD2
      exact s_end9 hT q4b (fun z v4 hv4 => ⟨Or.inr rfl, Or.inr rfl, k1 z v4 hv4⟩) (fun z => ⟨Or.inl rfl, Or.inl rfl, k2 z v3⟩)
    · rw [if_pos n1, if_neg (by rw [n2]; decide)] at hf
      exact hf _ rfl _ _ _ _ _ _ _ _ _ _
    · rw [if_neg (by rw [n1]; decide)] at hf
      exact hf _ rfl _ _ _ _ _ _ _ _ _ _
  · have r6 := hD.1.1
    unfold wp_X2_readInfant
    refine pk_lt (row 0) 6 (fun z6 => ?_) (fun z6 => ⟨Or.inl rfl, ?_⟩) hD.1.2.1
    · have ei : icN b n row p = i3N b n row (teN b n p) := by unfold icN; rw [if_pos c1, if_neg (by omega)]
      rw [ei] at hf hs
      unfold i3N at hf hs
      refine s_adv9 hT q4 (fun v1 hv1 => s_num9 hT q4 (h := 6) (by omega) rfl hv1 (fun n1 v2 hv2 => ⟨fun w => absurd w (tv_m1 hT q4 n1), fun _ => s_num9 hT q4a (h := 36) (by omega) rfl hv2 (fun n2 v3 hv3 => ⟨fun w => absurd w (tv_m1 hT q4a n2), fun _ => s_num9 hT q4b (h := 6) (by omega) rfl hv3 (fun n3 v4 hv4 => ⟨fun w => absurd w (tv_m1 hT q4b n3), fun _ => ?_⟩) (fun n3 => ⟨fun _ => ⟨Or.inl rfl, ?_⟩, fun w => absurd rfl w⟩)⟩) (fun n2 => ⟨fun _ => ⟨Or.inl rfl, ?_⟩, fun w => absurd rfl w⟩)⟩) (fun n1 => ⟨fun _ => ⟨Or.inl rfl, ?_⟩, fun w => absurd rfl w⟩))
      · have a1 := (nm_t n1).2
        have a2 := (nm_t n2).2
        have a3 := (nm_t n3).2
        rw [if_pos n1, if_pos n2, if_pos n3] at hs
        refine DR_add hD z6 a1 (by omega) a3 (fun i2 p2 k2 m2 h2 n2 hD2 => ?_)
        obtain ⟨k1, k2⟩ := hs _ _ rfl _ _ _ _ _ _ _ hD2
        exact s_end9 hT q4c (fun z v5 hv5 => ⟨Or.inr rfl, Or.inr rfl, k1 z v5 hv5⟩) (fun z => ⟨Or.inl rfl, Or.inl rfl, k2 z v4⟩)
      · rw [if_pos n1, if_pos n2, if_neg (by rw [n3]; decide)] at hf
        exact hf _ rfl _ _ _ _ _ _ _ _ _ _
      · rw [if_pos n1, if_neg (by rw [n2]; decide)] at hf
        exact hf _ rfl _ _ _ _ _ _ _ _ _ _
      · rw [if_neg (by rw [n1]; decide)] at hf
        exact hf _ rfl _ _ _ _ _ _ _ _ _ _
    · exact hf p (by unfold icN; rw [if_pos c1, if_pos (by omega)]) _ _ _ _ _ _ _ _ _ _
/-! the reference -/
def AR (row : Nat → Nat) (anew : Nat → Int32) : Prop := ∀ k, k < 78 → anew k = nI (row k)
theorem AR_up {row : Nat → Nat} {anew f : Nat → Int32} (h : AR row anew) {a i : Nat} {x y : Int32} {m : Nat} (ef : f = upd anew (nI a + y).toNatClampNeg x) (hy : y = nI i) (hai : a + i < 78) (hx : x = nI m) : AR (up row (a + i) m) f := by
  subst hy
  rw [nI_add, nI_clamp (by omega)] at ef
  intro k hk
  rw [ef, upd_at, up_at]
  split
  · exact hx
  · exact h k hk
theorem s_lay10 {row : Nat → Nat} {anew : Nat → Int32} (h : AR row anew) (h6 : row 0 < 6) {k m q : Nat} {x y z : Int32} (hx : x = nI k) (hy : y = nI m) (hz : z = nI q) {Post : (Nat → Int32) → Prop} (hp : ∀ f, AR (laN row k m q) f → Post f) : wp_X10_layInfant 78 anew x y z Post := by
  have h0 := h 0 (by omega)
  refine ⟨pk_in 0 78 (by omega), fun i ei => ?_⟩
  rw [h0] at ei
  subst ei
  refine ⟨pk_in (24 + row 0) 78 (by omega) (nI_add 24 _), fun f1 e1 => ⟨pk_in (4 + row 0) 78 (by omega) (nI_add 4 _), fun f2 e2 => ⟨pk_in (30 + row 0) 78 (by omega) (nI_add 30 _), fun f3 e3 => ⟨pk_in (11 + row 0) 78 (by omega) (nI_add 11 _), fun f4 e4 x5 ex5 f5 e5 => ?_⟩⟩⟩⟩
  have a1 : AR _ f1 := AR_up (a := 24) h e1 rfl (by omega) hx
  have a2 : AR _ f2 := AR_up (a := 4) a1 e2 rfl (by omega) hy
  have a3 : AR _ f3 := AR_up (a := 30) a2 e3 rfl (by omega) hz
  have a4 : AR _ f4 := AR_up (a := 11) a3 e4 rfl (by omega) rfl
  have e40 : f4 0 = nI (row 0) := by
    rw [a4 0 (by omega), up_ne (by omega), up_ne (by omega), up_ne (by omega), up_ne (by omega)]
  refine hp f5 (fun j hj => ?_)
  unfold laN
  rw [e5, upd_at, up_at]
  by_cases w : j = 0
  · rw [if_pos w, if_pos w, ex5, e40, nI_1]
  · rw [if_neg w, if_neg w]
    exact a4 j hj
theorem s_item10 {n : Nat} {b : Nat → Nat} {bytes : Nat → Int32} (hT : TX n b bytes) {p : Nat} (hp : p ≤ n) {v : Int32} (hv : tkN b n p = 2 → v = nI (tvN b n p)) {row : Nat → Nat} (r6 : row 0 ≤ 6) {anew values : Nat → Int32} (hA : AR row anew) {Post : Int32 → Int32 → Int32 → Int32 → Int32 → (Nat → Int32) → (Nat → Int32) → Prop} (hf : ∀ f, icN b n row p = Sum.inl f → ∀ a c d an2 va2, Post 0 (nI (tqN b n f)) a c d an2 va2) (hs : ∀ row2 q, icN b n row p = Sum.inr (row2, q) → q ≤ n → p < q → row2 0 ≤ 6 → ∀ v2 an2 va2, (tkN b n q = 2 → v2 = nI (tvN b n q)) → AR row2 an2 → Post 1 (nI (tqN b n q)) (nI (teN b n q - tqN b n q)) (nI (tkN b n q)) v2 an2 va2) : wp_X10_takesItem (nI n) bytes (nI (tqN b n p)) (nI (teN b n p - tqN b n p)) (nI (tkN b n p)) v anew values Post := by
  obtain ⟨_, q2, q3, q4, q5, q6⟩ := t_ok b hp
  obtain ⟨q1a, q2a, _, q4a, _, q6a⟩ := t_ok b q4
  obtain ⟨q1b, q2b, _, q4b, _, _⟩ := t_ok b q4a
  obtain ⟨q1c, q2c, _, q4c, _, _⟩ := t_ok b q4b
  have wk : ∀ {w : Nat → Nat} {sz : Nat}, isW w b sz (tqN b n p) (teN b n p) (tkN b n p) = true → p < teN b n p := by
    intro w sz h
    unfold isW at h
    rw [Bool.and_eq_true, Bool.and_eq_true, decide_eq_true_eq] at h
    exact q5 (by rw [h.1.1]; omega)
  have h0 := hA 0 (by omega)
  unfold wp_X10_takesItem
  refine s_spell10 (w0 := 105) (w1 := 110) (w2 := 102) (w3 := 97) (w4 := 110) (w5 := 116) (sz := 6) hT (by omega) (by omega) (by omega) rfl q3 q4 q6 (sp_b (fun c1 => s_spell10 (w0 := 115) (w1 := 107) (w2 := 105) (w3 := 108) (w4 := 108) (w5 := 0) (sz := 5) hT (by omega) (by omega) (by omega) rfl q3 q4 q6 (sp_b (fun c2 => s_spell10 (w0 := 110) (w1 := 117) (w2 := 114) (w3 := 115) (w4 := 101) (w5 := 0) (sz := 5) hT (by omega) (by omega) (by omega) rfl q3 q4 q6 (sp_b (fun c3 => ?_) (fun c3 => ?_))) (fun c2 => ?_))) (fun c1 => ?_))
  · exact hf p (by unfold icN wIn wSk wNu; rw [if_neg (by rw [c1]; decide), if_neg (by rw [c2]; decide), if_neg (by rw [c3]; decide)]) _ _ _ _ _
  · have ei : icN b n row p = i2N b n row 11 (row 0) 6 (teN b n p) := by unfold icN wIn wSk wNu; rw [if_neg (by rw [c1]; decide), if_neg (by rw [c2]; decide), if_pos c3]
    rw [ei] at hf hs
    unfold i2N at hf hs
    have lt := wk c3
    unfold wp_X10_takesNurse
    refine s_beh10 hT q3 rfl q4 (fun v1 hv1 => s_take10 (k := 0) hT q4 (h := row 0) (by omega) (by omega) (by rw [h0]) hv1 (fun n1 v2 hv2 => ⟨fun w => absurd w (by decide), fun _ => s_take10 (k := 1) hT q4a (h := 6) (by omega) (by omega) rfl hv2 (fun n2 v3 hv3 => ⟨fun w => absurd w (by decide), fun _ x ex => ?_⟩) (fun n2 => ⟨fun _ => ⟨fun _ => ?_, fun w => absurd rfl w⟩, fun w => absurd rfl w⟩)⟩) (fun n1 => ⟨fun _ => ⟨fun _ => ?_, fun w => absurd rfl w⟩, fun w => absurd rfl w⟩))
    · have a1 := (nm_t n1).2
      have a2 := (nm_t n2).2
      rw [if_pos n1, if_pos n2] at hs
      rw [pk_us] at ex
      rw [pk_un (by omega), pk_us]
      refine ⟨pk_in (11 + tvN b n (teN b n p)) 78 (by omega) (nI_add 11 _), fun f ef => ⟨fun w => absurd w (by decide), fun _ => ?_⟩⟩
      exact hs _ _ rfl q4b (by omega) (by rw [up_ne (by omega)]; exact r6) v3 f _ hv3 (AR_up (a := 11) hA ef rfl (by omega) ex)
    · rw [if_pos n1, if_neg (by rw [n2]; decide)] at hf
      exact hf _ rfl _ _ _ _ _
    · rw [if_neg (by rw [n1]; decide)] at hf
      exact hf _ rfl _ _ _ _ _
  · have ei : icN b n row p = i2N b n row 18 6 10 (teN b n p) := by unfold icN wIn wSk wNu; rw [if_neg (by rw [c1]; decide), if_pos c2]
    rw [ei] at hf hs
    unfold i2N at hf hs
    have lt := wk c2
    unfold wp_X10_takesSkill
    refine s_beh10 hT q3 rfl q4 (fun v1 hv1 => s_take10 (k := 0) hT q4 (h := 6) (by omega) (by omega) rfl hv1 (fun n1 v2 hv2 => ⟨fun w => absurd w (by decide), fun _ => s_take10 (k := 1) hT q4a (h := 10) (by omega) (by omega) rfl hv2 (fun n2 v3 hv3 => ⟨fun w => absurd w (by decide), fun _ x ex => ?_⟩) (fun n2 => ⟨fun _ => ⟨Or.inl rfl, ?_⟩, fun w => absurd rfl w⟩)⟩) (fun n1 => ⟨fun _ => ⟨Or.inl rfl, ?_⟩, fun w => absurd rfl w⟩))
    · have a1 := (nm_t n1).2
      have a2 := (nm_t n2).2
      rw [if_pos n1, if_pos n2] at hs
      rw [pk_us] at ex
      rw [pk_un (by omega), pk_us]
      refine ⟨pk_in (18 + tvN b n (teN b n p)) 78 (by omega) (nI_add 18 _), fun f ef => ⟨Or.inr rfl, ?_⟩⟩
      exact hs _ _ rfl q4b (by omega) (by rw [up_ne (by omega)]; exact r6) v3 f _ hv3 (AR_up (a := 18) hA ef rfl (by omega) ex)
    · rw [if_pos n1, if_neg (by rw [n2]; decide)] at hf
      exact hf _ rfl _ _ _ _ _
    · rw [if_neg (by rw [n1]; decide)] at hf
      exact hf _ rfl _ _ _ _ _
  · have lt := wk c1
    unfold wp_X10_takesInfant
    refine pk_eq (row 0) 6 (fun z6 => ⟨Or.inl rfl, ?_⟩) (fun z6 => ?_) h0
    · exact hf p (by unfold icN wIn; rw [if_pos c1, if_pos z6]) _ _ _ _ _
    · have ei : icN b n row p = i3N b n row (teN b n p) := by unfold icN wIn; rw [if_pos c1, if_neg z6]
      rw [ei] at hf hs
      unfold i3N at hf hs
      refine s_beh10 hT q3 rfl q4 (fun v1 hv1 => s_take10 (k := 0) hT q4 (h := 6) (by omega) (by omega) rfl hv1 (fun n1 v2 hv2 => ⟨fun w => absurd w (by decide), fun _ => s_take10 (k := 1) hT q4a (h := 36) (by omega) (by omega) rfl hv2 (fun n2 v3 hv3 => ⟨fun w => absurd w (by decide), fun _ => s_take10 (k := 2) hT q4b (h := 6) (by omega) (by omega) rfl hv3 (fun n3 v4 hv4 => ⟨fun w => absurd w (by decide), fun _ => ?_⟩) (fun n3 => ⟨fun _ => ⟨Or.inl rfl, ?_⟩, fun w => absurd rfl w⟩)⟩) (fun n2 => ⟨fun _ => ⟨Or.inl rfl, ?_⟩, fun w => absurd rfl w⟩)⟩) (fun n1 => ⟨fun _ => ⟨Or.inl rfl, ?_⟩, fun w => absurd rfl w⟩))
      · rw [if_pos n1, if_pos n2, if_pos n3] at hs
        refine s_lay10 hA (by omega) (k := tvN b n (teN b n p)) (m := tvN b n (teN b n (teN b n p))) (q := tvN b n (teN b n (teN b n (teN b n p)))) ?_ ?_ ?_ (fun f hA2 => ⟨Or.inr rfl, ?_⟩)
        · rw [pk_un (by omega), pk_un (by omega), pk_us]
        · rw [pk_un (by omega), pk_us]
        · rw [pk_us]
        · exact hs _ _ rfl q4c (by omega) (by rw [(la_at (row := row) (by omega)).1]; omega) v4 f _ hv4 hA2
      · rw [if_pos n1, if_pos n2, if_neg (by rw [n3]; decide)] at hf
        exact hf _ rfl _ _ _ _ _
      · rw [if_pos n1, if_neg (by rw [n2]; decide)] at hf
        exact hf _ rfl _ _ _ _ _
      · rw [if_neg (by rw [n1]; decide)] at hf
        exact hf _ rfl _ _ _ _ _
