/-! read: both sides. -/
theorem s_cpL10 {n : Nat} {bytes : Nat → Int32} {row : Nat → Nat} {told anew values : Nat → Int32} (hA : AR row anew) {v1 a c e x : Int32} {Post : Int32 → Int32 → Int32 → Int32 → Int32 → (Nat → Int32) → (Nat → Int32) → (Nat → Int32) → Prop} (hp : ∀ f, (∀ k, k < 78 → f k = nI (row k)) → (∀ k, 78 ≤ k → f k = told k) → Post v1 a c e x f anew values) : ∀ d k, k + d = 78 → ∀ f, (∀ i, i < k → f i = nI (row i)) → (∀ i, 78 ≤ i → f i = told i) → wp_X10_read_L107 (nI n) bytes Post (d + 1) v1 (nI k) a c e x f anew values := by
  intro d
  induction d with
  | zero =>
    intro k h f h1 h2
    obtain rfl : k = 78 := by omega
    exact ⟨fun _ => hp f h1 h2, fun q => absurd (show (78 : Int32) ≤ nI 78 by decide) q⟩
  | succ d ih =>
    intro k h f h1 h2
    refine ⟨fun q => absurd q (nI_ge (a := k) (b := 78) (by omega) (by omega)), fun _ => ⟨vp_in_nI (by omega) (by omega), fun y ey => ⟨vp_in_nI (by omega) (by omega), fun g eg z ez => ?_⟩⟩⟩
    rw [nI_clamp (by omega), hA k (by omega)] at ey
    rw [nI_clamp (by omega)] at eg
    rw [ez, nI_1]
    refine ih (k + 1) (by omega) g (fun i hi => ?_) (fun i hi => ?_)
    · rw [eg, upd_at]
      by_cases w : i = k
      · rw [if_pos w, ey, w]
      · rw [if_neg w]
        exact h1 i (by omega)
    · rw [eg, upd_at, if_neg (by omega)]
      exact h2 i hi
theorem s_read10 {n : Nat} {b : Nat → Nat} {bytes : Nat → Int32} (hT : TX n b bytes) {tokenAt tokenLong token value : Int32} {told anew values : Nat → Int32} {Post : Int32 → Int32 → Int32 → Int32 → Int32 → (Nat → Int32) → (Nat → Int32) → (Nat → Int32) → Prop} (hf : ∀ f, coN b n = Sum.inl f → ∀ a c e x an va, Post ((-10) - nI (tqN b n f)) a c e x told an va) (hs : ∀ it row, coN b n = Sum.inr (it, row) → ∀ a c e x g an va, (∀ k, k < 78 → g k = nI (row k)) → (∀ k, 78 ≤ k → g k = told k) → Post (nI it) a c e x g an va) : wp_X10_read (nI n) bytes tokenAt tokenLong token value told anew values Post := by
  have hp0 : 0 ≤ n := Nat.zero_le n
  obtain ⟨_, q2, q3, q4, q5, q6⟩ := t_ok b hp0
  obtain ⟨_, q2a, q3a, q4a, q5a, q6a⟩ := t_ok b q4
  unfold wp_X10_read
  refine s_look10 (p := 0) hT hp0 (fun v1 hv1 => s_spell10 (w0 := 99) (w1 := 111) (w2 := 117) (w3 := 114) (w4 := 116) (w5 := 0) (sz := 5) hT (by omega) (by omega) (by omega) rfl q3 q4 q6 (sp_b (fun c1 => ?_) (fun c1 => s_beh10 hT q3 rfl q4 (fun v2 hv2 => pk_eq (tkN b n (teN b n 0)) 3 (fun z => s_beh10 hT q3a rfl q4a (fun v3 hv3 => s_begin (by omega) (by omega) (fun g hg hg2 => ?_))) (fun z => ?_) rfl rfl (by omega)))))
  · exact hf 0 (by unfold coN wCo; rw [if_neg (by rw [c1]; decide)]) _ _ _ _ _ _
  · have ec : coN b n = paN b n (n + 1) 1 (fun _ => 0) (teN b n (teN b n 0)) := by
      unfold coN
      rw [if_pos (show isW wCo b 5 (tqN b n 0) (teN b n 0) (tkN b n 0) = true from c1), if_pos z]
    rw [ec] at hf hs
    exact ⟨n + 1, s_lpL10 hT (n + 1) 1 (fun _ => 0) (teN b n (teN b n 0)) v3 g values q4a (by omega) hv3 (Nat.zero_le _) (fun k hk => hg k hk) (fun f ef a c e an va => hf f ef _ _ _ _ _ _) (fun it2 r2 er a c e x an va hA2 => ⟨79, s_cpL10 hA2 (fun f h1 h2 => hs it2 r2 er _ _ _ _ _ _ _ h1 h2) 78 0 (by omega) told (fun i hi => absurd hi (Nat.not_lt_zero i)) (fun i _ => rfl)⟩)⟩
  · exact hf (teN b n 0) (by unfold coN; rw [if_pos (show isW wCo b 5 (tqN b n 0) (teN b n 0) (tkN b n 0) = true from c1), if_neg z]) _ _ _ _ _ _
theorem s_read9 {n : Nat} {b : Nat → Nat} {bytes : Nat → Int32} (hT : TX n b bytes) {token start behind value : Int32} {infants retired month notes sounds pasts : Int32} {kind months home nurse skills : Nat → Int32} {Post : Int32 → Int32 → Int32 → Int32 → Int32 → Int32 → Int32 → Int32 → Int32 → Int32 → Int32 → (Nat → Int32) → (Nat → Int32) → (Nat → Int32) → (Nat → Int32) → (Nat → Int32) → Prop} (hf : ∀ f, coN b n = Sum.inl f → f ≤ n → ∀ a x c e i2 r2 mo2 no2 so2 p2 k2 m2 h2 n2 s2, Post ((-10) - nI (tqN b n f)) a x c e i2 r2 mo2 no2 so2 p2 k2 m2 h2 n2 s2) (hs : ∀ it row, coN b n = Sum.inr (it, row) → it ≤ n → ∀ a x c e i2 r2 mo2 no2 so2 p2 k2 m2 h2 n2 s2, DR row i2 r2 mo2 no2 so2 p2 k2 m2 h2 n2 s2 → Post (nI it) a x c e i2 r2 mo2 no2 so2 p2 k2 m2 h2 n2 s2) : wp_X2_readCourt (nI n) bytes token start behind value infants retired month notes sounds pasts kind months home nurse skills Post := by
  have hp0 : 0 ≤ n := Nat.zero_le n
  obtain ⟨hn, _⟩ := id hT
  obtain ⟨_, q2, q3, q4, q5, q6⟩ := t_ok b hp0
  obtain ⟨_, q2a, q3a, q4a, q5a, q6a⟩ := t_ok b q4
  unfold wp_X2_readCourt wp_X1_begin
  refine s_fill (by omega) (fun g hg => s_adv9 (p := 0) hT hp0 (fun v1 hv1 => ?_))
  have hD : DR (fun _ => 0) 0 0 0 0 0 0 kind months home nurse g := by
    refine ⟨⟨Nat.zero_le _, rfl, rfl, rfl, rfl, rfl, rfl, rfl, rfl, rfl, rfl, rfl⟩, fun i h => absurd h (Nat.not_lt_zero i), fun j hj => ⟨?_, Nat.zero_le _⟩⟩
    rw [hg j hj]
    rfl
  have op : wp_X2_readCourt_J41 (nI n) bytes Post (fun a1 a2 a3 a4 a5 a6 a7 a8 a9 b1 b2 b3 b4 b5 b6 b7 b8 => wp_X2_readCourt_L20 (nI n) bytes Post (wp_X2_readCourt_J73 (nI n) bytes Post) (wp_X2_readCourt_J73 (nI n) bytes Post) (n + 1) a1 a2 a3 a4 a5 a6 a7 a8 a9 b1 b2 b3 b4 b5 b6 b7 b8) (wp_X2_readCourt_J73 (nI n) bytes Post) 0 0 (nI (tkN b n 0)) (nI (tqN b n 0)) (nI (teN b n 0)) v1 0 0 0 0 0 0 kind months home nurse g := by
    refine ⟨fun _ => ?_, fun w => absurd rfl w⟩
    unfold wp_X2_readOpening
    refine s_word9 hT (j := 0) (w := wCo) (sz := 5) rfl w_Co (by omega) q3 q4 q6 (sp_b (fun c1 => ⟨fun _ => ?_, fun w => absurd rfl w⟩) (fun c1 => s_adv9 hT q4 (fun v2 hv2 => s_end9 hT q4 (fun z v3 hv3 => ⟨Or.inr rfl, fun w => absurd w (by decide), fun _ x ex y ey => ?_⟩) (fun z => ⟨Or.inl rfl, fun _ => ?_, fun w => absurd rfl w⟩))))
    · exact hf 0 (by unfold coN; rw [if_neg (by rw [c1]; decide)]) (Nat.zero_le _) _ _ _ _ _ _ _ _ _ _ _ _ _ _ _
    · have ec : coN b n = paN b n (n + 1) 1 (fun _ => 0) (teN b n (teN b n 0)) := by
        unfold coN
        rw [if_pos c1, if_pos z]
      rw [ec] at hf hs
      have t5 := q5a (by rw [z]; omega)
      have ex' : x = nI 1 := ex
      have ey' : y = nI 1 := ey
      subst ex' ey'
      exact s_lpL9 hT (n + 1) 1 (fun _ => 0) (teN b n (teN b n 0)) v3 _ _ _ _ _ _ _ (by omega) (Nat.le_refl _) q4a (by omega) hv3 hD (fun f ef hfn a c e i2 p2 k2 m2 h2 n2 s2 => hf f ef hfn _ _ _ _ _ _ _ _ _ _ _ _ _ _ _) (fun it2 r2 er hit a x' c e i2 p2 k2 m2 h2 n2 s2 hD2 => hs it2 r2 er hit _ _ _ _ _ _ _ _ _ _ _ _ _ _ _ hD2)
    · exact hf (teN b n 0) (by unfold coN; rw [if_pos c1, if_neg z]) q4 _ _ _ _ _ _ _ _ _ _ _ _ _ _ _
  exact ⟨n + 2, ⟨fun w => absurd w (nI_pos (by omega)), fun _ => ⟨fun _ => ⟨fun _ => op, fun w => absurd (by decide) w⟩, fun _ => op⟩⟩⟩
theorem d_read {infants retired month notes sounds pasts : Int32} {kind months home nurse skills noteRow soundRow pastRow : Nat → Int32} {d_infants d_retired d_month d_notes d_sounds d_pasts : Int32} {d_kind d_months d_home d_nurse d_skills d_noteRow d_soundRow d_pastRow : Nat → Int32} {told bytes mbytes anew values : Nat → Int32} {length mlen token start behind value tokenAt tokenLong mtoken mvalue : Int32} (hC : CC infants retired month notes sounds pasts kind months home nurse skills noteRow soundRow pastRow told) (hT : TR length bytes mlen mbytes) {P : Int32 → Int32 → Int32 → Int32 → Int32 → Int32 → Int32 → (Nat → Int32) → (Nat → Int32) → (Nat → Int32) → (Nat → Int32) → (Nat → Int32) → (Nat → Int32) → (Nat → Int32) → (Nat → Int32) → Int32 → Int32 → Int32 → Int32 → Int32 → Int32 → Int32 → Int32 → Int32 → Int32 → (Nat → Int32) → (Nat → Int32) → (Nat → Int32) → (Nat → Int32) → (Nat → Int32) → Int32 → Int32 → Int32 → Int32 → Int32 → (Nat → Int32) → (Nat → Int32) → (Nat → Int32) → Prop} (hP : ∀ r a1 a2 a3 a4 a5 a6 a7 a8 a9 b1 b2 b3 b4 b5 c1 c2 c3 c4 e1 e2 e3 e4 e5 e6 f1 f2 f3 f4 f5 g1 g2 g3 g4 told9 an va, CC a1 a2 a3 a4 a5 a6 a7 a8 a9 b1 b2 b3 b4 b5 told9 → P r a1 a2 a3 a4 a5 a6 a7 a8 a9 b1 b2 b3 b4 b5 c1 c2 c3 c4 e1 e2 e3 e4 e5 e6 f1 f2 f3 f4 f5 r g1 g2 g3 g4 told9 an va) :
    wp_X9_read length bytes d_noteRow d_soundRow d_pastRow infants retired month notes sounds pasts kind months home nurse skills noteRow soundRow pastRow token start behind value d_infants d_retired d_month d_notes d_sounds d_pasts d_kind d_months d_home d_nurse d_skills (fun r a1 a2 a3 a4 a5 a6 a7 a8 a9 b1 b2 b3 b4 b5 c1 c2 c3 c4 e1 e2 e3 e4 e5 e6 f1 f2 f3 f4 f5 => wp_X10_read mlen mbytes tokenAt tokenLong mtoken mvalue told anew values (fun r' g1 g2 g3 g4 told9 an va => P r a1 a2 a3 a4 a5 a6 a7 a8 a9 b1 b2 b3 b4 b5 c1 c2 c3 c4 e1 e2 e3 e4 e5 e6 f1 f2 f3 f4 f5 r' g1 g2 g3 g4 told9 an va)) := by
  obtain ⟨n, hn, l1, l2, hb⟩ := hT
  obtain ⟨t, hR, hM, hV⟩ := id hC
  have hT1 : TX n (fun k => (bytes k).toNatClampNeg) bytes := by
    refine ⟨hn, fun k hk => ?_⟩
    obtain ⟨c, c1, c2, c3⟩ := hb k hk
    dsimp only
    rw [c2, nI_clamp (by omega)]
    exact ⟨rfl, c1⟩
  have hT2 : TX n (fun k => (bytes k).toNatClampNeg) mbytes := by
    refine ⟨hn, fun k hk => ?_⟩
    obtain ⟨c, c1, c2, c3⟩ := hb k hk
    dsimp only
    rw [c2, c3, nI_clamp (by omega)]
    exact ⟨rfl, c1⟩
  generalize (fun k => (bytes k).toNatClampNeg) = b at hT1 hT2
  subst l1 l2
  unfold wp_X9_read
  refine s_read9 hT1 (fun f ef hfn a x c e i2 r2 mo2 no2 so2 p2 k2 m2 h2 n2 s2 => ?_) (fun it row er hit a x c e i2 r2 mo2 no2 so2 p2 k2 m2 h2 n2 s2 hD => ?_)
  · have hq := (t_ok b hfn).2.1
    refine ⟨fun _ => s_read10 hT2 (fun f2 ef2 a' c' e' x' an va => ?_) (fun it row er => ?_), fun w => absurd (m10_neg _ (by omega)) w⟩
    · rw [ef] at ef2
      rw [← Sum.inl.inj ef2]
      exact hP _ _ _ _ _ _ _ _ _ _ _ _ _ _ _ _ _ _ _ _ _ _ _ _ _ _ _ _ _ _ _ _ _ _ _ _ _ hC
    · rw [ef] at er
      cases er
  · obtain ⟨hR2, hV2⟩ := DR_CV (noteRow := d_noteRow) (soundRow := d_soundRow) (pastRow := d_pastRow) hD t
    refine ⟨fun w => absurd w (nI_pos (by omega)), fun _ => s_copy9 hR2 hV2 (fun a1 a2 a3 a4 a5 a6 a7 a8 a9 b1 b2 b3 b4 b5 hR3 => s_read10 hT2 (fun f2 ef2 => ?_) (fun it2 row2 er2 a' c' e' x' g an va g1 g2 => ?_))⟩
    · rw [er] at ef2
      cases ef2
    · rw [er] at er2
      have e := Sum.inr.inj er2
      rw [← (Prod.mk.inj e).2] at g1
      rw [← (Prod.mk.inj e).1]
      refine hP _ _ _ _ _ _ _ _ _ _ _ _ _ _ _ _ _ _ _ _ _ _ _ _ _ _ _ _ _ _ _ _ _ _ _ _ _ ⟨mxR row t, hR3, fun k hk => ?_, hV2⟩
      unfold mxR
      by_cases z : k < 78
      · rw [if_pos z]
        exact g1 k z
      · rw [if_neg z, g2 k (by omega)]
        exact hM k hk
