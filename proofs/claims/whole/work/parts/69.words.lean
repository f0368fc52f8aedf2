/-! The reference's tokens; words. -/
theorem s_inR10 {c lo hi : Nat} (hc : c < 128) (hlo : lo < 128) (hhi : hi < 128) {x y : Int64} (hx : x = lN lo) (hy : y = lN hi) {Post : Int32 → Prop} (hp : Post (bI (inR lo hi c))) : wp_X10_in (nI c).toInt64 x y Post := by
  refine s_in ?_
  rw [hx, hy, nI_l (by omega)]
  have e1 : (lN lo ≤ lN c ↔ lo ≤ c) := lN_le (by omega) (by omega)
  have e2 : (lN c ≤ lN hi ↔ c ≤ hi) := lN_le (by omega) (by omega)
  simp only [e1, e2]
  exact hp
theorem s_small10 {c : Nat} (hc : c < 128) {Post : Int32 → Prop} (hp : Post (bI (inR 97 122 c))) : wp_X10_isSmall (nI c) Post := s_inR10 (lo := 97) (hi := 122) hc (by omega) (by omega) rfl rfl (sp_01 hp)
theorem s_fig10 {c : Nat} (hc : c < 128) {Post : Int32 → Prop} (hp : Post (bI (inR 48 57 c))) : wp_X10_isFigure (nI c) Post := s_inR10 (lo := 48) (hi := 57) hc (by omega) (by omega) rfl rfl (sp_01 hp)
/-- the run of a word or a number -/
theorem s_goes10 {n : Nat} {b : Nat → Nat} {bytes : Nat → Int32} (hT : TX n b bytes) {q lo hi tk : Nat} (htk : (tk = 1 ∧ lo = 97 ∧ hi = 122) ∨ (tk = 2 ∧ lo = 48 ∧ hi = 57)) {Post : Int32 → Int32 → Int32 → Int32 → Prop} {K : Int32 → Int32 → Int32 → Int32 → Prop} {v : Int32} {e : Nat} (hp : K (nI q) (nI (e - q)) (nI tk) v) : ∀ d L, q + L + d = n → rnE (fun i => inR lo hi (b i)) d (q + L) = e → wp_X10_lookAt_L136 (nI n) bytes Post K (d + 2) 1 (nI q) (nI L) (nI tk) v := by
  obtain ⟨hn, hb⟩ := hT
  intro d
  induction d with
  | zero =>
    intro L h er
    have er' : q + L = e := er
    rw [show e - q = L by omega] at hp
    refine ⟨fun z => absurd z (by decide), fun _ => ?_⟩
    rw [nI_add]
    exact ⟨fun _ => hp, fun z => absurd (nI_le (by omega) (by omega)) z⟩
  | succ d ih =>
    intro L h er
    obtain ⟨b1, b2⟩ := hb (q + L) (by omega)
    rw [rnE_succ] at er
    refine ⟨fun z => absurd z (by decide), fun _ => ?_⟩
    rw [nI_add, nI_clamp (by omega), b1]
    have j193 : ∀ s : Bool, s = inR lo hi (b (q + L)) → wp_X10_lookAt_J193 (nI n) bytes Post (fun v3 a c t' v' => wp_X10_lookAt_L136 (nI n) bytes Post K (d + 2) v3 a c t' v') (bI s) (nI q) (nI L) (nI tk) v := by
      intro s hs
      cases s with
      | false =>
        rw [← hs] at er
        have er' : q + L = e := er
        rw [show e - q = L by omega] at hp
        refine ⟨fun _ x ex => ⟨fun _ => ?_, fun w => absurd rfl w⟩, fun w => absurd rfl w⟩
        rw [ex, show (0 : Int32) = nI 0 from rfl, nI_add]
        exact hp
      | true =>
        rw [← hs] at er
        refine ⟨fun w => absurd w (by decide), fun _ x ex => ?_⟩
        rw [ex, nI_1]
        exact ih (L + 1) (by omega) er
    refine ⟨fun z => absurd z (nI_ge (by omega) (by omega)), fun _ => ⟨vp_in_nI (by omega) (by omega), fun x ex => ?_⟩⟩
    subst ex
    rcases htk with ⟨h1, h2, h3⟩ | ⟨h1, h2, h3⟩
    · subst h1 h2 h3
      exact ⟨fun _ => s_small10 b2 (j193 _ rfl), fun w => absurd rfl w⟩
    · subst h1 h2 h3
      exact ⟨fun w => absurd w (by decide), fun _ => s_fig10 b2 (j193 _ rfl)⟩
theorem s_look10 {n : Nat} {b : Nat → Nat} {bytes : Nat → Int32} (hT : TX n b bytes) {p : Nat} (hp : p ≤ n) {tokenAt tokenLong token value : Int32} {Post : Int32 → Int32 → Int32 → Int32 → Prop} (hpost : ∀ v, (tkN b n p = 2 → v = nI (tvN b n p)) → Post (nI (tqN b n p)) (nI (teN b n p - tqN b n p)) (nI (tkN b n p)) v) : wp_X10_lookAt (nI n) bytes tokenAt tokenLong token value (nI p) Post := by
  obtain ⟨hn, hb⟩ := id hT
  obtain ⟨q1, q2, q3, q4⟩ := rnR_ok b (lo := 32) (hi := 32) hp
  have eq : rnR b n 32 32 p = tqN b n p := rfl
  rw [eq] at q1 q2
  have main : ∀ tl tk v : Int32, wp_X10_lookAt_J43 (nI n) bytes Post (nI (tqN b n p)) tl tk v := by
    intro tl tk v
    unfold wp_X10_lookAt_J43
    refine pk_eq (tqN b n p) n (fun z => ?_) (fun z => ⟨vp_in_nI (by omega) (by omega), fun x ex => ?_⟩)
    · have ee : teN b n p = tqN b n p := by unfold teN; rw [if_neg (by omega)]
      have ek : tkN b n p = 0 := by unfold tkN; rw [if_neg (by omega)]
      have := hpost 0 (fun w => by rw [ek] at w; cases w)
      rw [ee, ek, Nat.sub_self] at this
      exact this
    · have zl : tqN b n p < n := by omega
      obtain ⟨bq1, bq2⟩ := hb _ zl
      rw [nI_clamp (by omega), bq1] at ex
      subst ex
      -- one of one letter
      have one : ∀ k : Nat, k = 3 ∨ k = 4 → k = tkN b n p → teN b n p = tqN b n p + 1 → wp_X10_lookAt_J114 (nI n) bytes Post (nI k) (nI (tqN b n p)) 0 0 0 := by
        intro k hk ek ee
        have hk2 : ¬ nI k = 2 := fun w => by
          have := (nI_eq (a := k) (b := 2) (by omega) (by omega)).mp w
          omega
        refine pk_le 3 k (fun _ => ?_) (fun w => absurd w (by omega))
        refine ⟨1, ⟨fun _ => ⟨1, ⟨fun w => absurd w (by decide), fun _ => ⟨fun w => absurd w (by decide), fun _ => ⟨fun w => absurd w hk2, fun _ => ⟨fun w => absurd w hk2, fun _ => ?_⟩⟩⟩⟩⟩, fun w => absurd rfl w⟩⟩
        have := hpost 0 (fun w => by rw [← ek] at w; omega)
        rw [ee, ← ek, show tqN b n p + 1 - tqN b n p = 1 by omega] at this
        exact this
      refine s_small10 bq2 (sp_b (fun a1 => s_fig10 bq2 (sp_b (fun a2 => ?_) (fun a2 => ?_))) (fun a1 => ?_))
      · have ee : teN b n p = tqN b n p + 1 := by unfold teN; rw [if_pos zl, if_neg (by rw [a1]; decide), if_neg (by rw [a2]; decide)]
        have ek : tkN b n p = if b (tqN b n p) = 59 then 3 else 4 := by unfold tkN; rw [if_pos zl, if_neg (by rw [a1]; decide), if_neg (by rw [a2]; decide)]
        refine pk_eq (b (tqN b n p)) 59 (fun y => one 3 (Or.inl rfl) ?_ ee) (fun y => one 4 (Or.inr rfl) ?_ ee)
        · rw [ek, if_pos y]
        · rw [ek, if_neg y]
      · have ee : teN b n p = rnR b n 48 57 (tqN b n p) := by unfold teN; rw [if_pos zl, if_neg (by rw [a1]; decide), if_pos a2]
        have ek : tkN b n p = if teN b n p - tqN b n p ≤ 2 then 2 else 4 := by unfold tkN; rw [if_pos zl, if_neg (by rw [a1]; decide), if_pos a2]
        have g3 := rnR_pos zl (inR_t.mp a2)
        obtain ⟨f1, f2, f3, f4⟩ := rnR_ok b (lo := 48) (hi := 57) q2
        have er : rnE (fun i => inR 48 57 (b i)) (n - tqN b n p - 1) (tqN b n p + 1) = teN b n p := by
          rw [ee]
          unfold rnR
          rw [show n - tqN b n p = (n - tqN b n p - 1) + 1 by omega, rnE_succ, if_pos a2]
          rfl
        rw [← ee] at f1 f2 f3 g3
        have s48 : ∀ c, 48 ≤ c → nI c - 48 = nI (c - 48) := fun c hc => pk_sub (a := c) (b := 48) hc
        have dig := f3 (tqN b n p) (Nat.le_refl _) g3
        refine ⟨fun w => absurd w (by decide), fun _ => ⟨n - tqN b n p - 1 + 2, s_goes10 hT (tk := 2) (Or.inr ⟨rfl, rfl, rfl⟩) ?_ (n - tqN b n p - 1) 1 (by omega) er⟩⟩
        have j274 : ∀ v : Int32, (teN b n p - tqN b n p ≤ 2 → v = nI (tvN b n p)) → wp_X10_lookAt_J274 (nI n) bytes Post (nI (tqN b n p)) (nI (teN b n p - tqN b n p)) (nI 2) v := by
          intro v hv
          refine ⟨fun _ => pk_le (teN b n p - tqN b n p) 2 (fun y => ?_) (fun y => ?_), fun w => absurd rfl w⟩
          · have := hpost v (fun _ => hv y)
            rw [show tkN b n p = 2 by rw [ek, if_pos y]] at this
            exact this
          · have := hpost v (fun w => by rw [ek, if_neg (by omega)] at w; cases w)
            rw [show tkN b n p = 4 by rw [ek, if_neg (by omega)]] at this
            exact this
        have e0 : nI (tqN b n p) + 0 = nI (tqN b n p) := nI_add _ 0
        have e1 : nI (tqN b n p) + 1 = nI (tqN b n p + 1) := nI_1 _
        refine ⟨3, ⟨fun w => absurd w (nI_nle (by omega) (by omega)), fun _ => ⟨fun w => absurd w (by decide), fun _ => ⟨fun _ => ?_, fun w => absurd rfl w⟩⟩⟩⟩
        rw [e0, nI_clamp (by omega), bq1]
        refine ⟨vp_in_nI (by omega) (by omega), fun x ex y ey => ?_⟩
        have ex' : x = nI (b (tqN b n p) - 48) := by
          rw [ex, show (10 : Int32) * 0 = nI 0 from rfl, nI_add, Nat.zero_add, s48 _ dig.1]
        have ey' : y = 1 := ey
        subst ex' ey'
        refine pk_le (teN b n p - tqN b n p) 1 (fun z1 => j274 _ (fun _ => ?_)) (fun z1 => ⟨fun w => absurd w (by decide), fun _ => ⟨fun _ => ?_, fun w => absurd rfl w⟩⟩)
        · unfold tvN
          rw [if_pos z1]
        · obtain ⟨br1, br2⟩ := hb (tqN b n p + 1) (by omega)
          have dig2 := f3 (tqN b n p + 1) (by omega) (by omega)
          rw [e1, nI_clamp (by omega), br1]
          refine ⟨vp_in_nI (by omega) (by omega), fun x2 ex2 y2 ey2 => ?_⟩
          have ex2' : x2 = nI (tvN b n p) := by
            unfold tvN
            rw [if_neg (by omega), ex2, show (10 : Int32) = nI 10 from rfl, pk_mul, nI_add, s48 _ (by omega)]
            congr 1
            omega
          have ey2' : y2 = 2 := ey2
          subst ex2' ey2'
          exact ⟨fun _ => j274 _ (fun _ => rfl), fun _ => ⟨fun _ => j274 _ (fun _ => rfl), fun w => absurd (by decide) w⟩⟩
      · have ee : teN b n p = rnR b n 97 122 (tqN b n p) := by unfold teN; rw [if_pos zl, if_pos a1]
        have ek : tkN b n p = 1 := by unfold tkN; rw [if_pos zl, if_pos a1]
        have g3 := rnR_pos zl (inR_t.mp a1)
        have g4 := (rnR_ok b (lo := 97) (hi := 122) q2).2.1
        have er : rnE (fun i => inR 97 122 (b i)) (n - tqN b n p - 1) (tqN b n p + 1) = teN b n p := by
          rw [ee]
          unfold rnR
          rw [show n - tqN b n p = (n - tqN b n p - 1) + 1 by omega, rnE_succ, if_pos a1]
          rfl
        rw [← ee] at g3 g4
        refine ⟨fun w => absurd w (by decide), fun _ => ⟨n - tqN b n p - 1 + 2, s_goes10 hT (tk := 1) (Or.inl ⟨rfl, rfl, rfl⟩) ?_ (n - tqN b n p - 1) 1 (by omega) er⟩⟩
        refine ⟨1, ⟨fun w => absurd w (nI_nle (by omega) (by omega)), fun _ => ⟨fun w => absurd w (by decide), fun _ => ⟨fun w => absurd w (by decide), fun _ => ⟨fun w => absurd w (by decide), fun _ => ?_⟩⟩⟩⟩⟩
        have := hpost 0 (fun w => by rw [ek] at w; cases w)
        rw [ek] at this
        exact this
  have go : ∀ d q, q + d = n → rnE (fun i => inR 32 32 (b i)) d q = tqN b n p → wp_X10_lookAt_L5 (nI n) bytes Post (fun (tokenAt_5 : Int32) (tokenLong_6 : Int32) (token_7 : Int32) (value_8 : Int32) => (wp_X10_lookAt_J43 (nI n) bytes Post tokenAt_5 tokenLong_6 token_7 value_8)) (d + 1) (nI q) tokenLong token value := by
    intro d
    induction d with
    | zero =>
      intro q e er
      have er' : q = tqN b n p := er
      rw [er']
      exact ⟨fun _ => main _ _ _, fun z => absurd (nI_le (by omega) (by omega)) z⟩
    | succ d ih =>
      intro q e er
      obtain ⟨b1, b2⟩ := hb q (by omega)
      rw [rnE_succ] at er
      refine ⟨fun z => absurd z (nI_ge (by omega) (by omega)), fun _ => ⟨vp_in_nI (by omega) (by omega), ?_⟩⟩
      rw [nI_clamp (by omega), b1]
      refine pk_eq (b q) 32 (fun z x ex => ?_) (fun z => ?_)
      · rw [if_pos (inR_t.mpr (by omega))] at er
        rw [ex, nI_1]
        exact ih (q + 1) (by omega) er
      · rw [if_neg (by rw [inR_t]; omega)] at er
        rw [er]
        exact main _ _ _
  exact ⟨n - p + 1, go (n - p) p (by omega) rfl⟩
theorem s_beh10 {n : Nat} {b : Nat → Nat} {bytes : Nat → Int32} (hT : TX n b bytes) {q L e : Nat} (hL : q ≤ e) (he : L = e - q) (hen : e ≤ n) {token value : Int32} {Post : Int32 → Int32 → Int32 → Int32 → Prop} (hpost : ∀ v, (tkN b n e = 2 → v = nI (tvN b n e)) → Post (nI (tqN b n e)) (nI (teN b n e - tqN b n e)) (nI (tkN b n e)) v) : wp_X10_goBehind (nI n) bytes (nI q) (nI L) token value Post := by
  unfold wp_X10_goBehind
  rw [nI_add, he, show q + (e - q) = e by omega]
  exact s_look10 hT hen hpost
/-! words -/
def wcN (w b : Nat → Nat) (q : Nat) : Nat → Bool
  | 0 => true
  | k + 1 => wcN w b q k && decide (b (q + k) = w k)
theorem wc_f {w b : Nat → Nat} {q k : Nat} (h : b (q + k) ≠ w k) : ∀ d, wcN w b q (k + 1 + d) = false
  | 0 => by
    show (wcN w b q k && decide (b (q + k) = w k)) = false
    rw [decide_eq_false h, Bool.and_false]
  | d + 1 => by
    show (wcN w b q (k + 1 + d) && _) = false
    rw [wc_f h d, Bool.false_and]
def isW (w b : Nat → Nat) (sz q e k : Nat) : Bool := decide (k = 1) && decide (e - q = sz) && wcN w b q sz
def wdF (a b c d e f : Nat) : Nat → Nat := fun k => match k with
  | 0 => a
  | 1 => b
  | 2 => c
  | 3 => d
  | 4 => e
  | _ => f
theorem s_word9 {n : Nat} {b : Nat → Nat} {bytes : Nat → Int32} (hT : TX n b bytes) {j : Nat} {w : Nat → Nat} {sz : Nat} (hsz : stLen.getD j 0 = sz) (hw : ∀ i, i < sz → stCh j (nI i) = nI (w i) ∧ w i < 128) (hsz6 : sz ≤ 6) {q e k : Nat} (hqe : q ≤ e) (hen : e ≤ n) (hk : k ≤ 4) {Post : Int32 → Prop} (hp : Post (bI (isW w b sz q e k))) : wp_X2_isWord j (nI k) (nI q) (nI e) bytes Post := by
  obtain ⟨hn, hb⟩ := hT
  unfold wp_X2_isWord
  rw [hsz, pk_sub hqe]
  refine pk_eq k 1 (fun z => pk_eq (e - q) sz (fun y => ?_) (fun y => ?_)) (fun z => ?_)
  · have go : ∀ d i, i + d = sz → wcN w b q i = true → wp_X2_isWord_L28 j (nI k) (nI q) (nI e) bytes Post (d + 1) (nI i) := by
      intro d
      induction d with
      | zero =>
        intro i h hi
        obtain rfl : i = sz := by omega
        unfold isW at hp
        rw [decide_eq_true z, decide_eq_true y, hi] at hp
        refine ⟨fun _ => hp, fun x => absurd ?_ x⟩
        rw [hsz]
        exact nI_le (Nat.le_refl _) (by omega)
      | succ d ih =>
        intro i h hi
        obtain ⟨b1, b2⟩ := hb (q + i) (by omega)
        obtain ⟨c1, c2⟩ := hw i (by omega)
        refine ⟨fun x => absurd x (by rw [hsz]; exact nI_ge (by omega) (by omega)), fun _ => ?_⟩
        rw [hsz, nI_add, nI_clamp (by omega), b1, c1]
        refine ⟨vp_in_nI (by omega) (by omega), vp_in_nI (by omega) (by omega), pk_eq (b (q + i)) (w i) (fun x x1 ex1 => ?_) (fun x => ?_)⟩
        · rw [ex1, nI_1]
          refine ih (i + 1) (by omega) ?_
          show (wcN w b q i && decide (b (q + i) = w i)) = true
          rw [hi, decide_eq_true x]
          rfl
        · have := wc_f x d
          rw [show i + 1 + d = sz by omega] at this
          unfold isW at hp
          rw [this, Bool.and_false] at hp
          exact hp
    exact ⟨sz + 1, go sz 0 (by omega) rfl⟩
  · unfold isW at hp
    rw [decide_eq_false y, Bool.and_false, Bool.false_and] at hp
    exact hp
  · unfold isW at hp
    rw [decide_eq_false z, Bool.false_and, Bool.false_and] at hp
    exact hp
theorem s_spell10 {n : Nat} {b : Nat → Nat} {bytes : Nat → Int32} (hT : TX n b bytes) {w0 w1 w2 w3 w4 w5 sz : Nat} (hw : w0 < 128 ∧ w1 < 128 ∧ w2 < 128 ∧ w3 < 128 ∧ w4 < 128 ∧ w5 < 128) (hsz0 : 0 < sz) (hsz6 : sz ≤ 6) {q e k L : Nat} (hL : L = e - q) (hqe : q ≤ e) (hen : e ≤ n) (hk : k ≤ 4) {Post : Int32 → Prop} (hp : Post (bI (isW (wdF w0 w1 w2 w3 w4 w5) b sz q e k))) : wp_X10_spells (nI q) (nI L) (nI k) bytes (nI sz) (nI w0) (nI w1) (nI w2) (nI w3) (nI w4) (nI w5) Post := by
  obtain ⟨hn, hb⟩ := hT
  have no : isW (wdF w0 w1 w2 w3 w4 w5) b sz q e k = false → wp_X10_spells_J20 (nI q) (nI L) (nI k) bytes Post (nI sz) (nI w0) (nI w1) (nI w2) (nI w3) (nI w4) (nI w5) := by
    intro h
    rw [h] at hp
    exact ⟨1, ⟨fun _ => ⟨Or.inl rfl, hp⟩, fun _ => ⟨fun _ => ⟨Or.inl rfl, hp⟩, fun x => absurd rfl x⟩⟩⟩
  unfold wp_X10_spells
  refine pk_eq k 1 (fun z => pk_eq L sz (fun y => ?_) (fun y => no ?_)) (fun z => no ?_)
  · have go : ∀ d i, i + d = sz → wcN (wdF w0 w1 w2 w3 w4 w5) b q i = true → wp_X10_spells_L26 (nI q) (nI L) (nI k) bytes Post (d + 2) (nI sz) (nI w0) (nI w1) (nI w2) (nI w3) (nI w4) (nI w5) 1 (nI i) := by
      intro d
      induction d with
      | zero =>
        intro i h hi
        obtain rfl : i = sz := by omega
        unfold isW at hp
        rw [decide_eq_true z, decide_eq_true (by omega), hi] at hp
        exact ⟨fun _ => ⟨Or.inr rfl, hp⟩, fun x => absurd (nI_le (Nat.le_refl _) (by omega)) x⟩
      | succ d ih =>
        intro i h hi
        obtain ⟨b1, b2⟩ := hb (q + i) (by omega)
        have key : ∀ c : Nat, c < 128 → c = wdF w0 w1 w2 w3 w4 w5 i → wp_X10_spells_J103 (nI q) (nI L) (nI k) bytes Post (fun a1 a2 a3 a4 a5 a6 a7 a8 a9 => wp_X10_spells_L26 (nI q) (nI L) (nI k) bytes Post (d + 2) a1 a2 a3 a4 a5 a6 a7 a8 a9) (nI sz) (nI w0) (nI w1) (nI w2) (nI w3) (nI w4) (nI w5) (nI i) (nI c) (nI (b (q + i))) := by
          intro c hc ec
          refine pk_eq (b (q + i)) c (fun x x1 ex1 => ?_) (fun x x1 ex1 => ?_)
          · rw [ex1, nI_1]
            refine ih (i + 1) (by omega) ?_
            show (wcN _ b q i && decide (b (q + i) = wdF w0 w1 w2 w3 w4 w5 i)) = true
            rw [hi, decide_eq_true (by rw [← ec]; exact x)]
            rfl
          · have := wc_f (w := wdF w0 w1 w2 w3 w4 w5) (show b (q + i) ≠ wdF w0 w1 w2 w3 w4 w5 i by rw [← ec]; exact x) d
            rw [show i + 1 + d = sz by omega] at this
            unfold isW at hp
            rw [this, Bool.and_false] at hp
            exact ⟨fun _ => ⟨Or.inl rfl, hp⟩, fun _ => ⟨fun _ => ⟨Or.inl rfl, hp⟩, fun x => absurd rfl x⟩⟩
        refine ⟨fun x => absurd x (nI_ge (by omega) (by omega)), fun _ => ⟨fun x => absurd x (by decide), fun _ => ?_⟩⟩
        rw [nI_add, nI_clamp (by omega), b1]
        refine ⟨vp_in_nI (by omega) (by omega), pk_eq i 0 (fun x => key w0 (by omega) (by rw [x]; rfl)) (fun x0 => pk_eq i 1 (fun x => key w1 (by omega) (by rw [x]; rfl)) (fun x1 => pk_eq i 2 (fun x => key w2 (by omega) (by rw [x]; rfl)) (fun x2 => pk_eq i 3 (fun x => key w3 (by omega) (by rw [x]; rfl)) (fun x3 => pk_eq i 4 (fun x => key w4 (by omega) (by rw [x]; rfl)) (fun x4 => key w5 (by omega) (by rw [show i = 5 by omega]; rfl))))))⟩
    exact ⟨sz + 2, go sz 0 (by omega) rfl⟩
  · unfold isW
    rw [decide_eq_false (show ¬ (e - q = sz) by omega), Bool.and_false, Bool.false_and]
  · unfold isW
    rw [decide_eq_false z, Bool.false_and, Bool.false_and]
