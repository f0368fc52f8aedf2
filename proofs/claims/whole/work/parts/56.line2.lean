/-! line: both sides. -/
def lnA (x : Nat × (Nat → Nat) × (Nat → Nat)) (v1 v2 : Int32) : Int32 := if v1 = -1 then nI x.1 else if v1 < nI x.1 then (if v2 = 0 then nI (x.2.1 v1.toNatClampNeg) else nI (x.2.2 v1.toNatClampNeg)) else -5
theorem nI_m1 {i : Nat} (h : i < 2 ^ 31) : ¬ nI i = -1 := by
  intro e
  have e1 : (nI i).toInt = (-1 : Int32).toInt := by rw [e]
  rw [nI_toInt h, show (-1 : Int32).toInt = -1 from rfl] at e1
  omega
theorem s_lineJ9 {infants retired badCalls : Int32} {kind months : Nat → Int32} {Post : Int32 → Int32 → Prop} {v1 v2 v4 v5 : Int32} {c : Nat} {h l : Nat → Nat} {x : Nat × (Nat → Nat) × (Nat → Nat)} (hc : c ≤ 6) (hx : x.1 ≤ 6) (h4 : 0 < c → v4 = nI (h (c - 1))) (h5 : 0 < c → v5 = nI (l (c - 1))) (hi : (v1 = -1 ∧ x.1 = c) ∨ ∃ i, i < 2 ^ 31 ∧ v1 = nI i ∧ c ≤ i + 1 ∧ (i < c ↔ i < x.1) ∧ (i < c → x.2.1 i = h i ∧ x.2.2 i = l i)) (hp : Post (lnA x v1 v2) badCalls) : wp_X9_line_J98 infants retired kind months Post v1 v2 (nI c) v4 v5 badCalls := by
  unfold wp_X9_line_J98
  rcases hi with ⟨e, ec⟩ | ⟨i, hi, e, hci, hic, hxy⟩
  · refine ⟨fun _ => ?_, fun q => absurd e q⟩
    unfold lnA at hp
    rw [if_pos e, ec] at hp
    exact hp
  · subst e
    unfold lnA at hp
    rw [if_neg (nI_m1 hi)] at hp
    refine ⟨fun q => absurd q (nI_m1 hi), fun _ => ⟨fun b => ?_, fun b => ?_⟩⟩
    · rw [nI_ltI hi (by omega)] at b
      rw [if_pos ((nI_ltI hi (by omega)).mpr (hic.mp b)), nI_clamp hi, (hxy b).1, (hxy b).2] at hp
      obtain rfl : i = c - 1 := by omega
      refine ⟨fun d => ?_, fun d => ?_⟩
      · rw [if_pos d] at hp
        rw [h4 (by omega)]
        exact hp
      · rw [if_neg d] at hp
        rw [h5 (by omega)]
        exact hp
    · rw [nI_ltI hi (by omega)] at b
      rw [if_neg (fun z => b (hic.mpr ((nI_ltI hi (by omega)).mp z)))] at hp
      exact hp
def lst (x : Nat × (Nat → Nat) × (Nat → Nat)) : Option Nat := if x.1 = 0 then none else some (x.2.1 (x.1 - 1))
theorem nI_in32 {a b : Nat} (ha : a < 2 ^ 32) (hb : b < 2 ^ 32) (h : nI a = nI b) : a = b := by
  rw [← pk_tn ha, ← pk_tn hb, h]
theorem s_lineL9 {infants retired month notes sounds pasts : Int32} {kind months home nurse skills noteRow soundRow pastRow : Nat → Int32} {t : Nat → Nat} (hR : CR t infants retired month notes sounds pasts kind months home nurse skills noteRow soundRow pastRow) (hV : VV t) {badCalls v1 v2 : Int32} {Post : Int32 → Int32 → Prop} (hp : Post (lnA (ln (so t) 61) v1 v2) badCalls) : ∀ d k, k + d = 61 → ∀ v5, (0 < (ln (so t) k).1 → v5 = nI ((ln (so t) k).2.2 ((ln (so t) k).1 - 1))) → (v1 = -1 ∨ ∃ i, i < 2 ^ 31 ∧ v1 = nI i ∧ (ln (so t) k).1 ≤ i + 1) → wp_X9_line_L31 infants retired kind months Post (wp_X9_line_J98 infants retired kind months Post) (wp_X9_line_J98 infants retired kind months Post) (wp_X9_line_J98 infants retired kind months Post) (d + 1) v1 v2 (nI (ln (so t) k).1) (oI (lst (ln (so t) k))) v5 (nI k) badCalls := by
  have hs := so_SS hV
  have c61 := (LI_ok hs 61).1
  have stop : ∀ k, k ≤ 61 → ln (so t) 61 = ln (so t) k → ∀ v5, (0 < (ln (so t) k).1 → v5 = nI ((ln (so t) k).2.2 ((ln (so t) k).1 - 1))) → (v1 = -1 ∨ ∃ i, i < 2 ^ 31 ∧ v1 = nI i ∧ (ln (so t) k).1 ≤ i + 1) → wp_X9_line_J98 infants retired kind months Post v1 v2 (nI (ln (so t) k).1) (oI (lst (ln (so t) k))) v5 badCalls := by
    intro k hk e v5 h5 hi
    refine s_lineJ9 (x := ln (so t) 61) (h := (ln (so t) k).2.1) (l := (ln (so t) k).2.2) (LI_ok hs k).1 c61 (fun h => ?_) h5 ?_ hp
    · unfold lst
      rw [if_neg (by omega)]
      rfl
    · rw [e]
      rcases hi with z | ⟨i, a1, a2, a3⟩
      · exact Or.inl ⟨z, rfl⟩
      · exact Or.inr ⟨i, a1, a2, a3, Iff.rfl, fun _ => ⟨rfl, rfl⟩⟩
  intro d
  induction d with
  | zero =>
    intro k e v5 h5 hi
    obtain rfl : k = 61 := by omega
    exact ⟨fun _ => stop 61 (by omega) rfl v5 h5 hi, fun q => absurd (show (60 : Int32) < nI 61 by decide) q⟩
  | succ d ih =>
    intro k e v5 h5 hi
    have hc := LI_ok hs k
    have hc1 := LI_ok hs (k + 1)
    have ih' := ih (k + 1) (by omega)
    refine ⟨fun q => absurd q (nI_nlt (a := 60) (b := k) (by omega) (by omega)), fun _ => s9_sov hR hV (by omega) ?_⟩
    rw [so_no hV]
    refine ⟨fun q => stop k (by omega) (by rw [show 61 = k + (61 - k) by omega]; exact ln_end hs q _) v5 h5 hi, fun q => ?_⟩
    cases ej : so t k with
    | none => exact absurd ej q
    | some j =>
      have hj := hs.2.2 k j ej
      have hl31 : ∀ z, lst (ln (so t) k) = some z → z < 2 ^ 31 := by
        intro z hz
        unfold lst at hz
        split at hz
        · cases hz
        · cases hz
          have := hc.2.1 ((ln (so t) k).1 - 1) (by omega)
          omega
      have new : ¬ (0 < (ln (so t) k).1 ∧ (ln (so t) k).2.1 ((ln (so t) k).1 - 1) = j) → (v1 = -1 ∨ ∃ i, i < 2 ^ 31 ∧ v1 = nI i ∧ (ln (so t) k).1 + 1 ≤ i + 1) → wp_X9_line_J79 infants retired kind months Post (fun a b c d' e f g => wp_X9_line_L31 infants retired kind months Post (wp_X9_line_J98 infants retired kind months Post) (wp_X9_line_J98 infants retired kind months Post) (wp_X9_line_J98 infants retired kind months Post) (d + 1) a b c d' e f g) v1 v2 (nI (ln (so t) k).1) (nI k) (oI (some j)) badCalls := by
        intro c hi2 x ex y ey z ez
        have e2 := ln_w ej c
        rw [e2] at ih'
        have := ih' y (fun _ => by
          show y = nI (up _ _ _ ((ln (so t) k).1 + 1 - 1))
          rw [show (ln (so t) k).1 + 1 - 1 = (ln (so t) k).1 by omega, up_eq, ey]
          rfl) hi2
        rw [ex, ez, nI_1, nI_1]
        have el : lst ((ln (so t) k).1 + 1, up (ln (so t) k).2.1 (ln (so t) k).1 j, up (ln (so t) k).2.2 (ln (so t) k).1 1) = some j := by
          unfold lst
          rw [if_neg (by simp)]
          show some (up _ _ _ ((ln (so t) k).1 + 1 - 1)) = _
          rw [show (ln (so t) k).1 + 1 - 1 = (ln (so t) k).1 by omega, up_eq]
        rw [el] at this
        exact this
      refine ⟨fun q2 => ?_, fun q2 => ?_⟩
      · have e3 := oI_inj (fun z hz => by cases hz; omega) hl31 q2
        have c : 0 < (ln (so t) k).1 ∧ (ln (so t) k).2.1 ((ln (so t) k).1 - 1) = j := by
          unfold lst at e3
          split at e3
          · cases e3
          · cases e3
            exact ⟨by omega, rfl⟩
        have e2 := ln_s ej c.1 c.2
        rw [e2] at ih'
        intro x ex y ey
        have := ih' x (fun _ => by
          show x = nI (up _ _ _ ((ln (so t) k).1 - 1))
          rw [up_eq, ex, h5 c.1, nI_1]) hi
        rw [ey, nI_1]
        have el : lst ((ln (so t) k).1, (ln (so t) k).2.1, up (ln (so t) k).2.2 ((ln (so t) k).1 - 1) ((ln (so t) k).2.2 ((ln (so t) k).1 - 1) + 1)) = lst (ln (so t) k) := rfl
        rw [el] at this
        exact this
      · have c : ¬ (0 < (ln (so t) k).1 ∧ (ln (so t) k).2.1 ((ln (so t) k).1 - 1) = j) := by
          intro c
          apply q2
          unfold lst
          rw [if_neg (by omega), c.2]
        refine ⟨fun a => ?_, fun a => ⟨fun b => ?_, fun b => ?_⟩⟩
        · refine new c (Or.inl ?_)
          rcases hi with z | ⟨i, a1, a2, a3⟩
          · exact z
          · exact absurd a (by rw [a2]; exact nI_pos a1)
        · rcases hi with z | ⟨i, a1, a2, a3⟩
          · exact absurd (show v1 < 0 by rw [z]; decide) a
          · have e1 : (ln (so t) k).1 = i + 1 := by
              rw [a2, nI_1] at b
              exact nI_in32 (by have := hc.1; omega) (by omega) b
            have e2 := ln_w ej c
            have kp := ln_keep (so t) (k + 1) (61 - (k + 1))
            rw [show k + 1 + (61 - (k + 1)) = 61 by omega, e2] at kp
            have kp1 : (ln (so t) k).1 + 1 ≤ (ln (so t) 61).1 := kp.1
            refine s_lineJ9 (x := ln (so t) 61) (h := (ln (so t) k).2.1) (l := (ln (so t) k).2.2) hc.1 c61 (fun h => ?_) h5 (Or.inr ⟨i, a1, a2, a3, ?_, fun _ => ⟨?_, ?_⟩⟩) hp
            · unfold lst
              rw [if_neg (by omega)]
              rfl
            · omega
            · have h9 := kp.2.1 i (show i < (ln (so t) k).1 + 1 by omega)
              rw [h9]
              show up _ _ _ i = _
              rw [up_ne (by omega)]
            · have h9 := kp.2.2 i (show i + 1 < (ln (so t) k).1 + 1 by omega)
              rw [h9]
              show up _ _ _ i = _
              rw [up_ne (by omega)]
        · refine new c ?_
          rcases hi with z | ⟨i, a1, a2, a3⟩
          · exact Or.inl z
          · refine Or.inr ⟨i, a1, a2, ?_⟩
            have : (ln (so t) k).1 ≠ i + 1 := fun z => b (by rw [a2, nI_1, z])
            omega
def fnd (h : Nat → Nat) (w : Option Nat) : Nat → Option Nat
  | 0 => none
  | k + 1 => if some (h k) = w then some k else fnd h w k
theorem fnd_lt (h : Nat → Nat) (w : Option Nat) : ∀ n j, fnd h w n = some j → j < n ∧ some (h j) = w
  | 0, j, e => by cases e
  | n + 1, j, e => by
    unfold fnd at e
    split at e
    · next q => cases e; exact ⟨Nat.lt_succ_self _, q⟩
    · have := fnd_lt h w n j e
      exact ⟨by omega, this.2⟩
theorem fnd_no {h : Nat → Nat} {w : Option Nat} : ∀ {n : Nat}, (∀ k, k < n → some (h k) ≠ w) → fnd h w n = none
  | 0, _ => rfl
  | n + 1, e => by
    unfold fnd
    rw [if_neg (e n (by omega))]
    exact fnd_no (fun k hk => e k (by omega))
theorem s_findL {told : Nat → Int32} {c : Nat} (hc : c ≤ 6) {h : Nat → Nat} (h6 : ∀ k, k < c → h k < 6) {w : Option Nat} (hw : ∀ j, w = some j → j < 2 ^ 31) {v1 retired : Int32} {months heirs lasts : Nat → Int32} (hh1 : ∀ k, k < c → heirs k = nI (h k)) {Post : Int32 → Int32 → (Nat → Int32) → (Nat → Int32) → (Nat → Int32) → Prop} {K : Int32 → Int32 → Int32 → Int32 → Int32 → (Nat → Int32) → (Nat → Int32) → (Nat → Int32) → Prop} (hp : K v1 (oI w) (oI (fnd h w c)) retired (nI c) months heirs lasts) : ∀ d k, k + d = c → wp_X10_layLine_L27 told Post K (d + 1) v1 (oI w) (oI (fnd h w k)) (nI k) retired (nI c) months heirs lasts := by
  intro d
  induction d with
  | zero =>
    intro k e
    obtain rfl : k = c := by omega
    exact ⟨fun _ => hp, fun q => absurd (nI_le (Nat.le_refl _) (by omega)) q⟩
  | succ d ih =>
    intro k e
    have ih' := ih (k + 1) (by omega)
    have hk6 := h6 k (by omega)
    unfold fnd at ih'
    refine ⟨fun q => absurd q (nI_ge (by omega) (by omega)), fun _ => ⟨vp_in_nI (by omega) (by omega), ?_⟩⟩
    rw [nI_clamp (by omega), hh1 k (by omega)]
    refine ⟨fun q x ex => ?_, fun q x ex => ?_⟩
    · have e2 : some (h k) = w := oI_inj (a := some (h k)) (fun z hz => by cases hz; omega) hw q
      rw [if_pos e2] at ih'
      rw [ex, nI_1]
      exact ih'
    · rw [if_neg (fun z => q (by rw [← z]; rfl))] at ih'
      rw [ex, nI_1]
      exact ih'
theorem s_layLineL {t : Nat → Nat} {told : Nat → Int32} (hM : MR t told) (hV : VV t) {Post : Int32 → Int32 → (Nat → Int32) → (Nat → Int32) → (Nat → Int32) → Prop} (hp : ∀ retired months heirs lasts, (∀ j, j < (ln (so t) 61).1 → heirs j = nI ((ln (so t) 61).2.1 j) ∧ lasts j = nI ((ln (so t) 61).2.2 j)) → Post retired (nI (ln (so t) 61).1) months heirs lasts) : ∀ d k, k + d = 61 → ∀ retired months heirs lasts, HD (t 0) months retired (hh t k).1 (hh t k).2 → (∀ j, j < (ln (so t) k).1 → heirs j = nI ((ln (so t) k).2.1 j) ∧ lasts j = nI ((ln (so t) k).2.2 j)) → wp_X10_layLine_L11 told Post (d + 1) (nI k) retired (nI (ln (so t) k).1) months heirs lasts := by
  have hs := so_SS hV
  intro d
  induction d with
  | zero =>
    intro k e retired months heirs lasts hd hl
    obtain rfl : k = 61 := by omega
    exact ⟨fun _ => hp _ _ _ _ hl, fun q => absurd (show (60 : Int32) < nI 61 by decide) q⟩
  | succ d ih =>
    intro k e retired months heirs lasts hd hl
    have hc := LI_ok hs k
    have hc1 := LI_ok hs (k + 1)
    have ih' := ih (k + 1) (by omega)
    refine ⟨fun q => absurd q (nI_nlt (a := 60) (b := k) (by omega) (by omega)), fun _ => s10_reigns hM hV hd ⟨(ln (so t) k).1 + 1, s_findL hc.1 hc.2.1 (so_31 hV k) (fun j hj => (hl j hj).1) ?_ (ln (so t) k).1 0 (by omega)⟩⟩
    rw [so_no hV]
    refine ⟨fun q => ?_, fun q => ?_⟩
    · rw [ln_n q] at ih'
      refine ⟨fun _ => s10_go hM hV (by omega) hd (fun months2 retired2 hd2 x ex => ?_), fun z => absurd ((so_no hV k).mpr q) z⟩
      rw [ex, nI_1]
      exact ih' _ _ _ _ hd2 hl
    · cases ej : so t k with
      | none => exact absurd ej q
      | some j =>
        have hj := hs.2.2 k j ej
        have ne1 : ¬ oI (some j) = -1 := nI_m1 (by omega)
        by_cases c : 0 < (ln (so t) k).1 ∧ (ln (so t) k).2.1 ((ln (so t) k).1 - 1) = j
        · have ef : fnd (ln (so t) k).2.1 (some j) (ln (so t) k).1 = some ((ln (so t) k).1 - 1) := by
            obtain ⟨c', hc'⟩ : ∃ c', (ln (so t) k).1 = c' + 1 := ⟨(ln (so t) k).1 - 1, by omega⟩
            have c2 := c.2
            rw [hc'] at c2 ⊢
            rw [show c' + 1 - 1 = c' from rfl] at c2 ⊢
            unfold fnd
            rw [if_pos (by rw [c2])]
          rw [ef]
          have hcc := hc.1
          refine ⟨fun z => absurd z (nI_m1 (by omega)), fun _ => ⟨fun z => absurd z ne1, fun _ => ?_⟩⟩
          show vp_in (nI ((ln (so t) k).1 - 1)) 6 ∧ ∀ x_47 : Int32, x_47 = lasts (nI ((ln (so t) k).1 - 1)).toNatClampNeg + 1 → _
          rw [nI_clamp (by omega)]
          refine ⟨vp_in_nI (by omega) (by omega), fun x ex f ef2 => s10_go hM hV (by omega) hd (fun months2 retired2 hd2 y ey => ?_)⟩
          rw [ln_s ej c.1 c.2] at ih'
          rw [ey, nI_1]
          refine ih' _ _ _ _ hd2 (fun i hi => ?_)
          have hi' : i < (ln (so t) k).1 := hi
          show heirs i = nI ((ln (so t) k).2.1 i) ∧ f i = nI (up _ _ _ i)
          refine ⟨(hl i hi').1, ?_⟩
          have ef3 : f = upd lasts ((ln (so t) k).1 - 1) x := by
            rw [ef2]
            show upd lasts (nI ((ln (so t) k).1 - 1)).toNatClampNeg x = _
            rw [nI_clamp (by omega)]
          rw [ef3, upd_at, up_at]
          split
          · rw [ex, (hl _ (by omega)).2, nI_1]
          · exact (hl i hi').2
        · have no : ∀ i, i < (ln (so t) k).1 → some ((ln (so t) k).2.1 i) ≠ some j := by
            intro i hi he
            rcases Nat.lt_or_ge (i + 1) (ln (so t) k).1 with z | z
            · exact hc.2.2.2.1 i z k (Nat.le_refl _) (by rw [ej, he])
            · obtain rfl : i = (ln (so t) k).1 - 1 := by omega
              exact c ⟨by omega, Option.some.inj he⟩
          rw [fnd_no no]
          have e2 := ln_w ej c
          rw [e2] at ih'
          have h6 : (ln (so t) k).1 + 1 ≤ 6 := by
            have := hc1.1
            rw [e2] at this
            exact this
          refine ⟨fun _ => ⟨vp_in_nI (by omega) (by omega), fun f1 ef1 f2 ef2 x ex => ⟨fun z => absurd z ne1, fun _ => ⟨vp_in_nI (by omega) (by omega), fun y ey f3 ef3 => s10_go hM hV (by omega) hd (fun months2 retired2 hd2 z ez => ?_)⟩⟩⟩, fun z => absurd rfl z⟩
          rw [ex, ez, nI_1, nI_1]
          rw [nI_clamp (by omega)] at ef1 ef2 ey ef3
          refine ih' _ _ _ _ hd2 (fun i hi => ?_)
          have hi' : i < (ln (so t) k).1 + 1 := hi
          show f1 i = nI (up _ _ _ i) ∧ f3 i = nI (up _ _ _ i)
          rw [ef1, ef3, upd_at, upd_at, up_at, up_at, ey, ef2, upd_at, upd_at]
          by_cases z2 : i = (ln (so t) k).1
          · rw [if_pos z2, if_pos z2, if_pos z2, if_pos z2, if_pos rfl]
            exact ⟨rfl, rfl⟩
          · rw [if_neg z2, if_neg z2, if_neg z2, if_neg z2, if_neg z2]
            exact hl i (by omega)
theorem d_line {infants retired month notes sounds pasts : Int32} {kind months home nurse skills noteRow soundRow pastRow : Nat → Int32} {told refused mmonths heirs lasts : Nat → Int32} {badCalls noCalls fullCalls mretired manyLine v1 v2 : Int32} (hC : CC infants retired month notes sounds pasts kind months home nurse skills noteRow soundRow pastRow told) (hS : SR badCalls noCalls fullCalls refused) {P : Int32 → Int32 → Int32 → Int32 → Int32 → (Nat → Int32) → (Nat → Int32) → (Nat → Int32) → (Nat → Int32) → Prop} (hP : ∀ r b9 mr9 ml9 ref9 mm9 h9 l9, SR b9 noCalls fullCalls ref9 → P r b9 r mr9 ml9 ref9 mm9 h9 l9) :
    wp_X9_line infants retired kind months badCalls v1 v2 (fun r b9 => wp_X10_line told mretired manyLine refused mmonths heirs lasts v1 v2 (fun r' mr9 ml9 ref9 mm9 h9 l9 => P r b9 r' mr9 ml9 ref9 mm9 h9 l9)) := by
  obtain ⟨t, hR, hM, hV⟩ := id hC
  unfold wp_X9_line wp_X10_line wp_X9_line_J13 wp_X10_line_J15
  refine ⟨fun a x ex => ⟨fun _ y ey g eg => hP _ _ _ _ _ _ _ _ (SR_bad hS ex ey eg), fun z => absurd a z⟩, fun a => s_within (m := 1) rfl (by decide) (sp_b (fun b => ?_) (fun b => ?_))⟩
  · exact fun x ex => ⟨fun z => absurd z a, fun _ => s_in0 (m := 1) rfl (by decide) (kf b (fun y ey g eg => hP _ _ _ _ _ _ _ _ (SR_bad hS ex ey eg)))⟩
  · have hv : v1 = -1 ∨ ∃ i, i < 2 ^ 31 ∧ v1 = nI i := by
      by_cases z : v1 < 0
      · refine Or.inl ?_
        rw [fa_lt] at a z
        rw [fa_eq]
        rw [show (-1 : Int32).toInt = -1 from rfl] at a ⊢
        rw [show (0 : Int32).toInt = 0 from rfl] at z
        omega
      · exact Or.inr (nI_of z)
    refine ⟨62, s_lineL9 hR hV ?_ 61 0 (by omega) 0 (fun h => absurd h (Nat.not_lt_zero _)) ?_⟩
    · refine ⟨fun z => absurd z a, fun _ => s_in0 (m := 1) rfl (by decide) (kt b (s10_lay hM hV (fun months retired hd => ⟨62, s_layLineL hM hV (fun retired months heirs lasts hl => ?_) 61 0 (by omega) _ _ _ _ hd (fun j hj => absurd hj (Nat.not_lt_zero j))⟩)))⟩
      unfold lnA
      have c61 := (LI_ok (so_SS hV) 61).1
      refine ⟨fun z => ?_, fun z => ⟨fun z2 => ⟨fun z3 => ?_, fun z3 => ?_⟩, fun z2 => ?_⟩⟩
      · rw [if_pos z]; exact hP _ _ _ _ _ _ _ _ hS
      · rcases hv with w | ⟨i, hi, rfl⟩
        · exact absurd w z
        · rw [if_neg z, if_pos z2, if_pos z3]
          rw [nI_ltI hi (by omega)] at z2
          rw [nI_clamp hi, (hl i z2).1]
          exact ⟨vp_in_nI (by omega) (by omega), hP _ _ _ _ _ _ _ _ hS⟩
      · rcases hv with w | ⟨i, hi, rfl⟩
        · exact absurd w z
        · rw [if_neg z, if_pos z2, if_neg z3]
          rw [nI_ltI hi (by omega)] at z2
          rw [nI_clamp hi, (hl i z2).2]
          exact ⟨vp_in_nI (by omega) (by omega), hP _ _ _ _ _ _ _ _ hS⟩
      · rw [if_neg z, if_neg z2]; exact hP _ _ _ _ _ _ _ _ hS
    · rcases hv with w | ⟨i, hi, rfl⟩
      · exact Or.inl w
      · exact Or.inr ⟨i, hi, rfl, Nat.zero_le _⟩
