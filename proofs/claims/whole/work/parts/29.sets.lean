/-! A call in a large world: only the callee's places are set anew. -/
def mx_sets : va_W → List Nat → va_W → va_W
  | ws, [], _ => ws
  | ws, _ :: _, [] => ws
  | ws, i :: is, c :: cs => mx_sets (ws.set i c) is cs
theorem mx_sets_at : ∀ (is : List Nat) (cs ws : va_W) (k : Nat) (q : Nat × va_E), is.length = cs.length → (mx_sets ws is cs)[k]? = some q → (ws[k]? = some q ∧ k ∉ is) ∨ ∃ j : Nat, cs[j]? = some q
  | [], cs, ws, k, q, _, h => Or.inl ⟨by rw [mx_sets] at h; exact h, List.not_mem_nil⟩
  | i :: is, [], ws, k, q, hl, h => by cases hl
  | i :: is, c :: cs, ws, k, q, hl, h => by
    rw [mx_sets] at h
    rcases mx_sets_at is cs (ws.set i c) k q (by simpa using hl) h with ⟨h1, h2⟩ | ⟨j, hj⟩
    · by_cases e : k = i
      · subst e
        rw [List.getElem?_set] at h1
        simp only [if_pos] at h1
        split at h1
        · exact Or.inr ⟨0, by simpa using h1⟩
        · cases h1
      · rw [List.getElem?_set_ne (Ne.symm e)] at h1
        exact Or.inl ⟨h1, fun z => by
          rcases List.mem_cons.mp z with z | z
          · exact e z
          · exact h2 z⟩
    · exact Or.inr ⟨j + 1, by simpa using hj⟩
theorem mx_D_adr {A : Nat → Prop} {ws ws' : va_W} (hD : va_D A ws) (h : ws'.map (fun q => q.1) = ws.map (fun q => q.1)) : va_D A ws' := by
  have key : ∀ (k : Nat) (q : Nat × va_E), ws'[k]? = some q → ∃ r, ws[k]? = some r ∧ r.1 = q.1 := by
    intro k q hk
    have h1 : (ws'.map (fun q => q.1))[k]? = some q.1 := by rw [List.getElem?_map, hk]; rfl
    rw [h, List.getElem?_map] at h1
    cases hw : ws[k]? with
    | none => rw [hw] at h1; cases h1
    | some r =>
      rw [hw] at h1
      exact ⟨r, rfl, Option.some.inj h1⟩
  refine ⟨fun i j p q hi hj e => ?_, fun k q hk => ?_⟩
  · obtain ⟨r1, a1, b1⟩ := key i p hi
    obtain ⟨r2, a2, b2⟩ := key j q hj
    exact hD.1 i j r1 r2 a1 a2 (by rw [b1, b2]; exact e)
  · obtain ⟨r, a1, b1⟩ := key k q hk
    rw [← b1]
    exact hD.2 k r a1
theorem mx_setw {D : va_G} {A : Nat → Prop} {ws wc w1 ws' : va_W} {H H1 : Heap} (hP : va_P D vwCl ws H) (hD : va_D A ws) (isC : List Nat) (hC : isC.map (fun i => ws[i]?) = wc.map some) (hk : ∀ q : Nat, q < H.size → ¬ va_A wc H.size q → H1[q]? = H[q]?) (hP1 : va_P D vwCl w1 H1) (hlen : isC.length = w1.length) (hws : mx_sets ws isC w1 = ws') (hadr : ws'.map (fun q => q.1) = ws.map (fun q => q.1)) : va_P D vwCl ws' H1 ∧ va_D A ws' := by
  refine ⟨fun k q hq => ?_, mx_D_adr hD hadr⟩
  rw [← hws] at hq
  rcases mx_sets_at isC w1 ws k q hlen hq with ⟨h1, h2⟩ | ⟨j, hj⟩
  · have hat := hP k q h1
    refine va_at.kept hat (hk q.1 hat.lt (fun z => ?_))
    rcases z with ⟨i, e, hi⟩ | z
    · have h3 : (isC.map (fun i => ws[i]?))[i]? = some (some (q.1, e)) := by rw [hC, List.getElem?_map, hi]; rfl
      rw [List.getElem?_map] at h3
      cases h4 : isC[i]? with
      | none => rw [h4] at h3; cases h3
      | some k2 =>
        rw [h4] at h3
        have h5 : ws[k2]? = some (q.1, e) := Option.some.inj h3
        have e2 : k = k2 := hD.1 k k2 q (q.1, e) h1 h5 rfl
        exact h2 (e2 ▸ List.mem_of_getElem? h4)
    · exact absurd hat.lt (Nat.not_lt.mpr z)
  · exact hP1 j q hj
section MXS
variable {p : Program} {l : Launch} {e : Env} {R : Room} {s : State} {m : MethodId} {args : Array Value} {below : List Frame} {meth : Method} {c : Code} {H : Heap} {locs : List Loc} {cells slots : Nat} {Q : State → Prop}
variable {pc : Nat} {ls : Array Slot} {rest : List Value} {D : va_G} {tys : mxT} {ws wc : va_W} {A : Nat → Prop}
theorem mx_si {S : Type} {post : Int32 → S → Prop} {w1 : S → va_W} {av : Array Value} {st0 : List Value} (hr : va_Run p l e R s m args below meth c H locs cells slots 0 0 (F0 m pc ls st0) rest (va_Qi post (fun u t => mxB D tys (va_A wc H.size) (w1 u) t) (va_A wc H.size) av) (va_A wc H.size)) (hP : va_P D vwCl ws H) (hD : va_D A ws) (hS : va_S A s.heap H locs) (hA : ∀ q, s.heap.size ≤ q → A q) (isC : List Nat) (ws' : S → va_W) (hC : isC.map (fun i => ws[i]?) = wc.map some) (hlen : ∀ u, isC.length = (w1 u).length) (hws : ∀ u, mx_sets ws isC (w1 u) = ws' u) (hadr : ∀ u, (ws' u).map (fun q => q.1) = ws.map (fun q => q.1))
    (kk : ∀ (r : Int32) (u : S) (H1 : Heap) (locs1 : List Loc), post r u → va_P D vwCl (ws' u) H1 → va_D A (ws' u) → va_S A s.heap H1 locs1 → W p l e R s m args below meth c H1 locs1 cells slots Q (F0 m (pc + 3) ls (.int r :: rest))) : W p l e R s m args below meth c H locs cells slots Q (F0 m pc ls st0) :=
  va_calli hr hS (fun q _ h => va_free hD hS hA isC hC q h) (va_free hD hS hA isC hC) (fun r u t H1 locs1 ht hvm hw hB hz1 hk1 hS1 => by
    obtain ⟨hP1, hK1, hD1⟩ := hB
    rw [ht] at hP1
    obtain ⟨g1, g2⟩ := mx_setw hP hD isC hC hk1 hP1 (hlen u) (hws u) (hadr u)
    exact kk r u H1 locs1 hw g1 g2 hS1)
theorem mx_sl {S : Type} {post : Int64 → S → Prop} {w1 : S → va_W} {av : Array Value} {st0 : List Value} (hr : va_Run p l e R s m args below meth c H locs cells slots 0 0 (F0 m pc ls st0) rest (va_Ql post (fun u t => mxB D tys (va_A wc H.size) (w1 u) t) (va_A wc H.size) av) (va_A wc H.size)) (hP : va_P D vwCl ws H) (hD : va_D A ws) (hS : va_S A s.heap H locs) (hA : ∀ q, s.heap.size ≤ q → A q) (isC : List Nat) (ws' : S → va_W) (hC : isC.map (fun i => ws[i]?) = wc.map some) (hlen : ∀ u, isC.length = (w1 u).length) (hws : ∀ u, mx_sets ws isC (w1 u) = ws' u) (hadr : ∀ u, (ws' u).map (fun q => q.1) = ws.map (fun q => q.1))
    (kk : ∀ (r : Int64) (u : S) (H1 : Heap) (locs1 : List Loc), post r u → va_P D vwCl (ws' u) H1 → va_D A (ws' u) → va_S A s.heap H1 locs1 → W p l e R s m args below meth c H1 locs1 cells slots Q (F0 m (pc + 3) ls (.long r :: rest))) : W p l e R s m args below meth c H locs cells slots Q (F0 m pc ls st0) :=
  va_calll hr hS (fun q _ h => va_free hD hS hA isC hC q h) (va_free hD hS hA isC hC) (fun r u t H1 locs1 ht hvm hw hB hz1 hk1 hS1 => by
    obtain ⟨hP1, hK1, hD1⟩ := hB
    rw [ht] at hP1
    obtain ⟨g1, g2⟩ := mx_setw hP hD isC hC hk1 hP1 (hlen u) (hws u) (hadr u)
    exact kk r u H1 locs1 hw g1 g2 hS1)
end MXS
/-! THE CLAIM OUT OF ONE WALK OF THE LAW'S BODY. Your part is whole_start (and what it stands on); all else here is the same for every law, but numbers. -/
def R_law : String := "PramStateLaw"
def lw_P (b : Addr) (xs : List Int32) (args : Array Value) (s : State) : Prop := args = #[.ref b] ∧ s.IntsAt b xs ∧ xs.length ≤ 384 ∧ (Jvm.Cond.and given_1 narrow_1).before args s = true
def lw_Q (_ : Array Value) (s : State) (o : Outcome) (t : State) : Prop := o = .returned (some (.int 1)) ∧ Framed s o t [] 67 1950
def lw_Z (below : List Frame) (a : Array Value) (s : State) : State → Prop := fun t => ∃ o, t.status = .running ∧ Ended t below o ∧ lw_Q a s o t
/-- the law's own end, with 1 on the stack, nothing written that was there before, its room as the claim has it -/
theorem lw_ret {p : Program} {l : Launch} {e : Env} {s : State} {m : MethodId} {below : List Frame} {meth : Method} {c : Code} {b : Nat} (hx : p.tables.exec = Jvm.exec) (hb : c.code = code) (hr : meth.sig.returnType = ret) (hlocks : meth.locks = false) {pc : Nat} {H : Heap} {ls : Array Slot} (hdg : decode code pc = .ok (.ireturn, 1)) : W p l e room_1 s m #[Value.ref b] below meth c H [] 67 1950 (lw_Z below #[Value.ref b] s) (F0 m pc ls [.int 1]) := by
  intro T hT X
  obtain ⟨fs, hret, hrun, hended, hW, hframe⟩ := X.leave (v := some (.int 1)) (hlocks := hlocks) (fun h => by rw [hr] at h; cases h)
  have hmeth' : T.vm.method? m = some meth := X.method'
  refine ⟨T.setFrames fs, ?_, .returned (some (.int 1)), hrun, hended, rfl, ⟨_, rfl⟩, hW, hframe⟩
  jvm_step X.here [X.here.top, hx, hb, hdg, hmeth', hr, ret, narrow_b1]
  (try refine ⟨rfl, ?_⟩); (try refine ⟨rfl, ?_⟩)
  first | (intro acts; rw [hret _ acts rfl rfl rfl]) | rw [hret _ _ rfl rfl rfl]
  exact Steps.refl _
/-- what holds at the law's entry: the machine, the code, the tables' words (any of lw_tbl by 'hts w (by decide +kernel)'), the script of L ints xs at the cell b, what the Statement gives of the start (any of its parts by flat_of_before) -/
def lw_At (p : Program) (s : State) (m : MethodId) (meth : Method) (c : Code) (b L : Nat) (xs : Nat → Int32) : Prop :=
  p.tables.exec = Jvm.exec ∧ c.code = code ∧ meth.sig.returnType = ret ∧ c.maxLocals = 4 ∧ s.vm.findClass R_law = some m.cls ∧ (∀ w ∈ lw_tbl, w.before #[Value.ref b] s = true) ∧ va_X b L xs s s.heap ∧ b < s.heap.size ∧ meth.locks = false ∧ (Jvm.Cond.and given_1 narrow_1).before #[Value.ref b] s = true
