/-! a stretch of a method, and the law's first stretch: what the constructors make -/
def zpart (f : Nat) : Nat → Nat → zK → Nat → List Value → List Value → zS → Option (Nat × List Value × List Value × zS)
  | 0, _, _, pc, ls, st, σ => some (pc, ls, st, σ)
  | n + 1, d, K, pc, ls, st, σ => match decode (zKcode K) pc with
    | .error _ => none
    | .ok (i, len) => if (len == zilen i || zilen i == 0) = true then match zstep K i len d pc ls st σ with
      | some (.inl (pc', ls', st', σ')) => zpart f n d K pc' ls' st' σ'
      | some (.inr (.inr (K', as, rest))) => match d with
        | 0 => none
        | d' + 1 => if zKkind K' = 8 then none else match zrun f d' K' 0 (zentry (zKmax K') as) [] σ with
          | none => none
          | some (r, σ') => if zisN r = true then zpart f n (d' + 1) K (pc + 3) ls (zRstk r ++ rest) σ' else none
      | _ => none
      else none
theorem zpart_mon (f : Nat) : ∀ (n d : Nat) (K : zK) (pc : Nat) (ls st : List Value) (σ : zS) (pc' : Nat) (ls' st' : List Value) (σ' : zS), zpart f n d K pc ls st σ = some (pc', ls', st', σ') → zcc σ ≤ zcc σ' ∧ zcs σ ≤ zcs σ' ∧ znum σ ≤ znum σ' := by
  intro n
  induction n with
  | zero =>
    intro d K pc ls st σ pc' ls' st' σ' h
    cases h
    exact ⟨Nat.le_refl _, Nat.le_refl _, Nat.le_refl _⟩
  | succ n ih =>
    intro d K pc ls st σ pc' ls' st' σ' h
    unfold zpart at h
    split at h
    · cases h
    · split at h
      · split at h
        · rename_i hs
          have h1 := zstep_mon _ _ _ _ hs
          have h2 := ih _ _ _ _ _ _ _ _ _ _ h
          omega
        · split at h
          · cases h
          · split at h
            · cases h
            · split at h
              · cases h
              · rename_i hr
                split at h
                · have h1 := zrun_mon _ _ _ _ _ _ _ _ _ hr
                  have h2 := ih _ _ _ _ _ _ _ _ _ _ h
                  omega
                · cases h
        · cases h
      · cases h
set_option maxHeartbeats 4000000 in
theorem zpart_ok {p : Program} {l : Launch} {e : Env} {R : Room} {s : State} {m : MethodId} {args : Array Value} {below : List Frame} {meth : Method} {c : Code} {Q : State → Prop} {A : Nat → Prop} {H0 : Heap} {D : va_G} {K : zK} (f : Nat) :
    ∀ (n d pc : Nat) (ls st : List Value) (σ : zS) (pc' : Nat) (ls' st' : List Value) (σ' : zS) (H : Heap) (locs : List Loc) (cells slots : Nat) (ad : Nat → Nat) (ca : Nat → ClassId) (lsA : Array Slot), zpart f n d K pc ls st σ = some (pc', ls', st', σ') →
    zCx p R s m args meth c K d A H0 (ad 0) → zWd D ad ca σ s A H0 H locs → zLs ad lsA (zKmax K) ls → zVv (znum σ) ls → zVv (znum σ) st → cells + zcc σ' ≤ R.cells + zcc σ → slots + zcs σ' ≤ R.slots + zcs σ →
    zCont p l e R s m args below meth c Q A H0 D (zKmax K) (znum σ) (zcc σ) (zcs σ) cells slots ad pc' ls' st' σ' →
    W p l e R s m args below meth c H locs cells slots Q (F0 m pc lsA (st.map (zv ad))) := by
  intro n
  induction n with
  | zero =>
    intro d pc ls st σ pc' ls' st' σ' H locs cells slots ad ca lsA h C hW hL hv1 hv2 hc hsl k
    cases h
    exact k ad ca H locs cells slots lsA (fun _ _ => rfl) hW hL hv1 hv2 rfl rfl
  | succ n ih =>
    intro d pc ls st σ pc' ls' st' σ' H locs cells slots ad ca lsA h C hW hL hv1 hv2 hc hsl k
    have h1n := hW.2.2.2.2.2.2.1
    unfold zpart at h
    split at h
    · cases h
    · rename_i i len hd
      split at h
      · rename_i hn
        split at h
        · rename_i pc1 ls1 st1 σ1 hs
          have m1 := zstep_mon _ _ _ _ hs
          have m2 := zpart_mon f _ _ _ _ _ _ _ _ _ _ _ h
          refine zsnd_next hd hn hs C hW hL hv1 hv2 (by omega) (by omega) (fun ad1 ca1 H1 locs1 cells1 slots1 lsA1 hag hW1 hL1 hv1' hv2' hc1 hs1 => ?_)
          exact ih d pc1 ls1 st1 σ1 pc' ls' st' σ' H1 locs1 cells1 slots1 ad1 ca1 lsA1 h (zCx_ad C (hag 0 (by omega))) hW1 hL1 hv1' hv2' (by omega) (by omega) (fun ad2 ca2 H2 locs2 cells2 slots2 lsA2 hag2 hW2 hL2 hv12 hv22 hc2 hs2 =>
            k ad2 ca2 H2 locs2 cells2 slots2 lsA2 (fun j hj => (hag2 j (by omega)).trans (hag j hj)) hW2 hL2 hv12 hv22 (by omega) (by omega))
        · rename_i K' as rest hs
          split at h
          · cases h
          · rename_i dc
            split at h
            · cases h
            · rename_i hk8
              split at h
              · cases h
              · rename_i r1 σ1 hr
                split at h
                · rename_i hisN
                  have m1 := zrun_mon _ _ _ _ _ _ _ _ _ hr
                  have m2 := zpart_mon f _ _ _ _ _ _ _ _ _ _ _ h
                  refine zsnd_call (zsound l f) hd hn hs hr hisN hk8 C hW hL hv1 hv2 (by omega) (by omega) (fun ad1 ca1 H1 locs1 cells1 slots1 lsA1 hag hW1 hL1 hv1' hv2' hc1 hs1 => ?_)
                  exact ih (dc + 1) (pc + 3) ls _ σ1 pc' ls' st' σ' H1 locs1 cells1 slots1 ad1 ca1 lsA1 h (zCx_ad C (hag 0 (by omega))) hW1 hL1 hv1' hv2' (by omega) (by omega) (fun ad2 ca2 H2 locs2 cells2 slots2 lsA2 hag2 hW2 hL2 hv12 hv22 hc2 hs2 =>
                    k ad2 ca2 H2 locs2 cells2 slots2 lsA2 (fun j hj => (hag2 j (by omega)).trans (hag j hj)) hW2 hL2 hv12 hv22 (by omega) (by omega))
                · cases h
        · cases h
      · cases h
/-- the empty world, and what the law's first thirteen instructions make of it -/
def z0 : zS := ([(98, 0)], (fun _ _ => 0, fun _ _ => 0, fun _ _ => none), (0, 0))
def zini : Option (Nat × List Value × List Value × zS) := zpart 3000 13 13 kL_law 0 [.ref 0, .retAddr 0, .retAddr 0, .retAddr 0, .retAddr 0, .retAddr 0, .retAddr 0] [] z0
def z1 : zS := match zini with
  | some q => q.2.2.2
  | none => z0
/-- what the objects' numbers are at first -/
def zint0 (kd k : Nat) : Int32 := match kd, k with
  | 10, 2 => 5
  | 6, 0 => 1
  | 6, 1 => 5
  | 4, 5 => -1
  | 4, 6 => -1
  | 12, 15 => 5
  | 12, 19 => -1
  | 12, 21 => -1
  | _, _ => 0
/-- the references at first that may change -/
def zref0 (c k : Nat) : Option Nat := if zk c = 4 ∧ k = 0 then some (c + 1) else if zk c = 2 ∧ k = 3 then some (c + 4) else none
def zck (σ : zS) : Bool := (List.range 165).all fun c => (List.range 60).all fun k =>
  (match zRT c k with | some v => decide (zR σ c k = some v) | none => true) && (match zref0 c k with | some v => decide (zR σ c k = some v) | none => true) && (if zk c < 13 ∧ k < zl c then decide (zI σ c k = zint0 (zk c) k) else true)
def zini_ok : Bool := match zini with
  | some q => decide (q.1 = 23) && decide (q.2.1 = [.ref 0, .ref 1, .ref 131, .ref 164, .int 0, .retAddr 0, .retAddr 0]) && decide (q.2.2.1 = []) && decide (q.2.2.2.1 = (98, 0) :: zSH) && decide (q.2.2.2.2.2 = (164, 6661)) && zck q.2.2.2
  | none => false
set_option maxRecDepth 100000 in
theorem zini_t : zini_ok = true := by decide +kernel
theorem zini_eq : zini = some (23, [.ref 0, .ref 1, .ref 131, .ref 164, .int 0, .retAddr 0, .retAddr 0], [], z1) ∧ z1.1 = (98, 0) :: zSH ∧ z1.2.2 = (164, 6661) ∧ zck z1 = true := by
  have h := zini_t
  unfold zini_ok at h
  unfold z1
  split at h
  · rename_i q hq
    simp only [Bool.and_eq_true, decide_eq_true_eq] at h
    obtain ⟨⟨⟨⟨⟨h1, h2⟩, h3⟩, h4⟩, h5⟩, h6⟩ := h
    obtain ⟨a, b, c, d⟩ := q
    simp only at h1 h2 h3 h4 h5 h6
    subst h1 h2 h3
    rw [hq]
    exact ⟨rfl, h4, h5, h6⟩
  · cases h
theorem zck_at {σ : zS} (h : zck σ = true) {c k : Nat} (hc : c < 165) (hk : k < 60) : (∀ v, zRT c k = some v → zR σ c k = some v) ∧ (∀ v, zref0 c k = some v → zR σ c k = some v) ∧ (zk c < 13 → k < zl c → zI σ c k = zint0 (zk c) k) := by
  unfold zck at h
  have h1 := List.all_eq_true.mp (List.all_eq_true.mp h c (List.mem_range.mpr hc)) k (List.mem_range.mpr hk)
  simp only [Bool.and_eq_true] at h1
  obtain ⟨⟨h2, h3⟩, h4⟩ := h1
  refine ⟨fun v hv => ?_, fun v hv => ?_, fun a b => ?_⟩
  · rw [hv] at h2
    simpa using h2
  · rw [hv] at h3
    simpa using h3
  · rw [if_pos ⟨a, b⟩] at h4
    simpa using h4
theorem zRT_lt {c k v : Nat} (h : zRT c k = some v) : c < 165 ∧ k < 60 := by
  unfold zRT at h
  have hc : zk c < 98 := by
    unfold zRTk at h
    split at h <;> first | omega | skip
    cases h
  refine ⟨zk_lt hc, ?_⟩
  unfold zRTk at h
  split at h
  case h_9 =>
    rcases Nat.lt_or_ge k 20 with hk | hk
    · omega
    · rw [List.getD_eq_getElem?_getD, List.getElem?_eq_none (by simpa using hk)] at h
      cases h
  case h_10 =>
    rcases Nat.lt_or_ge k 60 with hk | hk
    · exact hk
    · rw [List.getD_eq_getElem?_getD, List.getElem?_eq_none (by simpa using hk)] at h
      cases h
  all_goals
    first
    | (cases h; done)
    | (split at h
       · omega
       · cases h)
theorem z1_lay : zLay z1 := ⟨⟨_, zini_eq.2.1⟩, fun c k v hv => (zck_at zini_eq.2.2.2 (zRT_lt hv).1 (zRT_lt hv).2).1 v hv⟩
theorem z1_I {c k : Nat} (hc : c < 165) (hk : k < 60) (h1 : zk c < 13) (h2 : k < zl c) : zI z1 c k = zint0 (zk c) k := (zck_at zini_eq.2.2.2 hc hk).2.2 h1 h2
theorem z1_R {c k v : Nat} (hc : c < 165) (hk : k < 60) (h : zref0 c k = some v) : zR z1 c k = some v := (zck_at zini_eq.2.2.2 hc hk).2.1 v h
