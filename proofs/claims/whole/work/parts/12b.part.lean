/-! a stretch of a method -/
def zpart (f : Nat) : Nat → Nat → zK → Nat → List Value → List Value → zS → Option (Nat × List Value × List Value × zS)
  | 0, _, _, pc, ls, st, σ => some (pc, ls, st, σ)
  | n + 1, d, K, pc, ls, st, σ => match decode (zKcode K) pc with
    | .error _ => none
    | .ok (i, len) => if (len == zilen i || zilen i == 0) = true then match zstep K i len d pc ls st σ with
      | some (.inl (pc', ls', st', σ')) => zpart f n d K pc' ls' st' σ'
      | some (.inr (.inr (K', as, rest))) => match d with
        | 0 => none
        | d' + 1 => if zKkind K' = 8 then none else match zrun f d' K' 0 (zentry (zKmax K') as) [] σ with
          | none => none
          | some (r, σ') => if zisN r = true then zpart f n (d' + 1) K (pc + 3) ls (zRstk r ++ rest) σ' else none
      | _ => none
      else none
theorem zpart_mon (f : Nat) : ∀ (n d : Nat) (K : zK) (pc : Nat) (ls st : List Value) (σ : zS) (pc' : Nat) (ls' st' : List Value) (σ' : zS), zpart f n d K pc ls st σ = some (pc', ls', st', σ') → zcc σ ≤ zcc σ' ∧ zcs σ ≤ zcs σ' ∧ znum σ ≤ znum σ' := by
  intro n
  induction n with
  | zero =>
    intro d K pc ls st σ pc' ls' st' σ' h
    cases h
    exact ⟨Nat.le_refl _, Nat.le_refl _, Nat.le_refl _⟩
  | succ n ih =>
    intro d K pc ls st σ pc' ls' st' σ' h
    unfold zpart at h
    split at h
    · cases h
    · split at h
      · split at h
        · rename_i hs
          have h1 := zstep_mon _ _ _ _ hs
          have h2 := ih _ _ _ _ _ _ _ _ _ _ h
          omega
        · split at h
          · cases h
          · split at h
            · cases h
            · split at h
              · cases h
              · rename_i hr
                split at h
                · have h1 := zrun_mon _ _ _ _ _ _ _ _ _ hr
                  have h2 := ih _ _ _ _ _ _ _ _ _ _ h
                  omega
                · cases h
        · cases h
      · cases h
set_option maxHeartbeats 4000000 in
theorem zpart_ok {p : Program} {l : Launch} {e : Env} {R : Room} {s : State} {m : MethodId} {args : Array Value} {below : List Frame} {meth : Method} {c : Code} {Q : State → Prop} {A : Nat → Prop} {H0 : Heap} {D : va_G} {K : zK} {f : Nat} (ih : zSnd l f) :
    ∀ (n d pc : Nat) (ls st : List Value) (σ : zS) (pc' : Nat) (ls' st' : List Value) (σ' : zS) (H : Heap) (locs : List Loc) (cells slots : Nat) (ad : Nat → Nat) (ca : Nat → ClassId) (lsA : Array Slot), zpart f n d K pc ls st σ = some (pc', ls', st', σ') →
    zCx p R s m args meth c K d A H0 (ad 0) → zWd D ad ca σ s A H0 H locs → zLs ad lsA (zKmax K) ls → zVv (znum σ) ls → zVv (znum σ) st → cells + zcc σ' ≤ R.cells + zcc σ → slots + zcs σ' ≤ R.slots + zcs σ →
    zCont p l e R s m args below meth c Q A H0 D (zKmax K) (znum σ) (zcc σ) (zcs σ) cells slots ad pc' ls' st' σ' →
    W p l e R s m args below meth c H locs cells slots Q (F0 m pc lsA (st.map (zv ad))) := by
  intro n
  induction n with
  | zero =>
    intro d pc ls st σ pc' ls' st' σ' H locs cells slots ad ca lsA h C hW hL hv1 hv2 hc hsl k
    cases h
    exact k ad ca H locs cells slots lsA (fun _ _ => rfl) hW hL hv1 hv2 rfl rfl
  | succ n ih2 =>
    intro d pc ls st σ pc' ls' st' σ' H locs cells slots ad ca lsA h C hW hL hv1 hv2 hc hsl k
    have h1n := hW.2.2.2.2.2.2.1
    unfold zpart at h
    split at h
    · cases h
    · rename_i i len hd
      split at h
      · rename_i hn
        split at h
        · rename_i pc1 ls1 st1 σ1 hs
          have m1 := zstep_mon _ _ _ _ hs
          have m2 := zpart_mon f _ _ _ _ _ _ _ _ _ _ _ h
          refine zsnd_next hd hn hs C hW hL hv1 hv2 (by omega) (by omega) (fun ad1 ca1 H1 locs1 cells1 slots1 lsA1 hag hW1 hL1 hv1' hv2' hc1 hs1 => ?_)
          exact ih2 d pc1 ls1 st1 σ1 pc' ls' st' σ' H1 locs1 cells1 slots1 ad1 ca1 lsA1 h (zCx_ad C (hag 0 (by omega))) hW1 hL1 hv1' hv2' (by omega) (by omega) (fun ad2 ca2 H2 locs2 cells2 slots2 lsA2 hag2 hW2 hL2 hv12 hv22 hc2 hs2 =>
            k ad2 ca2 H2 locs2 cells2 slots2 lsA2 (fun j hj => (hag2 j (by omega)).trans (hag j hj)) hW2 hL2 hv12 hv22 (by omega) (by omega))
        · rename_i K' as rest hs
          split at h
          · cases h
          · rename_i dc
            split at h
            · cases h
            · rename_i hk8
              split at h
              · cases h
              · rename_i r1 σ1 hr
                split at h
                · rename_i hisN
                  have m1 := zrun_mon _ _ _ _ _ _ _ _ _ hr
                  have m2 := zpart_mon f _ _ _ _ _ _ _ _ _ _ _ h
                  refine zsnd_call ih hd hn hs hr hisN hk8 C hW hL hv1 hv2 (by omega) (by omega) (fun ad1 ca1 H1 locs1 cells1 slots1 lsA1 hag hW1 hL1 hv1' hv2' hc1 hs1 => ?_)
                  exact ih2 (dc + 1) (pc + 3) ls _ σ1 pc' ls' st' σ' H1 locs1 cells1 slots1 ad1 ca1 lsA1 h (zCx_ad C (hag 0 (by omega))) hW1 hL1 hv1' hv2' (by omega) (by omega) (fun ad2 ca2 H2 locs2 cells2 slots2 lsA2 hag2 hW2 hL2 hv12 hv22 hc2 hs2 =>
                    k ad2 ca2 H2 locs2 cells2 slots2 lsA2 (fun j hj => (hag2 j (by omega)).trans (hag j hj)) hW2 hL2 hv12 hv22 (by omega) (by omega))
                · cases h
        · cases h
      · cases h
