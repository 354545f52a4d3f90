/-! returns and calls -/
/-- a step that doesn't answer -/
def zNoRet (r : Option zN3) : Prop := ∀ v, r ≠ some (.inr (.inl v))
theorem zNoRet_none : zNoRet none := fun _ h => by cases h
theorem zNoRet_go {pc : Nat} {ls st : List Value} {σ : zS} : zNoRet (zgo pc ls st σ) := fun _ h => by unfold zgo at h; cases h
theorem zNoRet_call {x : zK × List Value × List Value} : zNoRet (some (.inr (.inr x))) := fun _ h => by cases h
/-- a step that doesn't call -/
def zNoCall (r : Option zN3) : Prop := ∀ x, r ≠ some (.inr (.inr x))
theorem zNoCall_none : zNoCall none := fun _ h => by cases h
theorem zNoCall_go {pc : Nat} {ls st : List Value} {σ : zS} : zNoCall (zgo pc ls st σ) := fun _ h => by unfold zgo at h; cases h
theorem zNoCall_ret {x : Option Value} : zNoCall (some (.inr (.inl x))) := fun _ h => by cases h
set_option maxHeartbeats 8000000 in
theorem zstep_ret {K : zK} {i : Instr} {n d pc : Nat} {ls st : List Value} {σ : zS} {v : Option Value} (hs : zstep K i n d pc ls st σ = some (.inr (.inl v))) :
    (i = .return_ ∧ st = [] ∧ v = none ∧ zKret K = 0) ∨ (i = .ireturn ∧ ∃ x, st = [.int x] ∧ v = some (.int x) ∧ (zKret K = 1 ∨ (zKret K = 2 ∧ (x = 0 ∨ x = 1)))) ∨ (i = .new 161 ∧ st = [] ∧ v = some zThr ∧ zKci K = 11 ∧ pc = 17) := by
  unfold zstep at hs
  split at hs
  case h_62 =>
    right
    right
    split at hs
    · unfold zgo at hs
      cases hs
    · split at hs
      · split at hs
        · rename_i hq
          cases hs
          exact ⟨by rw [hq.2.1], rfl, rfl, hq.1, hq.2.2⟩
        · cases hs
      · cases hs
  case h_71 =>
    right
    left
    split at hs
    · split at hs
      · rename_i hq
        cases hs
        exact ⟨rfl, _, rfl, rfl, hq⟩
      · cases hs
    · cases hs
  case h_72 =>
    left
    split at hs
    · split at hs
      · rename_i hq
        cases hs
        exact ⟨rfl, rfl, rfl, hq⟩
      · cases hs
    · cases hs
  all_goals
    exfalso
    revert hs
    (try unfold zld) <;> (try unfold zldL) <;> (try unfold zldA) <;> (try unfold zst) <;> (try unfold zstA) <;> (try unfold zbin) <;> (try unfold zbinL) <;> (try unfold zald) <;> (try unfold zarr) <;> (try unfold zinvS) <;> (try unfold zinvV) <;> (try unfold zinvI) <;> (try unfold zcall) <;> (try unfold zicmp) <;> (try unfold zjmp) <;> (repeat' split) <;>
    first | exact zNoRet_none _ | exact zNoRet_go _ | exact zNoRet_call _
theorem zcall_eq {K' K2 : zK} {as rest as2 rest2 : List Value} (h : zcall K' as rest = some (.inr (.inr (K2, as2, rest2)))) : K2 = K' ∧ as2 = as ∧ rest2 = rest ∧ zKmax K' ≤ 28 ∧ (zargs as).length ≤ zKmax K' ∧ zcat rest ≤ 8 := by
  unfold zcall at h
  split at h
  · rename_i hq
    cases h
    exact ⟨rfl, rfl, rfl, hq⟩
  · cases h
theorem ztake {st : List Value} {n : Nat} (h : n ≤ st.length) : st = ((st.take n).reverse).reverse ++ st.drop n ∧ ((st.take n).reverse).length = n := by
  simp; omega
set_option maxHeartbeats 8000000 in
theorem zstep_call {K K' : zK} {i : Instr} {n d pc : Nat} {ls st as rest : List Value} {σ : zS} (hs : zstep K i n d pc ls st σ = some (.inr (.inr (K', as, rest)))) :
    ∃ k0, zres (zKci K) k0 = some K' ∧ zKmax K' ≤ 28 ∧ (zargs as).length ≤ zKmax K' ∧ zcat rest ≤ 8 ∧
      ((i = .invokestatic k0 ∧ (zKkind K' = 0 ∨ zKkind K' = 8) ∧ st = as.reverse ++ rest ∧ as.length = zKn K') ∨
       (i = .invokevirtual k0 ∧ zKkind K' = 1 ∧ ∃ a as', as = .ref a :: as' ∧ st = as'.reverse ++ .ref a :: rest ∧ as'.length = zKn K' ∧ zkind σ a = zKci K' ∧ zKci K' < 13 ∧ a < znum σ) ∨
       (i = .invokespecial k0 ∧ zKkind K' = 2 ∧ zKret K' = 0 ∧ ∃ a as', as = .ref a :: as' ∧ st = as'.reverse ++ .ref a :: rest ∧ as'.length = zKn K')) := by
  unfold zstep at hs
  split at hs
  case h_68 k0 =>
    split at hs
    · rename_i K2 hK
      unfold zinvS at hs
      split at hs
      · rename_i hk
        split at hs
        · rename_i hl
          obtain ⟨rfl, rfl, rfl, h1, h2, h3⟩ := zcall_eq hs
          obtain ⟨t1, t2⟩ := ztake hl
          exact ⟨k0, hK, h1, h2, h3, Or.inl ⟨rfl, hk, t1, t2⟩⟩
        · cases hs
      · exfalso
        revert hs
        (repeat' split) <;> first | exact zNoCall_none _ | exact zNoCall_go _
    · cases hs
  case h_69 k0 =>
    split at hs
    · rename_i K2 hK
      unfold zinvV at hs
      split at hs
      · rename_i hk
        split at hs
        · rename_i a rest2 hdr
          split at hs
          · rename_i hq
            obtain ⟨rfl, rfl, rfl, h1, h2, h3⟩ := zcall_eq hs
            obtain ⟨t1, t2⟩ := ztake (Nat.le_of_lt hk.2)
            rw [hdr] at t1
            exact ⟨k0, hK, h1, h2, h3, Or.inr (Or.inl ⟨rfl, hk.1, a, _, rfl, t1, t2, hq⟩)⟩
          · cases hs
        · cases hs
      · cases hs
    · cases hs
  case h_70 k0 =>
    split at hs
    · rename_i K2 hK
      unfold zinvI at hs
      split at hs
      · rename_i hk
        split at hs
        · rename_i hl
          split at hs
          · rename_i a rest2 hdr
            split at hs
            · rename_i hq
              obtain ⟨rfl, rfl, rfl, h1, h2, h3⟩ := zcall_eq hs
              obtain ⟨t1, t2⟩ := ztake (Nat.le_of_lt hl)
              rw [hdr] at t1
              exact ⟨k0, hK, h1, h2, h3, Or.inr (Or.inr ⟨rfl, hk, hq, a, _, rfl, t1, t2⟩)⟩
            · cases hs
          · cases hs
        · cases hs
      · exfalso
        revert hs
        (repeat' split) <;> first | exact zNoCall_none _ | exact zNoCall_go _
    · cases hs
  all_goals
    exfalso
    revert hs
    (try unfold zld) <;> (try unfold zldL) <;> (try unfold zldA) <;> (try unfold zst) <;> (try unfold zstA) <;> (try unfold zbin) <;> (try unfold zbinL) <;> (try unfold zald) <;> (try unfold zarr) <;> (try unfold zicmp) <;> (try unfold zjmp) <;> (repeat' split) <;>
    first | exact zNoCall_none _ | exact zNoCall_go _ | exact zNoCall_ret _
