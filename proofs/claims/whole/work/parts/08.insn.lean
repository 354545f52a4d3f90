/-! one instruction, by its kind -/
theorem zld_eq {pc n i pc' : Nat} {ls st ls' st' : List Value} {σ σ' : zS} (h : zld pc n i ls st σ = some (.inl (pc', ls', st', σ'))) : ∃ x, ls[i]? = some (.int x) ∧ pc' = pc + n ∧ ls' = ls ∧ st' = .int x :: st ∧ σ = σ' := by
  unfold zld at h
  split at h
  · rename_i x hx
    exact ⟨x, hx, zgo_eq h⟩
  · cases h
theorem zldL_eq {pc n i pc' : Nat} {ls st ls' st' : List Value} {σ σ' : zS} (h : zldL pc n i ls st σ = some (.inl (pc', ls', st', σ'))) : ∃ x, ls[i]? = some (.long x) ∧ pc' = pc + n ∧ ls' = ls ∧ st' = .long x :: st ∧ σ = σ' := by
  unfold zldL at h
  split at h
  · rename_i x hx
    exact ⟨x, hx, zgo_eq h⟩
  · cases h
theorem zldA_eq {pc n i pc' : Nat} {ls st ls' st' : List Value} {σ σ' : zS} (h : zldA pc n i ls st σ = some (.inl (pc', ls', st', σ'))) : (∃ x, ls[i]? = some (.ref x) ∧ pc' = pc + n ∧ ls' = ls ∧ st' = .ref x :: st ∧ σ = σ') ∨ (ls[i]? = some .null ∧ pc' = pc + n ∧ ls' = ls ∧ st' = .null :: st ∧ σ = σ') := by
  unfold zldA at h
  split at h
  · rename_i x hx
    exact Or.inl ⟨x, hx, zgo_eq h⟩
  · rename_i hx
    exact Or.inr ⟨hx, zgo_eq h⟩
  · cases h
theorem zst_eq {pc n i pc' : Nat} {ls st ls' st' : List Value} {σ σ' : zS} (h : zst pc n i ls st σ = some (.inl (pc', ls', st', σ'))) : ∃ x r, st = .int x :: r ∧ zset ls i (.int x) = some ls' ∧ pc' = pc + n ∧ st' = r ∧ σ = σ' := by
  unfold zst at h
  split at h
  · split at h
    · rename_i hz
      obtain ⟨a, b, c, d⟩ := zgo_eq h
      exact ⟨_, _, rfl, by rw [hz, b], a, c, d⟩
    · cases h
  · cases h
theorem zstA_eq {pc n i pc' : Nat} {ls st ls' st' : List Value} {σ σ' : zS} (h : zstA pc n i ls st σ = some (.inl (pc', ls', st', σ'))) : ∃ x r, st = .ref x :: r ∧ zset ls i (.ref x) = some ls' ∧ pc' = pc + n ∧ st' = r ∧ σ = σ' := by
  unfold zstA at h
  split at h
  · split at h
    · rename_i hz
      obtain ⟨a, b, c, d⟩ := zgo_eq h
      exact ⟨_, _, rfl, by rw [hz, b], a, c, d⟩
    · cases h
  · cases h
theorem zbin_eq {f : Int32 → Int32 → Int32} {pc pc' : Nat} {ls st ls' st' : List Value} {σ σ' : zS} (h : zbin f pc ls st σ = some (.inl (pc', ls', st', σ'))) : ∃ x y r, st = .int y :: .int x :: r ∧ pc' = pc + 1 ∧ ls' = ls ∧ st' = .int (f x y) :: r ∧ σ = σ' := by
  unfold zbin at h
  split at h
  · exact ⟨_, _, _, rfl, zgo_eq h⟩
  · cases h
theorem zbinL_eq {f : Int64 → Int64 → Int64} {pc pc' : Nat} {ls st ls' st' : List Value} {σ σ' : zS} (h : zbinL f pc ls st σ = some (.inl (pc', ls', st', σ'))) : ∃ x y r, st = .long y :: .long x :: r ∧ pc' = pc + 1 ∧ ls' = ls ∧ st' = .long (f x y) :: r ∧ σ = σ' := by
  unfold zbinL at h
  split at h
  · exact ⟨_, _, _, rfl, zgo_eq h⟩
  · cases h
theorem zset_lt {ls ls' : List Value} {i : Nat} {v : Value} (h : zset ls i v = some ls') : i < ls.length ∧ ls' = ls.set i v := by
  unfold zset at h
  split at h
  · rename_i q
    cases h
    exact ⟨q.1, rfl⟩
  · cases h
/-- what goes on behind a step -/
def zCont (p : Program) (l : Launch) (e : Env) (R : Room) (s : State) (m : MethodId) (args : Array Value) (below : List Frame) (meth : Method) (c : Code) (Q : State → Prop) (A : Nat → Prop) (H0 : Heap) (D : va_G) (nL n0 cc0 cs0 cells slots : Nat) (ad : Nat → Nat) (pc' : Nat) (ls' st' : List Value) (σ' : zS) : Prop :=
  ∀ (ad' : Nat → Nat) (ca' : Nat → ClassId) (H' : Heap) (locs' : List Loc) (cells' slots' : Nat) (lsA' : Array Slot), (∀ j, j < n0 → ad' j = ad j) → zWd D ad' ca' σ' s A H0 H' locs' → zLs ad' lsA' nL ls' → zVv (znum σ') ls' → zVv (znum σ') st' → cells' + cc0 = cells + zcc σ' → slots' + cs0 = slots + zcs σ' →
    W p l e R s m args below meth c H' locs' cells' slots' Q (F0 m pc' lsA' (st'.map (zv ad')))
section ZN
variable {p : Program} {l : Launch} {e : Env} {R : Room} {s : State} {m : MethodId} {args : Array Value} {below : List Frame} {meth : Method} {c : Code} {Q : State → Prop} {A : Nat → Prop} {H0 H : Heap} {D : va_G} {K : zK} {d pc n pc' cells slots : Nat} {i : Instr} {ls st ls' st' : List Value} {σ σ' : zS} {ad : Nat → Nat} {ca : Nat → ClassId} {lsA : Array Slot} {locs : List Loc}

theorem zn_iload_n {k0 : Fin 4} (hd : decode (zKcode K) pc = .ok (.iload_n k0, n)) (hn : (n == zilen (.iload_n k0) || zilen (.iload_n k0) == 0) = true) (hs : zstep K (.iload_n k0) n d pc ls st σ = some (.inl (pc', ls', st', σ'))) (C : zCx p R s m args meth c K d A H0 (ad 0)) (hW : zWd D ad ca σ s A H0 H locs) (hL : zLs ad lsA (zKmax K) ls) (hv1 : zVv (znum σ) ls) (hv2 : zVv (znum σ) st) (hc : cells + zcc σ' ≤ R.cells + zcc σ) (hsl : slots + zcs σ' ≤ R.slots + zcs σ) (k : zCont p l e R s m args below meth c Q A H0 D (zKmax K) (znum σ) (zcc σ) (zcs σ) cells slots ad pc' ls' st' σ') : W p l e R s m args below meth c H locs cells slots Q (F0 m pc lsA (st.map (zv ad))) := by
  obtain ⟨hx, hb, hml, hown, hts, hini, hfr, hlo, hA, hbl, hbA⟩ := C
  have kk : ∀ {lsA' : Array Slot}, σ' = σ → zLs ad lsA' (zKmax K) ls' → zVv (znum σ) ls' → zVv (znum σ) st' → W p l e R s m args below meth c H locs cells slots Q (F0 m pc' lsA' (st'.map (zv ad))) := by
    intro lsA' he h1 h2 h3
    subst he
    exact k ad ca H locs cells slots lsA' (fun _ _ => rfl) hW h1 h2 h3 rfl rfl
  obtain rfl : n = 1 := by simpa [zilen] using hn
  obtain ⟨x, h1, rfl, rfl, rfl, rfl⟩ := zld_eq (show zld pc 1 k0 ls st σ = _ from hs)
  exact lv_iload_n hx hb hd rfl (hL.2.2.2 _ _ h1 (by simp)) (kk rfl hL hv1 (zVv_cons.mpr ⟨trivial, hv2⟩))

theorem zn_iload {k0 : Nat} (hd : decode (zKcode K) pc = .ok (.iload k0, n)) (hn : (n == zilen (.iload k0) || zilen (.iload k0) == 0) = true) (hs : zstep K (.iload k0) n d pc ls st σ = some (.inl (pc', ls', st', σ'))) (C : zCx p R s m args meth c K d A H0 (ad 0)) (hW : zWd D ad ca σ s A H0 H locs) (hL : zLs ad lsA (zKmax K) ls) (hv1 : zVv (znum σ) ls) (hv2 : zVv (znum σ) st) (hc : cells + zcc σ' ≤ R.cells + zcc σ) (hsl : slots + zcs σ' ≤ R.slots + zcs σ) (k : zCont p l e R s m args below meth c Q A H0 D (zKmax K) (znum σ) (zcc σ) (zcs σ) cells slots ad pc' ls' st' σ') : W p l e R s m args below meth c H locs cells slots Q (F0 m pc lsA (st.map (zv ad))) := by
  obtain ⟨hx, hb, hml, hown, hts, hini, hfr, hlo, hA, hbl, hbA⟩ := C
  have kk : ∀ {lsA' : Array Slot}, σ' = σ → zLs ad lsA' (zKmax K) ls' → zVv (znum σ) ls' → zVv (znum σ) st' → W p l e R s m args below meth c H locs cells slots Q (F0 m pc' lsA' (st'.map (zv ad))) := by
    intro lsA' he h1 h2 h3
    subst he
    exact k ad ca H locs cells slots lsA' (fun _ _ => rfl) hW h1 h2 h3 rfl rfl
  obtain rfl : n = 2 := by simpa [zilen] using hn
  obtain ⟨x, h1, rfl, rfl, rfl, rfl⟩ := zld_eq (show zld pc 2 k0 ls st σ = _ from hs)
  exact lv_iload hx hb hd (hL.2.2.2 _ _ h1 (by simp)) (kk rfl hL hv1 (zVv_cons.mpr ⟨trivial, hv2⟩))

theorem zn_lload_n {k0 : Fin 4} (hd : decode (zKcode K) pc = .ok (.lload_n k0, n)) (hn : (n == zilen (.lload_n k0) || zilen (.lload_n k0) == 0) = true) (hs : zstep K (.lload_n k0) n d pc ls st σ = some (.inl (pc', ls', st', σ'))) (C : zCx p R s m args meth c K d A H0 (ad 0)) (hW : zWd D ad ca σ s A H0 H locs) (hL : zLs ad lsA (zKmax K) ls) (hv1 : zVv (znum σ) ls) (hv2 : zVv (znum σ) st) (hc : cells + zcc σ' ≤ R.cells + zcc σ) (hsl : slots + zcs σ' ≤ R.slots + zcs σ) (k : zCont p l e R s m args below meth c Q A H0 D (zKmax K) (znum σ) (zcc σ) (zcs σ) cells slots ad pc' ls' st' σ') : W p l e R s m args below meth c H locs cells slots Q (F0 m pc lsA (st.map (zv ad))) := by
  obtain ⟨hx, hb, hml, hown, hts, hini, hfr, hlo, hA, hbl, hbA⟩ := C
  have kk : ∀ {lsA' : Array Slot}, σ' = σ → zLs ad lsA' (zKmax K) ls' → zVv (znum σ) ls' → zVv (znum σ) st' → W p l e R s m args below meth c H locs cells slots Q (F0 m pc' lsA' (st'.map (zv ad))) := by
    intro lsA' he h1 h2 h3
    subst he
    exact k ad ca H locs cells slots lsA' (fun _ _ => rfl) hW h1 h2 h3 rfl rfl
  obtain rfl : n = 1 := by simpa [zilen] using hn
  obtain ⟨x, h1, rfl, rfl, rfl, rfl⟩ := zldL_eq (show zldL pc 1 k0 ls st σ = _ from hs)
  exact lv_lload_n hx hb hd rfl (hL.2.2.2 _ _ h1 (by simp)) (kk rfl hL hv1 (zVv_cons.mpr ⟨trivial, hv2⟩))

theorem zn_lload {k0 : Nat} (hd : decode (zKcode K) pc = .ok (.lload k0, n)) (hn : (n == zilen (.lload k0) || zilen (.lload k0) == 0) = true) (hs : zstep K (.lload k0) n d pc ls st σ = some (.inl (pc', ls', st', σ'))) (C : zCx p R s m args meth c K d A H0 (ad 0)) (hW : zWd D ad ca σ s A H0 H locs) (hL : zLs ad lsA (zKmax K) ls) (hv1 : zVv (znum σ) ls) (hv2 : zVv (znum σ) st) (hc : cells + zcc σ' ≤ R.cells + zcc σ) (hsl : slots + zcs σ' ≤ R.slots + zcs σ) (k : zCont p l e R s m args below meth c Q A H0 D (zKmax K) (znum σ) (zcc σ) (zcs σ) cells slots ad pc' ls' st' σ') : W p l e R s m args below meth c H locs cells slots Q (F0 m pc lsA (st.map (zv ad))) := by
  obtain ⟨hx, hb, hml, hown, hts, hini, hfr, hlo, hA, hbl, hbA⟩ := C
  have kk : ∀ {lsA' : Array Slot}, σ' = σ → zLs ad lsA' (zKmax K) ls' → zVv (znum σ) ls' → zVv (znum σ) st' → W p l e R s m args below meth c H locs cells slots Q (F0 m pc' lsA' (st'.map (zv ad))) := by
    intro lsA' he h1 h2 h3
    subst he
    exact k ad ca H locs cells slots lsA' (fun _ _ => rfl) hW h1 h2 h3 rfl rfl
  obtain rfl : n = 2 := by simpa [zilen] using hn
  obtain ⟨x, h1, rfl, rfl, rfl, rfl⟩ := zldL_eq (show zldL pc 2 k0 ls st σ = _ from hs)
  exact lv_lload hx hb hd (hL.2.2.2 _ _ h1 (by simp)) (kk rfl hL hv1 (zVv_cons.mpr ⟨trivial, hv2⟩))

theorem zn_aload_n {k0 : Fin 4} (hd : decode (zKcode K) pc = .ok (.aload_n k0, n)) (hn : (n == zilen (.aload_n k0) || zilen (.aload_n k0) == 0) = true) (hs : zstep K (.aload_n k0) n d pc ls st σ = some (.inl (pc', ls', st', σ'))) (C : zCx p R s m args meth c K d A H0 (ad 0)) (hW : zWd D ad ca σ s A H0 H locs) (hL : zLs ad lsA (zKmax K) ls) (hv1 : zVv (znum σ) ls) (hv2 : zVv (znum σ) st) (hc : cells + zcc σ' ≤ R.cells + zcc σ) (hsl : slots + zcs σ' ≤ R.slots + zcs σ) (k : zCont p l e R s m args below meth c Q A H0 D (zKmax K) (znum σ) (zcc σ) (zcs σ) cells slots ad pc' ls' st' σ') : W p l e R s m args below meth c H locs cells slots Q (F0 m pc lsA (st.map (zv ad))) := by
  obtain ⟨hx, hb, hml, hown, hts, hini, hfr, hlo, hA, hbl, hbA⟩ := C
  have kk : ∀ {lsA' : Array Slot}, σ' = σ → zLs ad lsA' (zKmax K) ls' → zVv (znum σ) ls' → zVv (znum σ) st' → W p l e R s m args below meth c H locs cells slots Q (F0 m pc' lsA' (st'.map (zv ad))) := by
    intro lsA' he h1 h2 h3
    subst he
    exact k ad ca H locs cells slots lsA' (fun _ _ => rfl) hW h1 h2 h3 rfl rfl
  obtain rfl : n = 1 := by simpa [zilen] using hn
  rcases zldA_eq (show zldA pc 1 k0 ls st σ = _ from hs) with ⟨x, h1, rfl, rfl, rfl, rfl⟩ | ⟨h1, rfl, rfl, rfl, rfl⟩
  · exact lv_aload_n hx hb hd rfl (hL.2.2.2 _ _ h1 (by simp)) (kk rfl hL hv1 (zVv_cons.mpr ⟨zVv_get hv1 h1, hv2⟩))
  · exact lv_aload_nN hx hb hd rfl (hL.2.2.2 _ _ h1 (by simp)) (kk rfl hL hv1 (zVv_cons.mpr ⟨trivial, hv2⟩))

theorem zn_aload {k0 : Nat} (hd : decode (zKcode K) pc = .ok (.aload k0, n)) (hn : (n == zilen (.aload k0) || zilen (.aload k0) == 0) = true) (hs : zstep K (.aload k0) n d pc ls st σ = some (.inl (pc', ls', st', σ'))) (C : zCx p R s m args meth c K d A H0 (ad 0)) (hW : zWd D ad ca σ s A H0 H locs) (hL : zLs ad lsA (zKmax K) ls) (hv1 : zVv (znum σ) ls) (hv2 : zVv (znum σ) st) (hc : cells + zcc σ' ≤ R.cells + zcc σ) (hsl : slots + zcs σ' ≤ R.slots + zcs σ) (k : zCont p l e R s m args below meth c Q A H0 D (zKmax K) (znum σ) (zcc σ) (zcs σ) cells slots ad pc' ls' st' σ') : W p l e R s m args below meth c H locs cells slots Q (F0 m pc lsA (st.map (zv ad))) := by
  obtain ⟨hx, hb, hml, hown, hts, hini, hfr, hlo, hA, hbl, hbA⟩ := C
  have kk : ∀ {lsA' : Array Slot}, σ' = σ → zLs ad lsA' (zKmax K) ls' → zVv (znum σ) ls' → zVv (znum σ) st' → W p l e R s m args below meth c H locs cells slots Q (F0 m pc' lsA' (st'.map (zv ad))) := by
    intro lsA' he h1 h2 h3
    subst he
    exact k ad ca H locs cells slots lsA' (fun _ _ => rfl) hW h1 h2 h3 rfl rfl
  obtain rfl : n = 2 := by simpa [zilen] using hn
  rcases zldA_eq (show zldA pc 2 k0 ls st σ = _ from hs) with ⟨x, h1, rfl, rfl, rfl, rfl⟩ | ⟨h1, rfl, rfl, rfl, rfl⟩
  · exact lv_aload hx hb hd (hL.2.2.2 _ _ h1 (by simp)) (kk rfl hL hv1 (zVv_cons.mpr ⟨zVv_get hv1 h1, hv2⟩))
  · exact lv_aloadN hx hb hd (hL.2.2.2 _ _ h1 (by simp)) (kk rfl hL hv1 (zVv_cons.mpr ⟨trivial, hv2⟩))

theorem zn_istore_n {k0 : Fin 4} (hd : decode (zKcode K) pc = .ok (.istore_n k0, n)) (hn : (n == zilen (.istore_n k0) || zilen (.istore_n k0) == 0) = true) (hs : zstep K (.istore_n k0) n d pc ls st σ = some (.inl (pc', ls', st', σ'))) (C : zCx p R s m args meth c K d A H0 (ad 0)) (hW : zWd D ad ca σ s A H0 H locs) (hL : zLs ad lsA (zKmax K) ls) (hv1 : zVv (znum σ) ls) (hv2 : zVv (znum σ) st) (hc : cells + zcc σ' ≤ R.cells + zcc σ) (hsl : slots + zcs σ' ≤ R.slots + zcs σ) (k : zCont p l e R s m args below meth c Q A H0 D (zKmax K) (znum σ) (zcc σ) (zcs σ) cells slots ad pc' ls' st' σ') : W p l e R s m args below meth c H locs cells slots Q (F0 m pc lsA (st.map (zv ad))) := by
  obtain ⟨hx, hb, hml, hown, hts, hini, hfr, hlo, hA, hbl, hbA⟩ := C
  have kk : ∀ {lsA' : Array Slot}, σ' = σ → zLs ad lsA' (zKmax K) ls' → zVv (znum σ) ls' → zVv (znum σ) st' → W p l e R s m args below meth c H locs cells slots Q (F0 m pc' lsA' (st'.map (zv ad))) := by
    intro lsA' he h1 h2 h3
    subst he
    exact k ad ca H locs cells slots lsA' (fun _ _ => rfl) hW h1 h2 h3 rfl rfl
  obtain rfl : n = 1 := by simpa [zilen] using hn
  obtain ⟨x, r, rfl, h1, rfl, rfl, rfl⟩ := zst_eq (show zst pc 1 k0 ls st σ = _ from hs)
  obtain ⟨h2, h3⟩ := zset_lt h1
  obtain ⟨ha, hr⟩ := zVv_cons.mp hv2
  exact lv_istore_n (lv := zlv ad ls) hx hb hd rfl hL.has (by rw [← hL.2.2.1]; exact h2) rfl (fun lsA' hl' => kk rfl (zLs.store (v := .int x) hL.2.2.1 h1 (by simp) hl') (by rw [h3]; exact zVv_set hv1 ha) hr)

theorem zn_istore {k0 : Nat} (hd : decode (zKcode K) pc = .ok (.istore k0, n)) (hn : (n == zilen (.istore k0) || zilen (.istore k0) == 0) = true) (hs : zstep K (.istore k0) n d pc ls st σ = some (.inl (pc', ls', st', σ'))) (C : zCx p R s m args meth c K d A H0 (ad 0)) (hW : zWd D ad ca σ s A H0 H locs) (hL : zLs ad lsA (zKmax K) ls) (hv1 : zVv (znum σ) ls) (hv2 : zVv (znum σ) st) (hc : cells + zcc σ' ≤ R.cells + zcc σ) (hsl : slots + zcs σ' ≤ R.slots + zcs σ) (k : zCont p l e R s m args below meth c Q A H0 D (zKmax K) (znum σ) (zcc σ) (zcs σ) cells slots ad pc' ls' st' σ') : W p l e R s m args below meth c H locs cells slots Q (F0 m pc lsA (st.map (zv ad))) := by
  obtain ⟨hx, hb, hml, hown, hts, hini, hfr, hlo, hA, hbl, hbA⟩ := C
  have kk : ∀ {lsA' : Array Slot}, σ' = σ → zLs ad lsA' (zKmax K) ls' → zVv (znum σ) ls' → zVv (znum σ) st' → W p l e R s m args below meth c H locs cells slots Q (F0 m pc' lsA' (st'.map (zv ad))) := by
    intro lsA' he h1 h2 h3
    subst he
    exact k ad ca H locs cells slots lsA' (fun _ _ => rfl) hW h1 h2 h3 rfl rfl
  obtain rfl : n = 2 := by simpa [zilen] using hn
  obtain ⟨x, r, rfl, h1, rfl, rfl, rfl⟩ := zst_eq (show zst pc 2 k0 ls st σ = _ from hs)
  obtain ⟨h2, h3⟩ := zset_lt h1
  obtain ⟨ha, hr⟩ := zVv_cons.mp hv2
  exact lv_istore (lv := zlv ad ls) hx hb hd hL.has (by rw [← hL.2.2.1]; exact h2) rfl (fun lsA' hl' => kk rfl (zLs.store (v := .int x) hL.2.2.1 h1 (by simp) hl') (by rw [h3]; exact zVv_set hv1 ha) hr)

theorem zn_astore_n {k0 : Fin 4} (hd : decode (zKcode K) pc = .ok (.astore_n k0, n)) (hn : (n == zilen (.astore_n k0) || zilen (.astore_n k0) == 0) = true) (hs : zstep K (.astore_n k0) n d pc ls st σ = some (.inl (pc', ls', st', σ'))) (C : zCx p R s m args meth c K d A H0 (ad 0)) (hW : zWd D ad ca σ s A H0 H locs) (hL : zLs ad lsA (zKmax K) ls) (hv1 : zVv (znum σ) ls) (hv2 : zVv (znum σ) st) (hc : cells + zcc σ' ≤ R.cells + zcc σ) (hsl : slots + zcs σ' ≤ R.slots + zcs σ) (k : zCont p l e R s m args below meth c Q A H0 D (zKmax K) (znum σ) (zcc σ) (zcs σ) cells slots ad pc' ls' st' σ') : W p l e R s m args below meth c H locs cells slots Q (F0 m pc lsA (st.map (zv ad))) := by
  obtain ⟨hx, hb, hml, hown, hts, hini, hfr, hlo, hA, hbl, hbA⟩ := C
  have kk : ∀ {lsA' : Array Slot}, σ' = σ → zLs ad lsA' (zKmax K) ls' → zVv (znum σ) ls' → zVv (znum σ) st' → W p l e R s m args below meth c H locs cells slots Q (F0 m pc' lsA' (st'.map (zv ad))) := by
    intro lsA' he h1 h2 h3
    subst he
    exact k ad ca H locs cells slots lsA' (fun _ _ => rfl) hW h1 h2 h3 rfl rfl
  obtain rfl : n = 1 := by simpa [zilen] using hn
  obtain ⟨x, r, rfl, h1, rfl, rfl, rfl⟩ := zstA_eq (show zstA pc 1 k0 ls st σ = _ from hs)
  obtain ⟨h2, h3⟩ := zset_lt h1
  obtain ⟨ha, hr⟩ := zVv_cons.mp hv2
  exact lv_astore_n (lv := zlv ad ls) hx hb hd rfl hL.has (by rw [← hL.2.2.1]; exact h2) rfl (fun lsA' hl' => kk rfl (zLs.store (v := .ref x) hL.2.2.1 h1 (by simp) hl') (by rw [h3]; exact zVv_set hv1 ha) hr)

theorem zn_astore {k0 : Nat} (hd : decode (zKcode K) pc = .ok (.astore k0, n)) (hn : (n == zilen (.astore k0) || zilen (.astore k0) == 0) = true) (hs : zstep K (.astore k0) n d pc ls st σ = some (.inl (pc', ls', st', σ'))) (C : zCx p R s m args meth c K d A H0 (ad 0)) (hW : zWd D ad ca σ s A H0 H locs) (hL : zLs ad lsA (zKmax K) ls) (hv1 : zVv (znum σ) ls) (hv2 : zVv (znum σ) st) (hc : cells + zcc σ' ≤ R.cells + zcc σ) (hsl : slots + zcs σ' ≤ R.slots + zcs σ) (k : zCont p l e R s m args below meth c Q A H0 D (zKmax K) (znum σ) (zcc σ) (zcs σ) cells slots ad pc' ls' st' σ') : W p l e R s m args below meth c H locs cells slots Q (F0 m pc lsA (st.map (zv ad))) := by
  obtain ⟨hx, hb, hml, hown, hts, hini, hfr, hlo, hA, hbl, hbA⟩ := C
  have kk : ∀ {lsA' : Array Slot}, σ' = σ → zLs ad lsA' (zKmax K) ls' → zVv (znum σ) ls' → zVv (znum σ) st' → W p l e R s m args below meth c H locs cells slots Q (F0 m pc' lsA' (st'.map (zv ad))) := by
    intro lsA' he h1 h2 h3
    subst he
    exact k ad ca H locs cells slots lsA' (fun _ _ => rfl) hW h1 h2 h3 rfl rfl
  obtain rfl : n = 2 := by simpa [zilen] using hn
  obtain ⟨x, r, rfl, h1, rfl, rfl, rfl⟩ := zstA_eq (show zstA pc 2 k0 ls st σ = _ from hs)
  obtain ⟨h2, h3⟩ := zset_lt h1
  obtain ⟨ha, hr⟩ := zVv_cons.mp hv2
  exact lv_astore (lv := zlv ad ls) hx hb hd hL.has (by rw [← hL.2.2.1]; exact h2) rfl (fun lsA' hl' => kk rfl (zLs.store (v := .ref x) hL.2.2.1 h1 (by simp) hl') (by rw [h3]; exact zVv_set hv1 ha) hr)

theorem zn_iconst {v : Int} (hd : decode (zKcode K) pc = .ok (.iconst v, n)) (hn : (n == zilen (.iconst v) || zilen (.iconst v) == 0) = true) (hs : zstep K (.iconst v) n d pc ls st σ = some (.inl (pc', ls', st', σ'))) (C : zCx p R s m args meth c K d A H0 (ad 0)) (hW : zWd D ad ca σ s A H0 H locs) (hL : zLs ad lsA (zKmax K) ls) (hv1 : zVv (znum σ) ls) (hv2 : zVv (znum σ) st) (hc : cells + zcc σ' ≤ R.cells + zcc σ) (hsl : slots + zcs σ' ≤ R.slots + zcs σ) (k : zCont p l e R s m args below meth c Q A H0 D (zKmax K) (znum σ) (zcc σ) (zcs σ) cells slots ad pc' ls' st' σ') : W p l e R s m args below meth c H locs cells slots Q (F0 m pc lsA (st.map (zv ad))) := by
  obtain ⟨hx, hb, hml, hown, hts, hini, hfr, hlo, hA, hbl, hbA⟩ := C
  have kk : ∀ {lsA' : Array Slot}, σ' = σ → zLs ad lsA' (zKmax K) ls' → zVv (znum σ) ls' → zVv (znum σ) st' → W p l e R s m args below meth c H locs cells slots Q (F0 m pc' lsA' (st'.map (zv ad))) := by
    intro lsA' he h1 h2 h3
    subst he
    exact k ad ca H locs cells slots lsA' (fun _ _ => rfl) hW h1 h2 h3 rfl rfl
  obtain rfl : n = 1 := by simpa [zilen] using hn
  obtain ⟨rfl, rfl, rfl, rfl⟩ := zgo_eq (show zgo (pc + 1) ls (.int (Int32.ofInt v) :: st) σ = _ from hs)
  exact lv_iconst hx hb hd rfl (kk rfl hL hv1 (zVv_cons.mpr ⟨trivial, hv2⟩))

theorem zn_bipush {v : Int} (hd : decode (zKcode K) pc = .ok (.bipush v, n)) (hn : (n == zilen (.bipush v) || zilen (.bipush v) == 0) = true) (hs : zstep K (.bipush v) n d pc ls st σ = some (.inl (pc', ls', st', σ'))) (C : zCx p R s m args meth c K d A H0 (ad 0)) (hW : zWd D ad ca σ s A H0 H locs) (hL : zLs ad lsA (zKmax K) ls) (hv1 : zVv (znum σ) ls) (hv2 : zVv (znum σ) st) (hc : cells + zcc σ' ≤ R.cells + zcc σ) (hsl : slots + zcs σ' ≤ R.slots + zcs σ) (k : zCont p l e R s m args below meth c Q A H0 D (zKmax K) (znum σ) (zcc σ) (zcs σ) cells slots ad pc' ls' st' σ') : W p l e R s m args below meth c H locs cells slots Q (F0 m pc lsA (st.map (zv ad))) := by
  obtain ⟨hx, hb, hml, hown, hts, hini, hfr, hlo, hA, hbl, hbA⟩ := C
  have kk : ∀ {lsA' : Array Slot}, σ' = σ → zLs ad lsA' (zKmax K) ls' → zVv (znum σ) ls' → zVv (znum σ) st' → W p l e R s m args below meth c H locs cells slots Q (F0 m pc' lsA' (st'.map (zv ad))) := by
    intro lsA' he h1 h2 h3
    subst he
    exact k ad ca H locs cells slots lsA' (fun _ _ => rfl) hW h1 h2 h3 rfl rfl
  obtain rfl : n = 2 := by simpa [zilen] using hn
  obtain ⟨rfl, rfl, rfl, rfl⟩ := zgo_eq (show zgo (pc + 2) ls (.int (Int8.ofInt v).toInt32 :: st) σ = _ from hs)
  exact lv_bipush hx hb hd rfl (kk rfl hL hv1 (zVv_cons.mpr ⟨trivial, hv2⟩))

theorem zn_sipush {v : Int} (hd : decode (zKcode K) pc = .ok (.sipush v, n)) (hn : (n == zilen (.sipush v) || zilen (.sipush v) == 0) = true) (hs : zstep K (.sipush v) n d pc ls st σ = some (.inl (pc', ls', st', σ'))) (C : zCx p R s m args meth c K d A H0 (ad 0)) (hW : zWd D ad ca σ s A H0 H locs) (hL : zLs ad lsA (zKmax K) ls) (hv1 : zVv (znum σ) ls) (hv2 : zVv (znum σ) st) (hc : cells + zcc σ' ≤ R.cells + zcc σ) (hsl : slots + zcs σ' ≤ R.slots + zcs σ) (k : zCont p l e R s m args below meth c Q A H0 D (zKmax K) (znum σ) (zcc σ) (zcs σ) cells slots ad pc' ls' st' σ') : W p l e R s m args below meth c H locs cells slots Q (F0 m pc lsA (st.map (zv ad))) := by
  obtain ⟨hx, hb, hml, hown, hts, hini, hfr, hlo, hA, hbl, hbA⟩ := C
  have kk : ∀ {lsA' : Array Slot}, σ' = σ → zLs ad lsA' (zKmax K) ls' → zVv (znum σ) ls' → zVv (znum σ) st' → W p l e R s m args below meth c H locs cells slots Q (F0 m pc' lsA' (st'.map (zv ad))) := by
    intro lsA' he h1 h2 h3
    subst he
    exact k ad ca H locs cells slots lsA' (fun _ _ => rfl) hW h1 h2 h3 rfl rfl
  obtain rfl : n = 3 := by simpa [zilen] using hn
  obtain ⟨rfl, rfl, rfl, rfl⟩ := zgo_eq (show zgo (pc + 3) ls (.int (Int16.ofInt v).toInt32 :: st) σ = _ from hs)
  exact lv_sipush hx hb hd rfl (kk rfl hL hv1 (zVv_cons.mpr ⟨trivial, hv2⟩))

theorem zn_lconst {v : Fin 2} (hd : decode (zKcode K) pc = .ok (.lconst v, n)) (hn : (n == zilen (.lconst v) || zilen (.lconst v) == 0) = true) (hs : zstep K (.lconst v) n d pc ls st σ = some (.inl (pc', ls', st', σ'))) (C : zCx p R s m args meth c K d A H0 (ad 0)) (hW : zWd D ad ca σ s A H0 H locs) (hL : zLs ad lsA (zKmax K) ls) (hv1 : zVv (znum σ) ls) (hv2 : zVv (znum σ) st) (hc : cells + zcc σ' ≤ R.cells + zcc σ) (hsl : slots + zcs σ' ≤ R.slots + zcs σ) (k : zCont p l e R s m args below meth c Q A H0 D (zKmax K) (znum σ) (zcc σ) (zcs σ) cells slots ad pc' ls' st' σ') : W p l e R s m args below meth c H locs cells slots Q (F0 m pc lsA (st.map (zv ad))) := by
  obtain ⟨hx, hb, hml, hown, hts, hini, hfr, hlo, hA, hbl, hbA⟩ := C
  have kk : ∀ {lsA' : Array Slot}, σ' = σ → zLs ad lsA' (zKmax K) ls' → zVv (znum σ) ls' → zVv (znum σ) st' → W p l e R s m args below meth c H locs cells slots Q (F0 m pc' lsA' (st'.map (zv ad))) := by
    intro lsA' he h1 h2 h3
    subst he
    exact k ad ca H locs cells slots lsA' (fun _ _ => rfl) hW h1 h2 h3 rfl rfl
  obtain rfl : n = 1 := by simpa [zilen] using hn
  obtain ⟨rfl, rfl, rfl, rfl⟩ := zgo_eq (show zgo (pc + 1) ls (.long (Int64.ofNat (v : Nat)) :: st) σ = _ from hs)
  exact lv_lconst hx hb hd rfl (kk rfl hL hv1 (zVv_cons.mpr ⟨trivial, hv2⟩))

theorem zn_aconst_null  (hd : decode (zKcode K) pc = .ok (.aconst_null, n)) (hn : (n == zilen (.aconst_null) || zilen (.aconst_null) == 0) = true) (hs : zstep K (.aconst_null) n d pc ls st σ = some (.inl (pc', ls', st', σ'))) (C : zCx p R s m args meth c K d A H0 (ad 0)) (hW : zWd D ad ca σ s A H0 H locs) (hL : zLs ad lsA (zKmax K) ls) (hv1 : zVv (znum σ) ls) (hv2 : zVv (znum σ) st) (hc : cells + zcc σ' ≤ R.cells + zcc σ) (hsl : slots + zcs σ' ≤ R.slots + zcs σ) (k : zCont p l e R s m args below meth c Q A H0 D (zKmax K) (znum σ) (zcc σ) (zcs σ) cells slots ad pc' ls' st' σ') : W p l e R s m args below meth c H locs cells slots Q (F0 m pc lsA (st.map (zv ad))) := by
  obtain ⟨hx, hb, hml, hown, hts, hini, hfr, hlo, hA, hbl, hbA⟩ := C
  have kk : ∀ {lsA' : Array Slot}, σ' = σ → zLs ad lsA' (zKmax K) ls' → zVv (znum σ) ls' → zVv (znum σ) st' → W p l e R s m args below meth c H locs cells slots Q (F0 m pc' lsA' (st'.map (zv ad))) := by
    intro lsA' he h1 h2 h3
    subst he
    exact k ad ca H locs cells slots lsA' (fun _ _ => rfl) hW h1 h2 h3 rfl rfl
  obtain rfl : n = 1 := by simpa [zilen] using hn
  obtain ⟨rfl, rfl, rfl, rfl⟩ := zgo_eq (show zgo (pc + 1) ls (.null :: st) σ = _ from hs)
  exact lv_null hx hb hd (kk rfl hL hv1 (zVv_cons.mpr ⟨trivial, hv2⟩))

theorem zn_ldc {k0 : Nat} (hd : decode (zKcode K) pc = .ok (.ldc k0, n)) (hn : (n == zilen (.ldc k0) || zilen (.ldc k0) == 0) = true) (hs : zstep K (.ldc k0) n d pc ls st σ = some (.inl (pc', ls', st', σ'))) (C : zCx p R s m args meth c K d A H0 (ad 0)) (hW : zWd D ad ca σ s A H0 H locs) (hL : zLs ad lsA (zKmax K) ls) (hv1 : zVv (znum σ) ls) (hv2 : zVv (znum σ) st) (hc : cells + zcc σ' ≤ R.cells + zcc σ) (hsl : slots + zcs σ' ≤ R.slots + zcs σ) (k : zCont p l e R s m args below meth c Q A H0 D (zKmax K) (znum σ) (zcc σ) (zcs σ) cells slots ad pc' ls' st' σ') : W p l e R s m args below meth c H locs cells slots Q (F0 m pc lsA (st.map (zv ad))) := by
  obtain ⟨hx, hb, hml, hown, hts, hini, hfr, hlo, hA, hbl, hbA⟩ := C
  have kk : ∀ {lsA' : Array Slot}, σ' = σ → zLs ad lsA' (zKmax K) ls' → zVv (znum σ) ls' → zVv (znum σ) st' → W p l e R s m args below meth c H locs cells slots Q (F0 m pc' lsA' (st'.map (zv ad))) := by
    intro lsA' he h1 h2 h3
    subst he
    exact k ad ca H locs cells slots lsA' (fun _ _ => rfl) hW h1 h2 h3 rfl rfl
  obtain rfl : n = 2 := by simpa [zilen] using hn
  replace hs : (match zcon (zKci K) k0 with | some v => zgo (pc + 2) ls (.int v :: st) σ | none => none) = some (.inl (pc', ls', st', σ')) := hs
  split at hs
  · rename_i v hv
    obtain ⟨rfl, rfl, rfl, rfl⟩ := zgo_eq hs
    exact lv_ldc hx hb hown (hts _ (zcon_ok hv)) hd (kk rfl hL hv1 (zVv_cons.mpr ⟨trivial, hv2⟩))
  · cases hs

theorem zn_ldc_w {k0 : Nat} (hd : decode (zKcode K) pc = .ok (.ldc_w k0, n)) (hn : (n == zilen (.ldc_w k0) || zilen (.ldc_w k0) == 0) = true) (hs : zstep K (.ldc_w k0) n d pc ls st σ = some (.inl (pc', ls', st', σ'))) (C : zCx p R s m args meth c K d A H0 (ad 0)) (hW : zWd D ad ca σ s A H0 H locs) (hL : zLs ad lsA (zKmax K) ls) (hv1 : zVv (znum σ) ls) (hv2 : zVv (znum σ) st) (hc : cells + zcc σ' ≤ R.cells + zcc σ) (hsl : slots + zcs σ' ≤ R.slots + zcs σ) (k : zCont p l e R s m args below meth c Q A H0 D (zKmax K) (znum σ) (zcc σ) (zcs σ) cells slots ad pc' ls' st' σ') : W p l e R s m args below meth c H locs cells slots Q (F0 m pc lsA (st.map (zv ad))) := by
  obtain ⟨hx, hb, hml, hown, hts, hini, hfr, hlo, hA, hbl, hbA⟩ := C
  have kk : ∀ {lsA' : Array Slot}, σ' = σ → zLs ad lsA' (zKmax K) ls' → zVv (znum σ) ls' → zVv (znum σ) st' → W p l e R s m args below meth c H locs cells slots Q (F0 m pc' lsA' (st'.map (zv ad))) := by
    intro lsA' he h1 h2 h3
    subst he
    exact k ad ca H locs cells slots lsA' (fun _ _ => rfl) hW h1 h2 h3 rfl rfl
  obtain rfl : n = 3 := by simpa [zilen] using hn
  replace hs : (match zcon (zKci K) k0 with | some v => zgo (pc + 3) ls (.int v :: st) σ | none => none) = some (.inl (pc', ls', st', σ')) := hs
  split at hs
  · rename_i v hv
    obtain ⟨rfl, rfl, rfl, rfl⟩ := zgo_eq hs
    exact lv_ldcw hx hb hown (hts _ (zcon_ok hv)) hd (kk rfl hL hv1 (zVv_cons.mpr ⟨trivial, hv2⟩))
  · cases hs

theorem zn_ldc2_w {k0 : Nat} (hd : decode (zKcode K) pc = .ok (.ldc2_w k0, n)) (hn : (n == zilen (.ldc2_w k0) || zilen (.ldc2_w k0) == 0) = true) (hs : zstep K (.ldc2_w k0) n d pc ls st σ = some (.inl (pc', ls', st', σ'))) (C : zCx p R s m args meth c K d A H0 (ad 0)) (hW : zWd D ad ca σ s A H0 H locs) (hL : zLs ad lsA (zKmax K) ls) (hv1 : zVv (znum σ) ls) (hv2 : zVv (znum σ) st) (hc : cells + zcc σ' ≤ R.cells + zcc σ) (hsl : slots + zcs σ' ≤ R.slots + zcs σ) (k : zCont p l e R s m args below meth c Q A H0 D (zKmax K) (znum σ) (zcc σ) (zcs σ) cells slots ad pc' ls' st' σ') : W p l e R s m args below meth c H locs cells slots Q (F0 m pc lsA (st.map (zv ad))) := by
  obtain ⟨hx, hb, hml, hown, hts, hini, hfr, hlo, hA, hbl, hbA⟩ := C
  have kk : ∀ {lsA' : Array Slot}, σ' = σ → zLs ad lsA' (zKmax K) ls' → zVv (znum σ) ls' → zVv (znum σ) st' → W p l e R s m args below meth c H locs cells slots Q (F0 m pc' lsA' (st'.map (zv ad))) := by
    intro lsA' he h1 h2 h3
    subst he
    exact k ad ca H locs cells slots lsA' (fun _ _ => rfl) hW h1 h2 h3 rfl rfl
  obtain rfl : n = 3 := by simpa [zilen] using hn
  replace hs : (match zconL (zKci K) k0 with | some v => zgo (pc + 3) ls (.long v :: st) σ | none => none) = some (.inl (pc', ls', st', σ')) := hs
  split at hs
  · rename_i v hv
    obtain ⟨rfl, rfl, rfl, rfl⟩ := zgo_eq hs
    exact lv_ldc2 hx hb hown (hts _ (zconL_ok hv)) hd (kk rfl hL hv1 (zVv_cons.mpr ⟨trivial, hv2⟩))
  · cases hs

theorem zn_iinc {k0 : Nat} {v : Int} (hd : decode (zKcode K) pc = .ok (.iinc k0 v, n)) (hn : (n == zilen (.iinc k0 v) || zilen (.iinc k0 v) == 0) = true) (hs : zstep K (.iinc k0 v) n d pc ls st σ = some (.inl (pc', ls', st', σ'))) (C : zCx p R s m args meth c K d A H0 (ad 0)) (hW : zWd D ad ca σ s A H0 H locs) (hL : zLs ad lsA (zKmax K) ls) (hv1 : zVv (znum σ) ls) (hv2 : zVv (znum σ) st) (hc : cells + zcc σ' ≤ R.cells + zcc σ) (hsl : slots + zcs σ' ≤ R.slots + zcs σ) (k : zCont p l e R s m args below meth c Q A H0 D (zKmax K) (znum σ) (zcc σ) (zcs σ) cells slots ad pc' ls' st' σ') : W p l e R s m args below meth c H locs cells slots Q (F0 m pc lsA (st.map (zv ad))) := by
  obtain ⟨hx, hb, hml, hown, hts, hini, hfr, hlo, hA, hbl, hbA⟩ := C
  have kk : ∀ {lsA' : Array Slot}, σ' = σ → zLs ad lsA' (zKmax K) ls' → zVv (znum σ) ls' → zVv (znum σ) st' → W p l e R s m args below meth c H locs cells slots Q (F0 m pc' lsA' (st'.map (zv ad))) := by
    intro lsA' he h1 h2 h3
    subst he
    exact k ad ca H locs cells slots lsA' (fun _ _ => rfl) hW h1 h2 h3 rfl rfl
  obtain rfl : n = 3 := by simpa [zilen] using hn
  replace hs : (match ls[k0]? with
    | some (.int x) => (match zset ls k0 (.int (x + Int32.ofInt v)) with | some ls' => zgo (pc + 3) ls' st σ | none => none)
    | _ => none) = some (.inl (pc', ls', st', σ')) := hs
  split at hs
  · rename_i x hx2
    split at hs
    · rename_i lsN hz
      obtain ⟨rfl, rfl, rfl, rfl⟩ := zgo_eq hs
      obtain ⟨h2, h3⟩ := zset_lt hz
      obtain ⟨kx, hkx⟩ := List.mem_iff_getElem?.mp (zlv_mem.mpr ⟨_, hx2, by simp, rfl⟩ : (k0, zv ad (.int x)) ∈ zlv ad ls)
      exact lv_iinc (lv := zlv ad ls) hx hb hd hL.has hkx rfl (by rw [← hL.2.2.1]; exact h2) rfl (fun lsA' hl' => kk rfl (zLs.store (v := .int (x + Int32.ofInt v)) hL.2.2.1 hz (by simp) hl') (by rw [h3]; exact zVv_set hv1 trivial) hv2)
    · cases hs
  · cases hs

theorem zn_iadd  (hd : decode (zKcode K) pc = .ok (.iadd, n)) (hn : (n == zilen (.iadd) || zilen (.iadd) == 0) = true) (hs : zstep K (.iadd) n d pc ls st σ = some (.inl (pc', ls', st', σ'))) (C : zCx p R s m args meth c K d A H0 (ad 0)) (hW : zWd D ad ca σ s A H0 H locs) (hL : zLs ad lsA (zKmax K) ls) (hv1 : zVv (znum σ) ls) (hv2 : zVv (znum σ) st) (hc : cells + zcc σ' ≤ R.cells + zcc σ) (hsl : slots + zcs σ' ≤ R.slots + zcs σ) (k : zCont p l e R s m args below meth c Q A H0 D (zKmax K) (znum σ) (zcc σ) (zcs σ) cells slots ad pc' ls' st' σ') : W p l e R s m args below meth c H locs cells slots Q (F0 m pc lsA (st.map (zv ad))) := by
  obtain ⟨hx, hb, hml, hown, hts, hini, hfr, hlo, hA, hbl, hbA⟩ := C
  have kk : ∀ {lsA' : Array Slot}, σ' = σ → zLs ad lsA' (zKmax K) ls' → zVv (znum σ) ls' → zVv (znum σ) st' → W p l e R s m args below meth c H locs cells slots Q (F0 m pc' lsA' (st'.map (zv ad))) := by
    intro lsA' he h1 h2 h3
    subst he
    exact k ad ca H locs cells slots lsA' (fun _ _ => rfl) hW h1 h2 h3 rfl rfl
  obtain rfl : n = 1 := by simpa [zilen] using hn
  obtain ⟨x, y, r, rfl, rfl, rfl, rfl, rfl⟩ := zbin_eq (show zbin (fun x y => x + y) pc ls st σ = _ from hs)
  exact lv_iadd hx hb hd (kk rfl hL hv1 (zVv_cons.mpr ⟨trivial, (zVv_cons.mp (zVv_cons.mp hv2).2).2⟩))

theorem zn_isub  (hd : decode (zKcode K) pc = .ok (.isub, n)) (hn : (n == zilen (.isub) || zilen (.isub) == 0) = true) (hs : zstep K (.isub) n d pc ls st σ = some (.inl (pc', ls', st', σ'))) (C : zCx p R s m args meth c K d A H0 (ad 0)) (hW : zWd D ad ca σ s A H0 H locs) (hL : zLs ad lsA (zKmax K) ls) (hv1 : zVv (znum σ) ls) (hv2 : zVv (znum σ) st) (hc : cells + zcc σ' ≤ R.cells + zcc σ) (hsl : slots + zcs σ' ≤ R.slots + zcs σ) (k : zCont p l e R s m args below meth c Q A H0 D (zKmax K) (znum σ) (zcc σ) (zcs σ) cells slots ad pc' ls' st' σ') : W p l e R s m args below meth c H locs cells slots Q (F0 m pc lsA (st.map (zv ad))) := by
  obtain ⟨hx, hb, hml, hown, hts, hini, hfr, hlo, hA, hbl, hbA⟩ := C
  have kk : ∀ {lsA' : Array Slot}, σ' = σ → zLs ad lsA' (zKmax K) ls' → zVv (znum σ) ls' → zVv (znum σ) st' → W p l e R s m args below meth c H locs cells slots Q (F0 m pc' lsA' (st'.map (zv ad))) := by
    intro lsA' he h1 h2 h3
    subst he
    exact k ad ca H locs cells slots lsA' (fun _ _ => rfl) hW h1 h2 h3 rfl rfl
  obtain rfl : n = 1 := by simpa [zilen] using hn
  obtain ⟨x, y, r, rfl, rfl, rfl, rfl, rfl⟩ := zbin_eq (show zbin (fun x y => x - y) pc ls st σ = _ from hs)
  exact lv_isub hx hb hd (kk rfl hL hv1 (zVv_cons.mpr ⟨trivial, (zVv_cons.mp (zVv_cons.mp hv2).2).2⟩))

theorem zn_imul  (hd : decode (zKcode K) pc = .ok (.imul, n)) (hn : (n == zilen (.imul) || zilen (.imul) == 0) = true) (hs : zstep K (.imul) n d pc ls st σ = some (.inl (pc', ls', st', σ'))) (C : zCx p R s m args meth c K d A H0 (ad 0)) (hW : zWd D ad ca σ s A H0 H locs) (hL : zLs ad lsA (zKmax K) ls) (hv1 : zVv (znum σ) ls) (hv2 : zVv (znum σ) st) (hc : cells + zcc σ' ≤ R.cells + zcc σ) (hsl : slots + zcs σ' ≤ R.slots + zcs σ) (k : zCont p l e R s m args below meth c Q A H0 D (zKmax K) (znum σ) (zcc σ) (zcs σ) cells slots ad pc' ls' st' σ') : W p l e R s m args below meth c H locs cells slots Q (F0 m pc lsA (st.map (zv ad))) := by
  obtain ⟨hx, hb, hml, hown, hts, hini, hfr, hlo, hA, hbl, hbA⟩ := C
  have kk : ∀ {lsA' : Array Slot}, σ' = σ → zLs ad lsA' (zKmax K) ls' → zVv (znum σ) ls' → zVv (znum σ) st' → W p l e R s m args below meth c H locs cells slots Q (F0 m pc' lsA' (st'.map (zv ad))) := by
    intro lsA' he h1 h2 h3
    subst he
    exact k ad ca H locs cells slots lsA' (fun _ _ => rfl) hW h1 h2 h3 rfl rfl
  obtain rfl : n = 1 := by simpa [zilen] using hn
  obtain ⟨x, y, r, rfl, rfl, rfl, rfl, rfl⟩ := zbin_eq (show zbin (fun x y => x * y) pc ls st σ = _ from hs)
  exact lv_imul hx hb hd (kk rfl hL hv1 (zVv_cons.mpr ⟨trivial, (zVv_cons.mp (zVv_cons.mp hv2).2).2⟩))

theorem zn_iand  (hd : decode (zKcode K) pc = .ok (.iand, n)) (hn : (n == zilen (.iand) || zilen (.iand) == 0) = true) (hs : zstep K (.iand) n d pc ls st σ = some (.inl (pc', ls', st', σ'))) (C : zCx p R s m args meth c K d A H0 (ad 0)) (hW : zWd D ad ca σ s A H0 H locs) (hL : zLs ad lsA (zKmax K) ls) (hv1 : zVv (znum σ) ls) (hv2 : zVv (znum σ) st) (hc : cells + zcc σ' ≤ R.cells + zcc σ) (hsl : slots + zcs σ' ≤ R.slots + zcs σ) (k : zCont p l e R s m args below meth c Q A H0 D (zKmax K) (znum σ) (zcc σ) (zcs σ) cells slots ad pc' ls' st' σ') : W p l e R s m args below meth c H locs cells slots Q (F0 m pc lsA (st.map (zv ad))) := by
  obtain ⟨hx, hb, hml, hown, hts, hini, hfr, hlo, hA, hbl, hbA⟩ := C
  have kk : ∀ {lsA' : Array Slot}, σ' = σ → zLs ad lsA' (zKmax K) ls' → zVv (znum σ) ls' → zVv (znum σ) st' → W p l e R s m args below meth c H locs cells slots Q (F0 m pc' lsA' (st'.map (zv ad))) := by
    intro lsA' he h1 h2 h3
    subst he
    exact k ad ca H locs cells slots lsA' (fun _ _ => rfl) hW h1 h2 h3 rfl rfl
  obtain rfl : n = 1 := by simpa [zilen] using hn
  obtain ⟨x, y, r, rfl, rfl, rfl, rfl, rfl⟩ := zbin_eq (show zbin (fun x y => x &&& y) pc ls st σ = _ from hs)
  exact lv_iand hx hb hd (kk rfl hL hv1 (zVv_cons.mpr ⟨trivial, (zVv_cons.mp (zVv_cons.mp hv2).2).2⟩))

theorem zn_ior  (hd : decode (zKcode K) pc = .ok (.ior, n)) (hn : (n == zilen (.ior) || zilen (.ior) == 0) = true) (hs : zstep K (.ior) n d pc ls st σ = some (.inl (pc', ls', st', σ'))) (C : zCx p R s m args meth c K d A H0 (ad 0)) (hW : zWd D ad ca σ s A H0 H locs) (hL : zLs ad lsA (zKmax K) ls) (hv1 : zVv (znum σ) ls) (hv2 : zVv (znum σ) st) (hc : cells + zcc σ' ≤ R.cells + zcc σ) (hsl : slots + zcs σ' ≤ R.slots + zcs σ) (k : zCont p l e R s m args below meth c Q A H0 D (zKmax K) (znum σ) (zcc σ) (zcs σ) cells slots ad pc' ls' st' σ') : W p l e R s m args below meth c H locs cells slots Q (F0 m pc lsA (st.map (zv ad))) := by
  obtain ⟨hx, hb, hml, hown, hts, hini, hfr, hlo, hA, hbl, hbA⟩ := C
  have kk : ∀ {lsA' : Array Slot}, σ' = σ → zLs ad lsA' (zKmax K) ls' → zVv (znum σ) ls' → zVv (znum σ) st' → W p l e R s m args below meth c H locs cells slots Q (F0 m pc' lsA' (st'.map (zv ad))) := by
    intro lsA' he h1 h2 h3
    subst he
    exact k ad ca H locs cells slots lsA' (fun _ _ => rfl) hW h1 h2 h3 rfl rfl
  obtain rfl : n = 1 := by simpa [zilen] using hn
  obtain ⟨x, y, r, rfl, rfl, rfl, rfl, rfl⟩ := zbin_eq (show zbin (fun x y => x ||| y) pc ls st σ = _ from hs)
  exact lv_ior hx hb hd (kk rfl hL hv1 (zVv_cons.mpr ⟨trivial, (zVv_cons.mp (zVv_cons.mp hv2).2).2⟩))

theorem zn_ixor  (hd : decode (zKcode K) pc = .ok (.ixor, n)) (hn : (n == zilen (.ixor) || zilen (.ixor) == 0) = true) (hs : zstep K (.ixor) n d pc ls st σ = some (.inl (pc', ls', st', σ'))) (C : zCx p R s m args meth c K d A H0 (ad 0)) (hW : zWd D ad ca σ s A H0 H locs) (hL : zLs ad lsA (zKmax K) ls) (hv1 : zVv (znum σ) ls) (hv2 : zVv (znum σ) st) (hc : cells + zcc σ' ≤ R.cells + zcc σ) (hsl : slots + zcs σ' ≤ R.slots + zcs σ) (k : zCont p l e R s m args below meth c Q A H0 D (zKmax K) (znum σ) (zcc σ) (zcs σ) cells slots ad pc' ls' st' σ') : W p l e R s m args below meth c H locs cells slots Q (F0 m pc lsA (st.map (zv ad))) := by
  obtain ⟨hx, hb, hml, hown, hts, hini, hfr, hlo, hA, hbl, hbA⟩ := C
  have kk : ∀ {lsA' : Array Slot}, σ' = σ → zLs ad lsA' (zKmax K) ls' → zVv (znum σ) ls' → zVv (znum σ) st' → W p l e R s m args below meth c H locs cells slots Q (F0 m pc' lsA' (st'.map (zv ad))) := by
    intro lsA' he h1 h2 h3
    subst he
    exact k ad ca H locs cells slots lsA' (fun _ _ => rfl) hW h1 h2 h3 rfl rfl
  obtain rfl : n = 1 := by simpa [zilen] using hn
  obtain ⟨x, y, r, rfl, rfl, rfl, rfl, rfl⟩ := zbin_eq (show zbin (fun x y => x ^^^ y) pc ls st σ = _ from hs)
  exact lv_ixor hx hb hd (kk rfl hL hv1 (zVv_cons.mpr ⟨trivial, (zVv_cons.mp (zVv_cons.mp hv2).2).2⟩))

theorem zn_ishl  (hd : decode (zKcode K) pc = .ok (.ishl, n)) (hn : (n == zilen (.ishl) || zilen (.ishl) == 0) = true) (hs : zstep K (.ishl) n d pc ls st σ = some (.inl (pc', ls', st', σ'))) (C : zCx p R s m args meth c K d A H0 (ad 0)) (hW : zWd D ad ca σ s A H0 H locs) (hL : zLs ad lsA (zKmax K) ls) (hv1 : zVv (znum σ) ls) (hv2 : zVv (znum σ) st) (hc : cells + zcc σ' ≤ R.cells + zcc σ) (hsl : slots + zcs σ' ≤ R.slots + zcs σ) (k : zCont p l e R s m args below meth c Q A H0 D (zKmax K) (znum σ) (zcc σ) (zcs σ) cells slots ad pc' ls' st' σ') : W p l e R s m args below meth c H locs cells slots Q (F0 m pc lsA (st.map (zv ad))) := by
  obtain ⟨hx, hb, hml, hown, hts, hini, hfr, hlo, hA, hbl, hbA⟩ := C
  have kk : ∀ {lsA' : Array Slot}, σ' = σ → zLs ad lsA' (zKmax K) ls' → zVv (znum σ) ls' → zVv (znum σ) st' → W p l e R s m args below meth c H locs cells slots Q (F0 m pc' lsA' (st'.map (zv ad))) := by
    intro lsA' he h1 h2 h3
    subst he
    exact k ad ca H locs cells slots lsA' (fun _ _ => rfl) hW h1 h2 h3 rfl rfl
  obtain rfl : n = 1 := by simpa [zilen] using hn
  obtain ⟨x, y, r, rfl, rfl, rfl, rfl, rfl⟩ := zbin_eq (show zbin (fun x y => x <<< (y &&& 31)) pc ls st σ = _ from hs)
  exact lv_ishl hx hb hd (kk rfl hL hv1 (zVv_cons.mpr ⟨trivial, (zVv_cons.mp (zVv_cons.mp hv2).2).2⟩))

theorem zn_ishr  (hd : decode (zKcode K) pc = .ok (.ishr, n)) (hn : (n == zilen (.ishr) || zilen (.ishr) == 0) = true) (hs : zstep K (.ishr) n d pc ls st σ = some (.inl (pc', ls', st', σ'))) (C : zCx p R s m args meth c K d A H0 (ad 0)) (hW : zWd D ad ca σ s A H0 H locs) (hL : zLs ad lsA (zKmax K) ls) (hv1 : zVv (znum σ) ls) (hv2 : zVv (znum σ) st) (hc : cells + zcc σ' ≤ R.cells + zcc σ) (hsl : slots + zcs σ' ≤ R.slots + zcs σ) (k : zCont p l e R s m args below meth c Q A H0 D (zKmax K) (znum σ) (zcc σ) (zcs σ) cells slots ad pc' ls' st' σ') : W p l e R s m args below meth c H locs cells slots Q (F0 m pc lsA (st.map (zv ad))) := by
  obtain ⟨hx, hb, hml, hown, hts, hini, hfr, hlo, hA, hbl, hbA⟩ := C
  have kk : ∀ {lsA' : Array Slot}, σ' = σ → zLs ad lsA' (zKmax K) ls' → zVv (znum σ) ls' → zVv (znum σ) st' → W p l e R s m args below meth c H locs cells slots Q (F0 m pc' lsA' (st'.map (zv ad))) := by
    intro lsA' he h1 h2 h3
    subst he
    exact k ad ca H locs cells slots lsA' (fun _ _ => rfl) hW h1 h2 h3 rfl rfl
  obtain rfl : n = 1 := by simpa [zilen] using hn
  obtain ⟨x, y, r, rfl, rfl, rfl, rfl, rfl⟩ := zbin_eq (show zbin (fun x y => x >>> (y &&& 31)) pc ls st σ = _ from hs)
  exact lv_ishr hx hb hd (kk rfl hL hv1 (zVv_cons.mpr ⟨trivial, (zVv_cons.mp (zVv_cons.mp hv2).2).2⟩))

theorem zn_iushr  (hd : decode (zKcode K) pc = .ok (.iushr, n)) (hn : (n == zilen (.iushr) || zilen (.iushr) == 0) = true) (hs : zstep K (.iushr) n d pc ls st σ = some (.inl (pc', ls', st', σ'))) (C : zCx p R s m args meth c K d A H0 (ad 0)) (hW : zWd D ad ca σ s A H0 H locs) (hL : zLs ad lsA (zKmax K) ls) (hv1 : zVv (znum σ) ls) (hv2 : zVv (znum σ) st) (hc : cells + zcc σ' ≤ R.cells + zcc σ) (hsl : slots + zcs σ' ≤ R.slots + zcs σ) (k : zCont p l e R s m args below meth c Q A H0 D (zKmax K) (znum σ) (zcc σ) (zcs σ) cells slots ad pc' ls' st' σ') : W p l e R s m args below meth c H locs cells slots Q (F0 m pc lsA (st.map (zv ad))) := by
  obtain ⟨hx, hb, hml, hown, hts, hini, hfr, hlo, hA, hbl, hbA⟩ := C
  have kk : ∀ {lsA' : Array Slot}, σ' = σ → zLs ad lsA' (zKmax K) ls' → zVv (znum σ) ls' → zVv (znum σ) st' → W p l e R s m args below meth c H locs cells slots Q (F0 m pc' lsA' (st'.map (zv ad))) := by
    intro lsA' he h1 h2 h3
    subst he
    exact k ad ca H locs cells slots lsA' (fun _ _ => rfl) hW h1 h2 h3 rfl rfl
  obtain rfl : n = 1 := by simpa [zilen] using hn
  obtain ⟨x, y, r, rfl, rfl, rfl, rfl, rfl⟩ := zbin_eq (show zbin (fun x y => (x.toUInt32 >>> (y.toUInt32 &&& Int32.toUInt32 31)).toInt32) pc ls st σ = _ from hs)
  exact lv_iushr hx hb hd rfl (kk rfl hL hv1 (zVv_cons.mpr ⟨trivial, (zVv_cons.mp (zVv_cons.mp hv2).2).2⟩))

theorem zn_ladd  (hd : decode (zKcode K) pc = .ok (.ladd, n)) (hn : (n == zilen (.ladd) || zilen (.ladd) == 0) = true) (hs : zstep K (.ladd) n d pc ls st σ = some (.inl (pc', ls', st', σ'))) (C : zCx p R s m args meth c K d A H0 (ad 0)) (hW : zWd D ad ca σ s A H0 H locs) (hL : zLs ad lsA (zKmax K) ls) (hv1 : zVv (znum σ) ls) (hv2 : zVv (znum σ) st) (hc : cells + zcc σ' ≤ R.cells + zcc σ) (hsl : slots + zcs σ' ≤ R.slots + zcs σ) (k : zCont p l e R s m args below meth c Q A H0 D (zKmax K) (znum σ) (zcc σ) (zcs σ) cells slots ad pc' ls' st' σ') : W p l e R s m args below meth c H locs cells slots Q (F0 m pc lsA (st.map (zv ad))) := by
  obtain ⟨hx, hb, hml, hown, hts, hini, hfr, hlo, hA, hbl, hbA⟩ := C
  have kk : ∀ {lsA' : Array Slot}, σ' = σ → zLs ad lsA' (zKmax K) ls' → zVv (znum σ) ls' → zVv (znum σ) st' → W p l e R s m args below meth c H locs cells slots Q (F0 m pc' lsA' (st'.map (zv ad))) := by
    intro lsA' he h1 h2 h3
    subst he
    exact k ad ca H locs cells slots lsA' (fun _ _ => rfl) hW h1 h2 h3 rfl rfl
  obtain rfl : n = 1 := by simpa [zilen] using hn
  obtain ⟨x, y, r, rfl, rfl, rfl, rfl, rfl⟩ := zbinL_eq (show zbinL (fun x y => x + y) pc ls st σ = _ from hs)
  exact lv_ladd hx hb hd (kk rfl hL hv1 (zVv_cons.mpr ⟨trivial, (zVv_cons.mp (zVv_cons.mp hv2).2).2⟩))

theorem zn_lmul  (hd : decode (zKcode K) pc = .ok (.lmul, n)) (hn : (n == zilen (.lmul) || zilen (.lmul) == 0) = true) (hs : zstep K (.lmul) n d pc ls st σ = some (.inl (pc', ls', st', σ'))) (C : zCx p R s m args meth c K d A H0 (ad 0)) (hW : zWd D ad ca σ s A H0 H locs) (hL : zLs ad lsA (zKmax K) ls) (hv1 : zVv (znum σ) ls) (hv2 : zVv (znum σ) st) (hc : cells + zcc σ' ≤ R.cells + zcc σ) (hsl : slots + zcs σ' ≤ R.slots + zcs σ) (k : zCont p l e R s m args below meth c Q A H0 D (zKmax K) (znum σ) (zcc σ) (zcs σ) cells slots ad pc' ls' st' σ') : W p l e R s m args below meth c H locs cells slots Q (F0 m pc lsA (st.map (zv ad))) := by
  obtain ⟨hx, hb, hml, hown, hts, hini, hfr, hlo, hA, hbl, hbA⟩ := C
  have kk : ∀ {lsA' : Array Slot}, σ' = σ → zLs ad lsA' (zKmax K) ls' → zVv (znum σ) ls' → zVv (znum σ) st' → W p l e R s m args below meth c H locs cells slots Q (F0 m pc' lsA' (st'.map (zv ad))) := by
    intro lsA' he h1 h2 h3
    subst he
    exact k ad ca H locs cells slots lsA' (fun _ _ => rfl) hW h1 h2 h3 rfl rfl
  obtain rfl : n = 1 := by simpa [zilen] using hn
  obtain ⟨x, y, r, rfl, rfl, rfl, rfl, rfl⟩ := zbinL_eq (show zbinL (fun x y => x * y) pc ls st σ = _ from hs)
  exact lv_lmul hx hb hd (kk rfl hL hv1 (zVv_cons.mpr ⟨trivial, (zVv_cons.mp (zVv_cons.mp hv2).2).2⟩))

theorem zn_land  (hd : decode (zKcode K) pc = .ok (.land, n)) (hn : (n == zilen (.land) || zilen (.land) == 0) = true) (hs : zstep K (.land) n d pc ls st σ = some (.inl (pc', ls', st', σ'))) (C : zCx p R s m args meth c K d A H0 (ad 0)) (hW : zWd D ad ca σ s A H0 H locs) (hL : zLs ad lsA (zKmax K) ls) (hv1 : zVv (znum σ) ls) (hv2 : zVv (znum σ) st) (hc : cells + zcc σ' ≤ R.cells + zcc σ) (hsl : slots + zcs σ' ≤ R.slots + zcs σ) (k : zCont p l e R s m args below meth c Q A H0 D (zKmax K) (znum σ) (zcc σ) (zcs σ) cells slots ad pc' ls' st' σ') : W p l e R s m args below meth c H locs cells slots Q (F0 m pc lsA (st.map (zv ad))) := by
  obtain ⟨hx, hb, hml, hown, hts, hini, hfr, hlo, hA, hbl, hbA⟩ := C
  have kk : ∀ {lsA' : Array Slot}, σ' = σ → zLs ad lsA' (zKmax K) ls' → zVv (znum σ) ls' → zVv (znum σ) st' → W p l e R s m args below meth c H locs cells slots Q (F0 m pc' lsA' (st'.map (zv ad))) := by
    intro lsA' he h1 h2 h3
    subst he
    exact k ad ca H locs cells slots lsA' (fun _ _ => rfl) hW h1 h2 h3 rfl rfl
  obtain rfl : n = 1 := by simpa [zilen] using hn
  obtain ⟨x, y, r, rfl, rfl, rfl, rfl, rfl⟩ := zbinL_eq (show zbinL (fun x y => x &&& y) pc ls st σ = _ from hs)
  exact lv_land hx hb hd (kk rfl hL hv1 (zVv_cons.mpr ⟨trivial, (zVv_cons.mp (zVv_cons.mp hv2).2).2⟩))

theorem zn_lor  (hd : decode (zKcode K) pc = .ok (.lor, n)) (hn : (n == zilen (.lor) || zilen (.lor) == 0) = true) (hs : zstep K (.lor) n d pc ls st σ = some (.inl (pc', ls', st', σ'))) (C : zCx p R s m args meth c K d A H0 (ad 0)) (hW : zWd D ad ca σ s A H0 H locs) (hL : zLs ad lsA (zKmax K) ls) (hv1 : zVv (znum σ) ls) (hv2 : zVv (znum σ) st) (hc : cells + zcc σ' ≤ R.cells + zcc σ) (hsl : slots + zcs σ' ≤ R.slots + zcs σ) (k : zCont p l e R s m args below meth c Q A H0 D (zKmax K) (znum σ) (zcc σ) (zcs σ) cells slots ad pc' ls' st' σ') : W p l e R s m args below meth c H locs cells slots Q (F0 m pc lsA (st.map (zv ad))) := by
  obtain ⟨hx, hb, hml, hown, hts, hini, hfr, hlo, hA, hbl, hbA⟩ := C
  have kk : ∀ {lsA' : Array Slot}, σ' = σ → zLs ad lsA' (zKmax K) ls' → zVv (znum σ) ls' → zVv (znum σ) st' → W p l e R s m args below meth c H locs cells slots Q (F0 m pc' lsA' (st'.map (zv ad))) := by
    intro lsA' he h1 h2 h3
    subst he
    exact k ad ca H locs cells slots lsA' (fun _ _ => rfl) hW h1 h2 h3 rfl rfl
  obtain rfl : n = 1 := by simpa [zilen] using hn
  obtain ⟨x, y, r, rfl, rfl, rfl, rfl, rfl⟩ := zbinL_eq (show zbinL (fun x y => x ||| y) pc ls st σ = _ from hs)
  exact lv_lor hx hb hd (kk rfl hL hv1 (zVv_cons.mpr ⟨trivial, (zVv_cons.mp (zVv_cons.mp hv2).2).2⟩))

theorem zn_idiv  (hd : decode (zKcode K) pc = .ok (.idiv, n)) (hn : (n == zilen (.idiv) || zilen (.idiv) == 0) = true) (hs : zstep K (.idiv) n d pc ls st σ = some (.inl (pc', ls', st', σ'))) (C : zCx p R s m args meth c K d A H0 (ad 0)) (hW : zWd D ad ca σ s A H0 H locs) (hL : zLs ad lsA (zKmax K) ls) (hv1 : zVv (znum σ) ls) (hv2 : zVv (znum σ) st) (hc : cells + zcc σ' ≤ R.cells + zcc σ) (hsl : slots + zcs σ' ≤ R.slots + zcs σ) (k : zCont p l e R s m args below meth c Q A H0 D (zKmax K) (znum σ) (zcc σ) (zcs σ) cells slots ad pc' ls' st' σ') : W p l e R s m args below meth c H locs cells slots Q (F0 m pc lsA (st.map (zv ad))) := by
  obtain ⟨hx, hb, hml, hown, hts, hini, hfr, hlo, hA, hbl, hbA⟩ := C
  have kk : ∀ {lsA' : Array Slot}, σ' = σ → zLs ad lsA' (zKmax K) ls' → zVv (znum σ) ls' → zVv (znum σ) st' → W p l e R s m args below meth c H locs cells slots Q (F0 m pc' lsA' (st'.map (zv ad))) := by
    intro lsA' he h1 h2 h3
    subst he
    exact k ad ca H locs cells slots lsA' (fun _ _ => rfl) hW h1 h2 h3 rfl rfl
  obtain rfl : n = 1 := by simpa [zilen] using hn
  replace hs : (match st with
    | .int y :: .int x :: r => if y = 0 then none else zgo (pc + 1) ls (.int (x / y) :: r) σ
    | _ => none) = some (.inl (pc', ls', st', σ')) := hs
  split at hs
  · split at hs
    · cases hs
    · rename_i hne
      obtain ⟨rfl, rfl, rfl, rfl⟩ := zgo_eq hs
      exact lv_idiv hx hb hd hne (kk rfl hL hv1 (zVv_cons.mpr ⟨trivial, (zVv_cons.mp (zVv_cons.mp hv2).2).2⟩))
  · cases hs

theorem zn_irem  (hd : decode (zKcode K) pc = .ok (.irem, n)) (hn : (n == zilen (.irem) || zilen (.irem) == 0) = true) (hs : zstep K (.irem) n d pc ls st σ = some (.inl (pc', ls', st', σ'))) (C : zCx p R s m args meth c K d A H0 (ad 0)) (hW : zWd D ad ca σ s A H0 H locs) (hL : zLs ad lsA (zKmax K) ls) (hv1 : zVv (znum σ) ls) (hv2 : zVv (znum σ) st) (hc : cells + zcc σ' ≤ R.cells + zcc σ) (hsl : slots + zcs σ' ≤ R.slots + zcs σ) (k : zCont p l e R s m args below meth c Q A H0 D (zKmax K) (znum σ) (zcc σ) (zcs σ) cells slots ad pc' ls' st' σ') : W p l e R s m args below meth c H locs cells slots Q (F0 m pc lsA (st.map (zv ad))) := by
  obtain ⟨hx, hb, hml, hown, hts, hini, hfr, hlo, hA, hbl, hbA⟩ := C
  have kk : ∀ {lsA' : Array Slot}, σ' = σ → zLs ad lsA' (zKmax K) ls' → zVv (znum σ) ls' → zVv (znum σ) st' → W p l e R s m args below meth c H locs cells slots Q (F0 m pc' lsA' (st'.map (zv ad))) := by
    intro lsA' he h1 h2 h3
    subst he
    exact k ad ca H locs cells slots lsA' (fun _ _ => rfl) hW h1 h2 h3 rfl rfl
  obtain rfl : n = 1 := by simpa [zilen] using hn
  replace hs : (match st with
    | .int y :: .int x :: r => if y = 0 then none else zgo (pc + 1) ls (.int (x - x / y * y) :: r) σ
    | _ => none) = some (.inl (pc', ls', st', σ')) := hs
  split at hs
  · split at hs
    · cases hs
    · rename_i hne
      obtain ⟨rfl, rfl, rfl, rfl⟩ := zgo_eq hs
      exact lv_irem hx hb hd hne (kk rfl hL hv1 (zVv_cons.mpr ⟨trivial, (zVv_cons.mp (zVv_cons.mp hv2).2).2⟩))
  · cases hs

theorem zn_lrem  (hd : decode (zKcode K) pc = .ok (.lrem, n)) (hn : (n == zilen (.lrem) || zilen (.lrem) == 0) = true) (hs : zstep K (.lrem) n d pc ls st σ = some (.inl (pc', ls', st', σ'))) (C : zCx p R s m args meth c K d A H0 (ad 0)) (hW : zWd D ad ca σ s A H0 H locs) (hL : zLs ad lsA (zKmax K) ls) (hv1 : zVv (znum σ) ls) (hv2 : zVv (znum σ) st) (hc : cells + zcc σ' ≤ R.cells + zcc σ) (hsl : slots + zcs σ' ≤ R.slots + zcs σ) (k : zCont p l e R s m args below meth c Q A H0 D (zKmax K) (znum σ) (zcc σ) (zcs σ) cells slots ad pc' ls' st' σ') : W p l e R s m args below meth c H locs cells slots Q (F0 m pc lsA (st.map (zv ad))) := by
  obtain ⟨hx, hb, hml, hown, hts, hini, hfr, hlo, hA, hbl, hbA⟩ := C
  have kk : ∀ {lsA' : Array Slot}, σ' = σ → zLs ad lsA' (zKmax K) ls' → zVv (znum σ) ls' → zVv (znum σ) st' → W p l e R s m args below meth c H locs cells slots Q (F0 m pc' lsA' (st'.map (zv ad))) := by
    intro lsA' he h1 h2 h3
    subst he
    exact k ad ca H locs cells slots lsA' (fun _ _ => rfl) hW h1 h2 h3 rfl rfl
  obtain rfl : n = 1 := by simpa [zilen] using hn
  replace hs : (match st with
    | .long y :: .long x :: r => if y = 0 then none else zgo (pc + 1) ls (.long (x - x / y * y) :: r) σ
    | _ => none) = some (.inl (pc', ls', st', σ')) := hs
  split at hs
  · split at hs
    · cases hs
    · rename_i hne
      obtain ⟨rfl, rfl, rfl, rfl⟩ := zgo_eq hs
      exact lv_lrem hx hb hd hne (kk rfl hL hv1 (zVv_cons.mpr ⟨trivial, (zVv_cons.mp (zVv_cons.mp hv2).2).2⟩))
  · cases hs

theorem zn_ineg  (hd : decode (zKcode K) pc = .ok (.ineg, n)) (hn : (n == zilen (.ineg) || zilen (.ineg) == 0) = true) (hs : zstep K (.ineg) n d pc ls st σ = some (.inl (pc', ls', st', σ'))) (C : zCx p R s m args meth c K d A H0 (ad 0)) (hW : zWd D ad ca σ s A H0 H locs) (hL : zLs ad lsA (zKmax K) ls) (hv1 : zVv (znum σ) ls) (hv2 : zVv (znum σ) st) (hc : cells + zcc σ' ≤ R.cells + zcc σ) (hsl : slots + zcs σ' ≤ R.slots + zcs σ) (k : zCont p l e R s m args below meth c Q A H0 D (zKmax K) (znum σ) (zcc σ) (zcs σ) cells slots ad pc' ls' st' σ') : W p l e R s m args below meth c H locs cells slots Q (F0 m pc lsA (st.map (zv ad))) := by
  obtain ⟨hx, hb, hml, hown, hts, hini, hfr, hlo, hA, hbl, hbA⟩ := C
  have kk : ∀ {lsA' : Array Slot}, σ' = σ → zLs ad lsA' (zKmax K) ls' → zVv (znum σ) ls' → zVv (znum σ) st' → W p l e R s m args below meth c H locs cells slots Q (F0 m pc' lsA' (st'.map (zv ad))) := by
    intro lsA' he h1 h2 h3
    subst he
    exact k ad ca H locs cells slots lsA' (fun _ _ => rfl) hW h1 h2 h3 rfl rfl
  obtain rfl : n = 1 := by simpa [zilen] using hn
  replace hs : (match st with | .int x :: r => zgo (pc + 1) ls (.int (-x) :: r) σ | _ => none) = some (.inl (pc', ls', st', σ')) := hs
  split at hs
  · obtain ⟨rfl, rfl, rfl, rfl⟩ := zgo_eq hs
    exact lv_ineg hx hb hd (kk rfl hL hv1 (zVv_cons.mpr ⟨trivial, (zVv_cons.mp hv2).2⟩))
  · cases hs

theorem zn_i2l  (hd : decode (zKcode K) pc = .ok (.i2l, n)) (hn : (n == zilen (.i2l) || zilen (.i2l) == 0) = true) (hs : zstep K (.i2l) n d pc ls st σ = some (.inl (pc', ls', st', σ'))) (C : zCx p R s m args meth c K d A H0 (ad 0)) (hW : zWd D ad ca σ s A H0 H locs) (hL : zLs ad lsA (zKmax K) ls) (hv1 : zVv (znum σ) ls) (hv2 : zVv (znum σ) st) (hc : cells + zcc σ' ≤ R.cells + zcc σ) (hsl : slots + zcs σ' ≤ R.slots + zcs σ) (k : zCont p l e R s m args below meth c Q A H0 D (zKmax K) (znum σ) (zcc σ) (zcs σ) cells slots ad pc' ls' st' σ') : W p l e R s m args below meth c H locs cells slots Q (F0 m pc lsA (st.map (zv ad))) := by
  obtain ⟨hx, hb, hml, hown, hts, hini, hfr, hlo, hA, hbl, hbA⟩ := C
  have kk : ∀ {lsA' : Array Slot}, σ' = σ → zLs ad lsA' (zKmax K) ls' → zVv (znum σ) ls' → zVv (znum σ) st' → W p l e R s m args below meth c H locs cells slots Q (F0 m pc' lsA' (st'.map (zv ad))) := by
    intro lsA' he h1 h2 h3
    subst he
    exact k ad ca H locs cells slots lsA' (fun _ _ => rfl) hW h1 h2 h3 rfl rfl
  obtain rfl : n = 1 := by simpa [zilen] using hn
  replace hs : (match st with | .int x :: r => zgo (pc + 1) ls (.long x.toInt64 :: r) σ | _ => none) = some (.inl (pc', ls', st', σ')) := hs
  split at hs
  · obtain ⟨rfl, rfl, rfl, rfl⟩ := zgo_eq hs
    exact lv_i2l hx hb hd rfl (kk rfl hL hv1 (zVv_cons.mpr ⟨trivial, (zVv_cons.mp hv2).2⟩))
  · cases hs

theorem zn_l2i  (hd : decode (zKcode K) pc = .ok (.l2i, n)) (hn : (n == zilen (.l2i) || zilen (.l2i) == 0) = true) (hs : zstep K (.l2i) n d pc ls st σ = some (.inl (pc', ls', st', σ'))) (C : zCx p R s m args meth c K d A H0 (ad 0)) (hW : zWd D ad ca σ s A H0 H locs) (hL : zLs ad lsA (zKmax K) ls) (hv1 : zVv (znum σ) ls) (hv2 : zVv (znum σ) st) (hc : cells + zcc σ' ≤ R.cells + zcc σ) (hsl : slots + zcs σ' ≤ R.slots + zcs σ) (k : zCont p l e R s m args below meth c Q A H0 D (zKmax K) (znum σ) (zcc σ) (zcs σ) cells slots ad pc' ls' st' σ') : W p l e R s m args below meth c H locs cells slots Q (F0 m pc lsA (st.map (zv ad))) := by
  obtain ⟨hx, hb, hml, hown, hts, hini, hfr, hlo, hA, hbl, hbA⟩ := C
  have kk : ∀ {lsA' : Array Slot}, σ' = σ → zLs ad lsA' (zKmax K) ls' → zVv (znum σ) ls' → zVv (znum σ) st' → W p l e R s m args below meth c H locs cells slots Q (F0 m pc' lsA' (st'.map (zv ad))) := by
    intro lsA' he h1 h2 h3
    subst he
    exact k ad ca H locs cells slots lsA' (fun _ _ => rfl) hW h1 h2 h3 rfl rfl
  obtain rfl : n = 1 := by simpa [zilen] using hn
  replace hs : (match st with | .long x :: r => zgo (pc + 1) ls (.int x.toInt32 :: r) σ | _ => none) = some (.inl (pc', ls', st', σ')) := hs
  split at hs
  · obtain ⟨rfl, rfl, rfl, rfl⟩ := zgo_eq hs
    exact lv_l2i hx hb hd rfl (kk rfl hL hv1 (zVv_cons.mpr ⟨trivial, (zVv_cons.mp hv2).2⟩))
  · cases hs

theorem zn_i2b  (hd : decode (zKcode K) pc = .ok (.i2b, n)) (hn : (n == zilen (.i2b) || zilen (.i2b) == 0) = true) (hs : zstep K (.i2b) n d pc ls st σ = some (.inl (pc', ls', st', σ'))) (C : zCx p R s m args meth c K d A H0 (ad 0)) (hW : zWd D ad ca σ s A H0 H locs) (hL : zLs ad lsA (zKmax K) ls) (hv1 : zVv (znum σ) ls) (hv2 : zVv (znum σ) st) (hc : cells + zcc σ' ≤ R.cells + zcc σ) (hsl : slots + zcs σ' ≤ R.slots + zcs σ) (k : zCont p l e R s m args below meth c Q A H0 D (zKmax K) (znum σ) (zcc σ) (zcs σ) cells slots ad pc' ls' st' σ') : W p l e R s m args below meth c H locs cells slots Q (F0 m pc lsA (st.map (zv ad))) := by
  obtain ⟨hx, hb, hml, hown, hts, hini, hfr, hlo, hA, hbl, hbA⟩ := C
  have kk : ∀ {lsA' : Array Slot}, σ' = σ → zLs ad lsA' (zKmax K) ls' → zVv (znum σ) ls' → zVv (znum σ) st' → W p l e R s m args below meth c H locs cells slots Q (F0 m pc' lsA' (st'.map (zv ad))) := by
    intro lsA' he h1 h2 h3
    subst he
    exact k ad ca H locs cells slots lsA' (fun _ _ => rfl) hW h1 h2 h3 rfl rfl
  obtain rfl : n = 1 := by simpa [zilen] using hn
  replace hs : (match st with | .int x :: r => zgo (pc + 1) ls (.int x.toInt8.toInt32 :: r) σ | _ => none) = some (.inl (pc', ls', st', σ')) := hs
  split at hs
  · obtain ⟨rfl, rfl, rfl, rfl⟩ := zgo_eq hs
    exact lv_i2b hx hb hd rfl (kk rfl hL hv1 (zVv_cons.mpr ⟨trivial, (zVv_cons.mp hv2).2⟩))
  · cases hs

theorem zn_lshl  (hd : decode (zKcode K) pc = .ok (.lshl, n)) (hn : (n == zilen (.lshl) || zilen (.lshl) == 0) = true) (hs : zstep K (.lshl) n d pc ls st σ = some (.inl (pc', ls', st', σ'))) (C : zCx p R s m args meth c K d A H0 (ad 0)) (hW : zWd D ad ca σ s A H0 H locs) (hL : zLs ad lsA (zKmax K) ls) (hv1 : zVv (znum σ) ls) (hv2 : zVv (znum σ) st) (hc : cells + zcc σ' ≤ R.cells + zcc σ) (hsl : slots + zcs σ' ≤ R.slots + zcs σ) (k : zCont p l e R s m args below meth c Q A H0 D (zKmax K) (znum σ) (zcc σ) (zcs σ) cells slots ad pc' ls' st' σ') : W p l e R s m args below meth c H locs cells slots Q (F0 m pc lsA (st.map (zv ad))) := by
  obtain ⟨hx, hb, hml, hown, hts, hini, hfr, hlo, hA, hbl, hbA⟩ := C
  have kk : ∀ {lsA' : Array Slot}, σ' = σ → zLs ad lsA' (zKmax K) ls' → zVv (znum σ) ls' → zVv (znum σ) st' → W p l e R s m args below meth c H locs cells slots Q (F0 m pc' lsA' (st'.map (zv ad))) := by
    intro lsA' he h1 h2 h3
    subst he
    exact k ad ca H locs cells slots lsA' (fun _ _ => rfl) hW h1 h2 h3 rfl rfl
  obtain rfl : n = 1 := by simpa [zilen] using hn
  replace hs : (match st with | .int y :: .long x :: r => zgo (pc + 1) ls (.long (x <<< (y.toInt64 &&& 63)) :: r) σ | _ => none) = some (.inl (pc', ls', st', σ')) := hs
  split at hs
  · obtain ⟨rfl, rfl, rfl, rfl⟩ := zgo_eq hs
    exact lv_lshl hx hb hd rfl (kk rfl hL hv1 (zVv_cons.mpr ⟨trivial, (zVv_cons.mp (zVv_cons.mp hv2).2).2⟩))
  · cases hs

theorem zn_lushr  (hd : decode (zKcode K) pc = .ok (.lushr, n)) (hn : (n == zilen (.lushr) || zilen (.lushr) == 0) = true) (hs : zstep K (.lushr) n d pc ls st σ = some (.inl (pc', ls', st', σ'))) (C : zCx p R s m args meth c K d A H0 (ad 0)) (hW : zWd D ad ca σ s A H0 H locs) (hL : zLs ad lsA (zKmax K) ls) (hv1 : zVv (znum σ) ls) (hv2 : zVv (znum σ) st) (hc : cells + zcc σ' ≤ R.cells + zcc σ) (hsl : slots + zcs σ' ≤ R.slots + zcs σ) (k : zCont p l e R s m args below meth c Q A H0 D (zKmax K) (znum σ) (zcc σ) (zcs σ) cells slots ad pc' ls' st' σ') : W p l e R s m args below meth c H locs cells slots Q (F0 m pc lsA (st.map (zv ad))) := by
  obtain ⟨hx, hb, hml, hown, hts, hini, hfr, hlo, hA, hbl, hbA⟩ := C
  have kk : ∀ {lsA' : Array Slot}, σ' = σ → zLs ad lsA' (zKmax K) ls' → zVv (znum σ) ls' → zVv (znum σ) st' → W p l e R s m args below meth c H locs cells slots Q (F0 m pc' lsA' (st'.map (zv ad))) := by
    intro lsA' he h1 h2 h3
    subst he
    exact k ad ca H locs cells slots lsA' (fun _ _ => rfl) hW h1 h2 h3 rfl rfl
  obtain rfl : n = 1 := by simpa [zilen] using hn
  replace hs : (match st with | .int y :: .long x :: r => zgo (pc + 1) ls (.long (x.toUInt64 >>> (y.toInt64.toUInt64 &&& Int64.toUInt64 63)).toInt64 :: r) σ | _ => none) = some (.inl (pc', ls', st', σ')) := hs
  split at hs
  · obtain ⟨rfl, rfl, rfl, rfl⟩ := zgo_eq hs
    exact lv_lushr hx hb hd rfl (kk rfl hL hv1 (zVv_cons.mpr ⟨trivial, (zVv_cons.mp (zVv_cons.mp hv2).2).2⟩))
  · cases hs

theorem zn_lcmp  (hd : decode (zKcode K) pc = .ok (.lcmp, n)) (hn : (n == zilen (.lcmp) || zilen (.lcmp) == 0) = true) (hs : zstep K (.lcmp) n d pc ls st σ = some (.inl (pc', ls', st', σ'))) (C : zCx p R s m args meth c K d A H0 (ad 0)) (hW : zWd D ad ca σ s A H0 H locs) (hL : zLs ad lsA (zKmax K) ls) (hv1 : zVv (znum σ) ls) (hv2 : zVv (znum σ) st) (hc : cells + zcc σ' ≤ R.cells + zcc σ) (hsl : slots + zcs σ' ≤ R.slots + zcs σ) (k : zCont p l e R s m args below meth c Q A H0 D (zKmax K) (znum σ) (zcc σ) (zcs σ) cells slots ad pc' ls' st' σ') : W p l e R s m args below meth c H locs cells slots Q (F0 m pc lsA (st.map (zv ad))) := by
  obtain ⟨hx, hb, hml, hown, hts, hini, hfr, hlo, hA, hbl, hbA⟩ := C
  have kk : ∀ {lsA' : Array Slot}, σ' = σ → zLs ad lsA' (zKmax K) ls' → zVv (znum σ) ls' → zVv (znum σ) st' → W p l e R s m args below meth c H locs cells slots Q (F0 m pc' lsA' (st'.map (zv ad))) := by
    intro lsA' he h1 h2 h3
    subst he
    exact k ad ca H locs cells slots lsA' (fun _ _ => rfl) hW h1 h2 h3 rfl rfl
  obtain rfl : n = 1 := by simpa [zilen] using hn
  replace hs : (match st with | .long y :: .long x :: r => zgo (pc + 1) ls (.int (lg_cmp x y) :: r) σ | _ => none) = some (.inl (pc', ls', st', σ')) := hs
  split at hs
  · obtain ⟨rfl, rfl, rfl, rfl⟩ := zgo_eq hs
    exact W.lcmp hx hb hd (kk rfl hL hv1 (zVv_cons.mpr ⟨trivial, (zVv_cons.mp (zVv_cons.mp hv2).2).2⟩))
  · cases hs

theorem zn_dup  (hd : decode (zKcode K) pc = .ok (.dup, n)) (hn : (n == zilen (.dup) || zilen (.dup) == 0) = true) (hs : zstep K (.dup) n d pc ls st σ = some (.inl (pc', ls', st', σ'))) (C : zCx p R s m args meth c K d A H0 (ad 0)) (hW : zWd D ad ca σ s A H0 H locs) (hL : zLs ad lsA (zKmax K) ls) (hv1 : zVv (znum σ) ls) (hv2 : zVv (znum σ) st) (hc : cells + zcc σ' ≤ R.cells + zcc σ) (hsl : slots + zcs σ' ≤ R.slots + zcs σ) (k : zCont p l e R s m args below meth c Q A H0 D (zKmax K) (znum σ) (zcc σ) (zcs σ) cells slots ad pc' ls' st' σ') : W p l e R s m args below meth c H locs cells slots Q (F0 m pc lsA (st.map (zv ad))) := by
  obtain ⟨hx, hb, hml, hown, hts, hini, hfr, hlo, hA, hbl, hbA⟩ := C
  have kk : ∀ {lsA' : Array Slot}, σ' = σ → zLs ad lsA' (zKmax K) ls' → zVv (znum σ) ls' → zVv (znum σ) st' → W p l e R s m args below meth c H locs cells slots Q (F0 m pc' lsA' (st'.map (zv ad))) := by
    intro lsA' he h1 h2 h3
    subst he
    exact k ad ca H locs cells slots lsA' (fun _ _ => rfl) hW h1 h2 h3 rfl rfl
  obtain rfl : n = 1 := by simpa [zilen] using hn
  replace hs : (match st with | v :: r => if v.category = 1 then zgo (pc + 1) ls (v :: v :: r) σ else none | _ => none) = some (.inl (pc', ls', st', σ')) := hs
  split at hs
  · rename_i v r
    split at hs
    · rename_i hcat
      obtain ⟨rfl, rfl, rfl, rfl⟩ := zgo_eq hs
      exact lv_dup hx hb hd (by rw [zv_cat]; exact hcat) (kk rfl hL hv1 (zVv_cons.mpr ⟨(zVv_cons.mp hv2).1, hv2⟩))
    · cases hs
  · cases hs

theorem zn_dup_x1  (hd : decode (zKcode K) pc = .ok (.dup_x1, n)) (hn : (n == zilen (.dup_x1) || zilen (.dup_x1) == 0) = true) (hs : zstep K (.dup_x1) n d pc ls st σ = some (.inl (pc', ls', st', σ'))) (C : zCx p R s m args meth c K d A H0 (ad 0)) (hW : zWd D ad ca σ s A H0 H locs) (hL : zLs ad lsA (zKmax K) ls) (hv1 : zVv (znum σ) ls) (hv2 : zVv (znum σ) st) (hc : cells + zcc σ' ≤ R.cells + zcc σ) (hsl : slots + zcs σ' ≤ R.slots + zcs σ) (k : zCont p l e R s m args below meth c Q A H0 D (zKmax K) (znum σ) (zcc σ) (zcs σ) cells slots ad pc' ls' st' σ') : W p l e R s m args below meth c H locs cells slots Q (F0 m pc lsA (st.map (zv ad))) := by
  obtain ⟨hx, hb, hml, hown, hts, hini, hfr, hlo, hA, hbl, hbA⟩ := C
  have kk : ∀ {lsA' : Array Slot}, σ' = σ → zLs ad lsA' (zKmax K) ls' → zVv (znum σ) ls' → zVv (znum σ) st' → W p l e R s m args below meth c H locs cells slots Q (F0 m pc' lsA' (st'.map (zv ad))) := by
    intro lsA' he h1 h2 h3
    subst he
    exact k ad ca H locs cells slots lsA' (fun _ _ => rfl) hW h1 h2 h3 rfl rfl
  obtain rfl : n = 1 := by simpa [zilen] using hn
  replace hs : (match st with | v :: w :: r => if v.category = 1 ∧ w.category = 1 then zgo (pc + 1) ls (v :: w :: v :: r) σ else none | _ => none) = some (.inl (pc', ls', st', σ')) := hs
  split at hs
  · rename_i v w r
    split at hs
    · rename_i hcat
      obtain ⟨rfl, rfl, rfl, rfl⟩ := zgo_eq hs
      exact lv_dup_x1 hx hb hd (by rw [zv_cat]; exact hcat.1) (by rw [zv_cat]; exact hcat.2) (kk rfl hL hv1 (zVv_cons.mpr ⟨(zVv_cons.mp hv2).1, zVv_cons.mpr ⟨(zVv_cons.mp (zVv_cons.mp hv2).2).1, zVv_cons.mpr ⟨(zVv_cons.mp hv2).1, (zVv_cons.mp (zVv_cons.mp hv2).2).2⟩⟩⟩))
    · cases hs
  · cases hs

theorem zn_dup2  (hd : decode (zKcode K) pc = .ok (.dup2, n)) (hn : (n == zilen (.dup2) || zilen (.dup2) == 0) = true) (hs : zstep K (.dup2) n d pc ls st σ = some (.inl (pc', ls', st', σ'))) (C : zCx p R s m args meth c K d A H0 (ad 0)) (hW : zWd D ad ca σ s A H0 H locs) (hL : zLs ad lsA (zKmax K) ls) (hv1 : zVv (znum σ) ls) (hv2 : zVv (znum σ) st) (hc : cells + zcc σ' ≤ R.cells + zcc σ) (hsl : slots + zcs σ' ≤ R.slots + zcs σ) (k : zCont p l e R s m args below meth c Q A H0 D (zKmax K) (znum σ) (zcc σ) (zcs σ) cells slots ad pc' ls' st' σ') : W p l e R s m args below meth c H locs cells slots Q (F0 m pc lsA (st.map (zv ad))) := by
  obtain ⟨hx, hb, hml, hown, hts, hini, hfr, hlo, hA, hbl, hbA⟩ := C
  have kk : ∀ {lsA' : Array Slot}, σ' = σ → zLs ad lsA' (zKmax K) ls' → zVv (znum σ) ls' → zVv (znum σ) st' → W p l e R s m args below meth c H locs cells slots Q (F0 m pc' lsA' (st'.map (zv ad))) := by
    intro lsA' he h1 h2 h3
    subst he
    exact k ad ca H locs cells slots lsA' (fun _ _ => rfl) hW h1 h2 h3 rfl rfl
  obtain rfl : n = 1 := by simpa [zilen] using hn
  replace hs : (match st with | v :: w :: r => if v.category = 1 ∧ w.category = 1 then zgo (pc + 1) ls (v :: w :: v :: w :: r) σ else none | _ => none) = some (.inl (pc', ls', st', σ')) := hs
  split at hs
  · rename_i v w r
    split at hs
    · rename_i hcat
      obtain ⟨rfl, rfl, rfl, rfl⟩ := zgo_eq hs
      exact lv_dup2_11 hx hb hd (by rw [zv_cat]; exact hcat.1) (by rw [zv_cat]; exact hcat.2) (kk rfl hL hv1 (zVv_cons.mpr ⟨(zVv_cons.mp hv2).1, zVv_cons.mpr ⟨(zVv_cons.mp (zVv_cons.mp hv2).2).1, hv2⟩⟩))
    · cases hs
  · cases hs

theorem zn_goto {off : Int} (hd : decode (zKcode K) pc = .ok (.goto off, n)) (hn : (n == zilen (.goto off) || zilen (.goto off) == 0) = true) (hs : zstep K (.goto off) n d pc ls st σ = some (.inl (pc', ls', st', σ'))) (C : zCx p R s m args meth c K d A H0 (ad 0)) (hW : zWd D ad ca σ s A H0 H locs) (hL : zLs ad lsA (zKmax K) ls) (hv1 : zVv (znum σ) ls) (hv2 : zVv (znum σ) st) (hc : cells + zcc σ' ≤ R.cells + zcc σ) (hsl : slots + zcs σ' ≤ R.slots + zcs σ) (k : zCont p l e R s m args below meth c Q A H0 D (zKmax K) (znum σ) (zcc σ) (zcs σ) cells slots ad pc' ls' st' σ') : W p l e R s m args below meth c H locs cells slots Q (F0 m pc lsA (st.map (zv ad))) := by
  obtain ⟨hx, hb, hml, hown, hts, hini, hfr, hlo, hA, hbl, hbA⟩ := C
  have kk : ∀ {lsA' : Array Slot}, σ' = σ → zLs ad lsA' (zKmax K) ls' → zVv (znum σ) ls' → zVv (znum σ) st' → W p l e R s m args below meth c H locs cells slots Q (F0 m pc' lsA' (st'.map (zv ad))) := by
    intro lsA' he h1 h2 h3
    subst he
    exact k ad ca H locs cells slots lsA' (fun _ _ => rfl) hW h1 h2 h3 rfl rfl
  obtain rfl : n = 3 := by simpa [zilen] using hn
  obtain ⟨ht, rfl, rfl, rfl⟩ := zjmp_eq (show zjmp pc off ls st σ = _ from hs)
  exact lv_goto hx hb hd ht (kk rfl hL hv1 hv2)

theorem zn_if_icmp {cn : Jvm.ClassFile.Cond} {off : Int} (hd : decode (zKcode K) pc = .ok (.if_icmp cn off, n)) (hn : (n == zilen (.if_icmp cn off) || zilen (.if_icmp cn off) == 0) = true) (hs : zstep K (.if_icmp cn off) n d pc ls st σ = some (.inl (pc', ls', st', σ'))) (C : zCx p R s m args meth c K d A H0 (ad 0)) (hW : zWd D ad ca σ s A H0 H locs) (hL : zLs ad lsA (zKmax K) ls) (hv1 : zVv (znum σ) ls) (hv2 : zVv (znum σ) st) (hc : cells + zcc σ' ≤ R.cells + zcc σ) (hsl : slots + zcs σ' ≤ R.slots + zcs σ) (k : zCont p l e R s m args below meth c Q A H0 D (zKmax K) (znum σ) (zcc σ) (zcs σ) cells slots ad pc' ls' st' σ') : W p l e R s m args below meth c H locs cells slots Q (F0 m pc lsA (st.map (zv ad))) := by
  obtain ⟨hx, hb, hml, hown, hts, hini, hfr, hlo, hA, hbl, hbA⟩ := C
  have kk : ∀ {lsA' : Array Slot}, σ' = σ → zLs ad lsA' (zKmax K) ls' → zVv (znum σ) ls' → zVv (znum σ) st' → W p l e R s m args below meth c H locs cells slots Q (F0 m pc' lsA' (st'.map (zv ad))) := by
    intro lsA' he h1 h2 h3
    subst he
    exact k ad ca H locs cells slots lsA' (fun _ _ => rfl) hW h1 h2 h3 rfl rfl
  obtain rfl : n = 3 := by simpa [zilen] using hn
  replace hs : (match st with
    | .int y :: .int x :: r => (match zbr pc off with | some t => zicmp cn x y pc t ls r σ | none => none)
    | _ => none) = some (.inl (pc', ls', st', σ')) := hs
  split at hs
  · split at hs
    · rename_i t ht
      have ht := zbr_eq ht
      have hv3 := (zVv_cons.mp (zVv_cons.mp hv2).2).2
      cases cn
      · simp only [zicmp] at hs
        split at hs
        · rename_i hq
          obtain ⟨rfl, rfl, rfl, rfl⟩ := zgo_eq hs
          exact lv_icmp_eq hx hb hd ht (fun hq2 => kk rfl hL hv1 hv3) (fun hq2 => absurd hq hq2)
        · rename_i hq
          obtain ⟨rfl, rfl, rfl, rfl⟩ := zgo_eq hs
          exact lv_icmp_eq hx hb hd ht (fun hq2 => absurd hq2 hq) (fun hq2 => kk rfl hL hv1 hv3)
      · simp only [zicmp] at hs
        split at hs
        · rename_i hq
          obtain ⟨rfl, rfl, rfl, rfl⟩ := zgo_eq hs
          exact lv_icmp_ne hx hb hd ht (fun hq2 => absurd hq hq2) (fun hq2 => kk rfl hL hv1 hv3)
        · rename_i hq
          obtain ⟨rfl, rfl, rfl, rfl⟩ := zgo_eq hs
          exact lv_icmp_ne hx hb hd ht (fun hq2 => kk rfl hL hv1 hv3) (fun hq2 => absurd hq2 hq)
      · simp only [zicmp] at hs
        split at hs
        · rename_i hq
          obtain ⟨rfl, rfl, rfl, rfl⟩ := zgo_eq hs
          exact lv_icmp_lt hx hb hd ht (fun hq2 => kk rfl hL hv1 hv3) (fun hq2 => absurd hq hq2)
        · rename_i hq
          obtain ⟨rfl, rfl, rfl, rfl⟩ := zgo_eq hs
          exact lv_icmp_lt hx hb hd ht (fun hq2 => absurd hq2 hq) (fun hq2 => kk rfl hL hv1 hv3)
      · simp only [zicmp] at hs
        split at hs
        · rename_i hq
          obtain ⟨rfl, rfl, rfl, rfl⟩ := zgo_eq hs
          exact lv_icmp_ge hx hb hd ht (fun hq2 => kk rfl hL hv1 hv3) (fun hq2 => absurd hq hq2)
        · rename_i hq
          obtain ⟨rfl, rfl, rfl, rfl⟩ := zgo_eq hs
          exact lv_icmp_ge hx hb hd ht (fun hq2 => absurd hq2 hq) (fun hq2 => kk rfl hL hv1 hv3)
      · simp only [zicmp] at hs
        split at hs
        · rename_i hq
          obtain ⟨rfl, rfl, rfl, rfl⟩ := zgo_eq hs
          exact lv_icmp_gt hx hb hd ht (fun hq2 => kk rfl hL hv1 hv3) (fun hq2 => absurd hq hq2)
        · rename_i hq
          obtain ⟨rfl, rfl, rfl, rfl⟩ := zgo_eq hs
          exact lv_icmp_gt hx hb hd ht (fun hq2 => absurd hq2 hq) (fun hq2 => kk rfl hL hv1 hv3)
      · simp only [zicmp] at hs
        split at hs
        · rename_i hq
          obtain ⟨rfl, rfl, rfl, rfl⟩ := zgo_eq hs
          exact lv_icmp_le hx hb hd ht (fun hq2 => kk rfl hL hv1 hv3) (fun hq2 => absurd hq hq2)
        · rename_i hq
          obtain ⟨rfl, rfl, rfl, rfl⟩ := zgo_eq hs
          exact lv_icmp_le hx hb hd ht (fun hq2 => absurd hq2 hq) (fun hq2 => kk rfl hL hv1 hv3)
    · cases hs
  · cases hs

theorem zn_ifCond {cn : Jvm.ClassFile.Cond} {off : Int} (hd : decode (zKcode K) pc = .ok (.ifCond cn off, n)) (hn : (n == zilen (.ifCond cn off) || zilen (.ifCond cn off) == 0) = true) (hs : zstep K (.ifCond cn off) n d pc ls st σ = some (.inl (pc', ls', st', σ'))) (C : zCx p R s m args meth c K d A H0 (ad 0)) (hW : zWd D ad ca σ s A H0 H locs) (hL : zLs ad lsA (zKmax K) ls) (hv1 : zVv (znum σ) ls) (hv2 : zVv (znum σ) st) (hc : cells + zcc σ' ≤ R.cells + zcc σ) (hsl : slots + zcs σ' ≤ R.slots + zcs σ) (k : zCont p l e R s m args below meth c Q A H0 D (zKmax K) (znum σ) (zcc σ) (zcs σ) cells slots ad pc' ls' st' σ') : W p l e R s m args below meth c H locs cells slots Q (F0 m pc lsA (st.map (zv ad))) := by
  obtain ⟨hx, hb, hml, hown, hts, hini, hfr, hlo, hA, hbl, hbA⟩ := C
  have kk : ∀ {lsA' : Array Slot}, σ' = σ → zLs ad lsA' (zKmax K) ls' → zVv (znum σ) ls' → zVv (znum σ) st' → W p l e R s m args below meth c H locs cells slots Q (F0 m pc' lsA' (st'.map (zv ad))) := by
    intro lsA' he h1 h2 h3
    subst he
    exact k ad ca H locs cells slots lsA' (fun _ _ => rfl) hW h1 h2 h3 rfl rfl
  obtain rfl : n = 3 := by simpa [zilen] using hn
  replace hs : (match st with
    | .int x :: r => (match zbr pc off with | some t => zicmp cn x 0 pc t ls r σ | none => none)
    | _ => none) = some (.inl (pc', ls', st', σ')) := hs
  split at hs
  · split at hs
    · rename_i t ht
      have ht := zbr_eq ht
      have hv3 := (zVv_cons.mp hv2).2
      cases cn
      · simp only [zicmp] at hs
        split at hs
        · rename_i hq
          obtain ⟨rfl, rfl, rfl, rfl⟩ := zgo_eq hs
          exact lv_if_eq hx hb hd ht (fun hq2 => kk rfl hL hv1 hv3) (fun hq2 => absurd hq hq2)
        · rename_i hq
          obtain ⟨rfl, rfl, rfl, rfl⟩ := zgo_eq hs
          exact lv_if_eq hx hb hd ht (fun hq2 => absurd hq2 hq) (fun hq2 => kk rfl hL hv1 hv3)
      · simp only [zicmp] at hs
        split at hs
        · rename_i hq
          obtain ⟨rfl, rfl, rfl, rfl⟩ := zgo_eq hs
          exact lv_if_ne hx hb hd ht (fun hq2 => absurd hq hq2) (fun hq2 => kk rfl hL hv1 hv3)
        · rename_i hq
          obtain ⟨rfl, rfl, rfl, rfl⟩ := zgo_eq hs
          exact lv_if_ne hx hb hd ht (fun hq2 => kk rfl hL hv1 hv3) (fun hq2 => absurd hq2 hq)
      · simp only [zicmp] at hs
        split at hs
        · rename_i hq
          obtain ⟨rfl, rfl, rfl, rfl⟩ := zgo_eq hs
          exact lv_if_lt hx hb hd ht (fun hq2 => kk rfl hL hv1 hv3) (fun hq2 => absurd hq hq2)
        · rename_i hq
          obtain ⟨rfl, rfl, rfl, rfl⟩ := zgo_eq hs
          exact lv_if_lt hx hb hd ht (fun hq2 => absurd hq2 hq) (fun hq2 => kk rfl hL hv1 hv3)
      · simp only [zicmp] at hs
        split at hs
        · rename_i hq
          obtain ⟨rfl, rfl, rfl, rfl⟩ := zgo_eq hs
          exact lv_if_ge hx hb hd ht (fun hq2 => kk rfl hL hv1 hv3) (fun hq2 => absurd hq hq2)
        · rename_i hq
          obtain ⟨rfl, rfl, rfl, rfl⟩ := zgo_eq hs
          exact lv_if_ge hx hb hd ht (fun hq2 => absurd hq2 hq) (fun hq2 => kk rfl hL hv1 hv3)
      · simp only [zicmp] at hs
        split at hs
        · rename_i hq
          obtain ⟨rfl, rfl, rfl, rfl⟩ := zgo_eq hs
          exact lv_if_gt hx hb hd ht (fun hq2 => kk rfl hL hv1 hv3) (fun hq2 => absurd hq hq2)
        · rename_i hq
          obtain ⟨rfl, rfl, rfl, rfl⟩ := zgo_eq hs
          exact lv_if_gt hx hb hd ht (fun hq2 => absurd hq2 hq) (fun hq2 => kk rfl hL hv1 hv3)
      · simp only [zicmp] at hs
        split at hs
        · rename_i hq
          obtain ⟨rfl, rfl, rfl, rfl⟩ := zgo_eq hs
          exact lv_if_le hx hb hd ht (fun hq2 => kk rfl hL hv1 hv3) (fun hq2 => absurd hq hq2)
        · rename_i hq
          obtain ⟨rfl, rfl, rfl, rfl⟩ := zgo_eq hs
          exact lv_if_le hx hb hd ht (fun hq2 => absurd hq2 hq) (fun hq2 => kk rfl hL hv1 hv3)
    · cases hs
  · cases hs

theorem zn_tableswitch {dflt lo hi : Int} {offs : Array Int} (hd : decode (zKcode K) pc = .ok (.tableswitch dflt lo hi offs, n)) (hn : (n == zilen (.tableswitch dflt lo hi offs) || zilen (.tableswitch dflt lo hi offs) == 0) = true) (hs : zstep K (.tableswitch dflt lo hi offs) n d pc ls st σ = some (.inl (pc', ls', st', σ'))) (C : zCx p R s m args meth c K d A H0 (ad 0)) (hW : zWd D ad ca σ s A H0 H locs) (hL : zLs ad lsA (zKmax K) ls) (hv1 : zVv (znum σ) ls) (hv2 : zVv (znum σ) st) (hc : cells + zcc σ' ≤ R.cells + zcc σ) (hsl : slots + zcs σ' ≤ R.slots + zcs σ) (k : zCont p l e R s m args below meth c Q A H0 D (zKmax K) (znum σ) (zcc σ) (zcs σ) cells slots ad pc' ls' st' σ') : W p l e R s m args below meth c H locs cells slots Q (F0 m pc lsA (st.map (zv ad))) := by
  obtain ⟨hx, hb, hml, hown, hts, hini, hfr, hlo, hA, hbl, hbA⟩ := C
  have kk : ∀ {lsA' : Array Slot}, σ' = σ → zLs ad lsA' (zKmax K) ls' → zVv (znum σ) ls' → zVv (znum σ) st' → W p l e R s m args below meth c H locs cells slots Q (F0 m pc' lsA' (st'.map (zv ad))) := by
    intro lsA' he h1 h2 h3
    subst he
    exact k ad ca H locs cells slots lsA' (fun _ _ => rfl) hW h1 h2 h3 rfl rfl
  replace hs : (match st with
    | .int x :: r => if x.toInt < lo ∨ hi < x.toInt then zjmp pc dflt ls r σ else (match offs[(x.toInt - lo).toNat]? with | some off => zjmp pc off ls r σ | none => none)
    | _ => none) = some (.inl (pc', ls', st', σ')) := hs
  split at hs
  · split at hs
    · rename_i hq
      obtain ⟨ht, rfl, rfl, rfl⟩ := zjmp_eq hs
      exact lv_tableOut hx hb hd hq ht (kk rfl hL hv1 (zVv_cons.mp hv2).2)
    · rename_i hq
      split at hs
      · rename_i off ho
        obtain ⟨ht, rfl, rfl, rfl⟩ := zjmp_eq hs
        exact lv_tableIn hx hb hd (fun h => hq (Or.inl h)) (fun h => hq (Or.inr h)) ho ht (kk rfl hL hv1 (zVv_cons.mp hv2).2)
      · cases hs
  · cases hs

theorem zget_v {ad : Nat → Nat} {σ : zS} {c k : Nat} {ty : FieldType} {v : Value} (h : zget σ c k ty = some v) : zfv ad σ c k ty = zv ad v := by
  unfold zget at h
  split at h <;> cases h <;> simp [zfv, zv, zv_rf]
  all_goals (cases zR σ c k <;> rfl)
theorem zget_ok {σ : zS} {c k : Nat} {ty : FieldType} {v : Value} (h : zget σ c k ty = some v) (hR : zRv σ) : zok (znum σ) v := by
  unfold zget at h
  split at h <;> cases h <;> first | trivial | skip
  all_goals
    cases hr : zR σ c k with
    | none => trivial
    | some a => exact hR c k a hr
theorem zrf_ok {σ : zS} {c k : Nat} (hR : zRv σ) : zok (znum σ) (va_rf (zR σ c k)) := by
  cases hr : zR σ c k with
  | none => trivial
  | some a => exact hR c k a hr

theorem zn_getfield {k0 : Nat} (hd : decode (zKcode K) pc = .ok (.getfield k0, n)) (hn : (n == zilen (.getfield k0) || zilen (.getfield k0) == 0) = true) (hs : zstep K (.getfield k0) n d pc ls st σ = some (.inl (pc', ls', st', σ'))) (C : zCx p R s m args meth c K d A H0 (ad 0)) (hW : zWd D ad ca σ s A H0 H locs) (hL : zLs ad lsA (zKmax K) ls) (hv1 : zVv (znum σ) ls) (hv2 : zVv (znum σ) st) (hc : cells + zcc σ' ≤ R.cells + zcc σ) (hsl : slots + zcs σ' ≤ R.slots + zcs σ) (k : zCont p l e R s m args below meth c Q A H0 D (zKmax K) (znum σ) (zcc σ) (zcs σ) cells slots ad pc' ls' st' σ') : W p l e R s m args below meth c H locs cells slots Q (F0 m pc lsA (st.map (zv ad))) := by
  obtain ⟨hx, hb, hml, hown, hts, hini, hfr, hlo, hA, hbl, hbA⟩ := C
  have kk : ∀ {lsA' : Array Slot}, σ' = σ → zLs ad lsA' (zKmax K) ls' → zVv (znum σ) ls' → zVv (znum σ) st' → W p l e R s m args below meth c H locs cells slots Q (F0 m pc' lsA' (st'.map (zv ad))) := by
    intro lsA' he h1 h2 h3
    subst he
    exact k ad ca H locs cells slots lsA' (fun _ _ => rfl) hW h1 h2 h3 rfl rfl
  obtain rfl : n = 3 := by simpa [zilen] using hn
  replace hs : (match zfld (zKci K) k0, st with
    | some (tc, sl), .ref a :: r => if zkind σ a = tc ∧ a < znum σ then (match zget σ a sl (zty tc sl) with | some v => zgo (pc + 3) ls (v :: r) σ | none => none) else none
    | _, _ => none) = some (.inl (pc', ls', st', σ')) := hs
  split at hs
  · rename_i tc sl a r hf
    split at hs
    · rename_i hq
      obtain ⟨hq1, hq2⟩ := hq
      split at hs
      · rename_i v hg
        obtain ⟨rfl, rfl, rfl, rfl⟩ := zgo_eq hs
        obtain ⟨hw, h13, hsl2⟩ := (show _ ∧ tc < 13 ∧ sl < zN tc from zfld_ok hf)
        obtain ⟨f1, f2, f3, f4, f5⟩ := zcF_all tc h13
        obtain ⟨hP, hK, hD, hS, hX, h99, h1, hR⟩ := id hW
        have he := hW.get (c := a) (by omega) hq2 (zent_obj (by omega))
        rw [hq1] at he
        exact va_get hx hb hts f2 hown hK.K0 hP (a - 1) he f1 sl hsl2 (hts _ hw) (fun _ h => h) ((zfs_get hsl2).trans (congrArg some (zget_v hg))) hd (kk rfl hL hv1 (zVv_cons.mpr ⟨zget_ok hg hR, (zVv_cons.mp hv2).2⟩))
      · cases hs
    · cases hs
  · cases hs

theorem zput_spec {ad : Nat → Nat} {σ σ' : zS} {c k : Nat} {ty : FieldType} {v : Value} (h : zput σ c k ty v = some σ') (hv : zok (znum σ) v) (hR : zRv σ) :
    narrow ty (zv ad v) = zv ad v ∧ fits ty (zv ad v) = true ∧ σ'.1 = σ.1 ∧ σ'.2.2 = σ.2.2 ∧ (∀ j, j ≠ c → zI σ' j = zI σ j) ∧ (∀ j, j ≠ c → zL σ' j = zL σ j) ∧ (∀ j, j ≠ c → zR σ' j = zR σ j) ∧ zfv ad σ' c k ty = zv ad v ∧ (∀ j ty', j ≠ k → zfv ad σ' c j ty' = zfv ad σ c j ty') ∧ zRv σ' := by
  have hR' : ∀ a : Nat, a < znum σ → zRv (zsR σ c (va_up (zR σ c) k (some a))) := by
    intro a ha c' k' b hb
    rw [zR_sR] at hb
    split at hb
    · unfold va_up at hb
      split at hb
      · cases hb; exact ha
      · exact hR _ _ _ hb
    · exact hR _ _ _ hb
  unfold zput at h
  split at h
  · split at h
    · cases h
      refine ⟨rfl, rfl, rfl, rfl, fun j hj => by rw [zI_sI, if_neg hj], fun j _ => rfl, fun j _ => rfl, by simp [zfv, zI_sI, upd, zv], fun j ty' hj => ?_, hR⟩
      cases ty' <;> simp [zfv, zI_sI, zL_sI, zR_sI, upd, hj]
    · cases h
  · split at h
    · split at h
      · rename_i hx
        cases h
        refine ⟨by rcases hx with rfl | rfl <;> rfl, by rcases hx with rfl | rfl <;> rfl, rfl, rfl, fun j hj => by rw [zI_sI, if_neg hj], fun j _ => rfl, fun j _ => rfl, by simp [zfv, zI_sI, upd, zv], fun j ty' hj => ?_, hR⟩
        cases ty' <;> simp [zfv, zI_sI, zL_sI, zR_sI, upd, hj]
      · cases h
    · cases h
  · split at h
    · cases h
      refine ⟨rfl, rfl, rfl, rfl, fun j _ => rfl, fun j hj => by rw [zL_sL, if_neg hj], fun j _ => rfl, by simp [zfv, zL_sL, vp_updL, zv], fun j ty' hj => ?_, hR⟩
      cases ty' <;> simp [zfv, zI_sL, zL_sL, zR_sL, vp_updL, hj]
    · cases h
  · split at h
    · cases h
      refine ⟨rfl, rfl, rfl, rfl, fun j _ => rfl, fun j _ => rfl, fun j hj => by rw [zR_sR, if_neg hj], by simp [zfv, zR_sR, va_up, zv, va_rf], fun j ty' hj => ?_, hR' _ hv⟩
      cases ty' <;> simp [zfv, zI_sR, zL_sR, zR_sR, va_up, hj]
    · cases h
  · split at h
    · cases h
      refine ⟨rfl, rfl, rfl, rfl, fun j _ => rfl, fun j _ => rfl, fun j hj => by rw [zR_sR, if_neg hj], by simp [zfv, zR_sR, va_up, zv, va_rf], fun j ty' hj => ?_, hR' _ hv⟩
      cases ty' <;> simp [zfv, zI_sR, zL_sR, zR_sR, va_up, hj]
    · cases h
  · cases h

theorem zn_putfield {k0 : Nat} (hd : decode (zKcode K) pc = .ok (.putfield k0, n)) (hn : (n == zilen (.putfield k0) || zilen (.putfield k0) == 0) = true) (hs : zstep K (.putfield k0) n d pc ls st σ = some (.inl (pc', ls', st', σ'))) (C : zCx p R s m args meth c K d A H0 (ad 0)) (hW : zWd D ad ca σ s A H0 H locs) (hL : zLs ad lsA (zKmax K) ls) (hv1 : zVv (znum σ) ls) (hv2 : zVv (znum σ) st) (hc : cells + zcc σ' ≤ R.cells + zcc σ) (hsl : slots + zcs σ' ≤ R.slots + zcs σ) (k : zCont p l e R s m args below meth c Q A H0 D (zKmax K) (znum σ) (zcc σ) (zcs σ) cells slots ad pc' ls' st' σ') : W p l e R s m args below meth c H locs cells slots Q (F0 m pc lsA (st.map (zv ad))) := by
  obtain ⟨hx, hb, hml, hown, hts, hini, hfr, hlo, hA, hbl, hbA⟩ := C
  have kk : ∀ {lsA' : Array Slot}, σ' = σ → zLs ad lsA' (zKmax K) ls' → zVv (znum σ) ls' → zVv (znum σ) st' → W p l e R s m args below meth c H locs cells slots Q (F0 m pc' lsA' (st'.map (zv ad))) := by
    intro lsA' he h1 h2 h3
    subst he
    exact k ad ca H locs cells slots lsA' (fun _ _ => rfl) hW h1 h2 h3 rfl rfl
  obtain rfl : n = 3 := by simpa [zilen] using hn
  replace hs : (match zfld (zKci K) k0, st with
    | some (tc, sl), v :: .ref a :: r => if zkind σ a = tc ∧ a < znum σ ∧ ((zT tc sl).2.2.2 = false ∨ (zKkind K = 2 ∧ (zT tc sl).1 = zC (zKci K))) then (match zput σ a sl (zty tc sl) v with | some σ' => zgo (pc + 3) ls r σ' | none => none) else none
    | _, _ => none) = some (.inl (pc', ls', st', σ')) := hs
  split at hs
  · rename_i tc sl v a r hf
    split at hs
    · rename_i hq
      obtain ⟨hq1, hq2, hq3⟩ := hq
      split at hs
      · rename_i σ2 hg
        obtain ⟨rfl, rfl, rfl, rfl⟩ := zgo_eq hs
        obtain ⟨hw, h13, hsl2⟩ := (show _ ∧ tc < 13 ∧ sl < zN tc from zfld_ok hf)
        obtain ⟨f1, f2, f3, f4, f5⟩ := zcF_all tc h13
        obtain ⟨hP, hK, hD, hS, hX, h99, h1, hR⟩ := id hW
        have he := hW.get (c := a) (by omega) hq2 (zent_obj (by omega))
        have ha0 := hW.ne0 (c := a) (by omega)
        obtain ⟨p1, p2, p3, p4, p5, p6, p7, p8, p9, p10⟩ := zput_spec (ad := ad) hg (zVv_cons.mp hv2).1 hR
        have hnn : znum σ2 = znum σ := by simp [znum, p3]
        have hent : zent ad ca σ2 a = .inr (tc, (zfs ad σ a tc).set sl (zv ad v)) := by
          have e1 : zkind σ2 a = tc := by simp only [zkind, p3]; exact hq1
          rw [zent_obj (by omega), e1]
          congr 2
          have := zrange_set (g := fun k => zfv ad σ a k (zty tc k)) (g' := fun k => zfv ad σ2 a k (zty tc k)) hsl2 (fun j hj => p9 j _ hj)
          simp only [p8] at this
          exact this.symm
        rw [hq1] at he
        rcases hq3 with hfin | ⟨hk2, hdecl⟩
        · exact va_put hx hb hts f2 (zty tc) f3 f4 hown hK.K0 hP hD hS (a - 1) he f1 sl hsl2 (hts _ hw) (fun _ h => h) hfin (f3 sl hsl2) p1 p2 (by simp [zfs]; exact hsl2) hd (fun H1 locs1 hP1 hD1 hS1 =>
          k ad ca H1 locs1 cells slots lsA (fun _ _ => rfl) (hW.upd (c := a) ha0 hq2 p3 p5 p6 p7 p10 hent hP1 hD1 hS1) hL (by rw [hnn]; exact hv1) (by rw [hnn]; exact (zVv_cons.mp (zVv_cons.mp hv2).2).2) (by simp [zcc, p4]) (by simp [zcs, p4]))
        · by_cases hfin : (zT tc sl).2.2.2 = false
          · exact va_put hx hb hts f2 (zty tc) f3 f4 hown hK.K0 hP hD hS (a - 1) he f1 sl hsl2 (hts _ hw) (fun _ h => h) hfin (f3 sl hsl2) p1 p2 (by simp [zfs]; exact hsl2) hd (fun H1 locs1 hP1 hD1 hS1 =>
          k ad ca H1 locs1 cells slots lsA (fun _ _ => rfl) (hW.upd (c := a) ha0 hq2 p3 p5 p6 p7 p10 hent hP1 hD1 hS1) hL (by rw [hnn]; exact hv1) (by rw [hnn]; exact (zVv_cons.mp (zVv_cons.mp hv2).2).2) (by simp [zcc, p4]) (by simp [zcs, p4]))
          · exact va_putF hx hb hts f2 (zty tc) f3 f4 hown hK.K0 hP hD hS (a - 1) he f1 sl hsl2 (hts _ hw) (fun _ h => h) (by simpa using hfin) (hini hk2) hdecl (f3 sl hsl2) p1 p2 (by simp [zfs]; exact hsl2) hd (fun H1 locs1 hP1 hD1 hS1 =>
          k ad ca H1 locs1 cells slots lsA (fun _ _ => rfl) (hW.upd (c := a) ha0 hq2 p3 p5 p6 p7 p10 hent hP1 hD1 hS1) hL (by rw [hnn]; exact hv1) (by rw [hnn]; exact (zVv_cons.mp (zVv_cons.mp hv2).2).2) (by simp [zcc, p4]) (by simp [zcs, p4]))
      · cases hs
    · cases hs
  · cases hs

theorem zn_iaload  (hd : decode (zKcode K) pc = .ok (.iaload, n)) (hn : (n == zilen (.iaload) || zilen (.iaload) == 0) = true) (hs : zstep K (.iaload) n d pc ls st σ = some (.inl (pc', ls', st', σ'))) (C : zCx p R s m args meth c K d A H0 (ad 0)) (hW : zWd D ad ca σ s A H0 H locs) (hL : zLs ad lsA (zKmax K) ls) (hv1 : zVv (znum σ) ls) (hv2 : zVv (znum σ) st) (hc : cells + zcc σ' ≤ R.cells + zcc σ) (hsl : slots + zcs σ' ≤ R.slots + zcs σ) (k : zCont p l e R s m args below meth c Q A H0 D (zKmax K) (znum σ) (zcc σ) (zcs σ) cells slots ad pc' ls' st' σ') : W p l e R s m args below meth c H locs cells slots Q (F0 m pc lsA (st.map (zv ad))) := by
  obtain ⟨hx, hb, hml, hown, hts, hini, hfr, hlo, hA, hbl, hbA⟩ := C
  have kk : ∀ {lsA' : Array Slot}, σ' = σ → zLs ad lsA' (zKmax K) ls' → zVv (znum σ) ls' → zVv (znum σ) st' → W p l e R s m args below meth c H locs cells slots Q (F0 m pc' lsA' (st'.map (zv ad))) := by
    intro lsA' he h1 h2 h3
    subst he
    exact k ad ca H locs cells slots lsA' (fun _ _ => rfl) hW h1 h2 h3 rfl rfl
  obtain rfl : n = 1 := by simpa [zilen] using hn
  replace hs : (match st with
    | .int i :: .ref a :: r => if (fun k a => k == 14 || (k == 99 && a == 0) : Nat → Nat → Bool) (zkind σ a) a = true ∧ a < znum σ ∧ ¬ (i < 0 ∨ zlen σ a ≤ i.toNatClampNeg) then zgo (pc + 1) ls (.int (zI σ a i.toNatClampNeg) :: r) σ else none
    | _ => none) = some (.inl (pc', ls', st', σ')) := hs
  split at hs
  · rename_i ix a r
    split at hs
    · rename_i hq
      obtain ⟨hq1, hq2, hq3⟩ := hq
      obtain ⟨rfl, rfl, rfl, rfl⟩ := zgo_eq hs
      obtain ⟨hP, hK, hD, hS, hX, h99, h1, hR⟩ := id hW
      simp only [Bool.or_eq_true, Bool.and_eq_true, beq_iff_eq] at hq1
      have hst : zVv (znum σ) (.int (zI σ a ix.toNatClampNeg) :: r) := zVv_cons.mpr ⟨trivial, (zVv_cons.mp (zVv_cons.mp hv2).2).2⟩
      rcases hq1 with hq1 | ⟨hq1, rfl⟩
      · have he := hW.get (c := a) (by omega) hq2 (zent_i (by omega) (by omega))
        exact va_iald hx hb (hK.K1 hq2 (by omega) (by omega) (by rw [hq1]; rfl)) hP (a - 1) 0 he rfl hq3 hd (kk rfl hL hv1 hst)
      · exact va_sld hx hb (hX hq1) hbl hbA hS hq3 hd (kk rfl hL hv1 hst)
    · cases hs
  · cases hs

theorem zn_baload  (hd : decode (zKcode K) pc = .ok (.baload, n)) (hn : (n == zilen (.baload) || zilen (.baload) == 0) = true) (hs : zstep K (.baload) n d pc ls st σ = some (.inl (pc', ls', st', σ'))) (C : zCx p R s m args meth c K d A H0 (ad 0)) (hW : zWd D ad ca σ s A H0 H locs) (hL : zLs ad lsA (zKmax K) ls) (hv1 : zVv (znum σ) ls) (hv2 : zVv (znum σ) st) (hc : cells + zcc σ' ≤ R.cells + zcc σ) (hsl : slots + zcs σ' ≤ R.slots + zcs σ) (k : zCont p l e R s m args below meth c Q A H0 D (zKmax K) (znum σ) (zcc σ) (zcs σ) cells slots ad pc' ls' st' σ') : W p l e R s m args below meth c H locs cells slots Q (F0 m pc lsA (st.map (zv ad))) := by
  obtain ⟨hx, hb, hml, hown, hts, hini, hfr, hlo, hA, hbl, hbA⟩ := C
  have kk : ∀ {lsA' : Array Slot}, σ' = σ → zLs ad lsA' (zKmax K) ls' → zVv (znum σ) ls' → zVv (znum σ) st' → W p l e R s m args below meth c H locs cells slots Q (F0 m pc' lsA' (st'.map (zv ad))) := by
    intro lsA' he h1 h2 h3
    subst he
    exact k ad ca H locs cells slots lsA' (fun _ _ => rfl) hW h1 h2 h3 rfl rfl
  obtain rfl : n = 1 := by simpa [zilen] using hn
  replace hs : (match st with
    | .int i :: .ref a :: r => if (fun k _ => k == 13 || k == 15 : Nat → Nat → Bool) (zkind σ a) a = true ∧ a < znum σ ∧ ¬ (i < 0 ∨ zlen σ a ≤ i.toNatClampNeg) then zgo (pc + 1) ls (.int (zI σ a i.toNatClampNeg) :: r) σ else none
    | _ => none) = some (.inl (pc', ls', st', σ')) := hs
  split at hs
  · rename_i ix a r
    split at hs
    · rename_i hq
      obtain ⟨hq1, hq2, hq3⟩ := hq
      obtain ⟨rfl, rfl, rfl, rfl⟩ := zgo_eq hs
      obtain ⟨hP, hK, hD, hS, hX, h99, h1, hR⟩ := id hW
      simp only [Bool.or_eq_true, beq_iff_eq] at hq1
      have hst : zVv (znum σ) (.int (zI σ a ix.toNatClampNeg) :: r) := zVv_cons.mpr ⟨trivial, (zVv_cons.mp (zVv_cons.mp hv2).2).2⟩
      have he := hW.get (c := a) (by omega) hq2 (zent_i (by omega) (by omega))
      rcases hq1 with hq1 | hq1
      · exact va_bald hx hb (hK.K1 hq2 (by omega) (by omega) (by rw [hq1]; rfl)) hP (a - 1) 0 he rfl hq3 hd (kk rfl hL hv1 hst)
      · exact va_zald hx hb (hK.K1 hq2 (by omega) (by omega) (by rw [hq1]; rfl)) hP (a - 1) 0 he rfl hq3 hd (kk rfl hL hv1 hst)
    · cases hs
  · cases hs

theorem zn_aaload  (hd : decode (zKcode K) pc = .ok (.aaload, n)) (hn : (n == zilen (.aaload) || zilen (.aaload) == 0) = true) (hs : zstep K (.aaload) n d pc ls st σ = some (.inl (pc', ls', st', σ'))) (C : zCx p R s m args meth c K d A H0 (ad 0)) (hW : zWd D ad ca σ s A H0 H locs) (hL : zLs ad lsA (zKmax K) ls) (hv1 : zVv (znum σ) ls) (hv2 : zVv (znum σ) st) (hc : cells + zcc σ' ≤ R.cells + zcc σ) (hsl : slots + zcs σ' ≤ R.slots + zcs σ) (k : zCont p l e R s m args below meth c Q A H0 D (zKmax K) (znum σ) (zcc σ) (zcs σ) cells slots ad pc' ls' st' σ') : W p l e R s m args below meth c H locs cells slots Q (F0 m pc lsA (st.map (zv ad))) := by
  obtain ⟨hx, hb, hml, hown, hts, hini, hfr, hlo, hA, hbl, hbA⟩ := C
  have kk : ∀ {lsA' : Array Slot}, σ' = σ → zLs ad lsA' (zKmax K) ls' → zVv (znum σ) ls' → zVv (znum σ) st' → W p l e R s m args below meth c H locs cells slots Q (F0 m pc' lsA' (st'.map (zv ad))) := by
    intro lsA' he h1 h2 h3
    subst he
    exact k ad ca H locs cells slots lsA' (fun _ _ => rfl) hW h1 h2 h3 rfl rfl
  obtain rfl : n = 1 := by simpa [zilen] using hn
  replace hs : (match st with
    | .int i :: .ref a :: r => if 16 ≤ zkind σ a ∧ zkind σ a ≤ 18 ∧ a < znum σ ∧ ¬ (i < 0 ∨ zlen σ a ≤ i.toNatClampNeg) then zgo (pc + 1) ls (va_rf (zR σ a i.toNatClampNeg) :: r) σ else none
    | _ => none) = some (.inl (pc', ls', st', σ')) := hs
  split at hs
  · rename_i ix a r
    split at hs
    · rename_i hq
      obtain ⟨hq0, hq1, hq2, hq3⟩ := hq
      obtain ⟨rfl, rfl, rfl, rfl⟩ := zgo_eq hs
      obtain ⟨hP, hK, hD, hS, hX, h99, h1, hR⟩ := id hW
      have hst : zVv (znum σ) (va_rf (zR σ a ix.toNatClampNeg) :: r) := zVv_cons.mpr ⟨zrf_ok hR, (zVv_cons.mp (zVv_cons.mp hv2).2).2⟩
      have he := hW.get (c := a) (by omega) hq2 (zent_r hq0 hq1)
      have hg := kk (lsA' := lsA) rfl hL hv1 hst
      rw [List.map_cons, zv_rf] at hg
      rcases (show zkind σ a = 16 ∨ zkind σ a = 17 ∨ zkind σ a = 18 by omega) with hq4 | hq4 | hq4
      · exact va_aldq hx hb (hK.K1 hq2 (by omega) (by omega) (ty := .object RX0) (by rw [hq4]; rfl)) hP (a - 1) 0 he rfl hq3 hd hg
      · exact va_aldq hx hb (hK.K1 hq2 (by omega) (by omega) (ty := .object RX4) (by rw [hq4]; rfl)) hP (a - 1) 0 he rfl hq3 hd hg
      · exact va_aldq hx hb (hK.K1 hq2 (by omega) (by omega) (ty := .object RX6) (by rw [hq4]; rfl)) hP (a - 1) 0 he rfl hq3 hd hg
    · cases hs
  · cases hs

theorem zn_laload  (hd : decode (zKcode K) pc = .ok (.laload, n)) (hn : (n == zilen (.laload) || zilen (.laload) == 0) = true) (hs : zstep K (.laload) n d pc ls st σ = some (.inl (pc', ls', st', σ'))) (C : zCx p R s m args meth c K d A H0 (ad 0)) (hW : zWd D ad ca σ s A H0 H locs) (hL : zLs ad lsA (zKmax K) ls) (hv1 : zVv (znum σ) ls) (hv2 : zVv (znum σ) st) (hc : cells + zcc σ' ≤ R.cells + zcc σ) (hsl : slots + zcs σ' ≤ R.slots + zcs σ) (k : zCont p l e R s m args below meth c Q A H0 D (zKmax K) (znum σ) (zcc σ) (zcs σ) cells slots ad pc' ls' st' σ') : W p l e R s m args below meth c H locs cells slots Q (F0 m pc lsA (st.map (zv ad))) := by
  obtain ⟨hx, hb, hml, hown, hts, hini, hfr, hlo, hA, hbl, hbA⟩ := C
  have kk : ∀ {lsA' : Array Slot}, σ' = σ → zLs ad lsA' (zKmax K) ls' → zVv (znum σ) ls' → zVv (znum σ) st' → W p l e R s m args below meth c H locs cells slots Q (F0 m pc' lsA' (st'.map (zv ad))) := by
    intro lsA' he h1 h2 h3
    subst he
    exact k ad ca H locs cells slots lsA' (fun _ _ => rfl) hW h1 h2 h3 rfl rfl
  obtain rfl : n = 1 := by simpa [zilen] using hn
  replace hs : (match st with
    | .int i :: .ref a :: r => if zkind σ a = 19 ∧ a < znum σ ∧ ¬ (i < 0 ∨ zlen σ a ≤ i.toNatClampNeg) then zgo (pc + 1) ls (.long (zL σ a i.toNatClampNeg) :: r) σ else none
    | _ => none) = some (.inl (pc', ls', st', σ')) := hs
  split at hs
  · rename_i ix a r
    split at hs
    · rename_i hq
      obtain ⟨hq1, hq2, hq3⟩ := hq
      obtain ⟨rfl, rfl, rfl, rfl⟩ := zgo_eq hs
      obtain ⟨hP, hK, hD, hS, hX, h99, h1, hR⟩ := id hW
      have hst : zVv (znum σ) (.long (zL σ a ix.toNatClampNeg) :: r) := zVv_cons.mpr ⟨trivial, (zVv_cons.mp (zVv_cons.mp hv2).2).2⟩
      have he := hW.get (c := a) (by omega) hq2 (zent_l (by omega))
      exact va_lald hx hb (hK.K1 hq2 (by omega) (by omega) (by rw [hq1]; rfl)) hP (a - 1) 0 he rfl hq3 hd (kk rfl hL hv1 hst)
    · cases hs
  · cases hs

theorem zn_iastore  (hd : decode (zKcode K) pc = .ok (.iastore, n)) (hn : (n == zilen (.iastore) || zilen (.iastore) == 0) = true) (hs : zstep K (.iastore) n d pc ls st σ = some (.inl (pc', ls', st', σ'))) (C : zCx p R s m args meth c K d A H0 (ad 0)) (hW : zWd D ad ca σ s A H0 H locs) (hL : zLs ad lsA (zKmax K) ls) (hv1 : zVv (znum σ) ls) (hv2 : zVv (znum σ) st) (hc : cells + zcc σ' ≤ R.cells + zcc σ) (hsl : slots + zcs σ' ≤ R.slots + zcs σ) (k : zCont p l e R s m args below meth c Q A H0 D (zKmax K) (znum σ) (zcc σ) (zcs σ) cells slots ad pc' ls' st' σ') : W p l e R s m args below meth c H locs cells slots Q (F0 m pc lsA (st.map (zv ad))) := by
  obtain ⟨hx, hb, hml, hown, hts, hini, hfr, hlo, hA, hbl, hbA⟩ := C
  have kk : ∀ {lsA' : Array Slot}, σ' = σ → zLs ad lsA' (zKmax K) ls' → zVv (znum σ) ls' → zVv (znum σ) st' → W p l e R s m args below meth c H locs cells slots Q (F0 m pc' lsA' (st'.map (zv ad))) := by
    intro lsA' he h1 h2 h3
    subst he
    exact k ad ca H locs cells slots lsA' (fun _ _ => rfl) hW h1 h2 h3 rfl rfl
  obtain rfl : n = 1 := by simpa [zilen] using hn
  replace hs : (match st with
    | .int x :: .int i :: .ref a :: r => if zkind σ a = 14 ∧ a < znum σ ∧ ¬ (i < 0 ∨ zlen σ a ≤ i.toNatClampNeg) then zgo (pc + 1) ls r (zsI σ a (upd (zI σ a) i.toNatClampNeg x)) else none
    | _ => none) = some (.inl (pc', ls', st', σ')) := hs
  split at hs
  · rename_i x ix a r
    split at hs
    · rename_i hq
      obtain ⟨hq1, hq2, hq3⟩ := hq
      obtain ⟨rfl, rfl, rfl, rfl⟩ := zgo_eq hs
      obtain ⟨hP, hK, hD, hS, hX, h99, h1, hR⟩ := id hW
      have hv3 := (zVv_cons.mp (zVv_cons.mp (zVv_cons.mp hv2).2).2).2
      have he := hW.get (c := a) (by omega) hq2 (zent_i (by omega) (by omega))
      have hR2 : zRv (zsI σ a (upd (zI σ a) ix.toNatClampNeg x)) := hR
      have hent : zent ad ca (zsI σ a (upd (zI σ a) ix.toNatClampNeg x)) a = .inl (ca a, (zlen σ a, .inl (upd (zI σ a) ix.toNatClampNeg x))) := by
        rw [zent_i (by show ¬ zkind σ a < 13; omega) (by show zkind σ a ≤ 15; omega), zI_sI, if_pos rfl]
        rfl
      exact va_iast hx hb (hK.K1 hq2 (by omega) (by omega) (by rw [hq1]; rfl)) hP hD hS (a - 1) 0 he rfl hq3 hd (fun H1 locs1 hP1 hD1 hS1 => k ad ca H1 locs1 cells slots lsA (fun _ _ => rfl) (hW.upd (c := a) (hW.ne0 (by omega)) hq2 rfl (fun j hj => by rw [zI_sI, if_neg hj]) (fun _ _ => rfl) (fun _ _ => rfl) hR2 hent hP1 hD1 hS1) hL hv1 hv3 rfl rfl)
    · cases hs
  · cases hs

theorem zn_bastore  (hd : decode (zKcode K) pc = .ok (.bastore, n)) (hn : (n == zilen (.bastore) || zilen (.bastore) == 0) = true) (hs : zstep K (.bastore) n d pc ls st σ = some (.inl (pc', ls', st', σ'))) (C : zCx p R s m args meth c K d A H0 (ad 0)) (hW : zWd D ad ca σ s A H0 H locs) (hL : zLs ad lsA (zKmax K) ls) (hv1 : zVv (znum σ) ls) (hv2 : zVv (znum σ) st) (hc : cells + zcc σ' ≤ R.cells + zcc σ) (hsl : slots + zcs σ' ≤ R.slots + zcs σ) (k : zCont p l e R s m args below meth c Q A H0 D (zKmax K) (znum σ) (zcc σ) (zcs σ) cells slots ad pc' ls' st' σ') : W p l e R s m args below meth c H locs cells slots Q (F0 m pc lsA (st.map (zv ad))) := by
  obtain ⟨hx, hb, hml, hown, hts, hini, hfr, hlo, hA, hbl, hbA⟩ := C
  have kk : ∀ {lsA' : Array Slot}, σ' = σ → zLs ad lsA' (zKmax K) ls' → zVv (znum σ) ls' → zVv (znum σ) st' → W p l e R s m args below meth c H locs cells slots Q (F0 m pc' lsA' (st'.map (zv ad))) := by
    intro lsA' he h1 h2 h3
    subst he
    exact k ad ca H locs cells slots lsA' (fun _ _ => rfl) hW h1 h2 h3 rfl rfl
  obtain rfl : n = 1 := by simpa [zilen] using hn
  replace hs : (match st with
    | .int x :: .int i :: .ref a :: r => if (zkind σ a = 13 ∨ zkind σ a = 15) ∧ a < znum σ ∧ ¬ (i < 0 ∨ zlen σ a ≤ i.toNatClampNeg) then zgo (pc + 1) ls r (zsI σ a (upd (zI σ a) i.toNatClampNeg (vp_nar (zAty (zkind σ a)) x))) else none
    | _ => none) = some (.inl (pc', ls', st', σ')) := hs
  split at hs
  · rename_i x ix a r
    split at hs
    · rename_i hq
      obtain ⟨hq1, hq2, hq3⟩ := hq
      obtain ⟨rfl, rfl, rfl, rfl⟩ := zgo_eq hs
      obtain ⟨hP, hK, hD, hS, hX, h99, h1, hR⟩ := id hW
      have hv3 := (zVv_cons.mp (zVv_cons.mp (zVv_cons.mp hv2).2).2).2
      have he := hW.get (c := a) (by omega) hq2 (zent_i (by omega) (by omega))
      have hR2 : zRv (zsI σ a (upd (zI σ a) ix.toNatClampNeg (vp_nar (zAty (zkind σ a)) x))) := hR
      have hent : zent ad ca (zsI σ a (upd (zI σ a) ix.toNatClampNeg (vp_nar (zAty (zkind σ a)) x))) a = .inl (ca a, (zlen σ a, .inl (upd (zI σ a) ix.toNatClampNeg (vp_nar (zAty (zkind σ a)) x)))) := by
        rw [zent_i (by show ¬ zkind σ a < 13; omega) (by show zkind σ a ≤ 15; omega), zI_sI, if_pos rfl]
        rfl
      rcases hq1 with hq1 | hq1
      · have ht : zAty (zkind σ a) = .byte := by rw [hq1]; rfl
        rw [ht] at hent hR2 k
        exact va_bast hx hb (hK.K1 hq2 (by omega) (by omega) ht) hP hD hS (a - 1) 0 he rfl hq3 hd (fun H1 locs1 hP1 hD1 hS1 => k ad ca H1 locs1 cells slots lsA (fun _ _ => rfl) (hW.upd (c := a) (hW.ne0 (by omega)) hq2 rfl (fun j hj => by rw [zI_sI, if_neg hj]) (fun _ _ => rfl) (fun _ _ => rfl) hR2 hent hP1 hD1 hS1) hL hv1 hv3 rfl rfl)
      · have ht : zAty (zkind σ a) = .boolean := by rw [hq1]; rfl
        rw [ht] at hent hR2 k
        exact va_zast hx hb (hK.K1 hq2 (by omega) (by omega) ht) hP hD hS (a - 1) 0 he rfl hq3 hd (fun H1 locs1 hP1 hD1 hS1 => k ad ca H1 locs1 cells slots lsA (fun _ _ => rfl) (hW.upd (c := a) (hW.ne0 (by omega)) hq2 rfl (fun j hj => by rw [zI_sI, if_neg hj]) (fun _ _ => rfl) (fun _ _ => rfl) hR2 hent hP1 hD1 hS1) hL hv1 hv3 rfl rfl)
    · cases hs
  · cases hs

theorem zn_lastore  (hd : decode (zKcode K) pc = .ok (.lastore, n)) (hn : (n == zilen (.lastore) || zilen (.lastore) == 0) = true) (hs : zstep K (.lastore) n d pc ls st σ = some (.inl (pc', ls', st', σ'))) (C : zCx p R s m args meth c K d A H0 (ad 0)) (hW : zWd D ad ca σ s A H0 H locs) (hL : zLs ad lsA (zKmax K) ls) (hv1 : zVv (znum σ) ls) (hv2 : zVv (znum σ) st) (hc : cells + zcc σ' ≤ R.cells + zcc σ) (hsl : slots + zcs σ' ≤ R.slots + zcs σ) (k : zCont p l e R s m args below meth c Q A H0 D (zKmax K) (znum σ) (zcc σ) (zcs σ) cells slots ad pc' ls' st' σ') : W p l e R s m args below meth c H locs cells slots Q (F0 m pc lsA (st.map (zv ad))) := by
  obtain ⟨hx, hb, hml, hown, hts, hini, hfr, hlo, hA, hbl, hbA⟩ := C
  have kk : ∀ {lsA' : Array Slot}, σ' = σ → zLs ad lsA' (zKmax K) ls' → zVv (znum σ) ls' → zVv (znum σ) st' → W p l e R s m args below meth c H locs cells slots Q (F0 m pc' lsA' (st'.map (zv ad))) := by
    intro lsA' he h1 h2 h3
    subst he
    exact k ad ca H locs cells slots lsA' (fun _ _ => rfl) hW h1 h2 h3 rfl rfl
  obtain rfl : n = 1 := by simpa [zilen] using hn
  replace hs : (match st with
    | .long x :: .int i :: .ref a :: r => if zkind σ a = 19 ∧ a < znum σ ∧ ¬ (i < 0 ∨ zlen σ a ≤ i.toNatClampNeg) then zgo (pc + 1) ls r (zsL σ a (vp_updL (zL σ a) i.toNatClampNeg x)) else none
    | _ => none) = some (.inl (pc', ls', st', σ')) := hs
  split at hs
  · rename_i x ix a r
    split at hs
    · rename_i hq
      obtain ⟨hq1, hq2, hq3⟩ := hq
      obtain ⟨rfl, rfl, rfl, rfl⟩ := zgo_eq hs
      obtain ⟨hP, hK, hD, hS, hX, h99, h1, hR⟩ := id hW
      have hv3 := (zVv_cons.mp (zVv_cons.mp (zVv_cons.mp hv2).2).2).2
      have he := hW.get (c := a) (by omega) hq2 (zent_l (by omega))
      have hR2 : zRv (zsL σ a (vp_updL (zL σ a) ix.toNatClampNeg x)) := hR
      have hent : zent ad ca (zsL σ a (vp_updL (zL σ a) ix.toNatClampNeg x)) a = .inl (ca a, (zlen σ a, .inr (.inl (vp_updL (zL σ a) ix.toNatClampNeg x)))) := by
        rw [zent_l (by show 19 ≤ zkind σ a; omega), zL_sL, if_pos rfl]
        rfl
      exact va_last hx hb (hK.K1 hq2 (by omega) (by omega) (by rw [hq1]; rfl)) hP hD hS (a - 1) 0 he rfl hq3 hd (fun H1 locs1 hP1 hD1 hS1 => k ad ca H1 locs1 cells slots lsA (fun _ _ => rfl) (hW.upd (c := a) (hW.ne0 (by omega)) hq2 rfl (fun _ _ => rfl) (fun j hj => by rw [zL_sL, if_neg hj]) (fun _ _ => rfl) hR2 hent hP1 hD1 hS1) hL hv1 hv3 rfl rfl)
    · cases hs
  · cases hs

theorem zn_aastore  (hd : decode (zKcode K) pc = .ok (.aastore, n)) (hn : (n == zilen (.aastore) || zilen (.aastore) == 0) = true) (hs : zstep K (.aastore) n d pc ls st σ = some (.inl (pc', ls', st', σ'))) (C : zCx p R s m args meth c K d A H0 (ad 0)) (hW : zWd D ad ca σ s A H0 H locs) (hL : zLs ad lsA (zKmax K) ls) (hv1 : zVv (znum σ) ls) (hv2 : zVv (znum σ) st) (hc : cells + zcc σ' ≤ R.cells + zcc σ) (hsl : slots + zcs σ' ≤ R.slots + zcs σ) (k : zCont p l e R s m args below meth c Q A H0 D (zKmax K) (znum σ) (zcc σ) (zcs σ) cells slots ad pc' ls' st' σ') : W p l e R s m args below meth c H locs cells slots Q (F0 m pc lsA (st.map (zv ad))) := by
  obtain ⟨hx, hb, hml, hown, hts, hini, hfr, hlo, hA, hbl, hbA⟩ := C
  have kk : ∀ {lsA' : Array Slot}, σ' = σ → zLs ad lsA' (zKmax K) ls' → zVv (znum σ) ls' → zVv (znum σ) st' → W p l e R s m args below meth c H locs cells slots Q (F0 m pc' lsA' (st'.map (zv ad))) := by
    intro lsA' he h1 h2 h3
    subst he
    exact k ad ca H locs cells slots lsA' (fun _ _ => rfl) hW h1 h2 h3 rfl rfl
  obtain rfl : n = 1 := by simpa [zilen] using hn
  replace hs : (match st with
    | .ref v :: .int i :: .ref a :: r => if ((zkind σ a = 16 ∧ zkind σ v = 0) ∨ (zkind σ a = 17 ∧ zkind σ v = 4) ∨ (zkind σ a = 18 ∧ zkind σ v = 6)) ∧ v < znum σ ∧ a < znum σ ∧ ¬ (i < 0 ∨ zlen σ a ≤ i.toNatClampNeg) then zgo (pc + 1) ls r (zsR σ a (va_up (zR σ a) i.toNatClampNeg (some v))) else none
    | _ => none) = some (.inl (pc', ls', st', σ')) := hs
  split at hs
  · rename_i v ix a r
    split at hs
    · rename_i hq
      obtain ⟨hq1, hq3, hq2, hq4⟩ := hq
      obtain ⟨rfl, rfl, rfl, rfl⟩ := zgo_eq hs
      obtain ⟨hP, hK, hD, hS, hX, h99, h1, hR⟩ := id hW
      have hv3 := (zVv_cons.mp (zVv_cons.mp (zVv_cons.mp hv2).2).2).2
      have he := hW.get (c := a) (by omega) hq2 (zent_r (by omega) (by omega))
      have hR2 : zRv (zsR σ a (va_up (zR σ a) ix.toNatClampNeg (some v))) := by
        intro c' k' b hb2
        rw [zR_sR] at hb2
        split at hb2
        · unfold va_up at hb2
          split at hb2
          · cases hb2; exact hq3
          · exact hR _ _ _ hb2
        · exact hR _ _ _ hb2
      have hent : zent ad ca (zsR σ a (va_up (zR σ a) ix.toNatClampNeg (some v))) a = .inl (ca a, (zlen σ a, .inr (.inr (.inr (.inr (va_up (fun k => (zR σ a k).map ad) ix.toNatClampNeg (some (ad v)))))))) := by
        rw [zent_r (by show 16 ≤ zkind σ a; omega) (by show zkind σ a ≤ 18; omega), zR_sR, if_pos rfl]
        have : (fun k => (va_up (zR σ a) ix.toNatClampNeg (some v) k).map ad) = va_up (fun k => (zR σ a k).map ad) ix.toNatClampNeg (some (ad v)) := by
          funext j
          unfold va_up
          split <;> rfl
        rw [this]
        rfl
      rcases hq1 with ⟨hq1, hq2'⟩ | ⟨hq1, hq2'⟩ | ⟨hq1, hq2'⟩
      · have he2 := hW.get (c := v) (by omega) hq3 (zent_obj (by omega))
        rw [hq2'] at he2
        exact va_astq (r := (zC 0, zT 0, zN 0)) hx hb (hK.K1 hq2 (by omega) (by omega) (by rw [hq1]; rfl)) hP hD hS (a - 1) 0 (v - 1) 0 he rfl he2 rfl hq4 hd (fun H1 locs1 hP1 hD1 hS1 => k ad ca H1 locs1 cells slots lsA (fun _ _ => rfl) (hW.upd (c := a) (hW.ne0 (by omega)) hq2 rfl (fun _ _ => rfl) (fun _ _ => rfl) (fun j hj => by rw [zR_sR, if_neg hj]) hR2 hent hP1 hD1 hS1) hL hv1 hv3 rfl rfl)
      · have he2 := hW.get (c := v) (by omega) hq3 (zent_obj (by omega))
        rw [hq2'] at he2
        exact va_astq (r := (zC 4, zT 4, zN 4)) hx hb (hK.K1 hq2 (by omega) (by omega) (by rw [hq1]; rfl)) hP hD hS (a - 1) 0 (v - 1) 4 he rfl he2 rfl hq4 hd (fun H1 locs1 hP1 hD1 hS1 => k ad ca H1 locs1 cells slots lsA (fun _ _ => rfl) (hW.upd (c := a) (hW.ne0 (by omega)) hq2 rfl (fun _ _ => rfl) (fun _ _ => rfl) (fun j hj => by rw [zR_sR, if_neg hj]) hR2 hent hP1 hD1 hS1) hL hv1 hv3 rfl rfl)
      · have he2 := hW.get (c := v) (by omega) hq3 (zent_obj (by omega))
        rw [hq2'] at he2
        exact va_astq (r := (zC 6, zT 6, zN 6)) hx hb (hK.K1 hq2 (by omega) (by omega) (by rw [hq1]; rfl)) hP hD hS (a - 1) 0 (v - 1) 6 he rfl he2 rfl hq4 hd (fun H1 locs1 hP1 hD1 hS1 => k ad ca H1 locs1 cells slots lsA (fun _ _ => rfl) (hW.upd (c := a) (hW.ne0 (by omega)) hq2 rfl (fun _ _ => rfl) (fun _ _ => rfl) (fun j hj => by rw [zR_sR, if_neg hj]) hR2 hent hP1 hD1 hS1) hL hv1 hv3 rfl rfl)
    · cases hs
  · cases hs

theorem zn_arraylength  (hd : decode (zKcode K) pc = .ok (.arraylength, n)) (hn : (n == zilen (.arraylength) || zilen (.arraylength) == 0) = true) (hs : zstep K (.arraylength) n d pc ls st σ = some (.inl (pc', ls', st', σ'))) (C : zCx p R s m args meth c K d A H0 (ad 0)) (hW : zWd D ad ca σ s A H0 H locs) (hL : zLs ad lsA (zKmax K) ls) (hv1 : zVv (znum σ) ls) (hv2 : zVv (znum σ) st) (hc : cells + zcc σ' ≤ R.cells + zcc σ) (hsl : slots + zcs σ' ≤ R.slots + zcs σ) (k : zCont p l e R s m args below meth c Q A H0 D (zKmax K) (znum σ) (zcc σ) (zcs σ) cells slots ad pc' ls' st' σ') : W p l e R s m args below meth c H locs cells slots Q (F0 m pc lsA (st.map (zv ad))) := by
  obtain ⟨hx, hb, hml, hown, hts, hini, hfr, hlo, hA, hbl, hbA⟩ := C
  have kk : ∀ {lsA' : Array Slot}, σ' = σ → zLs ad lsA' (zKmax K) ls' → zVv (znum σ) ls' → zVv (znum σ) st' → W p l e R s m args below meth c H locs cells slots Q (F0 m pc' lsA' (st'.map (zv ad))) := by
    intro lsA' he h1 h2 h3
    subst he
    exact k ad ca H locs cells slots lsA' (fun _ _ => rfl) hW h1 h2 h3 rfl rfl
  obtain rfl : n = 1 := by simpa [zilen] using hn
  replace hs : (match st with
    | .ref a :: r => if 13 ≤ zkind σ a ∧ a < znum σ ∧ (zkind σ a ≤ 19 ∨ (zkind σ a = 99 ∧ a = 0)) then zgo (pc + 1) ls (.int (Int32.ofNat (zlen σ a)) :: r) σ else none
    | _ => none) = some (.inl (pc', ls', st', σ')) := hs
  split at hs
  · rename_i a r
    split at hs
    · rename_i hq
      obtain ⟨hq0, hq2, hq1⟩ := hq
      obtain ⟨rfl, rfl, rfl, rfl⟩ := zgo_eq hs
      obtain ⟨hP, hK, hD, hS, hX, h99, h1, hR⟩ := id hW
      have hst : zVv (znum σ) (.int (Int32.ofNat (zlen σ a)) :: r) := zVv_cons.mpr ⟨trivial, (zVv_cons.mp hv2).2⟩
      rcases hq1 with hq1 | ⟨hq1, rfl⟩
      · rcases (show zkind σ a ≤ 15 ∨ (16 ≤ zkind σ a ∧ zkind σ a ≤ 18) ∨ 19 ≤ zkind σ a by omega) with h3 | ⟨h3, h4⟩ | h3
        · exact va_alen hx hb (hK.K1 hq2 (by omega) (by omega) rfl) hP (a - 1) 0 (hW.get (c := a) (by omega) hq2 (zent_i (by omega) h3)) rfl rfl hd (kk rfl hL hv1 hst)
        · exact va_alen hx hb (hK.K1 hq2 (by omega) (by omega) rfl) hP (a - 1) 0 (hW.get (c := a) (by omega) hq2 (zent_r h3 h4)) rfl rfl hd (kk rfl hL hv1 hst)
        · exact va_alen hx hb (hK.K1 hq2 (by omega) (by omega) rfl) hP (a - 1) 0 (hW.get (c := a) (by omega) hq2 (zent_l h3)) rfl rfl hd (kk rfl hL hv1 hst)
      · exact va_slen hx hb (hX hq1) hbl hbA hS hd (kk rfl hL hv1 hst)
    · cases hs
  · cases hs

end ZN
