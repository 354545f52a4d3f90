/-! instructions that make cells; those that are known of themselves -/
theorem zdef_all : ∀ tc, tc < 13 → ∀ j, j < zN tc → defaultValue (zty tc j) = (match zty tc j with | .long => Value.long 0 | .object _ => .null | .array _ => .null | _ => .int 0) := by
  intro tc h
  rcases (show tc = 0 ∨ tc = 1 ∨ tc = 2 ∨ tc = 3 ∨ tc = 4 ∨ tc = 5 ∨ tc = 6 ∨ tc = 7 ∨ tc = 8 ∨ tc = 9 ∨ tc = 10 ∨ tc = 11 ∨ tc = 12 by omega) with rfl | rfl | rfl | rfl | rfl | rfl | rfl | rfl | rfl | rfl | rfl | rfl | rfl <;> decide +kernel
theorem zkind_N {σ : zS} {q : Nat × Nat} {w j : Nat} (h : j < znum σ) : zkind (zsN σ q w) j = zkind σ j := by
  simp [zkind, zsN, znum] at h ⊢
  rw [List.getElem?_append_left h]
theorem zlen_N {σ : zS} {q : Nat × Nat} {w j : Nat} (h : j < znum σ) : zlen (zsN σ q w) j = zlen σ j := by
  simp [zlen, zsN, znum] at h ⊢
  rw [List.getElem?_append_left h]
theorem zkind_Nn {σ : zS} {q : Nat × Nat} {w : Nat} : zkind (zsN σ q w) (znum σ) = q.1 := by simp [zkind, zsN, znum]
theorem zlen_Nn {σ : zS} {q : Nat × Nat} {w : Nat} : zlen (zsN σ q w) (znum σ) = q.2 := by simp [zlen, zsN, znum]
theorem znum_N {σ : zS} {q : Nat × Nat} {w : Nat} : znum (zsN σ q w) = znum σ + 1 := by simp [znum, zsN]
theorem zI_N {σ : zS} {q : Nat × Nat} {w j : Nat} : zI (zsN σ q w) j = if j = znum σ then (fun _ => 0) else zI σ j := rfl
theorem zL_N {σ : zS} {q : Nat × Nat} {w j : Nat} : zL (zsN σ q w) j = if j = znum σ then (fun _ => 0) else zL σ j := rfl
theorem zR_N {σ : zS} {q : Nat × Nat} {w j : Nat} : zR (zsN σ q w) j = if j = znum σ then (fun _ => none) else zR σ j := rfl
theorem zmapR {ad ad' : Nat → Nat} {σ : zS} {c k : Nat} (hR : zRv σ) (h : ∀ j, j < znum σ → ad' j = ad j) : (zR σ c k).map ad' = (zR σ c k).map ad := by
  cases hr : zR σ c k with
  | none => rfl
  | some a => exact congrArg some (h a (hR c k a hr))
theorem zent_N {ad ad' : Nat → Nat} {ca ca' : Nat → ClassId} {σ : zS} {q : Nat × Nat} {w j : Nat} (hj : j < znum σ) (hR : zRv σ) (h : ∀ j, j < znum σ → ad' j = ad j) (hc : ca' j = ca j) : zent ad' ca' (zsN σ q w) j = zent ad ca σ j := by
  have hne : ¬ j = znum σ := by omega
  have e3 : ∀ ci, zfs ad' (zsN σ q w) j ci = zfs ad σ j ci := fun ci => List.map_congr_left fun k _ => by
    simp only [zfv, zI_N, zL_N, zR_N, if_neg hne, zmapR hR h]
  simp only [zent, zkind_N hj, zlen_N hj, e3, zI_N, zL_N, zR_N, if_neg hne, zmapR hR h, hc]
theorem zWd.app {D : va_G} {ad : Nat → Nat} {ca : Nat → ClassId} {σ : zS} {s : State} {A : Nat → Prop} {H0 H H1 : Heap} {locs : List Loc} (hW : zWd D ad ca σ s A H0 H locs) {q : Nat × Nat} {w q0 : Nat} {cA : ClassId} {e : va_E}
    (hK1 : 13 ≤ q.1 → q.1 ≤ 19 → ArrOfT s cA (zAty q.1) ∧ va_RA s cA (zAty q.1)) (he : zent (fun j => if j = znum σ then q0 else ad j) (fun j => if j = znum σ then cA else ca j) (zsN σ q w) (znum σ) = e)
    (hP : va_P D vwCl (zws ad ca σ ++ [(q0, e)]) H1) (hD : va_D A (zws ad ca σ ++ [(q0, e)])) (hS : va_S A H0 H1 locs) : zWd D (fun j => if j = znum σ then q0 else ad j) (fun j => if j = znum σ then cA else ca j) (zsN σ q w) s A H0 H1 locs := by
  obtain ⟨-, hK, -, -, hX, h99, h1, hR⟩ := hW
  have hn0 : ¬ 0 = znum σ := by omega
  have ew : zws (fun j => if j = znum σ then q0 else ad j) (fun j => if j = znum σ then cA else ca j) (zsN σ q w) = zws ad ca σ ++ [(q0, e)] := by
    obtain ⟨n, hn⟩ : ∃ n, znum σ = n + 1 := ⟨znum σ - 1, by omega⟩
    have e1 : znum (zsN σ q w) - 1 = n + 1 := by rw [znum_N]; omega
    have e2 : znum σ - 1 = n := by omega
    simp only [zws, e1, e2]
    rw [List.range_succ, List.map_append]
    congr 1
    · refine List.map_congr_left fun i hi => ?_
      have hi2 : i + 1 < znum σ := by have := List.mem_range.mp hi; omega
      have hne : ¬ i + 1 = znum σ := by omega
      rw [zent_N (ad := ad) (ca := ca) hi2 hR (fun j hj => by rw [if_neg (by omega)]) (by simp [hne])]
      simp [hne]
    · simp only [List.map_cons, List.map_nil, ← hn, if_pos]
      rw [he]
  refine ⟨by rw [ew]; exact hP, ⟨hK.1, fun c hc a b => ?_, hK.2.2⟩, by rw [ew]; exact hD, hS, ?_, ?_, by rw [znum_N]; omega, fun c k a ha => ?_⟩
  · rw [znum_N] at hc
    by_cases hcn : c = znum σ
    · subst hcn
      rw [zkind_Nn] at a b ⊢
      simpa using hK1 a b
    · have hlt : c < znum σ := by omega
      rw [zkind_N hlt] at a b ⊢
      simpa [hcn] using hK.2.1 c hlt a b
  · rw [zlen_N (by omega), zI_N, if_neg hn0, zkind_N (by omega)]
    simpa [hn0] using hX
  · rw [zkind_N (by omega)]; exact h99
  · rw [znum_N]
    rw [zR_N] at ha
    split at ha
    · cases ha
    · have := hR c k a ha
      omega
section ZN
variable {p : Program} {l : Launch} {e : Env} {R : Room} {s : State} {m : MethodId} {args : Array Value} {below : List Frame} {meth : Method} {c : Code} {Q : State → Prop} {A : Nat → Prop} {H0 H : Heap} {D : va_G} {K : zK} {d pc n pc' cells slots : Nat} {i : Instr} {ls st ls' st' : List Value} {σ σ' : zS} {ad : Nat → Nat} {ca : Nat → ClassId} {lsA : Array Slot} {locs : List Loc}
theorem zad_new {q0 n : Nat} {ad : Nat → Nat} : ∀ j, j < n → (fun j => if j = n then q0 else ad j) j = ad j := fun j hj => by
  show (if j = n then q0 else ad j) = ad j
  rw [if_neg (by omega)]

theorem zn_new {k0 : Nat} (hd : decode (zKcode K) pc = .ok (.new k0, n)) (hn : (n == zilen (.new k0) || zilen (.new k0) == 0) = true) (hs : zstep K (.new k0) n d pc ls st σ = some (.inl (pc', ls', st', σ'))) (C : zCx p R s m args meth c K d A H0 (ad 0)) (hW : zWd D ad ca σ s A H0 H locs) (hL : zLs ad lsA (zKmax K) ls) (hv1 : zVv (znum σ) ls) (hv2 : zVv (znum σ) st) (hc : cells + zcc σ' ≤ R.cells + zcc σ) (hsl : slots + zcs σ' ≤ R.slots + zcs σ) (k : zCont p l e R s m args below meth c Q A H0 D (zKmax K) (znum σ) (zcc σ) (zcs σ) cells slots ad pc' ls' st' σ') : W p l e R s m args below meth c H locs cells slots Q (F0 m pc lsA (st.map (zv ad))) := by
  obtain ⟨hx, hb, hml, hown, hts, hini, hfr, hlo, hA, hbl, hbA⟩ := C
  have kk : ∀ {lsA' : Array Slot}, σ' = σ → zLs ad lsA' (zKmax K) ls' → zVv (znum σ) ls' → zVv (znum σ) st' → W p l e R s m args below meth c H locs cells slots Q (F0 m pc' lsA' (st'.map (zv ad))) := by
    intro lsA' he h1 h2 h3
    subst he
    exact k ad ca H locs cells slots lsA' (fun _ _ => rfl) hW h1 h2 h3 rfl rfl
  obtain rfl : n = 3 := by simpa [zilen] using hn
  replace hs : (match zcls (zKci K) k0 with | some tc => zgo (pc + 3) ls (.ref (znum σ) :: st) (zsN σ (tc, zN tc) (zN tc)) | none => (match (generalizing := false) st with | [] => if zKci K = 11 ∧ k0 = 161 ∧ pc = 17 then some (.inr (.inl (some zThr))) else none | _ => none : Option zN3)) = some (.inl (pc', ls', st', σ')) := hs
  split at hs
  · rename_i tc hcl
    obtain ⟨rfl, rfl, rfl, rfl⟩ := zgo_eq hs
    obtain ⟨hw, h13⟩ := zcls_ok hcl
    obtain ⟨f1, f2, f3, f4, f5, f6⟩ := zcF_all tc h13
    obtain ⟨hP, hK, hD, hS, hX, h99, h1, hR⟩ := id hW
    have e1 : zcc (zsN σ (tc, zN tc) (zN tc)) = zcc σ + 1 := rfl
    have e2 : zcs (zsN σ (tc, zN tc) (zN tc)) = zcs σ + zN tc := rfl
    have hfs : ∀ (ad' : Nat → Nat) (j : Nat), j < zN tc → defaultValue (zty tc j) = vp_V (zfs ad' (zsN σ (tc, zN tc) (zN tc)) (znum σ) tc) j := by
      intro ad' j hj
      have hg := zfs_get (ad := ad') (σ := zsN σ (tc, zN tc) (zN tc)) (c := znum σ) hj
      unfold vp_V
      rw [List.getD_eq_getElem?_getD, hg, zdef_all tc h13 j hj]
      simp only [Option.getD_some, zfv, zI_N, zL_N, zR_N, if_pos]
      generalize zty tc j = ty
      cases ty <;> rfl
    refine va_new hx hb hts f2 (zty tc) f3 hown (hts _ hw) (hts _ f5) (hts _ f6) hK.K0 hP hD hS hA f1 (hfs ad) (by omega) (by omega) hd (fun q0 H1 hP1 hD1 hS1 => ?_)
    have hent : zent (fun j => if j = znum σ then q0 else ad j) (fun j => if j = znum σ then ca 0 else ca j) (zsN σ (tc, zN tc) (zN tc)) (znum σ) = .inr (tc, zfs ad (zsN σ (tc, zN tc) (zN tc)) (znum σ) tc) := by
      have ek : zkind (zsN σ (tc, zN tc) (zN tc)) (znum σ) = tc := zkind_Nn
      rw [zent_obj (by rw [ek]; exact h13), ek]
      congr 2
      refine List.map_congr_left fun k _ => ?_
      simp only [zfv, zR_N, if_pos]
      rfl
    have hg := k (fun j => if j = znum σ then q0 else ad j) (fun j => if j = znum σ then ca 0 else ca j) H1 locs (cells + 1) (slots + zN tc) lsA zad_new (hW.app (fun h => absurd h (by show ¬ 13 ≤ tc; omega)) hent hP1 hD1 hS1) (hL.mono zad_new hv1) (zVv_mono (by rw [znum_N]; omega) hv1) (zVv_cons.mpr ⟨by show znum σ < _; rw [znum_N]; omega, zVv_mono (by rw [znum_N]; omega) hv2⟩) (by rw [e1]; omega) (by rw [e2]; omega)
    rw [List.map_cons, zv_eqL zad_new hv2] at hg
    have e4 : zv (fun j => if j = znum σ then q0 else ad j) (.ref (znum σ)) = .ref q0 := by simp [zv]
    rw [e4] at hg
    exact hg
  · split at hs
    · split at hs <;> cases hs
    · cases hs

theorem zarr_eq {k pc n pc' : Nat} {ls st ls' st' : List Value} {σ σ' : zS} (h : zarr k pc n ls st σ = some (.inl (pc', ls', st', σ'))) : ∃ x r, st = .int x :: r ∧ ¬ x < 0 ∧ x.toNatClampNeg ≤ 10000 ∧ pc' = pc + n ∧ ls' = ls ∧ st' = .ref (znum σ) :: r ∧ zsN σ (k, x.toNatClampNeg) x.toNatClampNeg = σ' := by
  unfold zarr at h
  split at h
  · split at h
    · rename_i hq
      obtain ⟨h1, h2, h3, h4⟩ := zgo_eq h
      exact ⟨_, _, rfl, hq.1, hq.2, h1, h2, h3, h4⟩
    · cases h
  · cases h

theorem zn_newarray_byte  (hd : decode (zKcode K) pc = .ok (.newarray .byte, n)) (hn : (n == zilen (.newarray .byte) || zilen (.newarray .byte) == 0) = true) (hs : zstep K (.newarray .byte) n d pc ls st σ = some (.inl (pc', ls', st', σ'))) (C : zCx p R s m args meth c K d A H0 (ad 0)) (hW : zWd D ad ca σ s A H0 H locs) (hL : zLs ad lsA (zKmax K) ls) (hv1 : zVv (znum σ) ls) (hv2 : zVv (znum σ) st) (hc : cells + zcc σ' ≤ R.cells + zcc σ) (hsl : slots + zcs σ' ≤ R.slots + zcs σ) (k : zCont p l e R s m args below meth c Q A H0 D (zKmax K) (znum σ) (zcc σ) (zcs σ) cells slots ad pc' ls' st' σ') : W p l e R s m args below meth c H locs cells slots Q (F0 m pc lsA (st.map (zv ad))) := by
  obtain ⟨hx, hb, hml, hown, hts, hini, hfr, hlo, hA, hbl, hbA⟩ := C
  have kk : ∀ {lsA' : Array Slot}, σ' = σ → zLs ad lsA' (zKmax K) ls' → zVv (znum σ) ls' → zVv (znum σ) st' → W p l e R s m args below meth c H locs cells slots Q (F0 m pc' lsA' (st'.map (zv ad))) := by
    intro lsA' he h1 h2 h3
    subst he
    exact k ad ca H locs cells slots lsA' (fun _ _ => rfl) hW h1 h2 h3 rfl rfl
  obtain rfl : n = 2 := by simpa [zilen] using hn
  obtain ⟨x, r, rfl, hx0, hx1, rfl, rfl, rfl, rfl⟩ := zarr_eq (show zarr 13 pc 2 ls st σ = _ from hs)
  obtain ⟨hP, hK, hD, hS, hX, h99, h1, hR⟩ := id hW
  have hv3 := (zVv_cons.mp hv2).2
  have e1 : zcc (zsN σ (13, x.toNatClampNeg) x.toNatClampNeg) = zcc σ + 1 := rfl
  have e2 : zcs (zsN σ (13, x.toNatClampNeg) x.toNatClampNeg) = zcs σ + x.toNatClampNeg := rfl
  refine va_newa (atype := .byte) (ty := .byte) (a0 := (x.toNatClampNeg, .inl (fun _ => 0))) hx hb (hts _ zac_byte) rfl hK.K0 hP hD hS hA (fun _ => rfl) hx0 rfl (by show x.toNatClampNeg * 1 ≤ _; omega) (by omega) (by omega) hd (fun q0 cA H1 hK1 hP1 hD1 hS1 => ?_)
  · have ek : zkind (zsN σ (13, x.toNatClampNeg) x.toNatClampNeg) (znum σ) = 13 := zkind_Nn
    have el : zlen (zsN σ (13, x.toNatClampNeg) x.toNatClampNeg) (znum σ) = x.toNatClampNeg := zlen_Nn
    have hent : zent (fun j => if j = znum σ then q0 else ad j) (fun j => if j = znum σ then cA else ca j) (zsN σ (13, x.toNatClampNeg) x.toNatClampNeg) (znum σ) = .inl (cA, (x.toNatClampNeg, .inl (fun _ => 0))) := by
      rw [zent_i (by rw [ek]; decide) (by rw [ek]; decide), el, zI_N, if_pos rfl]
      simp
    have hg := k (fun j => if j = znum σ then q0 else ad j) (fun j => if j = znum σ then cA else ca j) H1 locs (cells + 1) (slots + x.toNatClampNeg) lsA zad_new (hW.app (fun _ _ => hK1.2 0 _ rfl) hent hP1 hD1 hS1) (hL.mono zad_new hv1) (zVv_mono (by rw [znum_N]; omega) hv1) (zVv_cons.mpr ⟨by show znum σ < _; rw [znum_N]; omega, zVv_mono (by rw [znum_N]; omega) hv3⟩) (by rw [e1]; omega) (by rw [e2]; omega)
    rw [List.map_cons, zv_eqL zad_new hv3] at hg
    have e4 : zv (fun j => if j = znum σ then q0 else ad j) (.ref (znum σ)) = .ref q0 := by simp [zv]
    rw [e4] at hg
    exact hg

theorem zn_newarray_int  (hd : decode (zKcode K) pc = .ok (.newarray .int, n)) (hn : (n == zilen (.newarray .int) || zilen (.newarray .int) == 0) = true) (hs : zstep K (.newarray .int) n d pc ls st σ = some (.inl (pc', ls', st', σ'))) (C : zCx p R s m args meth c K d A H0 (ad 0)) (hW : zWd D ad ca σ s A H0 H locs) (hL : zLs ad lsA (zKmax K) ls) (hv1 : zVv (znum σ) ls) (hv2 : zVv (znum σ) st) (hc : cells + zcc σ' ≤ R.cells + zcc σ) (hsl : slots + zcs σ' ≤ R.slots + zcs σ) (k : zCont p l e R s m args below meth c Q A H0 D (zKmax K) (znum σ) (zcc σ) (zcs σ) cells slots ad pc' ls' st' σ') : W p l e R s m args below meth c H locs cells slots Q (F0 m pc lsA (st.map (zv ad))) := by
  obtain ⟨hx, hb, hml, hown, hts, hini, hfr, hlo, hA, hbl, hbA⟩ := C
  have kk : ∀ {lsA' : Array Slot}, σ' = σ → zLs ad lsA' (zKmax K) ls' → zVv (znum σ) ls' → zVv (znum σ) st' → W p l e R s m args below meth c H locs cells slots Q (F0 m pc' lsA' (st'.map (zv ad))) := by
    intro lsA' he h1 h2 h3
    subst he
    exact k ad ca H locs cells slots lsA' (fun _ _ => rfl) hW h1 h2 h3 rfl rfl
  obtain rfl : n = 2 := by simpa [zilen] using hn
  obtain ⟨x, r, rfl, hx0, hx1, rfl, rfl, rfl, rfl⟩ := zarr_eq (show zarr 14 pc 2 ls st σ = _ from hs)
  obtain ⟨hP, hK, hD, hS, hX, h99, h1, hR⟩ := id hW
  have hv3 := (zVv_cons.mp hv2).2
  have e1 : zcc (zsN σ (14, x.toNatClampNeg) x.toNatClampNeg) = zcc σ + 1 := rfl
  have e2 : zcs (zsN σ (14, x.toNatClampNeg) x.toNatClampNeg) = zcs σ + x.toNatClampNeg := rfl
  refine va_newa (atype := .int) (ty := .int) (a0 := (x.toNatClampNeg, .inl (fun _ => 0))) hx hb (hts _ zac_int) rfl hK.K0 hP hD hS hA (fun _ => rfl) hx0 rfl (by show x.toNatClampNeg * 4 ≤ _; omega) (by omega) (by omega) hd (fun q0 cA H1 hK1 hP1 hD1 hS1 => ?_)
  · have ek : zkind (zsN σ (14, x.toNatClampNeg) x.toNatClampNeg) (znum σ) = 14 := zkind_Nn
    have el : zlen (zsN σ (14, x.toNatClampNeg) x.toNatClampNeg) (znum σ) = x.toNatClampNeg := zlen_Nn
    have hent : zent (fun j => if j = znum σ then q0 else ad j) (fun j => if j = znum σ then cA else ca j) (zsN σ (14, x.toNatClampNeg) x.toNatClampNeg) (znum σ) = .inl (cA, (x.toNatClampNeg, .inl (fun _ => 0))) := by
      rw [zent_i (by rw [ek]; decide) (by rw [ek]; decide), el, zI_N, if_pos rfl]
      simp
    have hg := k (fun j => if j = znum σ then q0 else ad j) (fun j => if j = znum σ then cA else ca j) H1 locs (cells + 1) (slots + x.toNatClampNeg) lsA zad_new (hW.app (fun _ _ => hK1.2 0 _ rfl) hent hP1 hD1 hS1) (hL.mono zad_new hv1) (zVv_mono (by rw [znum_N]; omega) hv1) (zVv_cons.mpr ⟨by show znum σ < _; rw [znum_N]; omega, zVv_mono (by rw [znum_N]; omega) hv3⟩) (by rw [e1]; omega) (by rw [e2]; omega)
    rw [List.map_cons, zv_eqL zad_new hv3] at hg
    have e4 : zv (fun j => if j = znum σ then q0 else ad j) (.ref (znum σ)) = .ref q0 := by simp [zv]
    rw [e4] at hg
    exact hg

theorem zn_newarray_boolean  (hd : decode (zKcode K) pc = .ok (.newarray .boolean, n)) (hn : (n == zilen (.newarray .boolean) || zilen (.newarray .boolean) == 0) = true) (hs : zstep K (.newarray .boolean) n d pc ls st σ = some (.inl (pc', ls', st', σ'))) (C : zCx p R s m args meth c K d A H0 (ad 0)) (hW : zWd D ad ca σ s A H0 H locs) (hL : zLs ad lsA (zKmax K) ls) (hv1 : zVv (znum σ) ls) (hv2 : zVv (znum σ) st) (hc : cells + zcc σ' ≤ R.cells + zcc σ) (hsl : slots + zcs σ' ≤ R.slots + zcs σ) (k : zCont p l e R s m args below meth c Q A H0 D (zKmax K) (znum σ) (zcc σ) (zcs σ) cells slots ad pc' ls' st' σ') : W p l e R s m args below meth c H locs cells slots Q (F0 m pc lsA (st.map (zv ad))) := by
  obtain ⟨hx, hb, hml, hown, hts, hini, hfr, hlo, hA, hbl, hbA⟩ := C
  have kk : ∀ {lsA' : Array Slot}, σ' = σ → zLs ad lsA' (zKmax K) ls' → zVv (znum σ) ls' → zVv (znum σ) st' → W p l e R s m args below meth c H locs cells slots Q (F0 m pc' lsA' (st'.map (zv ad))) := by
    intro lsA' he h1 h2 h3
    subst he
    exact k ad ca H locs cells slots lsA' (fun _ _ => rfl) hW h1 h2 h3 rfl rfl
  obtain rfl : n = 2 := by simpa [zilen] using hn
  obtain ⟨x, r, rfl, hx0, hx1, rfl, rfl, rfl, rfl⟩ := zarr_eq (show zarr 15 pc 2 ls st σ = _ from hs)
  obtain ⟨hP, hK, hD, hS, hX, h99, h1, hR⟩ := id hW
  have hv3 := (zVv_cons.mp hv2).2
  have e1 : zcc (zsN σ (15, x.toNatClampNeg) x.toNatClampNeg) = zcc σ + 1 := rfl
  have e2 : zcs (zsN σ (15, x.toNatClampNeg) x.toNatClampNeg) = zcs σ + x.toNatClampNeg := rfl
  refine va_newa (atype := .boolean) (ty := .boolean) (a0 := (x.toNatClampNeg, .inl (fun _ => 0))) hx hb (hts _ zac_boolean) rfl hK.K0 hP hD hS hA (fun _ => rfl) hx0 rfl (by show x.toNatClampNeg * 1 ≤ _; omega) (by omega) (by omega) hd (fun q0 cA H1 hK1 hP1 hD1 hS1 => ?_)
  · have ek : zkind (zsN σ (15, x.toNatClampNeg) x.toNatClampNeg) (znum σ) = 15 := zkind_Nn
    have el : zlen (zsN σ (15, x.toNatClampNeg) x.toNatClampNeg) (znum σ) = x.toNatClampNeg := zlen_Nn
    have hent : zent (fun j => if j = znum σ then q0 else ad j) (fun j => if j = znum σ then cA else ca j) (zsN σ (15, x.toNatClampNeg) x.toNatClampNeg) (znum σ) = .inl (cA, (x.toNatClampNeg, .inl (fun _ => 0))) := by
      rw [zent_i (by rw [ek]; decide) (by rw [ek]; decide), el, zI_N, if_pos rfl]
      simp
    have hg := k (fun j => if j = znum σ then q0 else ad j) (fun j => if j = znum σ then cA else ca j) H1 locs (cells + 1) (slots + x.toNatClampNeg) lsA zad_new (hW.app (fun _ _ => hK1.2 0 _ rfl) hent hP1 hD1 hS1) (hL.mono zad_new hv1) (zVv_mono (by rw [znum_N]; omega) hv1) (zVv_cons.mpr ⟨by show znum σ < _; rw [znum_N]; omega, zVv_mono (by rw [znum_N]; omega) hv3⟩) (by rw [e1]; omega) (by rw [e2]; omega)
    rw [List.map_cons, zv_eqL zad_new hv3] at hg
    have e4 : zv (fun j => if j = znum σ then q0 else ad j) (.ref (znum σ)) = .ref q0 := by simp [zv]
    rw [e4] at hg
    exact hg

theorem zn_newarray_long  (hd : decode (zKcode K) pc = .ok (.newarray .long, n)) (hn : (n == zilen (.newarray .long) || zilen (.newarray .long) == 0) = true) (hs : zstep K (.newarray .long) n d pc ls st σ = some (.inl (pc', ls', st', σ'))) (C : zCx p R s m args meth c K d A H0 (ad 0)) (hW : zWd D ad ca σ s A H0 H locs) (hL : zLs ad lsA (zKmax K) ls) (hv1 : zVv (znum σ) ls) (hv2 : zVv (znum σ) st) (hc : cells + zcc σ' ≤ R.cells + zcc σ) (hsl : slots + zcs σ' ≤ R.slots + zcs σ) (k : zCont p l e R s m args below meth c Q A H0 D (zKmax K) (znum σ) (zcc σ) (zcs σ) cells slots ad pc' ls' st' σ') : W p l e R s m args below meth c H locs cells slots Q (F0 m pc lsA (st.map (zv ad))) := by
  obtain ⟨hx, hb, hml, hown, hts, hini, hfr, hlo, hA, hbl, hbA⟩ := C
  have kk : ∀ {lsA' : Array Slot}, σ' = σ → zLs ad lsA' (zKmax K) ls' → zVv (znum σ) ls' → zVv (znum σ) st' → W p l e R s m args below meth c H locs cells slots Q (F0 m pc' lsA' (st'.map (zv ad))) := by
    intro lsA' he h1 h2 h3
    subst he
    exact k ad ca H locs cells slots lsA' (fun _ _ => rfl) hW h1 h2 h3 rfl rfl
  obtain rfl : n = 2 := by simpa [zilen] using hn
  obtain ⟨x, r, rfl, hx0, hx1, rfl, rfl, rfl, rfl⟩ := zarr_eq (show zarr 19 pc 2 ls st σ = _ from hs)
  obtain ⟨hP, hK, hD, hS, hX, h99, h1, hR⟩ := id hW
  have hv3 := (zVv_cons.mp hv2).2
  have e1 : zcc (zsN σ (19, x.toNatClampNeg) x.toNatClampNeg) = zcc σ + 1 := rfl
  have e2 : zcs (zsN σ (19, x.toNatClampNeg) x.toNatClampNeg) = zcs σ + x.toNatClampNeg := rfl
  refine va_newa (atype := .long) (ty := .long) (a0 := (x.toNatClampNeg, .inr (.inl (fun _ => 0)))) hx hb (hts _ zac_long) rfl hK.K0 hP hD hS hA (fun _ => rfl) hx0 rfl (by show x.toNatClampNeg * 8 ≤ _; omega) (by omega) (by omega) hd (fun q0 cA H1 hK1 hP1 hD1 hS1 => ?_)
  · have ek : zkind (zsN σ (19, x.toNatClampNeg) x.toNatClampNeg) (znum σ) = 19 := zkind_Nn
    have el : zlen (zsN σ (19, x.toNatClampNeg) x.toNatClampNeg) (znum σ) = x.toNatClampNeg := zlen_Nn
    have hent : zent (fun j => if j = znum σ then q0 else ad j) (fun j => if j = znum σ then cA else ca j) (zsN σ (19, x.toNatClampNeg) x.toNatClampNeg) (znum σ) = .inl (cA, (x.toNatClampNeg, .inr (.inl (fun _ => 0)))) := by
      rw [zent_l (by rw [ek]; decide), el, zL_N, if_pos rfl]
      simp
    have hg := k (fun j => if j = znum σ then q0 else ad j) (fun j => if j = znum σ then cA else ca j) H1 locs (cells + 1) (slots + x.toNatClampNeg) lsA zad_new (hW.app (fun _ _ => hK1.2 0 _ rfl) hent hP1 hD1 hS1) (hL.mono zad_new hv1) (zVv_mono (by rw [znum_N]; omega) hv1) (zVv_cons.mpr ⟨by show znum σ < _; rw [znum_N]; omega, zVv_mono (by rw [znum_N]; omega) hv3⟩) (by rw [e1]; omega) (by rw [e2]; omega)
    rw [List.map_cons, zv_eqL zad_new hv3] at hg
    have e4 : zv (fun j => if j = znum σ then q0 else ad j) (.ref (znum σ)) = .ref q0 := by simp [zv]
    rw [e4] at hg
    exact hg

theorem zn_anewarray {k0 : Nat} (hd : decode (zKcode K) pc = .ok (.anewarray k0, n)) (hn : (n == zilen (.anewarray k0) || zilen (.anewarray k0) == 0) = true) (hs : zstep K (.anewarray k0) n d pc ls st σ = some (.inl (pc', ls', st', σ'))) (C : zCx p R s m args meth c K d A H0 (ad 0)) (hW : zWd D ad ca σ s A H0 H locs) (hL : zLs ad lsA (zKmax K) ls) (hv1 : zVv (znum σ) ls) (hv2 : zVv (znum σ) st) (hc : cells + zcc σ' ≤ R.cells + zcc σ) (hsl : slots + zcs σ' ≤ R.slots + zcs σ) (k : zCont p l e R s m args below meth c Q A H0 D (zKmax K) (znum σ) (zcc σ) (zcs σ) cells slots ad pc' ls' st' σ') : W p l e R s m args below meth c H locs cells slots Q (F0 m pc lsA (st.map (zv ad))) := by
  obtain ⟨hx, hb, hml, hown, hts, hini, hfr, hlo, hA, hbl, hbA⟩ := C
  have kk : ∀ {lsA' : Array Slot}, σ' = σ → zLs ad lsA' (zKmax K) ls' → zVv (znum σ) ls' → zVv (znum σ) st' → W p l e R s m args below meth c H locs cells slots Q (F0 m pc' lsA' (st'.map (zv ad))) := by
    intro lsA' he h1 h2 h3
    subst he
    exact k ad ca H locs cells slots lsA' (fun _ _ => rfl) hW h1 h2 h3 rfl rfl
  obtain rfl : n = 3 := by simpa [zilen] using hn
  replace hs : (match zcls (zKci K) k0 with
    | some 0 => zarr 16 pc 3 ls st σ
    | some 4 => zarr 17 pc 3 ls st σ
    | some 6 => zarr 18 pc 3 ls st σ
    | _ => none) = some (.inl (pc', ls', st', σ')) := hs
  obtain ⟨hP, hK, hD, hS, hX, h99, h1, hR⟩ := id hW
  split at hs
  · rename_i hcl
    obtain ⟨x, r, rfl, hx0, hx1, rfl, rfl, rfl, rfl⟩ := zarr_eq hs
    have hv3 := (zVv_cons.mp hv2).2
    have e1 : zcc (zsN σ (16, x.toNatClampNeg) x.toNatClampNeg) = zcc σ + 1 := rfl
    have e2 : zcs (zsN σ (16, x.toNatClampNeg) x.toNatClampNeg) = zcs σ + x.toNatClampNeg := rfl
    refine va_newq (C := zC 0) hx hb hown (hts _ (zcls_ok hcl).1) hK.2.2.1.1 hK.K0 hP hD hS hA hx0 rfl (by omega) (by omega) (by omega) hd (fun q0 cA H1 hK1 hP1 hD1 hS1 => ?_)
    have ek : zkind (zsN σ (16, x.toNatClampNeg) x.toNatClampNeg) (znum σ) = 16 := zkind_Nn
    have el : zlen (zsN σ (16, x.toNatClampNeg) x.toNatClampNeg) (znum σ) = x.toNatClampNeg := zlen_Nn
    have hent : zent (fun j => if j = znum σ then q0 else ad j) (fun j => if j = znum σ then cA else ca j) (zsN σ (16, x.toNatClampNeg) x.toNatClampNeg) (znum σ) = .inl (cA, (x.toNatClampNeg, .inr (.inr (.inr (.inr (fun _ => none)))))) := by
      rw [zent_r (by rw [ek]; decide) (by rw [ek]; decide), el, zR_N, if_pos rfl]
      simp
    have hg := k (fun j => if j = znum σ then q0 else ad j) (fun j => if j = znum σ then cA else ca j) H1 locs (cells + 1) (slots + x.toNatClampNeg) lsA zad_new (hW.app (fun _ _ => hK1.2 0 _ rfl) hent hP1 hD1 hS1) (hL.mono zad_new hv1) (zVv_mono (by rw [znum_N]; omega) hv1) (zVv_cons.mpr ⟨by show znum σ < _; rw [znum_N]; omega, zVv_mono (by rw [znum_N]; omega) hv3⟩) (by rw [e1]; omega) (by rw [e2]; omega)
    rw [List.map_cons, zv_eqL zad_new hv3] at hg
    have e4 : zv (fun j => if j = znum σ then q0 else ad j) (.ref (znum σ)) = .ref q0 := by simp [zv]
    rw [e4] at hg
    exact hg
  · rename_i hcl
    obtain ⟨x, r, rfl, hx0, hx1, rfl, rfl, rfl, rfl⟩ := zarr_eq hs
    have hv3 := (zVv_cons.mp hv2).2
    have e1 : zcc (zsN σ (17, x.toNatClampNeg) x.toNatClampNeg) = zcc σ + 1 := rfl
    have e2 : zcs (zsN σ (17, x.toNatClampNeg) x.toNatClampNeg) = zcs σ + x.toNatClampNeg := rfl
    refine va_newq (C := zC 4) hx hb hown (hts _ (zcls_ok hcl).1) hK.2.2.1.2.1 hK.K0 hP hD hS hA hx0 rfl (by omega) (by omega) (by omega) hd (fun q0 cA H1 hK1 hP1 hD1 hS1 => ?_)
    have ek : zkind (zsN σ (17, x.toNatClampNeg) x.toNatClampNeg) (znum σ) = 17 := zkind_Nn
    have el : zlen (zsN σ (17, x.toNatClampNeg) x.toNatClampNeg) (znum σ) = x.toNatClampNeg := zlen_Nn
    have hent : zent (fun j => if j = znum σ then q0 else ad j) (fun j => if j = znum σ then cA else ca j) (zsN σ (17, x.toNatClampNeg) x.toNatClampNeg) (znum σ) = .inl (cA, (x.toNatClampNeg, .inr (.inr (.inr (.inr (fun _ => none)))))) := by
      rw [zent_r (by rw [ek]; decide) (by rw [ek]; decide), el, zR_N, if_pos rfl]
      simp
    have hg := k (fun j => if j = znum σ then q0 else ad j) (fun j => if j = znum σ then cA else ca j) H1 locs (cells + 1) (slots + x.toNatClampNeg) lsA zad_new (hW.app (fun _ _ => hK1.2 0 _ rfl) hent hP1 hD1 hS1) (hL.mono zad_new hv1) (zVv_mono (by rw [znum_N]; omega) hv1) (zVv_cons.mpr ⟨by show znum σ < _; rw [znum_N]; omega, zVv_mono (by rw [znum_N]; omega) hv3⟩) (by rw [e1]; omega) (by rw [e2]; omega)
    rw [List.map_cons, zv_eqL zad_new hv3] at hg
    have e4 : zv (fun j => if j = znum σ then q0 else ad j) (.ref (znum σ)) = .ref q0 := by simp [zv]
    rw [e4] at hg
    exact hg
  · rename_i hcl
    obtain ⟨x, r, rfl, hx0, hx1, rfl, rfl, rfl, rfl⟩ := zarr_eq hs
    have hv3 := (zVv_cons.mp hv2).2
    have e1 : zcc (zsN σ (18, x.toNatClampNeg) x.toNatClampNeg) = zcc σ + 1 := rfl
    have e2 : zcs (zsN σ (18, x.toNatClampNeg) x.toNatClampNeg) = zcs σ + x.toNatClampNeg := rfl
    refine va_newq (C := zC 6) hx hb hown (hts _ (zcls_ok hcl).1) hK.2.2.1.2.2 hK.K0 hP hD hS hA hx0 rfl (by omega) (by omega) (by omega) hd (fun q0 cA H1 hK1 hP1 hD1 hS1 => ?_)
    have ek : zkind (zsN σ (18, x.toNatClampNeg) x.toNatClampNeg) (znum σ) = 18 := zkind_Nn
    have el : zlen (zsN σ (18, x.toNatClampNeg) x.toNatClampNeg) (znum σ) = x.toNatClampNeg := zlen_Nn
    have hent : zent (fun j => if j = znum σ then q0 else ad j) (fun j => if j = znum σ then cA else ca j) (zsN σ (18, x.toNatClampNeg) x.toNatClampNeg) (znum σ) = .inl (cA, (x.toNatClampNeg, .inr (.inr (.inr (.inr (fun _ => none)))))) := by
      rw [zent_r (by rw [ek]; decide) (by rw [ek]; decide), el, zR_N, if_pos rfl]
      simp
    have hg := k (fun j => if j = znum σ then q0 else ad j) (fun j => if j = znum σ then cA else ca j) H1 locs (cells + 1) (slots + x.toNatClampNeg) lsA zad_new (hW.app (fun _ _ => hK1.2 0 _ rfl) hent hP1 hD1 hS1) (hL.mono zad_new hv1) (zVv_mono (by rw [znum_N]; omega) hv1) (zVv_cons.mpr ⟨by show znum σ < _; rw [znum_N]; omega, zVv_mono (by rw [znum_N]; omega) hv3⟩) (by rw [e1]; omega) (by rw [e2]; omega)
    rw [List.map_cons, zv_eqL zad_new hv3] at hg
    have e4 : zv (fun j => if j = znum σ then q0 else ad j) (.ref (znum σ)) = .ref q0 := by simp [zv]
    rw [e4] at hg
    exact hg
  · cases hs

theorem zad_inj {D : va_G} {ad : Nat → Nat} {ca : Nat → ClassId} {σ : zS} {s : State} {A : Nat → Prop} {H0 H : Heap} {locs : List Loc} (hW : zWd D ad ca σ s A H0 H locs) {x y : Nat} (hx0 : x ≠ 0) (hy0 : y ≠ 0) (hx : x < znum σ) (hy : y < znum σ) (h : ad x = ad y) : x = y := by
  have := hW.2.2.1.1 _ _ _ _ (zws_get hx0 hx) (zws_get hy0 hy) h
  omega

theorem zn_if_acmp {off : Int} (hd : decode (zKcode K) pc = .ok (.if_acmp .eq off, n)) (hn : (n == zilen (.if_acmp .eq off) || zilen (.if_acmp .eq off) == 0) = true) (hs : zstep K (.if_acmp .eq off) n d pc ls st σ = some (.inl (pc', ls', st', σ'))) (C : zCx p R s m args meth c K d A H0 (ad 0)) (hW : zWd D ad ca σ s A H0 H locs) (hL : zLs ad lsA (zKmax K) ls) (hv1 : zVv (znum σ) ls) (hv2 : zVv (znum σ) st) (hc : cells + zcc σ' ≤ R.cells + zcc σ) (hsl : slots + zcs σ' ≤ R.slots + zcs σ) (k : zCont p l e R s m args below meth c Q A H0 D (zKmax K) (znum σ) (zcc σ) (zcs σ) cells slots ad pc' ls' st' σ') : W p l e R s m args below meth c H locs cells slots Q (F0 m pc lsA (st.map (zv ad))) := by
  obtain ⟨hx, hb, hml, hown, hts, hini, hfr, hlo, hA, hbl, hbA⟩ := C
  have kk : ∀ {lsA' : Array Slot}, σ' = σ → zLs ad lsA' (zKmax K) ls' → zVv (znum σ) ls' → zVv (znum σ) st' → W p l e R s m args below meth c H locs cells slots Q (F0 m pc' lsA' (st'.map (zv ad))) := by
    intro lsA' he h1 h2 h3
    subst he
    exact k ad ca H locs cells slots lsA' (fun _ _ => rfl) hW h1 h2 h3 rfl rfl
  obtain rfl : n = 3 := by simpa [zilen] using hn
  replace hs : (match zbr pc off, st with
    | some t, .ref y :: .ref x :: r => if zkind σ x < 13 ∧ x < znum σ ∧ zkind σ y < 13 ∧ y < znum σ then (if x = y then zgo t ls r σ else zgo (pc + 3) ls r σ) else none
    | some _, .ref _ :: .null :: r => zgo (pc + 3) ls r σ
    | some _, .null :: .ref _ :: r => zgo (pc + 3) ls r σ
    | _, _ => none) = some (.inl (pc', ls', st', σ')) := hs
  split at hs
  · rename_i t y x r ht
    split at hs
    · rename_i hq
      have hv3 := (zVv_cons.mp (zVv_cons.mp hv2).2).2
      split at hs
      · rename_i hxy
        subst hxy
        obtain ⟨rfl, rfl, rfl, rfl⟩ := zgo_eq hs
        exact lv_acmp_eq (rx := some (ad x)) (ry := some (ad x)) hx hb hd (zbr_eq ht) (fun _ => kk rfl hL hv1 hv3) (fun h => absurd rfl h)
      · rename_i hxy
        obtain ⟨rfl, rfl, rfl, rfl⟩ := zgo_eq hs
        exact lv_acmp_eq (rx := some (ad x)) (ry := some (ad y)) hx hb hd (zbr_eq ht) (fun h => absurd (zad_inj hW (hW.ne0 (by omega)) (hW.ne0 (by omega)) hq.2.1 hq.2.2.2 (Option.some.inj h)) hxy) (fun _ => kk rfl hL hv1 hv3)
    · cases hs
  · rename_i t y r ht
    have hv3 := (zVv_cons.mp (zVv_cons.mp hv2).2).2
    obtain ⟨rfl, rfl, rfl, rfl⟩ := zgo_eq hs
    exact lv_acmp_eq (rx := none) (ry := some (ad y)) hx hb hd (zbr_eq ht) (fun h => by cases h) (fun _ => kk rfl hL hv1 hv3)
  · rename_i t x r ht
    have hv3 := (zVv_cons.mp (zVv_cons.mp hv2).2).2
    obtain ⟨rfl, rfl, rfl, rfl⟩ := zgo_eq hs
    exact lv_acmp_eq (rx := some (ad x)) (ry := none) hx hb hd (zbr_eq ht) (fun h => by cases h) (fun _ => kk rfl hL hv1 hv3)
  · cases hs

theorem zn_invokestatic {k0 : Nat} (hd : decode (zKcode K) pc = .ok (.invokestatic k0, n)) (hn : (n == zilen (.invokestatic k0) || zilen (.invokestatic k0) == 0) = true) (hs : zstep K (.invokestatic k0) n d pc ls st σ = some (.inl (pc', ls', st', σ'))) (C : zCx p R s m args meth c K d A H0 (ad 0)) (hW : zWd D ad ca σ s A H0 H locs) (hL : zLs ad lsA (zKmax K) ls) (hv1 : zVv (znum σ) ls) (hv2 : zVv (znum σ) st) (hc : cells + zcc σ' ≤ R.cells + zcc σ) (hsl : slots + zcs σ' ≤ R.slots + zcs σ) (k : zCont p l e R s m args below meth c Q A H0 D (zKmax K) (znum σ) (zcc σ) (zcs σ) cells slots ad pc' ls' st' σ') : W p l e R s m args below meth c H locs cells slots Q (F0 m pc lsA (st.map (zv ad))) := by
  obtain ⟨hx, hb, hml, hown, hts, hini, hfr, hlo, hA, hbl, hbA⟩ := C
  have kk : ∀ {lsA' : Array Slot}, σ' = σ → zLs ad lsA' (zKmax K) ls' → zVv (znum σ) ls' → zVv (znum σ) st' → W p l e R s m args below meth c H locs cells slots Q (F0 m pc' lsA' (st'.map (zv ad))) := by
    intro lsA' he h1 h2 h3
    subst he
    exact k ad ca H locs cells slots lsA' (fun _ _ => rfl) hW h1 h2 h3 rfl rfl
  obtain rfl : n = 3 := by simpa [zilen] using hn
  replace hs : (match zres (zKci K) k0 with | some K' => zinvS K' d pc ls st σ | none => none) = some (.inl (pc', ls', st', σ')) := hs
  split at hs
  · rename_i K' hK'
    obtain ⟨-, -, hnat, -, hlk⟩ := zres_ok hK'
    unfold zinvS at hs
    split at hs
    · split at hs
      · unfold zcall at hs
        split at hs <;> cases hs
      · cases hs
    · rename_i hk0
      split at hs
      · rename_i hd1
        have hdl : 47 ≤ R.locals := by omega
        have hdf : 1 ≤ R.frames := by omega
        have hml2 : c.maxLocals = lsA.size := hml.trans hL.1.symm
        have hall : 3 ≤ zKkind K' → K' = knMax ∨ K' = knMin ∨ K' = knAbs ∨ K' = knCopy ∨ K' = knObj ∨ K' = kL_brook := fun h => hnat h
        split at hs
        · rename_i y x r hkd
          split at hs
          · rename_i hcat
            obtain ⟨rfl, rfl, rfl, rfl⟩ := zgo_eq hs
            have hlk := hlk (by show 3 ≤ zKkind K'; omega)
            rcases hall (by omega) with rfl | rfl | rfl | rfl | rfl | rfl <;> first | (exact absurd hkd (by decide)) | skip
            exact va_mmax hx hb hml2 hown (hts _ hlk) (hts _ zw_max.1) (hts _ zw_max.2.1) (hts _ zw_max.2.2) hdf (by rw [zcat_map]; omega) (by omega) (by omega) hd (kk rfl hL hv1 (zVv_cons.mpr ⟨trivial, (zVv_cons.mp (zVv_cons.mp hv2).2).2⟩))
          · cases hs
        · rename_i y x r hkd
          split at hs
          · rename_i hcat
            obtain ⟨rfl, rfl, rfl, rfl⟩ := zgo_eq hs
            have hlk := hlk (by show 3 ≤ zKkind K'; omega)
            rcases hall (by omega) with rfl | rfl | rfl | rfl | rfl | rfl <;> first | (exact absurd hkd (by decide)) | skip
            exact va_mmin hx hb hml2 hown (hts _ hlk) (hts _ zw_min.1) (hts _ zw_min.2.1) (hts _ zw_min.2.2) hdf (by rw [zcat_map]; omega) (by omega) (by omega) hd (kk rfl hL hv1 (zVv_cons.mpr ⟨trivial, (zVv_cons.mp (zVv_cons.mp hv2).2).2⟩))
          · cases hs
        · rename_i x r hkd
          split at hs
          · rename_i hcat
            obtain ⟨rfl, rfl, rfl, rfl⟩ := zgo_eq hs
            have hlk := hlk (by show 3 ≤ zKkind K'; omega)
            rcases hall (by omega) with rfl | rfl | rfl | rfl | rfl | rfl <;> first | (exact absurd hkd (by decide)) | skip
            exact va_mabs hx hb hml2 hown (hts _ hlk) (hts _ zw_abs.1) (hts _ zw_abs.2.1) (hts _ zw_abs.2.2) hdf (by rw [zcat_map]; omega) (by omega) (by omega) hd (kk rfl hL hv1 (zVv_cons.mpr ⟨trivial, (zVv_cons.mp hv2).2⟩))
          · cases hs
        · rename_i n0 dp b sp a r hkd
          split at hs
          · rename_i hq
            obtain ⟨hcat, hka, hkb, h1, h2, h3, h4, h5⟩ := hq
            obtain ⟨rfl, rfl, rfl, rfl⟩ := zgo_eq hs
            have hlk := hlk (by show 3 ≤ zKkind K'; omega)
            rcases hall (by omega) with rfl | rfl | rfl | rfl | rfl | rfl <;> first | (exact absurd hkd (by decide)) | skip
            obtain ⟨hP, hK, hD, hS, hX, h99, hn1, hR⟩ := id hW
            have hv3 := (zVv_cons.mp (zVv_cons.mp (zVv_cons.mp (zVv_cons.mp (zVv_cons.mp hv2).2).2).2).2).2
            have hq2 : b < znum σ := (zVv_cons.mp (zVv_cons.mp (zVv_cons.mp hv2).2).2).1
            have hqa : a < znum σ := (zVv_cons.mp (zVv_cons.mp (zVv_cons.mp (zVv_cons.mp (zVv_cons.mp hv2).2).2).2).2).1
            have hea := hW.get (c := a) (by omega) hqa (zent_i (by omega) (by omega))
            have heb := hW.get (c := b) (by omega) hq2 (zent_i (by omega) (by omega))
            have hR2 : zRv (zsI σ b (va_cpy (zI σ a) (zI σ b) sp.toNatClampNeg dp.toNatClampNeg n0.toNatClampNeg)) := hR
            have hent : zent ad ca (zsI σ b (va_cpy (zI σ a) (zI σ b) sp.toNatClampNeg dp.toNatClampNeg n0.toNatClampNeg)) b = .inl (ca b, (zlen σ b, .inl (va_cpy (zI σ a) (zI σ b) sp.toNatClampNeg dp.toNatClampNeg n0.toNatClampNeg))) := by
              rw [zent_i (by show ¬ zkind σ b < 13; omega) (by show zkind σ b ≤ 15; omega), zI_sI, if_pos rfl]
              rfl
            have hnf : nativeFrameWords "java/lang/System" "arraycopy" 5 ≤ 30 := by decide +kernel
            exact va_copyi (ty := .int) hx hb hml2 hown (hts _ hlk) (hts _ zw_copy.1) (hts _ zw_copy.2.1) (hts _ zw_copy.2.2) (hK.K2 hqa (by omega) (by omega) (by rw [hka]; rfl) hq2 (by omega) (by omega) (by rw [hkb]; rfl)) hP hD hS (a - 1) (b - 1) 0 1 hea heb rfl rfl rfl h1 h2 h3 h4 h5 (fun _ _ => rfl) hdf (by rw [zcat_map]; omega) hd (fun H1 locs1 hP1 hD1 hS1 => k ad ca H1 locs1 cells slots lsA (fun _ _ => rfl) (hW.upd (c := b) (hW.ne0 (by omega)) hq2 rfl (fun j hj => by rw [zI_sI, if_neg hj]) (fun _ _ => rfl) (fun _ _ => rfl) hR2 hent hP1 hD1 hS1) hL hv1 hv3 rfl rfl)
          · cases hs
        · cases hs
      · cases hs
  · cases hs

theorem zn_invokespecial {k0 : Nat} (hd : decode (zKcode K) pc = .ok (.invokespecial k0, n)) (hn : (n == zilen (.invokespecial k0) || zilen (.invokespecial k0) == 0) = true) (hs : zstep K (.invokespecial k0) n d pc ls st σ = some (.inl (pc', ls', st', σ'))) (C : zCx p R s m args meth c K d A H0 (ad 0)) (hW : zWd D ad ca σ s A H0 H locs) (hL : zLs ad lsA (zKmax K) ls) (hv1 : zVv (znum σ) ls) (hv2 : zVv (znum σ) st) (hc : cells + zcc σ' ≤ R.cells + zcc σ) (hsl : slots + zcs σ' ≤ R.slots + zcs σ) (k : zCont p l e R s m args below meth c Q A H0 D (zKmax K) (znum σ) (zcc σ) (zcs σ) cells slots ad pc' ls' st' σ') : W p l e R s m args below meth c H locs cells slots Q (F0 m pc lsA (st.map (zv ad))) := by
  obtain ⟨hx, hb, hml, hown, hts, hini, hfr, hlo, hA, hbl, hbA⟩ := C
  have kk : ∀ {lsA' : Array Slot}, σ' = σ → zLs ad lsA' (zKmax K) ls' → zVv (znum σ) ls' → zVv (znum σ) st' → W p l e R s m args below meth c H locs cells slots Q (F0 m pc' lsA' (st'.map (zv ad))) := by
    intro lsA' he h1 h2 h3
    subst he
    exact k ad ca H locs cells slots lsA' (fun _ _ => rfl) hW h1 h2 h3 rfl rfl
  obtain rfl : n = 3 := by simpa [zilen] using hn
  replace hs : (match zres (zKci K) k0 with | some K' => zinvI K' d pc ls st σ | none => none) = some (.inl (pc', ls', st', σ')) := hs
  split at hs
  · rename_i K' hK'
    obtain ⟨-, -, hnat, -, hlk⟩ := zres_ok hK'
    unfold zinvI at hs
    split at hs
    · split at hs
      · split at hs
        · split at hs
          · unfold zcall at hs
            split at hs <;> cases hs
          · cases hs
        · cases hs
      · cases hs
    · split at hs
      · rename_i hk7
        obtain ⟨hkd, hd1⟩ := hk7
        split at hs
        · split at hs
          · rename_i hcat
            obtain ⟨rfl, rfl, rfl, rfl⟩ := zgo_eq hs
            have hlk := hlk (by show 3 ≤ zKkind K'; omega)
            rcases hnat (by show 3 ≤ zKkind K'; omega) with h | h | h | h | h | h <;> (replace h : K' = _ := h) <;> subst h <;> first | (exact absurd hkd (by decide)) | skip
            exact W.objInit hx hb hown (hts _ hlk) (hts _ zw_obj.1) (hts _ zw_obj.2) rfl (by show lsA.size = c.maxLocals; rw [hml]; exact hL.1) rfl hd (by omega) (by
              show 2 * 0 + _ + 12 ≤ R.locals
              rw [zcat_map]
              omega) (kk rfl hL hv1 (zVv_cons.mp hv2).2)
          · cases hs
        · cases hs
      · cases hs
  · cases hs

end ZN
