/-! the whole run: by steps; a callee by its contract, which is its own run -/
/-- what the worlds say of the classes and of the rows' classes -/
def zKA (D : va_G) (ca : Nat → ClassId) (σ : zS) (s : State) : Prop :=
  (∀ (c : Nat) (q : vw_C), vwCl[c]? = some q → u_Kn s q.1 q.2.1 q.2.2 (D.1 c) (D.2 c)) ∧
  (∀ c, c < znum σ → 13 ≤ zkind σ c → zkind σ c ≤ 19 → ArrOfT s (ca c) (zAty (zkind σ c)) ∧ va_RA s (ca c) (zAty (zkind σ c)))
theorem zKK.A {D : va_G} {ca : Nat → ClassId} {σ : zS} {s : State} (h : zKK D ca σ s) : zKA D ca σ s := ⟨h.1, h.2.1⟩
theorem zKA.K1 {D : va_G} {ca : Nat → ClassId} {σ : zS} {s : State} (h : zKA D ca σ s) {c : Nat} (hc : c < znum σ) (h1 : 13 ≤ zkind σ c) (h2 : zkind σ c ≤ 19) : va_K D vwCl [(ca c, zAty (zkind σ c))] s :=
  ⟨h.1, fun k q hk => by
    cases k with
    | zero => cases hk; exact h.2 c hc h1 h2
    | succ k => simp at hk⟩
theorem zKA.moved {D : va_G} {ca : Nat → ClassId} {σ : zS} {s t : State} (hvm : s.vm.Alike t.vm) (h : zKA D ca σ s) : zKA D ca σ t :=
  ⟨(va_K.moved (tys := []) hvm ⟨h.1, fun k q hk => by simp at hk⟩).1, fun c hc h1 h2 => (va_K.moved hvm (h.K1 hc h1 h2)).2 0 _ rfl⟩
theorem zKK.alike {D : va_G} {ca : Nat → ClassId} {σ : zS} {s t : State} (hvm : s.vm.Alike t.vm) (hs : zKK D ca σ s) {ca' : Nat → ClassId} {σ' : zS} (ht : zKA D ca' σ' t) : zKK D ca' σ' s := by
  refine ⟨hs.1, fun c hc h1 h2 => ?_, hs.2.2⟩
  exact (va_K.moved hvm.symm (ht.K1 hc h1 h2)).2 0 _ rfl
def zRet (K : zK) (r : Option Value) (pc : Nat) : Prop :=
  (r = none ∧ zKret K = 0 ∧ decode (zKcode K) pc = .ok (.return_, 1)) ∨ (∃ x, r = some (.int x) ∧ (zKret K = 1 ∨ (zKret K = 2 ∧ (x = 0 ∨ x = 1))) ∧ decode (zKcode K) pc = .ok (.ireturn, 1)) ∨ (r = some zThr ∧ zKci K = 11 ∧ pc = 17)
def zSnd (l : Launch) (f : Nat) : Prop := ∀ (d : Nat) (K : zK) (pc : Nat) (ls st : List Value) (σ : zS) (r : Option Value) (σ' : zS), zrun f d K pc ls st σ = some (r, σ') →
  ∀ (p : Program) (e : Env) (R : Room) (s : State) (m : MethodId) (args : Array Value) (below : List Frame) (meth : Method) (c : Code) (H : Heap) (locs : List Loc) (cells slots : Nat) (Q : State → Prop) (A : Nat → Prop) (H0 : Heap) (D : va_G) (ad : Nat → Nat) (ca : Nat → ClassId) (lsA : Array Slot),
    zCx p R s m args meth c K d A H0 (ad 0) → (zKkind K = 9 → zTh s A H0) → zWd D ad ca σ s A H0 H locs → zLs ad lsA (zKmax K) ls → zVv (znum σ) ls → zVv (znum σ) st → cells + zcc σ' ≤ R.cells + zcc σ → slots + zcs σ' ≤ R.slots + zcs σ →
    (∀ (ad' : Nat → Nat) (ca' : Nat → ClassId) (H' : Heap) (locs' : List Loc) (cells' slots' pcR : Nat) (lsR : Array Slot), (∀ j, j < znum σ → ad' j = ad j) → zWd D ad' ca' σ' s A H0 H' locs' → cells' + zcc σ = cells + zcc σ' → slots' + zcs σ = slots + zcs σ' → zRet K r pcR → lsR.size = zKmax K →
      W p l e R s m args below meth c H' locs' cells' slots' Q (F0 m pcR lsR (zRstk r))) →
    W p l e R s m args below meth c H locs cells slots Q (F0 m pc lsA (st.map (zv ad)))
def zPre (D : va_G) (ad : Nat → Nat) (ca : Nat → ClassId) (σ : zS) (sz : Nat) (U : State) : Prop :=
  U.heap.size = sz ∧ va_P D vwCl (zws ad ca σ) U.heap ∧ zKK D ca σ U ∧ va_D (fun _ => True) (zws ad ca σ) ∧ (zkind σ 0 = 99 → va_X (ad 0) (zlen σ 0) (zI σ 0) U U.heap) ∧ ad 0 < sz ∧ (∀ (k : Nat) (q : Nat × va_E), (zws ad ca σ)[k]? = some q → q.1 ≠ ad 0) ∧ (zkind σ 0 = 98 ∨ zkind σ 0 = 99) ∧ 1 ≤ znum σ ∧ zRv σ
abbrev zU : Type := (Nat → Nat) × (Nat → ClassId)
def zB (D : va_G) (A : Nat → Prop) (σ : zS) (u : zU) (t : State) : Prop := va_P D vwCl (zws u.1 u.2 σ) t.heap ∧ zKA D u.2 σ t ∧ va_D A (zws u.1 u.2 σ) ∧ (zkind σ 0 = 99 → va_X (u.1 0) (zlen σ 0) (zI σ 0) t t.heap) ∧ (zkind σ 0 = 98 ∨ zkind σ 0 = 99) ∧ 1 ≤ znum σ ∧ zRv σ
def zQ (r : Option Value) (D : va_G) (ad : Nat → Nat) (n : Nat) (σ' : zS) (A : Nat → Prop) : Array Value → State → Outcome → State → Prop := match r with
  | some (.int x) => va_Qi (fun (y : Int32) (u : zU) => y = x ∧ ∀ j, j < n → u.1 j = ad j) (zB D A σ') A
  | _ => va_Qv (fun u : zU => ∀ j, j < n → u.1 j = ad j) (zB D A σ') A
def zRm (d : Nat) (σ σ' : zS) : Room := { frames := d, cells := zcc σ' - zcc σ, slots := zcs σ' - zcs σ, locals := 47 * d }
def zWs (K : zK) : List Cond := Cond.code (zKy K) (zKcode K) (zKmax K) (zKrt K) :: zGT
set_option maxHeartbeats 4000000 in
theorem zmet {l : Launch} {f : Nat} (ih : zSnd l f) {d : Nat} {K : zK} {as : List Value} {σ σ' : zS} {r : Option Value} (hr : zrun f d K 0 (zentry (zKmax K) as) [] σ = some (r, σ')) (hok : zKok K) (hmax : (zargs as).length ≤ zKmax K) (hv : zVv (znum σ) as) (hisN : zisN r = true) (hk9 : zKkind K < 3) (D : va_G) (ad : Nat → Nat) (ca : Nat → ClassId) (sz : Nat) :
    Met l (zKy K) (zWs K) (zRm d σ σ') (va_Pc (as.map (zv ad)) (zPre D ad ca σ sz)) (zQ r D ad (znum σ) σ' (va_A (zws ad ca σ) sz)) (zcc σ' - zcc σ) (zcs σ' - zcs σ) (va_A (zws ad ca σ) sz) := by
  obtain ⟨k1, k2, k3, k4, k5, k6, k7, k8⟩ := hok
  have hm := zrun_mon _ _ _ _ _ _ _ _ _ hr
  refine Met.ofW (cc := zKcode K) (maxL := zKmax K) (ret := zKrt K) k4 rfl ?_
  intro p e s m args below meth c s₁ B hml hvp
  obtain ⟨rfl, rfl, hP, hK, hD0, hX, hlt, hne, h99, h1, hR⟩ := hvp
  have hts := atoms_spec (ws := zWs K) B.pre
  have hown : s.vm.findClass (zC (zKci K)) = some m.cls := by rw [← k3]; exact findClass_of_methodNamed B.named
  have hlocks := B.notSynchronized
  rw [lg_entry_eq]
  have hbA : ¬ va_A (zws ad ca σ) s.heap.size (ad 0) := by
    rintro (⟨k, e2, h⟩ | h)
    · exact hne k _ h rfl
    · omega
  refine ih d K 0 _ [] σ r σ' hr p e _ s m _ below meth c _ [] 0 0 _ (va_A (zws ad ca σ) s.heap.size) s.heap D ad ca _ ⟨B.exec, B.bytes, hml, hown, fun w hw => hts w (List.mem_cons_of_mem _ hw), fun h2 => (name_of_methodNamed B.named B.method).1.trans (k8 h2).2, Nat.le_refl _, Nat.le_refl _, fun q hq => Or.inr hq, hlt, hbA⟩ (fun h9 => by omega) ⟨hP, hK, hD0.self, va_S.rf, hX, h99, h1, hR⟩ (zLs.entry ad as hmax) (zentry_ok hv) zVv_nil (by show 0 + zcc σ' ≤ (zcc σ' - zcc σ) + zcc σ; omega) (by show 0 + zcs σ' ≤ (zcs σ' - zcs σ) + zcs σ; omega) ?_
  intro ad' ca' H' locs' cells' slots' pcR lsR hag hW' hc' hs' hret _
  obtain ⟨hP', hK', hD', hS', hX', h99', h1', hR'⟩ := hW'
  have hX2 : ∀ t : State, t.heap = H' → s.WarmedH t.vm → zkind σ' 0 = 99 → va_X (ad' 0) (zlen σ' 0) (zI σ' 0) t t.heap := fun t ht hW2 hk9 => by
    refine va_X.moved hW2.alike ((hX' hk9).kept ?_)
    rw [hag 0 (by omega), ht]
    exact hS'.2.1 _ hlt hbA
  refine W.widen (k := zcc σ' - zcc σ) (n := zcs σ' - zcs σ) (by omega) (by omega) ?_
  rcases hret with ⟨rfl, hk, hdr⟩ | ⟨x, rfl, hk, hdr⟩ | ⟨rfl, -⟩
  rotate_left 2
  · cases hisN
  · have hrt : meth.sig.returnType = none := by rw [B.returns]; simp [zKrt, hk]
    exact W.vret B.exec B.bytes hrt (fun t ht hW2 => ⟨⟨(ad', ca'), rfl, hag, by rw [ht]; exact hP', (hK'.moved hW2).A, hD', hX2 t ht hW2, h99', h1', hR'⟩, hS'.F ht⟩) hS'.2.2 hdr hlocks
  · rcases hk with hk | ⟨hk, hx⟩
    · have hrt : meth.sig.returnType = some .int := by rw [B.returns]; simp [zKrt, hk]
      exact W.iret (v := x) B.exec B.bytes hrt (fun t ht hW2 => ⟨⟨x, (ad', ca'), rfl, ⟨rfl, hag⟩, by rw [ht]; exact hP', (hK'.moved hW2).A, hD', hX2 t ht hW2, h99', h1', hR'⟩, hS'.F ht⟩) hS'.2.2 hdr hlocks
    · have hrt : meth.sig.returnType = some .boolean := by rw [B.returns]; simp [zKrt, hk]
      exact W.zret (v := x) B.exec B.bytes hrt (by rcases hx with rfl | rfl <;> rfl) (fun t ht hW2 => ⟨⟨x, (ad', ca'), rfl, ⟨rfl, hag⟩, by rw [ht]; exact hP', (hK'.moved hW2).A, hD', hX2 t ht hW2, h99', h1', hR'⟩, hS'.F ht⟩) hS'.2.2 hdr hlocks
theorem zPre_blind {D : va_G} {ad : Nat → Nat} {ca : Nat → ClassId} {σ : zS} {sz : Nat} {av : List Value} : FrameBlind (va_Pc av (zPre D ad ca σ sz)) := by
  intro a U g mk h
  obtain ⟨h0, h1, h2, hK, h4, h5, h6⟩ := h
  refine ⟨h0, h1, h2, ⟨?_, ?_, ⟨?_, ?_, ?_⟩, hK.2.2.2.same rfl⟩, h4, ?_, h6⟩
  · exact (va_K.moved (u := U) (U := U.calling g mk a) (Vm.Alike.refl U.vm) hK.K0).1
  · intro c hc a1 a2
    exact (va_K.moved (u := U) (U := U.calling g mk a) (Vm.Alike.refl U.vm) (hK.K1 hc a1 a2 rfl)).2 0 _ rfl
  · exact va_AO.moved (u := U) (U := U.calling g mk a) (Vm.Alike.refl U.vm) hK.2.2.1.1
  · exact va_AO.moved (u := U) (U := U.calling g mk a) (Vm.Alike.refl U.vm) hK.2.2.1.2.1
  · exact va_AO.moved (u := U) (U := U.calling g mk a) (Vm.Alike.refl U.vm) hK.2.2.1.2.2
  · exact fun hk9 => va_X.moved (u := U) (U := U.calling g mk a) (Vm.Alike.refl U.vm) (h5 hk9)

section ZN
variable {p : Program} {l : Launch} {e : Env} {R : Room} {s : State} {m : MethodId} {args : Array Value} {below : List Frame} {meth : Method} {c : Code} {Q : State → Prop} {A : Nat → Prop} {H0 H : Heap} {D : va_G} {K : zK} {d pc n cells slots : Nat} {i : Instr} {ls st : List Value} {σ : zS} {ad : Nat → Nat} {ca : Nat → ClassId} {lsA : Array Slot} {locs : List Loc}
theorem zPre_of (C : zCx p R s m args meth c K d A H0 (ad 0)) (hW : zWd D ad ca σ s A H0 H locs) {U : State} (hU : U.heap = H) (hw : s.WarmedH U.vm) : zPre D ad ca σ H.size U := by
  obtain ⟨hx, hb, hml, hown, hts, hini, hfr, hlo, hA, hbl, hbA⟩ := C
  obtain ⟨hP, hK, hD, hS, hX, h99, h1, hR⟩ := hW
  refine ⟨by rw [hU], by rw [hU]; exact hP, hK.moved hw, hD.weaken (fun _ _ _ _ => trivial), ?_, Nat.lt_of_lt_of_le hbl hS.1, fun k q hq he => hbA (he ▸ hD.2 k q hq), h99, h1, hR⟩
  rw [hU]
  exact fun hk9 => va_X.moved hw.alike ((hX hk9).kept (hS.2.1 _ hbl hbA))
/-- behind a callee's run: the world goes on -/
theorem zafter (hW : zWd D ad ca σ s A H0 H locs) (C : zCx p R s m args meth c K d A H0 (ad 0)) {σ' : zS} {u : zU} {t : State} {H1 : Heap} {locs1 : List Loc} (ht : t.heap = H1) (hvm : s.vm.Alike t.vm) (hag : ∀ j, j < znum σ → u.1 j = ad j) (hB : zB D (va_A (zws ad ca σ) H.size) σ' u t) (hS1 : va_S A H0 H1 locs1) : zWd D u.1 u.2 σ' s A H0 H1 locs1 := by
  obtain ⟨hx, hb, hml, hown, hts, hini, hfr, hlo, hA, hbl, hbA⟩ := C
  obtain ⟨hP, hK, hD, hS, hX, h99, h1, hR⟩ := hW
  obtain ⟨hP1, hK1, hD1, hX1, h99', h1', hR'⟩ := hB
  have h0 : u.1 0 = ad 0 := hag 0 (by omega)
  refine ⟨by rw [← ht]; exact hP1, hK.alike hvm hK1, hD1.weaken (fun k q hq h => ?_), hS1, ?_, h99', h1', hR'⟩
  · rcases h with ⟨k2, e2, h⟩ | h
    · exact hD.2 k2 (q.1, e2) h
    · exact hA _ (Nat.le_trans hS.1 h)
  · intro hk9
    refine va_X.moved hvm.symm ((hX1 hk9).kept ?_)
    rw [ht, h0]
    exact (hS1.2.1 _ hbl hbA).symm
theorem zback (C : zCx p R s m args meth c K d A H0 (ad 0)) (hW : zWd D ad ca σ s A H0 H locs) (hL : zLs ad lsA (zKmax K) ls) (hv1 : zVv (znum σ) ls) {rest : List Value} (hvr : zVv (znum σ) rest) {σ' : zS} {r : Option Value} (hmon : zcc σ ≤ zcc σ' ∧ zcs σ ≤ zcs σ' ∧ znum σ ≤ znum σ') (hrt : r = none ∨ ∃ x, r = some (.int x))
    {g : JFrame} (hg : g = F0 m pc lsA (st.map (zv ad))) {a : Array Value}
    (hr : va_Run p l e R s m args below meth c H locs cells slots (zcc σ' - zcc σ) (zcs σ' - zcs σ) g (rest.map (zv ad)) (zQ r D ad (znum σ) σ' (va_A (zws ad ca σ) H.size) a) (va_A (zws ad ca σ) H.size))
    (k : zCont p l e R s m args below meth c Q A H0 D (zKmax K) (znum σ) (zcc σ) (zcs σ) cells slots ad (pc + 3) ls (zRstk r ++ rest) σ') :
    W p l e R s m args below meth c H locs cells slots Q (F0 m pc lsA (st.map (zv ad))) := by
  subst hg
  have hFc : ∀ q, va_A (zws ad ca σ) H.size q → A q := by
    intro q h
    rcases h with ⟨k2, e2, h⟩ | h
    · exact hW.2.2.1.2 k2 _ h
    · exact C.2.2.2.2.2.2.2.2.1 _ (Nat.le_trans hW.2.2.2.1.1 h)
  rcases hrt with rfl | ⟨x, rfl⟩
  · refine va_callv (a := a) hr hW.2.2.2.1 (fun q _ h => hFc q h) hFc (fun u t H1 locs1 ht hvm hw hB _ _ hS1 => ?_)
    have hg := k u.1 u.2 H1 locs1 (cells + (zcc σ' - zcc σ)) (slots + (zcs σ' - zcs σ)) lsA hw (zafter hW C ht hvm hw hB hS1) (hL.mono hw hv1) (zVv_mono hmon.2.2 hv1) (zVv_mono hmon.2.2 hvr) (by omega) (by omega)
    have e1 : (zRstk none ++ rest).map (zv u.1) = rest.map (zv ad) := zv_eqL hw hvr
    rw [e1] at hg
    exact hg
  · refine va_calli (a := a) hr hW.2.2.2.1 (fun q _ h => hFc q h) hFc (fun y u t H1 locs1 ht hvm hw hB _ _ hS1 => ?_)
    obtain ⟨rfl, hw⟩ := hw
    have hg := k u.1 u.2 H1 locs1 (cells + (zcc σ' - zcc σ)) (slots + (zcs σ' - zcs σ)) lsA hw (zafter hW C ht hvm hw hB hS1) (hL.mono hw hv1) (zVv_mono hmon.2.2 hv1) (zVv_cons.mpr ⟨trivial, zVv_mono hmon.2.2 hvr⟩) (by omega) (by omega)
    have e1 : (zRstk (some (Value.int y)) ++ rest).map (zv u.1) = Value.int y :: rest.map (zv ad) := by
      show Value.int y :: rest.map (zv u.1) = _
      rw [zv_eqL hw hvr]
    rw [e1] at hg
    exact hg
theorem zGoodWs {K' : zK} (hok : zKok K') : GoodIn zGT (zWs K') := by
  intro w hw
  rcases List.mem_cons.mp hw with rfl | hw
  · exact zGT_good _ hok.1
  · exact zGT_good _ hw
theorem zcallB {K' : zK} (hok : zKok K') {idx dc : Nat} {σ' : zS} (C : zCx p R s m args meth c K (dc + 1) A H0 (ad 0)) (hm : zKmax K' ≤ 28) (hl : Cond.methodLink (zC (zKci K)) idx (zKy K') ∈ zGT) :
    CallB R s args (zC (zKci K)) idx (zKy K') (zKcode K') (zKmax K') (zKrt K') (zWs K') (zRm dc σ σ') (zcc σ' - zcc σ) (zcs σ' - zcs σ) (zKn K') := by
  obtain ⟨hx, hb, hml, hown, hts, hini, hfr, hlo, -⟩ := C
  exact callB_of (zKn K') hts (zGoodWs hok) rfl rfl rfl (hts _ hok.2.1) (hts _ hl) hok.2.2.2.2.1 ⟨hfr, by show 8 + (zKmax K' + 11) + 47 * dc ≤ _; omega⟩
theorem zcallN {K' : zK} (hok : zKok K') {idx dc : Nat} {σ' : zS} (C : zCx p R s m args meth c K (dc + 1) A H0 (ad 0)) (hm : zKmax K' ≤ 28) (hl : va_Nw (.methodLinkNest (zC (zKci K)) idx (zKy K') "StickRace") s) :
    va_CN R s args (zC (zKci K)) idx (zKy K') "StickRace" (zKcode K') (zKmax K') (zKrt K') (zWs K') (zRm dc σ σ') (zcc σ' - zcc σ) (zcs σ' - zcs σ) (zKn K') := by
  obtain ⟨hx, hb, hml, hown, hts, hini, hfr, hlo, -⟩ := C
  exact va_cnB (zKn K') hts (zGoodWs hok) rfl rfl rfl hl (hts _ hok.2.1) hok.2.2.2.2.1 ⟨hfr, by show 8 + (zKmax K' + 11) + 47 * dc ≤ _; omega⟩
theorem zrt_of {f d : Nat} {K : zK} {pc : Nat} {ls st : List Value} {σ σ' : zS} {r : Option Value} (h : zrun f d K pc ls st σ = some (r, σ')) : (r = none ∧ zKret K = 0) ∨ (∃ x, r = some (.int x)) ∨ r = some zThr := by
  induction f generalizing d pc ls st σ with
  | zero => cases h
  | succ f ih =>
    unfold zrun at h
    split at h
    · cases h
    · split at h
      · split at h
        · cases h
        · exact ih h
        · rename_i hs
          cases h
          rcases zstep_ret hs with ⟨-, -, rfl, h0⟩ | ⟨-, x, -, rfl, -⟩ | ⟨-, -, rfl, -⟩
          · exact Or.inl ⟨rfl, h0⟩
          · exact Or.inr (Or.inl ⟨x, rfl⟩)
          · exact Or.inr (Or.inr rfl)
        · split at h
          · cases h
          · split at h
            · split at h
              · split at h
                · split at h
                  · exact ih h
                  · cases h
                · split at h
                  · exact ih h
                  · cases h
                · cases h
              · cases h
            · split at h
              · cases h
              · split at h
                · exact ih h
                · cases h
      · cases h
set_option maxHeartbeats 4000000 in
theorem zsnd_call {f : Nat} (ih : zSnd l f) {K' : zK} {as rest : List Value} {dc : Nat} {r : Option Value} {σ' : zS} (hd : decode (zKcode K) pc = .ok (i, n)) (hn : (n == zilen i || zilen i == 0) = true) (hs : zstep K i n (dc + 1) pc ls st σ = some (.inr (.inr (K', as, rest)))) (hr : zrun f dc K' 0 (zentry (zKmax K') as) [] σ = some (r, σ')) (hisN : zisN r = true) (hk8 : ¬ zKkind K' = 8)
    (C : zCx p R s m args meth c K (dc + 1) A H0 (ad 0)) (hW : zWd D ad ca σ s A H0 H locs) (hL : zLs ad lsA (zKmax K) ls) (hv1 : zVv (znum σ) ls) (hv2 : zVv (znum σ) st) (hc : cells + zcc σ' ≤ R.cells + zcc σ) (hsl : slots + zcs σ' ≤ R.slots + zcs σ)
    (k : zCont p l e R s m args below meth c Q A H0 D (zKmax K) (znum σ) (zcc σ) (zcs σ) cells slots ad (pc + 3) ls (zRstk r ++ rest) σ') :
    W p l e R s m args below meth c H locs cells slots Q (F0 m pc lsA (st.map (zv ad))) := by
  obtain ⟨k0, hres, hm32, hmax, hcat, hkinds⟩ := zstep_call hs
  have hmon := zrun_mon _ _ _ _ _ _ _ _ _ hr
  obtain ⟨hlink, hokf, -, hlinkV, -⟩ := zres_ok hres
  have hrt : r = none ∨ ∃ x, r = some (.int x) := by
    rcases zrt_of hr with h | h | h
    · exact Or.inl h.1
    · exact Or.inr h
    · rw [h] at hisN
      cases hisN
  have hroom : 2 * (F0 m pc lsA (st.map (zv ad))).monitorRoom + ((rest.map (zv ad)).map fun v => v.category).sum ≤ 8 := by
    show 2 * 0 + _ ≤ 8
    rw [zcat_map]
    omega
  obtain ⟨hx, hb, hml, hown, hts, hini, hfr, hlo, hA, hbl, hbA⟩ := id C
  have hcf : CallFix p m c (zKcode K) (zKmax K) s args zGT (zC (zKci K)) := ⟨hx, hb, hml, hown, hts⟩
  have hfit : cells + (zcc σ' - zcc σ) ≤ R.cells ∧ slots + (zcs σ' - zcs σ) ≤ R.slots := by omega
  rcases hkinds with ⟨rfl, hk, hst, hlen⟩ | ⟨rfl, hk, a, as', rfl, hst, hlen, hka, hk13, hkn⟩ | ⟨rfl, hk, hk0, a, as', rfl, hst, hlen⟩
  · replace hk : zKkind K' = 0 := by omega
    obtain rfl : n = 3 := by simpa [zilen] using hn
    have hok : zKok K' := hokf (by show zKkind K' < 3; omega)
    have hva : zVv (znum σ) as := fun v hv => hv2 v (by rw [hst]; exact List.mem_append_left _ (List.mem_reverse.mpr hv))
    have hvr : zVv (znum σ) rest := fun v hv => hv2 v (by rw [hst]; exact List.mem_append_right _ hv)
    have hM := zmet ih hr hok hmax hva hisN (by omega) D ad ca H.size
    have hstk : (F0 m pc lsA (st.map (zv ad))).stack = (as.map (zv ad)).reverse ++ rest.map (zv ad) := by
      show st.map (zv ad) = _
      rw [hst, List.map_append, List.map_reverse]
    have hp : PreS s H (va_Pc (as.map (zv ad)) (zPre D ad ca σ H.size)) (as.map (zv ad)) := ⟨zPre_blind, fun U hU hw => ⟨rfl, zPre_of C hW hU hw⟩⟩
    rcases hlink with hnest | hlk
    · exact zback C hW hL hv1 hvr hmon hrt rfl (va_runSN hcf hM ⟨zcallN hok C hm32 (hW.2.1.2.2.2 _ hnest), hts _ (hok.2.2.2.2.2.1 hk), trivial⟩ hp rfl (by rw [List.length_map]; exact hlen) hL.1 hstk hroom hd hfit) k
    · exact zback C hW hL hv1 hvr hmon hrt rfl (va_runS hcf hM ⟨zcallB hok C hm32 hlk, hts _ (hok.2.2.2.2.2.1 hk)⟩ hp rfl (by rw [List.length_map]; exact hlen) hL.1 hstk hroom hd hfit) k
  · obtain rfl : n = 3 := by simpa [zilen] using hn
    have hok : zKok K' := hokf (by show zKkind K' < 3; omega)
    have hva : zVv (znum σ) (.ref a :: as') := zVv_cons.mpr ⟨hkn, fun v hv => hv2 v (by rw [hst]; exact List.mem_append_left _ (List.mem_reverse.mpr hv))⟩
    have hvr : zVv (znum σ) rest := fun v hv => hv2 v (by rw [hst]; exact List.mem_append_right _ (List.mem_cons_of_mem _ hv))
    have hM := zmet ih hr hok hmax hva hisN (by omega) D ad ca H.size
    have hstk : (F0 m pc lsA (st.map (zv ad))).stack = (as'.map (zv ad)).reverse ++ .ref (ad a) :: rest.map (zv ad) := by
      show st.map (zv ad) = _
      rw [hst, List.map_append, List.map_reverse]
      rfl
    obtain ⟨f1, -⟩ := zcF_all _ hk13
    have hrecv : ∃ cell : Cell, H[ad a]? = some cell ∧ cell.vm.isStatics = false ∧ s.vm.findClass (zKy K').cls = some cell.cls := by
      rw [hok.2.2.1]
      exact va_recv hW.2.1.K0 hW.1 (q := (zC (zKci K'), zT (zKci K'), zN (zKci K'))) f1 (q0 := a - 1) (by rw [← hka]; exact hW.get (by omega) hkn (zent_obj (by omega)))
    have hp : PreV s H (zKy K').cls (ad a) (va_Pc ((Value.ref a :: as').map (zv ad)) (zPre D ad ca σ H.size)) (as'.map (zv ad)) := ⟨zPre_blind, hrecv, fun U hU hw => ⟨rfl, zPre_of C hW hU hw⟩⟩
    exact zback C hW hL hv1 hvr hmon hrt rfl (va_runV hcf hM ⟨zcallB hok C hm32 (hlinkV hk), hts _ (hok.2.2.2.2.2.2.1 hk).1, hts _ (hok.2.2.2.2.2.2.1 hk).2⟩ hp rfl (by rw [List.length_map]; exact hlen) hL.1 hstk hroom hd hfit) k
  · obtain rfl : n = 3 := by simpa [zilen] using hn
    have hok : zKok K' := hokf (by show zKkind K' < 3; omega)
    have hva : zVv (znum σ) (.ref a :: as') := zVv_cons.mpr ⟨(zVv_cons.mp (fun v hv => hv2 v (by rw [hst]; exact List.mem_append_right _ hv) : zVv (znum σ) (.ref a :: rest))).1, fun v hv => hv2 v (by rw [hst]; exact List.mem_append_left _ (List.mem_reverse.mpr hv))⟩
    have hvr : zVv (znum σ) rest := fun v hv => hv2 v (by rw [hst]; exact List.mem_append_right _ (List.mem_cons_of_mem _ hv))
    have hM := zmet ih hr hok hmax hva hisN (by omega) D ad ca H.size
    have hstk : (F0 m pc lsA (st.map (zv ad))).stack = (as'.map (zv ad)).reverse ++ .ref (ad a) :: rest.map (zv ad) := by
      show st.map (zv ad) = _
      rw [hst, List.map_append, List.map_reverse]
      rfl
    have hp : PreS s H (va_Pc ((Value.ref a :: as').map (zv ad)) (zPre D ad ca σ H.size)) (.ref (ad a) :: as'.map (zv ad)) := ⟨zPre_blind, fun U hU hw => ⟨rfl, zPre_of C hW hU hw⟩⟩
    have hret : zKrt K' = none := by simp [zKrt, hk0]
    have hi := hok.2.2.2.2.2.2.2 hk
    rcases hlink with hnest | hlk
    · have hN := zcallN (σ' := σ') (σ := σ) hok C hm32 (hW.2.1.2.2.2 _ hnest)
      rw [hret] at hN
      exact zback C hW hL hv1 hvr hmon hrt rfl (va_runIN hcf hM ⟨hN, hi.2, hts _ hi.1⟩ hp rfl (by rw [List.length_map]; exact hlen) hL.1 hstk hroom hd hfit) k
    · have hN := zcallB (σ' := σ') (σ := σ) hok C hm32 hlk
      rw [hret] at hN
      exact zback C hW hL hv1 hvr hmon hrt rfl (va_runI hcf hM ⟨hN, hi.2, hts _ hi.1⟩ hp rfl (by rw [List.length_map]; exact hlen) hL.1 hstk hroom hd hfit) k
theorem zCx_ad {ad' : Nat → Nat} (C : zCx p R s m args meth c K d A H0 (ad 0)) (h : ad' 0 = ad 0) : zCx p R s m args meth c K d A H0 (ad' 0) := by
  rw [h]
  exact C
end ZN
