/-! the law's private method brook, which catches what the class's brook throws -/
def zNSE : String := "java/util/NoSuchElementException"
/-- what holds of the class's brook where it throws -/
abbrev zXQ (x : Option Int32) (D : va_G) (n : Nat) (ad : Nat → Nat) (σ' : zS) (A : Nat → Prop) : String → State → State → Prop :=
  vx_X (fun u : zU => x = none ∧ ∀ j, j < n → u.1 j = ad j) (fun E u t => E = zNSE ∧ zB D A σ' u t) A
/-- where it answers with x (some) or throws (none) -/
abbrev zQB (x : Option Int32) (D : va_G) (ad : Nat → Nat) (n : Nat) (σ' : zS) (A : Nat → Prop) : Array Value → State → Outcome → State → Prop :=
  va_Qi (fun (y : Int32) (u : zU) => x = some y ∧ ∀ j, j < n → u.1 j = ad j) (zB D A σ') A
set_option maxHeartbeats 4000000 in
theorem zmetB {l : Launch} (hlt : l.stackTraces = false) {f : Nat} (ih : zSnd l f) {d : Nat} {as : List Value} {σ σ' : zS} {r : Option Value} {x : Option Int32} (hx0 : (∃ y, x = some y ∧ r = some (.int y)) ∨ (x = none ∧ r = some zThr)) (hr : zrun f (d + 6) kX11_brook 0 (zentry (zKmax kX11_brook) as) [] σ = some (r, σ')) (hmax : (zargs as).length ≤ zKmax kX11_brook) (hv : zVv (znum σ) as) (D : va_G) (ad : Nat → Nat) (ca : Nat → ClassId) (sz k1 k2 : Nat) (hk0 : zcc σ' - zcc σ ≤ k1 ∧ zcs σ' - zcs σ ≤ k2) (hk1 : x = none → zcc σ' - zcc σ + 1 ≤ k1 ∧ zcs σ' - zcs σ + 6 ≤ k2) :
    vx_Met l yX11_brook (zWs kX11_brook) { frames := d + 6, cells := k1, slots := k2, locals := 51 * (d + 6) } (va_Pc (as.map (zv ad)) (fun U => zPre D ad ca σ sz U ∧ zTh U (va_A (zws ad ca σ) sz) U.heap)) (zQB x D ad (znum σ) σ' (va_A (zws ad ca σ) sz)) (zXQ x D (znum σ) ad σ' (va_A (zws ad ca σ) sz)) k1 k2 (va_A (zws ad ca σ) sz) := by
  obtain ⟨q1, q2, q3, q4, q5, q6, q7, q8⟩ := ok_kX11_brook
  have hm := zrun_mon _ _ _ _ _ _ _ _ _ hr
  refine vx_ofW (cc := zKcode kX11_brook) (maxL := zKmax kX11_brook) (ret := zKrt kX11_brook) q4 rfl ?_
  intro p e s m args below meth c s₁ B hml htab hvp
  obtain ⟨rfl, ⟨rfl, hP, hK, hD0, hX, hlt0, hne, h99, h1, hR⟩, hth⟩ := hvp
  have hts := atoms_spec (ws := zWs kX11_brook) B.pre
  have htsG : ∀ w ∈ zGT, w.before (as.map (zv ad)).toArray s = true := fun w hw => hts w (List.mem_cons_of_mem _ hw)
  have hown : s.vm.findClass (zC 11) = some m.cls := findClass_of_methodNamed B.named
  have hlocks := B.notSynchronized
  rw [lg_entry_eq]
  have hbA : ¬ va_A (zws ad ca σ) s.heap.size (ad 0) := by
    rintro (⟨k, e2, h⟩ | h)
    · exact hne k _ h rfl
    · omega
  refine ih (d + 6) kX11_brook 0 _ [] σ r σ' hr p e _ s m _ below meth c _ [] 0 0 _ (va_A (zws ad ca σ) s.heap.size) s.heap D ad ca _ ⟨B.exec, B.bytes, hml, hown, htsG, fun h2 => absurd h2 (by decide), Nat.le_refl _, Nat.le_refl _, fun q hq => Or.inr hq, hlt0, hbA⟩ (fun h9 => absurd h9 (by decide)) ⟨hP, hK, hD0.self, va_S.rf, hX, h99, h1, hR⟩ (zLs.entry ad as hmax) (zentry_ok hv) zVv_nil (by show 0 + zcc σ' ≤ k1 + zcc σ; omega) (by show 0 + zcs σ' ≤ k2 + zcs σ; omega) ?_
  intro ad' ca' H' locs' cells' slots' pcR lsR hag hW' hc' hs' hret hlsz
  obtain ⟨hP', hK', hD', hS', hX', h99', h1', hR'⟩ := hW'
  have hX2 : ∀ t : State, t.heap[ad' 0]? = H'[ad' 0]? → s.vm.Alike t.vm → zkind σ' 0 = 99 → va_X (ad' 0) (zlen σ' 0) (zI σ' 0) t t.heap := fun t ht hW2 hk9 => by
    refine va_X.moved hW2 ((hX' hk9).kept ?_)
    rw [ht, hag 0 (by omega)]
    exact hS'.2.1 _ hlt0 hbA
  rcases hret with ⟨rfl, hk, hdr⟩ | ⟨y, rfl, hk, hdr⟩ | ⟨rfl, -, rfl⟩
  · rcases hx0 with ⟨y, -, h⟩ | ⟨-, h⟩ <;> cases h
  · have hx1 : x = some y := by
      rcases hx0 with ⟨z, hz, h⟩ | ⟨-, h⟩
      · cases h
        exact hz
      · cases h
    have hrt : meth.sig.returnType = some .int := by rw [B.returns]; rfl
    refine vx_ret (W.widen (k := k1) (n := k2) (by omega) (by omega) ?_)
    exact W.iret (v := y) B.exec B.bytes hrt (fun t ht hW2 => ⟨⟨y, (ad', ca'), rfl, ⟨hx1, hag⟩, by rw [ht]; exact hP', (hK'.moved hW2).A, hD', hX2 t (by rw [ht]) hW2.alike, h99', h1', hR'⟩, hS'.F ht⟩) hS'.2.2 hdr hlocks
  · have hx1 : x = none := by
      rcases hx0 with ⟨z, -, h⟩ | ⟨hz, -⟩
      · cases h
      · exact hz
    have hat : ∀ w ∈ vx_at0 RX11 163 zNSE ["java/lang/RuntimeException", "java/lang/Exception"], w.before (as.map (zv ad)).toArray s = true := by
      refine vx_hat (B := zxB) (fun w hw => ?_) (fun w hw => hw) (fun w hw => ?_)
      · exact htsG w (List.mem_filter.mpr ⟨zx_g2 w hw, (List.mem_filter.mp hw).2⟩)
      · refine va_Nw.use ?_ (hth.2.2 w hw)
        have := zx_B w hw
        cases w <;> first | (cases this; done) | rfl
    have hk1 := hk1 hx1
    have ha0 : cells' = zcc σ' - zcc σ := by omega
    have hb0 : slots' = zcs σ' - zcs σ := by omega
    refine vx_throw0 (own := RX11) (cls := zNSE) (names := ["java/lang/RuntimeException", "java/lang/Exception"]) (ik := 161) (ic := 163) (A := va_A (zws ad ca σ) s.heap.size) B.exec B.bytes hlt hown (by decide +kernel) (by decide +kernel) (htsG _ zxw_link161) (htsG _ zxw_init) hat zx_g5 hth.1 hth.2.1 hS' (hlsz.trans hml.symm) (by decide +kernel) (by decide +kernel) (by decide +kernel) (by decide +kernel) (fun x hx => (htab x hx).elim) (by show 2 + 3 < d + 6; omega) (by show 0 + (13 * (2 + 1) + 42) ≤ 51 * (d + 6); omega) (by show cells' + 1 ≤ k1; omega) (by show slots' + 6 ≤ k2; omega) hlocks (fun t hvm hsz hkeep => ?_) hS'.2.2 (by omega) (by omega)
    refine ⟨(ad', ca'), ⟨hx1, hag⟩, ⟨rfl, fun k q hq => (hP' k q hq).kept (hkeep _ (hP' k q hq).lt), hK'.A.moved hvm, hD', hX2 t (hkeep _ ?_) hvm, h99', h1', hR'⟩, Nat.le_trans hS'.1 hsz, fun q hq hnA => (hkeep q (Nat.lt_of_lt_of_le hq hS'.1)).trans (hS'.2.1 q hq hnA)⟩
    rw [hag 0 (by omega)]
    exact Nat.lt_of_lt_of_le hlt0 hS'.1
/-- the rest of a run behind the law's call of brook -/
def zBrest (f d : Nat) (K : zK) (pc : Nat) (ls as rest : List Value) (σ : zS) : Nat → Option (Option Value × zS) := fun d' => match d', as with
  | d2 + 7, [.ref a, .int p0, .int p1, .ref o] => (match zrun f (d2 + 6) kX11_brook 0 (zentry (zKmax kX11_brook) [.ref a, .int p0, .int p1]) [] σ with
    | some (some (.int v), σ') => if zKkind K = 9 ∧ zkind σ a = 11 ∧ a < znum σ ∧ zkind σ' o = 19 ∧ o < znum σ ∧ 0 < zlen σ' o then zrun f d K (pc + 3) ls (.int 0 :: rest) (zsL σ' o (vp_updL (zL σ' o) 0 v.toInt64)) else none
    | some (some (.retAddr 7), σ') => if zKkind K = 9 ∧ zkind σ a = 11 ∧ a < znum σ then zrun f d K (pc + 3) ls (.int 1 :: rest) (zbump σ' 1 6) else none
    | _ => none)
  | _, _ => none
theorem zpart_1 {f n d : Nat} {K : zK} {pc len pc' : Nat} {ls st ls' st' : List Value} {σ σ' : zS} {i : Instr} (h1 : decode (zKcode K) pc = .ok (i, len)) (h2 : (len == zilen i || zilen i == 0) = true) (h3 : zstep K i len d pc ls st σ = some (.inl (pc', ls', st', σ'))) : zpart f (n + 1) d K pc ls st σ = zpart f n d K pc' ls' st' σ' := by
  show (match decode (zKcode K) pc with
    | .error _ => none
    | .ok (i, len) => _) = _
  rw [h1]
  show (if (len == zilen i || zilen i == 0) = true then _ else _) = _
  rw [if_pos h2, h3]
theorem zTh_of {s : State} {A : Nat → Prop} {H0 H : Heap} {locs : List Loc} (hth : zTh s A H0) (hS : va_S A H0 H locs) {B : Nat → Prop} (hF : ∀ q, B q → A q) {U : State} (hU : U.heap = H) (hw : s.WarmedH U.vm) : zTh U B U.heap := by
  rw [hU]
  exact ((hth.kept hS.2.1).narrow hF).moved hw.alike
theorem zPreT_blind {D : va_G} {ad : Nat → Nat} {ca : Nat → ClassId} {σ : zS} {sz : Nat} {av : List Value} {A : Nat → Prop} : FrameBlind (va_Pc av (fun U => zPre D ad ca σ sz U ∧ zTh U A U.heap)) := by
  intro a U g mk h
  obtain ⟨h0, h1, h2⟩ := h
  obtain ⟨h3, h4⟩ := zPre_blind (av := av) (D := D) (ad := ad) (ca := ca) (σ := σ) (sz := sz) a U g mk ⟨h0, h1⟩
  exact ⟨h3, h4, zTh.moved (u := U) (U := U.calling g mk a) (Vm.Alike.refl U.vm) h2⟩
theorem zpartL0 {f d : Nat} {a o : Nat} {p0 p1 : Int32} {σ : zS} : zpart f 5 d kL_brook 0 (zentry (zKmax kL_brook) [.ref a, .int p0, .int p1, .ref o]) [] σ = some (5, [.ref a, .int p0, .int p1, .ref o, .retAddr 0], [.int p1, .int p0, .ref a, .int 0, .ref o], σ) := by
  refine Eq.trans (zpart_1 (show decode cL_brook 0 = .ok (.aload_n 3, 1) by decide +kernel) rfl rfl) ?_
  refine Eq.trans (zpart_1 (show decode cL_brook 1 = .ok (.iconst 0, 1) by decide +kernel) rfl rfl) ?_
  refine Eq.trans (zpart_1 (show decode cL_brook 2 = .ok (.aload_n 0, 1) by decide +kernel) rfl rfl) ?_
  refine Eq.trans (zpart_1 (show decode cL_brook 3 = .ok (.iload_n 1, 1) by decide +kernel) rfl rfl) ?_
  refine Eq.trans (zpart_1 (show decode cL_brook 4 = .ok (.iload_n 2, 1) by decide +kernel) rfl rfl) ?_
  rfl
theorem zpartL1 {f d : Nat} {o : Nat} {y : Int32} {ls : List Value} {σ : zS} (h : zkind σ o = 19 ∧ o < znum σ ∧ 0 < zlen σ o) : zpart f 4 d kL_brook 8 ls [.int y, .int 0, .ref o] σ = some (18, ls, [.int 0], zsL σ o (vp_updL (zL σ o) 0 y.toInt64)) := by
  refine Eq.trans (zpart_1 (show decode cL_brook 8 = .ok (.i2l, 1) by decide +kernel) rfl rfl) ?_
  refine Eq.trans (zpart_1 (show decode cL_brook 9 = .ok (.lastore, 1) by decide +kernel) rfl (if_pos ⟨h.1, h.2.1, by
    rintro (h1 | h1)
    · exact absurd h1 (by decide)
    · have : ((0 : Int32)).toNatClampNeg = 0 := by decide
      omega⟩)) ?_
  refine Eq.trans (zpart_1 (show decode cL_brook 10 = .ok (.goto 7, 3) by decide +kernel) rfl rfl) ?_
  refine Eq.trans (zpart_1 (show decode cL_brook 17 = .ok (.iconst 0, 1) by decide +kernel) rfl rfl) ?_
  rfl
theorem zsnd_brook {l : Launch} (hlt : l.stackTraces = false) {f : Nat} (ih : zSnd l f) {p : Program} {e : Env} {R : Room} {s : State} {m : MethodId} {args : Array Value} {below : List Frame} {meth : Method} {c : Code} {Q : State → Prop} {A : Nat → Prop} {H0 H : Heap} {D : va_G} {K K' : zK} {pc n cells slots : Nat} {i : Instr} {ls st as rest : List Value} {σ σ' : zS} {ad : Nat → Nat} {ca : Nat → ClassId} {lsA : Array Slot} {locs : List Loc} {dc : Nat} {r : Option Value}
    (hd : decode (zKcode K) pc = .ok (i, n)) (hn : (n == zilen i || zilen i == 0) = true) (hs : zstep K i n (dc + 1) pc ls st σ = some (.inr (.inr (K', as, rest)))) (hk8 : zKkind K' = 8) (h : zBrest f (dc + 1) K pc ls as rest σ dc = some (r, σ'))
    (C : zCx p R s m args meth c K (dc + 1) A H0 (ad 0)) (hth : zKkind K = 9 → zTh s A H0) (hW : zWd D ad ca σ s A H0 H locs) (hL : zLs ad lsA (zKmax K) ls) (hv1 : zVv (znum σ) ls) (hv2 : zVv (znum σ) st) (hc : cells + zcc σ' ≤ R.cells + zcc σ) (hsl : slots + zcs σ' ≤ R.slots + zcs σ)
    (k : ∀ (ad' : Nat → Nat) (ca' : Nat → ClassId) (H' : Heap) (locs' : List Loc) (cells' slots' pcR : Nat) (lsR : Array Slot), (∀ j, j < znum σ → ad' j = ad j) → zWd D ad' ca' σ' s A H0 H' locs' → cells' + zcc σ = cells + zcc σ' → slots' + zcs σ = slots + zcs σ' → zRet K r pcR → lsR.size = zKmax K →
      W p l e R s m args below meth c H' locs' cells' slots' Q (F0 m pcR lsR (zRstk r))) :
    W p l e R s m args below meth c H locs cells slots Q (F0 m pc lsA (st.map (zv ad))) := by
  sorry
