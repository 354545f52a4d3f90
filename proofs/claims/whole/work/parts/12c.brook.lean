/-! the law's private method brook, which catches what the class's brook throws -/
def zNSE : String := "java/util/NoSuchElementException"
/-- what holds of the class's brook where it throws -/
abbrev zXQ (x : Option Int32) (D : va_G) (n : Nat) (ad : Nat → Nat) (σ' : zS) (A : Nat → Prop) : String → State → State → Prop :=
  vx_X (fun u : zU => x = none ∧ ∀ j, j < n → u.1 j = ad j) (fun E u t => E = zNSE ∧ zB D A σ' u t) A
/-- where it answers with x (some) or throws (none) -/
abbrev zQB (x : Option Int32) (D : va_G) (ad : Nat → Nat) (n : Nat) (σ' : zS) (A : Nat → Prop) : Array Value → State → Outcome → State → Prop :=
  va_Qi (fun (y : Int32) (u : zU) => x = some y ∧ ∀ j, j < n → u.1 j = ad j) (zB D A σ') A
set_option maxHeartbeats 4000000 in
theorem zmetB {l : Launch} (hlt : l.stackTraces = false) {f : Nat} (ih : zSnd l f) {d : Nat} {as : List Value} {σ σ' : zS} {r : Option Value} {x : Option Int32} (hx0 : (∃ y, x = some y ∧ r = some (.int y)) ∨ (x = none ∧ r = some zThr)) (hr : zrun f (d + 6) kX11_brook 0 (zentry (zKmax kX11_brook) as) [] σ = some (r, σ')) (hmax : (zargs as).length ≤ zKmax kX11_brook) (hv : zVv (znum σ) as) (D : va_G) (ad : Nat → Nat) (ca : Nat → ClassId) (sz k1 k2 : Nat) (hk0 : zcc σ' - zcc σ ≤ k1 ∧ zcs σ' - zcs σ ≤ k2) (hk1 : x = none → zcc σ' - zcc σ + 1 ≤ k1 ∧ zcs σ' - zcs σ + 6 ≤ k2) :
    vx_Met l yX11_brook (zWs kX11_brook) { frames := d + 6, cells := k1, slots := k2, locals := 47 * (d + 6) } (va_Pc (as.map (zv ad)) (fun U => zPre D ad ca σ sz U ∧ zTh U (va_A (zws ad ca σ) sz) U.heap)) (zQB x D ad (znum σ) σ' (va_A (zws ad ca σ) sz)) (zXQ x D (znum σ) ad σ' (va_A (zws ad ca σ) sz)) k1 k2 (va_A (zws ad ca σ) sz) := by
  obtain ⟨q1, q2, q3, q4, q5, q6, q7, q8⟩ := ok_kX11_brook
  have hm := zrun_mon _ _ _ _ _ _ _ _ _ hr
  refine vx_ofW (cc := zKcode kX11_brook) (maxL := zKmax kX11_brook) (ret := zKrt kX11_brook) q4 rfl ?_
  intro p e s m args below meth c s₁ B hml htab hvp
  obtain ⟨rfl, ⟨rfl, hP, hK, hD0, hX, hlt0, hne, h99, h1, hR⟩, hth⟩ := hvp
  have hts := atoms_spec (ws := zWs kX11_brook) B.pre
  have htsG : ∀ w ∈ zGT, w.before (as.map (zv ad)).toArray s = true := fun w hw => hts w (List.mem_cons_of_mem _ hw)
  have hown : s.vm.findClass (zC 11) = some m.cls := findClass_of_methodNamed B.named
  have hlocks := B.notSynchronized
  rw [lg_entry_eq]
  have hbA : ¬ va_A (zws ad ca σ) s.heap.size (ad 0) := by
    rintro (⟨k, e2, h⟩ | h)
    · exact hne k _ h rfl
    · omega
  refine ih (d + 6) kX11_brook 0 _ [] σ r σ' hr p e _ s m _ below meth c _ [] 0 0 _ (va_A (zws ad ca σ) s.heap.size) s.heap D ad ca _ ⟨B.exec, B.bytes, hml, hown, htsG, fun h2 => absurd h2 (by decide), Nat.le_refl _, Nat.le_refl _, fun q hq => Or.inr hq, hlt0, hbA⟩ (fun h9 => absurd h9 (by decide)) ⟨hP, hK, hD0.self, va_S.rf, hX, h99, h1, hR⟩ (zLs.entry ad as hmax) (zentry_ok hv) zVv_nil (by show 0 + zcc σ' ≤ k1 + zcc σ; omega) (by show 0 + zcs σ' ≤ k2 + zcs σ; omega) ?_
  intro ad' ca' H' locs' cells' slots' pcR lsR hag hW' hc' hs' hret hlsz
  obtain ⟨hP', hK', hD', hS', hX', h99', h1', hR'⟩ := hW'
  have hX2 : ∀ t : State, t.heap[ad' 0]? = H'[ad' 0]? → s.vm.Alike t.vm → zkind σ' 0 = 99 → va_X (ad' 0) (zlen σ' 0) (zI σ' 0) t t.heap := fun t ht hW2 hk9 => by
    refine va_X.moved hW2 ((hX' hk9).kept ?_)
    rw [ht, hag 0 (by omega)]
    exact hS'.2.1 _ hlt0 hbA
  rcases hret with ⟨rfl, hk, hdr⟩ | ⟨y, rfl, hk, hdr⟩ | ⟨rfl, -, rfl⟩
  · rcases hx0 with ⟨y, -, h⟩ | ⟨-, h⟩ <;> cases h
  · have hx1 : x = some y := by
      rcases hx0 with ⟨z, hz, h⟩ | ⟨-, h⟩
      · cases h
        exact hz
      · cases h
    have hrt : meth.sig.returnType = some .int := by rw [B.returns]; rfl
    refine vx_ret (W.widen (k := k1) (n := k2) (by omega) (by omega) ?_)
    exact W.iret (v := y) B.exec B.bytes hrt (fun t ht hW2 => ⟨⟨y, (ad', ca'), rfl, ⟨hx1, hag⟩, by rw [ht]; exact hP', (hK'.moved hW2).A, hD', hX2 t (by rw [ht]) hW2.alike, h99', h1', hR'⟩, hS'.F ht⟩) hS'.2.2 hdr hlocks
  · have hx1 : x = none := by
      rcases hx0 with ⟨z, -, h⟩ | ⟨hz, -⟩
      · cases h
      · exact hz
    have hat : ∀ w ∈ vx_at0 RX11 163 zNSE ["java/lang/RuntimeException", "java/lang/Exception"], w.before (as.map (zv ad)).toArray s = true := by
      refine vx_hat (B := zxB) (fun w hw => ?_) (fun w hw => hw) (fun w hw => ?_)
      · exact htsG w (List.mem_filter.mpr ⟨zx_g2 w hw, (List.mem_filter.mp hw).2⟩)
      · refine va_Nw.use ?_ (hth.2.2 w hw)
        have := zx_B w hw
        cases w <;> first | (cases this; done) | rfl
    have hk1 := hk1 hx1
    have ha0 : cells' = zcc σ' - zcc σ := by omega
    have hb0 : slots' = zcs σ' - zcs σ := by omega
    refine vx_throw0 (own := RX11) (cls := zNSE) (names := ["java/lang/RuntimeException", "java/lang/Exception"]) (ik := 161) (ic := 163) (A := va_A (zws ad ca σ) s.heap.size) B.exec B.bytes hlt hown (by decide +kernel) (by decide +kernel) (htsG _ zxw_link161) (htsG _ zxw_init) hat zx_g5 hth.1 hth.2.1 hS' (hlsz.trans hml.symm) (by decide +kernel) (by decide +kernel) (by decide +kernel) (by decide +kernel) (fun x hx => (htab x hx).elim) (by show 2 + 3 < d + 6; omega) (by show 0 + (13 * (2 + 1) + 42) ≤ 47 * (d + 6); omega) (by show cells' + 1 ≤ k1; omega) (by show slots' + 6 ≤ k2; omega) hlocks (fun t hvm hsz hkeep => ?_) hS'.2.2 (by omega) (by omega)
    refine ⟨(ad', ca'), ⟨hx1, hag⟩, ⟨rfl, fun k q hq => (hP' k q hq).kept (hkeep _ (hP' k q hq).lt), hK'.A.moved hvm, hD', hX2 t (hkeep _ ?_) hvm, h99', h1', hR'⟩, Nat.le_trans hS'.1 hsz, fun q hq hnA => (hkeep q (Nat.lt_of_lt_of_le hq hS'.1)).trans (hS'.2.1 q hq hnA)⟩
    rw [hag 0 (by omega)]
    exact Nat.lt_of_lt_of_le hlt0 hS'.1
/-- the rest of a run behind the law's call of brook -/
def zBrest (f d : Nat) (K : zK) (pc : Nat) (ls as rest : List Value) (σ : zS) : Nat → Option (Option Value × zS) := fun d' => match d', as with
  | d2 + 7, [.ref a, .int p0, .int p1, .ref o] => (match zrun f (d2 + 6) kX11_brook 0 (zentry (zKmax kX11_brook) [.ref a, .int p0, .int p1]) [] σ with
    | some (some (.int v), σ') => if zKkind K = 9 ∧ zkind σ a = 11 ∧ a < znum σ ∧ zkind σ' o = 19 ∧ o < znum σ ∧ 0 < zlen σ' o then zrun f d K (pc + 3) ls (.int 0 :: rest) (zsL σ' o (vp_updL (zL σ' o) 0 v.toInt64)) else none
    | some (some (.retAddr 7), σ') => if zKkind K = 9 ∧ zkind σ a = 11 ∧ a < znum σ then zrun f d K (pc + 3) ls (.int 1 :: rest) (zbump σ' 1 6) else none
    | _ => none)
  | _, _ => none
theorem zpart_1 {f n d : Nat} {K : zK} {pc len pc' : Nat} {ls st ls' st' : List Value} {σ σ' : zS} {i : Instr} (h1 : decode (zKcode K) pc = .ok (i, len)) (h2 : (len == zilen i || zilen i == 0) = true) (h3 : zstep K i len d pc ls st σ = some (.inl (pc', ls', st', σ'))) : zpart f (n + 1) d K pc ls st σ = zpart f n d K pc' ls' st' σ' := by
  show (match decode (zKcode K) pc with
    | .error _ => none
    | .ok (i, len) => _) = _
  rw [h1]
  show (if (len == zilen i || zilen i == 0) = true then _ else _) = _
  rw [if_pos h2, h3]
theorem zTh_of {s : State} {A : Nat → Prop} {H0 H : Heap} {locs : List Loc} (hth : zTh s A H0) (hS : va_S A H0 H locs) {B : Nat → Prop} (hF : ∀ q, B q → A q) {U : State} (hU : U.heap = H) (hw : s.WarmedH U.vm) : zTh U B U.heap := by
  rw [hU]
  exact ((hth.kept hS.2.1).narrow hF).moved hw.alike
theorem zPreT_blind {D : va_G} {ad : Nat → Nat} {ca : Nat → ClassId} {σ : zS} {sz : Nat} {av : List Value} {A : Nat → Prop} : FrameBlind (va_Pc av (fun U => zPre D ad ca σ sz U ∧ zTh U A U.heap)) := by
  intro a U g mk h
  obtain ⟨h0, h1, h2⟩ := h
  obtain ⟨h3, h4⟩ := zPre_blind (av := av) (D := D) (ad := ad) (ca := ca) (σ := σ) (sz := sz) a U g mk ⟨h0, h1⟩
  exact ⟨h3, h4, zTh.moved (u := U) (U := U.calling g mk a) (Vm.Alike.refl U.vm) h2⟩
theorem zpartL0 {f d : Nat} {a o : Nat} {p0 p1 : Int32} {σ : zS} : zpart f 5 d kL_brook 0 (zentry (zKmax kL_brook) [.ref a, .int p0, .int p1, .ref o]) [] σ = some (5, [.ref a, .int p0, .int p1, .ref o, .retAddr 0], [.int p1, .int p0, .ref a, .int 0, .ref o], σ) := by
  refine Eq.trans (zpart_1 (show decode cL_brook 0 = .ok (.aload_n 3, 1) by decide +kernel) rfl rfl) ?_
  refine Eq.trans (zpart_1 (show decode cL_brook 1 = .ok (.iconst 0, 1) by decide +kernel) rfl rfl) ?_
  refine Eq.trans (zpart_1 (show decode cL_brook 2 = .ok (.aload_n 0, 1) by decide +kernel) rfl rfl) ?_
  refine Eq.trans (zpart_1 (show decode cL_brook 3 = .ok (.iload_n 1, 1) by decide +kernel) rfl rfl) ?_
  refine Eq.trans (zpart_1 (show decode cL_brook 4 = .ok (.iload_n 2, 1) by decide +kernel) rfl rfl) ?_
  rfl
theorem zpartL1 {f d : Nat} {o : Nat} {y : Int32} {ls : List Value} {σ : zS} (h : zkind σ o = 19 ∧ o < znum σ ∧ 0 < zlen σ o) : zpart f 4 d kL_brook 8 ls [.int y, .int 0, .ref o] σ = some (18, ls, [.int 0], zsL σ o (vp_updL (zL σ o) 0 y.toInt64)) := by
  refine Eq.trans (zpart_1 (show decode cL_brook 8 = .ok (.i2l, 1) by decide +kernel) rfl rfl) ?_
  refine Eq.trans (zpart_1 (show decode cL_brook 9 = .ok (.lastore, 1) by decide +kernel) rfl (if_pos ⟨h.1, h.2.1, by
    rintro (h1 | h1)
    · exact absurd h1 (by decide)
    · have : ((0 : Int32)).toNatClampNeg = 0 := by decide
      omega⟩)) ?_
  refine Eq.trans (zpart_1 (show decode cL_brook 10 = .ok (.goto 7, 3) by decide +kernel) rfl rfl) ?_
  refine Eq.trans (zpart_1 (show decode cL_brook 17 = .ok (.iconst 0, 1) by decide +kernel) rfl rfl) ?_
  rfl
set_option maxHeartbeats 4000000 in
theorem zmetL {l : Launch} (hlt : l.stackTraces = false) {f : Nat} (ih : zSnd l f) {d a o : Nat} {p0 p1 : Int32} {σ σ1 σ2 : zS} {r : Option Value} {x : Option Int32} (hx0 : (∃ y, x = some y ∧ r = some (.int y)) ∨ (x = none ∧ r = some zThr)) (hr : zrun f (d + 6) kX11_brook 0 (zentry (zKmax kX11_brook) [.ref a, .int p0, .int p1]) [] σ = some (r, σ1)) (hka : zkind σ a = 11) (han : a < znum σ) (hon : o < znum σ)
    (h2 : ∀ y, x = some y → zkind σ1 o = 19 ∧ 0 < zlen σ1 o ∧ σ2 = zsL σ1 o (vp_updL (zL σ1 o) 0 y.toInt64)) (h3 : x = none → σ2 = zbump σ1 1 6) (D : va_G) (ad : Nat → Nat) (ca : Nat → ClassId) (sz : Nat) :
    vx_Met l yL_brook (Cond.codeWith yL_brook cL_brook 5 (some .int) [(0, 10, 13, 13)] :: zGT) (zRm (d + 7) σ σ2) (va_Pc (([.ref a, .int p0, .int p1, .ref o] : List Value).map (zv ad)) (fun U => zPre D ad ca σ sz U ∧ zTh U (va_A (zws ad ca σ) sz) U.heap)) (zQ (some (.int (if x = none then 1 else 0))) D ad (znum σ) σ2 (va_A (zws ad ca σ) sz)) (vx_X (fun _ : zU => False) (fun _ _ _ => True) (va_A (zws ad ca σ) sz)) (zcc σ2 - zcc σ) (zcs σ2 - zcs σ) (va_A (zws ad ca σ) sz) := by
  have hm := zrun_mon _ _ _ _ _ _ _ _ _ hr
  have hσ : (x = none → zcc σ2 = zcc σ1 + 1 ∧ zcs σ2 = zcs σ1 + 6) ∧ (∀ y, x = some y → zcc σ2 = zcc σ1 ∧ zcs σ2 = zcs σ1) ∧ znum σ2 = znum σ1 := by
    refine ⟨fun h => by rw [h3 h]; exact ⟨rfl, rfl⟩, fun y h => by rw [(h2 y h).2.2]; exact ⟨rfl, rfl⟩, ?_⟩
    cases x with
    | none => rw [h3 rfl]; rfl
    | some y => rw [(h2 y rfl).2.2]; rfl
  have hσ3 : zcc σ1 ≤ zcc σ2 ∧ zcs σ1 ≤ zcs σ2 := by
    cases x with
    | none => have := hσ.1 rfl; omega
    | some y => have := hσ.2.1 y rfl; omega
  refine vx_ofWH (cc := cL_brook) (maxL := 5) (ret := some .int) (hh := [(0, 10, 13, 13)]) (by decide +kernel) rfl ?_
  intro p e s m args below meth c s₁ B hml hvp
  obtain ⟨rfl, ⟨rfl, hP, hK, hD0, hX, hlt0, hne, h99, h1, hR⟩, hth⟩ := hvp
  have hts := atoms_spec (ws := Cond.codeWith yL_brook cL_brook 5 (some .int) [(0, 10, 13, 13)] :: zGT) B.pre
  have htsG : ∀ w ∈ zGT, w.before (([.ref a, .int p0, .int p1, .ref o] : List Value).map (zv ad)).toArray s = true := fun w hw => hts w (List.mem_cons_of_mem _ hw)
  have hown : s.vm.findClass RL = some m.cls := findClass_of_methodNamed B.named
  have hlocks := B.notSynchronized
  have hrt : meth.sig.returnType = some .int := B.returns
  have hbA : ¬ va_A (zws ad ca σ) s.heap.size (ad 0) := by
    rintro (⟨k, e2, h⟩ | h)
    · exact hne k _ h rfl
    · omega
  have hv0 : zVv (znum σ) [.ref a, .int p0, .int p1, .ref o] := zVv_cons.mpr ⟨han, zVv_cons.mpr ⟨trivial, zVv_cons.mpr ⟨trivial, zVv_cons.mpr ⟨hon, zVv_nil⟩⟩⟩⟩
  have hC : zCx p (headSpec (Cond.codeWith yL_brook cL_brook 5 (some .int) [(0, 10, 13, 13)] :: zGT) (zRm (d + 7) σ σ2)).room s m (([.ref a, .int p0, .int p1, .ref o] : List Value).map (zv ad)).toArray meth c kL_brook (d + 7) (va_A (zws ad ca σ) s.heap.size) s.heap (ad 0) :=
    ⟨B.exec, B.bytes, hml, hown, htsG, fun h2 => absurd h2 (by decide), Nat.le_refl _, Nat.le_refl _, fun q hq => Or.inr hq, hlt0, hbA⟩
  rw [lg_entry_eq]
  refine zpart_ok (st := []) (K := kL_brook) ih 5 (d + 7) 0 _ σ 5 _ _ σ s.heap [] 0 0 ad ca _ zpartL0 hC ⟨hP, hK, hD0.self, va_S.rf, hX, h99, h1, hR⟩ (zLs.entry ad [.ref a, .int p0, .int p1, .ref o] (n := 5) (by show 4 ≤ 5; decide)) (zentry_ok hv0) zVv_nil (by show 0 + zcc σ ≤ (zcc σ2 - zcc σ) + zcc σ; omega) (by show 0 + zcs σ ≤ (zcs σ2 - zcs σ) + zcs σ; omega) ?_
  intro ad1 ca1 H1 locs1 cells1 slots1 lsA1 hag1 hW1 hL1 hv1 hv2 hc1 hs1
  have hC1 := zCx_ad hC (hag1 0 (by omega))
  have hcf : CallFix p m c cL_brook 5 s _ zGT RL := ⟨B.exec, B.bytes, hml, hown, htsG⟩
  have hFc : ∀ q, va_A (zws ad1 ca1 σ) H1.size q → va_A (zws ad ca σ) s.heap.size q := by
    intro q h
    rcases h with ⟨k2, e2, h⟩ | h
    · exact hW1.2.2.1.2 k2 _ h
    · exact Or.inr (Nat.le_trans hW1.2.2.2.1.1 h)
  have hM := zmetB hlt ih (d := d) (k1 := zcc σ2 - zcc σ) (k2 := zcs σ2 - zcs σ) hx0 hr (by show 3 ≤ 4; decide) (zVv_cons.mpr ⟨han, zVv_cons.mpr ⟨trivial, zVv_cons.mpr ⟨trivial, zVv_nil⟩⟩⟩) D ad1 ca1 H1.size (by omega) (fun h => by have := hσ.1 h; omega)
  have hrecv : ∃ cell : Cell, H1[ad1 a]? = some cell ∧ cell.vm.isStatics = false ∧ s.vm.findClass (zKy kX11_brook).cls = some cell.cls :=
    va_recv hW1.2.1.K0 hW1.1 (q := (zC 11, zT 11, zN 11)) (zcF_all 11 (by decide)).1 (q0 := a - 1) (by rw [← hka]; exact hW1.get (by omega) han (zent_obj (by omega)))
  have hp : PreV s H1 (zKy kX11_brook).cls (ad1 a) (va_Pc (([.ref a, .int p0, .int p1] : List Value).map (zv ad1)) (fun U => zPre D ad1 ca1 σ H1.size U ∧ zTh U (va_A (zws ad1 ca1 σ) H1.size) U.heap)) [.int p0, .int p1] := ⟨zPreT_blind, hrecv, fun U hU hw => ⟨rfl, zPre_of hC1 hW1 hU hw, zTh_of hth hW1.2.2.2.1 hFc hU hw⟩⟩
  have hcall : CallW (headSpec (Cond.codeWith yL_brook cL_brook 5 (some .int) [(0, 10, 13, 13)] :: zGT) (zRm (d + 7) σ σ2)).room s (([.ref a, .int p0, .int p1, .ref o] : List Value).map (zv ad)).toArray RL RX11 7 yX11_brook (zKcode kX11_brook) (zKmax kX11_brook) (zKrt kX11_brook) (zWs kX11_brook) { frames := d + 6, cells := zcc σ2 - zcc σ, slots := zcs σ2 - zcs σ, locals := 47 * (d + 6) } (zcc σ2 - zcc σ) (zcs σ2 - zcs σ) 2 :=
    ⟨callB_of 2 htsG (zGoodWs ok_kX11_brook) rfl rfl rfl (htsG _ ok_kX11_brook.2.1) (htsG _ (zlk13_7.2.2.2.1 rfl)) (by decide +kernel) ⟨by show d + 6 + 1 ≤ d + 7; omega, by show 8 + (4 + 11) + 47 * (d + 6) ≤ 47 * (d + 7); omega⟩, htsG _ (ok_kX11_brook.2.2.2.2.2.2.1 rfl).1, htsG _ (ok_kX11_brook.2.2.2.2.2.2.1 rfl).2⟩
  have hrun := vx_runV (below := below) (l := l) (e := e) (H := H1) (locs := locs1) (cells := cells1) (slots := slots1) (meth := meth) hcf hM hcall hp (g := F0 m 5 lsA1 (([.int p1, .int p0, .ref a, .int 0, .ref o] : List Value).map (zv ad1))) rfl rfl hL1.1 (rest := [.int 0, .ref (ad1 o)]) rfl (by show 2 * 0 + 2 ≤ 8; decide) (show decode cL_brook 5 = .ok (.invokevirtual 7, 3) by decide +kernel) (by show cells1 + _ ≤ zcc σ2 - zcc σ ∧ slots1 + _ ≤ zcs σ2 - zcs σ; omega)
  refine vx_calli hrun hW1.2.2.2.1 (fun q _ h => hFc q h) hFc (fun q _ h => hFc q h) (fun E ce q9 u t H2 locs2 ht hvm hpu hB _ _ hS2 hce hcv hcl => ?_) (fun y u t H2 locs2 ht hvm hpu hB _ _ hS2 => ?_)
  · obtain ⟨hx, hag2⟩ := hpu
    obtain ⟨rfl, hB⟩ := hB
    have hW2 := zafter hW1 hC1 ht hvm hag2 hB hS2
    have hag : ∀ j, j < znum σ → u.1 j = ad j := fun j hj => (hag2 j hj).trans (hag1 j hj)
    have hW3 : zWd D u.1 u.2 σ2 s (va_A (zws ad ca σ) s.heap.size) s.heap H2 locs2 := by
      rw [h3 hx]
      exact hW2
    have hcast : (Cond.castable zNSE zNSE).before (([.ref a, .int p0, .int p1, .ref o] : List Value).map (zv ad)).toArray s = true := va_Nw.use rfl (hth.2.2 _ zx_cast)
    refine vx_catch (name := zNSE) hown [] ⟨0, 10, 13, 13⟩ [] (by rw [vx_table (x := yL_brook) B (htsG _ zxw_codeL)]; rfl) (fun z hz => nomatch hz) (by decide) (by decide) (htsG _ zxw_link13) hcast hce hcv hcl ?_
    refine lv_astore (nL := 5) B.exec B.bytes (show decode cL_brook 13 = .ok (.astore 4, 2) by decide +kernel) hL1.has (by decide) rfl (fun ls2 hls2 => ?_)
    refine lv_iconst B.exec B.bytes (show decode cL_brook 15 = .ok (.iconst 1, 1) by decide +kernel) rfl ?_
    obtain ⟨hP', hK', hD', hS', hX', h99', h1', hR'⟩ := hW3
    have hX2 : ∀ t : State, t.heap = H2 → s.WarmedH t.vm → zkind σ2 0 = 99 → va_X (u.1 0) (zlen σ2 0) (zI σ2 0) t t.heap := fun t ht hw hk9 => by
      refine va_X.moved hw.alike ((hX' hk9).kept ?_)
      rw [hag 0 (by omega), ht]
      exact hS'.2.1 _ hlt0 hbA
    refine vx_ret (W.widen (k := zcc σ2 - zcc σ) (n := zcs σ2 - zcs σ) (by omega) (by omega) ?_)
    refine W.iret (v := 1) B.exec B.bytes hrt (fun t ht hw => ?_) hS'.2.2 (show decode cL_brook 16 = .ok (.ireturn, 1) by decide +kernel) hlocks
    refine ⟨⟨1, (u.1, u.2), rfl, ⟨by rw [hx]; rfl, hag⟩, by rw [ht]; exact hP', (hK'.moved hw).A, hD', hX2 t ht hw, h99', h1', hR'⟩, hS'.F ht⟩
  · obtain ⟨hx, hag2⟩ := hpu
    have hW2 := zafter hW1 hC1 ht hvm hag2 hB hS2
    obtain ⟨q1, q2, q3⟩ := h2 y hx
    have hσy := hσ.2.1 y hx
    have e1 : Value.int y :: [Value.int 0, Value.ref (ad1 o)] = ([.int y, .int 0, .ref o] : List Value).map (zv u.1) := by
      show _ = [Value.int y, Value.int 0, Value.ref (u.1 o)]
      rw [hag2 o hon]
    rw [e1]
    refine zpart_ok (st := [.int y, .int 0, .ref o]) (K := kL_brook) ih 4 (d + 7) 8 _ σ1 18 _ _ σ2 H2 locs2 _ _ u.1 u.2 lsA1 (by rw [q3]; exact zpartL1 ⟨q1, Nat.lt_of_lt_of_le hon hm.2.2, q2⟩) (zCx_ad hC1 (hag2 0 (by omega))) hW2 (hL1.mono hag2 hv1) (zVv_mono hm.2.2 hv1) (zVv_cons.mpr ⟨trivial, zVv_cons.mpr ⟨trivial, zVv_cons.mpr ⟨Nat.lt_of_lt_of_le hon hm.2.2, zVv_nil⟩⟩⟩) (by show _ ≤ (zcc σ2 - zcc σ) + zcc σ1; omega) (by show _ ≤ (zcs σ2 - zcs σ) + zcs σ1; omega) ?_
    intro ad3 ca3 H3 locs3 cells3 slots3 lsA3 hag3 hW3 hL3 hv13 hv23 hc3 hs3
    have hag : ∀ j, j < znum σ → ad3 j = ad j := fun j hj => ((hag3 j (by omega)).trans (hag2 j hj)).trans (hag1 j hj)
    obtain ⟨hP', hK', hD', hS', hX', h99', h1', hR'⟩ := hW3
    have hX2 : ∀ t : State, t.heap = H3 → s.WarmedH t.vm → zkind σ2 0 = 99 → va_X (ad3 0) (zlen σ2 0) (zI σ2 0) t t.heap := fun t ht hw hk9 => by
      refine va_X.moved hw.alike ((hX' hk9).kept ?_)
      rw [hag 0 (by omega), ht]
      exact hS'.2.1 _ hlt0 hbA
    refine vx_ret (W.widen (k := zcc σ2 - zcc σ) (n := zcs σ2 - zcs σ) (by omega) (by omega) ?_)
    refine W.iret (v := 0) B.exec B.bytes hrt (fun t ht hw => ?_) hS'.2.2 (show decode cL_brook 18 = .ok (.ireturn, 1) by decide +kernel) hlocks
    refine ⟨⟨0, (ad3, ca3), rfl, ⟨by rw [hx]; rfl, hag⟩, by rw [ht]; exact hP', (hK'.moved hw).A, hD', hX2 t ht hw, h99', h1', hR'⟩, hS'.F ht⟩
theorem zroomB {q n : Nat} (h : 47 * (q + 1) ≤ n) : 8 + (5 + 11) + 47 * q ≤ n := by omega
set_option maxHeartbeats 4000000 in
theorem zbrookW {l : Launch} (hlt : l.stackTraces = false) {f : Nat} (ih : zSnd l f) {p : Program} {e : Env} {R : Room} {s : State} {m : MethodId} {args : Array Value} {below : List Frame} {meth : Method} {c : Code} {Q : State → Prop} {A : Nat → Prop} {H0 H : Heap} {D : va_G} {K : zK} {pc cells slots k0 : Nat} {ls st rest : List Value} {ad : Nat → Nat} {ca : Nat → ClassId} {lsA : Array Slot} {locs : List Loc} {d a o : Nat} {p0 p1 : Int32} {σ σ1 σ2 : zS} {r : Option Value} {x : Option Int32} (hx0 : (∃ y, x = some y ∧ r = some (.int y)) ∨ (x = none ∧ r = some zThr)) (hr : zrun f (d + 6) kX11_brook 0 (zentry (zKmax kX11_brook) [.ref a, .int p0, .int p1]) [] σ = some (r, σ1)) (hka : zkind σ a = 11) (han : a < znum σ)
    (h2 : ∀ y, x = some y → zkind σ1 o = 19 ∧ 0 < zlen σ1 o ∧ σ2 = zsL σ1 o (vp_updL (zL σ1 o) 0 y.toInt64)) (h3 : x = none → σ2 = zbump σ1 1 6) (hd : decode (zKcode K) pc = .ok (.invokestatic k0, 3)) (hlk : Cond.methodLink (zC (zKci K)) k0 yL_brook ∈ zGT) (hst : st = [.ref o, .int p1, .int p0, .ref a] ++ rest) (hcat : zcat rest ≤ 8)
    (C : zCx p R s m args meth c K (d + 7 + 1) A H0 (ad 0)) (hth : zTh s A H0) (hW : zWd D ad ca σ s A H0 H locs) (hL : zLs ad lsA (zKmax K) ls) (hv1 : zVv (znum σ) ls) (hv2 : zVv (znum σ) st) (hc : cells + zcc σ2 ≤ R.cells + zcc σ) (hsl : slots + zcs σ2 ≤ R.slots + zcs σ)
    (hmon : zcc σ ≤ zcc σ2 ∧ zcs σ ≤ zcs σ2 ∧ znum σ ≤ znum σ2)
    (k : zCont p l e R s m args below meth c Q A H0 D (zKmax K) (znum σ) (zcc σ) (zcs σ) cells slots ad (pc + 3) ls (.int (if x = none then 1 else 0) :: rest) σ2) :
    W p l e R s m args below meth c H locs cells slots Q (F0 m pc lsA (st.map (zv ad))) := by
  subst hst
  have hon : o < znum σ := (zVv_cons.mp hv2).1
  have hvr : zVv (znum σ) rest := fun v hv => hv2 v (List.mem_append_right _ hv)
  obtain ⟨hx, hb, hml, hown, hts, hini, hfr, hlo, hA, hbl, hbA⟩ := id C
  have hFc : ∀ q, va_A (zws ad ca σ) H.size q → A q := by
    intro q h
    rcases h with ⟨k2, e2, h⟩ | h
    · exact hW.2.2.1.2 k2 _ h
    · exact hA _ (Nat.le_trans hW.2.2.2.1.1 h)
  have hM := zmetL hlt ih hx0 hr hka han hon h2 h3 D ad ca H.size
  have hcf : CallFix p m c (zKcode K) (zKmax K) s args zGT (zC (zKci K)) := ⟨hx, hb, hml, hown, hts⟩
  have hcw : vx_CSW R s args (zC (zKci K)) k0 yL_brook cL_brook 5 (some .int) [(0, 10, 13, 13)] (Cond.codeWith yL_brook cL_brook 5 (some .int) [(0, 10, 13, 13)] :: zGT) (zRm (d + 7) σ σ2) (zcc σ2 - zcc σ) (zcs σ2 - zcs σ) 4 := by
    have hlo2 : 8 + (5 + 11) + 47 * (d + 7) ≤ R.locals := zroomB hlo
    refine vx_cwSW 4 hts (fun w hw => ?_) rfl rfl rfl (by decide +kernel) ⟨hfr, hlo2⟩
    unfold va_wsS at hw
    rcases List.mem_append.mp hw with hw | hw
    · simp only [List.mem_cons, List.not_mem_nil, or_false] at hw
      rcases hw with rfl | rfl | rfl
      · exact zGT_good _ hlk
      · exact zGT_good _ zxw_static
      · exact zGT_good _ zxw_initL
    · rcases List.mem_cons.mp hw with rfl | hw
      · exact zGT_good _ zxw_codeL
      · exact zGT_good _ hw
  have hp : PreS s H (va_Pc (([.ref a, .int p0, .int p1, .ref o] : List Value).map (zv ad)) (fun U => zPre D ad ca σ H.size U ∧ zTh U (va_A (zws ad ca σ) H.size) U.heap)) (([.ref a, .int p0, .int p1, .ref o] : List Value).map (zv ad)) := ⟨zPreT_blind, fun U hU hw => ⟨rfl, zPre_of C hW hU hw, zTh_of hth hW.2.2.2.1 hFc hU hw⟩⟩
  have hroom : 2 * (F0 m pc lsA ((([.ref o, .int p1, .int p0, .ref a] : List Value) ++ rest).map (zv ad))).monitorRoom + ((rest.map (zv ad)).map fun v => v.category).sum ≤ 8 := by
    show 2 * 0 + _ ≤ 8
    rw [zcat_map]
    omega
  have hrun := vx_runSX (below := below) (l := l) (e := e) (H := H) (locs := locs) (cells := cells) (slots := slots) (meth := meth) hcf hM hcw hp (g := F0 m pc lsA ((([.ref o, .int p1, .int p0, .ref a] : List Value) ++ rest).map (zv ad))) rfl rfl hL.1 (rest := rest.map (zv ad)) (by rw [List.map_append]; rfl) hroom hd (by omega)
  refine vx_calli (a := (([.ref a, .int p0, .int p1, .ref o] : List Value).map (zv ad)).toArray) hrun hW.2.2.2.1 (fun q _ h => hFc q h) hFc (fun q _ h => hFc q h) (fun E ce q9 u t H2 locs2 ht hvm hpu _ _ _ _ _ _ _ => hpu.elim) (fun y u t H1 locs1 ht hvm hw hB _ _ hS1 => ?_)
  obtain ⟨rfl, hw⟩ := hw
  have hg := k u.1 u.2 H1 locs1 (cells + (zcc σ2 - zcc σ)) (slots + (zcs σ2 - zcs σ)) lsA hw (zafter hW C ht hvm hw hB hS1) (hL.mono hw hv1) (zVv_mono hmon.2.2 hv1) (zVv_cons.mpr ⟨trivial, zVv_mono hmon.2.2 hvr⟩) (by omega) (by omega)
  have e1 : (Value.int (if x = none then 1 else 0) :: rest).map (zv u.1) = Value.int (if x = none then 1 else 0) :: rest.map (zv ad) := by
    show Value.int _ :: rest.map (zv u.1) = _
    rw [zv_eqL hw hvr]
  rw [e1] at hg
  exact hg
set_option maxHeartbeats 4000000 in
theorem zsnd_brook {l : Launch} (hlt : l.stackTraces = false) {f : Nat} (ih : zSnd l f) {p : Program} {e : Env} {R : Room} {s : State} {m : MethodId} {args : Array Value} {below : List Frame} {meth : Method} {c : Code} {Q : State → Prop} {A : Nat → Prop} {H0 H : Heap} {D : va_G} {K K' : zK} {pc n cells slots : Nat} {i : Instr} {ls st as rest : List Value} {σ σ' : zS} {ad : Nat → Nat} {ca : Nat → ClassId} {lsA : Array Slot} {locs : List Loc} {dc : Nat} {r : Option Value}
    (hd : decode (zKcode K) pc = .ok (i, n)) (hn : (n == zilen i || zilen i == 0) = true) (hs : zstep K i n (dc + 1) pc ls st σ = some (.inr (.inr (K', as, rest)))) (hk8 : zKkind K' = 8) (h : zBrest f (dc + 1) K pc ls as rest σ dc = some (r, σ'))
    (C : zCx p R s m args meth c K (dc + 1) A H0 (ad 0)) (hth : zKkind K = 9 → zTh s A H0) (hW : zWd D ad ca σ s A H0 H locs) (hL : zLs ad lsA (zKmax K) ls) (hv1 : zVv (znum σ) ls) (hv2 : zVv (znum σ) st) (hc : cells + zcc σ' ≤ R.cells + zcc σ) (hsl : slots + zcs σ' ≤ R.slots + zcs σ)
    (k : ∀ (ad' : Nat → Nat) (ca' : Nat → ClassId) (H' : Heap) (locs' : List Loc) (cells' slots' pcR : Nat) (lsR : Array Slot), (∀ j, j < znum σ → ad' j = ad j) → zWd D ad' ca' σ' s A H0 H' locs' → cells' + zcc σ = cells + zcc σ' → slots' + zcs σ = slots + zcs σ' → zRet K r pcR → lsR.size = zKmax K →
      W p l e R s m args below meth c H' locs' cells' slots' Q (F0 m pcR lsR (zRstk r))) :
    W p l e R s m args below meth c H locs cells slots Q (F0 m pc lsA (st.map (zv ad))) := by
  obtain ⟨k0, hres, hm32, hmax, hcat, hkinds⟩ := zstep_call hs
  have h1n := hW.2.2.2.2.2.2.1
  obtain ⟨-, -, hk3, -, hlk⟩ := zres_ok hres
  have hK' : K' = kL_brook := by
    rcases hk3 (by show 3 ≤ zKkind K'; omega) with h | h | h | h | h | h
    all_goals first
      | exact h
      | (replace h : K' = _ := h
         rw [h] at hk8
         exact absurd hk8 (by decide))
  subst hK'
  have hlk2 : Cond.methodLink (zC (zKci K)) k0 yL_brook ∈ zGT := hlk (show 3 ≤ 8 by decide)
  rcases hkinds with ⟨rfl, -, hst, -⟩ | ⟨-, hk, -⟩ | ⟨-, hk, -⟩
  rotate_left
  · exact absurd hk (by decide)
  · exact absurd hk (by decide)
  obtain rfl : n = 3 := by simpa [zilen] using hn
  unfold zBrest at h
  split at h
  rotate_left
  · cases h
  rename_i d2 a p0 p1 o
  split at h
  · rename_i v σ1 hr
    split at h
    · rename_i hq
      obtain ⟨hK9, hka, han, q1, hon, q2⟩ := hq
      have m1 := zrun_mon _ _ _ _ _ _ _ _ _ hr
      have m2 := zrun_mon _ _ _ _ _ _ _ _ _ h
      have m3 : zcc (zsL σ1 o (vp_updL (zL σ1 o) 0 v.toInt64)) = zcc σ1 ∧ zcs (zsL σ1 o (vp_updL (zL σ1 o) 0 v.toInt64)) = zcs σ1 ∧ znum (zsL σ1 o (vp_updL (zL σ1 o) 0 v.toInt64)) = znum σ1 := ⟨rfl, rfl, rfl⟩
      refine zbrookW hlt ih (x := some v) (σ2 := zsL σ1 o (vp_updL (zL σ1 o) 0 v.toInt64)) (Or.inl ⟨v, rfl, rfl⟩) hr hka han (fun y hy => by cases hy; exact ⟨q1, q2, rfl⟩) (fun hy => by cases hy) hd hlk2 hst hcat C (hth hK9) hW hL hv1 hv2 (by omega) (by omega) (by omega) (fun ad1 ca1 H1 locs1 cells1 slots1 lsA1 hag hW1 hL1 hv1' hv2' hc1 hs1 => ?_)
      exact ih _ K (pc + 3) ls _ _ r σ' h p e R s m args below meth c H1 locs1 cells1 slots1 Q A H0 D ad1 ca1 lsA1 (zCx_ad C (hag 0 (by omega))) hth hW1 hL1 hv1' hv2' (by omega) (by omega) (fun ad2 ca2 H2 locs2 cells2 slots2 pcR lsR hag2 hW2 hc2 hs2 hret hlsz =>
        k ad2 ca2 H2 locs2 cells2 slots2 pcR lsR (fun j hj => (hag2 j (by omega)).trans (hag j hj)) hW2 (by omega) (by omega) hret hlsz)
    · cases h
  · rename_i σ1 hr
    split at h
    · rename_i hq
      obtain ⟨hK9, hka, han⟩ := hq
      have m1 := zrun_mon _ _ _ _ _ _ _ _ _ hr
      have m2 := zrun_mon _ _ _ _ _ _ _ _ _ h
      have m3 : zcc (zbump σ1 1 6) = zcc σ1 + 1 ∧ zcs (zbump σ1 1 6) = zcs σ1 + 6 ∧ znum (zbump σ1 1 6) = znum σ1 := ⟨rfl, rfl, rfl⟩
      refine zbrookW hlt ih (x := none) (σ2 := zbump σ1 1 6) (Or.inr ⟨rfl, rfl⟩) hr hka han (fun y hy => by cases hy) (fun _ => rfl) hd hlk2 hst hcat C (hth hK9) hW hL hv1 hv2 (by omega) (by omega) (by omega) (fun ad1 ca1 H1 locs1 cells1 slots1 lsA1 hag hW1 hL1 hv1' hv2' hc1 hs1 => ?_)
      exact ih _ K (pc + 3) ls _ _ r σ' h p e R s m args below meth c H1 locs1 cells1 slots1 Q A H0 D ad1 ca1 lsA1 (zCx_ad C (hag 0 (by omega))) hth hW1 hL1 hv1' hv2' (by omega) (by omega) (fun ad2 ca2 H2 locs2 cells2 slots2 pcR lsR hag2 hW2 hc2 hs2 hret hlsz =>
        k ad2 ca2 H2 locs2 cells2 slots2 pcR lsR (fun j hj => (hag2 j (by omega)).trans (hag j hj)) hW2 (by omega) (by omega) hret hlsz)
    · cases h
  · cases h
