/-! the calls start and tick -/
def wRc (j c k : Nat) : Prop := (j = 0 ∧ ((c = 12 ∧ (k = 5 ∨ k = 6 ∨ k = 8 ∨ k = 9)) ∨ c = 14 ∨ c = 15 ∨ (20 ≤ c ∧ c ≤ 30 ∧ 2 ≤ k) ∨ (33 ≤ c ∧ c ≤ 35) ∨ c = 139 ∨ (142 ≤ c ∧ c ≤ 145) ∨ c = 150 ∨ c = 151 ∨ (c = 131 ∧ (k = 0 ∨ k = 21 ∨ k = 22)))) ∨ (j = 1 ∧ ((c = 12 ∧ k = 7) ∨ (c = 131 ∧ k = 31)))
theorem wRc1 {c k : Nat} (h : c = 12 ∧ (k = 5 ∨ k = 6 ∨ k = 8 ∨ k = 9)) : wRc 0 c k := Or.inl ⟨rfl, Or.inl h⟩
theorem wRc2 {c k : Nat} (h : c = 14) : wRc 0 c k := Or.inl ⟨rfl, Or.inr (Or.inl h)⟩
theorem wRc3 {c k : Nat} (h : c = 15) : wRc 0 c k := Or.inl ⟨rfl, Or.inr (Or.inr (Or.inl h))⟩
theorem wRc4 {c k : Nat} (h : 20 ≤ c ∧ c ≤ 30 ∧ 2 ≤ k) : wRc 0 c k := Or.inl ⟨rfl, Or.inr (Or.inr (Or.inr (Or.inl h)))⟩
theorem wRc5 {c k : Nat} (h : 33 ≤ c ∧ c ≤ 35) : wRc 0 c k := Or.inl ⟨rfl, Or.inr (Or.inr (Or.inr (Or.inr (Or.inl h))))⟩
theorem wRc6 {c k : Nat} (h : c = 139 ∨ (142 ≤ c ∧ c ≤ 145) ∨ c = 150 ∨ c = 151 ∨ (c = 131 ∧ (k = 0 ∨ k = 21 ∨ k = 22))) : wRc 0 c k := Or.inl ⟨rfl, Or.inr (Or.inr (Or.inr (Or.inr (Or.inr h))))⟩
theorem wPt_rc {j c k : Nat} (q : wPt j c k) : wRc j c k := by
  rcases q with ⟨rfl, ⟨q, q2⟩ | q | q | q | q⟩ | ⟨rfl, q, q2⟩
  · exact wRc1 ⟨q, by omega⟩
  · exact wRc2 q
  · exact wRc3 q
  · exact wRc4 q
  · exact wRc5 q
  · exact Or.inr ⟨rfl, Or.inl ⟨q, q2⟩⟩
theorem pWr_rc {j c k : Nat} (q : pWr 12 j c k) : wRc j c k := by
  rcases q with ⟨rfl, ⟨q, q2⟩ | q | q | ⟨_, q1, q2, q3⟩⟩ | ⟨rfl, q, q2⟩
  · exact wRc1 ⟨q, q2⟩
  · exact wRc2 q
  · exact wRc3 q
  · exact wRc4 ⟨q1, q2, q3⟩
  · exact Or.inr ⟨rfl, Or.inl ⟨q, q2⟩⟩
theorem wLg_rc {T n j c k : Nat} (q : wLg 33 34 35 T n j c k) : wRc j c k := by
  obtain ⟨rfl, q⟩ := q
  exact wRc5 (by omega)
theorem wRc_c {c k : Nat} (h : wRc 0 c k) : (12 ≤ c ∧ c ≤ 35) ∨ c = 139 ∨ (142 ≤ c ∧ c ≤ 145) ∨ (150 ≤ c ∧ c ≤ 151) ∨ (c = 131 ∧ (k = 0 ∨ k = 21 ∨ k = 22)) := by
  unfold wRc at h
  omega
theorem zFr_fix {W : Nat → Nat → Nat → Prop} {σ σ' : zS} {c k : Nat} (h : zFr W σ σ') (e : zI σ' c k = zI σ c k) : zFr (fun j c' k' => W j c' k' ∧ ¬ (j = 0 ∧ c' = c ∧ k' = k)) σ σ' := by
  refine ⟨h.1, h.2.1, fun c' k' q => ?_, fun c' k' q => h.l (fun w => q ⟨w, by omega⟩), fun c' k' q => h.r (fun w => q ⟨w, by omega⟩)⟩
  by_cases hc : c' = c ∧ k' = k
  · rw [hc.1, hc.2]; exact e
  · exact h.i (fun w => q ⟨w, by omega⟩)
section START
variable {σ : zS} {nb ns : Nat} {Q : Option Value → zS → Prop}
theorem iA_race {σ' : zS} {n b t' : Nat} {D' : aD} (g : iA σ nb ns) (TT : iT σ nb ns n b) (h0 : 0 < n) (f : zFr wRc σ σ') (l5 : zLay σ') (hD : pHas σ' 12 n D') (m1 : mF σ' n = D'.1) (m2 : (zI σ' 131 22).toInt = D'.2.1) (m3 : zL σ' 131 31 = D'.2.2.1) (hS : ∀ x, x < 16 → (zI σ' 145 x).toInt = aStr D' x) (hok : aDok (mB σ b) n D') (hstr : ∀ x, x < 16 → 0 ≤ aStr D' x ∧ aStr D' x ≤ 6 * (t' : Int)) (ht : t' ≤ 60) (e5 : zI σ' 12 5 = nI t') (e21 : zI σ' 131 21 = nI t') (e9 : zI σ' 12 9 = 1) (h03 : ∀ r w, r < n → w ≤ 3 → D'.1 r w = mFR σ 139 n r w)
    (hlog : ∀ k, k ≤ t' → (∀ r, r < n → zI σ' 33 (6 * k + r) = zI σ' 142 (6 * k + r) ∧ zI σ' 34 (6 * k + r) = zI σ' 143 (6 * k + r)) ∧ zI σ' 35 k = zI σ' 144 k) (hz : ∀ r, r < n → (zI σ' 142 r).toInt = 0) : iA σ' nb ns := by
  have h6 := g.nb6
  have h10 := g.ns10
  have hb := TT.bb
  have eM : mFR σ' 139 n = D'.1 := m1
  have eB : mB σ' b = mB σ b := mB_f (nb := nb) f (fun c k q z => by have z2 := wRc_c z; unfold jB at q; omega) hb
  obtain ⟨d1, d2, d3, d4, d5⟩ := hD
  refine iA_but f l5 g (by unfold wRc; omega) (Or.inl fun c k q z => by have z2 := wRc_c z; unfold jTape at q; omega) (Or.inl fun c k q z => by have z2 := wRc_c z; unfold jWx at q; omega) (Or.inl fun c k q z => by have z2 := wRc_c z; unfold jBr jB at q; omega) (Or.inl fun c k q z => by have z2 := wRc_c z; unfold jSt at q; omega) (Or.inl fun c k q z => by have z2 := wRc_c z; unfold jSg at q; omega) (Or.inr ⟨n, TT.1, ?_, ?_, Or.inr ⟨b, ?_, ⟨hb, ?_, fun r hr => ?_, d1.trans eM.symm, fun r hr => ?_, fun r hr o ho => ?_⟩, Or.inr ⟨t', ht, h0, e21, e5, e9, ?_, ?_, ?_, ?_, ?_, fun x hx => ?_, fun x hx => ?_, hlog, hz⟩⟩⟩) (Or.inl ⟨fun c k q z => by have z2 := wRc_c z; unfold jIm jB at q; omega, by unfold wRc; omega, fun c k _ _ => by unfold wRc; omega⟩) (Or.inl fun c _ _ => by unfold wRc; omega)
  · rw [f.i (by unfold wRc; omega)]; exact TT.2.1
  · rw [f.i (by unfold wRc; omega)]; exact TT.2.2.1
  · rw [f.i (by unfold wRc; omega)]; exact TT.2.2.2.1
  · rw [f.r (by unfold wRc; omega)]; exact TT.2.2.2.2.2.1
  · obtain ⟨s, s1, s2⟩ := TT.2.2.2.2.2.2.1 r hr
    exact ⟨s, s1, by rw [f.r (by unfold wRc; omega)]; exact s2⟩
  · rw [eM, eB]; exact hok.1 r hr
  · rw [eM]
    unfold aApart
    rw [h03 r 0 hr (by omega), h03 r 3 hr (by omega), h03 o 0 (by omega) (by omega), h03 o 3 (by omega) (by omega)]
    exact TT.ap r hr o ho
  · exact zint (m2.trans d2.symm)
  · exact m3.trans d3.symm
  · rw [d4]; exact zb_01 _
  · rw [d2]; exact hok.2.1
  · rw [eM, d2]; exact hok.2.2
  · rw [hS x hx]; exact hstr x hx
  · exact zint ((d5 x hx).trans (hS x hx).symm)
theorem e_tick (g : iA σ nb ns) (x : Int32) : eCall kX11_tick kX12_tick [.int x] [.int x] σ := by
  have h6 := g.nb6
  have h10 := g.ns10
  have m131 : ∀ {σ1 σ2 : zS} {k : Nat}, zsI σ1 131 (upd (zI σ1 131) 0 0) = σ2 → zFr iSafe σ σ2 → k ≠ 0 → ¬ iSafe 0 131 k → zI σ1 131 k = zI σ 131 k := fun e2 f2 h0 hk => by
    rw [← f2.i hk, ← e2, zI_self, pk_un h0]
  rcases g.go with ⟨n, b, T, TT, R⟩ | ⟨m21, p9⟩
  · obtain ⟨g1, h0, g3, g4, g5, g6, g7, g8, g9, g10, g11, g12, g13, g14⟩ := R
    have n6 := TT.1
    have hb := TT.bb
    have hB := g.bok hb
    by_cases c : 1 ≤ x.toInt ∧ x.toInt ≤ 60
    · obtain ⟨N, hN, rfl, eN⟩ := ai_nx (x := x) (by omega)
      have hN60 : N ≤ 60 := by omega
      have hst : ∀ r, r < n → ∃ s, s < 10 ∧ zR σ (12 + 8 + 2 * r) 0 = some (121 + s) := fun r hr => by
        obtain ⟨s, s1, s2⟩ := TT.2.2.2.2.2.2.1 r hr
        exact ⟨s, by omega, s2⟩
      have hD : pHas σ 12 n (mFR σ 139 n, (zI σ 12 6).toInt, zL σ 12 7, zI σ 12 8 = 1, fun x => (zI σ 145 x).toInt) := by
        refine ⟨TT.F, rfl, rfl, ?_, fun x hx => congrArg Int32.toInt (g12 x hx)⟩
        rcases g8 with e | e
        · rw [e]; exact (zb_f (show ¬ ((0 : Int32) = 1) by decide)).symm
        · rw [e]; exact (zb_t (show ((1 : Int32) = 1) from rfl)).symm
      have hok : aDok (mB σ b) n (mFR σ 139 n, (zI σ 12 6).toInt, zL σ 12 7, zI σ 12 8 = 1, fun x => (zI σ 145 x).toInt) := ⟨TT.ok, g9, g10⟩
      have hstr : ∀ x, x < 16 → 0 ≤ aStr (mFR σ 139 n, (zI σ 12 6).toInt, zL σ 12 7, zI σ 12 8 = 1, fun x => (zI σ 145 x).toInt) x ∧ aStr (mFR σ 139 n, (zI σ 12 6).toInt, zL σ 12 7, zI σ 12 8 = 1, fun x => (zI σ 145 x).toInt) x ≤ 6 * (T : Int) := g11
      have hD1 : (mFR σ 139 n, (zI σ 12 6).toInt, zL σ 12 7, zI σ 12 8 = 1, fun x => (zI σ 145 x).toInt).1 = mFR σ 139 n := rfl
      have hMD : ∀ σ3 : zS, mF σ3 n = mFR σ 139 n → zI σ3 131 22 = zI σ 131 22 → zL σ3 131 31 = zL σ 131 31 → zI σ3 131 43 = 1 → (∀ x, zI σ3 145 x = zI σ 145 x) → mHas σ3 n True (mFR σ 139 n, (zI σ 12 6).toInt, zL σ 12 7, zI σ 12 8 = 1, fun x => (zI σ 145 x).toInt) := fun σ3 q1 q2 q3 q4 q5 => ⟨q1, by rw [q2, show zI σ 131 22 = zI σ 12 6 from g6], by rw [q3]; exact g7, by rw [q4]; exact (zb_t trivial).symm, fun _ x _ => by rw [q5]⟩
      generalize ((mFR σ 139 n, (zI σ 12 6).toInt, zL σ 12 7, zI σ 12 8 = 1, fun x => (zI σ 145 x).toInt) : aD) = D at hD hok hstr hD1 hMD
      refine (bX11_tick_0 g.1).mpr (zn (by rw [g5]; decide) (zlt' (ai_n hN) k1 (fun q => by omega) (fun _ => zle' (ai_n hN) k60 (fun _ => ?_) (fun q => by omega))))
      refine p_tick_l (N := N) h0 hN60 (by omega) N 0 σ T D (by omega) (by omega) (TT.pcx g) TT.2.2.2.2.2.1 hst hD hok g4 g1 (fun v σ1 t' q0 q1 q2 q3 q4 q5 q6 q7 => ?_)
      have l1 : zLay σ1 := q7.lay g.1 (fun _ _ _ _ => by unfold wPt; omega)
      refine ⟨v, rfl, l1, zSam.fr q7 (fun k => by unfold wPt; omega), (bX12_tick_0 l1).mpr ?_⟩
      rw [q7.i (show ¬ wPt 0 131 21 by unfold wPt; omega), show zI σ 131 21 = nI T from g3]
      refine zn (nI_m1 (by omega)) ?_
      have f2 : zFr (fun j c k => j = 0 ∧ c = 131 ∧ k = 0) σ1 (zsI σ1 131 (upd (zI σ1 131) 0 0)) := zFr_U ⟨rfl, rfl, rfl⟩
      have l2 : zLay (zsI σ1 131 (upd (zI σ1 131) 0 0)) := l1.I
      generalize zsI σ1 131 (upd (zI σ1 131) 0 0) = σ2 at f2 l2 ⊢
      refine m_isIn l2 ⟨rfl, (bX12_tick_20 l2).mpr (zt0 (fun _ => ?_) (fun q => absurd (by rw [k1, k60]; exact c) q))⟩
      have f3 : zFr (fun j c k => j = 0 ∧ c = 131 ∧ k = 43) σ2 (zsI σ2 131 (upd (zI σ2 131) 43 1)) := zFr_U ⟨rfl, rfl, rfl⟩
      have l3 : zLay (zsI σ2 131 (upd (zI σ2 131) 43 1)) := l2.I
      have e43 : zI (zsI σ2 131 (upd (zI σ2 131) 43 1)) 131 43 = 1 := by rw [zI_self, pk_us]
      generalize zsI σ2 131 (upd (zI σ2 131) 43 1) = σ3 at f3 l3 e43 ⊢
      have f13 : zFr (fun j c k => j = 0 ∧ c = 131 ∧ (k = 0 ∨ k = 43)) σ1 σ3 := (f2.mono (fun j c k q => ⟨q.1, q.2.1, Or.inl q.2.2⟩)).trans (f3.mono (fun j c k q => ⟨q.1, q.2.1, Or.inr q.2.2⟩))
      have e3 : ∀ c k, 131 ≤ c → (c = 131 → k ≠ 0 ∧ k ≠ 43) → zI σ3 c k = zI σ c k := fun c k h1 h2 => by
        rw [f13.i (by omega), q7.i (by unfold wPt; omega)]
      have eF3 : mF σ3 n = mFR σ 139 n := by
        unfold mF mFR
        funext r w
        rw [e3 139 _ (by omega) (by omega)]
      have C3 : mCx σ3 n b (mB σ b) (mW σ) := by
        refine ⟨l3, n6, by rw [e3 _ _ (by omega) (by omega)]; exact TT.2.1, by omega, by rw [e3 _ _ (by omega) (by omega)]; exact TT.2.2.2.1, ?_, ?_, hB, g.wok⟩
        · unfold mB
          rw [e3 134 _ (by omega) (by omega), e3 135 _ (by omega) (by omega)]
          congr 1
          funext y x
          rw [e3 133 _ (by omega) (by omega)]
        · unfold mW
          rw [e3 131 _ (by omega) (by omega), e3 131 _ (by omega) (by omega), e3 131 _ (by omega) (by omega)]
      have hM3 := hMD σ3 eF3 (e3 _ _ (by omega) (by omega)) (by rw [f13.l (by omega), q7.l (by unfold wPt; omega)]) e43 (fun x => e3 _ _ (by omega) (by omega))
      refine m_tick_l (N := N) h0 hN60 N 0 σ3 T D (by omega) (by omega) C3 hM3 hok (by rw [e3 _ _ (by omega) (by omega)]; exact g3) g1 (fun v2 σ4 t2 r0 r1 r2 r3 r4 r5 r6 r7 => ?_)
      obtain rfl : t' = t2 := by
        have := q1.symm.trans r1
        omega
      have ev : v2 = v := zint (r2.trans q2.symm)
      have f4 : zFr (fun j c k => j = 0 ∧ c = 131 ∧ k = 43) σ4 (zsI σ4 131 (upd (zI σ4 131) 43 0)) := zFr_U ⟨rfl, rfl, rfl⟩
      have l4 : zLay σ4 := r7.lay l3 (fun _ _ _ _ => by unfold wMt; omega)
      have l5 : zLay (zsI σ4 131 (upd (zI σ4 131) 43 0)) := l4.I
      have e435 : zI (zsI σ4 131 (upd (zI σ4 131) 43 0)) 131 43 = 0 := by rw [zI_self, pk_us]
      generalize zsI σ4 131 (upd (zI σ4 131) 43 0) = σ5 at f4 l5 e435 ⊢
      have f15 : zFr (fun j c k => (j = 0 ∧ (c = 139 ∨ (142 ≤ c ∧ c ≤ 145) ∨ c = 150 ∨ c = 151 ∨ (c = 131 ∧ (k = 0 ∨ k = 21 ∨ k = 22 ∨ k = 43)))) ∨ (j = 1 ∧ c = 131 ∧ k = 31)) σ1 σ5 := ((f13.mono (fun j c k q => Or.inl ⟨q.1, by omega⟩)).trans (r7.mono (fun j c k q => by unfold wMt at q; omega))).trans (f4.mono (fun j c k q => Or.inl ⟨q.1, by omega⟩))
      have f05 : zFr wRc σ σ5 := (zFr_fix (c := 131) (k := 43) ((q7.mono (W' := fun j c k => wPt j c k ∨ ((j = 0 ∧ (c = 139 ∨ (142 ≤ c ∧ c ≤ 145) ∨ c = 150 ∨ c = 151 ∨ (c = 131 ∧ (k = 0 ∨ k = 21 ∨ k = 22 ∨ k = 43)))) ∨ (j = 1 ∧ c = 131 ∧ k = 31))) (fun j c k q => Or.inl q)).trans (f15.mono (fun j c k q => Or.inr q))) (by rw [e435]; exact g.r43.symm)).mono (fun j c k q => by
        obtain ⟨q1 | ⟨rfl, q1⟩ | ⟨rfl, q1, q3⟩, q2⟩ := q
        · exact wPt_rc q1
        · exact wRc6 (by omega)
        · exact Or.inr ⟨rfl, Or.inr ⟨q1, q3⟩⟩)
      have e45 : ∀ c k, (c = 131 → k ≠ 43) → zI σ5 c k = zI σ4 c k := fun c k h => f4.i (by omega)
      have e15 : ∀ c k, c < 131 → zI σ5 c k = zI σ1 c k := fun c k h => f15.i (by omega)
      have ok' := aRun_ok hB g.wok n6 N ((T : Int), D) (by show (0 : Int) ≤ T; omega) (by show (T : Int) ≤ 60; omega) hok
      have str' := aRun_str (B := mB σ b) (W := mW σ) n6 N (T : Int) D (by omega) (by omega) hstr
      rw [q1] at str' ok'
      refine ⟨by rw [ev], ⟨nb, ns, iA_race (t' := t') g TT h0 f05 l5 ?_ ?_ ?_ ?_ (fun x hx => ?_) ok'.1 str' (by omega) ?_ ?_ ?_ (fun r w hr hw => ?_) (fun k hk => ?_) (fun r hr => ?_)⟩, zSam.fr f15 (fun k => by omega)⟩
      · obtain ⟨d1, d2, d3, d4, d5⟩ := q3
        refine ⟨?_, by rw [e15 _ _ (by omega)]; exact d2, by rw [f15.l (by omega)]; exact d3, by rw [e15 _ _ (by omega)]; exact d4, fun x hx => by rw [e15 _ _ (by omega)]; exact d5 x hx⟩
        rw [← d1]
        exact pF_f (R := 1) (nb := 0) (ns := 10) f15 n6 (fun c k q => by unfold jTl jB at q; omega) (fun c k _ _ => by omega) (fun r hr => by
          obtain ⟨s, s1, s2⟩ := hst r hr
          exact ⟨s, s1, by rw [q7.r (by unfold wPt; omega)]; exact s2⟩)
      · rw [← r3.1]
        unfold mF
        funext r w
        rw [e45 139 _ (by omega)]
      · rw [e45 _ _ (by omega)]; exact r3.2.1
      · rw [f4.l (by omega)]; exact r3.2.2.1
      · rw [e45 _ _ (by omega)]; exact r3.2.2.2.2 trivial x hx
      · rw [e15 _ _ (by omega)]; exact q4
      · rw [e45 _ _ (by omega)]; exact r4
      · rw [e15 _ _ (by omega), q7.i (by unfold wPt; omega)]; exact g5
      · rw [ok'.2.2.2 r w hw]
        exact congrFun (congrFun hD1 r) w
      · have eP : ∀ k, (∀ r, r < n → zI σ5 33 (6 * k + r) = zI σ1 33 (6 * k + r) ∧ zI σ5 34 (6 * k + r) = zI σ1 34 (6 * k + r)) ∧ zI σ5 35 k = zI σ1 35 k := fun k => ⟨fun r _ => ⟨e15 _ _ (by omega), e15 _ _ (by omega)⟩, e15 _ _ (by omega)⟩
        have eM : ∀ k, (∀ r, r < n → zI σ5 142 (6 * k + r) = zI σ4 142 (6 * k + r) ∧ zI σ5 143 (6 * k + r) = zI σ4 143 (6 * k + r)) ∧ zI σ5 144 k = zI σ4 144 k := fun k => ⟨fun r _ => ⟨e45 _ _ (by omega), e45 _ _ (by omega)⟩, e45 _ _ (by omega)⟩
        rcases Nat.lt_or_ge T k with hk2 | hk2
        · have zp := q6 k hk2 hk
          have zm := r6 k hk2 hk
          refine ⟨fun r hr => ?_, ?_⟩
          · rw [((eP k).1 r hr).1, ((eP k).1 r hr).2, ((eM k).1 r hr).1, ((eM k).1 r hr).2]
            exact ⟨zint ((zp.1 r hr).1.trans (zm.1 r hr).1.symm), zint ((zp.1 r hr).2.trans (zm.1 r hr).2.symm)⟩
          · rw [(eP k).2, (eM k).2]
            exact zp.2.trans zm.2.symm
        · have zp := q5 k hk2
          have zm := r5 k hk2
          refine ⟨fun r hr => ?_, ?_⟩
          · rw [((eP k).1 r hr).1, ((eP k).1 r hr).2, ((eM k).1 r hr).1, ((eM k).1 r hr).2, (zp.1 r hr).1, (zp.1 r hr).2, (zm.1 r hr).1, (zm.1 r hr).2, e3 142 _ (by omega) (by omega), e3 143 _ (by omega) (by omega)]
            exact (g13 k hk2).1 r hr
          · rw [(eP k).2, (eM k).2, zp.2, zm.2, e3 144 _ (by omega) (by omega)]
            exact (g13 k hk2).2
      · have zm := ((r5 0 (by omega)).1 r hr).1
        rw [Nat.mul_zero, Nat.zero_add] at zm
        rw [e45 _ _ (by omega), zm, e3 142 _ (by omega) (by omega)]
        exact g14 r hr
    · refine e_q g (-1) (fun Q h => (bX11_tick_0 g.1).mpr (zn (by rw [g5]; decide) (zlt' rfl k1 (fun q => h _ σ km1 (zFr.refl _ _)) (fun q1 => zle' rfl k60 (fun q2 => absurd ⟨q1, q2⟩ c) (fun _ => h _ σ km1 (zFr.refl _ _)))))) (fun σ1 σ2 Q l1 e2 g2 f2 h => ?_)
      refine (bX12_tick_0 l1).mpr ?_
      rw [m131 e2 f2 (k := 21) (by decide) (nS3 (by omega)), show zI σ 131 21 = nI T from g3, e2]
      exact zn (nI_m1 (by omega)) (m_isIn g2.1 ⟨rfl, (bX12_tick_20 g2.1).mpr (zt0 (fun q => absurd (by rw [k1, k60] at q; exact q) c) (fun _ => h _ σ2 km1 (zFr.refl _ _)))⟩)
  · refine e_q g (-1) (fun Q h => (bX11_tick_0 g.1).mpr (zy p9 (h _ σ km1 (zFr.refl _ _)))) (fun σ1 σ2 Q l1 e2 g2 f2 h => ?_)
    refine (bX12_tick_0 l1).mpr ?_
    rw [m131 e2 f2 (k := 21) (by decide) (nS3 (by omega)), e2]
    exact zy m21 (h _ σ2 km1 (zFr.refl _ _))
end START
