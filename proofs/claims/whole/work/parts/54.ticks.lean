/-! ticks, and the start of a race. p_turns2 and p_runN2 are those of 37 with a narrower frame -/
def pWn (t : Nat) : Nat → Nat → Nat → Prop := fun j c k => (j = 0 ∧ ((c = t ∧ (k = 5 ∨ k = 6 ∨ k = 8)) ∨ c = t + 2 ∨ c = t + 3 ∨ (zk c = 4 ∧ t + 8 ≤ c ∧ c ≤ t + 18 ∧ 2 ≤ k))) ∨ (j = 1 ∧ c = t ∧ k = 7)
theorem pWn_r {t : Nat} {σ σ' : zS} (h : zFr (pWn t) σ σ') : zFr (pWr t) σ σ' := h.mono (fun j c k q => by
  unfold pWn at q
  unfold pWr
  omega)
theorem pWg_n {t : Nat} {σ σ' : zS} (h : zFr (pWg t) σ σ') : zFr (pWn t) σ σ' := h.mono (fun j c k q => by
  unfold pWg at q
  unfold pWn
  omega)
theorem pWs_n {t : Nat} {σ σ' : zS} (h : zFr (pWs t) σ σ') : zFr (pWn t) σ σ' := h.mono (fun j c k q => by
  unfold pWs at q
  unfold pWn
  omega)
section PRUN2
variable {d : Nat} {Q : Option Value → zS → Prop}
theorem p_turns2 {t n : Nat} {B : aBk} {W : aWx} {w : Nat} {D0 : aD} {T : Int} {x1 x3 : Int32} {L : List Nat} (hT : 0 ≤ T ∧ T ≤ 60) (hLn : ∀ r ∈ L, r < n) (hLl : L.length = n) :
    ∀ (m : Nat) (L1 L2 : List Nat) (σ : zS) (v5 : Value), L2.length = m → L = L1 ++ L2 → pCx σ t n B W w → pHas σ t n (aTurns B W n T L1 D0) → aDok B n D0 → (zI σ t 5).toInt = T → pRow (zI σ (t + 2)) 0 L → v5.category = 1 →
    (∀ (σ' : zS) (x4 : Int32) (v5 : Value), pHas σ' t n (aTurns B W n T L D0) → (zI σ' t 5).toInt = T → zFr (pWn t) σ σ' → v5.category = 1 → zW (d + 4) kX2_run 2 [.ref t, .int x1, .ref w, .int (x3 + 1), .int x4, v5] [] σ' Q) →
    zW (d + 4) kX2_run 31 [.ref t, .int x1, .ref w, .int x3, .int (nI L1.length), v5] [] σ Q := by
  intro m
  induction m with
  | zero =>
    intro L1 L2 σ v5 hm hL C hD hok ht hr hc h
    have hn := C.2.2.2.1
    have e2 : L2 = [] := List.length_eq_zero_iff.mp hm
    subst e2
    rw [List.append_nil] at hL
    subst hL
    refine (bX2_run_31 C.1 C.2.1 C.2.2.1 hc).mpr (zti (fun _ => h σ _ _ hD ht (zFr.refl _ _) hc) (fun q => ?_))
    rw [C.2.2.2.2.1, hLl] at q
    exact absurd (nI_le (Nat.le_refl _) (by omega)) q
  | succ m ih =>
    intro L1 L2 σ v5 hm hL C hD hok ht hr hc h
    have hn := C.2.2.2.1
    obtain ⟨a, L3, eL⟩ : ∃ a L3, L2 = a :: L3 := by
      cases L2 with
      | nil => simp at hm
      | cons a L3 => exact ⟨a, L3, rfl⟩
    subst eL
    have han : a < n := hLn a (by rw [hL]; simp)
    have hl1 : L1.length < n := by rw [← hLl, hL]; simp
    obtain ⟨rr, hkr⟩ := p_run C (show a < 6 by omega)
    have hr' := hr
    rw [hL, pRow_a, show a :: L3 = [a] ++ L3 from rfl, pRow_a, pRow_1] at hr'
    have era : zI σ (t + 2) L1.length = nI a := by rw [← Nat.zero_add L1.length]; exact hr'.2.1
    have ok1 := aTurns_ok C.2.2.2.2.2.2.2.2.1 C.2.2.2.2.2.2.2.2.2 hn hT L1 D0 (fun r q => hLn r (by rw [hL]; simp [q])) hok
    have hu : 0 ≤ (aTurns B W n T L1 D0).2.1 ∧ (aTurns B W n T L1 D0).2.1 ≤ 6 := by
      have := aIn_n (aTurns B W n T L1 D0).1 n
      have := ok1.1.2.2
      exact ⟨ok1.1.2.1, by omega⟩
    have nx : ∀ (σ' : zS) (v5 : Value), pHas σ' t n (aTurns B W n T (L1 ++ [a]) D0) → (zI σ' t 5).toInt = T → zFr (pWg t) σ σ' → v5.category = 1 → zW (d + 4) kX2_run 31 [.ref t, .int x1, .ref w, .int x3, .int (nI L1.length + 1), v5] [] σ' Q := by
      intro σ' v5 q1 q2 q3 q4
      have hk := zf_race C.2.1
      have e := ih (L1 ++ [a]) L3 σ' v5 (by simpa using hm) (by rw [hL]; simp) (pCx_fg q3 C) q1 hok q2 (fun k x z => by rw [q3.i (by unfold pWg; omega)]; exact hr k x z) q4 (fun σ2 x4 v6 z1 z2 z3 z4 => h σ2 x4 v6 z1 z2 ((pWg_n q3).trans z3) z4)
      rw [nI_1]
      rw [show (L1 ++ [a]).length = L1.length + 1 by simp] at e
      exact e
    refine (bX2_run_31 C.1 C.2.1 C.2.2.1 hc).mpr (zti (fun q => ?_) (fun _ => zle' k6 (ai_n (by omega)) (fun q => by omega) (fun _ => ⟨vp_in_nI (by omega) (by decide), ?_⟩)))
    · rw [C.2.2.2.2.1] at q
      exact absurd q (nI_ge (by omega) (by omega))
    rw [nI_clamp (by omega), era]
    refine zlt' (ai_n (by omega)) k0 (fun q => by omega) (fun _ => zle' k6 (ai_n (by omega)) (fun q => by omega) (fun _ => ⟨vp_in_nI (by omega) (by decide), ?_⟩))
    rw [nI_clamp (by omega), rr]
    have ho : (aTurns B W n T L1 D0).1 a 7 = -1 ↔ (aTurns B W n T L1 D0).1 a 8 = -1 := (ok1.1.1 a han).2.2.2.2.2.2.2.2.1
    refine (bX2_run_75 C.1 C.2.1 C.2.2.1 hkr).mpr (p_isOut C.1 C.2.1 hn hD.1 han ho ⟨rfl, (bX2_run_78 C.1 C.2.1 C.2.2.1).mpr (zt0 (fun c => ?_) (fun c => ⟨vp_in_nI (by omega) (by decide), ?_⟩))⟩)
    · refine (bX2_run_93 C.1 C.2.1 C.2.2.1).mpr (nx σ _ ?_ ht (zFr.refl _ _) (zcat_i _))
      rw [aTurns_a]
      show pHas σ t n (if (aTurns B W n T L1 D0).1 a 7 = -1 then _ else _)
      rw [if_neg c]
      exact hD
    · rw [nI_clamp (by omega), rr]
      refine (bX2_run_89 C.1 C.2.1 C.2.2.1 hkr).mpr (p_move C hD ht han ok1.1.1 (Classical.not_not.mp c) hu (fun σ1 hD1 f1 => ⟨rfl, ?_⟩))
      have C1 := pCx_fg f1 C
      have hk := zf_race C.2.1
      refine (bX2_run_93 C1.1 C1.2.1 C1.2.2.1).mpr (nx σ1 _ ?_ (by rw [f1.i (by unfold pWg; omega)]; exact ht) f1 (zcat_i _))
      rw [aTurns_a]
      show pHas σ1 t n (if (aTurns B W n T L1 D0).1 a 7 = -1 then _ else _)
      rw [if_pos (Classical.not_not.mp c)]
      exact hD1
theorem p_runN2 {t n : Nat} {B : aBk} {W : aWx} {w N : Nat} (hN : N ≤ 60) :
    ∀ (m j : Nat) (σ : zS) (T : Int × aD) (v4 v5 : Value), N - j = m → j ≤ N → pCx σ t n B W w → pHas σ t n T.2 → aDok B n T.2 → (zI σ t 5).toInt = T.1 → 0 ≤ T.1 → T.1 ≤ 60 → v4.category = 1 → v5.category = 1 →
    (∀ σ', pHas σ' t n (aRun B W n m T).2 → (zI σ' t 5).toInt = (aRun B W n m T).1 → zFr (pWn t) σ σ' → Q none σ') → zW (d + 4) kX2_run 2 [.ref t, .int (nI N), .ref w, .int (nI j), v4, v5] [] σ Q := by
  intro m
  induction m with
  | zero =>
    intro j σ T v4 v5 hm hj C hD hok ht h1 h2 h4 h5 h
    exact (bX2_run_2 C.1 C.2.1 C.2.2.1 h4 h5).mpr (zle' (ai_n (by omega)) (ai_n (by omega)) (fun _ => h σ hD ht (zFr.refl _ _)) (fun q => by omega))
  | succ m ih =>
    intro j σ T v4 v5 hm hj C hD hok ht h1 h2 h4 h5 h
    have C' := C
    obtain ⟨c1, c2, c3, c4, c5, c6, c8, c9, c10, c11⟩ := C
    have hk := zf_race c2
    refine (bX2_run_2 c1 c2 c3 h4 h5).mpr (zle' (ai_n (by omega)) (ai_n (by omega)) (fun q => by omega) (fun _ => p_goesOn C' ht hD.2.1 ⟨rfl, (bX2_run_11 c1 c2 c3 h4 h5).mpr (zt0 (fun c => ?_) (fun c => ?_))⟩))
    · have f1 : zFr (pWn t) σ (zsI σ t (upd (zI σ t) 5 (zI σ t 5 + 1))) := zFr_U (Or.inl ⟨rfl, Or.inl ⟨rfl, Or.inl rfl⟩⟩)
      have hD1 : pHas (zsI σ t (upd (zI σ t) 5 (zI σ t 5 + 1))) t n T.2 := by
        obtain ⟨d1, d2, d3, d4, d5⟩ := hD
        refine ⟨?_, ?_, d3, ?_, fun x hx => ?_⟩
        · rw [← d1]
          funext r' w'
          unfold pF
          by_cases q : r' < n ∧ w' < 11
          · rw [if_pos q, if_pos q]
            by_cases q3 : w' < 3
            · rw [if_pos q3, if_pos q3]
              obtain ⟨s, hs, ks⟩ := c8 r' q.1
              show (zI (zsI σ t _) ((zR σ (t + 8 + 2 * r') 0).getD 0) w').toInt = _
              rw [hs]
              show (zI (zsI σ t _) s w').toInt = (zI σ s w').toInt
              rw [zI_ne (fun e => by rw [e] at ks; omega)]
            · rw [if_neg q3, if_neg q3, zI_ne (by omega)]
          · rw [if_neg q, if_neg q]
        · rw [zI_self, pk_un (by decide)]; exact d2
        · rw [zI_self, pk_un (by decide)]; exact d4
        · rw [zI_ne (by omega)]; exact d5 x hx
      have ht1 : (zI (zsI σ t (upd (zI σ t) 5 (zI σ t 5 + 1))) t 5).toInt = T.1 + 1 := by
        rw [zI_self, pk_us]
        exact zadd ht k1
      have C1 := pCx_fr (pWn_r f1) C'
      generalize zsI σ t (upd (zI σ t) 5 (zI σ t 5 + 1)) = σ1 at f1 hD1 ht1 C1 ⊢
      refine (bX2_sortByX_0 C1.1 c2).mpr (p_sort n 0 σ1 _ rfl (by omega) C1 hD1 (zcat_r _) (pRow_nil _ _) (fun σ2 hD2 hr2 f2 => ⟨rfl, ?_⟩))
      have C2 := pCx_fr (pWs_r f2) C1
      have ht2 : (zI σ2 t 5).toInt = T.1 + 1 := by rw [f2.i (by unfold pWs; omega)]; exact ht1
      refine (bX2_run_28 C2.1 c2 c3 h4 h5).mpr (p_turns2 (T := T.1 + 1) (D0 := T.2) (L := aOrd (fun r => T.2.1 r 4) n) (by omega) (fun r q => aOrd_m.mp q) aOrd_l n [] (aOrd (fun r => T.2.1 r 4) n) σ2 _ aOrd_l rfl C2 hD2 hok ht2 hr2 h5 (fun σ3 x4 v6 q1 q2 q3 q4 => ?_))
      have f3 := (f1.trans (pWs_n f2)).trans q3
      rw [nI_1]
      refine ih (j + 1) σ3 (T.1 + 1, aTick B W n (T.1 + 1) T.2) _ _ (by omega) (by omega) (pCx_fr (pWn_r f3) C') q1 (aTick_ok c10 c11 c4 (by omega) hok).1 q2 (by show 0 ≤ T.1 + 1; omega) (by show T.1 + 1 ≤ 60; omega) (zcat_i _) q4 (fun σ' r1 r2 r3 => h σ' ?_ ?_ (f3.trans r3))
      · unfold aRun; rw [if_pos c]; exact r1
      · unfold aRun; rw [if_pos c]; exact r2
    · refine h σ ?_ ?_ (zFr.refl _ _)
      · rw [aRun_stop c]; exact hD
      · rw [aRun_stop c]; exact ht
end PRUN2
def wPt (j c k : Nat) : Prop := (j = 0 ∧ ((c = 12 ∧ (k = 5 ∨ k = 6 ∨ k = 8)) ∨ c = 14 ∨ c = 15 ∨ (20 ≤ c ∧ c ≤ 30 ∧ 2 ≤ k) ∨ (33 ≤ c ∧ c ≤ 35))) ∨ (j = 1 ∧ c = 12 ∧ k = 7)
theorem pWn_pt {σ σ' : zS} (h : zFr (pWn 12) σ σ') : zFr wPt σ σ' := h.mono (fun j c k q => by
  unfold pWn at q
  unfold wPt
  omega)
theorem wLg_pt {σ σ' : zS} {T n : Nat} (h : zFr (wLg 33 34 35 T n) σ σ') : zFr wPt σ σ' := h.mono (fun j c k q => by
  unfold wLg at q
  unfold wPt
  omega)
def wMt (j c k : Nat) : Prop := (j = 0 ∧ (c = 139 ∨ (142 ≤ c ∧ c ≤ 145) ∨ c = 150 ∨ c = 151 ∨ (c = 131 ∧ (k = 21 ∨ k = 22)))) ∨ (j = 1 ∧ c = 131 ∧ k = 31)
theorem mWr_mt {σ σ' : zS} {rec : Prop} (h : zFr (mWr rec) σ σ') : zFr wMt σ σ' := h.mono (fun j c k q => by
  unfold mWr at q
  unfold wMt
  omega)
theorem wLg_mt {σ σ' : zS} {T n : Nat} (h : zFr (wLg 142 143 144 T n) σ σ') : zFr wMt σ σ' := h.mono (fun j c k q => by
  unfold wLg at q
  unfold wMt
  omega)
theorem pCx_pt {σ σ' : zS} {n b : Nat} {B : aBk} {W : aWx} (h : zFr wPt σ σ') (C : pCx σ 12 n B W 10) (hb : zR σ 12 3 = some (97 + 4 * b)) (h6 : b < 6) (hst : ∀ r, r < n → ∃ s, s < 10 ∧ zR σ (12 + 8 + 2 * r) 0 = some (121 + s)) : pCx σ' 12 n B W 10 := by
  obtain ⟨c1, c2, c3, c4, c5, ⟨b', c6, c7⟩, c8, c9, c10, c11⟩ := C
  rw [hb] at c6
  cases c6
  have eR : ∀ c k, zR σ' c k = zR σ c k := fun c k => h.r (by unfold wPt; omega)
  refine ⟨h.lay c1 (fun _ _ _ _ => by unfold wPt; omega), c2, c3, c4, by rw [h.i (by unfold wPt; omega)]; exact c5, ⟨97 + 4 * b, by rw [eR]; exact hb, pBk_fr h ⟨fun k => by unfold wPt; omega, fun k => by unfold wPt; omega, fun k => by unfold wPt; omega, fun k => by unfold wPt; omega⟩ c7⟩, fun r hr => ?_, by rw [h.i (by unfold wPt; omega), h.i (by unfold wPt; omega), h.i (by unfold wPt; omega)]; exact c9, c10, c11⟩
  obtain ⟨s, s1, s2⟩ := hst r hr
  exact ⟨121 + s, by rw [eR]; exact s2, zk_sk s1⟩
theorem pHas_lg {σ σ' : zS} {n T : Nat} {D : aD} (h : zFr (wLg 33 34 35 T n) σ σ') (hn : n ≤ 6) (hst : ∀ r, r < n → ∃ s, s < 10 ∧ zR σ (12 + 8 + 2 * r) 0 = some (121 + s)) (g : pHas σ 12 n D) : pHas σ' 12 n D := by
  obtain ⟨d1, d2, d3, d4, d5⟩ := g
  refine ⟨?_, by rw [h.i (by unfold wLg; omega)]; exact d2, by rw [h.l (by unfold wLg; omega)]; exact d3, by rw [h.i (by unfold wLg; omega)]; exact d4, fun x hx => by rw [h.i (by unfold wLg; omega)]; exact d5 x hx⟩
  rw [← d1]
  exact pF_f (R := 1) (nb := 0) (ns := 10) h hn (fun c k q => by unfold jTl jB at q; unfold wLg; omega) (fun c k _ _ => by unfold wLg; omega) hst
theorem mHas_lg {σ σ' : zS} {n T : Nat} {rec : Prop} {D : aD} (h : zFr (wLg 142 143 144 T n) σ σ') (g : mHas σ n rec D) : mHas σ' n rec D := by
  obtain ⟨d1, d2, d3, d4, d5⟩ := g
  refine ⟨?_, by rw [h.i (by unfold wLg; omega)]; exact d2, by rw [h.l (by unfold wLg; omega)]; exact d3, by rw [h.i (by unfold wLg; omega)]; exact d4, fun hr x hx => by rw [h.i (by unfold wLg; omega)]; exact d5 hr x hx⟩
  rw [← d1]
  funext r w
  unfold mF
  rw [h.i (show ¬ wLg 142 143 144 T n 0 139 (11 * r + w) by unfold wLg; omega)]
theorem mCx_mt {σ σ' : zS} {n bi : Nat} {B : aBk} {W : aWx} (h : zFr wMt σ σ') (C : mCx σ n bi B W) : mCx σ' n bi B W := by
  obtain ⟨hl, h1, h2, h3, h4, h5, h6, h7, h8⟩ := C
  refine ⟨h.lay hl (fun _ _ _ _ => by unfold wMt; omega), h1, by rw [h.i (by unfold wMt; omega)]; exact h2, h3, by rw [h.i (by unfold wMt; omega)]; exact h4, ?_, ?_, h7, h8⟩
  · rw [mB_fr h bi ⟨fun k => by unfold wMt; omega, fun k => by unfold wMt; omega, fun k => by unfold wMt; omega⟩]; exact h5
  · rw [mW_fr h ⟨by unfold wMt; omega, by unfold wMt; omega, by unfold wMt; omega⟩]; exact h6
theorem aRun_1 {B : aBk} {W : aWx} {n f : Nat} {t : Int} {D : aD} (c : t < 60 ∧ D.2.1 < n) : aRun B W n (f + 1) (t, D) = aRun B W n f (t + 1, aTick B W n (t + 1) D) := by
  conv => lhs; unfold aRun
  exact if_pos c
section TICK
variable {d : Nat} {Q : Option Value → zS → Prop}
theorem p_tick_l {n b N : Nat} {B : aBk} {W : aWx} (h0 : 0 < n) (hN : N ≤ 60) (h6 : b < 6) :
    ∀ (f j : Nat) (σ : zS) (t : Nat) (D : aD), N - j = f → j ≤ N → pCx σ 12 n B W 10 → zR σ 12 3 = some (97 + 4 * b) → (∀ r, r < n → ∃ s, s < 10 ∧ zR σ (12 + 8 + 2 * r) 0 = some (121 + s)) → pHas σ 12 n D → aDok B n D → zI σ 12 5 = nI t → t ≤ 60 →
    (∀ (v : Int32) (σ' : zS) (t' : Nat), t ≤ t' → (aRun B W n f (t, D)).1 = t' → v.toInt = j + (t' - t) → pHas σ' 12 n (aRun B W n f (t, D)).2 → zI σ' 12 5 = nI t' → (∀ k, k ≤ t → aSml σ σ' 33 34 35 n k) → (∀ k : Nat, t < k → k ≤ t' → aLog σ' 33 34 35 n k (aRun B W n (k - t) (t, D)).2.1) → zFr wPt σ σ' → Q (some (.int v)) σ') → zW (d + 6) kX11_tick 27 [.ref 1, .int (nI N), .int (nI j), .int (nI j)] [] σ Q := by
  intro f
  induction f with
  | zero =>
    intro j σ t D hm hj C hb hst hD hok h5 ht h
    exact (bX11_tick_27 C.1).mpr (zle' (ai_n (by omega)) (ai_n (by omega)) (fun _ => h (nI j) σ t (Nat.le_refl _) rfl (by rw [ai_n (by omega)]; omega) hD h5 (fun k _ => ⟨fun r hr => ⟨rfl, rfl⟩, rfl⟩) (fun k h1 h2 => by omega) (zFr.refl _ _)) (fun q => by omega))
  | succ f ih =>
    intro j σ t D hm hj C hb hst hD hok h5 ht h
    have hn := C.2.2.2.1
    have ti : (zI σ 12 5).toInt = (t : Int) := by rw [h5]; exact ai_n (by omega)
    refine (bX11_tick_27 C.1).mpr (zle' (ai_n (by omega)) (ai_n (by omega)) (fun q => by omega) (fun _ => p_goesOn C ti hD.2.1 ⟨rfl, (bX11_tick_39 C.1).mpr (zt0 (fun c => ?_) (fun c => ?_))⟩))
    · refine (bX2_run_0 C.1 zk_12 zk_10).mpr (p_runN2 (t := 12) (N := 1) (by omega) 1 0 σ ((t : Int), D) _ _ rfl (by omega) C hD hok ti (by show (0 : Int) ≤ t; omega) (by show (t : Int) ≤ 60; omega) (zcat_r _) (zcat_r _) (fun σ1 hD1 t1 f1 => ⟨rfl, ?_⟩))
      have e1 : aRun B W n 1 ((t : Int), D) = ((t : Int) + 1, aTick B W n (t + 1) D) := aRun_1 (f := 0) c
      rw [e1] at hD1 t1
      have f1p := pWn_pt f1
      have C1 := pCx_pt f1p C hb h6 hst
      have hst1 : ∀ r, r < n → ∃ s, s < 10 ∧ zR σ1 (12 + 8 + 2 * r) 0 = some (121 + s) := fun r hr => by
        obtain ⟨s, s1, s2⟩ := hst r hr
        exact ⟨s, s1, by rw [f1p.r (by unfold wPt; omega)]; exact s2⟩
      have e5 : zI σ1 12 5 = nI (t + 1) := zint (by rw [t1, ai_n (by omega)]; show (t : Int) + 1 = _; omega)
      refine (bX11_tick_54 C1.1).mpr (p_note C1 hD1.1 h0 e5 (by omega) (fun σ2 L2 f2 => ⟨rfl, ?_⟩))
      have f2p := wLg_pt f2
      have C2 := pCx_pt f2p C1 (by rw [f1p.r (by unfold wPt; omega)]; exact hb) h6 hst1
      have hD2 := pHas_lg f2 hn hst1 hD1
      have e52 : zI σ2 12 5 = nI (t + 1) := by rw [f2.i (by unfold wLg; omega)]; exact e5
      have hok2 := (aTick_ok (ticks := (t : Int) + 1) C.2.2.2.2.2.2.2.2.1 C.2.2.2.2.2.2.2.2.2 hn (by omega) hok).1
      refine (bX11_tick_65 C2.1).mpr ?_
      rw [nI_1]
      refine ih (j + 1) σ2 (t + 1) (aTick B W n (t + 1) D) (by omega) (by omega) C2 (by rw [f2p.r (by unfold wPt; omega), f1p.r (by unfold wPt; omega)]; exact hb) (fun r hr => ?_) hD2 hok2 e52 (by omega) (fun v σ' t' q0 q1 q2 q3 q4 q5 q6 q7 => ?_)
      · obtain ⟨s, s1, s2⟩ := hst1 r hr
        exact ⟨s, s1, by rw [f2p.r (by unfold wPt; omega)]; exact s2⟩
      · have ec : (((t + 1 : Nat) : Int), aTick B W n (t + 1) D) = ((t : Int) + 1, aTick B W n (t + 1) D) := by rw [Int.natCast_add]; rfl
        rw [ec] at q1 q3
        rw [← aRun_1 c] at q1 q3
        refine h v σ' t' (by omega) q1 (by rw [q2]; omega) q3 q4 (fun k hk => ?_) (fun k h1 h2 => ?_) ((f1p.trans f2p).trans q7)
        · have s1 : aSml σ σ1 33 34 35 n k := aSml.fr f1 (fun r hr => ⟨by unfold pWn; rw [zk_33]; omega, by unfold pWn; rw [zk_34]; omega⟩) (by unfold pWn; rw [zk_35]; omega)
          have s2 : aSml σ1 σ2 33 34 35 n k := aSml.fr f2 (fun r hr => ⟨by unfold wLg; omega, by unfold wLg; omega⟩) (by unfold wLg; omega)
          exact (s1.trans s2).trans (q5 k (by omega))
        · rcases Nat.lt_or_ge (t + 1) k with h3 | h3
          · have z := q6 k h3 h2
            rw [ec] at z
            rw [show k - t = (k - (t + 1)) + 1 by omega, aRun_1 c]
            exact z
          · obtain rfl : k = t + 1 := by omega
            rw [show t + 1 - t = 1 by omega, e1]
            exact (q5 (t + 1) (by omega)).log L2
    · rw [aRun_stop (T := ((t : Int), D)) c] at h
      exact h (nI j) σ t (Nat.le_refl _) rfl (by rw [ai_n (by omega)]; omega) hD h5 (fun k _ => ⟨fun r hr => ⟨rfl, rfl⟩, rfl⟩) (fun k h1 h2 => by omega) (zFr.refl _ _)
theorem m_tick_l {n bi N : Nat} {B : aBk} {W : aWx} (h0 : 0 < n) (hN : N ≤ 60) :
    ∀ (f j : Nat) (σ : zS) (t : Nat) (D : aD), N - j = f → j ≤ N → mCx σ n bi B W → mHas σ n True D → aDok B n D → zI σ 131 21 = nI t → t ≤ 60 →
    (∀ (v : Int32) (σ' : zS) (t' : Nat), t ≤ t' → (aRun B W n f (t, D)).1 = t' → v.toInt = j + (t' - t) → mHas σ' n True (aRun B W n f (t, D)).2 → zI σ' 131 21 = nI t' → (∀ k, k ≤ t → aSml σ σ' 142 143 144 n k) → (∀ k : Nat, t < k → k ≤ t' → aLog σ' 142 143 144 n k (aRun B W n (k - t) (t, D)).2.1) → zFr wMt σ σ' → Q (some (.int v)) (zsI σ' 131 (upd (zI σ' 131) 43 0))) → zW (d + 8) kX12_tick 32 [.ref 131, .int (nI N), .int (nI j)] [] σ Q := by
  intro f
  induction f with
  | zero =>
    intro j σ t D hm hj C hD hok h5 ht h
    exact (bX12_tick_32 C.1).mpr (zle' (ai_n (by omega)) (ai_n (by omega)) (fun _ => h (nI j) σ t (Nat.le_refl _) rfl (by rw [ai_n (by omega)]; omega) hD h5 (fun k _ => ⟨fun r hr => ⟨rfl, rfl⟩, rfl⟩) (fun k h1 h2 => by omega) (zFr.refl _ _)) (fun q => by omega))
  | succ f ih =>
    intro j σ t D hm hj C hD hok h5 ht h
    have hn := C.2.1
    have ti : (zI σ 131 21).toInt = (t : Int) := by rw [h5]; exact ai_n (by omega)
    refine (bX12_tick_32 C.1).mpr (zle' (ai_n (by omega)) (ai_n (by omega)) (fun q => by omega) (fun _ => m_goesOn C.1 C.2.2.1 hn ti hD.2.1 ⟨rfl, (bX12_tick_41 C.1).mpr (zt0 (fun c => ?_) (fun c => ?_))⟩))
    · refine m_goTick C hD hok ti (by omega) (fun σ1 hD1 t1 f1 => ⟨rfl, ?_⟩)
      have e1 : aRun B W n 1 ((t : Int), D) = ((t : Int) + 1, aTick B W n (t + 1) D) := aRun_1 (f := 0) c
      have f1p := mWr_mt f1
      have C1 := mCx_mt f1p C
      have hok2 := (aTick_ok (ticks := (t : Int) + 1) C.2.2.2.2.2.2.2.1 C.2.2.2.2.2.2.2.2 hn (by omega) hok).1
      have e5 : zI σ1 131 21 = nI (t + 1) := zint (by rw [t1, ai_n (by omega)]; omega)
      refine (bX12_tick_48 C1.1).mpr (m_record C1.1 (T := t + 1) (by omega) hn h0 (fun r hr => (hok2.1 r hr).2.2.2.2.2.2.2.2.1) C1.2.2.1 e5 hD1.1 (fun σ2 L2 f2 => ⟨rfl, ?_⟩))
      have f2p := wLg_mt f2
      have C2 := mCx_mt f2p C1
      have hD2 := mHas_lg f2 hD1
      have e52 : zI σ2 131 21 = nI (t + 1) := by rw [f2.i (by unfold wLg; omega)]; exact e5
      refine (bX12_tick_52 C2.1).mpr ?_
      rw [nI_1]
      refine ih (j + 1) σ2 (t + 1) (aTick B W n (t + 1) D) (by omega) (by omega) C2 hD2 hok2 e52 (by omega) (fun v σ' t' q0 q1 q2 q3 q4 q5 q6 q7 => ?_)
      have ec : (((t + 1 : Nat) : Int), aTick B W n (t + 1) D) = ((t : Int) + 1, aTick B W n (t + 1) D) := by rw [Int.natCast_add]; rfl
      rw [ec] at q1 q3
      rw [← aRun_1 c] at q1 q3
      refine h v σ' t' (by omega) q1 (by rw [q2]; omega) q3 q4 (fun k hk => ?_) (fun k h1 h2 => ?_) ((f1p.trans f2p).trans q7)
      · have s1 : aSml σ σ1 142 143 144 n k := aSml.fr f1 (fun r hr => ⟨by unfold mWr; omega, by unfold mWr; omega⟩) (by unfold mWr; omega)
        have s2 : aSml σ1 σ2 142 143 144 n k := aSml.fr f2 (fun r hr => ⟨by unfold wLg; omega, by unfold wLg; omega⟩) (by unfold wLg; omega)
        exact (s1.trans s2).trans (q5 k (by omega))
      · rcases Nat.lt_or_ge (t + 1) k with h3 | h3
        · have z := q6 k h3 h2
          rw [ec] at z
          rw [show k - t = (k - (t + 1)) + 1 by omega, aRun_1 c]
          exact z
        · obtain rfl : k = t + 1 := by omega
          rw [show t + 1 - t = 1 by omega, e1]
          exact (q5 (t + 1) (by omega)).log L2
    · rw [aRun_stop (T := ((t : Int), D)) c] at h
      exact h (nI j) σ t (Nat.le_refl _) rfl (by rw [ai_n (by omega)]; omega) hD h5 (fun k _ => ⟨fun r hr => ⟨rfl, rfl⟩, rfl⟩) (fun k h1 h2 => by omega) (zFr.refl _ _)
end TICK
