/-! the class's move of a runner -/
section PMOVE
variable {d : Nat} {σ : zS} {Q : Option Value → zS → Prop}
theorem pF_4 {t n r : Nat} {F : aFn} (hF : pF σ t n = F) (hr : r < n) : (zI σ (t + 8 + 2 * r) 2).toInt = F r 4 := by rw [← hF, pF_w hr (by omega) (by omega)]
theorem pF_5 {t n r : Nat} {F : aFn} (hF : pF σ t n = F) (hr : r < n) : (zI σ (t + 8 + 2 * r) 3).toInt = F r 5 := by rw [← hF, pF_w hr (by omega) (by omega)]
theorem pF_6 {t n r : Nat} {F : aFn} (hF : pF σ t n = F) (hr : r < n) : (zI σ (t + 8 + 2 * r) 4).toInt = F r 6 := by rw [← hF, pF_w hr (by omega) (by omega)]
theorem p_sign {b : Nat} {B : aBk} {x y : Int32} (hl : zLay σ) (g : pBk σ b B) (hB : aBok B) (hx : 0 ≤ x.toInt ∧ x.toInt < B.2.2) (hy : 0 ≤ y.toInt ∧ y.toInt < B.2.1) (h : ∀ v : Int32, v.toInt = pCode (B.1 y.toInt.toNat x.toInt.toNat) → Q (some (.int v)) σ) : zCall d kX0_signAt [.ref b, .int x, .int y] σ Q := by
  have b1 := hB.2.1
  have b2 := hB.2.2.2.1
  obtain ⟨i, hi, rfl, ei⟩ := ai_nx hx.1
  obtain ⟨j, hj, rfl, ej⟩ := ai_nx hy.1
  have e : ((16 * nI j) + nI i : Int32) = nI (16 * j + i) := by
    show ((nI 16 * nI j) + nI i : Int32) = _
    rw [pk_mul, nI_add]
  refine (bX0_signAt_0 hl g.1).mpr (zlt' ei k0 (fun q => by omega) (fun _ => zle' k16 ei (fun q => by omega) (fun _ => zlt' ej k0 (fun q => by omega) (fun _ => zlt' ej k6 (fun _ => ?_) (fun q => by omega)))))
  rw [e]
  refine ⟨vp_in_nI (by omega) (by decide), h _ ?_⟩
  rw [nI_clamp (by omega), ei, ej]
  exact g.2.2.2.1 j i (by omega) (by omega) (by omega) (by omega)
theorem p_pace {b : Nat} {B : aBk} {W : aWx} {x y hg : Int32} (hl : zLay σ) (g : pBk σ b B) (hB : aBok B) (hW : aWok W) (hx : 0 ≤ x.toInt ∧ x.toInt < B.2.2) (hy : 0 ≤ y.toInt ∧ y.toInt < B.2.1) (eh : hg.toInt = W.2.1) (h : ∀ v : Int32, v.toInt = aPace B W x.toInt y.toInt → Q (some (.int v)) σ) : zCall (d + 1) kX0_paceAt [.ref b, .int x, .int y, .int hg] σ Q := by
  have hs := hB.2.2.2.2 y.toInt.toNat x.toInt.toNat (by omega) (by omega)
  have w1 := hW.2.2.1
  have w2 := hW.2.2.2.1
  refine (bX0_paceAt_0 hl g.1).mpr (p_sign hl g hB hx hy (fun v hv => ⟨rfl, (bX0_paceAt_6 hl g.1).mpr ?_⟩))
  unfold aPace at h
  unfold pCode at hv
  by_cases c0 : B.1 y.toInt.toNat x.toInt.toNat = 0
  · rw [if_pos c0] at hv h
    exact zeq' hv k111 (fun _ => h _ k1) (fun q => absurd rfl q)
  · rw [if_neg c0] at hv h
    by_cases c1 : B.1 y.toInt.toNat x.toInt.toNat = 10
    · rw [if_pos c1] at hv h
      exact zeq' hv k111 (fun q => by omega) (fun _ => zeq' hv k64 (fun _ => h _ (zadd k1 eh)) (fun q => absurd rfl q))
    · rw [if_neg c1] at hv h
      refine zeq' hv k111 (fun q => by omega) (fun _ => zeq' hv k64 (fun q => by omega) (fun _ => h _ ?_))
      have e1 : (v - 48).toInt = B.1 y.toInt.toNat x.toInt.toNat := by rw [zsub hv k48]; omega
      exact zadd e1 eh
theorem p_pull_l {t n r : Nat} {B : aBk} {W : aWx} {w : Nat} {F : aFn} (C : pCx σ t n B W w) (hF : pF σ t n = F) (hr : r < n) (hL : aLn B F n) (hx : 0 ≤ F r 4 ∧ F r 4 < B.2.2) (hh : 0 ≤ F r 1 ∧ F r 1 ≤ 9) {hg l : Int32} (eh : hg.toInt = W.2.1) (el : l.toInt = F r 0) (h : ∀ v : Int32, v.toInt = aPull B W F r → Q (some (.int v)) σ) :
    ∀ (m k : Nat) (s u : Int32) (v7 : Value), (F r 0).toNat - k = m → k ≤ (F r 0).toNat → s.toInt = aSum (fun k => aPace B W (F r 4) (F r 5 + k)) k → u.toInt = aTop (fun k => aPace B W (F r 4) (F r 5 + k)) k → v7.category = 1 → zW (d + 2) kX2_pullOf 17 [.ref t, .ref (t + 8 + 2 * r), .int hg, .int u, .int s, .int l, .int (nI k), v7] [] σ Q := by
  have C' := C
  obtain ⟨c1, c2, c3, c4, c5, ⟨b, c6, c7⟩, c8, c9, c10, c11⟩ := C
  obtain ⟨st, hs, ks⟩ := c8 r hr
  have hkr := zf_racer c2 (show r < 6 by omega)
  have hB1 := c10.2.1
  have hLr := hL r hr
  have hf : ∀ j, j < (F r 0).toNat → 0 ≤ aPace B W (F r 4) (F r 5 + (j : Nat)) ∧ aPace B W (F r 4) (F r 5 + (j : Nat)) ≤ 13 := fun j hj => aPace_b c10 c11 hx (by omega)
  intro m
  induction m with
  | zero =>
    intro k s u v7 hm hk hs2 hu hc
    have e : k = (F r 0).toNat := by omega
    subst e
    have b1 := aSum_b _ hf
    have b2 := aTop_b _ hf
    have e1 : (zI σ st 1).toInt = F r 1 := by rw [← hF, pF_s hr (by omega) hs]
    have fin : ∀ p : Int32, p.toInt = (if F r 0 < 3 then aTop (fun k => aPace B W (F r 4) (F r 5 + k)) (F r 0).toNat else aSum (fun k => aPace B W (F r 4) (F r 5 + k)) (F r 0).toNat / F r 0) → 0 ≤ p.toInt → p.toInt ≤ 100 → zW (d + 2) kX2_pullOf 92 [.ref t, .ref (t + 8 + 2 * r), .int hg, .int u, .int s, .int l, .int p, v7] (va_rf ((zR σ (t + 8 + 2 * r)) 0) :: []) σ Q := by
      intro p hp hp0 hp1
      rw [hs]
      have out : ∀ q : Int32, q.toInt = p.toInt - max 0 (F r 1 - 5) / 2 → zW (d + 2) kX2_pullOf 115 [.ref t, .ref (t + 8 + 2 * r), .int hg, .int u, .int s, .int l, .int q, v7] [] σ Q := by
        intro q hq
        refine (bX2_pullOf_115 c1 c2 hkr hc).mpr (zle' k0 hq (fun z => h _ ?_) (fun z => h _ ?_))
        · unfold aPull; rw [← hp, hq]; omega
        · unfold aPull; rw [← hp, k0]; omega
      refine (bX2_pullOf_92 c1 c2 hkr hc ks).mpr (zle' e1 k5 (fun q => out _ ?_) (fun q => ?_))
      · omega
      · rw [hs]
        refine (bX2_pullOf_105 c1 c2 hkr hc ks).mpr ⟨by decide, out _ ?_⟩
        rw [zsub rfl (zdiv (zsub e1 k5) k2)]
        omega
    refine (bX2_pullOf_17 c1 c2 hkr hc).mpr (zle' el (ai_n (by omega)) (fun _ => zle' k3 el (fun q => ⟨fun q2 => ?_, fin _ ?_ ?_ ?_⟩) (fun q => fin _ ?_ (by omega) (by omega))) (fun q => by omega))
    · rw [q2, k0] at el; omega
    · rw [if_neg (by omega)]; exact zdiv hs2 el
    · rw [zdiv hs2 el]; exact Int.ediv_nonneg b1.1 (by omega)
    · rw [zdiv hs2 el]
      have b3 : aSum (fun k => aPace B W (F r 4) (F r 5 + k)) (F r 0).toNat / F r 0 ≤ 13 := Int.ediv_le_of_le_mul (by omega) (by omega)
      omega
    · rw [if_pos (by omega)]; exact hu
  | succ m ih =>
    intro k s u v7 hm hk hs2 hu hc
    have hk' : k < (F r 0).toNat := by omega
    have b1 := aSum_b k (fun j hj => hf j (by omega))
    have b2 := hf k hk'
    refine (bX2_pullOf_17 c1 c2 hkr hc).mpr (zle' el (ai_n (by omega)) (fun q => by omega) (fun q => ?_))
    rw [c6]
    have ey : (zI σ (t + 8 + 2 * r) 3 + nI k).toInt = F r 5 + k := zadd (pF_5 hF hr) (ai_n (by omega))
    have ex := pF_4 hF hr
    refine (bX2_pullOf_28 c1 c2 hkr hc c7.1).mpr (p_pace c1 c7 c10 c11 (by rw [ex]; exact hx) (by rw [ey]; omega) eh (fun p hp => ⟨rfl, (bX2_pullOf_43 c1 c2 hkr hc).mpr ?_⟩))
    rw [ex, ey] at hp
    have e1 : (s + p).toInt = aSum (fun k => aPace B W (F r 4) (F r 5 + k)) k + aPace B W (F r 4) (F r 5 + (k : Int)) := zadd hs2 hp
    have nx : ∀ z : Int32, z.toInt = aTop (fun k => aPace B W (F r 4) (F r 5 + k)) (k + 1) → zW (d + 2) kX2_pullOf 57 [.ref t, .ref (t + 8 + 2 * r), .int hg, .int u, .int s, .int l, .int (nI k), .int p] [.int z] σ Q := by
      intro z hz
      refine (bX2_pullOf_57 c1 c2 hkr).mpr ?_
      rw [nI_1]
      exact ih (k + 1) _ _ _ (by omega) (by omega) e1 hz (zcat_i _)
    have et : aTop (fun k => aPace B W (F r 4) (F r 5 + k)) (k + 1) = if aTop (fun k => aPace B W (F r 4) (F r 5 + k)) k < aPace B W (F r 4) (F r 5 + (k : Int)) then aPace B W (F r 4) (F r 5 + (k : Int)) else aTop (fun k => aPace B W (F r 4) (F r 5 + k)) k := rfl
    refine zle' hp hu (fun q => nx _ ?_) (fun q => nx _ ?_)
    · rw [et, if_neg (by omega)]; exact hu
    · rw [et, if_pos (by omega)]; exact hp
theorem p_pull {t n r : Nat} {B : aBk} {W : aWx} {w : Nat} {F : aFn} (C : pCx σ t n B W w) (hF : pF σ t n = F) (hr : r < n) (hL : aLn B F n) (hx : 0 ≤ F r 4 ∧ F r 4 < B.2.2) (hh : 0 ≤ F r 1 ∧ F r 1 ≤ 9) {hg : Int32} (eh : hg.toInt = W.2.1) (h : ∀ v : Int32, v.toInt = aPull B W F r → Q (some (.int v)) σ) : zCall (d + 2) kX2_pullOf [.ref t, .ref (t + 8 + 2 * r), .int hg] σ Q := by
  have C' := C
  obtain ⟨c1, c2, c3, c4, c5, ⟨b, c6, c7⟩, c8, c9, c10, c11⟩ := C
  obtain ⟨st, hs, ks⟩ := c8 r hr
  have hkr := zf_racer c2 (show r < 6 by omega)
  refine (bX2_pullOf_0 c1 c2 hkr).mpr ?_
  rw [hs]
  refine (bX2_pullOf_9 c1 c2 hkr ks).mpr (p_pull_l C' hF hr hL hx hh eh (by rw [← hF, pF_s hr (by omega) hs]) h _ 0 0 0 _ rfl (by omega) rfl rfl (zcat_r _))
theorem p_wave_l {t n r : Nat} {B : aBk} {W : aWx} {w : Nat} {F : aFn} (C : pCx σ t n B W w) (hF : pF σ t n = F) (hr : r < n) (hL : aLn B F n) (ho : ∀ o, o < n → (F o 7 = -1 ↔ F o 8 = -1)) (hx : ∀ o, o < n → 0 ≤ F o 4 ∧ F o 4 ≤ B.2.2) (h : Q (some (.int (zb (aWave n F r)))) σ) :
    ∀ (m i : Nat) (v3 v4 : Value), n - i = m → i ≤ n → v3.category = 1 → v4.category = 1 → (∀ o, o < i → ¬ (F o 7 = -1 ∧ 1 ≤ F o 4 - F r 4 ∧ F o 4 - F r 4 ≤ 2 ∧ F o 5 < F r 5 + F r 0 ∧ F r 5 < F o 5 + F o 0)) → zW (d + 1) kX2_onWave 2 [.ref t, .ref (t + 8 + 2 * r), .int (nI i), v3, v4] [] σ Q := by
  have C' := C
  obtain ⟨c1, c2, c3, c4, c5, c6, c8, c9, c10, c11⟩ := C
  have hkr := zf_racer c2 (show r < 6 by omega)
  have hB1 := c10.2.1
  have hB2 := c10.2.2.2.1
  have hLr := hL r hr
  have hxr := hx r hr
  intro m
  induction m with
  | zero =>
    intro i v3 v4 hm hi h3 h4 hno
    refine (bX2_onWave_2 c1 c2 hkr h3 h4).mpr (zti (fun e => ?_) (fun e => ?_))
    · rwa [zb_f (fun ⟨o, h1, h2⟩ => hno o (by omega) h2)] at h
    · rw [c5] at e
      exact absurd (nI_le (by omega) (by omega)) e
  | succ m ih =>
    intro i v3 v4 hm hi h3 h4 hno
    have hin : i < n := by omega
    obtain ⟨ri, hki⟩ := p_run C' (show i < 6 by omega)
    have hLi := hL i hin
    have hxi := hx i hin
    have go : ∀ v3 v4 : Value, v3.category = 1 → v4.category = 1 → (¬ (F i 7 = -1 ∧ 1 ≤ F i 4 - F r 4 ∧ F i 4 - F r 4 ≤ 2 ∧ F i 5 < F r 5 + F r 0 ∧ F r 5 < F i 5 + F i 0)) → zW (d + 1) kX2_onWave 2 [.ref t, .ref (t + 8 + 2 * r), .int (nI i + 1), v3, v4] [] σ Q := by
      intro v3 v4 h3 h4 hq
      rw [nI_1]
      refine ih (i + 1) v3 v4 (by omega) (by omega) h3 h4 (fun o ho => ?_)
      rcases Nat.lt_succ_iff_lt_or_eq.mp ho with h1 | h1
      · exact hno o h1
      · rw [h1]; exact hq
    refine (bX2_onWave_2 c1 c2 hkr h3 h4).mpr (zti (fun e => ?_) (fun e => zle' k6 (ai_n (by omega)) (fun e2 => by omega) (fun e2 => ⟨vp_in_nI (by omega) (by decide), ?_⟩)))
    · rw [c5] at e
      exact absurd e (nI_ge hin (by omega))
    rw [nI_clamp (by omega), ri]
    have ef : (zI σ (t + 8 + 2 * i) 2 - zI σ (t + 8 + 2 * r) 2).toInt = F i 4 - F r 4 := zsub (pF_4 hF hin) (pF_4 hF hr)
    refine (bX2_onWave_22 c1 c2 hkr h3 h4 hki).mpr (p_isOut c1 c2 c4 hF hin (ho i hin) ⟨rfl, (bX2_onWave_38 c1 c2 hkr hki).mpr (zt0 (fun c => go _ _ (zcat_f _) (zcat_i _) (fun q => c q.1)) (fun c => ?_))⟩)
    have deep : 1 ≤ F i 4 - F r 4 → F i 4 - F r 4 ≤ 2 → zW (d + 1) kX2_onWave 53 [.ref t, .ref (t + 8 + 2 * r), .int (nI i), .ref (t + 8 + 2 * i), .int (zI σ (t + 8 + 2 * i) 2 - zI σ (t + 8 + 2 * r) 2)] [] σ Q := by
      intro d1 d2
      refine (bX2_onWave_53 c1 c2 hkr hki).mpr (p_lanes C' hF hin hL (fun u hu => ⟨rfl, (bX2_onWave_57 c1 c2 hkr hki).mpr (p_lanes C' hF hr hL (fun z hz => ⟨rfl, (bX2_onWave_61 c1 c2 hkr hki).mpr (zti (fun q => go _ _ (zcat_f _) (zcat_i _) ?_) (fun q => ?_))⟩))⟩))
      · rintro ⟨-, -, -, q1, q2⟩
        have := p_and0.mp q (max (F i 5) (F r 5)).toNat (by omega)
        rw [hu _ (by omega), hz _ (by omega)] at this
        omega
      · rw [zb_t] at h
        · exact h
        · refine ⟨i, hin, Classical.not_not.mp c, d1, d2, ?_⟩
          refine Classical.not_not.mp (fun q2 => q (p_and0.mpr (fun k hk q3 => ?_)))
          rw [hu _ hk, hz _ hk] at q3
          omega
    refine zeq' ef k1 (fun e3 => deep (by omega) (by omega)) (fun e3 => zeq' ef k2 (fun e4 => deep (by omega) (by omega)) (fun e4 => go _ _ (zcat_f _) (zcat_i _) (by omega)))
theorem p_wave {t n r : Nat} {B : aBk} {W : aWx} {w : Nat} {F : aFn} (C : pCx σ t n B W w) (hF : pF σ t n = F) (hr : r < n) (hL : aLn B F n) (ho : ∀ o, o < n → (F o 7 = -1 ↔ F o 8 = -1)) (hx : ∀ o, o < n → 0 ≤ F o 4 ∧ F o 4 ≤ B.2.2) (h : Q (some (.int (zb (aWave n F r)))) σ) : zCall (d + 1) kX2_onWave [.ref t, .ref (t + 8 + 2 * r)] σ Q :=
  (bX2_onWave_0 C.1 C.2.1 (zf_racer C.2.1 (by have := C.2.2.2.1; omega))).mpr (p_wave_l C hF hr hL ho hx h n 0 _ _ (by omega) (by omega) (zcat_r _) (zcat_r _) (fun o q => absurd q (by omega)))
theorem p_aside {t n r : Nat} {B : aBk} {W : aWx} {w : Nat} {D : aD} (C : pCx σ t n B W w) (hD : pHas σ t n D) (hr : r < n) (hL : aLn B D.1 n) (ho : ∀ o, o < n → (D.1 o 7 = -1 ↔ D.1 o 8 = -1)) (hx : 0 ≤ D.1 r 4 ∧ D.1 r 4 < B.2.2) {y hg : Int32} (eh : hg.toInt = W.2.1)
    (h : ∀ σ', pHas σ' t n (aAside B W n D.1 r y.toInt, D.2) → zFr (pWg t) σ σ' → Q none σ') : zCall (d + 2) kX2_goAside [.ref t, .ref (t + 8 + 2 * r), .int y, .int hg] σ Q := by
  have C' := C
  obtain ⟨c1, c2, c3, c4, c5, ⟨b, c6, c7⟩, c8, c9, c10, c11⟩ := C
  obtain ⟨st, hs, ks⟩ := c8 r hr
  have hkr := zf_racer c2 (show r < 6 by omega)
  have hB1 := c10.2.1
  have hB2 := c10.2.2.2.1
  have hLr := hL r hr
  have e0 : (zI σ st 0).toInt = D.1 r 0 := by rw [← hD.1, pF_s hr (by omega) hs]
  have e4 := pF_4 hD.1 hr
  have no : ¬ (aCan B W (D.1 r 0) (D.1 r 4) y.toInt ∧ aFree n D.1 r (D.1 r 0) (D.1 r 4) y.toInt) → Q none σ := fun q => h σ (by unfold aAside; rw [zif_f q]; exact hD) (zFr.refl _ _)
  refine (bX2_goAside_0 c1 c2 hkr).mpr (zlt' rfl k0 (fun q => no (fun z => by have := z.1.1; omega)) (fun hy0 => ?_))
  rw [c6]
  refine (bX2_goAside_9 c1 c2 hkr c7.1).mpr ?_
  rw [hs]
  refine (bX2_goAside_16 c1 c2 hkr ks).mpr (zle' rfl (zsub c7.2.1 e0) (fun hy1 => ?_) (fun q => no (fun z => by have := z.1.2.1; omega)))
  refine p_barred C' hD.1 hr hL ho (by omega) eh (fun v hv => ⟨rfl, (bX2_goAside_34 c1 c2 hkr).mpr ?_⟩)
  rw [hs]
  refine (bX2_goAside_38 c1 c2 hkr ks).mpr (p_lanesFrom c1 ks e0 (by omega) (by omega) (fun u hu => ⟨rfl, (bX2_goAside_42 c1 c2 hkr).mpr (zti (fun q => ?_) (fun q => no ?_))⟩))
  · have cc : aCan B W (D.1 r 0) (D.1 r 4) y.toInt ∧ aFree n D.1 r (D.1 r 0) (D.1 r 4) y.toInt := by
      have nb : ∀ k : Int, y.toInt ≤ k → k < y.toInt + D.1 r 0 → ¬ (aBars B W (D.1 r 4) k ∨ aOcc n D.1 r (D.1 r 4) k) := by
        intro k k1 k2 z
        have e : ((k.toNat : Nat) : Int) = k := by omega
        have := p_and0.mp q k.toNat (by omega)
        rw [hv _ (by omega), hu _ (by omega), e, e4] at this
        refine this ⟨?_, k1, k2⟩
        rcases z with z | z
        · exact Or.inl ⟨by omega, hx.2, z⟩
        · exact Or.inr z
      exact ⟨⟨hy0, by omega, fun k k1 k2 z => nb k k1 k2 (Or.inl z)⟩, fun k k1 k2 z => nb k k1 k2 (Or.inr z)⟩
    refine h (pS σ t r 5 y) ?_ (pS_fr c2 (by omega) (by omega))
    unfold aAside
    rw [zif_t cc]
    exact pS_has c2 c4 c8 hD hr (by omega) (by omega) rfl
  · rintro ⟨z1, z2⟩
    refine q (p_and0.mpr (fun k hk z => ?_))
    rw [hv _ hk, hu _ hk, e4] at z
    obtain ⟨z3, z4, z5⟩ := z
    rcases z3 with z3 | z3
    · exact z1.2.2 k z4 z5 z3.2.2
    · exact z2 k z4 z5 z3
end PMOVE
