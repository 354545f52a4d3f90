/-! the model's sums; odds, luck, close -/
section SUMS
variable {d : Nat} {Q : Option Value → zS → Prop}
theorem mCx_wr {σ σ' : zS} {n bi : Nat} {B : aBk} {W : aWx} (h : zFr (mWr False) σ σ') (C : mCx σ n bi B W) : mCx σ' n bi B W := mCx_fr h C
/-- a race gone through by the model, whatever stood there -/
theorem m_goR {σ : zS} {n b k : Nat} {F : aFn} {B : aBk} {W : aWx} (C : mCx σ n b B W) (hF : ∀ r w, r < n → w ≤ 3 → mF σ n r w = F r w) (h43 : zI σ 131 43 = 0) (hst : ∀ r, r < n → aFst B F r)
    (h : ∀ σ', mCx σ' n b B W → mF σ' n = aR B W n F k → (∀ r w, r < n → w ≤ 3 → mF σ' n r w = F r w) → zI σ' 131 43 = 0 → zFr (mWr False) σ σ' → Q none σ') : zCall (d + 8) kX12_goRace [.ref 131, .long ((nI k).toInt64)] σ Q := by
  have hst1 : ∀ r, r < n → aFst B (mF σ n) r := fun r hr => by
    have z := hst r hr
    unfold aFst at *
    rw [hF r 0 hr (by omega), hF r 1 hr (by omega), hF r 2 hr (by omega), hF r 3 hr (by omega)]
    exact z
  refine m_goRace C rfl h43 hst1 (fun σ' hD _ f => ?_)
  have e : mF σ' n = aR B W n F k := by
    rw [hD.1]
    show (aRace B W n (mF σ n) (aSd k)).2.1 = _
    rw [aRace_c hF]
    rfl
  refine h σ' (mCx_fr f C) e (fun r w hr hw => ?_) (by rw [f.i (by unfold mWr; omega)]; exact h43) f
  rw [e]
  exact (aR_ok C.2.2.2.2.2.2.2.1 C.2.2.2.2.2.2.2.2 C.2.1 hst).2 r w hr hw
theorem m_sumOf_l {n b r N : Nat} {F : aFn} {B : aBk} {W : aWx} {x3 : Int32} {f : Nat → Int} (hr : r < n) (hst : ∀ r, r < n → aFst B F r) (hN : N ≤ 40) (hf : (x3 = 0 ∧ f = fun k => aPl n (aR B W n F k) r) ∨ (¬ x3 = 0 ∧ f = fun k => aWin n (aR B W n F k) r)) (fb : ∀ k, 0 ≤ f k ∧ f k ≤ 6) :
    ∀ (m k : Nat) (σ : zS) (c : Int32), N - k = m → k ≤ N → mCx σ n b B W → (∀ r w, r < n → w ≤ 3 → mF σ n r w = F r w) → zI σ 131 43 = 0 → c.toInt = aSum f k →
    (∀ (v : Int32) (σ' : zS), v.toInt = aSum f N → mCx σ' n b B W → (∀ r w, r < n → w ≤ 3 → mF σ' n r w = F r w) → zI σ' 131 43 = 0 → zFr (mWr False) σ σ' → Q (some (.int v)) σ') → zW (d + 9) kX12_sumOf 6 [.ref 131, .int (nI r), .int (nI N), .int x3, .int c, .int (nI k)] [] σ Q := by
  intro m
  induction m with
  | zero =>
    intro k σ c hm hk C hF h43 hc h
    have e : k = N := by omega
    subst e
    exact (bX12_sumOf_6 C.1).mpr (zle' (ai_n (by omega)) (ai_n (by omega)) (fun _ => h c σ hc C hF h43 (zFr.refl _ _)) (fun q => by omega))
  | succ m ih =>
    intro k σ c hm hk C hF h43 hc h
    have n6 := C.2.1
    have sb := aSum_b2 (m := 6) (by omega) fb (show k ≤ 40 by omega)
    have fbk := fb k
    refine (bX12_sumOf_6 C.1).mpr (zle' (ai_n (by omega)) (ai_n (by omega)) (fun q => by omega) (fun _ => m_goR C hF h43 hst (fun σ1 C1 eR hF1 h431 f1 => ⟨rfl, (bX12_sumOf_19 C1.1).mpr ?_⟩)))
    have nx : ∀ y0 : Int32, y0.toInt = f k → zW (d + 9) kX12_sumOf 46 [.ref 131, .int (nI r), .int (nI N), .int x3, .int c, .int (nI k)] [.int y0, .int c] σ1 Q := by
      intro y0 hy
      refine (bX12_sumOf_46 C1.1).mpr ?_
      rw [nI_1]
      refine ih (k + 1) σ1 (c + y0) (by omega) (by omega) C1 hF1 h431 (by rw [aSum_s]; exact zadd hc hy) (fun v σ' q1 q2 q3 q4 q5 => h v σ' q1 q2 q3 q4 (f1.trans q5))
    rcases hf with ⟨h3, ef⟩ | ⟨h3, ef⟩
    · refine zy h3 (m_placeOf C1.1 eR n6 C1.2.2.1 hr (fun v hv => ⟨rfl, nx v (by rw [hv, ef])⟩))
    · refine zn h3 (m_placeOf C1.1 eR n6 C1.2.2.1 hr (fun v hv => ⟨rfl, (bX12_sumOf_30 C1.1).mpr (zeq' hv k0 (fun q => nx 1 ?_) (fun q => nx 0 ?_))⟩))
      · rw [ef]; show (1 : Int) = aWin n _ r; unfold aWin; rw [if_pos q]
      · rw [ef]; show (0 : Int) = aWin n _ r; unfold aWin; rw [if_neg q]
theorem m_sumOf {σ : zS} {n b r N : Nat} {F : aFn} {B : aBk} {W : aWx} {x3 : Int32} {f : Nat → Int} (C : mCx σ n b B W) (hF : ∀ r w, r < n → w ≤ 3 → mF σ n r w = F r w) (h43 : zI σ 131 43 = 0) (hr : r < n) (hst : ∀ r, r < n → aFst B F r) (hN : N ≤ 40) (hf : (x3 = 0 ∧ f = fun k => aPl n (aR B W n F k) r) ∨ (¬ x3 = 0 ∧ f = fun k => aWin n (aR B W n F k) r))
    (h : ∀ (v : Int32) (σ' : zS), v.toInt = aSum f N → mCx σ' n b B W → (∀ r w, r < n → w ≤ 3 → mF σ' n r w = F r w) → zI σ' 131 43 = 0 → zFr (mWr False) σ σ' → Q (some (.int v)) σ') : zCall (d + 9) kX12_sumOf [.ref 131, .int (nI r), .int (nI N), .int x3] σ Q := by
  refine (bX12_sumOf_0 C.1).mpr (m_sumOf_l (k := 0) hr hst hN hf (fun k => ?_) N σ 0 (by omega) (by omega) C hF h43 rfl h)
  rcases hf with ⟨_, ef⟩ | ⟨_, ef⟩
  · rw [ef]; exact aPl_b C.2.1 ((aR_ok C.2.2.2.2.2.2.2.1 C.2.2.2.2.2.2.2.2 C.2.1 hst).1 r hr)
  · rw [ef]
    have := aWin_b (n := n) (F := aR B W n F k) (r := r)
    show 0 ≤ aWin n (aR B W n F k) r ∧ aWin n (aR B W n F k) r ≤ 6
    omega
theorem m_oddsOf {σ : zS} {n b r N : Nat} {F : aFn} {B : aBk} {W : aWx} {x3 : Int32} {f : Nat → Int} (C : mCx σ n b B W) (hF : mF σ n = F) (h43 : zI σ 131 43 = 0) (hr : r < n) (hst : ∀ r, r < n → aFst B F r) (hN : N ≤ 40) (hf : (x3 = 0 ∧ f = fun k => aPl n (aR B W n F k) r) ∨ (¬ x3 = 0 ∧ f = fun k => aWin n (aR B W n F k) r))
    (h : ∀ (v : Int32) (σ' : zS), v.toInt = aSum f N → zLay σ' → zFr mWq σ σ' → Q (some (.int v)) σ') : zCall (d + 10) kX12_oddsOf [.ref 131, .int (nI r), .int (nI N), .int x3] σ Q := by
  refine (bX12_oddsOf_0 C.1).mpr (m_keep C.1 (fun σ1 k1 f1 e139 e131 e31 => ⟨rfl, ?_⟩))
  have l1 : zLay σ1 := f1.lay C.1 (fun _ _ _ _ => mWq_2)
  have C1 : mCx σ1 n b B W := by
    obtain ⟨c1, c2, c3, c4, c5, c6, c7, c8, c9⟩ := C
    refine ⟨l1, c2, by rw [e131 20 (by omega)]; exact c3, c4, by rw [e131 19 (by omega)]; exact c5, ?_, ?_, c8, c9⟩
    · rw [mB_fr f1 b ⟨fun k => by unfold mWq; omega, fun k => by unfold mWq; omega, fun k => by unfold mWq; omega⟩]; exact c6
    · rw [mW_fr f1 ⟨by unfold mWq; omega, by unfold mWq; omega, by unfold mWq; omega⟩]; exact c7
  have hF1 : ∀ r w, r < n → w ≤ 3 → mF σ1 n r w = F r w := fun r w _ _ => by rw [← hF]; unfold mF; rw [e139]
  refine (bX12_oddsOf_4 l1).mpr (m_sumOf C1 hF1 (by rw [f1.i (by unfold mWq; omega)]; exact h43) hr hst hN hf (fun v σ2 hv C2 _ _ f2 => ⟨rfl, (bX12_oddsOf_11 C2.1).mpr ?_⟩))
  refine m_back C2.1 (mKept_y k1 (mWr_y f2)) ((mWq_x f1).trans (mWy_x (mWr_y f2))) (fun σ3 f3 => ⟨rfl, ?_⟩)
  have l3 : zLay σ3 := f3.lay C.1 (fun _ _ _ _ => mWq_2)
  exact (bX12_oddsOf_17 l3).mpr (h v σ3 hv l3 f3)
/-- the model's first question of odds -/
theorem m_areOdds {σ : zS} {n b r : Nat} {F : aFn} {B : aBk} {W : aWx} {x : Int32} (C : mCx σ n b B W) (hF : mF σ n = F) (hr : r < n) (hs : ∀ r, r < n → 1 ≤ F r 0 ∧ F r 0 ≤ 5) (h1 : (1 ≤ x.toInt ∧ x.toInt ≤ 40) → (∀ r, r < n → aCan B W (F r 0) 0 (F r 3)) → Q (some (.int 1)) σ) (h0 : ¬ ((1 ≤ x.toInt ∧ x.toInt ≤ 40) ∧ ∀ r, r < n → aCan B W (F r 0) 0 (F r 3)) → Q (some (.int 0)) σ) : zCall (d + 4) kX12_areOdds [.ref 131, .int (nI r), .int x] σ Q := by
  refine (bX12_areOdds_0 C.1).mpr (m_ir1 C.1 C.2.2.1 C.2.1 hr ⟨rfl, (bX12_areOdds_5 C.1).mpr (zn (by decide) (m_isIn C.1 ⟨rfl, (bX12_areOdds_15 C.1).mpr (zt0 (fun q => ?_) (fun q => h0 (fun z => q (by rw [k1, k40]; exact z.1))))⟩))⟩)
  rw [k1, k40] at q
  exact m_canStart C hF hs ⟨rfl, (bX12_areOdds_22 C.1).mpr (zt0 (fun z => h1 q z.2) (fun z => h0 (fun y => z ⟨by omega, y.2⟩)))⟩
theorem m_areOdds0 {σ : zS} {n : Nat} {x y : Int32} (hl : zLay σ) (h6 : n ≤ 6) (m20 : zI σ 131 20 = nI n) (hx : ¬ (0 ≤ x.toInt ∧ x.toInt < n)) (h0 : Q (some (.int 0)) σ) : zCall (d + 1) kX12_areOdds [.ref 131, .int x, .int y] σ Q :=
  (bX12_areOdds_0 hl).mpr (m_ir0 hl m20 h6 hx ⟨rfl, (bX12_areOdds_5 hl).mpr (zy rfl h0)⟩)
end SUMS
section ODDS2
variable {σ : zS} {nb ns : Nat}
theorem mCx_q {σ2 : zS} {n b : Nat} (g : iA σ nb ns) (g2 : iA σ2 nb ns) (T : iT σ nb ns n b) (f2 : zFr iSafe σ σ2) : mCx σ2 n b (mB σ b) (mW σ) := by
  have h6 := g.nb6
  have C2 := (iT_fr f2 h6 g.ns10 T).mcx g2
  rwa [iS_mB f2 (b := b) (by have := T.bb; omega), iS_mW f2] at C2
theorem iT.sz {n b : Nat} (T : iT σ nb ns n b) : ∀ r, r < n → 1 ≤ mFR σ 139 n r 0 ∧ mFR σ 139 n r 0 ≤ 5 := fun r hr => ⟨(T.ok r hr).1.1, (T.ok r hr).1.2.1⟩
theorem e_odds (g : iA σ nb ns) (x y z : Int32) : eCall kX11_odds kX12_odds [.int x, .int y, .int z] [.int x, .int y, .int z] σ := by
  have no : ∀ {n : Nat}, n ≤ 6 → zI σ 131 20 = nI n → zI σ 12 4 = nI n → ¬ (0 ≤ x.toInt ∧ x.toInt < n) → eCall kX11_odds kX12_odds [.int x, .int y, .int z] [.int x, .int y, .int z] σ := by
    intro n h6 m20 p4 hx
    refine e_q g (-1) (fun Q h => (bX11_odds_0 g.1).mpr (p_nr1 g.1 p4 h6 hx ⟨rfl, (bX11_odds_5 g.1).mpr (zn (by decide) (h _ σ rfl (zFr.refl _ _)))⟩)) (fun σ1 σ2 Q l1 e2 g2 f2 h => ?_)
    refine (bX12_odds_0 l1).mpr ?_
    rw [e2]
    exact m_areOdds0 g2.1 h6 (by rw [f2.i (nS3 (by omega))]; exact m20) hx ⟨rfl, (bX12_odds_11 g2.1).mpr (zy rfl (h _ σ2 rfl (zFr.refl _ _)))⟩
  rcases g.race with ⟨n, b, T, -⟩ | ⟨-, m20, p4, -⟩
  · rcases a_cs x n with ⟨r, hr, rfl, -⟩ | hx
    · have n6 := T.1
      have hB := g.bok T.bb
      by_cases c : (1 ≤ y.toInt ∧ y.toInt ≤ 40) ∧ (0 ≤ z.toInt ∧ z.toInt ≤ 1)
      · obtain ⟨N, hN, rfl, eN⟩ := ai_nx (x := y) (by omega)
        have hN40 : N ≤ 40 := by omega
        have pp : ∀ {Q : Option Value → zS → Prop}, zCall 12 kX11_tallyTold [.ref 1, .int (nI N)] σ (fun r' σ' => zisN r' = true ∧ zW 13 kX11_odds 29 [.ref 1, .int (nI r), .int (nI N), .int z] (zRstk r' ++ []) σ' Q) → zCall 13 kX11_odds [.ref 1, .int (nI r), .int (nI N), .int z] σ Q := fun h =>
          (bX11_odds_0 g.1).mpr (p_nr0 g.1 T.2.2.1 n6 hr ⟨rfl, (bX11_odds_5 g.1).mpr (zy rfl (p_sd g.1 (fun _ _ => ⟨rfl, (bX11_odds_12 g.1).mpr (zy rfl (zlt' rfl k0 (fun q => by omega) (fun _ => zlt' k1 rfl (fun q => by omega) (fun _ => h))))⟩) (fun q => absurd (by rw [ai_n hN]; omega) q)))⟩)
        by_cases cF : aFit (mB σ b) (mW σ) n (mFR σ 139 n)
        · refine e_q g (if z.toInt = 0 then aSum (fun k => aWin n (aR (mB σ b) (mW σ) n (mFR σ 139 n) k) r) N else aSum (fun k => aPl n (aR (mB σ b) (mW σ) n (mFR σ 139 n) k) r) N) (fun Q h => pp (p_tallyTold (d := 5) g T (by omega) hN40 (fun _ σ1 l1 t1 f1 => ⟨rfl, (bX11_odds_29 l1).mpr (zn (by decide) ?_)⟩) (fun q => absurd cF q))) (fun σ1 σ2 Q l1 e2 g2 f2 h => ?_)
          · have t1r := t1.1 r hr
            rw [Int.zero_add, Int.zero_add] at t1r
            rw [nI_clamp (by omega)]
            refine zeq' rfl k0 (fun q => ⟨vp_in_nI (by omega) (by decide), h _ σ1 ?_ f1⟩) (fun q => ⟨vp_in_nI (by omega) (by decide), h _ σ1 ?_ f1⟩)
            · rw [if_pos q]; exact t1r.1
            · rw [if_neg q]; exact t1r.2
          · have C2 := mCx_q g g2 T f2
            refine (bX12_odds_0 l1).mpr ?_
            rw [e2]
            refine m_areOdds C2 (T.m f2) hr T.sz (fun _ _ => ⟨rfl, (bX12_odds_11 g2.1).mpr (zn (by decide) (m_isIn g2.1 ⟨rfl, (bX12_odds_20 g2.1).mpr (zt0 (fun _ => ?_) (fun q => absurd (by rw [k0, k1]; exact c.2) q))⟩))⟩) (fun q => absurd ⟨by rw [ai_n hN]; omega, cF.1⟩ q)
            refine zeq' rfl k0 (fun q => ?_) (fun q => ?_)
            · refine (bX12_odds_35 g2.1).mpr (m_oddsOf C2 (T.m f2) g2.r43 hr T.fs hN40 (Or.inr ⟨by decide, rfl⟩) (fun v σ3 hv l3 f3 => ⟨rfl, (bX12_odds_38 l3).mpr (h v σ3 ?_ f3)⟩))
              rw [if_pos q]; exact hv
            · refine (bX12_odds_35 g2.1).mpr (m_oddsOf C2 (T.m f2) g2.r43 hr T.fs hN40 (Or.inl ⟨rfl, rfl⟩) (fun v σ3 hv l3 f3 => ⟨rfl, (bX12_odds_38 l3).mpr (h v σ3 ?_ f3)⟩))
              rw [if_neg q]; exact hv
        · refine e_q g (-1) (fun Q h => pp (p_tallyTold (d := 5) g T (by omega) hN40 (fun q => absurd q cF) (fun _ σ1 l1 f1 => ⟨rfl, (bX11_odds_29 l1).mpr (zy rfl (h _ σ1 km1 f1))⟩))) (fun σ1 σ2 Q l1 e2 g2 f2 h => ?_)
          have C2 := mCx_q g g2 T f2
          refine (bX12_odds_0 l1).mpr ?_
          rw [e2]
          exact m_areOdds C2 (T.m f2) hr T.sz (fun _ q => absurd ⟨q, T.ap⟩ cF) (fun _ => ⟨rfl, (bX12_odds_11 g2.1).mpr (zy rfl (h _ σ2 km1 (zFr.refl _ _)))⟩)
      · refine e_q g (-1) (fun Q h => ?_) (fun σ1 σ2 Q l1 e2 g2 f2 h => ?_)
        · exact (bX11_odds_0 g.1).mpr (p_nr0 g.1 T.2.2.1 n6 hr ⟨rfl, (bX11_odds_5 g.1).mpr (zy rfl (p_sd g.1 (fun q1 q2 => ⟨rfl, (bX11_odds_12 g.1).mpr (zy rfl (zlt' rfl k0 (fun q => h _ σ km1 (zFr.refl _ _)) (fun q3 => zlt' k1 rfl (fun q => h _ σ km1 (zFr.refl _ _)) (fun q4 => absurd ⟨⟨q1, q2⟩, q3, q4⟩ c))))⟩) (fun q => ⟨rfl, (bX11_odds_12 g.1).mpr (zn (by decide) (h _ σ km1 (zFr.refl _ _)))⟩)))⟩)
        · have C2 := mCx_q g g2 T f2
          refine (bX12_odds_0 l1).mpr ?_
          rw [e2]
          refine m_areOdds C2 (T.m f2) hr T.sz (fun q1 _ => ⟨rfl, (bX12_odds_11 g2.1).mpr (zn (by decide) (m_isIn g2.1 ⟨rfl, (bX12_odds_20 g2.1).mpr (zt0 (fun q => absurd ⟨q1, by rw [k0, k1] at q; exact q⟩ c) (fun _ => h _ σ2 km1 (zFr.refl _ _)))⟩))⟩) (fun _ => ⟨rfl, (bX12_odds_11 g2.1).mpr (zy rfl (h _ σ2 km1 (zFr.refl _ _)))⟩)
    · exact no T.1 T.2.1 T.2.2.1 hx
  · by_cases hx : 0 ≤ x.toInt ∧ x.toInt < (0 : Nat)
    · exact absurd hx (by omega)
    · exact no (by omega) m20 p4 hx
end ODDS2
