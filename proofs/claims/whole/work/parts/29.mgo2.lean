/-! the model's strike, steps, turn -/
theorem aOcc_u {n : Nat} {F : aFn} {but x k : Int} {r w : Nat} {v : Int} (h : w ≠ 0 ∧ w ≠ 4 ∧ w ≠ 5 ∧ w ≠ 7) : aOcc n (aU F r w v) but x k ↔ aOcc n F but x k := by
  unfold aOcc
  simp only [aU_w (Ne.symm h.1), aU_w (Ne.symm h.2.1), aU_w (Ne.symm h.2.2.1), aU_w (Ne.symm h.2.2.2)]
section MGO
variable {d : Nat} {σ : zS} {Q : Option Value → zS → Prop}
theorem m_strike_l {n bi r : Nat} {rec : Prop} {B : aBk} {W : aWx} {D : aD} (C : mCx σ n bi B W) (hD : mHas σ n rec D) (hr : r < n) (hL : aLn B D.1 n) (hx : 0 ≤ D.1 r 4 ∧ D.1 r 4 + 1 < B.2.2) {x y : Int32} (ex : x.toInt = D.1 r 4 + 1) (ey : y.toInt = D.1 r 5) {k : Int} (hk : D.1 r 5 ≤ k ∧ k < D.1 r 5 + D.1 r 0) (hb : aBarred B W n D.1 r (D.1 r 4 + 1) k)
    (h : ∀ s : Int32, D.1 r 5 ≤ s.toInt → s.toInt ≤ k → aBarred B W n D.1 r (D.1 r 4 + 1) s.toInt → (∀ j : Int, D.1 r 5 ≤ j → j < s.toInt → ¬ aBarred B W n D.1 r (D.1 r 4 + 1) j) → zW (d + 3) kX12_strike 51 [.ref 131, .int (nI r), .int x, .int y, .int s] [] σ Q) :
    ∀ (m : Nat) (s : Int32), (k - s.toInt).toNat = m → D.1 r 5 ≤ s.toInt → s.toInt ≤ k → (∀ j : Int, D.1 r 5 ≤ j → j < s.toInt → ¬ aBarred B W n D.1 r (D.1 r 4 + 1) j) → zW (d + 3) kX12_strike 19 [.ref 131, .int (nI r), .int x, .int y, .int s] [] σ Q := by
  obtain ⟨hl, hn, c3, c4, c5, c6, c7, c8, c9⟩ := C
  have hB1 := c8.2.1
  have hB2 := c8.2.2.2.1
  have hLr := hL r hr
  intro m
  induction m with
  | zero =>
    intro s hm h1 h2 hno
    have es : s.toInt = k := by omega
    refine (bX12_strike_19 hl).mpr ?_
    rw [c5]
    refine m_bars hl c6 c7 c4 (by omega) (by omega) ⟨rfl, (bX12_strike_30 hl).mpr (zt0 (fun c => ?_) (fun c => ?_))⟩
    · exact h s h1 h2 (by rw [es]; exact hb) hno
    · refine m_whoIs hl hD.1 hn c3 (aLn_6 c8 hL) (fun v hv => ⟨rfl, (bX12_strike_41 hl).mpr (zeq' rfl km1 (fun e => ?_) (fun e => ?_))⟩)
      · exfalso
        rw [ex, es] at c
        rcases hb with q | q
        · exact c q
        · rcases hv with ⟨_, q2⟩ | ⟨j, hj, rfl, _⟩
          · rw [ai_n (by omega), ex, es] at q2
            exact q2 q
          · rw [ai_n (by omega)] at e; omega
      · exact h s h1 h2 (by rw [es]; exact hb) hno
  | succ m ih =>
    intro s hm h1 h2 hno
    refine (bX12_strike_19 hl).mpr ?_
    rw [c5]
    refine m_bars hl c6 c7 c4 (by omega) (by omega) ⟨rfl, (bX12_strike_30 hl).mpr (zt0 (fun c => ?_) (fun c => ?_))⟩
    · rw [ex] at c
      exact h s h1 h2 (Or.inl c) hno
    · rw [ex] at c
      refine m_whoIs hl hD.1 hn c3 (aLn_6 c8 hL) (fun v hv => ⟨rfl, (bX12_strike_41 hl).mpr (zeq' rfl km1 (fun e => ?_) (fun e => ?_))⟩)
      · have hno2 : ¬ aBarred B W n D.1 r (D.1 r 4 + 1) s.toInt := by
          rintro (q | q)
          · exact c q
          · rcases hv with ⟨_, q2⟩ | ⟨j, hj, rfl, _⟩
            · rw [ai_n (by omega), ex] at q2
              exact q2 q
            · rw [ai_n (by omega)] at e; omega
        have es : (s + 1).toInt = s.toInt + 1 := zadd rfl k1
        refine ih (s + 1) (by omega) (by omega) (by omega) (fun j hj1 hj2 => ?_)
        rw [es] at hj2
        rcases Int.lt_or_eq_of_le (show j ≤ s.toInt by omega) with h3 | h3
        · exact hno j hj1 h3
        · rw [h3]; exact hno2
      · refine h s h1 h2 (Or.inr ?_) hno
        rcases hv with ⟨q, _⟩ | ⟨j, hj, rfl, q⟩
        · exact absurd q e
        · rw [ai_n (by omega), ex] at q
          exact ⟨j, hj, q⟩
theorem m_strike {n bi r : Nat} {rec : Prop} {B : aBk} {W : aWx} {D : aD} (C : mCx σ n bi B W) (hD : mHas σ n rec D) (hr : r < n) (hL : aLn B D.1 n) (hx : 0 ≤ D.1 r 4 ∧ D.1 r 4 + 1 < B.2.2) (hst : aStop B W n D.1 r (D.1 r 4 + 1)) (h : ∀ σ', mHas σ' n rec (aStrike B W n D.1 r, D.2.1, D.2.2.1, D.2.2.2.1, aHit D.2.2.2.2 (D.1 r 4)) → zFr (mWr rec) σ σ' → Q none σ') : zCall (d + 5) kX12_strike [.ref 131, .int (nI r)] σ Q := by
  have C' := C
  obtain ⟨hl, hn, c3, c4, c5, c6, c7, c8, c9⟩ := C
  obtain ⟨k, hk1, hk2, hb⟩ := hst
  have hB1 := c8.2.1
  have hB2 := c8.2.2.2.1
  have hLr := hL r hr
  refine (bX12_strike_0 hl).mpr (m_of hl 4 hD.1 hn hr (by omega) (fun v4 hv4 => ⟨rfl, (bX12_strike_6 hl).mpr (m_of hl 5 hD.1 hn hr (by omega) (fun v5 hv5 => ⟨rfl, (bX12_strike_15 hl).mpr ?_⟩))⟩))
  have ex : (v4 + 1).toInt = D.1 r 4 + 1 := zadd hv4 k1
  refine m_strike_l C' hD hr hL hx ex hv5 ⟨hk1, hk2⟩ hb (fun s s1 s2 s3 s4 => ?_) _ v5 rfl (by omega) (by omega) (fun j j1 j2 => by omega)
  have tail : ∀ y2 : Int32, y2.toInt = zif (aUp B W n D.1 r (D.1 r 4 + 1)) (D.1 r 5 + 1) (D.1 r 5 - 1) → zW (d + 5) kX12_strike 77 [.ref 131, .int (nI r), .int (v4 + 1), .int v5, .int s] [.int y2, .int (nI r), .ref 131] σ Q := by
    intro y2 hy2
    have hy3 : -100 ≤ y2.toInt ∧ y2.toInt ≤ 100 := by
      rw [hy2]
      by_cases q : aUp B W n D.1 r (D.1 r 4 + 1)
      · rw [zif_t q]; omega
      · rw [zif_f q]; omega
    refine (bX12_strike_77 hl).mpr (m_aside C' hD hr hL ⟨hx.1, by omega⟩ hy3 (fun σ1 hD1 f1 => ⟨rfl, ?_⟩))
    rw [hy2] at hD1
    have C1 := mCx_fr f1 C'
    have hl1 := C1.1
    refine (bX12_strike_80 hl1).mpr (m_set hl1 6 (by omega) (by omega) ⟨rfl, ?_⟩)
    have f2 : zFr (mWr rec) σ (mS σ1 r 6 0) := f1.trans mS_fw
    have hD2 := mS_has hD1 (w := 6) hr (by omega) k0
    have hl2 := mS_lay (r := r) (w := 6) (v := 0) hl1
    refine (bX12_strike_88 hl2).mpr (m_of hl2 10 hD2.1 hn hr (by omega) (fun v10 hv10 => ⟨rfl, (bX12_strike_99 hl2).mpr (m_set hl2 10 (by omega) (by omega) ⟨rfl, ?_⟩)⟩))
    rw [show (((aU (aAside B W n D.1 r (zif (aUp B W n D.1 r (D.1 r 4 + 1)) (D.1 r 5 + 1) (D.1 r 5 - 1))) r 6 0, D.2) : aD).1 r 10) = D.1 r 10 from by
      show aU _ r 6 0 r 10 = _
      rw [aU_w (by decide), aAside_w (by decide)]] at hv10
    have f3 : zFr (mWr rec) σ (mS (mS σ1 r 6 0) r 10 (v10 + 1)) := f2.trans mS_fw
    have hD3 := mS_has hD2 (w := 10) (v := v10 + 1) hr (by omega) (aInc_of v10)
    rw [hv10] at hD3
    have hl3 := mS_lay (r := r) (w := 10) (v := v10 + 1) hl2
    generalize hS : mS (mS σ1 r 6 0) r 10 (v10 + 1) = σ3 at f3 hD3 hl3
    obtain ⟨d1, d2, d3, d4, d5⟩ := hD3
    refine (bX12_strike_104 hl3).mpr ?_
    rw [d4]
    have e4 : ((v4 + 1) - 1 : Int32).toInt = D.1 r 4 := by rw [zsub ex k1]; omega
    refine zt0 (fun c => ⟨zin' e4, zin' e4, h _ ⟨?_, ?_, ?_, ?_, fun _ x hx2 => ?_⟩ (f3.trans (zFr_U (Or.inl ⟨rfl, Or.inr (Or.inr (Or.inr (Or.inl ⟨rfl, c⟩)))⟩)))⟩) (fun c => h _ ⟨d1, d2, d3, d4, fun q => absurd q c⟩ f3)
    · unfold mF; rw [zI_ne (by decide)]; exact d1
    · rw [zI_ne (by decide)]; exact d2
    · exact d3
    · rw [zI_ne (by decide)]; exact d4
    · rw [zI_self, zcn e4]
      show _ = aHit D.2.2.2.2 (D.1 r 4) x
      unfold aHit
      by_cases e : x = (D.1 r 4).toNat
      · rw [e, pk_us, if_pos rfl, aInc_of, d5 c _ (by omega)]
      · rw [pk_un e, if_neg e]
        exact d5 c x hx2
  refine (bX12_strike_51 hl).mpr (m_of hl 0 hD.1 hn hr (by omega) (fun v0 hv0 => ⟨rfl, (bX12_strike_65 hl).mpr ?_⟩))
  have e2 : (2 * (s - v5) : Int32).toInt = 2 * (s.toInt - D.1 r 5) := zmul k2 (zsub rfl hv5)
  refine zle' hv0 e2 (fun c => tail _ ?_) (fun c => tail _ ?_)
  · rw [zif_f, zsub hv5 k1]
    rintro ⟨j, j1, j2, j3⟩
    exact s4 j j1 (by omega) j3
  · rw [zif_t, zadd hv5 k1]
    exact ⟨s.toInt, s1, c, s3⟩
theorem m_canfree {B : aBk} {W : aWx} {n : Nat} {F : aFn} {r : Nat} {x : Int} (h0 : 0 ≤ F r 5 ∧ F r 5 + F r 0 ≤ B.2.1) : (aCan B W (F r 0) x (F r 5) ∧ aFree n F r (F r 0) x (F r 5)) ↔ ¬ aStop B W n F r x := by
  constructor
  · rintro ⟨q1, q2⟩ ⟨k, k1, k2, k3 | k3⟩
    · exact q1.2.2 k k1 k2 k3
    · exact q2 k k1 k2 k3
  · intro q
    exact ⟨⟨h0.1, h0.2, fun k k1 k2 k3 => q ⟨k, k1, k2, Or.inl k3⟩⟩, fun k k1 k2 k3 => q ⟨k, k1, k2, Or.inr k3⟩⟩
theorem aCan_x {B : aBk} {W : aWx} {sz x y x' : Int} (e : x = x') : aCan B W sz x y ↔ aCan B W sz x' y := by rw [e]
theorem m_steps {n bi r : Nat} {rec : Prop} {B : aBk} {W : aWx} {ticks : Int} (hr : r < n) : ∀ (f : Nat) (σ : zS) (D : aD) (v2 : Value), mCx σ n bi B W → mHas σ n rec D → (zI σ 131 21).toInt = ticks → aLn B D.1 n → 0 ≤ D.1 r 4 → D.1 r 4 < B.2.2 → 0 ≤ D.1 r 2 → D.1 r 2 ≤ 9 → D.1 r 6 < 4 * f → 0 ≤ D.1 r 6 → 0 ≤ D.2.1 → D.2.1 ≤ 6 → v2.category = 1 →
    (∀ σ', mHas σ' n rec (aSteps B W n ticks r f D) → zFr (mWr rec) σ σ' → Q none σ') → zW (d + 6) kX12_go 78 [.ref 131, .int (nI r), v2] [] σ Q := by
  intro f
  induction f with
  | zero =>
    intro σ D v2 C hD ht hL h1 h2 h3 h4 h5 h6 h7 h8 hc h
    omega
  | succ f ih =>
    intro σ D v2 C hD ht hL h1 h2 h3 h4 h5 h6 h7 h8 hc h
    have C' := C
    obtain ⟨hl, hn, c3, c4, c5, c6, c7, c8, c9⟩ := C
    have hB1 := c8.2.1
    have hB2 := c8.2.2.2.1
    have hLr := hL r hr
    have ew : (zI σ 131 13).toInt = W.1 := by rw [← c7]; rfl
    have w1 := c9.1
    have w2 := c9.2.1
    refine (bX12_go_78 hl hc).mpr (m_of hl 6 hD.1 hn hr (by omega) (fun v6 hv6 => ⟨rfl, (bX12_go_85 hl hc).mpr (zlt' hv6 k4 (fun e => ?_) (fun e => ?_))⟩))
    · have no : ¬ 9 ≤ D.1 r 2 * max W.1 (-W.1) → zW (d + 6) kX12_go 278 [.ref 131, .int (nI r), v2] [] σ Q := fun q => (bX12_go_278 hl hc).mpr (h σ (by unfold aSteps; rw [if_pos e, if_neg q]; exact hD) (zFr.refl _ _))
      have mb : 0 ≤ D.1 r 2 * max W.1 (-W.1) ∧ D.1 r 2 * max W.1 (-W.1) ≤ 9 * 3 := ⟨Int.mul_nonneg h3 (by omega), Int.mul_le_mul h4 (by omega) (by omega) (by omega)⟩
      refine zeq' ew k0 (fun e2 => no (by rw [e2]; simp)) (fun e2 => ?_)
      refine m_of hl 2 hD.1 hn hr (by omega) (fun v2 hv2 => ⟨rfl, (bX12_go_241 hl hc).mpr (zlt' (zmul hv2 (zabs ew) (by omega) (by omega)) k9 (fun e3 => no (by omega)) (fun e3 => ?_))⟩)
      refine m_of hl 5 hD.1 hn hr (by omega) (fun v5 hv5 => ⟨rfl, (bX12_go_262 hl hc).mpr ?_⟩)
      have fin : ∀ s : Int32, (v5 + s).toInt = (if 0 < W.1 then D.1 r 5 + 1 else D.1 r 5 - 1) → zW (d + 6) kX12_go 274 [.ref 131, .int (nI r), v2] [.int s, .int v5, .int (nI r), .ref 131] σ Q := by
        intro s hs
        refine (bX12_go_274 hl hc).mpr ?_
        refine m_aside (d := d + 1) C' hD hr hL ⟨h1, h2⟩ (by rw [hs]; split <;> omega) (fun σ1 hD1 f1 => ⟨rfl, (bX12_go_278 (mCx_fr f1 C').1 hc).mpr (h σ1 ?_ f1)⟩)
        unfold aSteps
        rw [if_pos e, if_pos e3, ← hs]
        exact hD1
      refine zle' ew k0 (fun e4 => fin _ ?_) (fun e4 => fin _ ?_)
      · rw [if_neg (by omega), zadd hv5 km1]; omega
      · rw [if_pos (by omega), zadd hv5 k1]
    · refine m_of hl 6 hD.1 hn hr (by omega) (fun u6 hu6 => ⟨rfl, (bX12_go_100 hl hc).mpr (m_set hl 6 (by omega) (by omega) ⟨rfl, ?_⟩)⟩)
      have hD1 := mS_has hD (w := 6) (v := u6 - 4) hr (by omega) (zsub hu6 k4)
      have f1 : zFr (mWr rec) σ (mS σ r 6 (u6 - 4)) := mS_fw
      have C1 := mCx_fr f1 C'
      have ht1 : (zI (mS σ r 6 (u6 - 4)) 131 21).toInt = ticks := by unfold mS; rw [zI_ne (by decide)]; exact ht
      generalize mS σ r 6 (u6 - 4) = σ1 at hD1 f1 C1 ht1
      have C1' := C1
      obtain ⟨hl1, -, c31, -, c51, c61, c71, -, -⟩ := C1
      have g4 : aU D.1 r 6 (D.1 r 6 - 4) r 4 = D.1 r 4 := aU_w (by decide)
      have g5 : aU D.1 r 6 (D.1 r 6 - 4) r 5 = D.1 r 5 := aU_w (by decide)
      have g0 : aU D.1 r 6 (D.1 r 6 - 4) r 0 = D.1 r 0 := aU_w (by decide)
      have hL1 : aLn B (aU D.1 r 6 (D.1 r 6 - 4)) n := aLn_u hL (by decide) (by decide)
      refine (bX12_go_105 hl1 hc).mpr (m_of hl1 4 hD1.1 hn hr (by omega) (fun v4 hv4 => ⟨rfl, (bX12_go_111 hl1 hc).mpr ?_⟩))
      rw [g4] at hv4
      have ex : (v4 + 1).toInt = D.1 r 4 + 1 := zadd hv4 k1
      have ewd : (zI σ1 135 bi).toInt = B.2.2 := by rw [← c61]; rfl
      rw [c51]
      refine ⟨vp_in_nI c4 (by decide), ?_⟩
      rw [nI_clamp (by omega)]
      refine zeq' ex ewd (fun e2 => ?_) (fun e2 => ?_)
      · refine m_set hl1 4 (by omega) (by omega) ⟨rfl, ?_⟩
        have hD2 := mS_has hD1 (w := 4) hr (by omega) ex
        have hl2 := mS_lay (r := r) (w := 4) (v := v4 + 1) hl1
        refine (bX12_go_134 hl2).mpr (m_set hl2 7 (by omega) (by omega) ⟨rfl, ?_⟩)
        have ht2 : (zI (mS σ1 r 4 (v4 + 1)) 131 21).toInt = ticks := by unfold mS; rw [zI_ne (by decide)]; exact ht1
        have hD3 := mS_has hD2 (w := 7) hr (by omega) ht2
        have f3 := f1.trans ((mS_fw (rec := rec) (r := r) (w := 4) (v := v4 + 1)).trans (mS_fw (rec := rec) (r := r) (w := 7) (v := (zI (mS σ1 r 4 (v4 + 1)) 131 21))))
        have hl3 := mS_lay (r := r) (w := 7) (v := (zI (mS σ1 r 4 (v4 + 1)) 131 21)) hl2
        generalize mS (mS σ1 r 4 (v4 + 1)) r 7 (zI (mS σ1 r 4 (v4 + 1)) 131 21) = σ3 at f3 hl3 hD3
        refine (bX12_go_145 hl3).mpr (m_set hl3 8 (by omega) (by omega) ⟨rfl, ?_⟩)
        have hD4 := mS_has hD3 (w := 8) hr (by omega) hD3.2.1
        have hl4 := mS_lay (r := r) (w := 8) (v := zI σ3 131 22) hl3
        have f4 := f3.trans (mS_fw (rec := rec) (r := r) (w := 8) (v := zI σ3 131 22))
        generalize mS σ3 r 8 (zI σ3 131 22) = σ4 at f4 hl4 hD4
        obtain ⟨d1, d2, d3, d4, d5⟩ := hD4
        refine (bX12_go_156 hl4).mpr (h _ ⟨?_, ?_, ?_, ?_, ?_⟩ (f4.trans (zFr_U (Or.inl ⟨rfl, Or.inr (Or.inr (Or.inr (Or.inr ⟨rfl, Or.inr rfl⟩)))⟩))))
        all_goals (unfold aSteps; rw [if_neg (by omega), if_pos e2])
        · unfold mF; rw [zI_ne (by decide)]; exact d1
        · rw [zI_self, pk_us]; exact zadd d2 k1 (by show -2147483648 ≤ D.2.1 + 1; omega) (by show D.2.1 + 1 < 2147483648; omega)
        · exact d3
        · rw [zI_self, pk_un (by decide)]; exact d4
        · intro q x hx; rw [zI_ne (by decide)]; exact d5 q x hx
      · have st : aStop B W n (aU D.1 r 6 (D.1 r 6 - 4)) r (D.1 r 4 + 1) → zW (d + 6) kX12_go 212 [.ref 131, .int (nI r), .int (v4 + 1)] [] σ1 Q := by
          intro q
          refine (bX12_go_212 hl1).mpr (m_strike C1' hD1 hr hL1 (by rw [g4]; omega) (by rw [g4]; exact q) (fun σ2 hD2 f2 => ⟨rfl, (bX12_go_217 (mCx_fr f2 C1').1).mpr (h _ ?_ (f1.trans f2))⟩))
          unfold aSteps
          rw [if_neg (by omega), if_neg e2, zif_t]
          · rw [g4] at hD2; exact hD2
          · obtain ⟨k, k1, k2, k3⟩ := q
            rw [g5] at k1 k2
            rw [g0] at k2
            refine ⟨k, k1, k2, ?_⟩
            rcases k3 with k3 | k3
            · exact Or.inl k3
            · exact Or.inr ((aOcc_u (by decide)).mp k3)
        refine m_of hl1 0 hD1.1 hn hr (by omega) (fun v0 hv0 => ⟨rfl, (bX12_go_178 hl1).mpr (m_of hl1 5 hD1.1 hn hr (by omega) (fun v5 hv5 => ⟨rfl, (bX12_go_185 hl1).mpr ?_⟩))⟩)
        rw [g0] at hv0
        rw [g5] at hv5
        rw [c51]
        have cf := m_canfree (B := B) (W := W) (n := n) (F := aU D.1 r 6 (D.1 r 6 - 4)) (r := r) (x := D.1 r 4 + 1) (by rw [g5, g0]; omega)
        rw [g0, g5] at cf
        refine m_canLie hl1 c61 c71 c8 c4 (by omega) (by omega) ⟨rfl, (bX12_go_188 hl1).mpr (zt0 (fun c => ?_) (fun c => st (Classical.not_not.mp (fun q => c (by rw [hv0, hv5, ex]; exact (cf.mpr q).1))))) ⟩
        refine m_of hl1 0 hD1.1 hn hr (by omega) (fun u0 hu0 => ⟨rfl, (bX12_go_199 hl1).mpr (m_of hl1 5 hD1.1 hn hr (by omega) (fun u5 hu5 => ⟨rfl, (bX12_go_206 hl1).mpr ?_⟩))⟩)
        rw [g0] at hu0
        rw [g5] at hu5
        refine m_isFree hl1 hD1.1 hn c31 (aLn_6 c8 hL1) (by omega) (by omega) ⟨rfl, (bX12_go_209 hl1).mpr (zt0 (fun c2 => ?_) (fun c2 => st (Classical.not_not.mp (fun q => c2 (by rw [hu0, hu5, ex, ai_n (by omega)]; exact (cf.mpr q).2)))))⟩
        rw [hv0, hv5, ex] at c
        rw [hu0, hu5, ex, ai_n (by omega)] at c2
        have ns := cf.mp ⟨c, c2⟩
        refine m_set hl1 4 (by omega) (by omega) ⟨rfl, (bX12_go_225 (mS_lay hl1)).mpr ?_⟩
        have hD2 := mS_has hD1 (w := 4) hr (by omega) ex
        have f2 : zFr (mWr rec) σ (mS σ1 r 4 (v4 + 1)) := f1.trans mS_fw
        have C2 := mCx_fr f2 C'
        have ht2 : (zI (mS σ1 r 4 (v4 + 1)) 131 21).toInt = ticks := by unfold mS; rw [zI_ne (by decide)]; exact ht1
        have j4 : aU (aU D.1 r 6 (D.1 r 6 - 4)) r 4 (D.1 r 4 + 1) r 4 = D.1 r 4 + 1 := aU_s
        have j2 : aU (aU D.1 r 6 (D.1 r 6 - 4)) r 4 (D.1 r 4 + 1) r 2 = D.1 r 2 := by rw [aU_w (by decide), aU_w (by decide)]
        have j6 : aU (aU D.1 r 6 (D.1 r 6 - 4)) r 4 (D.1 r 4 + 1) r 6 = D.1 r 6 - 4 := by rw [aU_w (by decide), aU_s]
        refine ih _ _ _ C2 hD2 ht2 (aLn_u hL1 (by decide) (by decide)) (by show 0 ≤ aU _ _ _ _ _ _; rw [j4]; omega) (by show aU _ _ _ _ _ _ < _; rw [j4]; omega) (by show 0 ≤ aU _ _ _ _ _ _; rw [j2]; omega) (by show aU _ _ _ _ _ _ ≤ _; rw [j2]; omega) (by show aU _ _ _ _ _ _ < _; rw [j6]; omega) (by show 0 ≤ aU _ _ _ _ _ _; rw [j6]; omega) h7 h8 (zcat_i _) (fun σ' q1 q2 => h σ' ?_ (f2.trans q2))
        unfold aSteps
        rw [if_neg (by omega), if_neg e2, zif_f]
        · exact q1
        · rintro ⟨k, k1, k2, k3⟩
          refine ns ⟨k, by rw [g5]; exact k1, by rw [g5, g0]; exact k2, ?_⟩
          rcases k3 with k3 | k3
          · exact Or.inl k3
          · exact Or.inr ((aOcc_u (by decide)).mpr k3)
theorem m_draw (hl : zLay σ) (h : ∀ v : Int32, v = aDie (aNext (zL σ 131 31)) → Q (some (.int v)) (zsL σ 131 (vp_updL (zL σ 131) 31 (aNext (zL σ 131 31))))) : zCall d kX12_draw [.ref 131] σ Q :=
  (bX12_draw_0 hl).mpr ⟨by decide, h _ rfl⟩
theorem m_move {n bi r : Nat} {rec : Prop} {B : aBk} {W : aWx} {D : aD} {ticks : Int} (C : mCx σ n bi B W) (hD : mHas σ n rec D) (ht : (zI σ 131 21).toInt = ticks) (hr : r < n) (hok : ∀ o, o < n → aFok B D.1 o) (ho : D.1 r 7 = -1) (hu : 0 ≤ D.2.1 ∧ D.2.1 ≤ 6) (h : ∀ σ', mHas σ' n rec (aMove B W n ticks r D) → zFr (mWr rec) σ σ' → Q none σ') : zW (d + 6) kX12_go 44 [.ref 131, .int (nI r), .retAddr 0] [] σ Q := by
  have C' := C
  obtain ⟨hl, hn, c3, c4, c5, c6, c7, c8, c9⟩ := C
  have hor := hok r hr
  obtain ⟨⟨o1, o2, o3, o4, o5, o6, o7, o8⟩, p1, p2, p3, p4, p5, p6, p7, -⟩ := hor
  have hL : aLn B D.1 n := fun o q => ⟨(hok o q).1.1, (hok o q).1.2.1, (hok o q).2.1, (hok o q).2.2.1⟩
  have hx4 : D.1 r 4 < B.2.2 := p5 ho
  have pb := aPull_b (r := r) c8 c9 hr hL ⟨p3, hx4⟩
  refine (bX12_go_44 hl).mpr (m_of hl 6 hD.1 hn hr (by omega) (fun v6 hv6 => ⟨rfl, (bX12_go_55 hl).mpr ?_⟩))
  refine m_pull (d := d + 3) C' hD.1 hr hL ⟨p3, hx4⟩ ⟨o3, o4⟩ (fun p hp => ⟨rfl, (bX12_go_60 hl).mpr ?_⟩)
  refine m_wave (d := d + 3) C' hD.1 hr hL (fun o q => ⟨(hok o q).2.2.2.1, (hok o q).2.2.2.2.1⟩) ⟨rfl, (bX12_go_66 hl).mpr ?_⟩
  have fin : ∀ s : Int32, s.toInt = zif (aWave n D.1 r) 1 0 → zW (d + 6) kX12_go 74 [.ref 131, .int (nI r), .retAddr 0] [.int s, .int (v6 + p), .int 6, .int (nI r), .ref 131] σ Q := by
    intro s hs
    have sb : 0 ≤ s.toInt ∧ s.toInt ≤ 1 := by
      rw [hs]
      by_cases q : aWave n D.1 r
      · rw [zif_t q]; omega
      · rw [zif_f q]; omega
    have es : (v6 + p + s).toInt = D.1 r 6 + aPull B W D.1 r + zif (aWave n D.1 r) 1 0 := zadd (zadd hv6 hp) hs (by omega) (by omega)
    refine (bX12_go_74 hl).mpr (m_set hl 6 (by omega) (by omega) ⟨rfl, ?_⟩)
    have hD1 := mS_has hD (w := 6) hr (by omega) es
    have f1 : zFr (mWr rec) σ (mS σ r 6 (v6 + p + s)) := mS_fw
    have g : ∀ w, w ≠ 6 → aU D.1 r 6 (D.1 r 6 + aPull B W D.1 r + zif (aWave n D.1 r) 1 0) r w = D.1 r w := fun w q => aU_w q
    refine m_steps hr 6 _ _ _ (mCx_fr f1 C') hD1 (by unfold mS; rw [zI_ne (by decide)]; exact ht) (aLn_u hL (by decide) (by decide)) (by show 0 ≤ aU _ _ _ _ _ _; rw [g 4 (by decide)]; exact p3) (by show aU _ _ _ _ _ _ < _; rw [g 4 (by decide)]; exact hx4) (by show 0 ≤ aU _ _ _ _ _ _; rw [g 2 (by decide)]; exact o5) (by show aU _ _ _ _ _ _ ≤ _; rw [g 2 (by decide)]; exact o6) (by show aU _ _ _ _ _ _ < _; rw [aU_s]; omega) (by show 0 ≤ aU _ _ _ _ _ _; rw [aU_s]; omega) hu.1 hu.2 (zcat_r _) (fun σ' q1 q2 => h σ' q1 (f1.trans q2))
  refine zt0 (fun c => fin 1 ?_) (fun c => fin 0 ?_)
  · rw [zif_t c]; rfl
  · rw [zif_f c]; rfl
theorem m_go {n bi r : Nat} {rec : Prop} {B : aBk} {W : aWx} {D : aD} {ticks : Int} (C : mCx σ n bi B W) (hD : mHas σ n rec D) (ht : (zI σ 131 21).toInt = ticks) (hr : r < n) (hok : ∀ o, o < n → aFok B D.1 o) (ho : D.1 r 7 = -1) (hu : 0 ≤ D.2.1 ∧ D.2.1 ≤ 6) (h : ∀ σ', mHas σ' n rec (aGo B W n ticks r D) → zFr (mWr rec) σ σ' → Q none σ') : zCall (d + 6) kX12_go [.ref 131, .int (nI r)] σ Q := by
  have C' := C
  obtain ⟨hl, hn, c3, c4, c5, c6, c7, c8, c9⟩ := C
  have hor := hok r hr
  have hL : aLn B D.1 n := fun o q => ⟨(hok o q).1.1, (hok o q).1.2.1, (hok o q).2.1, (hok o q).2.2.1⟩
  have hx4 : D.1 r 4 < B.2.2 := hor.2.2.2.2.2.1 ho
  have ehd : (zI σ 131 15).toInt = W.2.2 := by rw [← c7]; rfl
  refine (bX12_go_0 hl).mpr (m_eddy (d := d + 4) C' hD.1 hr hL ⟨hor.2.2.2.1, hx4⟩ ⟨rfl, (bX12_go_5 hl).mpr (zt0 (fun c => ?_) (fun c => ?_))⟩)
  · refine m_draw hl (fun v hv => ⟨rfl, ?_⟩)
    have f1 : zFr (mWr rec) σ (zsL σ 131 (vp_updL (zL σ 131) 31 (aNext (zL σ 131 31)))) := zFr_L (Or.inr ⟨rfl, rfl, rfl⟩)
    obtain ⟨d1, d2, d3, d4, d5⟩ := hD
    have hD1 : mHas (zsL σ 131 (vp_updL (zL σ 131) 31 (aNext (zL σ 131 31)))) n rec (D.1, D.2.1, aNext D.2.2.1, True, D.2.2.2.2) := ⟨d1, d2, by rw [zL_self, pk_uLs, d3], d4, d5⟩
    have C1 := mCx_fr f1 C'
    have hl1 := C1.1
    rw [d3] at hv
    have ehd1 : (zI (zsL σ 131 (vp_updL (zL σ 131) 31 (aNext (zL σ 131 31)))) 131 15).toInt = W.2.2 := ehd
    have ht1 : (zI (zsL σ 131 (vp_updL (zL σ 131) 31 (aNext (zL σ 131 31)))) 131 21).toInt = ticks := ht
    generalize zsL σ 131 (vp_updL (zL σ 131) 31 (aNext (zL σ 131 31))) = σ1 at f1 hD1 C1 hl1 ehd1 ht1
    refine (bX12_go_12 hl1).mpr (zle' ehd1 (show v.toInt = (aDie (aNext D.2.2.1)).toInt by rw [hv]) (fun e => ?_) (fun e => ?_))
    · refine m_move C1 hD1 ht1 hr hok ho hu (fun σ' q1 q2 => h σ' ?_ (f1.trans q2))
      unfold aGo
      rw [zif_t c, if_neg (by omega)]
      exact q1
    · refine m_set hl1 6 (by omega) (by omega) ⟨rfl, ?_⟩
      have hD2 := mS_has hD1 (w := 6) hr (by omega) k0
      have hl2 := mS_lay (r := r) (w := 6) (v := 0) hl1
      refine (bX12_go_27 hl2).mpr (m_of hl2 9 hD2.1 hn hr (by omega) (fun v9 hv9 => ⟨rfl, (bX12_go_38 hl2).mpr (m_set hl2 9 (by omega) (by omega) ⟨rfl, (bX12_go_43 (mS_lay hl2)).mpr (h _ ?_ (f1.trans (mS_fw.trans mS_fw)))⟩)⟩))
      have hD3 := mS_has hD2 (w := 9) (v := v9 + 1) hr (by omega) (aInc_of v9)
      rw [hv9] at hD3
      unfold aGo
      rw [zif_t c, if_pos e]
      have e9 : aU D.1 r 6 0 r 9 = D.1 r 9 := aU_w (by decide)
      rw [← e9]
      exact hD3
  · refine m_move C' hD ht hr hok ho hu (fun σ' q1 q2 => h σ' ?_ q2)
    unfold aGo
    rw [zif_f c]
    exact q1
end MGO
