/-! the model's strike, steps, turn -/
theorem aOcc_u {n : Nat} {F : aFn} {but x k : Int} {r w : Nat} {v : Int} (h : w ≠ 0 ∧ w ≠ 4 ∧ w ≠ 5 ∧ w ≠ 7) : aOcc n (aU F r w v) but x k ↔ aOcc n F but x k := by
  unfold aOcc
  simp only [aU_w (Ne.symm h.1), aU_w (Ne.symm h.2.1), aU_w (Ne.symm h.2.2.1), aU_w (Ne.symm h.2.2.2)]
section MGO
variable {d : Nat} {σ : zS} {Q : Option Value → zS → Prop}
theorem m_strike_l {n bi r : Nat} {rec : Prop} {B : aBk} {W : aWx} {D : aD} (C : mCx σ n bi B W) (hD : mHas σ n rec D) (hr : r < n) (hL : aLn B D.1 n) (hx : 0 ≤ D.1 r 4 ∧ D.1 r 4 + 1 < B.2.2) {x y : Int32} (ex : x.toInt = D.1 r 4 + 1) (ey : y.toInt = D.1 r 5) {k : Int} (hk : D.1 r 5 ≤ k ∧ k < D.1 r 5 + D.1 r 0) (hb : aBarred B W n D.1 r (D.1 r 4 + 1) k)
    (h : ∀ s : Int32, D.1 r 5 ≤ s.toInt → s.toInt ≤ k → aBarred B W n D.1 r (D.1 r 4 + 1) s.toInt → (∀ j : Int, D.1 r 5 ≤ j → j < s.toInt → ¬ aBarred B W n D.1 r (D.1 r 4 + 1) j) → zW (d + 3) kX12_strike 51 [.ref 131, .int (nI r), .int x, .int y, .int s] [] σ Q) :
    ∀ (m : Nat) (s : Int32), (k - s.toInt).toNat = m → D.1 r 5 ≤ s.toInt → s.toInt ≤ k → (∀ j : Int, D.1 r 5 ≤ j → j < s.toInt → ¬ aBarred B W n D.1 r (D.1 r 4 + 1) j) → zW (d + 3) kX12_strike 19 [.ref 131, .int (nI r), .int x, .int y, .int s] [] σ Q := by
  obtain ⟨hl, hn, c3, c4, c5, c6, c7, c8, c9⟩ := C
  have hB1 := c8.2.1
  have hB2 := c8.2.2.2.1
  have hLr := hL r hr
  intro m
  induction m with
  | zero =>
    intro s hm h1 h2 hno
    have es : s.toInt = k := by omega
    refine (bX12_strike_19 hl).mpr ?_
    rw [c5]
    refine m_bars hl c6 c7 c4 (by omega) (by omega) ⟨rfl, (bX12_strike_30 hl).mpr (zt0 (fun c => ?_) (fun c => ?_))⟩
    · exact h s h1 h2 (by rw [es]; exact hb) hno
    · refine m_whoIs hl hD.1 hn c3 (aLn_6 c8 hL) (fun v hv => ⟨rfl, (bX12_strike_41 hl).mpr (zeq' rfl km1 (fun e => ?_) (fun e => ?_))⟩)
      · exfalso
        rw [ex, es] at c
        rcases hb with q | q
        · exact c q
        · rcases hv with ⟨_, q2⟩ | ⟨j, hj, rfl, _⟩
          · rw [ai_n (by omega), ex, es] at q2
            exact q2 q
          · rw [ai_n (by omega)] at e; omega
      · exact h s h1 h2 (by rw [es]; exact hb) hno
  | succ m ih =>
    intro s hm h1 h2 hno
    refine (bX12_strike_19 hl).mpr ?_
    rw [c5]
    refine m_bars hl c6 c7 c4 (by omega) (by omega) ⟨rfl, (bX12_strike_30 hl).mpr (zt0 (fun c => ?_) (fun c => ?_))⟩
    · rw [ex] at c
      exact h s h1 h2 (Or.inl c) hno
    · rw [ex] at c
      refine m_whoIs hl hD.1 hn c3 (aLn_6 c8 hL) (fun v hv => ⟨rfl, (bX12_strike_41 hl).mpr (zeq' rfl km1 (fun e => ?_) (fun e => ?_))⟩)
      · have hno2 : ¬ aBarred B W n D.1 r (D.1 r 4 + 1) s.toInt := by
          rintro (q | q)
          · exact c q
          · rcases hv with ⟨_, q2⟩ | ⟨j, hj, rfl, _⟩
            · rw [ai_n (by omega), ex] at q2
              exact q2 q
            · rw [ai_n (by omega)] at e; omega
        clear hv
        have es : (s + 1).toInt = s.toInt + 1 := zadd rfl k1
        refine ih (s + 1) (by omega) (by omega) (by omega) (fun j hj1 hj2 => ?_)
        rw [es] at hj2
        rcases Int.lt_or_eq_of_le (show j ≤ s.toInt by omega) with h3 | h3
        · exact hno j hj1 h3
        · rw [h3]; exact hno2
      · refine h s h1 h2 (Or.inr ?_) hno
        rcases hv with ⟨q, _⟩ | ⟨j, hj, rfl, q⟩
        · exact absurd q e
        · rw [ai_n (by omega), ex] at q
          exact ⟨j, hj, q⟩
theorem m_strike {n bi r : Nat} {rec : Prop} {B : aBk} {W : aWx} {D : aD} (C : mCx σ n bi B W) (hD : mHas σ n rec D) (hr : r < n) (hL : aLn B D.1 n) (hx : 0 ≤ D.1 r 4 ∧ D.1 r 4 + 1 < B.2.2) (hst : aStop B W n D.1 r (D.1 r 4 + 1)) (h : ∀ σ', mHas σ' n rec (aStrike B W n D.1 r, D.2.1, D.2.2.1, D.2.2.2.1, aHit D.2.2.2.2 (D.1 r 4)) → zFr (mWg rec) σ σ' → Q none σ') : zCall (d + 5) kX12_strike [.ref 131, .int (nI r)] σ Q := by
  have C' := C
  obtain ⟨hl, hn, c3, c4, c5, c6, c7, c8, c9⟩ := C
  obtain ⟨k, hk1, hk2, hb⟩ := hst
  have hB1 := c8.2.1
  have hB2 := c8.2.2.2.1
  have hLr := hL r hr
  refine (bX12_strike_0 hl).mpr (m_of hl 4 hD.1 hn hr (by omega) (fun v4 hv4 => ⟨rfl, (bX12_strike_6 hl).mpr (m_of hl 5 hD.1 hn hr (by omega) (fun v5 hv5 => ⟨rfl, (bX12_strike_15 hl).mpr ?_⟩))⟩))
  have ex : (v4 + 1).toInt = D.1 r 4 + 1 := zadd hv4 k1
  refine m_strike_l C' hD hr hL hx ex hv5 ⟨hk1, hk2⟩ hb (fun s s1 s2 s3 s4 => ?_) _ v5 rfl (by omega) (by omega) (fun j j1 j2 => by omega)
  have tail : ∀ y2 : Int32, y2.toInt = zif (aUp B W n D.1 r (D.1 r 4 + 1)) (D.1 r 5 + 1) (D.1 r 5 - 1) → zW (d + 5) kX12_strike 77 [.ref 131, .int (nI r), .int (v4 + 1), .int v5, .int s] [.int y2, .int (nI r), .ref 131] σ Q := by
    intro y2 hy2
    have hy3 : -100 ≤ y2.toInt ∧ y2.toInt ≤ 100 := by
      rw [hy2]
      by_cases q : aUp B W n D.1 r (D.1 r 4 + 1)
      · rw [zif_t q]; omega
      · rw [zif_f q]; omega
    refine (bX12_strike_77 hl).mpr (m_aside C' hD hr hL ⟨hx.1, by omega⟩ hy3 (fun σ1 hD1 f1 => ⟨rfl, ?_⟩))
    rw [hy2] at hD1
    have C1 := mCx_fg f1 C'
    have hl1 := C1.1
    refine (bX12_strike_80 hl1).mpr (m_set hl1 6 (by omega) (by omega) ⟨rfl, ?_⟩)
    have f2 : zFr (mWg rec) σ (mS σ1 r 6 0) := f1.trans mS_fw
    have hD2 := mS_has hD1 (w := 6) hr (by omega) k0
    have hl2 := mS_lay (r := r) (w := 6) (v := 0) hl1
    refine (bX12_strike_88 hl2).mpr (m_of hl2 10 hD2.1 hn hr (by omega) (fun v10 hv10 => ⟨rfl, (bX12_strike_99 hl2).mpr (m_set hl2 10 (by omega) (by omega) ⟨rfl, ?_⟩)⟩))
    rw [show (((aU (aAside B W n D.1 r (zif (aUp B W n D.1 r (D.1 r 4 + 1)) (D.1 r 5 + 1) (D.1 r 5 - 1))) r 6 0, D.2) : aD).1 r 10) = D.1 r 10 from by
      show aU _ r 6 0 r 10 = _
      rw [aU_w (by decide), aAside_w (by decide)]] at hv10
    have f3 : zFr (mWg rec) σ (mS (mS σ1 r 6 0) r 10 (v10 + 1)) := f2.trans mS_fw
    have hD3 := mS_has hD2 (w := 10) (v := v10 + 1) hr (by omega) (aInc_of v10)
    rw [hv10] at hD3
    have hl3 := mS_lay (r := r) (w := 10) (v := v10 + 1) hl2
    generalize hS : mS (mS σ1 r 6 0) r 10 (v10 + 1) = σ3 at f3 hD3 hl3
    obtain ⟨d1, d2, d3, d4, d5⟩ := hD3
    refine (bX12_strike_104 hl3).mpr ?_
    rw [d4]
    have e4 : ((v4 + 1) - 1 : Int32).toInt = D.1 r 4 := by rw [zsub ex k1]; omega
    refine zt0 (fun c => ⟨zin' e4, zin' e4, h _ ⟨?_, ?_, ?_, ?_, fun _ x hx2 => ?_⟩ (f3.trans (zFr_U (Or.inl ⟨rfl, Or.inr (Or.inl ⟨rfl, c⟩)⟩)))⟩) (fun c => h _ ⟨d1, d2, d3, d4, fun q => absurd q c⟩ f3)
    · unfold mF; rw [zI_ne (by decide)]; exact d1
    · rw [zI_ne (by decide)]; exact d2
    · exact d3
    · rw [zI_ne (by decide)]; exact d4
    · rw [zI_self, zcn e4]
      show _ = aHit D.2.2.2.2 (D.1 r 4) x
      unfold aHit
      by_cases e : x = (D.1 r 4).toNat
      · rw [e, pk_us, if_pos rfl, aInc_of, d5 c _ (by omega)]
      · rw [pk_un e, if_neg e]
        exact d5 c x hx2
  refine (bX12_strike_51 hl).mpr (m_of hl 0 hD.1 hn hr (by omega) (fun v0 hv0 => ⟨rfl, (bX12_strike_65 hl).mpr ?_⟩))
  have e2 : (2 * (s - v5) : Int32).toInt = 2 * (s.toInt - D.1 r 5) := zmul k2 (zsub rfl hv5)
  refine zle' hv0 e2 (fun c => tail _ ?_) (fun c => tail _ ?_)
  · rw [zif_f, zsub hv5 k1]
    rintro ⟨j, j1, j2, j3⟩
    exact s4 j j1 (by omega) j3
  · rw [zif_t, zadd hv5 k1]
    exact ⟨s.toInt, s1, c, s3⟩
end MGO
