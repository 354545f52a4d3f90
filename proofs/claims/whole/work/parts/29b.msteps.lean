/-! the model's steps -/
section MGO
variable {d : Nat} {σ : zS} {Q : Option Value → zS → Prop}
theorem m_canfree {B : aBk} {W : aWx} {n : Nat} {F : aFn} {r : Nat} {x : Int} (h0 : 0 ≤ F r 5 ∧ F r 5 + F r 0 ≤ B.2.1) : (aCan B W (F r 0) x (F r 5) ∧ aFree n F r (F r 0) x (F r 5)) ↔ ¬ aStop B W n F r x := by
  constructor
  · rintro ⟨q1, q2⟩ ⟨k, k1, k2, k3 | k3⟩
    · exact q1.2.2 k k1 k2 k3
    · exact q2 k k1 k2 k3
  · intro q
    exact ⟨⟨h0.1, h0.2, fun k k1 k2 k3 => q ⟨k, k1, k2, Or.inl k3⟩⟩, fun k k1 k2 k3 => q ⟨k, k1, k2, Or.inr k3⟩⟩
theorem aCan_x {B : aBk} {W : aWx} {sz x y x' : Int} (e : x = x') : aCan B W sz x y ↔ aCan B W sz x' y := by rw [e]
theorem m_steps {n bi r : Nat} {rec : Prop} {B : aBk} {W : aWx} {ticks : Int} (hr : r < n) : ∀ (f : Nat) (σ : zS) (D : aD) (v2 : Value), mCx σ n bi B W → mHas σ n rec D → (zI σ 131 21).toInt = ticks → aLn B D.1 n → 0 ≤ D.1 r 4 → D.1 r 4 < B.2.2 → 0 ≤ D.1 r 2 → D.1 r 2 ≤ 9 → D.1 r 6 < 4 * f → D.1 r 6 ≤ 100 → 0 ≤ D.1 r 6 → 0 ≤ D.2.1 → D.2.1 ≤ 6 → v2.category = 1 →
    (∀ σ', mHas σ' n rec (aSteps B W n ticks r f D) → zFr (mWg rec) σ σ' → Q none σ') → zW (d + 6) kX12_go 78 [.ref 131, .int (nI r), v2] [] σ Q := by
  intro f
  induction f with
  | zero =>
    intro σ D v2 C hD ht hL h1 h2 h3 h4 h5 h5' h6 h7 h8 hc h
    omega
  | succ f ih =>
    intro σ D v2 C hD ht hL h1 h2 h3 h4 h5 h5' h6 h7 h8 hc h
    have C' := C
    obtain ⟨hl, hn, c3, c4, c5, c6, c7, c8, c9⟩ := C
    have hB1 := c8.2.1
    have hB2 := c8.2.2.2.1
    have hLr := hL r hr
    have ew : (zI σ 131 13).toInt = W.1 := by rw [← c7]; rfl
    have w1 := c9.1
    have w2 := c9.2.1
    have hyb : -100 ≤ (if 0 < W.1 then D.1 r 5 + 1 else D.1 r 5 - 1) ∧ (if 0 < W.1 then D.1 r 5 + 1 else D.1 r 5 - 1) ≤ 100 := by split <;> omega
    refine (bX12_go_78 hl hc).mpr (m_of hl 6 hD.1 hn hr (by omega) (fun v6 hv6 => ⟨rfl, (bX12_go_85 hl hc).mpr (zlt' hv6 k4 (fun e => ?_) (fun e => ?_))⟩))
    · have no : ¬ 9 ≤ D.1 r 2 * max W.1 (-W.1) → zW (d + 6) kX12_go 278 [.ref 131, .int (nI r), v2] [] σ Q := fun q => (bX12_go_278 hl hc).mpr (h σ (by unfold aSteps; rw [if_pos e, if_neg q]; exact hD) (zFr.refl _ _))
      have mb : 0 ≤ D.1 r 2 * max W.1 (-W.1) ∧ D.1 r 2 * max W.1 (-W.1) ≤ 9 * 3 := ⟨Int.mul_nonneg h3 (by omega), Int.mul_le_mul h4 (by omega) (by omega) (by omega)⟩
      refine zeq' ew k0 (fun e2 => no (by rw [e2]; simp)) (fun e2 => ?_)
      refine m_of hl 2 hD.1 hn hr (by omega) (fun u2 hu2 => ⟨rfl, (bX12_go_241 hl hc).mpr (zlt' (zmul hu2 (zabs ew) (by omega) (by omega)) k9 (fun e3 => no (by omega)) (fun e3 => ?_))⟩)
      refine m_of hl 5 hD.1 hn hr (by omega) (fun v5 hv5 => ⟨rfl, (bX12_go_262 hl hc).mpr ?_⟩)
      have fin : ∀ s : Int32, (v5 + s).toInt = (if 0 < W.1 then D.1 r 5 + 1 else D.1 r 5 - 1) → zW (d + 6) kX12_go 274 [.ref 131, .int (nI r), v2] [.int s, .int v5, .int (nI r), .ref 131] σ Q := by
        intro s hs
        refine (bX12_go_274 hl hc).mpr ?_
        refine m_aside (d := d + 1) C' hD hr hL ⟨h1, h2⟩ (by rw [hs]; exact hyb) (fun σ1 hD1 f1 => ⟨rfl, (bX12_go_278 (mCx_fg f1 C').1 hc).mpr (h σ1 ?_ f1)⟩)
        unfold aSteps
        rw [if_pos e, if_pos e3, ← hs]
        exact hD1
      refine zle' ew k0 (fun e4 => fin _ ?_) (fun e4 => fin _ ?_)
      · rw [if_neg (by omega), zadd hv5 km1]
        exact Int.sub_eq_add_neg.symm
      · rw [if_pos (by omega), zadd hv5 k1]
    · refine m_of hl 6 hD.1 hn hr (by omega) (fun u6 hu6 => ⟨rfl, (bX12_go_100 hl hc).mpr (m_set hl 6 (by omega) (by omega) ⟨rfl, ?_⟩)⟩)
      have hD1 := mS_has hD (w := 6) (v := u6 - 4) hr (by omega) (zsub hu6 k4)
      have f1 : zFr (mWg rec) σ (mS σ r 6 (u6 - 4)) := mS_fw
      have C1 := mCx_fg f1 C'
      have ht1 : (zI (mS σ r 6 (u6 - 4)) 131 21).toInt = ticks := by unfold mS; rw [zI_ne (by decide)]; exact ht
      generalize mS σ r 6 (u6 - 4) = σ1 at hD1 f1 C1 ht1
      have C1' := C1
      obtain ⟨hl1, -, c31, -, c51, c61, c71, -, -⟩ := C1
      have g4 : aU D.1 r 6 (D.1 r 6 - 4) r 4 = D.1 r 4 := aU_w (by decide)
      have g5 : aU D.1 r 6 (D.1 r 6 - 4) r 5 = D.1 r 5 := aU_w (by decide)
      have g0 : aU D.1 r 6 (D.1 r 6 - 4) r 0 = D.1 r 0 := aU_w (by decide)
      have hL1 : aLn B (aU D.1 r 6 (D.1 r 6 - 4)) n := aLn_u hL (by decide) (by decide)
      refine (bX12_go_105 hl1 hc).mpr (m_of hl1 4 hD1.1 hn hr (by omega) (fun v4 hv4 => ⟨rfl, (bX12_go_111 hl1 hc).mpr ?_⟩))
      replace hv4 : v4.toInt = D.1 r 4 := hv4.trans g4
      have ex : (v4 + 1).toInt = D.1 r 4 + 1 := zadd hv4 k1
      have ewd : (zI σ1 135 bi).toInt = B.2.2 := by rw [← c61]; rfl
      rw [c51]
      refine ⟨vp_in_nI c4 (by decide), ?_⟩
      rw [nI_clamp (by omega)]
      refine zeq' ex ewd (fun e2 => ?_) (fun e2 => ?_)
      · refine m_set hl1 4 (by omega) (by omega) ⟨rfl, ?_⟩
        have hD2 := mS_has hD1 (w := 4) hr (by omega) ex
        have hl2 := mS_lay (r := r) (w := 4) (v := v4 + 1) hl1
        refine (bX12_go_134 hl2).mpr (m_set hl2 7 (by omega) (by omega) ⟨rfl, ?_⟩)
        have ht2 : (zI (mS σ1 r 4 (v4 + 1)) 131 21).toInt = ticks := by unfold mS; rw [zI_ne (by decide)]; exact ht1
        have hD3 := mS_has hD2 (w := 7) hr (by omega) ht2
        have f3 := f1.trans ((mS_fw (rec := rec) (r := r) (w := 4) (v := v4 + 1)).trans (mS_fw (rec := rec) (r := r) (w := 7) (v := (zI (mS σ1 r 4 (v4 + 1)) 131 21))))
        have hl3 := mS_lay (r := r) (w := 7) (v := (zI (mS σ1 r 4 (v4 + 1)) 131 21)) hl2
        generalize mS (mS σ1 r 4 (v4 + 1)) r 7 (zI (mS σ1 r 4 (v4 + 1)) 131 21) = σ3 at f3 hl3 hD3
        refine (bX12_go_145 hl3).mpr (m_set hl3 8 (by omega) (by omega) ⟨rfl, ?_⟩)
        have hD4 := mS_has hD3 (w := 8) hr (by omega) hD3.2.1
        have hl4 := mS_lay (r := r) (w := 8) (v := zI σ3 131 22) hl3
        have f4 := f3.trans (mS_fw (rec := rec) (r := r) (w := 8) (v := zI σ3 131 22))
        generalize mS σ3 r 8 (zI σ3 131 22) = σ4 at f4 hl4 hD4
        obtain ⟨d1, d2, d3, d4, d5⟩ := hD4
        have hS : ∀ σ', mHas σ' n rec (aU (aU (aU (aU D.1 r 6 (D.1 r 6 - 4)) r 4 (D.1 r 4 + 1)) r 7 ticks) r 8 D.2.1, D.2.1 + 1, D.2.2) → zFr (mWg rec) σ σ' → Q none σ' := fun σ' q1 q2 => h σ' (by unfold aSteps; rw [if_neg (by omega), if_pos e2]; exact q1) q2
        refine (bX12_go_156 hl4).mpr (hS _ ⟨?_, ?_, ?_, ?_, ?_⟩ (f4.trans (zFr_U (Or.inl ⟨rfl, Or.inr (Or.inr ⟨rfl, rfl⟩)⟩))))
        · unfold mF; rw [zI_ne (by decide)]; exact d1
        · rw [zI_self, pk_us]; exact zadd d2 k1 (by show -2147483648 ≤ D.2.1 + 1; omega) (by show D.2.1 + 1 < 2147483648; omega)
        · exact d3
        · rw [zI_self, pk_un (by decide)]; exact d4
        · intro q x hx; rw [zI_ne (by decide)]; exact d5 q x hx
      · have st : aStop B W n (aU D.1 r 6 (D.1 r 6 - 4)) r (D.1 r 4 + 1) → zW (d + 6) kX12_go 212 [.ref 131, .int (nI r), .int (v4 + 1)] [] σ1 Q := by
          intro q
          refine (bX12_go_212 hl1).mpr (m_strike C1' hD1 hr hL1 (by simp only [g4]; omega) (by simp only [g4]; exact q) (fun σ2 hD2 f2 => ⟨rfl, (bX12_go_217 (mCx_fg f2 C1').1).mpr (h _ ?_ (f1.trans f2))⟩))
          unfold aSteps
          rw [if_neg (by omega), if_neg e2, zif_t]
          · simp only [g4] at hD2; exact hD2
          · obtain ⟨k, k1, k2, k3⟩ := q
            rw [g5] at k1 k2
            rw [g0] at k2
            refine ⟨k, k1, k2, ?_⟩
            rcases k3 with k3 | k3
            · exact Or.inl k3
            · exact Or.inr ((aOcc_u (by decide)).mp k3)
        refine m_of hl1 0 hD1.1 hn hr (by omega) (fun v0 hv0 => ⟨rfl, (bX12_go_178 hl1).mpr (m_of hl1 5 hD1.1 hn hr (by omega) (fun v5 hv5 => ⟨rfl, (bX12_go_185 hl1).mpr ?_⟩))⟩)
        replace hv0 : v0.toInt = D.1 r 0 := hv0.trans g0
        replace hv5 : v5.toInt = D.1 r 5 := hv5.trans g5
        have cf := m_canfree (B := B) (W := W) (n := n) (F := aU D.1 r 6 (D.1 r 6 - 4)) (r := r) (x := D.1 r 4 + 1) (by rw [g5, g0]; omega)
        rw [g0, g5] at cf
        refine m_canLie hl1 c61 c71 c8 c4 (by omega) (by omega) ⟨rfl, (bX12_go_188 hl1).mpr (zt0 (fun c => ?_) (fun c => st (Classical.not_not.mp (fun q => c (by rw [hv0, hv5, ex]; exact (cf.mpr q).1))))) ⟩
        refine m_of hl1 0 hD1.1 hn hr (by omega) (fun u0 hu0 => ⟨rfl, (bX12_go_199 hl1).mpr (m_of hl1 5 hD1.1 hn hr (by omega) (fun u5 hu5 => ⟨rfl, (bX12_go_206 hl1).mpr ?_⟩))⟩)
        replace hu0 : u0.toInt = D.1 r 0 := hu0.trans g0
        replace hu5 : u5.toInt = D.1 r 5 := hu5.trans g5
        refine m_isFree hl1 hD1.1 hn c31 (aLn_6 c8 hL1) (by omega) (by omega) ⟨rfl, (bX12_go_209 hl1).mpr (zt0 (fun c2 => ?_) (fun c2 => st (Classical.not_not.mp (fun q => c2 (by rw [hu0, hu5, ex, ai_n (by omega)]; exact (cf.mpr q).2)))))⟩
        rw [hv0, hv5, ex] at c
        rw [hu0, hu5, ex, ai_n (by omega)] at c2
        have ns := cf.mp ⟨c, c2⟩
        refine m_set hl1 4 (by omega) (by omega) ⟨rfl, (bX12_go_225 (mS_lay hl1)).mpr ?_⟩
        have hD2 := mS_has hD1 (w := 4) hr (by omega) ex
        have f2 : zFr (mWg rec) σ (mS σ1 r 4 (v4 + 1)) := f1.trans mS_fw
        have C2 := mCx_fg f2 C'
        have ht2 : (zI (mS σ1 r 4 (v4 + 1)) 131 21).toInt = ticks := by unfold mS; rw [zI_ne (by decide)]; exact ht1
        have j4 : aU (aU D.1 r 6 (D.1 r 6 - 4)) r 4 (D.1 r 4 + 1) r 4 = D.1 r 4 + 1 := aU_s
        have j2 : aU (aU D.1 r 6 (D.1 r 6 - 4)) r 4 (D.1 r 4 + 1) r 2 = D.1 r 2 := by rw [aU_w (by decide), aU_w (by decide)]
        have j6 : aU (aU D.1 r 6 (D.1 r 6 - 4)) r 4 (D.1 r 4 + 1) r 6 = D.1 r 6 - 4 := by rw [aU_w (by decide), aU_s]
        refine ih _ _ _ C2 hD2 ht2 (aLn_u hL1 (by decide) (by decide)) (by show 0 ≤ aU _ _ _ _ _ _; rw [j4]; omega) (by show aU _ _ _ _ _ _ < _; rw [j4]; omega) (by show 0 ≤ aU _ _ _ _ _ _; rw [j2]; omega) (by show aU _ _ _ _ _ _ ≤ _; rw [j2]; omega) (by show aU _ _ _ _ _ _ < _; rw [j6]; omega) (by show aU _ _ _ _ _ _ ≤ _; rw [j6]; omega) (by show 0 ≤ aU _ _ _ _ _ _; rw [j6]; omega) h7 h8 (zcat_i _) (fun σ' q1 q2 => h σ' ?_ (f2.trans q2))
        unfold aSteps
        rw [if_neg (by omega), if_neg e2, zif_f]
        · exact q1
        · rintro ⟨k, k1, k2, k3⟩
          refine ns ⟨k, by rw [g5]; exact k1, by rw [g5, g0]; exact k2, ?_⟩
          rcases k3 with k3 | k3
          · exact Or.inl k3
          · exact Or.inr ((aOcc_u (by decide)).mpr k3)
end MGO
