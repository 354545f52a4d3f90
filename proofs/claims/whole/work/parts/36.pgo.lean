/-! the class's turn of a runner -/
section PGO
variable {d : Nat} {Q : Option Value → zS → Prop}
theorem p_steps {t n r : Nat} {B : aBk} {W : aWx} {w : Nat} {ticks : Int} (hr : r < n) : ∀ (f : Nat) (j : Nat) (σ : zS) (D : aD) (v4 : Value), pCx σ t n B W w → pHas σ t n D → (zI σ t 5).toInt = ticks → aLn B D.1 n → (∀ o, o < n → (D.1 o 7 = -1 ↔ D.1 o 8 = -1)) → 0 ≤ D.1 r 4 → D.1 r 4 < B.2.2 → 0 ≤ D.1 r 2 → D.1 r 2 ≤ 9 → D.1 r 6 < 4 * f → D.1 r 6 ≤ 100 → 0 ≤ D.1 r 6 → 0 ≤ D.2.1 → D.2.1 ≤ 6 → v4.category = 1 → j + f ≤ 16 →
    (∀ σ', pHas σ' t n (aSteps B W n ticks r f D) → zFr (pWg t) σ σ' → Q none σ') → zW (d + 3) kX2_move 80 [.ref t, .ref (t + 8 + 2 * r), .ref w, .int (nI j), v4] [] σ Q := by
  intro f
  induction f with
  | zero =>
    intro j σ D v4 C hD ht hL ho h1 h2 h3 h4 h5 h5' h6 h7 h8 hc hj h
    omega
  | succ f ih =>
    intro j σ D v4 C hD ht hL ho h1 h2 h3 h4 h5 h5' h6 h7 h8 hc hj h
    have C' := C
    obtain ⟨c1, c2, c3, c4, c5, ⟨b, c6, c7⟩, c8, ⟨ew0, ew1, ew2⟩, c10, c11⟩ := C
    obtain ⟨st, hs, ks⟩ := c8 r hr
    have hkr := zf_racer c2 (show r < 6 by omega)
    have hB1 := c10.2.1
    have hB2 := c10.2.2.2.1
    have hLr := hL r hr
    have w1 := c11.1
    have w2 := c11.2.1
    have e6 := pF_6 hD.1 hr
    have e4 := pF_4 hD.1 hr
    have e5 := pF_5 hD.1 hr
    have es2 : (zI σ st 2).toInt = D.1 r 2 := by rw [← hD.1, pF_s hr (by omega) hs]
    refine (bX2_move_80 c1 c2 hkr c3 hc).mpr (zle' k16 (ai_n (by omega)) (fun q => by omega) (fun _ => zlt' e6 k4 (fun e => ?_) (fun e => ?_)))
    · rw [hs]
      have no : ¬ 9 ≤ D.1 r 2 * max W.1 (-W.1) → zW (d + 3) kX2_move 253 [.ref t, .ref (t + 8 + 2 * r), .ref w, .int (nI j), v4] [] σ Q := fun q => (bX2_move_253 c1 c2 hkr c3 hc).mpr (h σ (by unfold aSteps; rw [if_pos e, if_neg q]; exact hD) (zFr.refl _ _))
      have mb : 0 ≤ D.1 r 2 * max W.1 (-W.1) ∧ D.1 r 2 * max W.1 (-W.1) ≤ 9 * 3 := ⟨Int.mul_nonneg h3 (by omega), Int.mul_le_mul h4 (by omega) (by omega) (by omega)⟩
      have st216 : ∀ x : Int32, x.toInt = max W.1 (-W.1) → zW (d + 3) kX2_move 216 [.ref t, .ref (t + 8 + 2 * r), .ref w, .int (nI j), v4] [.int x, .int (zI σ st 2)] σ Q := by
        intro x hx
        refine (bX2_move_216 c1 c2 hkr c3 hc).mpr (zlt' (zmul es2 hx (by omega) (by omega)) k9 (fun e3 => no (by omega)) (fun e3 => ?_))
        have fin : ∀ s : Int32, s.toInt = (if 0 < W.1 then D.1 r 5 + 1 else D.1 r 5 - 1) → zW (d + 3) kX2_move 246 [.ref t, .ref (t + 8 + 2 * r), .ref w, .int (nI j), v4] [.int s, .ref (t + 8 + 2 * r), .ref t] σ Q := by
          intro s hs2
          refine (bX2_move_246 c1 c2 hkr c3 hc).mpr (p_aside C' hD hr hL ho ⟨h1, h2⟩ ew1 (fun σ1 hD1 f1 => ⟨rfl, (bX2_move_253 (pCx_fg f1 C').1 c2 hkr c3 hc).mpr (h σ1 ?_ f1)⟩))
          unfold aSteps
          rw [if_pos e, if_pos e3, ← hs2]
          exact hD1
        refine zle' ew0 k0 (fun q => fin _ ?_) (fun q => fin _ ?_)
        · rw [if_neg (by omega), zsub e5 k1]
        · rw [if_pos (by omega), zadd e5 k1]
      refine (bX2_move_194 c1 c2 hkr c3 hc ks).mpr (zle' k0 ew0 (fun q => st216 _ ?_) (fun q => st216 _ ?_))
      · rw [ew0]; omega
      · rw [zneg ew0]; omega
    · have hD1 := pS_has c2 c4 c8 hD (w := 6) (v := zI σ (t + 8 + 2 * r) 4 - 4) hr (by omega) (by omega) (zsub e6 k4)
      have f1 : zFr (pWg t) σ (pS σ t r 6 (zI σ (t + 8 + 2 * r) 4 - 4)) := pS_fr c2 (by omega) (by omega)
      have C1 := pCx_fg f1 C'
      have ht1 : (zI (pS σ t r 6 (zI σ (t + 8 + 2 * r) 4 - 4)) t 5).toInt = ticks := by unfold pS; rw [zI_ne (by omega)]; exact ht
      have gx : zI (pS σ t r 6 (zI σ (t + 8 + 2 * r) 4 - 4)) (t + 8 + 2 * r) 2 = zI σ (t + 8 + 2 * r) 2 := by unfold pS; rw [zI_self, pk_un (by decide)]
      have eR : zR (pS σ t r 6 (zI σ (t + 8 + 2 * r) 4 - 4)) = zR σ := rfl
      show zW (d + 3) kX2_move 114 [.ref t, .ref (t + 8 + 2 * r), .ref w, .int (nI j), v4] (va_rf ((zR σ t) 3) :: [.int ((zI σ (t + 8 + 2 * r) 2) + 1)]) (pS σ t r 6 (zI σ (t + 8 + 2 * r) 4 - 4)) Q
      rw [c6]
      generalize pS σ t r 6 (zI σ (t + 8 + 2 * r) 4 - 4) = σ1 at hD1 f1 C1 ht1 gx eR ⊢
      have C1' := C1
      obtain ⟨l1, -, -, -, -, ⟨b1, c61, c71⟩, c81, ⟨-, ew11, -⟩, -, -⟩ := C1
      have eb : b1 = b := by rw [eR, c6] at c61; exact (Option.some.inj c61).symm
      subst eb
      have g : ∀ w, w ≠ 6 → aU D.1 r 6 (D.1 r 6 - 4) r w = D.1 r w := fun w q => aU_w q
      have hL1 : aLn B (aU D.1 r 6 (D.1 r 6 - 4)) n := aLn_u hL (by decide) (by decide)
      have ho1 : ∀ o, o < n → ((aU D.1 r 6 (D.1 r 6 - 4), D.2).1 o 7 = -1 ↔ (aU D.1 r 6 (D.1 r 6 - 4), D.2).1 o 8 = -1) := fun o q => by
        show aU _ _ _ _ o 7 = -1 ↔ aU _ _ _ _ o 8 = -1
        rw [aU_w (by decide), aU_w (by decide)]
        exact ho o q
      have ex : (zI σ (t + 8 + 2 * r) 2 + 1).toInt = D.1 r 4 + 1 := zadd e4 k1
      refine (bX2_move_114 l1 c2 hkr c3 hc c71.1).mpr (zlt' ex c71.2.2.1 (fun e2 => ?_) (fun e2 => ?_))
      · have e2' : ¬ D.1 r 4 + 1 = B.2.2 := by omega
        rw [gx]
        refine p_barred C1' hD1.1 hr hL1 ho1 (by omega) ew11 (fun v hv => ⟨rfl, (bX2_move_141 l1 c2 hkr c3 hc).mpr (p_lanes C1' hD1.1 hr hL1 (fun u hu => ⟨rfl, (bX2_move_145 l1 c2 hkr c3 hc).mpr ?_⟩))⟩)
        rw [ex] at hv
        have hu' : ∀ k : Nat, k < 32 → (bt u k = true ↔ D.1 r 5 ≤ k ∧ (k : Int) < D.1 r 5 + D.1 r 0) := fun k hk => by
          have := hu k hk
          simp only [g 5 (by decide), g 0 (by decide)] at this
          exact this
        have hvu : ∀ k : Nat, k < 32 → (bt (v &&& u) k = true ↔ D.1 r 5 ≤ k ∧ (k : Int) < D.1 r 5 + D.1 r 0 ∧ aBarred B W n (aU D.1 r 6 (D.1 r 6 - 4)) r (D.1 r 4 + 1) k) := fun k hk => by
          rw [b_and, Bool.and_eq_true, hv k hk, hu' k hk]
          unfold aBarred
          constructor
          · rintro ⟨q1, q2, q3⟩
            refine ⟨q2, q3, ?_⟩
            rcases q1 with q1 | q1
            · exact Or.inl q1.2.2
            · exact Or.inr q1
          · rintro ⟨q2, q3, q1⟩
            refine ⟨?_, q2, q3⟩
            rcases q1 with q1 | q1
            · exact Or.inl ⟨by omega, by omega, q1⟩
            · exact Or.inr q1
        have hstop : v &&& u = 0 ↔ ¬ aStop B W n D.1 r (D.1 r 4 + 1) := by
          constructor
          · rintro q ⟨k, k1, k2, k3⟩
            have e : ((k.toNat : Nat) : Int) = k := by omega
            have z := (hvu k.toNat (by omega)).mpr (by
              rw [e]
              refine ⟨k1, k2, ?_⟩
              rcases k3 with k3 | k3
              · exact Or.inl k3
              · exact Or.inr ((aOcc_u (by decide)).mpr k3))
            rw [q, b_0] at z
            exact absurd z (by decide)
          · intro q
            refine b_ext (fun i hi => ?_)
            rw [b_0]
            cases e : bt (v &&& u) i
            · rfl
            · obtain ⟨z1, z2, z3⟩ := (hvu i hi).mp e
              refine absurd ⟨i, z1, z2, ?_⟩ q
              rcases z3 with z3 | z3
              · exact Or.inl z3
              · exact Or.inr ((aOcc_u (by decide)).mp z3)
        refine zti (fun q => ?_) (fun q => ?_)
        · have ns := hstop.mp q
          rw [nI_1]
          have hD2 := pS_has c2 c4 c81 hD1 (w := 4) (v := zI σ1 (t + 8 + 2 * r) 2 + 1) hr (by omega) (by omega) (show _ = D.1 r 4 + 1 by rw [gx]; exact ex)
          have f2 : zFr (pWg t) σ (pS σ1 t r 4 (zI σ1 (t + 8 + 2 * r) 2 + 1)) := f1.trans (pS_fr c2 (by omega) (by omega))
          have ht2 : (zI (pS σ1 t r 4 (zI σ1 (t + 8 + 2 * r) 2 + 1)) t 5).toInt = ticks := by unfold pS; rw [zI_ne (by omega)]; exact ht1
          have j4 : aU (aU D.1 r 6 (D.1 r 6 - 4)) r 4 (D.1 r 4 + 1) r 4 = D.1 r 4 + 1 := aU_s
          have j2 : aU (aU D.1 r 6 (D.1 r 6 - 4)) r 4 (D.1 r 4 + 1) r 2 = D.1 r 2 := by rw [aU_w (by decide), aU_w (by decide)]
          have j6 : aU (aU D.1 r 6 (D.1 r 6 - 4)) r 4 (D.1 r 4 + 1) r 6 = D.1 r 6 - 4 := by rw [aU_w (by decide), aU_s]
          refine ih (j + 1) _ _ _ (pCx_fg f2 C') hD2 ht2 (aLn_u hL1 (by decide) (by decide)) (fun o q => ?_) (by show 0 ≤ aU _ _ _ _ _ _; rw [j4]; omega) (by show aU _ _ _ _ _ _ < _; rw [j4]; omega) (by show 0 ≤ aU _ _ _ _ _ _; rw [j2]; omega) (by show aU _ _ _ _ _ _ ≤ _; rw [j2]; omega) (by show aU _ _ _ _ _ _ < _; rw [j6]; omega) (by show aU _ _ _ _ _ _ ≤ _; rw [j6]; omega) (by show 0 ≤ aU _ _ _ _ _ _; rw [j6]; omega) h7 h8 (zcat_i _) (by omega) (fun σ' q1 q2 => h σ' ?_ (f2.trans q2))
          · show aU _ _ _ _ o 7 = -1 ↔ aU _ _ _ _ o 8 = -1
            rw [aU_w (by decide), aU_w (by decide)]
            exact ho1 o q
          · unfold aSteps
            rw [if_neg (by omega), if_neg e2', zif_f ns]
            exact q1
        · have ys := Classical.not_not.mp (fun z => q (hstop.mpr z))
          refine p_strike C1' hD1 hr (by simp only [g 4 (by decide)]; omega) (fun σ2 hD2 f2 => ⟨rfl, ?_⟩)
          have C2 := pCx_fg f2 C1'
          have C2' := C2
          obtain ⟨l2, -, -, -, -, -, -, ⟨-, ew12, -⟩, -, -⟩ := C2
          simp only [g 4 (by decide)] at hD2
          have k2' : ∀ o w, w ≠ 6 → w ≠ 10 → aU (aU (aU D.1 r 6 (D.1 r 6 - 4)) r 6 0) r 10 (aInc (aU D.1 r 6 (D.1 r 6 - 4) r 10)) o w = D.1 o w := fun o w z1 z2 => by rw [aU_w z2, aU_w z1, aU_w z1]
          have hL2 : aLn B (aU (aU (aU D.1 r 6 (D.1 r 6 - 4)) r 6 0) r 10 (aInc (aU D.1 r 6 (D.1 r 6 - 4) r 10))) n := aLn_u (aLn_u hL1 (by decide) (by decide)) (by decide) (by decide)
          refine (bX2_move_158 l2 c2 hkr c3).mpr (p_away C2' hD2.1 hr hL2 (m := v &&& u) (fun k => aBarred B W n (aU D.1 r 6 (D.1 r 6 - 4)) r (D.1 r 4 + 1) k) (fun k hk => ?_) q (fun y hy => ⟨rfl, ?_⟩))
          · show _ ↔ aU _ _ _ _ r 5 ≤ _ ∧ _ < aU _ _ _ _ r 5 + aU _ _ _ _ r 0 ∧ _
            rw [k2' r 5 (by decide) (by decide), k2' r 0 (by decide) (by decide)]
            exact hvu k hk
          · refine (bX2_move_166 l2 c2 hkr c3).mpr (p_aside C2' hD2 hr hL2 (fun o z => ?_) ?_ ew12 (fun σ3 hD3 f3 => ⟨rfl, (bX2_move_173 (pCx_fg f3 C2').1 c2 hkr c3).mpr (h σ3 ?_ (f1.trans (f2.trans f3)))⟩))
            · show aU _ _ _ _ o 7 = -1 ↔ aU _ _ _ _ o 8 = -1
              rw [k2' o 7 (by decide) (by decide), k2' o 8 (by decide) (by decide)]
              exact ho o z
            · show 0 ≤ aU _ _ _ _ r 4 ∧ aU _ _ _ _ r 4 < _
              rw [k2' r 4 (by decide) (by decide)]
              exact ⟨h1, h2⟩
            · have hy' : y.toInt = zif (aUp B W n (aU D.1 r 6 (D.1 r 6 - 4)) r (aU D.1 r 6 (D.1 r 6 - 4) r 4 + 1)) (aU D.1 r 6 (D.1 r 6 - 4) r 5 + 1) (aU D.1 r 6 (D.1 r 6 - 4) r 5 - 1) := by
                have hy2 := hy
                simp only [k2' r 5 (by decide) (by decide), k2' r 0 (by decide) (by decide)] at hy2
                rw [g 4 (by decide), g 5 (by decide)]
                unfold aUp
                rw [g 5 (by decide), g 0 (by decide)]
                exact hy2
              unfold aSteps
              rw [if_neg (by omega), if_neg e2', zif_t ys]
              unfold aStrike
              rw [← hy', ← aAside_u (by decide), ← aAside_u (by decide)]
              exact hD3
      · have e2' : D.1 r 4 + 1 = B.2.2 := by omega
        refine p_leave C1' hD1 ht1 hr (by simp only [g 4 (by decide)]; exact e2') ⟨h7, h8⟩ (fun σ2 hD2 f2 => ⟨rfl, (bX2_move_125 (pCx_fg f2 C1').1 c2 hkr c3 hc).mpr (h σ2 ?_ (f1.trans f2))⟩)
        simp only [g 4 (by decide)] at hD2
        unfold aSteps
        rw [if_neg (by omega), if_pos e2']
        exact hD2
theorem p_draw {t n : Nat} {B : aBk} {W : aWx} {w : Nat} {D : aD} {σ : zS} (C : pCx σ t n B W w) (hD : pHas σ t n D) (h : ∀ (v : Int32) (σ1 : zS), v = aDie (aNext D.2.2.1) → pHas σ1 t n (D.1, D.2.1, aNext D.2.2.1, True, D.2.2.2.2) → zFr (pWg t) σ σ1 → zI σ1 t 5 = zI σ t 5 → Q (some (.int v)) σ1) : zCall d kX2_drawOfTen [.ref t] σ Q := by
  obtain ⟨c1, c2, c3, c4, c5, c6, c8, c9, c10, c11⟩ := C
  obtain ⟨d1, d2, d3, d4, d5⟩ := hD
  refine (bX2_drawOfTen_0 c1 c2).mpr ⟨by decide, ?_⟩
  rw [aNext_eq, aDie_eq, d3]
  have f : zFr (pWg t) σ (zsI (zsL σ t (vp_updL (zL σ t) 7 (aNext D.2.2.1))) t (upd (zI σ t) 8 1)) := (zFr_L (Or.inr ⟨rfl, rfl, rfl⟩)).trans (zFr_U (σ := zsL σ t (vp_updL (zL σ t) 7 (aNext D.2.2.1))) (Or.inl ⟨rfl, Or.inl ⟨rfl, Or.inr rfl⟩⟩))
  refine h _ _ rfl ⟨?_, ?_, ?_, ?_, fun x hx => ?_⟩ f ?_
  · rw [← d1]
    funext r' w'
    unfold pF
    by_cases q : r' < n ∧ w' < 11
    · rw [if_pos q, if_pos q]
      by_cases q3 : w' < 3
      · rw [if_pos q3, if_pos q3]
        obtain ⟨s, hs, ks⟩ := c8 r' q.1
        show (zI (zsI _ t _) ((zR σ (t + 8 + 2 * r') 0).getD 0) w').toInt = _
        rw [hs]
        show (zI (zsI _ t _) s w').toInt = (zI σ s w').toInt
        rw [zI_ne (fun e => by rw [e] at ks; omega)]
        rfl
      · rw [if_neg q3, if_neg q3, zI_ne (by omega)]
        rfl
    · rw [if_neg q, if_neg q]
  · rw [zI_self, pk_un (by decide)]; exact d2
  · show zL (zsL σ t _) t 7 = _
    rw [zL_self, pk_uLs]
  · rw [zI_self, pk_us]
    exact (zb_t trivial).symm
  · rw [zI_ne (by omega)]; exact d5 x hx
  · rw [zI_self, pk_un (by decide)]
theorem p_mv {t n r : Nat} {B : aBk} {W : aWx} {w : Nat} {D : aD} {ticks : Int} {σ : zS} (C : pCx σ t n B W w) (hD : pHas σ t n D) (ht : (zI σ t 5).toInt = ticks) (hr : r < n) (hok : ∀ o, o < n → aFok B D.1 o) (ho : D.1 r 7 = -1) (hu : 0 ≤ D.2.1 ∧ D.2.1 ≤ 6) (h : ∀ σ', pHas σ' t n (aMove B W n ticks r D) → zFr (pWg t) σ σ' → Q none σ') : zW (d + 3) kX2_move 46 [.ref t, .ref (t + 8 + 2 * r), .ref w, .retAddr 0, .retAddr 0] [] σ Q := by
  have C' := C
  obtain ⟨c1, c2, c3, c4, c5, c6, c8, ⟨ew0, ew1, ew2⟩, c10, c11⟩ := C
  have hkr := zf_racer c2 (show r < 6 by omega)
  have hor := hok r hr
  obtain ⟨⟨o1, o2, o3, o4, o5, o6, o7, o8⟩, p1, p2, p3, p4, p5, p6, p7, p8, -⟩ := hor
  have hL : aLn B D.1 n := fun o q => ⟨(hok o q).1.1, (hok o q).1.2.1, (hok o q).2.1, (hok o q).2.2.1⟩
  have hoo : ∀ o, o < n → (D.1 o 7 = -1 ↔ D.1 o 8 = -1) := fun o q => (hok o q).2.2.2.2.2.2.2.2.1
  have hx4 : D.1 r 4 < B.2.2 := p5 ho
  replace p7 := p7 ho
  have pb := aPull_b (r := r) c10 c11 hr hL ⟨p3, hx4⟩
  have e6 := pF_6 hD.1 hr
  refine (bX2_move_46 c1 c2 hkr c3).mpr (p_pull C' hD.1 hr hL ⟨p3, hx4⟩ ⟨o3, o4⟩ ew1 (fun p hp => ⟨rfl, (bX2_move_60 c1 c2 hkr c3).mpr ?_⟩))
  refine p_wave (d := d + 1) C' hD.1 hr hL hoo (fun o q => ⟨(hok o q).2.2.2.1, (hok o q).2.2.2.2.1⟩) ⟨rfl, (bX2_move_65 c1 c2 hkr c3).mpr ?_⟩
  have fin : ∀ s : Int32, s.toInt = zif (aWave n D.1 r) 1 0 → zW (d + 3) kX2_move 80 [.ref t, .ref (t + 8 + 2 * r), .ref w, .int 0, .retAddr 0] [] (zsI σ (t + 8 + 2 * r) (upd (zI σ (t + 8 + 2 * r)) 4 (zI σ (t + 8 + 2 * r) 4 + (p + s)))) Q := by
    intro s hs
    have sb : 0 ≤ s.toInt ∧ s.toInt ≤ 1 := by
      rw [hs]
      by_cases q : aWave n D.1 r
      · rw [zif_t q]; omega
      · rw [zif_f q]; omega
    have es : (zI σ (t + 8 + 2 * r) 4 + (p + s)).toInt = D.1 r 6 + aPull B W D.1 r + zif (aWave n D.1 r) 1 0 := by
      rw [zadd e6 (zadd hp hs (by omega) (by omega)) (by omega) (by omega)]
      omega
    have hD1 := pS_has c2 c4 c8 hD (r := r) (w := 6) hr (by omega) (by omega) es
    have f1 : zFr (pWg t) σ (pS σ t r 6 (zI σ (t + 8 + 2 * r) 4 + (p + s))) := pS_fr c2 (by omega) (by omega)
    have g : ∀ w, w ≠ 6 → aU D.1 r 6 (D.1 r 6 + aPull B W D.1 r + zif (aWave n D.1 r) 1 0) r w = D.1 r w := fun w q => aU_w q
    refine p_steps hr 6 0 (pS σ t r 6 (zI σ (t + 8 + 2 * r) 4 + (p + s))) _ _ (pCx_fg f1 C') hD1 (by unfold pS; rw [zI_ne (by omega)]; exact ht) (aLn_u hL (by decide) (by decide)) (fun o q => ?_) (by show 0 ≤ aU _ _ _ _ _ _; rw [g 4 (by decide)]; exact p3) (by show aU _ _ _ _ _ _ < _; rw [g 4 (by decide)]; exact hx4) (by show 0 ≤ aU _ _ _ _ _ _; rw [g 2 (by decide)]; exact o5) (by show aU _ _ _ _ _ _ ≤ _; rw [g 2 (by decide)]; exact o6) (by show aU _ _ _ _ _ _ < _; rw [aU_s]; omega) (by show aU _ _ _ _ _ _ ≤ _; rw [aU_s]; omega) (by show 0 ≤ aU _ _ _ _ _ _; rw [aU_s]; omega) hu.1 hu.2 (zcat_r _) (by omega) (fun σ' q1 q2 => h σ' q1 (f1.trans q2))
    show aU _ _ _ _ o 7 = -1 ↔ aU _ _ _ _ o 8 = -1
    rw [aU_w (by decide), aU_w (by decide)]
    exact hoo o q
  refine zt0 (fun c => fin 1 ?_) (fun c => fin 0 ?_)
  · rw [zif_t c]; rfl
  · rw [zif_f c]; rfl
theorem p_move {t n r : Nat} {B : aBk} {W : aWx} {w : Nat} {D : aD} {ticks : Int} {σ : zS} (C : pCx σ t n B W w) (hD : pHas σ t n D) (ht : (zI σ t 5).toInt = ticks) (hr : r < n) (hok : ∀ o, o < n → aFok B D.1 o) (ho : D.1 r 7 = -1) (hu : 0 ≤ D.2.1 ∧ D.2.1 ≤ 6) (h : ∀ σ', pHas σ' t n (aGo B W n ticks r D) → zFr (pWg t) σ σ' → Q none σ') : zCall (d + 3) kX2_move [.ref t, .ref (t + 8 + 2 * r), .ref w] σ Q := by
  have C' := C
  obtain ⟨c1, c2, c3, c4, c5, ⟨b, c6, c7⟩, c8, ⟨ew0, ew1, ew2⟩, c10, c11⟩ := C
  have hkr := zf_racer c2 (show r < 6 by omega)
  have hor := hok r hr
  have hL : aLn B D.1 n := fun o q => ⟨(hok o q).1.1, (hok o q).1.2.1, (hok o q).2.1, (hok o q).2.2.1⟩
  have hLr := hL r hr
  have hx4 : D.1 r 4 < B.2.2 := hor.2.2.2.2.2.1 ho
  have hx0 : 0 ≤ D.1 r 4 := hor.2.2.2.1
  have hB1 := c10.2.1
  have hB2 := c10.2.2.2.1
  have e4 := pF_4 hD.1 hr
  unfold aGo at h
  refine (bX2_move_0 c1 c2 hkr c3).mpr ?_
  rw [c6]
  refine (bX2_move_4 c1 c2 hkr c3 c7.1).mpr (p_eddiesAt c1 c7 (by omega) (fun v hv => ⟨rfl, (bX2_move_11 c1 c2 hkr c3).mpr (p_lanes C' hD.1 hr hL (fun u hu2 => ⟨rfl, (bX2_move_15 c1 c2 hkr c3).mpr ?_⟩))⟩))
  rw [e4] at hv
  have he : v &&& u = 0 ↔ ¬ aEddy B D.1 r := by
    rw [p_and0]
    constructor
    · rintro q ⟨k, k1, k2⟩
      have e : (((D.1 r 5 + k).toNat : Nat) : Int) = D.1 r 5 + k := by omega
      refine q (D.1 r 5 + k).toNat (by omega) ?_
      rw [hv _ (by omega), hu2 _ (by omega), e]
      exact ⟨⟨by omega, hx4, k2⟩, by omega, by omega⟩
    · intro q k hk ⟨z1, z2⟩
      rw [hv _ hk] at z1
      rw [hu2 _ hk] at z2
      refine q ⟨(k - D.1 r 5).toNat, by omega, ?_⟩
      have e : (D.1 r 5 + (((k : Int) - D.1 r 5).toNat : Nat)).toNat = k := by omega
      rw [e]
      exact z1.2.2
  refine zti (fun q => ?_) (fun q => ?_)
  · rw [zif_f (he.mp q)] at h
    exact p_mv C' hD ht hr hok ho hu h
  · have c := Classical.not_not.mp (fun z => q (he.mpr z))
    rw [zif_t c] at h
    refine p_draw C' hD (fun die σ1 hdie hD1 f1 g => ⟨rfl, ?_⟩)
    generalize aDie (aNext D.2.2.1) = di at h hdie
    generalize aNext D.2.2.1 = nx at h hD1
    subst hdie
    have C1 := pCx_fg f1 C'
    have C1' := C1
    obtain ⟨l1, -, -, -, -, -, c81, ⟨-, -, ew21⟩, -, -⟩ := C1
    refine (bX2_move_23 l1 c2 hkr c3).mpr (zle' ew21 rfl (fun e => ?_) (fun e => ?_))
    · rw [if_neg (Int.not_lt.mpr e)] at h
      exact p_mv C1' hD1 (by rw [g]; exact ht) hr hok ho hu (fun σ' q1 q2 => h σ' q1 (f1.trans q2))
    · rw [if_pos e] at h
      rw [zsI_2]
      have e7 : (zI σ1 (t + 8 + 2 * r) 7).toInt = D.1 r 9 := by
        have z : pF σ1 t n r 9 = D.1 r 9 := by rw [hD1.1]
        rw [pF_w hr (by omega) (by omega)] at z
        exact z
      have h1 := pS_has c2 c4 c81 hD1 (r := r) (w := 6) hr (by omega) (by omega) k0
      have g1 : zFr (pWg t) σ1 (pS σ1 t r 6 0) := pS_fr c2 (by omega) (by omega)
      have h2 := pS_has (σ := pS σ1 t r 6 0) (v := zI σ1 (t + 8 + 2 * r) 7 + 1) c2 c4 c81 h1 (r := r) (w := 9) hr (by omega) (by omega) (aInc_of _)
      rw [e7] at h2
      exact h _ h2 (f1.trans (g1.trans (pS_fr (r := r) (w := 9) c2 (by omega) (by omega))))
end PGO
