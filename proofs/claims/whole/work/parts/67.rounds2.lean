/-! the verb rounds -/
section RNDE
variable {σ : zS} {nb ns : Nat}
theorem m_rounds {Q : Option Value → zS → Prop} {n b r N : Nat} {F : aFn} {B : aBk} {W : aWx} {x3 : Int32} {f : aFn → Int} (C : mCx σ n b B W) (hF : mF σ n = F) (h43 : zI σ 131 43 = 0) (hr : r < n) (hst : ∀ r, r < n → aFst B F r) (hN : N ≤ 40) (hf : (x3 = 2 ∧ f = fun _ => 1) ∨ (x3 = 0 ∧ f = fWin B W n N r) ∨ (¬ x3 = 2 ∧ ¬ x3 = 0 ∧ f = fPl B W n N r))
    (h : ∀ (v : Int32) (σ' : zS), v.toInt = aRd B W n F f n → zFr mWq σ σ' → Q (some (.int v)) σ') : zCall 12 kX12_keepRace [.ref 131] σ (fun r' σ' => zisN r' = true ∧ zW 13 kX12_rounds 38 [.ref 131, .int (nI r), .int (nI N), .int x3, .retAddr 0, .retAddr 0] (zRstk r' ++ []) σ' Q) := by
  refine m_keep C.1 (fun σ1 k1 f1 e139 e131 e31 => ⟨rfl, ?_⟩)
  have l1 : zLay σ1 := f1.lay C.1 (fun _ _ _ _ => mWq_2)
  have C1 : mCx σ1 n b B W := by
    obtain ⟨c1, c2, c3, c4, c5, c6, c7, c8, c9⟩ := C
    refine ⟨l1, c2, by rw [e131 20 (by omega)]; exact c3, c4, by rw [e131 19 (by omega)]; exact c5, ?_, ?_, c8, c9⟩
    · rw [mB_fr f1 b ⟨fun k => by unfold mWq; omega, fun k => by unfold mWq; omega, fun k => by unfold mWq; omega⟩]; exact c6
    · rw [mW_fr f1 ⟨by unfold mWq; omega, by unfold mWq; omega, by unfold mWq; omega⟩]; exact c7
  have hF1 : mF σ1 n = F := by rw [← hF]; unfold mF; rw [e139]
  refine (bX12_rounds_38 l1).mpr (m_starts_l (d := 12) n 0 σ1 (by omega) (by omega) C1 hF1 (fun r hr => by omega) (fun σ2 C2 hF2 s2 f2 => ?_))
  have f2y : zFr mWy σ1 σ2 := f2.mono (fun j c k q => by unfold mWy; omega)
  refine m_rounds_l (d := 3) hr hst hN hf C.2.2.2.2.2.2.2.1 C.2.2.2.2.2.2.2.2 n 0 σ2 0 (by omega) (by omega) C2 (fun r w _ _ => by rw [hF2]) s2 (by rw [f2.i (by omega), f1.i (by unfold mWq; omega)]; exact h43) rfl (fun v i σ3 hv l3 f3 => ?_)
  have f3y := f2y.trans (mWr_y f3)
  exact m_back l3 (mKept_y k1 f3y) ((mWq_x f1).trans (mWy_x f3y)) (fun σ4 f4 => ⟨rfl, (bX12_rounds_133 (f4.lay C.1 (fun _ _ _ _ => mWq_2))).mpr (h v σ4 hv f4)⟩)
theorem e_rounds (g : iA σ nb ns) (x y z : Int32) : eCall kX11_rounds kX12_rounds [.int x, .int y, .int z] [.int x, .int y, .int z] σ := by
  have no : ∀ {n : Nat}, n ≤ 6 → zI σ 131 20 = nI n → zI σ 12 4 = nI n → ¬ (0 ≤ x.toInt ∧ x.toInt < n) → eCall kX11_rounds kX12_rounds [.int x, .int y, .int z] [.int x, .int y, .int z] σ := by
    intro n h6 m20 p4 hx
    refine e_q g (-1) (fun Q h => (bX11_rounds_0 g.1).mpr (p_nr1 g.1 p4 h6 hx ⟨rfl, (bX11_rounds_5 g.1).mpr (zn (by decide) (h _ σ rfl (zFr.refl _ _)))⟩)) (fun σ1 σ2 Q l1 e2 g2 f2 h => ?_)
    refine (bX12_rounds_0 l1).mpr ?_
    rw [e2]
    exact m_ir0 g2.1 (by rw [f2.i (nS3 (by omega))]; exact m20) h6 hx ⟨rfl, (bX12_rounds_10 g2.1).mpr (zy rfl (h _ σ2 rfl (zFr.refl _ _)))⟩
  rcases g.race with ⟨n, b, T, -⟩ | ⟨-, m20, p4, -⟩
  · rcases a_cs x n with ⟨r, hr, rfl, -⟩ | hx
    · have n6 := T.1
      have hB := g.bok T.bb
      by_cases c : (1 ≤ y.toInt ∧ y.toInt ≤ 40) ∧ (0 ≤ z.toInt ∧ z.toInt ≤ 2)
      · obtain ⟨N, hN, rfl, eN⟩ := ai_nx (x := y) (by omega)
        have hN40 : N ≤ 40 := by omega
        obtain ⟨f, hf⟩ : ∃ f : aFn → Int, (z = 2 ∧ f = fun _ => 1) ∨ (z = 0 ∧ f = fWin (mB σ b) (mW σ) n N r) ∨ (¬ z = 2 ∧ ¬ z = 0 ∧ f = fPl (mB σ b) (mW σ) n N r) := by
          by_cases q : z = 2
          · exact ⟨_, Or.inl ⟨q, rfl⟩⟩
          · by_cases q2 : z = 0
            · exact ⟨_, Or.inr (Or.inl ⟨q2, rfl⟩)⟩
            · exact ⟨_, Or.inr (Or.inr ⟨q, q2, rfl⟩)⟩
        refine e_q g (aRd (mB σ b) (mW σ) n (mFR σ 139 n) f n) (fun Q h => ?_) (fun σ1 σ2 Q l1 e2 g2 f2 h => ?_)
        · refine (bX11_rounds_0 g.1).mpr (p_nr0 g.1 T.2.2.1 n6 hr ⟨rfl, (bX11_rounds_5 g.1).mpr (zy rfl (p_sd g.1 (fun _ _ => ⟨rfl, (bX11_rounds_12 g.1).mpr (zy rfl (zlt' rfl k0 (fun q => absurd q (by omega)) (fun _ => zle' rfl k2 (fun _ => ?_) (fun q => absurd q (by omega)))))⟩) (fun q => absurd (by rw [ai_n hN]; omega) q)))⟩)
          refine p_tclear (d := 11) g.1 (fun σ1 l1 z1 z80 f1 => ⟨rfl, (bX11_rounds_33 l1).mpr ?_⟩)
          have s1 := pWz_s (wTl_z f1)
          have g1 := iA_fr s1 l1 g
          refine p_rounds_l (d := 6) hN40 n 0 σ1 0 (by omega) (by omega) g1 (iT_fr s1 g.nb6 g.ns10 T) (by rw [iS_mFR s1 n6 (Or.inl rfl)]) (by rw [iS_mB s1 (by have := T.bb; have := g.nb6; omega)]) (by rw [iS_mW s1]) (fun r hr => ?_) (by rw [z80, k0]; omega) rfl (fun v σ2 l2 e4 q1 q2 f3 => ?_)
          · rw [(z1 r (by omega)).1, (z1 r (by omega)).2]; exact ⟨rfl, rfl⟩
          · have q1r := q1 r hr
            have f13 := (wTl_z f1).trans f3
            refine (bX11_rounds_39 l2).mpr (zle' (zto e4 (ai_n (by omega))) (ai_n (by omega)) (fun _ => ?_) (fun q => by omega))
            have cl : (nI r).toNatClampNeg = r := nI_clamp (by omega)
            rw [cl]
            rcases hf with ⟨hx, e⟩ | ⟨hx, e⟩ | ⟨hx, hx2, e⟩
            · subst hx
              refine zn (by decide) (zn (by decide) (h _ σ2 ?_ f13))
              rw [e]; exact q2
            · refine zy hx ⟨vp_in_nI (by omega) (by decide), h _ σ2 ?_ f13⟩
              rw [e]; exact q1r.1
            · refine zn hx2 (zeq' rfl k1 (fun _ => ⟨vp_in_nI (by omega) (by decide), h _ σ2 ?_ f13⟩) (fun q => ?_))
              · rw [e]; exact q1r.2
              · exfalso
                have h0 : z.toInt ≠ 0 := fun q0 => hx2 (zint (by rw [q0, k0]))
                have h2 : z.toInt ≠ 2 := fun q0 => hx (zint (by rw [q0, k2]))
                omega
        · have C2 := mCx_q g g2 T f2
          refine (bX12_rounds_0 l1).mpr ?_
          rw [e2]
          exact m_ir1 g2.1 C2.2.2.1 n6 hr ⟨rfl, (bX12_rounds_10 g2.1).mpr (zn (by decide) (m_isIn g2.1 ⟨rfl, (bX12_rounds_20 g2.1).mpr (zt0 (fun _ => m_isIn g2.1 ⟨rfl, (bX12_rounds_29 g2.1).mpr (zt0 (fun _ => m_rounds C2 (T.m f2) g2.r43 hr T.fs hN40 hf h) (fun q => absurd (by rw [k0, k2]; exact c.2) q))⟩) (fun q => absurd (by rw [k1, k40]; exact c.1) q))⟩))⟩
      · refine e_q g (-1) (fun Q h => ?_) (fun σ1 σ2 Q l1 e2 g2 f2 h => ?_)
        · exact (bX11_rounds_0 g.1).mpr (p_nr0 g.1 T.2.2.1 n6 hr ⟨rfl, (bX11_rounds_5 g.1).mpr (zy rfl (p_sd g.1 (fun q1 q2 => ⟨rfl, (bX11_rounds_12 g.1).mpr (zy rfl (zlt' rfl k0 (fun q => h _ σ km1 (zFr.refl _ _)) (fun q3 => zle' rfl k2 (fun q4 => absurd ⟨⟨q1, q2⟩, q3, q4⟩ c) (fun q => h _ σ km1 (zFr.refl _ _)))))⟩) (fun q => ⟨rfl, (bX11_rounds_12 g.1).mpr (zn (by decide) (h _ σ km1 (zFr.refl _ _)))⟩)))⟩)
        · have C2 := mCx_q g g2 T f2
          refine (bX12_rounds_0 l1).mpr ?_
          rw [e2]
          refine m_ir1 g2.1 C2.2.2.1 n6 hr ⟨rfl, (bX12_rounds_10 g2.1).mpr (zn (by decide) (m_isIn g2.1 ⟨rfl, (bX12_rounds_20 g2.1).mpr (zt0 (fun q => m_isIn g2.1 ⟨rfl, (bX12_rounds_29 g2.1).mpr (zt0 (fun q2 => absurd ⟨by rw [k1, k40] at q; exact q, by rw [k0, k2] at q2; exact q2⟩ c) (fun _ => h _ σ2 km1 (zFr.refl _ _)))⟩) (fun _ => h _ σ2 km1 (zFr.refl _ _)))⟩))⟩
    · exact no T.1 T.2.1 T.2.2.1 hx
  · by_cases hx : 0 ≤ x.toInt ∧ x.toInt < (0 : Nat)
    · exact absurd hx (by omega)
    · exact no (by omega) m20 p4 hx
end RNDE
