/-! the verb stoned -/
section STONEDE
variable {σ : zS} {nb ns : Nat}
theorem sgt_c {σ0 : zS} {n : Nat} (g2 : iA σ nb ns) (f : zFr iSafe σ0 σ) (s0 : sgt σ0 ns n) : sgt σ ns n := by
  obtain ⟨n2, t2⟩ := g2.sgt
  have e : nI n2 = nI n := by
    rw [← t2.2.2.1, ← s0.2.2.1]
    exact f.i (by unfold iSafe; omega)
  have e3 : n2 = n := by
    have := congrArg Int32.toInt e
    have a := t2.1
    have b := s0.1
    rw [ai_n (by omega), ai_n (by omega)] at this
    omega
  rw [e3] at t2
  exact t2
theorem e_stoned (g : iA σ nb ns) (b i : Int32) : eCall kX11_stoned kX12_stoned [.int b, .int i] [.int b, .int i] σ := by
  have h6 := g.nb6
  have h10 := g.ns10
  obtain ⟨n, s0⟩ := g.sgt
  rcases a_cs b nb with ⟨b, hb, rfl, -⟩ | hx
  · have hB := g.bok hb
    obtain ⟨L, hL⟩ : ∃ L : Nat, (mB σ b).2.1 = (L : Int) := ⟨(mB σ b).2.1.toNat, by have := hB.1; omega⟩
    obtain ⟨W, hW⟩ : ∃ W : Nat, (mB σ b).2.2 = (W : Int) := ⟨(mB σ b).2.2.toNat, by have := hB.2.2.1; omega⟩
    by_cases c : -1 ≤ i.toInt
    · refine e_q g (sAn (sGd σ (mB σ b) n) L W i.toInt (L * (W + 1) + 1) 0 0 0) (fun Q h => (bX11_stoned_0 g.1).mpr (p_nb0 g.1 g.e2 h6 hb ⟨rfl, (bX11_stoned_5 g.1).mpr (zy rfl (zle' km1 rfl (fun _ => ⟨vp_in_nI (by omega) (by decide), ?_⟩) (fun q => absurd q (by omega))))⟩)) (fun σ1 σ2 Q l1 e2 g2 f2 h => ?_)
      · rw [zR_bk g.1 (by omega)]
        refine (bX11_stoned_25 g.1 (zk_bk (by omega))).mpr (p_bcopy g.1 zk_91 (g.bp hb) (by omega) (fun σ1 gp1 f1 => ⟨rfl, ?_⟩))
        have f1z : zFr pWz σ σ1 := f1.mono (fun j c k q => by unfold pWz; omega)
        refine (bX11_stoned_28 (pZ g f1z).1.1).mpr ?_
        exact (p_stoned_l (d := 6) (Q := Q) g s0 hb hL hW h (L * (W + 1) + 1) 0 0 σ1 _ _ _ 0 rfl (by rw [Nat.sub_zero]; exact Nat.le_refl _) (by omega) (by omega) (fun _ => rfl) (by omega) f1z gp1 (zcat_r _) (zcat_r _) (zcat_r _)).1 rfl
      · have eB := iS_mB f2 (b := b) (by omega)
        have s2 := sgt_c g2 f2 s0
        have eg : sGd σ2 (mB σ2 b) n = sGd σ (mB σ b) n := by
          funext y x
          unfold sGd
          rw [eB, agr_c f2 s0 h10]
        refine (bX12_stoned_0 l1).mpr ?_
        rw [e2]
        refine m_ib1 g2.1 g2.e11 h6 hb ⟨rfl, (bX12_stoned_10 g2.1).mpr (zn (by decide) (zle' km1 rfl (fun _ => ?_) (fun q => absurd q (by omega))))⟩
        exact (m_stoned_l (d := 1) (Q := Q) g2 s2 hb (by rw [eB]; exact hL) (by rw [eB]; exact hW) h (L * (W + 1) + 1) 0 0 σ2 _ _ _ _ 0 (by rw [eg]; rfl) (by rw [Nat.sub_zero]; exact Nat.le_refl _) (by omega) (by omega) (fun _ => rfl) (by omega) (zFr.refl _ _) (zcat_r _) (zcat_r _) (zcat_r _) (zcat_r _)).1 rfl
    · refine e_q g (-1) (fun Q h => (bX11_stoned_0 g.1).mpr (p_nb0 g.1 g.e2 h6 hb ⟨rfl, (bX11_stoned_5 g.1).mpr (zy rfl (zle' km1 rfl (fun q => absurd q c) (fun _ => h _ σ km1 (zFr.refl _ _))))⟩)) (fun σ1 σ2 Q l1 e2 g2 f2 h => ?_)
      refine (bX12_stoned_0 l1).mpr ?_
      rw [e2]
      exact m_ib1 g2.1 g2.e11 h6 hb ⟨rfl, (bX12_stoned_10 g2.1).mpr (zn (by decide) (zle' km1 rfl (fun q => absurd q c) (fun _ => h _ σ2 km1 (zFr.refl _ _))))⟩
  · refine e_q g (-1) (fun Q h => (bX11_stoned_0 g.1).mpr (p_nb1 g.1 g.e2 h6 hx ⟨rfl, (bX11_stoned_5 g.1).mpr (zn (by decide) (h _ σ km1 (zFr.refl _ _)))⟩)) (fun σ1 σ2 Q l1 e2 g2 f2 h => ?_)
    refine (bX12_stoned_0 l1).mpr ?_
    rw [e2]
    exact m_ib0 g2.1 g2.e11 h6 hx ⟨rfl, (bX12_stoned_10 g2.1).mpr (zy rfl (h _ σ2 km1 (zFr.refl _ _)))⟩
end STONEDE
