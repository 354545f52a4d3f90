/-! the verb fair -/
section FAIRE
variable {σ : zS} {nb ns : Nat}
theorem e_fair (g : iA σ nb ns) (b s t z : Int32) : eCall kX11_fair kX12_fair [.int b, .int s, .int t, .int z] [.int b, .int s, .int t, .int z] σ := by
  have h6 := g.nb6
  have h10 := g.ns10
  rcases a_cs b nb with ⟨b, hb, rfl, -⟩ | hx
  · have hB := g.bok hb
    obtain ⟨L, hL⟩ : ∃ L : Nat, (mB σ b).2.1 = (L : Int) := ⟨(mB σ b).2.1.toNat, by have := hB.1; omega⟩
    have hL6 : L ≤ 6 := by have := hB.2.1; omega
    rcases a_cs s ns with ⟨s, hs, rfl, -⟩ | hx
    · by_cases c : (2 ≤ t.toInt ∧ t.toInt ≤ 6) ∧ (0 ≤ z.toInt ∧ z.toInt ≤ 1)
      · obtain ⟨t, ht, rfl, et⟩ := ai_nx (x := t) (by omega)
        obtain ⟨i1, i2⟩ := fr_i g hb hs L
        obtain ⟨pp, p64⟩ := p_pow (t := t) (by omega) (by omega)
        refine e_q g (if t ≤ (fr σ b s L).length then (if z.toInt = 0 then (fS (fr σ b s L) t (2 ^ t)).2.1 else (fS (fr σ b s L) t (2 ^ t)).2.2) else -1) (fun Q h => (bX11_fair_0 g.1).mpr (p_nb0 g.1 g.e2 h6 hb ⟨rfl, (bX11_fair_5 g.1).mpr (zy rfl (p_ns0 g.1 g.e4 h10 hs ⟨rfl, (bX11_fair_13 g.1).mpr (zy rfl (zlt' rfl k2 (fun q => absurd q (by omega)) (fun _ => zlt' k6 rfl (fun q => absurd q (by omega)) (fun _ => zlt' rfl k0 (fun q => absurd q (by omega)) (fun _ => zle' rfl k1 (fun _ => ⟨vp_in_nI (by omega) (by decide), ?_⟩) (fun q => absurd q (by omega)))))))⟩))⟩)) (fun σ1 σ2 Q l1 e2 g2 f2 h => ?_)
        · rw [zR_bk g.1 (by omega)]
          refine (bX11_fair_46 g.1 (zk_bk (by omega))).mpr (p_rowClear zk_83 g.1 (fun σ1 q1 q2 f1 => ⟨rfl, ?_⟩))
          have f1z : zFr pWz σ σ1 := f1.mono (fun j c k q => by unfold pWz; omega)
          refine (bX11_fair_55 (pZ g f1z).1.1 (zk_bk (by omega))).mpr (p_fair_y (d := 7) g hb hs hL L 0 σ1 _ (by omega) (by omega) (zcat_r _) f1z trivial q1 (by rw [q2, k0]; omega) (fun σ3 f3 r1 r2 => ?_))
          have l3 := (pZ g f3).1.1
          refine zle' (ai_n (by omega)) (ai_n (by omega)) (fun q => ?_) (fun q => h _ σ3 (by rw [if_neg (by omega)]; rfl) f3)
          refine p_fair_r (d := 11) (zk_bk (by omega)) l3 r1 r2 i2 (by omega) (by omega) (by omega) (fun v hv => h v σ3 ?_ f3) (2 ^ t) 0 (-1) (-1) _ (Nat.sub_zero _) (Nat.zero_le _) (zcat_r _) km1 km1
          rw [if_pos (by omega)]; exact hv
        · have hL2 : (mB σ2 b).2.1 = (L : Int) := by rw [iS_mB f2 (by omega)]; exact hL
          refine (bX12_fair_0 l1).mpr ?_
          rw [e2]
          refine m_ib1 g2.1 g2.e11 h6 hb ⟨rfl, (bX12_fair_10 g2.1).mpr (zn (by decide) (m_is1 g2.1 g2.e12 h10 hs ⟨rfl, (bX12_fair_18 g2.1).mpr (zn (by decide) (m_isIn g2.1 ⟨rfl, (bX12_fair_28 g2.1).mpr (zt0 (fun _ => m_isIn g2.1 ⟨rfl, (bX12_fair_38 g2.1).mpr (zt0 (fun _ => ?_) (fun q => absurd (by rw [k0, k1]; exact c.2) q))⟩) (fun q => absurd (by rw [k2, k6]; exact c.1) q))⟩))⟩))⟩
          refine (bX12_layWorths_0 g2.1).mpr (m_fair_y (d := 1) g2 hb hs hL2 (fun σ3 f3 r1 => ⟨rfl, ?_⟩) L 0 σ2 _ _ (by omega) (by omega) (zcat_r _) (zcat_r _) (zFr.refl _ _) trivial)
          have l3 := (mZ g2 f3).1.1
          rw [fr_c f2 (by omega) (by omega)] at r1 ⊢
          refine (bX12_fair_47 l3).mpr (zle' (ai_n (by omega)) (ai_n (by omega)) (fun q => ?_) (fun q => h _ σ3 (by rw [if_neg (by omega)]; rfl) f3))
          refine m_fair_r (d := 11) l3 r1 i2 (by omega) (by omega) (by omega) (fun v hv => h v σ3 ?_ f3) (2 ^ t) 0 (-1) (Nat.sub_zero _) (Nat.zero_le _) km1
          rw [if_pos (by omega)]; exact hv
      · refine e_q g (-1) (fun Q h => ?_) (fun σ1 σ2 Q l1 e2 g2 f2 h => ?_)
        · exact (bX11_fair_0 g.1).mpr (p_nb0 g.1 g.e2 h6 hb ⟨rfl, (bX11_fair_5 g.1).mpr (zy rfl (p_ns0 g.1 g.e4 h10 hs ⟨rfl, (bX11_fair_13 g.1).mpr (zy rfl (zlt' rfl k2 (fun q => h _ σ km1 (zFr.refl _ _)) (fun a1 => zlt' k6 rfl (fun q => h _ σ km1 (zFr.refl _ _)) (fun a2 => zlt' rfl k0 (fun q => h _ σ km1 (zFr.refl _ _)) (fun a3 => zle' rfl k1 (fun a4 => absurd ⟨⟨a1, a2⟩, a3, a4⟩ c) (fun q => h _ σ km1 (zFr.refl _ _)))))))⟩))⟩)
        · refine (bX12_fair_0 l1).mpr ?_
          rw [e2]
          exact m_ib1 g2.1 g2.e11 h6 hb ⟨rfl, (bX12_fair_10 g2.1).mpr (zn (by decide) (m_is1 g2.1 g2.e12 h10 hs ⟨rfl, (bX12_fair_18 g2.1).mpr (zn (by decide) (m_isIn g2.1 ⟨rfl, (bX12_fair_28 g2.1).mpr (zt0 (fun q => m_isIn g2.1 ⟨rfl, (bX12_fair_38 g2.1).mpr (zt0 (fun q2 => absurd ⟨by rw [k2, k6] at q; exact q, by rw [k0, k1] at q2; exact q2⟩ c) (fun _ => h _ σ2 km1 (zFr.refl _ _)))⟩) (fun _ => h _ σ2 km1 (zFr.refl _ _)))⟩))⟩))⟩
    · refine e_q g (-1) (fun Q h => (bX11_fair_0 g.1).mpr (p_nb0 g.1 g.e2 h6 hb ⟨rfl, (bX11_fair_5 g.1).mpr (zy rfl (p_ns1 g.1 g.e4 h10 hx ⟨rfl, (bX11_fair_13 g.1).mpr (zn (by decide) (h _ σ km1 (zFr.refl _ _)))⟩))⟩)) (fun σ1 σ2 Q l1 e2 g2 f2 h => ?_)
      refine (bX12_fair_0 l1).mpr ?_
      rw [e2]
      exact m_ib1 g2.1 g2.e11 h6 hb ⟨rfl, (bX12_fair_10 g2.1).mpr (zn (by decide) (m_is0 g2.1 g2.e12 h10 hx ⟨rfl, (bX12_fair_18 g2.1).mpr (zy rfl (h _ σ2 km1 (zFr.refl _ _)))⟩))⟩
  · refine e_q g (-1) (fun Q h => (bX11_fair_0 g.1).mpr (p_nb1 g.1 g.e2 h6 hx ⟨rfl, (bX11_fair_5 g.1).mpr (zn (by decide) (h _ σ km1 (zFr.refl _ _)))⟩)) (fun σ1 σ2 Q l1 e2 g2 f2 h => ?_)
    refine (bX12_fair_0 l1).mpr ?_
    rw [e2]
    exact m_ib0 g2.1 g2.e11 h6 hx ⟨rfl, (bX12_fair_10 g2.1).mpr (zy rfl (h _ σ2 km1 (zFr.refl _ _)))⟩
end FAIRE
