/-! the verb alone -/
section SOLO
variable {d : Nat} {Q : Option Value → zS → Prop}
theorem m_cb {σ : zS} {b s : Nat} {B : aBk} {W : aWx} {y : Int32} (hl : zLay σ) (hb : b < 7) (eB : mB σ b = B) (hB : aBok B) (eW : mW σ = W) (hs : s < 11) (hS : 1 ≤ (zI σ 136 s).toInt ∧ (zI σ 136 s).toInt ≤ 5) (h : Q (some (.int (zb (aCan B W (zI σ 136 s).toInt 0 y.toInt)))) σ) : zCall (d + 3) kX12_canBegin [.ref 131, .int (nI b), .int (nI s), .int y] σ Q := by
  refine (bX12_canBegin_0 hl).mpr ⟨vp_in_nI (by omega) (by decide), ?_⟩
  rw [nI_clamp (by omega)]
  refine m_canLie hl eB eW hB hb (by decide) (by omega) ⟨rfl, (bX12_canBegin_13 hl).mpr ⟨zb_01 _, ?_⟩⟩
  rw [k0]
  exact h
theorem m_aBy {σ : zS} {b s : Nat} {B : aBk} {W : aWx} {y : Int32} {seed : Int64} (hl : zLay σ) (hb : b < 7) (eB : mB σ b = B) (hB : aBok B) (eW : mW σ = W) (hW : aWok W) (h43 : zI σ 131 43 = 0) (hs : s < 11) (hS : aGst B (mG σ s y.toInt))
    (h : ∀ (v : Int32) (σ' : zS), v.toInt = aAl B W (mG σ s y.toInt) seed → zFr nWq σ σ' → Q (some (.int v)) σ') : zCall (d + 10) kX12_aloneBy [.ref 131, .int (nI b), .int (nI s), .int y, .long seed] σ Q := by
  refine (bX12_aloneBy_0 hl).mpr ⟨vp_in_nI (by omega) (by decide), vp_in_nI (by omega) (by decide), vp_in_nI (by omega) (by decide), ?_⟩
  rw [nI_clamp (by omega)]
  exact n_alone hl hb eB hB eW hW h43 rfl rfl rfl rfl hS (fun v σ1 hv f1 => ⟨rfl, (bX12_aloneBy_26 (f1.lay hl (fun _ _ _ _ => nWq_2))).mpr (h v σ1 hv f1)⟩)
theorem aGst_c {σ : zS} {B : aBk} {W : aWx} {s : Nat} {y : Int} (hS : iStk σ s) (c : aCan B W (zI σ 136 s).toInt 0 y) : aGst B (mG σ s y) := by
  obtain ⟨h1, h2, h3, h4, h5, h6⟩ := mG_ok (y := y) hS
  exact ⟨h1, h2, h3, h4, h5, h6, c.1, c.2.1⟩
end SOLO
section SOLOE
variable {σ : zS} {nb ns : Nat}
theorem e_alone (g : iA σ nb ns) (b s y : Int32) (j : Int64) : eCall kX11_alone kX12_alone [.int b, .int s, .int y, .long j] [.int b, .int s, .int y, .long j] σ := by
  have h6 := g.nb6
  have h10 := g.ns10
  rcases a_cs b nb with ⟨b, hb, rfl, -⟩ | hx
  · have hB := g.bok hb
    rcases a_cs s ns with ⟨s, hs, rfl, -⟩ | hx
    · have hS := g.stk hs
      refine e_q g (zif (aCan (mB σ b) (mW σ) (zI σ 136 s).toInt 0 y.toInt) (aAl (mB σ b) (mW σ) (mG σ s y.toInt) j) (-1)) (fun Q h => (bX11_alone_0 g.1).mpr (p_nb0 g.1 g.e2 h6 hb ⟨rfl, (bX11_alone_5 g.1).mpr (zy rfl (p_ns0 g.1 g.e4 h10 hs ⟨rfl, (bX11_alone_13 g.1).mpr (zy rfl ⟨vp_in_nI (by omega) (by decide), ?_⟩)⟩))⟩)) (fun σ1 σ2 Q l1 e2 g2 f2 h => ?_)
      · rw [zR_bk g.1 (by omega)]
        refine (bX11_alone_25 g.1 (zk_bk (by omega))).mpr ⟨vp_in_nI (by omega) (by decide), ?_⟩
        rw [zR_sk g.1 (by omega)]
        refine (bX11_alone_31 g.1 (zk_sk (by omega)) (zk_bk (by omega))).mpr (p_tAl (d := 7) g.1 (g.bp hb) hB (zk_sk (by omega)) (mG_p (y := y.toInt) hS) rfl (mG_ok hS) g.wp g.wok (fun v σ1 hv f1 => ⟨rfl, (bX11_alone_37 (pWz_lay (pWq_z f1) g.1)).mpr (h v σ1 hv (pWq_z f1))⟩))
      · have eB := iS_mB f2 (b := b) (by omega)
        have eG := iS_mG f2 (s := s) (by omega) y.toInt
        have e136 := f2.i (show ¬ iSafe 0 136 s by unfold iSafe; omega)
        have hS2 := g2.stk hs
        refine (bX12_alone_0 l1).mpr ?_
        rw [e2]
        refine m_ib1 g2.1 g2.e11 h6 hb ⟨rfl, (bX12_alone_10 g2.1).mpr (zn (by decide) (m_is1 g2.1 g2.e12 h10 hs ⟨rfl, (bX12_alone_18 g2.1).mpr (zn (by decide) (m_cb g2.1 (by omega) eB hB (iS_mW f2) (by omega) hS2.1 ⟨rfl, (bX12_alone_28 g2.1).mpr (zt0 (fun c => ?_) (fun c => h _ σ2 ?_ (zFr.refl _ _)))⟩))⟩))⟩
        · have gs := aGst_c hS2 c
          refine m_aBy (d := 2) g2.1 (by omega) eB hB (iS_mW f2) g.wok g2.r43 (by omega) gs (fun v σ3 hv f3 => ⟨rfl, (bX12_alone_40 (f3.lay g2.1 (fun _ _ _ _ => nWq_2))).mpr (h v σ3 ?_ (nWq_q f3))⟩)
          rw [e136] at c
          rw [eG] at hv
          rw [zif_t c]; exact hv
        · rw [e136] at c
          rw [zif_f c]; rfl
    · refine e_q g (-1) (fun Q h => (bX11_alone_0 g.1).mpr (p_nb0 g.1 g.e2 h6 hb ⟨rfl, (bX11_alone_5 g.1).mpr (zy rfl (p_ns1 g.1 g.e4 h10 hx ⟨rfl, (bX11_alone_13 g.1).mpr (zn (by decide) (h _ σ km1 (zFr.refl _ _)))⟩))⟩)) (fun σ1 σ2 Q l1 e2 g2 f2 h => ?_)
      refine (bX12_alone_0 l1).mpr ?_
      rw [e2]
      exact m_ib1 g2.1 g2.e11 h6 hb ⟨rfl, (bX12_alone_10 g2.1).mpr (zn (by decide) (m_is0 g2.1 g2.e12 h10 hx ⟨rfl, (bX12_alone_18 g2.1).mpr (zy rfl (h _ σ2 km1 (zFr.refl _ _)))⟩))⟩
  · refine e_q g (-1) (fun Q h => (bX11_alone_0 g.1).mpr (p_nb1 g.1 g.e2 h6 hx ⟨rfl, (bX11_alone_5 g.1).mpr (zn (by decide) (h _ σ km1 (zFr.refl _ _)))⟩)) (fun σ1 σ2 Q l1 e2 g2 f2 h => ?_)
    refine (bX12_alone_0 l1).mpr ?_
    rw [e2]
    exact m_ib0 g2.1 g2.e11 h6 hx ⟨rfl, (bX12_alone_10 g2.1).mpr (zy rfl (h _ σ2 km1 (zFr.refl _ _)))⟩
end SOLOE
