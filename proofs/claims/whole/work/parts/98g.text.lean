/-! text: a brook -/
def wTb (nb j c k : Nat) : Prop := pWz j c k ∨ (j = 0 ∧ ((c = 1 ∧ k = 2) ∨ (c = 2 ∧ k = 1) ∨ (97 + 4 * nb ≤ c ∧ c ≤ 97 + 4 * nb + 3) ∨ (c = 131 ∧ (k = 0 ∨ k = 2 ∨ k = 3 ∨ k = 4 ∨ k = 11)) ∨ (c = 133 ∧ (576 ≤ k ∨ (96 * nb ≤ k ∧ k < 96 * nb + 96))) ∨ ((c = 134 ∨ c = 135) ∧ (k = 6 ∨ k = nb)) ∨ (136 ≤ c ∧ c ≤ 138 ∧ k = 10)))
def wTs (ns j c k : Nat) : Prop := pWz j c k ∨ (j = 0 ∧ ((c = 1 ∧ k = 4) ∨ (c = 2 ∧ k = 1) ∨ c = 121 + ns ∨ (c = 131 ∧ (k = 0 ∨ k = 2 ∨ k = 3 ∨ k = 4 ∨ k = 12)) ∨ (c = 133 ∧ 576 ≤ k) ∨ ((c = 134 ∨ c = 135) ∧ k = 6) ∨ (136 ≤ c ∧ c ≤ 138 ∧ (k = 10 ∨ k = ns))))
theorem iA_text {σ σ' : zS} {nb ns : Nat} (f : zFr (wTb nb) σ σ') (hl : zLay σ') (g : iA σ nb ns) (h6 : nb < 6) (e21 : zI σ' 2 1 = nI 0) (e131 : zI σ' 131 2 = nI 0) (e12 : zI σ' 1 2 = nI (nb + 1)) (e11 : zI σ' 131 11 = nI (nb + 1)) (ok : aBok (mB σ' nb)) (pb : pBk σ' (97 + 4 * nb) (mB σ' nb)) : iA σ' (nb + 1) ns := by
  obtain ⟨g1, g2, g3, g4, g5, g6, g7, g8, g9, gS⟩ := g
  have h10 := g6.1
  refine ⟨hl, ⟨0, by omega, e21, e131, fun i hi => absurd hi (by omega)⟩, iWx_fr f (fun c k q => by unfold jWx at q; unfold wTb pWz; omega) g3, by rw [f.i (by unfold wTb pWz; omega)]; exact g4, ⟨by omega, e12, e11, fun b hb => ?_⟩, iSt_fr f (fun c k q => by unfold jSt at q; unfold wTb pWz; omega) g6, iSg_fr f (Nat.le_refl _) (fun c k q => by unfold jSg at q; unfold wTb pWz; omega) g7, iRc_fr f (by omega) (Nat.le_refl _) (fun c k q => by unfold jRc jB at q; unfold wTb pWz; omega) ⟨by unfold wTb pWz; omega, by unfold wTb pWz; omega⟩ (fun c k a b => by unfold wTb pWz; omega) g8, iIm_fr f (by omega) (Nat.le_refl _) (fun c k q => by unfold jIm jB at q; unfold wTb pWz; omega) ⟨by unfold wTb pWz; omega, by unfold wTb pWz; omega⟩ (fun c k a b => by unfold wTb pWz; omega) g9, iSr_fr f (fun c a b => by unfold wTb pWz; omega) gS⟩
  by_cases e : b = nb
  · subst e
    exact ⟨ok, pb⟩
  · have hb2 : b < nb := by omega
    have eB : mB σ' b = mB σ b := mB_f (nb := nb) f (fun c k q => by unfold jB at q; unfold wTb pWz; omega) hb2
    obtain ⟨o1, o2⟩ := g5.2.2.2 b hb2
    rw [eB]
    exact ⟨o1, pBk_fr f ⟨fun k => by unfold wTb pWz; omega, fun k => by unfold wTb pWz; omega, fun k => by unfold wTb pWz; omega, fun k => by unfold wTb pWz; omega⟩ o2⟩
theorem iA_texts {σ σ' : zS} {nb ns : Nat} (f : zFr (wTs ns) σ σ') (hl : zLay σ') (g : iA σ nb ns) (h10 : ns < 10) (e21 : zI σ' 2 1 = nI 0) (e131 : zI σ' 131 2 = nI 0) (e14 : zI σ' 1 4 = nI (ns + 1)) (e12 : zI σ' 131 12 = nI (ns + 1)) (ok : iStk σ' ns) : iA σ' nb (ns + 1) := by
  obtain ⟨g1, g2, g3, g4, g5, g6, g7, g8, g9, gS⟩ := g
  have h6 := g5.1
  refine ⟨hl, ⟨0, by omega, e21, e131, fun i hi => absurd hi (by omega)⟩, iWx_fr f (fun c k q => by unfold jWx at q; unfold wTs pWz; omega) g3, by rw [f.i (by unfold wTs pWz; omega)]; exact g4, iBr_fr f (fun c k q => by unfold jBr jB at q; unfold wTs pWz; omega) g5, ⟨by omega, e14, e12, fun s hs => ?_⟩, iSg_fr f (by omega) (fun c k q => by unfold jSg at q; unfold wTs pWz; omega) g7, iRc_fr f (Nat.le_refl _) (by omega) (fun c k q => by unfold jRc jB at q; unfold wTs pWz; omega) ⟨by unfold wTs pWz; omega, by unfold wTs pWz; omega⟩ (fun c k a b => by unfold wTs pWz; omega) g8, iIm_fr f (Nat.le_refl _) (by omega) (fun c k q => by unfold jIm jB at q; unfold wTs pWz; omega) ⟨by unfold wTs pWz; omega, by unfold wTs pWz; omega⟩ (fun c k a b => by unfold wTs pWz; omega) g9, iSr_fr f (fun c a b => by unfold wTs pWz; omega) gS⟩
  by_cases e : s = ns
  · subst e
    exact ok
  · have z := g6.2.2.2 s (by omega)
    unfold iStk at z ⊢
    rw [f.i (show ¬ wTs ns 0 136 s by unfold wTs pWz; omega), f.i (show ¬ wTs ns 0 137 s by unfold wTs pWz; omega), f.i (show ¬ wTs ns 0 138 s by unfold wTs pWz; omega), f.i (show ¬ wTs ns 0 (121 + s) 0 by unfold wTs pWz; omega), f.i (show ¬ wTs ns 0 (121 + s) 1 by unfold wTs pWz; omega), f.i (show ¬ wTs ns 0 (121 + s) 2 by unfold wTs pWz; omega)]
    exact z
section TEXT
variable {d : Nat} {Q : Option Value → zS → Prop} {σ : zS}
theorem p_text0 {len nb : Nat} {x : Int32} (hx : x.toInt = 0) (hl : zLay σ) (e2 : zI σ 2 1 = nI len) (hn : len ≤ 160) (e12 : zI σ 1 2 = nI nb) (h6 : nb ≤ 6)
    (h0 : nb = 6 ∨ (rbk (tP σ) len).1 ≠ -1 → ∀ σ', zFr pWz σ σ' → Q (some (.int (-1))) σ')
    (h1 : nb < 6 → (rbk (tP σ) len).1 = -1 → ∀ σ', zLay σ' → pBk σ' (97 + 4 * nb) ((rbk (tP σ) len).2.2.2, ((rbk (tP σ) len).2.1 : Int), ((rbk (tP σ) len).2.2.1 : Int)) → zI σ' 2 1 = nI 0 → zI σ' 1 2 = nI (nb + 1) → zFr (wTb nb) σ σ' → (∀ c k, 97 ≤ c → ¬ (97 + 4 * nb ≤ c ∧ c ≤ 97 + 4 * nb + 3) → zI σ' c k = zI σ c k) → Q (some (.int (nI nb))) σ') : zCall (d + 4) kX11_text [.ref 1, .int x] σ Q := by
  refine (bX11_text_0 hl).mpr (p_fault (d := d) hl e2 hn (fun v σ1 hv f1 gb _ => ⟨rfl, ?_⟩))
  have l1 := pWz_lay f1 hl
  have e121 : zI σ1 1 2 = nI nb := by rw [f1.i (by unfold pWz; omega)]; exact e12
  rw [hx, fz_0] at hv
  refine (bX11_text_5 l1).mpr (zeq' hv km1 (fun z => zeq' hx k0 (fun _ => ?_) (fun z2 => absurd rfl z2)) (fun z => h0 (Or.inr z) σ1 f1))
  refine (bX11_keepBrook_0 l1).mpr ?_
  rw [e121]
  refine zlt' (ai_n (by omega)) k6 (fun z6 => ⟨vp_in_nI (by omega) (by decide), ?_⟩) (fun z6 => ⟨rfl, (bX11_text_19 l1).mpr ((bX11_text_26 l1).mpr (zy rfl (h0 (Or.inl (by omega)) σ1 f1)))⟩)
  rw [zR_bk l1 (by omega)]
  refine (bX11_keepBrook_23 l1 (zk_bk (by omega))).mpr (p_bcopy l1 (zk_bk (by omega)) (gb hx z) (by omega) (fun σ2 g2 f2 => ⟨rfl, ?_⟩))
  have f2' : zFr (wTb nb) σ1 σ2 := f2.mono (fun j c k q => by unfold wTb; omega)
  have l2 := f2.lay l1 (fun _ _ _ _ => by omega)
  have e122 : zI σ2 1 2 = nI nb := by rw [f2.i (by omega)]; exact e121
  refine (bX11_keepBrook_30 l2).mpr ⟨rfl, ?_⟩
  rw [e122, nI_1]
  refine (bX11_text_19 l2.I).mpr ((bX11_text_26 l2.I).mpr (zn (fun q => ?_) (h1 (by omega) z _ l2.I.I ?_ ?_ ?_ ?_ (fun c k a b => ?_))))
  · have := congrArg Int32.toInt q
    rw [ai_n (by omega)] at this
    exact absurd this (by rw [km1]; omega)
  · refine pBk_fr (W := fun j c k => j = 0 ∧ (c = 1 ∨ c = 2)) ?_ ⟨fun k => by omega, fun k => by omega, fun k => by omega, fun k => by omega⟩ g2
    exact (zFr_I (fun k => Or.inl ⟨rfl, Or.inl rfl⟩)).trans (zFr_I (fun k => Or.inl ⟨rfl, Or.inr rfl⟩))
  · rw [zI_self, pk_us]; rfl
  · rw [zI_ne (by decide), zI_self, pk_us]
  · refine ((f1.mono (fun j c k q => (Or.inl q : wTb nb j c k))).trans f2').trans (zFr.trans (σ1 := zsI σ2 1 (upd (zI σ2 1) 2 (nI (nb + 1)))) (zFr_U (by omega)) (zFr_U (by omega)))
  · rw [zI_ne (by omega), zI_ne (by omega), f2.i (by omega), f1.i (by unfold pWz; omega)]
theorem m_text0 {len nb : Nat} {x : Int32} {t : Nat → Int} (hx : x.toInt = 0) (hl : zLay σ) (e2 : zI σ 131 2 = nI len) (hn : len ≤ 160) (et : tM σ = t) (ht : ∀ i, i < len → 1 ≤ t i) (e11 : zI σ 131 11 = nI nb) (h6 : nb ≤ 6)
    (h0 : nb = 6 ∨ (rbk t len).1 ≠ -1 → ∀ σ', zFr wFa σ σ' → Q (some (.int (-1))) σ')
    (h1 : nb < 6 → (rbk t len).1 = -1 → ∀ σ', zLay σ' → zI σ' 134 nb = nI (rbk t len).2.1 → zI σ' 135 nb = nI (rbk t len).2.2.1 → (∀ y x' : Nat, y < 6 → x' < 16 → y < (rbk t len).2.1 → x' < (rbk t len).2.2.1 → (zI σ' 133 (16 * (6 * nb + y) + x')).toInt = (rbk t len).2.2.2 y x') → zI σ' 131 2 = nI 0 → zI σ' 131 11 = nI (nb + 1) → zFr (fun j c k => wTb nb j c k ∧ j = 0 ∧ 131 ≤ c) σ σ' → Q (some (.int (nI nb))) σ') : zCall (d + 5) kX12_text [.ref 131, .int x] σ Q := by
  refine (bX12_text_0 hl).mpr ?_
  have f1 : zFr wFa σ (zsI σ 131 (upd (zI σ 131) 0 0)) := zFr_U (by unfold wFa; omega)
  have l1 : zLay (zsI σ 131 (upd (zI σ 131) 0 0)) := hl.I
  generalize zsI σ 131 (upd (zI σ 131) 0 0) = σ1 at f1 l1 ⊢
  have e21 : zI σ1 131 2 = nI len := by rw [f1.i (by unfold wFa; omega)]; exact e2
  have e111 : zI σ1 131 11 = nI nb := by rw [f1.i (by unfold wFa; omega)]; exact e11
  have et1 : tM σ1 = t := (tM_fr f1 (fun k => by unfold wFa; omega)).trans et
  refine m_isIn l1 ⟨rfl, (bX12_text_11 l1).mpr ?_⟩
  rw [k0, k1, e111]
  refine zt0 (fun c => zeq' hx k0 (fun _ => zeq' (ai_n (by omega)) k6 (fun z6 => h0 (Or.inl (by omega)) σ1 f1) (fun z6 => ?_)) (fun z => absurd rfl z)) (fun c => by omega)
  refine (bX12_text_39 l1).mpr (m_fault (d := d) l1 e21 hn et1 ht (fun v σ2 hv f2 => ⟨rfl, ?_⟩))
  have l2 := wFa_lay f2 l1
  have f02 := f1.trans f2
  rw [hx, fz_0] at hv
  refine (bX12_text_44 l2).mpr (zeq' hv km1 (fun z => zeq' hx k0 (fun _ => ?_) (fun z2 => absurd rfl z2)) (fun z => h0 (Or.inr z) σ2 f02))
  have e112 : zI σ2 131 11 = nI nb := by rw [f02.i (by unfold wFa; omega)]; exact e11
  rw [e112]
  refine m_readBrook (d := d + 2) (b := nb) l2 (by omega) (by rw [f02.i (by unfold wFa; omega)]; exact e2) hn ((tM_fr f02 (fun k => by unfold wFa; omega)).trans et) ht (fun σ3 hv3 f3 g3 => ⟨rfl, ?_⟩)
  have l3 := f3.lay l2 (fun _ _ _ _ => by unfold wRb; omega)
  obtain ⟨q1, q2, q3⟩ := g3 z
  have f03 : zFr (fun j c k => wTb nb j c k ∧ j = 0 ∧ 131 ≤ c) σ σ3 := (f02.mono (fun j c k q => by unfold wFa at q; unfold wTb; omega)).trans (f3.mono (fun j c k q => by unfold wRb at q; unfold wTb; omega))
  have e113 : zI σ3 131 11 = nI nb := by rw [f3.i (by unfold wRb; omega)]; exact e112
  refine (bX12_text_62 l3).mpr ((bX12_text_73 l3).mpr (zeq' hx k0 (fun _ => ?_) (fun z2 => absurd rfl z2)))
  rw [e113, nI_1]
  rw [show (nI (nb + 1) - 1 : Int32) = nI nb from zint (by
    rw [zsub (ai_n (by omega)) k1 (by omega) (by omega), ai_n (by omega)]
    omega)]
  refine h1 (by omega) z _ l3.I ?_ ?_ (fun y x' a b c d => ?_) ?_ ?_ (f03.trans (zFr_UU (by unfold wTb; omega) (by unfold wTb; omega)))
  · rw [zI_ne (by decide)]; exact q1
  · rw [zI_ne (by decide)]; exact q2
  · rw [zI_ne (by decide)]; exact q3 y x' a b c d
  · rw [zI_self, pk_un (by decide), pk_us]; rfl
  · rw [zI_self, pk_us]
theorem p_text1 {len ns : Nat} {x : Int32} (hx : x.toInt = 1) (hl : zLay σ) (e2 : zI σ 2 1 = nI len) (hn : len ≤ 160) (e14 : zI σ 1 4 = nI ns) (h10 : ns ≤ 10)
    (h0 : ns = 10 ∨ (rsk (tP σ) len).1 ≠ -1 → ∀ σ', zFr pWz σ σ' → Q (some (.int (-1))) σ')
    (h1 : ns < 10 → (rsk (tP σ) len).1 = -1 → ∀ σ', zLay σ' → (zI σ' (121 + ns) 0).toInt = (rsk (tP σ) len).2.1 → (zI σ' (121 + ns) 1).toInt = (rsk (tP σ) len).2.2.1 → (zI σ' (121 + ns) 2).toInt = (rsk (tP σ) len).2.2.2 → zI σ' 2 1 = nI 0 → zI σ' 1 4 = nI (ns + 1) → zFr (wTs ns) σ σ' → (∀ c k, 131 ≤ c → zI σ' c k = zI σ c k) → Q (some (.int (nI ns))) σ') : zCall (d + 4) kX11_text [.ref 1, .int x] σ Q := by
  refine (bX11_text_0 hl).mpr (p_fault (d := d) hl e2 hn (fun v σ1 hv f1 _ gb => ⟨rfl, ?_⟩))
  have l1 := pWz_lay f1 hl
  have e141 : zI σ1 1 4 = nI ns := by rw [f1.i (by unfold pWz; omega)]; exact e14
  rw [hx, fz_1] at hv
  refine (bX11_text_5 l1).mpr (zeq' hv km1 (fun z => zeq' hx k0 (fun z2 => by omega) (fun _ => ?_)) (fun z => h0 (Or.inr z) σ1 f1))
  obtain ⟨d0, d1, d2⟩ := gb hx z
  refine (bX11_keepStick_0 l1).mpr ?_
  rw [e141]
  refine zlt' (ai_n (by omega)) k10 (fun z6 => ⟨vp_in_nI (by omega) (by decide), ?_⟩) (fun z6 => ⟨rfl, (bX11_text_26 l1).mpr (zy rfl (h0 (Or.inl (by omega)) σ1 f1))⟩)
  rw [zR_sk l1 (by omega)]
  refine (bX11_keepStick_23 l1 (zk_sk (by omega))).mpr ((bX6_shape_0 l1 (zk_sk (by omega))).mpr ⟨rfl, ?_⟩)
  have f2 : zFr (fun j c k => j = 0 ∧ c = 121 + ns) σ1 (zsI σ1 (121 + ns) (upd (upd (upd (zI σ1 (121 + ns)) 0 (zI σ1 95 0)) 1 (zI σ1 95 1)) 2 (zI σ1 95 2))) := zFr_UUU ⟨rfl, rfl⟩ ⟨rfl, rfl⟩ ⟨rfl, rfl⟩
  have q0 : (zI (zsI σ1 (121 + ns) (upd (upd (upd (zI σ1 (121 + ns)) 0 (zI σ1 95 0)) 1 (zI σ1 95 1)) 2 (zI σ1 95 2))) (121 + ns) 0).toInt = (rsk (tP σ) len).2.1 := by rw [zI_self, pk_un (by decide), pk_un (by decide), pk_us]; exact d0
  have q1 : (zI (zsI σ1 (121 + ns) (upd (upd (upd (zI σ1 (121 + ns)) 0 (zI σ1 95 0)) 1 (zI σ1 95 1)) 2 (zI σ1 95 2))) (121 + ns) 1).toInt = (rsk (tP σ) len).2.2.1 := by rw [zI_self, pk_un (by decide), pk_us]; exact d1
  have q2 : (zI (zsI σ1 (121 + ns) (upd (upd (upd (zI σ1 (121 + ns)) 0 (zI σ1 95 0)) 1 (zI σ1 95 1)) 2 (zI σ1 95 2))) (121 + ns) 2).toInt = (rsk (tP σ) len).2.2.2 := by rw [zI_self, pk_us]; exact d2
  generalize zsI σ1 (121 + ns) (upd (upd (upd (zI σ1 (121 + ns)) 0 (zI σ1 95 0)) 1 (zI σ1 95 1)) 2 (zI σ1 95 2)) = σ2 at f2 q0 q1 q2 ⊢
  have f2' : zFr (wTs ns) σ1 σ2 := f2.mono (fun j c k q => by unfold wTs; omega)
  have l2 := f2.lay l1 (fun _ _ _ _ => by omega)
  have e142 : zI σ2 1 4 = nI ns := by rw [f2.i (by omega)]; exact e141
  refine (bX11_keepStick_47 l2).mpr ⟨rfl, ?_⟩
  rw [e142, nI_1]
  refine (bX11_text_26 l2.I).mpr (zn (fun q => ?_) (h1 (by omega) z _ l2.I.I ?_ ?_ ?_ ?_ ?_ ?_ (fun c k a => ?_)))
  · have := congrArg Int32.toInt q
    rw [ai_n (by omega)] at this
    exact absurd this (by rw [km1]; omega)
  · rw [zI_ne (by omega), zI_ne (by omega)]; exact q0
  · rw [zI_ne (by omega), zI_ne (by omega)]; exact q1
  · rw [zI_ne (by omega), zI_ne (by omega)]; exact q2
  · rw [zI_self, pk_us]; rfl
  · rw [zI_ne (by decide), zI_self, pk_us]
  · refine ((f1.mono (fun j c k q => (Or.inl q : wTs ns j c k))).trans f2').trans (zFr.trans (σ1 := zsI σ2 1 (upd (zI σ2 1) 4 (nI (ns + 1)))) (zFr_U (by omega)) (zFr_U (by omega)))
  · rw [zI_ne (by omega), zI_ne (by omega), f2.i (by omega), f1.i (by unfold pWz; omega)]
theorem m_text1 {len ns : Nat} {x : Int32} {t : Nat → Int} (hx : x.toInt = 1) (hl : zLay σ) (e2 : zI σ 131 2 = nI len) (hn : len ≤ 160) (et : tM σ = t) (ht : ∀ i, i < len → 1 ≤ t i) (e12 : zI σ 131 12 = nI ns) (h10 : ns ≤ 10)
    (h0 : ns = 10 ∨ (rsk t len).1 ≠ -1 → ∀ σ', zFr wFa σ σ' → Q (some (.int (-1))) σ')
    (h1 : ns < 10 → (rsk t len).1 = -1 → ∀ σ', zLay σ' → mDr σ' ns (rsk t len).2 → zI σ' 131 2 = nI 0 → zI σ' 131 12 = nI (ns + 1) → zFr (fun j c k => wTs ns j c k ∧ j = 0 ∧ 131 ≤ c) σ σ' → Q (some (.int (nI ns))) σ') : zCall (d + 5) kX12_text [.ref 131, .int x] σ Q := by
  refine (bX12_text_0 hl).mpr ?_
  have f1 : zFr wFa σ (zsI σ 131 (upd (zI σ 131) 0 0)) := zFr_U (by unfold wFa; omega)
  have l1 : zLay (zsI σ 131 (upd (zI σ 131) 0 0)) := hl.I
  generalize zsI σ 131 (upd (zI σ 131) 0 0) = σ1 at f1 l1 ⊢
  have e21 : zI σ1 131 2 = nI len := by rw [f1.i (by unfold wFa; omega)]; exact e2
  have e121 : zI σ1 131 12 = nI ns := by rw [f1.i (by unfold wFa; omega)]; exact e12
  have et1 : tM σ1 = t := (tM_fr f1 (fun k => by unfold wFa; omega)).trans et
  refine m_isIn l1 ⟨rfl, (bX12_text_11 l1).mpr ?_⟩
  rw [k0, k1, e121]
  refine zt0 (fun c => zeq' hx k0 (fun z => by omega) (fun _ => zeq' (ai_n (by omega)) k10 (fun z6 => h0 (Or.inl (by omega)) σ1 f1) (fun z6 => ?_))) (fun c => by omega)
  refine (bX12_text_39 l1).mpr (m_fault (d := d) l1 e21 hn et1 ht (fun v σ2 hv f2 => ⟨rfl, ?_⟩))
  have l2 := wFa_lay f2 l1
  have f02 := f1.trans f2
  rw [hx, fz_1] at hv
  refine (bX12_text_44 l2).mpr (zeq' hv km1 (fun z => zeq' hx k0 (fun z => by omega) (fun _ => ?_)) (fun z => h0 (Or.inr z) σ2 f02))
  have e122 : zI σ2 131 12 = nI ns := by rw [f02.i (by unfold wFa; omega)]; exact e12
  rw [e122]
  refine m_readStick (d := d + 1) (s := ns) l2 (by omega) (by rw [f02.i (by unfold wFa; omega)]; exact e2) hn ((tM_fr f02 (fun k => by unfold wFa; omega)).trans et) ht (fun σ3 hv3 f3 g3 => ⟨rfl, ?_⟩)
  have l3 := f3.lay l2 (fun _ _ _ _ => by unfold wRs; omega)
  have f03 : zFr (fun j c k => wTs ns j c k ∧ j = 0 ∧ 131 ≤ c) σ σ3 := (f02.mono (fun j c k q => by unfold wFa at q; unfold wTs; omega)).trans (f3.mono (fun j c k q => by unfold wRs at q; unfold wTs; omega))
  have e123 : zI σ3 131 12 = nI ns := by rw [f3.i (by unfold wRs; omega)]; exact e122
  refine (bX12_text_73 l3).mpr (zeq' hx k0 (fun z => by omega) (fun _ => ?_))
  rw [e123, nI_1]
  rw [show (nI (ns + 1) - 1 : Int32) = nI ns from zint (by
    rw [zsub (ai_n (by omega)) k1 (by omega) (by omega), ai_n (by omega)]
    omega)]
  refine h1 (by omega) z _ l3.I (mDr_fr (W := fun j c k => c = 131) (zFr_I (fun k => Or.inl rfl)) (fun c _ _ => by omega) (g3 z)) ?_ ?_ (f03.trans (zFr_UU (by unfold wTs; omega) (by unfold wTs; omega)))
  · rw [zI_self, pk_un (by decide), pk_us]; rfl
  · rw [zI_self, pk_us]
theorem e_text {nb ns : Nat} (g : iA σ nb ns) (x : Int32) : eCall kX11_text kX12_text [.int x] [.int x] σ := by
  obtain ⟨len, t1, t2, t3, t4⟩ := g.2.1
  have h6 := g.nb6
  have h10 := g.ns10
  have eq : ∀ i, i < len → tP σ i = tM σ i := fun i hi => congrArg Int32.toInt (t4 i hi).1
  have ht : ∀ i, i < len → 1 ≤ tM σ i := fun i hi => by rw [← eq i hi]; exact (t4 i hi).2.1
  have no : ∀ {σ1 σ2 : zS}, zFr pWz σ σ1 → zFr wFa σ1 σ2 → some (Value.int (-1)) = some (Value.int (-1)) ∧ Inv σ2 ∧ zSam σ1 σ2 := fun f1 f2 => ⟨rfl, ⟨nb, ns, iA_fr ((pWz_s f1).trans (wFa_s f2)) (wFa_lay f2 (pWz_lay f1 g.1)) g⟩, zSam.fr f2 (fun k => by unfold wFa; omega)⟩
  have sm : ∀ {σ1 : zS}, zFr pWz σ σ1 → zSam σ σ1 := fun f1 => zSam.fr f1 (fun k => by unfold pWz; omega)
  have em : ∀ {σ1 : zS}, zFr pWz σ σ1 → zI σ1 131 2 = nI len ∧ tM σ1 = tM σ ∧ zI σ1 131 11 = nI nb ∧ zI σ1 131 12 = nI ns := fun {σ1} f1 => ⟨by rw [f1.i (by unfold pWz; omega)]; exact t3, tM_fr f1 (fun k => by unfold pWz; omega), by rw [f1.i (by unfold pWz; omega)]; exact g.e11, by rw [f1.i (by unfold pWz; omega)]; exact g.e12⟩
  by_cases x0 : x.toInt = 0
  · have er := rbk_c eq
    refine p_text0 (d := 9) x0 g.1 t2 t1 g.e2 h6 (fun c σ1 f1 => ⟨-1, rfl, pWz_lay f1 g.1, sm f1, ?_⟩) (fun c6 c σ1 l1 pb z21 z12 f1 fc => ⟨nI nb, rfl, l1, zSam.fr f1 (fun k => by unfold wTb pWz; omega), ?_⟩)
    · obtain ⟨m1, m2, m3, m4⟩ := em f1
      rw [er] at c
      exact m_text0 (d := 8) x0 (pWz_lay f1 g.1) m1 t1 m2 ht m3 h6 (fun _ σ2 f2 => no f1 f2) (fun a b => c.elim (fun q => by omega) (fun q => absurd b q))
    · rw [er] at c pb
      have fm : ∀ c k, 131 ≤ c → zI σ1 c k = zI σ c k := fun c k a => fc c k (by omega) (by omega)
      refine m_text0 (d := 8) (t := tM σ) x0 l1 (by rw [fm _ _ (by omega)]; exact t3) t1 (funext (fun i => by unfold tM; rw [fm _ _ (by omega)])) ht (by rw [fm _ _ (by omega)]; exact g.e11) h6 (fun c2 => c2.elim (fun q => by omega) (fun q => absurd c q)) (fun _ _ σ2 l2 q1 q2 q3 q4 q5 f2 => ⟨rfl, ⟨nb + 1, ns, ?_⟩, zSam.fr f2 (fun k => by omega)⟩)
      have ok := rbk_ok c
      have e1 : (mB σ2 nb).2.1 = ((rbk (tM σ) len).2.1 : Int) := by
        show (zI σ2 134 nb).toInt = _
        rw [q1]
        have := ok.2.1
        have e : ((rbk (tM σ) len).2.1 : Int) ≤ 6 := this
        exact ai_n (by omega)
      have e2 : (mB σ2 nb).2.2 = ((rbk (tM σ) len).2.2.1 : Int) := by
        show (zI σ2 135 nb).toInt = _
        rw [q2]
        have := ok.2.2.2.1
        have e : ((rbk (tM σ) len).2.2.1 : Int) ≤ 16 := this
        exact ai_n (by omega)
      have e3 : ∀ y x' : Nat, y < 6 → x' < 16 → y < (rbk (tM σ) len).2.1 → x' < (rbk (tM σ) len).2.2.1 → (mB σ2 nb).1 y x' = (rbk (tM σ) len).2.2.2 y x' := fun y x' a b c1 c2 => by
        show (if y < 6 ∧ x' < 16 then (zI σ2 133 (16 * (6 * nb + y) + x')).toInt else 0) = _
        rw [if_pos ⟨a, b⟩]
        exact q3 y x' a b c1 c2
      have o1 : (2 : Int) ≤ ((rbk (tM σ) len).2.1 : Int) := ok.1
      have o2 : ((rbk (tM σ) len).2.1 : Int) ≤ 6 := ok.2.1
      have o3 : (4 : Int) ≤ ((rbk (tM σ) len).2.2.1 : Int) := ok.2.2.1
      have o4 : ((rbk (tM σ) len).2.2.1 : Int) ≤ 16 := ok.2.2.2.1
      have okB : aBok (mB σ2 nb) := by
        refine ⟨by omega, by omega, by omega, by omega, fun y x' a b => ?_⟩
        rw [e3 y x' (by omega) (by omega) (by omega) (by omega)]
        exact ok.2.2.2.2 y x' (by show (y : Int) < ((rbk (tM σ) len).2.1 : Int); omega) (by show (x' : Int) < ((rbk (tM σ) len).2.2.1 : Int); omega)
      have pb2 : pBk σ2 (97 + 4 * nb) ((rbk (tM σ) len).2.2.2, ((rbk (tM σ) len).2.1 : Int), ((rbk (tM σ) len).2.2.1 : Int)) := pBk_fr f2 ⟨fun k => by omega, fun k => by omega, fun k => by omega, fun k => by omega⟩ pb
      have f12 : zFr (wTb nb) σ σ2 := f1.trans (f2.mono (fun j c k q => q.1))
      refine iA_text f12 l2 g c6 ?_ q4 ?_ q5 okB ?_
      · rw [f2.i (by omega)]; exact z21
      · rw [f2.i (by omega)]; exact z12
      · obtain ⟨p0, p1, p2, p3, p4, p5⟩ := pb2
        refine ⟨p0, p1.trans e1.symm, p2.trans e2.symm, fun y x' a b c1 c2 => ?_, fun x' k a b => ?_, fun x' k a b => ?_⟩
        · rw [e3 y x' a b (by omega) (by omega)]
          exact p3 y x' a b (by show (y : Int) < ((rbk (tM σ) len).2.1 : Int); omega) (by show (x' : Int) < ((rbk (tM σ) len).2.2.1 : Int); omega)
        · rw [p4 x' k a b]
          show ((k : Int) < ((rbk (tM σ) len).2.1 : Int) ∧ (x' : Int) < ((rbk (tM σ) len).2.2.1 : Int) ∧ (rbk (tM σ) len).2.2.2 k x' = 0) ↔ _
          rw [e1, e2]
          constructor
          · rintro ⟨a1, a2, a3⟩
            exact ⟨a1, a2, by rw [e3 k x' (by omega) (by omega) (by omega) (by omega)]; exact a3⟩
          · rintro ⟨a1, a2, a3⟩
            exact ⟨a1, a2, by rw [← e3 k x' (by omega) (by omega) (by omega) (by omega)]; exact a3⟩
        · rw [p5 x' k a b]
          show ((k : Int) < ((rbk (tM σ) len).2.1 : Int) ∧ (x' : Int) < ((rbk (tM σ) len).2.2.1 : Int) ∧ (rbk (tM σ) len).2.2.2 k x' = 10) ↔ _
          rw [e1, e2]
          constructor
          · rintro ⟨a1, a2, a3⟩
            exact ⟨a1, a2, by rw [e3 k x' (by omega) (by omega) (by omega) (by omega)]; exact a3⟩
          · rintro ⟨a1, a2, a3⟩
            exact ⟨a1, a2, by rw [← e3 k x' (by omega) (by omega) (by omega) (by omega)]; exact a3⟩
  · by_cases x1 : x.toInt = 1
    · have er := rsk_c eq
      refine p_text1 (d := 9) x1 g.1 t2 t1 g.e4 h10 (fun c σ1 f1 => ⟨-1, rfl, pWz_lay f1 g.1, sm f1, ?_⟩) (fun c6 c σ1 l1 s0 s1 s2 z21 z14 f1 fm => ⟨nI ns, rfl, l1, zSam.fr f1 (fun k => by unfold wTs pWz; omega), ?_⟩)
      · obtain ⟨m1, m2, m3, m4⟩ := em f1
        rw [er] at c
        exact m_text1 (d := 8) x1 (pWz_lay f1 g.1) m1 t1 m2 ht m4 h10 (fun _ σ2 f2 => no f1 f2) (fun a b => c.elim (fun q => by omega) (fun q => absurd b q))
      · rw [er] at c s0 s1 s2
        refine m_text1 (d := 8) (t := tM σ) x1 l1 (by rw [fm _ _ (by omega)]; exact t3) t1 (funext (fun i => by unfold tM; rw [fm _ _ (by omega)])) ht (by rw [fm _ _ (by omega)]; exact g.e12) h10 (fun c2 => c2.elim (fun q => by omega) (fun q => absurd c q)) (fun _ _ σ2 l2 q1 q4 q5 f2 => ⟨rfl, ⟨nb, ns + 1, ?_⟩, zSam.fr f2 (fun k => by omega)⟩)
        have ok := rsk_ok c
        obtain ⟨m0, m1, m2⟩ := q1
        have f12 : zFr (wTs ns) σ σ2 := f1.trans (f2.mono (fun j c k q => q.1))
        refine iA_texts f12 l2 g c6 ?_ q4 ?_ q5 ⟨by rw [m0]; exact ok.1, by rw [m1]; exact ok.2.1, by rw [m2]; exact ok.2.2, ?_, ?_, ?_⟩
        · rw [f2.i (by omega)]; exact z21
        · rw [f2.i (by omega)]; exact z14
        · rw [f2.i (by omega)]; exact zint (s0.trans m0.symm)
        · rw [f2.i (by omega)]; exact zint (s1.trans m1.symm)
        · rw [f2.i (by omega)]; exact zint (s2.trans m2.symm)
    · refine (bX11_text_0 g.1).mpr (p_fault (d := 9) g.1 t2 t1 (fun v σ1 hv f1 _ _ => ⟨rfl, ?_⟩))
      have l1 := pWz_lay f1 g.1
      rw [fz_2 x0 x1] at hv
      refine (bX11_text_5 l1).mpr (zeq' hv km1 (fun z => by omega) (fun _ => ⟨-1, rfl, l1, sm f1, ?_⟩))
      have f2 : zFr wFa σ1 (zsI σ1 131 (upd (zI σ1 131) 0 0)) := zFr_U (by unfold wFa; omega)
      refine (bX12_text_0 l1).mpr (m_isIn l1.I ⟨rfl, (bX12_text_11 l1.I).mpr ?_⟩)
      rw [k0, k1]
      exact zt0 (fun c => by omega) (fun _ => no f1 f2)
end TEXT
