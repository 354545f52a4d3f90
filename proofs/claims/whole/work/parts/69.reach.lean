/-! the verb reach -/
section REACH
variable {d : Nat} {Q : Option Value → zS → Prop}
theorem m_rput {x1 x2 x3 x4 x5 x6 v : Int32} :
    ∀ (R : List Int) (σ : zS), zLay σ → R.length < 40 → rowR (zI σ 163) R →
    (∀ (w : Int32) (σ' : zS), rowR (zI σ' 163) (rPut v.toInt R) → (∀ k, R.length < k → zI σ' 163 k = zI σ 163 k) → zFr (fun j c _ => j = 0 ∧ c = 163) σ σ' → zW (d + 1) kX12_reach 57 [.ref 131, .int x1, .int x2, .int x3, .int x4, .int x5, .int (x6 + 1), .int v, .int w] [] σ' Q) → zW (d + 1) kX12_reach 80 [.ref 131, .int x1, .int x2, .int x3, .int x4, .int x5, .int x6, .int v, .int (nI R.length)] [] σ Q := by
  have stop : ∀ (R : List Int) (σ : zS), zLay σ → R.length < 40 → rowR (zI σ 163) R → rPut v.toInt R = v.toInt :: R →
    (∀ (w : Int32) (σ' : zS), rowR (zI σ' 163) (rPut v.toInt R) → (∀ k, R.length < k → zI σ' 163 k = zI σ 163 k) → zFr (fun j c _ => j = 0 ∧ c = 163) σ σ' → zW (d + 1) kX12_reach 57 [.ref 131, .int x1, .int x2, .int x3, .int x4, .int x5, .int (x6 + 1), .int v, .int w] [] σ' Q) → zW (d + 1) kX12_reach 121 [.ref 131, .int x1, .int x2, .int x3, .int x4, .int x5, .int x6, .int v, .int (nI R.length)] [] σ Q := by
    intro R σ hl hR hr er h
    refine (bX12_reach_121 hl).mpr ⟨vp_in_nI hR (by decide), ?_⟩
    rw [nI_clamp (by omega)]
    refine h _ _ ?_ (fun k hk2 => ?_) (zFr_U ⟨rfl, rfl⟩)
    · rw [er, zI_self]
      refine ⟨by rw [pk_us], rowR_c hr (fun k q => pk_un (by omega))⟩
    · rw [zI_self, pk_un (by omega)]
  intro R
  induction R with
  | nil =>
    intro σ hl hR hr h
    exact (bX12_reach_80 hl).mpr (zle' (ai_n (by decide)) k0 (fun _ => stop [] σ hl hR hr rfl h) (fun q => by simp at q))
  | cons x R ih =>
    intro σ hl hR hr h
    simp only [List.length_cons] at hR
    have ep : (nI (x :: R).length - 1 : Int32) = nI R.length := nI_pred _
    refine (bX12_reach_80 hl).mpr (zle' (ai_n (by simp only [List.length_cons]; omega)) k0 (fun q => by simp only [List.length_cons] at q; omega) (fun _ => ?_))
    rw [ep]
    refine ⟨vp_in_nI (by omega) (by decide), ?_⟩
    rw [nI_clamp (by omega)]
    refine zle' hr.1 rfl (fun q => stop (x :: R) σ hl (by simp only [List.length_cons]; omega) hr (by unfold rPut; rw [if_neg (by omega)]) h) (fun q => ?_)
    refine ⟨vp_in_nI (by omega) (by decide), vp_in_nI (by simp only [List.length_cons]; omega) (by decide), ?_⟩
    have em : (nI (x :: R).length + (-1) : Int32) = nI R.length := pk_m1 _
    rw [em, nI_clamp (show (x :: R).length < 2 ^ 31 by simp only [List.length_cons]; omega)]
    have g1 : zI (zsI σ 163 (upd (zI σ 163) (x :: R).length (zI σ 163 R.length))) 163 = upd (zI σ 163) (x :: R).length (zI σ 163 R.length) := zI_self
    refine ih _ hl.I (by omega) (by rw [g1]; exact rowR_c hr.2 (fun k q2 => pk_un (by simp only [List.length_cons]; omega))) (fun w σ' q1 q2 q5 => h w σ' ?_ (fun k hk2 => ?_) ((zFr_U ⟨rfl, rfl⟩).trans q5))
    · unfold rPut
      rw [if_pos q]
      refine ⟨?_, q1⟩
      rw [rPut_l, q2 _ (by omega), g1]
      show (upd _ (R.length + 1) _ (R.length + 1)).toInt = x
      rw [pk_us]
      exact hr.1
    · simp only [List.length_cons] at hk2
      rw [q2 k (by omega), g1, pk_un (by simp only [List.length_cons]; omega)]
theorem m163_q {σ σ' : zS} (h : zFr (fun j c _ => j = 0 ∧ c = 163) σ σ') : zFr mWq σ σ' := h.mono (fun j c k q => by unfold mWq; omega)
/-- what a question that only reads leaves alone -/
theorem mWq_cx {σ σ' : zS} {b s : Nat} (hb : b < 7) (hl : zLay σ) (f : zFr mWq σ σ') : zLay σ' ∧ mB σ' b = mB σ b ∧ mW σ' = mW σ ∧ zI σ' 131 43 = zI σ 131 43 ∧ (∀ y, mG σ' s y = mG σ s y) := by
  refine ⟨f.lay hl (fun _ _ _ _ => mWq_2), mB_fr f b ⟨fun k => by unfold mWq; omega, fun k => by unfold mWq; omega, fun k => by unfold mWq; omega⟩, mW_fr f ⟨by unfold mWq; omega, by unfold mWq; omega, by unfold mWq; omega⟩, f.i (by unfold mWq; omega), fun y => ?_⟩
  unfold mG
  rw [f.i (show ¬ mWq 0 136 s by unfold mWq; omega), f.i (show ¬ mWq 0 137 s by unfold mWq; omega), f.i (show ¬ mWq 0 138 s by unfold mWq; omega)]
theorem m_reach_l {b s n : Nat} {B : aBk} {W : aWx} {y z : Int32} {G : Nat → Int} (hb : b < 7) (hB : aBok B) (hW : aWok W) (hs : s < 11) (hG : aGst B G) (hn : n ≤ 40) :
    ∀ (m k : Nat) (σ : zS) (v7 v8 : Value), n - k = m → k ≤ n → v7.category = 1 → v8.category = 1 → zLay σ → mB σ b = B → mW σ = W → zI σ 131 43 = 0 → mG σ s y.toInt = G → rowR (zI σ 163) (aTimes (fun k => aAl B W G (aSd k)) k) →
    (∀ (v7 v8 : Value) (σ' : zS), v7.category = 1 → v8.category = 1 → zLay σ' → rowR (zI σ' 163) (aTimes (fun k => aAl B W G (aSd k)) n) → zFr mWq σ σ' → zW (d + 11) kX12_reach 57 [.ref 131, .int (nI b), .int (nI s), .int y, .int (nI n), .int z, .int (nI n), v7, v8] [] σ' Q) →
    zW (d + 11) kX12_reach 57 [.ref 131, .int (nI b), .int (nI s), .int y, .int (nI n), .int z, .int (nI k), v7, v8] [] σ Q := by
  intro m
  induction m with
  | zero =>
    intro k σ v7 v8 hm hk c7 c8 hl eB eW h43 eG hr h
    have e : k = n := by omega
    subst e
    exact h v7 v8 σ c7 c8 hl hr (zFr.refl _ _)
  | succ m ih =>
    intro k σ v7 v8 hm hk c7 c8 hl eB eW h43 eG hr h
    refine (bX12_reach_57 hl c7 c8).mpr (zle' (ai_n (by omega)) (ai_n (by omega)) (fun q => by omega) (fun _ => ?_))
    refine m_aBy (d := d) hl hb eB hB eW hW h43 hs (by rw [eG]; exact hG) (fun v σ1 hv f1 => ⟨rfl, ?_⟩)
    rw [eG] at hv
    have f1q := nWq_q f1
    obtain ⟨l1, eB1, eW1, e43, eG1⟩ := mWq_cx (s := s) hb hl f1q
    have e163 : zI σ1 163 = zI σ 163 := funext (fun k => f1.i (by unfold nWq; omega))
    refine (bX12_reach_74 l1 c7 c8).mpr ?_
    have z := m_rput (d := d + 10) (Q := Q) (x1 := nI b) (x2 := nI s) (x3 := y) (x4 := nI n) (x5 := z) (x6 := nI k) (v := v) (aTimes (fun k => aAl B W G (aSd k)) k) σ1 l1 (by rw [aTimes_l]; omega) (by rw [e163]; exact hr)
    rw [aTimes_l] at z
    refine z (fun w σ2 q1 _ f2 => ?_)
    have f2q := m163_q f2
    obtain ⟨l2, eB2, eW2, e432, eG2⟩ := mWq_cx (s := s) hb l1 f2q
    rw [nI_1]
    refine ih (k + 1) σ2 _ _ (by omega) (by omega) (zcat_i _) (zcat_i _) l2 (by rw [eB2, eB1]; exact eB) (by rw [eW2, eW1]; exact eW) (by rw [e432, e43]; exact h43) (by rw [eG2, eG1]; exact eG) ?_ (fun v7 v8 σ' p1 p2 p3 p4 p5 => h v7 v8 σ' p1 p2 p3 p4 ((f1q.trans f2q).trans p5))
    rw [hv] at q1
    exact q1
theorem nI_half {n : Nat} (h0 : 1 ≤ n) (hn : n ≤ 40) : ((nI n - 1) / 2 : Int32) = nI ((n - 1) / 2) := by
  refine zint ?_
  rw [zdiv (zsub (ai_n (by omega)) k1 (by omega) (by omega)) k2 (by omega) (by omega), ai_n (by omega)]
  omega
theorem nI_less {n : Nat} (h0 : 1 ≤ n) (hn : n ≤ 40) : (nI n - 1 : Int32) = nI (n - 1) := by
  refine zint ?_
  rw [zsub (ai_n (by omega)) k1 (by omega) (by omega), ai_n (by omega)]
  omega
/-- which of n times is asked -/
def iWh (z : Int) (n : Nat) : Nat := if z = 0 then 0 else if z = 1 then n - 1 else (n - 1) / 2
theorem iWh_lt {z : Int} {n : Nat} (h : 1 ≤ n) : iWh z n < n := by
  unfold iWh
  split
  · omega
  · split <;> omega
end REACH
section REACHE
variable {σ : zS} {nb ns : Nat}
theorem e_reach (g : iA σ nb ns) (b s y n z : Int32) : eCall kX11_reach kX12_reach [.int b, .int s, .int y, .int n, .int z] [.int b, .int s, .int y, .int n, .int z] σ := by
  have h6 := g.nb6
  have h10 := g.ns10
  rcases a_cs b nb with ⟨b, hb, rfl, -⟩ | hx
  · have hB := g.bok hb
    rcases a_cs s ns with ⟨s, hs, rfl, -⟩ | hx
    · have hS := g.stk hs
      by_cases c : (1 ≤ n.toInt ∧ n.toInt ≤ 40) ∧ (0 ≤ z.toInt ∧ z.toInt ≤ 2)
      · obtain ⟨n, hn, rfl, eN⟩ := ai_nx (x := n) (by omega)
        have hN : n ≤ 40 := by omega
        have hN1 : 1 ≤ n := by omega
        have hi := iWh_lt (z := z.toInt) hN1
        refine e_q g (zif (aCan (mB σ b) (mW σ) (zI σ 136 s).toInt 0 y.toInt) ((aTimes (fun k => aAl (mB σ b) (mW σ) (mG σ s y.toInt) (aSd k)) n).getD (n - 1 - iWh z.toInt n) 0) (-1)) (fun Q h => (bX11_reach_0 g.1).mpr (p_nb0 g.1 g.e2 h6 hb ⟨rfl, (bX11_reach_5 g.1).mpr (zy rfl (p_ns0 g.1 g.e4 h10 hs ⟨rfl, (bX11_reach_13 g.1).mpr (zy rfl (p_sd g.1 (fun _ _ => ⟨rfl, (bX11_reach_21 g.1).mpr (zy rfl (zlt' rfl k0 (fun q => absurd q (by omega)) (fun _ => zle' rfl k2 (fun _ => ⟨vp_in_nI (by omega) (by decide), ?_⟩) (fun q => absurd q (by omega)))))⟩) (fun q => absurd c.1 q)))⟩))⟩)) (fun σ1 σ2 Q l1 e2 g2 f2 h => ?_)
        · rw [zR_bk g.1 (by omega)]
          refine (bX11_reach_44 g.1 (zk_bk (by omega))).mpr ⟨vp_in_nI (by omega) (by decide), ?_⟩
          rw [zR_sk g.1 (by omega)]
          refine (bX11_reach_50 g.1 (zk_sk (by omega)) (zk_bk (by omega))).mpr (p_time (d := 7) g.1 (g.bp hb) hB (zk_sk (by omega)) (mG_p (y := y.toInt) hS) rfl (mG_ok hS) g.wp g.wok hN (fun v σ1 q1 q2 f1n => ⟨rfl, ?_⟩))
          have f1 := pWv_z f1n
          have l1 := pWz_lay f1 g.1
          refine (bX11_reach_56 l1).mpr ?_
          by_cases cc : aCan (mB σ b) (mW σ) (zI σ 136 s).toInt 0 y.toInt
          · obtain ⟨r1, r2, r3⟩ := q1 cc
            have bd := aSum_9 (m := 99) (f := fun k => aAl (mB σ b) (mW σ) (mG σ s y.toInt) (aSd k)) (fun k => aAl_b hB g.wok (aGst_c hS cc)) (by omega) n
            have hne : ¬ v = -1 := fun q => by
              rw [q, km1] at r1
              omega
            have at_ : ∀ (i : Nat) (P : Option Value → zS → Prop), i < n → (∀ w : Int32, w.toInt = (aTimes (fun k => aAl (mB σ b) (mW σ) (mG σ s y.toInt) (aSd k)) n).getD (n - 1 - i) 0 → P (some (.int w)) σ1) → zCall 12 kX3_at [.ref 83, .int (nI i)] σ1 P := fun i P hi hh =>
              p_rowAt (R := aTimes (fun k => aAl (mB σ b) (mW σ) (mG σ s y.toInt) (aSd k)) n) zk_83 l1 (by rw [aTimes_l]; exact r3) (by rw [aTimes_l]; omega) r2 (by rw [aTimes_l]; exact hi) (fun w hw => hh w (by rw [aTimes_l] at hw; exact hw))
            rw [zif_t cc] at h
            unfold iWh at h
            refine zn hne (zeq' rfl k0 (fun q => ?_) (fun q => zeq' rfl k1 (fun q2 => ?_) (fun q2 => ⟨by decide, ?_⟩)))
            · rw [if_pos q] at h
              exact at_ 0 _ (by omega) (fun w hw => ⟨rfl, (bX11_reach_75 l1).mpr (h w σ1 hw f1)⟩)
            · rw [if_neg q, if_pos q2] at h
              rw [nI_less hN1 hN]
              exact at_ _ _ (by omega) (fun w hw => ⟨rfl, (bX11_reach_93 l1).mpr ((bX11_reach_109 l1).mpr (h w σ1 hw f1))⟩)
            · rw [if_neg q, if_neg q2] at h
              rw [nI_half hN1 hN]
              exact at_ _ _ (by omega) (fun w hw => ⟨rfl, (bX11_reach_109 l1).mpr (h w σ1 hw f1)⟩)
          · exact zy (q2 cc) (h _ σ1 (by rw [zif_f cc]; rfl) f1)
        · have eB := iS_mB f2 (b := b) (by omega)
          have eG := iS_mG f2 (s := s) (by omega) y.toInt
          have e136 := f2.i (show ¬ iSafe 0 136 s by unfold iSafe; omega)
          have hS2 := g2.stk hs
          refine (bX12_reach_0 l1).mpr ?_
          rw [e2]
          refine m_ib1 g2.1 g2.e11 h6 hb ⟨rfl, (bX12_reach_10 g2.1).mpr (zn (by decide) (m_is1 g2.1 g2.e12 h10 hs ⟨rfl, (bX12_reach_18 g2.1).mpr (zn (by decide) (m_cb g2.1 (by omega) eB hB (iS_mW f2) (by omega) hS2.1 ⟨rfl, (bX12_reach_28 g2.1).mpr (zt0 (fun cc => ?_) (fun cc => h _ σ2 ?_ (zFr.refl _ _)))⟩))⟩))⟩
          · have gs := aGst_c hS2 cc
            rw [e136] at cc
            rw [eG] at gs
            rw [zif_t cc] at h
            refine m_isIn g2.1 ⟨rfl, (bX12_reach_39 g2.1).mpr (zt0 (fun _ => m_isIn g2.1 ⟨rfl, (bX12_reach_49 g2.1).mpr (zt0 (fun _ => ?_) (fun q => absurd (by rw [k0, k2]; exact c.2) q))⟩) (fun q => absurd (by rw [k1, k40]; exact c.1) q))⟩
            refine m_reach_l (d := 2) (by omega) hB g.wok (by omega) gs hN n 0 σ2 _ _ (by omega) (by omega) (zcat_r _) (zcat_r _) g2.1 eB (iS_mW f2) g2.r43 eG trivial (fun v7 v8 σ3 c7 c8 l3 r3 f3 => ?_)
            have at_ : ∀ i, i < n → (zI σ3 163 (nI i).toNatClampNeg).toInt = (aTimes (fun k => aAl (mB σ b) (mW σ) (mG σ s y.toInt) (aSd k)) n).getD (n - 1 - i) 0 := fun i hi => by
              rw [nI_clamp (by omega), rowR_at i r3 (by rw [aTimes_l]; exact hi), aTimes_l]
            unfold iWh at h
            refine (bX12_reach_57 l3 c7 c8).mpr (zle' (ai_n (by omega)) (ai_n (by omega)) (fun _ => zeq' rfl k0 (fun q => ⟨(vp_in_nI (by omega) (by decide) : vp_in (nI 0) 40), h _ σ3 ?_ f3⟩) (fun q => zeq' rfl k1 (fun q2 => ?_) (fun q2 => ⟨by decide, ?_⟩))) (fun q => by omega))
            · rw [if_pos q]; exact at_ 0 (by omega)
            · rw [nI_less hN1 hN]
              refine ⟨vp_in_nI (by omega) (by decide), h _ σ3 ?_ f3⟩
              rw [if_neg q, if_pos q2]; exact at_ _ (by omega)
            · rw [nI_half hN1 hN]
              refine ⟨vp_in_nI (by omega) (by decide), h _ σ3 ?_ f3⟩
              rw [if_neg q, if_neg q2]; exact at_ _ (by omega)
          · rw [e136] at cc
            rw [zif_f cc]; rfl
      · refine e_q g (-1) (fun Q h => ?_) (fun σ1 σ2 Q l1 e2 g2 f2 h => ?_)
        · exact (bX11_reach_0 g.1).mpr (p_nb0 g.1 g.e2 h6 hb ⟨rfl, (bX11_reach_5 g.1).mpr (zy rfl (p_ns0 g.1 g.e4 h10 hs ⟨rfl, (bX11_reach_13 g.1).mpr (zy rfl (p_sd g.1 (fun q1 q2 => ⟨rfl, (bX11_reach_21 g.1).mpr (zy rfl (zlt' rfl k0 (fun q => h _ σ km1 (zFr.refl _ _)) (fun q3 => zle' rfl k2 (fun q4 => absurd ⟨⟨q1, q2⟩, q3, q4⟩ c) (fun q => h _ σ km1 (zFr.refl _ _)))))⟩) (fun q => ⟨rfl, (bX11_reach_21 g.1).mpr (zn (by decide) (h _ σ km1 (zFr.refl _ _)))⟩)))⟩))⟩)
        · have eB := iS_mB f2 (b := b) (by omega)
          have hS2 := g2.stk hs
          refine (bX12_reach_0 l1).mpr ?_
          rw [e2]
          exact m_ib1 g2.1 g2.e11 h6 hb ⟨rfl, (bX12_reach_10 g2.1).mpr (zn (by decide) (m_is1 g2.1 g2.e12 h10 hs ⟨rfl, (bX12_reach_18 g2.1).mpr (zn (by decide) (m_cb g2.1 (by omega) eB hB (iS_mW f2) (by omega) hS2.1 ⟨rfl, (bX12_reach_28 g2.1).mpr (zt0 (fun cc => m_isIn g2.1 ⟨rfl, (bX12_reach_39 g2.1).mpr (zt0 (fun q => m_isIn g2.1 ⟨rfl, (bX12_reach_49 g2.1).mpr (zt0 (fun q2 => absurd ⟨by rw [k1, k40] at q; exact q, by rw [k0, k2] at q2; exact q2⟩ c) (fun _ => h _ σ2 km1 (zFr.refl _ _)))⟩) (fun _ => h _ σ2 km1 (zFr.refl _ _)))⟩) (fun cc => h _ σ2 km1 (zFr.refl _ _)))⟩))⟩))⟩
    · refine e_q g (-1) (fun Q h => (bX11_reach_0 g.1).mpr (p_nb0 g.1 g.e2 h6 hb ⟨rfl, (bX11_reach_5 g.1).mpr (zy rfl (p_ns1 g.1 g.e4 h10 hx ⟨rfl, (bX11_reach_13 g.1).mpr (zn (by decide) (h _ σ km1 (zFr.refl _ _)))⟩))⟩)) (fun σ1 σ2 Q l1 e2 g2 f2 h => ?_)
      refine (bX12_reach_0 l1).mpr ?_
      rw [e2]
      exact m_ib1 g2.1 g2.e11 h6 hb ⟨rfl, (bX12_reach_10 g2.1).mpr (zn (by decide) (m_is0 g2.1 g2.e12 h10 hx ⟨rfl, (bX12_reach_18 g2.1).mpr (zy rfl (h _ σ2 km1 (zFr.refl _ _)))⟩))⟩
  · refine e_q g (-1) (fun Q h => (bX11_reach_0 g.1).mpr (p_nb1 g.1 g.e2 h6 hx ⟨rfl, (bX11_reach_5 g.1).mpr (zn (by decide) (h _ σ km1 (zFr.refl _ _)))⟩)) (fun σ1 σ2 Q l1 e2 g2 f2 h => ?_)
    refine (bX12_reach_0 l1).mpr ?_
    rw [e2]
    exact m_ib0 g2.1 g2.e11 h6 hx ⟨rfl, (bX12_reach_10 g2.1).mpr (zy rfl (h _ σ2 km1 (zFr.refl _ _)))⟩
end REACHE
