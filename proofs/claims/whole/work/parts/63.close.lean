/-! close and same -/
theorem aTp_Ti {B : aBk} {W : aWx} {n : Nat} {F : aFn} {k : Nat} (h2 : 2 ≤ n) : aTp n (aR B W n F k) = aTi n (aR B W n F k) := by
  have pd : aPd n (aR B W n F k) (aRace B W n F (aSd k)).2.2.1 := aRace_pd
  unfold aTp aTi aTie
  rw [aLo_Fo pd (by omega), aLo_Fo pd (by omega)]
section CLOSE
variable {d : Nat} {Q : Option Value → zS → Prop}
theorem m_outOf_l {σ : zS} {n : Nat} {F : aFn} {p : Int32} {pi : Int} (hp : p.toInt = pi) (hl : zLay σ) (hF : mF σ n = F) (hn : n ≤ 6) (hm : zI σ 131 20 = nI n) :
    ∀ (m i : Nat), n - i = m → i ≤ n → (∀ v : Int32, v.toInt = aFo F pi m i → Q (some (.int v)) σ) → zW (d + 2) kX12_outOf 2 [.ref 131, .int p, .int (nI i)] [] σ Q := by
  intro m
  induction m with
  | zero =>
    intro i hm2 hi h
    exact (bX12_outOf_2 hl).mpr (zle' (zto hm (ai_n (by omega))) (ai_n (by omega)) (fun _ => h _ km1) (fun q => by omega))
  | succ m ih =>
    intro i hm2 hi h
    have hin : i < n := by omega
    have eF : aFo F pi (m + 1) i = if ¬ F i 7 = -1 ∧ F i 8 = pi then F i 7 else aFo F pi m (i + 1) := rfl
    rw [eF] at h
    have go : ¬ (¬ F i 7 = -1 ∧ F i 8 = pi) → zW (d + 2) kX12_outOf 2 [.ref 131, .int p, .int (nI i + 1)] [] σ Q := fun q => by
      rw [if_neg q] at h
      rw [nI_1]
      exact ih (i + 1) (by omega) (by omega) h
    refine (bX12_outOf_2 hl).mpr (zle' (zto hm (ai_n (by omega))) (ai_n (by omega)) (fun q => by omega) (fun _ => m_isOut hl hF hn hin ⟨rfl, (bX12_outOf_15 hl).mpr (zt0 (fun c => ?_) (fun c => go (fun q => c q.1)))⟩))
    refine m_of hl 8 hF hn hin (by omega) (fun v hv => ⟨rfl, (bX12_outOf_25 hl).mpr (zeq' hv hp (fun q => ?_) (fun q => go (fun q2 => q q2.2)))⟩)
    refine m_of hl 7 hF hn hin (by omega) (fun u hu => ⟨rfl, (bX12_outOf_36 hl).mpr (h u (by rw [if_pos ⟨c, q⟩]; exact hu))⟩)
theorem m_outOf {σ : zS} {n : Nat} {F : aFn} {p : Int32} {pi : Int} (hp : p.toInt = pi) (hl : zLay σ) (hF : mF σ n = F) (hn : n ≤ 6) (hm : zI σ 131 20 = nI n) (h : ∀ v : Int32, v.toInt = aFo F pi n 0 → Q (some (.int v)) σ) : zCall (d + 2) kX12_outOf [.ref 131, .int p] σ Q :=
  (bX12_outOf_0 hl).mpr (m_outOf_l hp hl hF hn hm n 0 (by omega) (by omega) h)
theorem aTi_b {n : Nat} {F : aFn} : 0 ≤ aTi n F ∧ aTi n F ≤ 1 := by
  unfold aTi
  by_cases c : aTie n F
  · rw [zif_t c]; omega
  · rw [zif_f c]; omega
theorem m_close_l {n b N : Nat} {F : aFn} {B : aBk} {W : aWx} (hst : ∀ r, r < n → aFst B F r) (hN : N ≤ 40) :
    ∀ (m k : Nat) (σ : zS) (c : Int32), N - k = m → k ≤ N → mCx σ n b B W → (∀ r w, r < n → w ≤ 3 → mF σ n r w = F r w) → zI σ 131 43 = 0 → c.toInt = aSum (fun k => aTi n (aR B W n F k)) k →
    (∀ (v i : Int32) (σ' : zS), v.toInt = aSum (fun k => aTi n (aR B W n F k)) N → zLay σ' → zFr (mWr False) σ σ' → zCall (d + 9) kX12_putBack [.ref 131] σ' (fun r σ2 => zisN r = true ∧ zW (d + 10) kX12_close 91 [.ref 131, .int (nI N), .int v, .int i] (zRstk r ++ []) σ2 Q)) → zW (d + 10) kX12_close 40 [.ref 131, .int (nI N), .int c, .int (nI k)] [] σ Q := by
  intro m
  induction m with
  | zero =>
    intro k σ c hm hk C hF h43 hc h
    have e : k = N := by omega
    subst e
    exact (bX12_close_40 C.1).mpr (zle' (ai_n (by omega)) (ai_n (by omega)) (fun _ => h c _ σ hc C.1 (zFr.refl _ _)) (fun q => by omega))
  | succ m ih =>
    intro k σ c hm hk C hF h43 hc h
    have n6 := C.2.1
    have sb := aSum_b2 (f := fun k => aTi n (aR B W n F k)) (m := 1) (by omega) (fun _ => aTi_b) (show k ≤ 40 by omega)
    refine (bX12_close_40 C.1).mpr (zle' (ai_n (by omega)) (ai_n (by omega)) (fun q => by omega) (fun _ => m_goR (d := d + 1) C hF h43 hst (fun σ1 C1 eR hF1 h431 f1 => ⟨rfl, (bX12_close_51 C1.1).mpr ?_⟩)))
    have nx : ∀ y0 : Int32, y0.toInt = aTi n (aR B W n F k) → zW (d + 10) kX12_close 40 [.ref 131, .int (nI N), .int (c + y0), .int (nI k + 1)] [] σ1 Q := by
      intro y0 hy
      rw [nI_1]
      have b := aTi_b (n := n) (F := aR B W n F k)
      refine ih (k + 1) σ1 (c + y0) (by omega) (by omega) C1 hF1 h431 (by rw [aSum_s]; exact zadd hc hy) (fun v i σ' q1 q2 q3 => h v i σ' q1 q2 (f1.trans q3))
    have n1 : aTie n (aR B W n F k) → aTi n (aR B W n F k) = 1 := fun q => by unfold aTi; rw [zif_t q]
    have n0 : ¬ aTie n (aR B W n F k) → aTi n (aR B W n F k) = 0 := fun q => by unfold aTi; rw [zif_f q]
    refine m_outOf (d := d + 7) k0 C1.1 eR n6 C1.2.2.1 (fun v hv => ⟨rfl, (bX12_close_57 C1.1).mpr (zeq' hv km1 (fun q => nx 0 ?_) (fun q => ?_))⟩)
    · rw [n0 (fun z => z.1 q)]; rfl
    · refine m_outOf (d := d + 7) k0 C1.1 eR n6 C1.2.2.1 (fun v1 hv1 => ⟨rfl, (bX12_close_66 C1.1).mpr ?_⟩)
      refine m_outOf (d := d + 7) k1 C1.1 eR n6 C1.2.2.1 (fun v2 hv2 => ⟨rfl, (bX12_close_71 C1.1).mpr (zeq' hv1 hv2 (fun q2 => nx 1 ?_) (fun q2 => nx 0 ?_))⟩)
      · rw [n1 ⟨q, q2⟩]; rfl
      · rw [n0 (fun z => q2 z.2)]; rfl
end CLOSE
section CLOSE2
variable {σ : zS} {nb ns : Nat}
theorem mCx_kq {σ σ1 : zS} {n b : Nat} {B : aBk} {W : aWx} (C : mCx σ n b B W) (f1 : zFr mWq σ σ1) (e131 : ∀ k, k < 23 → zI σ1 131 k = zI σ 131 k) : mCx σ1 n b B W := by
  obtain ⟨c1, c2, c3, c4, c5, c6, c7, c8, c9⟩ := C
  refine ⟨f1.lay c1 (fun _ _ _ _ => mWq_2), c2, by rw [e131 20 (by omega)]; exact c3, c4, by rw [e131 19 (by omega)]; exact c5, ?_, ?_, c8, c9⟩
  · rw [mB_fr f1 b ⟨fun k => by unfold mWq; omega, fun k => by unfold mWq; omega, fun k => by unfold mWq; omega⟩]; exact c6
  · rw [mW_fr f1 ⟨by unfold mWq; omega, by unfold mWq; omega, by unfold mWq; omega⟩]; exact c7
theorem e_close (g : iA σ nb ns) (x : Int32) : eCall kX11_close kX12_close [.int x] [.int x] σ := by
  have hR : ∃ n, n ≤ 6 ∧ zI σ 131 20 = nI n ∧ zI σ 12 4 = nI n ∧ (n = 0 ∨ ∃ b, iT σ nb ns n b) := by
    rcases g.race with ⟨n, b, T, -⟩ | ⟨-, m20, p4, -⟩
    · exact ⟨n, T.1, T.2.1, T.2.2.1, Or.inr ⟨b, T⟩⟩
    · exact ⟨0, by omega, m20, p4, Or.inl rfl⟩
  obtain ⟨n, n6, m20, p4, hT⟩ := hR
  have m201 : ∀ {σ1 σ2 : zS}, zsI σ1 131 (upd (zI σ1 131) 0 0) = σ2 → zFr iSafe σ σ2 → zI σ1 131 20 = nI n := fun e2 f2 => by
    rw [← m20, ← f2.i (nS3 (k := 20) (by omega)), ← e2, zI_self, pk_un (by decide)]
  by_cases h2 : 2 ≤ n
  · rcases hT with hT | ⟨b, T⟩
    · omega
    have hB := g.bok T.bb
    by_cases cy : 1 ≤ x.toInt ∧ x.toInt ≤ 40
    · obtain ⟨N, hN, rfl, eN⟩ := ai_nx (x := x) (by omega)
      have pp : ∀ {Q : Option Value → zS → Prop}, zCall 12 kX11_tallyTold [.ref 1, .int (nI N)] σ (fun r' σ' => zisN r' = true ∧ zW 13 kX11_close 23 [.ref 1, .int (nI N)] (zRstk r' ++ []) σ' Q) → zCall 13 kX11_close [.ref 1, .int (nI N)] σ Q := fun h =>
        (bX11_close_0 g.1).mpr (zlt' (zto p4 (ai_n (by omega))) k2 (fun q => by omega) (fun _ => p_sd g.1 (fun _ _ => ⟨rfl, (bX11_close_15 g.1).mpr (zy rfl h)⟩) (fun q => absurd cy q)))
      have mm : ∀ {σ1 σ2 : zS} {Q : Option Value → zS → Prop}, zLay σ1 → zsI σ1 131 (upd (zI σ1 131) 0 0) = σ2 → iA σ2 nb ns → zFr iSafe σ σ2 → zCall 12 kX12_canStart [.ref 131] σ2 (fun r' σ' => zisN r' = true ∧ zW 13 kX12_close 27 [.ref 131, .int (nI N), .retAddr 0, .retAddr 0] (zRstk r' ++ []) σ' Q) → zCall 13 kX12_close [.ref 131, .int (nI N)] σ1 Q := fun l1 e2 g2 f2 h => by
        refine (bX12_close_0 l1).mpr ?_
        rw [m201 e2 f2, e2]
        exact zlt' (ai_n (by omega)) k2 (fun q => by omega) (fun _ => m_isIn g2.1 ⟨rfl, (bX12_close_20 g2.1).mpr (zt0 (fun _ => h) (fun q => absurd (by rw [k1, k40]; exact cy) q))⟩)
      by_cases cF : aFit (mB σ b) (mW σ) n (mFR σ 139 n)
      · refine e_q g (aSum (fun k => aTi n (aR (mB σ b) (mW σ) n (mFR σ 139 n) k)) N) (fun Q h => pp (p_tallyTold (d := 5) g T (by omega) (by omega) (fun _ σ1 l1 t1 f1 => ⟨rfl, (bX11_close_23 l1).mpr (zn (by decide) (h _ σ1 ?_ f1))⟩) (fun q => absurd cF q))) (fun σ1 σ2 Q l1 e2 g2 f2 h => mm l1 e2 g2 f2 ?_)
        · have z := t1.2
          rw [Int.zero_add] at z
          rw [z, show (fun j => aTp n (aR (mB σ b) (mW σ) n (mFR σ 139 n) j)) = (fun k => aTi n (aR (mB σ b) (mW σ) n (mFR σ 139 n) k)) from funext fun k => aTp_Ti h2]
        · have C2 := mCx_q g g2 T f2
          refine m_canStart C2 (T.m f2) T.sz ⟨rfl, (bX12_close_27 g2.1).mpr (zt0 (fun _ => ?_) (fun q => absurd ⟨by omega, cF.1⟩ q))⟩
          refine m_keep g2.1 (fun σ3 k3 f3 e139 e131 e31 => ⟨rfl, ?_⟩)
          have C3 := mCx_kq C2 f3 e131
          refine (bX12_close_36 C3.1).mpr (m_close_l (d := 3) T.fs (by omega) N 0 σ3 0 (by omega) (by omega) C3 (fun r w _ _ => by rw [← T.m f2]; unfold mF; rw [e139]) (by rw [f3.i (by unfold mWq; omega)]; exact g2.r43) rfl (fun v i σ4 hv l4 f4 => ?_))
          refine m_back l4 (mKept_y k3 (mWr_y f4)) ((mWq_x f3).trans (mWy_x (mWr_y f4))) (fun σ5 f5 => ⟨rfl, (bX12_close_91 (f5.lay g2.1 (fun _ _ _ _ => mWq_2))).mpr (h v σ5 hv f5)⟩)
      · refine e_q g (-1) (fun Q h => pp (p_tallyTold (d := 5) g T (by omega) (by omega) (fun q => absurd q cF) (fun _ σ1 l1 f1 => ⟨rfl, (bX11_close_23 l1).mpr (zy rfl (h _ σ1 km1 f1))⟩))) (fun σ1 σ2 Q l1 e2 g2 f2 h => mm l1 e2 g2 f2 ?_)
        exact m_canStart (mCx_q g g2 T f2) (T.m f2) T.sz ⟨rfl, (bX12_close_27 g2.1).mpr (zt0 (fun q => absurd ⟨q.2, T.ap⟩ cF) (fun _ => h _ σ2 km1 (zFr.refl _ _)))⟩
    · refine e_q g (-1) (fun Q h => (bX11_close_0 g.1).mpr (zlt' (zto p4 (ai_n (by omega))) k2 (fun q => by omega) (fun _ => p_sd g.1 (fun q1 q2 => absurd ⟨q1, q2⟩ cy) (fun q => ⟨rfl, (bX11_close_15 g.1).mpr (zn (by decide) (h _ σ km1 (zFr.refl _ _)))⟩)))) (fun σ1 σ2 Q l1 e2 g2 f2 h => ?_)
      refine (bX12_close_0 l1).mpr ?_
      rw [m201 e2 f2, e2]
      exact zlt' (ai_n (by omega)) k2 (fun q => by omega) (fun _ => m_isIn g2.1 ⟨rfl, (bX12_close_20 g2.1).mpr (zt0 (fun q => absurd (by rw [k1, k40] at q; exact q) cy) (fun _ => h _ σ2 km1 (zFr.refl _ _)))⟩)
  · refine e_q g (-1) (fun Q h => (bX11_close_0 g.1).mpr (zlt' (zto p4 (ai_n (by omega))) k2 (fun q => h _ σ km1 (zFr.refl _ _)) (fun q => by omega))) (fun σ1 σ2 Q l1 e2 g2 f2 h => ?_)
    refine (bX12_close_0 l1).mpr ?_
    rw [m201 e2 f2, e2]
    exact zlt' (ai_n (by omega)) k2 (fun _ => h _ σ2 km1 (zFr.refl _ _)) (fun q => by omega)
end CLOSE2
