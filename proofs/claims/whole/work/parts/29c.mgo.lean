/-! the model's turn -/
section MGO
variable {d : Nat} {σ : zS} {Q : Option Value → zS → Prop}
theorem m_draw {n : Nat} {rec : Prop} {D : aD} (hl : zLay σ) (hD : mHas σ n rec D) (h : ∀ (v : Int32) (σ1 : zS), v = aDie (aNext D.2.2.1) → mHas σ1 n rec (D.1, D.2.1, aNext D.2.2.1, True, D.2.2.2.2) → zFr (mWg rec) σ σ1 → zI σ1 131 = zI σ 131 → Q (some (.int v)) σ1) : zCall d kX12_draw [.ref 131] σ Q := by
  obtain ⟨d1, d2, d3, d4, d5⟩ := hD
  refine (bX12_draw_0 hl).mpr ⟨by decide, ?_⟩
  rw [aNext_eq, aDie_eq, d3]
  refine h _ _ rfl ⟨d1, d2, ?_, d4, d5⟩ (zFr_L (Or.inr ⟨rfl, rfl, rfl⟩)) rfl
  rw [zL_self, pk_uLs]
theorem m_move {n bi r : Nat} {rec : Prop} {B : aBk} {W : aWx} {D : aD} {ticks : Int} (C : mCx σ n bi B W) (hD : mHas σ n rec D) (ht : (zI σ 131 21).toInt = ticks) (hr : r < n) (hok : ∀ o, o < n → aFok B D.1 o) (ho : D.1 r 7 = -1) (hu : 0 ≤ D.2.1 ∧ D.2.1 ≤ 6) (h : ∀ σ', mHas σ' n rec (aMove B W n ticks r D) → zFr (mWg rec) σ σ' → Q none σ') : zW (d + 6) kX12_go 44 [.ref 131, .int (nI r), .retAddr 0] [] σ Q := by
  have C' := C
  obtain ⟨hl, hn, c3, c4, c5, c6, c7, c8, c9⟩ := C
  have hor := hok r hr
  obtain ⟨⟨o1, o2, o3, o4, o5, o6, o7, o8⟩, p1, p2, p3, p4, p5, p6, p7, -⟩ := hor
  have hL : aLn B D.1 n := fun o q => ⟨(hok o q).1.1, (hok o q).1.2.1, (hok o q).2.1, (hok o q).2.2.1⟩
  have hx4 : D.1 r 4 < B.2.2 := p5 ho
  replace p7 := p7 ho
  have pb := aPull_b (r := r) c8 c9 hr hL ⟨p3, hx4⟩
  refine (bX12_go_44 hl).mpr (m_of hl 6 hD.1 hn hr (by omega) (fun v6 hv6 => ⟨rfl, (bX12_go_55 hl).mpr ?_⟩))
  refine m_pull (d := d + 3) C' hD.1 hr hL ⟨p3, hx4⟩ ⟨o3, o4⟩ (fun p hp => ⟨rfl, (bX12_go_60 hl).mpr ?_⟩)
  refine m_wave (d := d + 3) C' hD.1 hr hL (fun o q => ⟨(hok o q).2.2.2.1, (hok o q).2.2.2.2.1⟩) ⟨rfl, (bX12_go_66 hl).mpr ?_⟩
  have fin : ∀ s : Int32, s.toInt = zif (aWave n D.1 r) 1 0 → zW (d + 6) kX12_go 74 [.ref 131, .int (nI r), .retAddr 0] [.int s, .int (v6 + p), .int 6, .int (nI r), .ref 131] σ Q := by
    intro s hs
    have sb : 0 ≤ s.toInt ∧ s.toInt ≤ 1 := by
      rw [hs]
      by_cases q : aWave n D.1 r
      · rw [zif_t q]; omega
      · rw [zif_f q]; omega
    have es : (v6 + p + s).toInt = D.1 r 6 + aPull B W D.1 r + zif (aWave n D.1 r) 1 0 := zadd (zadd hv6 hp) hs (by omega) (by omega)
    refine (bX12_go_74 hl).mpr (m_set hl 6 (by omega) (by omega) ⟨rfl, ?_⟩)
    have hD1 := mS_has hD (w := 6) hr (by omega) es
    have f1 : zFr (mWg rec) σ (mS σ r 6 (v6 + p + s)) := mS_fw
    have g : ∀ w, w ≠ 6 → aU D.1 r 6 (D.1 r 6 + aPull B W D.1 r + zif (aWave n D.1 r) 1 0) r w = D.1 r w := fun w q => aU_w q
    refine m_steps hr 6 _ _ _ (mCx_fg f1 C') hD1 (by unfold mS; rw [zI_ne (by decide)]; exact ht) (aLn_u hL (by decide) (by decide)) (by show 0 ≤ aU _ _ _ _ _ _; rw [g 4 (by decide)]; exact p3) (by show aU _ _ _ _ _ _ < _; rw [g 4 (by decide)]; exact hx4) (by show 0 ≤ aU _ _ _ _ _ _; rw [g 2 (by decide)]; exact o5) (by show aU _ _ _ _ _ _ ≤ _; rw [g 2 (by decide)]; exact o6) (by show aU _ _ _ _ _ _ < _; rw [aU_s]; omega) (by show aU _ _ _ _ _ _ ≤ _; rw [aU_s]; omega) (by show 0 ≤ aU _ _ _ _ _ _; rw [aU_s]; omega) hu.1 hu.2 (zcat_r _) (fun σ' q1 q2 => h σ' q1 (f1.trans q2))
  refine zt0 (fun c => fin 1 ?_) (fun c => fin 0 ?_)
  · rw [zif_t c]; rfl
  · rw [zif_f c]; rfl
theorem m_held {n r : Nat} {rec : Prop} {D : aD} (hl : zLay σ) (hn : n ≤ 6) (hD : mHas σ n rec D) (hr : r < n) (h : ∀ σ', mHas σ' n rec (aU (aU D.1 r 6 0) r 9 (aInc (D.1 r 9)), D.2) → zFr (mWg rec) σ σ' → Q none σ') : zCall (d + 5) kX12_set [.ref 131, .int (nI r), .int (nI 6), .int 0] σ (fun x σ' => zisN x = true ∧ zW (d + 6) kX12_go 27 [.ref 131, .int (nI r), .retAddr 0] (zRstk x ++ []) σ' Q) := by
  refine m_set hl 6 (by omega) (by omega) ⟨rfl, ?_⟩
  have hD2 := mS_has hD (w := 6) hr (by omega) k0
  have hl2 := mS_lay (r := r) (w := 6) (v := 0) hl
  refine (bX12_go_27 hl2).mpr (m_of hl2 9 hD2.1 hn hr (by omega) (fun v9 hv9 => ⟨rfl, (bX12_go_38 hl2).mpr (m_set hl2 9 (by omega) (by omega) ⟨rfl, (bX12_go_43 (mS_lay hl2)).mpr (h _ ?_ (mS_fw.trans mS_fw))⟩)⟩))
  have e9 : aU D.1 r 6 0 r 9 = D.1 r 9 := aU_w (by decide)
  replace hv9 : v9.toInt = D.1 r 9 := hv9.trans e9
  have hD3 := mS_has hD2 (w := 9) (v := v9 + 1) hr (by omega) (aInc_of v9)
  rw [hv9] at hD3
  exact hD3
theorem m_go {n bi r : Nat} {rec : Prop} {B : aBk} {W : aWx} {D : aD} {ticks : Int} (C : mCx σ n bi B W) (hD : mHas σ n rec D) (ht : (zI σ 131 21).toInt = ticks) (hr : r < n) (hok : ∀ o, o < n → aFok B D.1 o) (ho : D.1 r 7 = -1) (hu : 0 ≤ D.2.1 ∧ D.2.1 ≤ 6) (h : ∀ σ', mHas σ' n rec (aGo B W n ticks r D) → zFr (mWg rec) σ σ' → Q none σ') : zCall (d + 6) kX12_go [.ref 131, .int (nI r)] σ Q := by
  have C' := C
  obtain ⟨hl, hn, c3, c4, c5, c6, c7, c8, c9⟩ := C
  have hor := hok r hr
  have hL : aLn B D.1 n := fun o q => ⟨(hok o q).1.1, (hok o q).1.2.1, (hok o q).2.1, (hok o q).2.2.1⟩
  have hx4 : D.1 r 4 < B.2.2 := hor.2.2.2.2.2.1 ho
  have ehd : (zI σ 131 15).toInt = W.2.2 := by rw [← c7]; rfl
  unfold aGo at h
  refine (bX12_go_0 hl).mpr (m_eddy (d := d + 4) C' hD.1 hr hL ⟨hor.2.2.2.1, hx4⟩ ⟨rfl, (bX12_go_5 hl).mpr (zt0 (fun c => ?_) (fun c => ?_))⟩)
  · rw [zif_t c] at h
    refine m_draw hl hD (fun v σ1 hv hD1 f1 g => ⟨rfl, ?_⟩)
    generalize aDie (aNext D.2.2.1) = die at h hv
    generalize aNext D.2.2.1 = nx at h hD1
    have C1 := mCx_fg f1 C'
    have hl1 := C1.1
    have ehd1 : (zI σ1 131 15).toInt = W.2.2 := by rw [g]; exact ehd
    have ht1 : (zI σ1 131 21).toInt = ticks := by rw [g]; exact ht
    subst hv
    refine (bX12_go_12 hl1).mpr (zle' ehd1 rfl (fun e => ?_) (fun e => ?_))
    · rw [if_neg (Int.not_lt.mpr e)] at h
      exact m_move C1 hD1 ht1 hr hok ho hu (fun σ' q1 q2 => h σ' q1 (f1.trans q2))
    · rw [if_pos e] at h
      exact m_held hl1 hn hD1 hr (fun σ' q1 q2 => h σ' q1 (f1.trans q2))
  · rw [zif_f c] at h
    exact m_move C' hD ht hr hok ho hu h
end MGO
