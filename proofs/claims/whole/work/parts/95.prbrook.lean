/-! the class reads a brook -/
section PRB
variable {d : Nat} {Q : Option Value → zS → Prop} {σ0 : zS}
theorem p_rb {len : Nat} (l0 : zLay σ0) (e2 : zI σ0 2 1 = nI len) (hn : len ≤ 160) :
    ∀ (m i lane x W : Nat) (C : Nat → Nat → Int) (σ : zS) (v5 : Value), len - i = m → i ≤ len → lane ≤ 5 → (lane = 0 → W = 0 ∧ x ≤ 16) → (0 < lane → x ≤ W ∧ 4 ≤ W) → W ≤ 16 → v5.category = 1 → zFr pWz σ0 σ → pRw σ 91 (rbD lane x W) C → zI σ 91 4 = nI W →
    (∀ (v : Int32) (σ' : zS), v.toInt = (rb (tP σ0) len m i lane x W C).1 → zFr pWz σ0 σ' → ((rb (tP σ0) len m i lane x W C).1 = -1 → pBk σ' 91 ((rb (tP σ0) len m i lane x W C).2.2.2, ((rb (tP σ0) len m i lane x W C).2.1 : Int), ((rb (tP σ0) len m i lane x W C).2.2.1 : Int))) → Q (some (.int v)) σ') →
    zW (d + 1) kX8_readBrook 11 [.ref 2, .ref 91, .int (nI lane), .int (nI x), .int (nI i), v5] [] σ Q := by
  intro m
  induction m with
  | zero =>
    intro i lane x W C σ v5 hm hi hl h0 h1 hW c5 f g e4 h
    have e : i = len := by omega
    subst e
    have l := pWz_lay f l0
    have ee : zI σ 2 1 = nI i := by rw [f.i (by unfold pWz; omega)]; exact e2
    have f1 : zFr pWz σ (zsI σ 91 (upd (zI σ 91) 3 (nI (lane + 1)))) := zFr_U (by unfold pWz; omega)
    have eR : (rb (tP σ0) i 0 i lane x W C).1 = if lane + 1 < 2 ∨ x < W then (i : Int) else -1 := rfl
    rw [eR] at h
    refine (bX8_readBrook_11 l zk_2 zk_91 c5).mpr (zle' (zto ee (ai_n (by omega))) (ai_n (by omega)) (fun _ => ?_) (fun q => by omega))
    rw [ee, e4, nI_1]
    refine zlt' (ai_n (by omega)) k2 (fun q => h _ _ ?_ (f.trans f1) (fun z => ?_)) (fun q => zle' (ai_n (by omega)) (ai_n (by omega)) (fun q2 => h _ _ ?_ (f.trans f1) (fun _ => ?_)) (fun q2 => h _ _ ?_ (f.trans f1) (fun z => ?_)))
    · rw [if_pos (Or.inl (by omega))]; exact ai_n (by omega)
    · rw [if_pos (Or.inl (by omega))] at z; omega
    · rw [if_neg (by omega)]; exact km1
    · refine pRw_b (pRw_fr (W := fun j c k => j = 0 ∧ c = 91 ∧ k = 3) (zFr_U ⟨rfl, rfl, rfl⟩) ⟨fun k => by omega, fun k => by omega, fun k => by omega⟩ g) ?_ ?_ (fun y x' => ?_)
      · rw [zI_self, pk_us]; exact ai_n (by omega)
      · rw [zI_self, pk_un (by decide), e4]; exact ai_n (by omega)
      · show rbD lane x W y x' ↔ ((y : Int) < ((lane + 1 : Nat) : Int) ∧ (x' : Int) < (W : Int))
        unfold rbD
        omega
    · rw [if_pos (Or.inr (by omega))]; exact ai_n (by omega)
    · rw [if_pos (Or.inr (by omega))] at z; omega
  | succ m ih =>
    intro i lane x W C σ v5 hm hi hl h0 h1 hW c5 f g e4 h
    have l := pWz_lay f l0
    have ee : zI σ 2 1 = nI len := by rw [f.i (by unfold pWz; omega)]; exact e2
    have k59 : (59 : Int32).toInt = 59 := rfl
    have k32 : (32 : Int32).toInt = 32 := rfl
    have k16 : (16 : Int32).toInt = 16 := rfl
    have k4 : (4 : Int32).toInt = 4 := rfl
    have e4i : (zI σ 91 4).toInt = (W : Int) := by rw [e4]; exact ai_n (by omega)
    refine (bX8_readBrook_11 l zk_2 zk_91 c5).mpr (zle' (zto ee (ai_n (by omega))) (ai_n (by omega)) (fun q => by omega) (fun _ => p_byteAt l ee hn (by omega) (fun v hv => ⟨rfl, (bX8_readBrook_26 l zk_2 zk_91 c5).mpr (p_isCell l ⟨rfl, (bX8_readBrook_33 l zk_2 zk_91).mpr ?_⟩)⟩)))
    rw [if_pos (show i < len by omega)] at hv
    have hv2 : v.toInt = tP σ0 i := by
      rw [hv]
      unfold tP
      rw [f.i (by unfold pWz; omega)]
    have stop : (rb (tP σ0) len (m + 1) i lane x W C).1 = (i : Int) → Q (some (.int (nI i))) σ := fun q => h _ σ (by rw [q]; exact ai_n (by omega)) f (fun z => by omega)
    have p50 : ∀ lim : Int32, lim.toInt = ((if lane = 0 then 16 else W : Nat) : Int) → sgb v.toInt ≠ -1 → zW (d + 1) kX8_readBrook 50 [.ref 2, .ref 91, .int (nI lane), .int (nI x), .int (nI i), .int v] [.int lim, .int (nI x)] σ Q := fun lim el c => by
      have c2 : sgb (tP σ0 i) ≠ -1 := by rw [← hv2]; exact c
      obtain ⟨s1, s2, s3⟩ := (sgb_b (b := tP σ0 i)).resolve_left c2
      refine (bX8_readBrook_50 l zk_2 zk_91).mpr (zlt' (ai_n (by omega)) el (fun q => ?_) (fun q => stop ?_))
      · have hx16 : x < 16 := by
          by_cases z : lane = 0
          · rw [if_pos z] at q; omega
          · rw [if_neg z] at q; omega
        have er : rb (tP σ0) len (m + 1) i lane x W C = rb (tP σ0) len m (i + 1) lane (x + 1) W (rC C lane x (sgb (tP σ0 i))) := by
          show (if sgb (tP σ0 i) ≠ -1 then _ else _) = _
          rw [if_pos c2, if_neg (by omega)]
        rw [er] at h
        refine p_raw l g (by omega) hx16 ⟨s1, s2⟩ (by rw [hv2]; exact s3) (fun σ1 g1 f1 => ⟨rfl, (bX8_readBrook_64 ?_ zk_2 zk_91).mpr ?_⟩)
        · exact pWz_lay (f.trans (f1.mono (fun j c k q => by unfold pWz; omega))) l0
        · rw [nI_1, nI_1]
          refine ih (i + 1) lane (x + 1) W _ σ1 _ (by omega) (by omega) hl (fun z => ⟨(h0 z).1, by omega⟩) (fun z => ⟨by rw [if_neg (by omega)] at q; omega, (h1 z).2⟩) hW (zcat_i _) (f.trans (f1.mono (fun j c k q => by unfold pWz; omega))) (pRw_c g1 (fun y x' => ?_)) (by rw [f1.i (by omega)]; exact e4) h
          unfold rbD rD
          omega
      · show ((if sgb (tP σ0 i) ≠ -1 then _ else _) : Int × Nat × Nat × (Nat → Nat → Int)).1 = _
        rw [if_pos c2, if_pos (by omega)]
    refine zt0 (fun c => ?_) (fun c => ?_)
    · refine zeq' (ai_n (by omega)) k0 (fun q => p50 16 (by rw [if_pos (by omega)]; rfl) c) (fun q => p50 _ (by rw [if_neg (by omega)]; exact e4i) c)
    · have c2 : ¬ sgb (tP σ0 i) ≠ -1 := by rw [← hv2]; exact c
      refine zeq' hv2 k59 (fun q59 => ?_) (fun q59 => zeq' hv2 k32 (fun q32 => ?_) (fun q32 => stop ?_))
      · have p95 : ∀ lim : Int32, lim.toInt = ((if lane = 0 then 4 else W : Nat) : Int) → lane < 5 → zW (d + 1) kX8_readBrook 95 [.ref 2, .ref 91, .int (nI lane), .int (nI x), .int (nI i), .int v] [.int lim, .int (nI x)] σ Q := fun lim el h5 => by
          refine (bX8_readBrook_95 l zk_2 zk_91).mpr (zle' el (ai_n (by omega)) (fun q => ?_) (fun q => stop ?_))
          · have er : rb (tP σ0) len (m + 1) i lane x W C = rb (tP σ0) len m (i + 1) (lane + 1) 0 x C := by
              show (if sgb (tP σ0 i) ≠ -1 then _ else _) = _
              rw [if_neg c2, if_pos q59, if_neg (by omega)]
            rw [er] at h
            have f1 : zFr pWz σ (zsI σ 91 (upd (zI σ 91) 4 (nI x))) := zFr_U (by unfold pWz; omega)
            have hx : 4 ≤ x ∧ x ≤ 16 ∧ (0 < lane → x = W) := by
              by_cases z : lane = 0
              · rw [if_pos z] at q; have := h0 z; omega
              · rw [if_neg z] at q; have := h1 (by omega); omega
            rw [nI_1, nI_1]
            refine ih (i + 1) (lane + 1) 0 x C _ _ (by omega) (by omega) (by omega) (fun z => by omega) (fun _ => ⟨by omega, hx.1⟩) hx.2.1 (zcat_i _) (f.trans f1) (pRw_c (pRw_fr (W := fun j c k => j = 0 ∧ c = 91 ∧ k = 4) (zFr_U ⟨rfl, rfl, rfl⟩) ⟨fun k => by omega, fun k => by omega, fun k => by omega⟩ g) (fun y x' => ?_)) (by rw [zI_self, pk_us]) h
            have := hx.2.2
            have := h0
            unfold rbD
            omega
          · show ((if sgb (tP σ0 i) ≠ -1 then _ else _) : Int × Nat × Nat × (Nat → Nat → Int)).1 = _
            rw [if_neg c2, if_pos q59, if_pos (Or.inr (by omega))]
        refine zle' (show (5 : Int32).toInt = 5 from rfl) (ai_n (by omega)) (fun q => stop ?_) (fun q => zeq' (ai_n (by omega)) k0 (fun q2 => p95 4 (by rw [if_pos (by omega)]; rfl) (by omega)) (fun q2 => p95 _ (by rw [if_neg (by omega)]; exact e4i) (by omega)))
        show ((if sgb (tP σ0 i) ≠ -1 then _ else _) : Int × Nat × Nat × (Nat → Nat → Int)).1 = _
        rw [if_neg c2, if_pos q59, if_pos (Or.inl (by omega))]
      · have er : rb (tP σ0) len (m + 1) i lane x W C = rb (tP σ0) len m (i + 1) lane x W C := by
          show (if sgb (tP σ0 i) ≠ -1 then _ else _) = _
          rw [if_neg c2, if_neg q59, if_pos q32]
        rw [er] at h
        rw [nI_1]
        exact ih (i + 1) lane x W C σ _ (by omega) (by omega) hl h0 h1 hW (zcat_i _) f g e4 h
      · show ((if sgb (tP σ0 i) ≠ -1 then _ else _) : Int × Nat × Nat × (Nat → Nat → Int)).1 = _
        rw [if_neg c2, if_neg q59, if_neg q32]
end PRB
