/-! same, the model's side -/
section SAMEM
variable {d : Nat} {Q : Option Value → zS → Prop}
theorem mCx_hg {σ : zS} {n b : Nat} {a : Int32} {B : aBk} {W : aWx} (C : mCx σ n b B W) (ha : 0 ≤ a.toInt ∧ a.toInt ≤ 3) : mCx (zsI σ 131 (upd (zI σ 131) 14 a)) n b B (aHg W a.toInt) := by
  obtain ⟨c1, c2, c3, c4, c5, c6, c7, c8, c9⟩ := C
  refine ⟨c1.I, c2, by rw [zI_self, pk_un (by decide)]; exact c3, c4, by rw [zI_self, pk_un (by decide)]; exact c5, ?_, ?_, c8, aHg_ok c9 ha⟩
  · rw [← c6]
    unfold mB
    rw [zI_ne (by decide), zI_ne (by decide), zI_ne (by decide)]
  · rw [← c7]
    unfold mW aHg
    rw [zI_self, pk_un (by decide), pk_us, pk_un (by decide)]
theorem mF_131 {σ : zS} {n : Nat} {f : Nat → Int32} : mF (zsI σ 131 f) n = mF σ n := by
  unfold mF
  rw [zI_ne (by decide)]
theorem m_raceWith {σ : zS} {n b k : Nat} {a : Int32} {F : aFn} {B : aBk} {W : aWx} (C : mCx σ n b B W) (hF : ∀ r w, r < n → w ≤ 3 → mF σ n r w = F r w) (h43 : zI σ 131 43 = 0) (hst : ∀ r, r < n → aFst B F r) (ha : 0 ≤ a.toInt ∧ a.toInt ≤ 3)
    (h : ∀ σ', mCx σ' n b B W → mF σ' n = aR B (aHg W a.toInt) n F k → (∀ r w, r < n → w ≤ 3 → mF σ' n r w = F r w) → zI σ' 131 43 = 0 → zFr (mWr False) σ σ' → Q none σ') : zCall (d + 9) kX12_raceWith [.ref 131, .int a, .int (nI k)] σ Q := by
  refine (bX12_raceWith_0 C.1).mpr ?_
  have C1 := mCx_hg C ha
  have f1 : zFr (fun j c k => mWr False j c k ∨ (j = 0 ∧ c = 131 ∧ k = 14)) σ (zsI σ 131 (upd (zI σ 131) 14 a)) := zFr_U (Or.inr ⟨rfl, rfl, rfl⟩)
  have hF1 : ∀ r w, r < n → w ≤ 3 → mF (zsI σ 131 (upd (zI σ 131) 14 a)) n r w = F r w := fun r w hr hw => by rw [mF_131]; exact hF r w hr hw
  have h431 : zI (zsI σ 131 (upd (zI σ 131) 14 a)) 131 43 = 0 := by rw [zI_self, pk_un (by decide)]; exact h43
  generalize zsI σ 131 (upd (zI σ 131) 14 a) = σ1 at C1 f1 hF1 h431 ⊢
  refine m_goR C1 hF1 h431 hst (fun σ2 C2 eR hF2 h432 f2 => ⟨rfl, (bX12_raceWith_16 C2.1).mpr ?_⟩)
  have f3 : zFr (fun j c k => mWr False j c k ∨ (j = 0 ∧ c = 131 ∧ k = 14)) σ2 (zsI σ2 131 (upd (zI σ2 131) 14 (zI σ 131 14))) := zFr_U (Or.inr ⟨rfl, rfl, rfl⟩)
  have f13 := (f1.trans (f2.mono (fun j c k q => Or.inl q))).trans f3
  have e14 : zI (zsI σ2 131 (upd (zI σ2 131) 14 (zI σ 131 14))) 131 14 = zI σ 131 14 := by rw [zI_self, pk_us]
  have fF : zFr (mWr False) σ (zsI σ2 131 (upd (zI σ2 131) 14 (zI σ 131 14))) := (zFr_fix f13 e14).mono (fun j c k q => q.1.elim id (fun z => absurd z q.2))
  refine h _ (mCx_fr fF C) (by rw [mF_131]; exact eR) (fun r w hr hw => by rw [mF_131]; exact hF2 r w hr hw) (by rw [zI_self, pk_un (by decide)]; exact h432) fF
theorem m_canStartWith {σ : zS} {n b : Nat} {a : Int32} {F : aFn} {B : aBk} {W : aWx} (C : mCx σ n b B W) (hF : mF σ n = F) (hs : ∀ r, r < n → 1 ≤ F r 0 ∧ F r 0 ≤ 5) (ha : 0 ≤ a.toInt ∧ a.toInt ≤ 3)
    (h : ∀ σ', mCx σ' n b B W → zFr (fun _ _ _ => False) σ σ' → Q (some (.int (zb (0 < n ∧ ∀ r, r < n → aCan B (aHg W a.toInt) (F r 0) 0 (F r 3))))) σ') : zCall (d + 4) kX12_canStartWith [.ref 131, .int a] σ Q := by
  refine (bX12_canStartWith_0 C.1).mpr ?_
  have C1 := mCx_hg C ha
  have f1 : zFr (fun j c k => j = 0 ∧ c = 131 ∧ k = 14) σ (zsI σ 131 (upd (zI σ 131) 14 a)) := zFr_U ⟨rfl, rfl, rfl⟩
  have hF1 : mF (zsI σ 131 (upd (zI σ 131) 14 a)) n = F := by rw [mF_131]; exact hF
  generalize zsI σ 131 (upd (zI σ 131) 14 a) = σ1 at C1 f1 hF1 ⊢
  refine m_canStart C1 hF1 hs ⟨rfl, (bX12_canStartWith_14 C1.1).mpr ⟨zb_01 _, ?_⟩⟩
  have f3 : zFr (fun j c k => j = 0 ∧ c = 131 ∧ k = 14) σ1 (zsI σ1 131 (upd (zI σ1 131) 14 (zI σ 131 14))) := zFr_U ⟨rfl, rfl, rfl⟩
  have fF : zFr (fun _ _ _ => False) σ (zsI σ1 131 (upd (zI σ1 131) 14 (zI σ 131 14))) := (zFr_fix (c := 131) (k := 14) (f1.trans f3) (by rw [zI_self, pk_us])).mono (fun j c k q => q.2 q.1)
  exact h _ (mCx_fr (fF.mono (W' := mWr False) (fun _ _ _ q => q.elim)) C) fF
theorem m_canStartWith0 {σ : zS} {a : Int32} (hl : zLay σ) (h20 : zI σ 131 20 = nI 0) (h : ∀ σ', zLay σ' → zFr (fun _ _ _ => False) σ σ' → Q (some (.int 0)) σ') : zCall (d + 2) kX12_canStartWith [.ref 131, .int a] σ Q := by
  refine (bX12_canStartWith_0 hl).mpr ?_
  have f1 : zFr (fun j c k => j = 0 ∧ c = 131 ∧ k = 14) σ (zsI σ 131 (upd (zI σ 131) 14 a)) := zFr_U ⟨rfl, rfl, rfl⟩
  have l1 : zLay (zsI σ 131 (upd (zI σ 131) 14 a)) := hl.I
  have m20 : zI (zsI σ 131 (upd (zI σ 131) 14 a)) 131 20 = nI 0 := by rw [zI_self, pk_un (by decide)]; exact h20
  generalize zsI σ 131 (upd (zI σ 131) 14 a) = σ1 at f1 l1 m20 ⊢
  refine m_canStart0 l1 m20 ⟨rfl, (bX12_canStartWith_14 l1).mpr ⟨Or.inl rfl, ?_⟩⟩
  have f3 : zFr (fun j c k => j = 0 ∧ c = 131 ∧ k = 14) σ1 (zsI σ1 131 (upd (zI σ1 131) 14 (zI σ 131 14))) := zFr_U ⟨rfl, rfl, rfl⟩
  exact h _ l1.I ((zFr_fix (c := 131) (k := 14) (f1.trans f3) (by rw [zI_self, pk_us])).mono (fun j c k q => q.2 q.1))
def wSm (j c k : Nat) : Prop := mWr False j c k ∨ (j = 0 ∧ c = 153)
theorem wSm_y {σ σ' : zS} (h : zFr wSm σ σ') : zFr mWy σ σ' := h.mono (fun j c k q => by
  rcases q with q | q
  · rcases q with ⟨q1, q2 | q2 | q2 | ⟨q2, q3⟩ | ⟨q2, q3⟩⟩ | ⟨q1, q2, q3⟩
    · unfold mWy; omega
    · unfold mWy; omega
    · unfold mWy; omega
    · exact q3.elim
    · unfold mWy; omega
    · unfold mWy; omega
  · unfold mWy; omega)
theorem mCx_153 {σ : zS} {n b : Nat} {f : Nat → Int32} {B : aBk} {W : aWx} (C : mCx σ n b B W) : mCx (zsI σ 153 f) n b B W := by
  obtain ⟨c1, c2, c3, c4, c5, c6, c7, c8, c9⟩ := C
  refine ⟨c1.I, c2, by rw [zI_ne (by decide)]; exact c3, c4, by rw [zI_ne (by decide)]; exact c5, ?_, ?_, c8, c9⟩
  · rw [← c6]
    unfold mB
    rw [zI_ne (by decide), zI_ne (by decide), zI_ne (by decide)]
  · rw [← c7]
    unfold mW
    rw [zI_ne (by decide)]
theorem m_same_1 {n b : Nat} {R : aFn} {B : aBk} {W : aWx} {a a' x3 x4 x5 : Int32} :
    ∀ (m i : Nat) (σ : zS) (v7 : Value), n - i = m → i ≤ n → v7.category = 1 → mCx σ n b B W → mF σ n = R → (∀ r, r < i → (zI σ 153 r).toInt = aPl n R r) →
    (∀ (σ' : zS) (x6 : Int32), mCx σ' n b B W → mF σ' n = R → (∀ r, r < n → (zI σ' 153 r).toInt = aPl n R r) → zFr (fun j c _ => j = 0 ∧ c = 153) σ σ' → zCall (d + 2) kX12_raceWith [.ref 131, .int a', .int x5] σ' (fun r σ2 => zisN r = true ∧ zW (d + 3) kX12_same 120 [.ref 131, .int a, .int a', .int x3, .int x4, .int x5, .int x6, v7] (zRstk r ++ []) σ2 Q)) → zW (d + 3) kX12_same 85 [.ref 131, .int a, .int a', .int x3, .int x4, .int x5, .int (nI i), v7] [] σ Q := by
  intro m
  induction m with
  | zero =>
    intro i σ v7 hm hi hc C hF hw h
    have e : i = n := by omega
    subst e
    exact (bX12_same_85 C.1 hc).mpr (zle' (zto C.2.2.1 (ai_n (by have := C.2.1; omega))) (ai_n (by have := C.2.1; omega)) (fun _ => h σ _ C hF hw (zFr.refl _ _)) (fun q => by omega))
  | succ m ih =>
    intro i σ v7 hm hi hc C hF hw h
    have n6 := C.2.1
    have hin : i < n := by omega
    refine (bX12_same_85 C.1 hc).mpr (zle' (zto C.2.2.1 (ai_n (by omega))) (ai_n (by omega)) (fun q => by omega) (fun _ => m_placeOf C.1 hF n6 C.2.2.1 hin (fun v hv => ⟨rfl, (bX12_same_106 C.1 hc).mpr ⟨vp_in_nI (by omega) (by decide), ?_⟩⟩)))
    rw [nI_clamp (by omega), nI_1]
    have hF1 : mF (zsI σ 153 (upd (zI σ 153) i v)) n = R := by
      rw [← hF]
      unfold mF
      rw [zI_ne (by decide)]
    refine ih (i + 1) _ v7 (by omega) (by omega) hc (mCx_153 C) hF1 (fun r hr => ?_) (fun σ' x6 q1 q2 q3 q4 => h σ' x6 q1 q2 q3 ((zFr_U (W := fun j c _ => j = 0 ∧ c = 153) ⟨rfl, rfl⟩).trans q4))
    rw [zI_self]
    by_cases e : r = i
    · rw [e, pk_us]; exact hv
    · rw [pk_un e]; exact hw r (by omega)
theorem m_same_2 {n b : Nat} {R R' : aFn} {B : aBk} {W : aWx} {a a' x3 x4 x5 : Int32} {σ : zS} (C : mCx σ n b B W) (hF : mF σ n = R') (hw : ∀ r, r < n → (zI σ 153 r).toInt = aPl n R r) (hx4 : 0 ≤ x4.toInt ∧ x4.toInt ≤ 100)
    (h : ∀ (y : Int32) (x6 x7 : Int32), y.toInt = x4.toInt + aEq n R R' → zW (d + 3) kX12_same 69 [.ref 131, .int a, .int a', .int x3, .int y, .int (x5 + 1), .int x6, .int x7] [] σ Q) :
    ∀ (m i : Nat) (x6 : Int32), n - i = m → i ≤ n → ((x6 = 1 ∧ ∀ r, r < i → aPl n R r = aPl n R' r) ∨ (x6 = 0 ∧ ¬ ∀ r, r < n → aPl n R r = aPl n R' r)) → zW (d + 3) kX12_same 126 [.ref 131, .int a, .int a', .int x3, .int x4, .int x5, .int x6, .int (nI i)] [] σ Q := by
  have n6 := C.2.1
  intro m
  induction m with
  | zero =>
    intro i x6 hm hi hq
    have e : i = n := by omega
    subst e
    refine (bX12_same_126 C.1).mpr (zle' (zto C.2.2.1 (ai_n (by omega))) (ai_n (by omega)) (fun _ => ?_) (fun q => by omega))
    rcases hq with ⟨h6, hq⟩ | ⟨h6, hq⟩
    · rw [h6]
      refine zn (by decide) (h _ _ _ ?_)
      unfold aEq
      rw [zif_t hq]
      exact zadd rfl k1
    · rw [h6]
      refine zy rfl (h _ _ _ ?_)
      unfold aEq
      rw [zif_f hq, zadd rfl k0]
  | succ m ih =>
    intro i x6 hm hi hq
    have hin : i < n := by omega
    refine (bX12_same_126 C.1).mpr (zle' (zto C.2.2.1 (ai_n (by omega))) (ai_n (by omega)) (fun q => by omega) (fun _ => ?_))
    rcases hq with ⟨h6, hq⟩ | ⟨h6, hq⟩
    · rw [h6]
      refine zn (by decide) ⟨vp_in_nI (by omega) (by decide), ?_⟩
      rw [nI_clamp (by omega)]
      refine m_placeOf C.1 hF n6 C.2.2.1 hin (fun v hv => ⟨rfl, (bX12_same_153 C.1).mpr (zeq' (hw i hin) hv (fun q => ?_) (fun q => ?_))⟩)
      · rw [nI_1]
        refine ih (i + 1) 1 (by omega) (by omega) (Or.inl ⟨rfl, fun r hr => ?_⟩)
        rcases Nat.lt_or_ge r i with h1 | h1
        · exact hq r h1
        · obtain rfl : r = i := by omega
          exact q
      · rw [nI_1]
        exact ih (i + 1) 0 (by omega) (by omega) (Or.inr ⟨rfl, fun z => q (z i hin)⟩)
    · rw [h6]
      refine zy rfl ?_
      rw [nI_1]
      exact ih (i + 1) 0 (by omega) (by omega) (Or.inr ⟨rfl, hq⟩)
theorem m_same_l {n b N : Nat} {a a' : Int32} {F : aFn} {B : aBk} {W : aWx} (hst : ∀ r, r < n → aFst B F r) (ha : 0 ≤ a.toInt ∧ a.toInt ≤ 3) (ha' : 0 ≤ a'.toInt ∧ a'.toInt ≤ 3) (hN : N ≤ 40) :
    ∀ (m k : Nat) (σ : zS) (c : Int32) (v6 v7 : Value), N - k = m → k ≤ N → v6.category = 1 → v7.category = 1 → mCx σ n b B W → (∀ r w, r < n → w ≤ 3 → mF σ n r w = F r w) → zI σ 131 43 = 0 → c.toInt = aSum (fun k => aEq n (aR B (aHg W a.toInt) n F k) (aR B (aHg W a'.toInt) n F k)) k →
    (∀ (v i : Int32) (σ' : zS) (u6 u7 : Value), u6.category = 1 → u7.category = 1 → v.toInt = aSum (fun k => aEq n (aR B (aHg W a.toInt) n F k) (aR B (aHg W a'.toInt) n F k)) N → zLay σ' → zFr wSm σ σ' → zCall (d + 9) kX12_putBack [.ref 131] σ' (fun r σ2 => zisN r = true ∧ zW (d + 10) kX12_same 194 [.ref 131, .int a, .int a', .int (nI N), .int v, .int i, u6, u7] (zRstk r ++ []) σ2 Q)) → zW (d + 10) kX12_same 69 [.ref 131, .int a, .int a', .int (nI N), .int c, .int (nI k), v6, v7] [] σ Q := by
  intro m
  induction m with
  | zero =>
    intro k σ c v6 v7 hm hk h6 h7 C hF h43 hc h
    have e : k = N := by omega
    subst e
    exact (bX12_same_69 C.1 h6 h7).mpr (zle' (ai_n (by omega)) (ai_n (by omega)) (fun _ => h c _ σ v6 v7 h6 h7 hc C.1 (zFr.refl _ _)) (fun q => by omega))
  | succ m ih =>
    intro k σ c v6 v7 hm hk h6 h7 C hF h43 hc h
    have n6 := C.2.1
    have sb := aSum_b2 (f := fun k => aEq n (aR B (aHg W a.toInt) n F k) (aR B (aHg W a'.toInt) n F k)) (m := 1) (by omega) (fun _ => aEq_b) (show k ≤ 40 by omega)
    refine (bX12_same_69 C.1 h6 h7).mpr (zle' (ai_n (by omega)) (ai_n (by omega)) (fun q => by omega) (fun _ => m_raceWith C hF h43 hst ha (fun σ1 C1 eR hF1 h431 f1 => ⟨rfl, (bX12_same_82 C1.1 h6 h7).mpr ?_⟩)))
    refine m_same_1 (d := d + 7) n 0 σ1 v7 (by omega) (by omega) h7 C1 eR (fun r hr => by omega) (fun σ2 x6 C2 eR2 hw2 f2 => ?_)
    have hF2 : ∀ r w, r < n → w ≤ 3 → mF σ2 n r w = F r w := fun r w hr hw => by rw [eR2, ← eR]; exact hF1 r w hr hw
    refine m_raceWith (d := d) C2 hF2 (by rw [f2.i (by omega)]; exact h431) hst ha' (fun σ3 C3 eR3 hF3 h433 f3 => ⟨rfl, (bX12_same_120 C3.1 h7).mpr ?_⟩)
    refine m_same_2 (d := d + 7) (R := aR B (aHg W a.toInt) n F k) C3 eR3 (fun r hr => by rw [f3.i (by unfold mWr; omega)]; exact hw2 r hr) (by omega) (fun y y6 y7 hy => ?_) n 0 1 (by omega) (by omega) (Or.inl ⟨rfl, fun r hr => by omega⟩)
    rw [nI_1]
    refine ih (k + 1) σ3 y _ _ (by omega) (by omega) (zcat_i _) (zcat_i _) C3 hF3 h433 (by rw [aSum_s, hy, hc]) (fun v i σ' u6 u7 q1 q2 q3 q4 q5 => h v i σ' u6 u7 q1 q2 q3 q4 ?_)
    exact ((f1.mono (fun j c k q => Or.inl q)).trans (f2.mono (fun j c k q => Or.inr q))).trans ((f3.mono (fun j c k q => Or.inl q)).trans q5)
end SAMEM
section SAMEE
variable {σ : zS} {nb ns : Nat}
theorem e_same (g : iA σ nb ns) (x y z : Int32) : eCall kX11_same kX12_same [.int x, .int y, .int z] [.int x, .int y, .int z] σ := by
  have k3' : (3 : Int32).toInt = 3 := rfl
  by_cases c : ((0 ≤ x.toInt ∧ x.toInt ≤ 3) ∧ (0 ≤ y.toInt ∧ y.toInt ≤ 3)) ∧ (1 ≤ z.toInt ∧ z.toInt ≤ 40)
  · obtain ⟨⟨cx, cy⟩, cz⟩ := c
    obtain ⟨N, hN, rfl, eN⟩ := ai_nx (x := z) (by omega)
    have mm : ∀ {σ1 σ2 : zS} {Q : Option Value → zS → Prop}, zLay σ1 → zsI σ1 131 (upd (zI σ1 131) 0 0) = σ2 → zLay σ2 → (zI σ2 131 19 = -1 → Q (some (.int (-1))) σ2) → (¬ zI σ2 131 19 = -1 → zCall 12 kX12_canStartWith [.ref 131, .int x] σ2 (fun r' σ' => zisN r' = true ∧ zW 13 kX12_same 46 [.ref 131, .int x, .int y, .int (nI N), .retAddr 0, .retAddr 0, .retAddr 0, .retAddr 0] (zRstk r' ++ []) σ' Q)) → zCall 13 kX12_same [.ref 131, .int x, .int y, .int (nI N)] σ1 Q := fun l1 e2 l2 h1 h2 => by
      refine (bX12_same_0 l1).mpr ?_
      rw [e2]
      exact m_isIn l2 ⟨rfl, (bX12_same_11 l2).mpr (zt0 (fun _ => m_isIn l2 ⟨rfl, (bX12_same_20 l2).mpr (zt0 (fun _ => m_isIn l2 ⟨rfl, (bX12_same_30 l2).mpr (zt0 (fun _ => zti h1 h2) (fun q => absurd (by rw [k1, k40]; exact cz) q))⟩) (fun q => absurd (by rw [k0, k3']; exact cy) q))⟩) (fun q => absurd (by rw [k0, k3']; exact cx) q))⟩
    have no : zI σ 12 4 = nI 0 → zI σ 131 20 = nI 0 → eCall kX11_same kX12_same [.int x, .int y, .int (nI N)] [.int x, .int y, .int (nI N)] σ := by
      intro p4 m20
      refine e_q g (-1) (fun Q h => (bX11_same_0 g.1).mpr (zy p4 (h _ σ km1 (zFr.refl _ _)))) (fun σ1 σ2 Q l1 e2 g2 f2 h => ?_)
      refine mm l1 e2 g2.1 (fun _ => h _ σ2 km1 (zFr.refl _ _)) (fun _ => m_canStartWith0 g2.1 (by rw [f2.i (nS3 (by omega))]; exact m20) (fun σ3 l3 f3 => ⟨rfl, (bX12_same_46 l3).mpr (zy rfl (h _ σ3 km1 (f3.mono (fun _ _ _ q => q.elim))))⟩))
    rcases g.race with ⟨n, b, T, -⟩ | hNil
    · rcases Nat.eq_zero_or_pos n with hn0 | h0
      · subst hn0
        exact no T.2.2.1 T.2.1
      have n6 := T.1
      have hb := T.bb
      have h6 := g.nb6
      have hB := g.bok hb
      have n0 : ¬ zI σ 12 4 = 0 := fun q => by
        have := congrArg Int32.toInt q
        rw [T.2.2.1, ai_n (by omega), k0] at this
        omega
      have m19 : ∀ {σ2 : zS}, zFr iSafe σ σ2 → ¬ zI σ2 131 19 = -1 := fun f2 => by
        rw [f2.i (nS3 (k := 19) (by omega)), T.2.2.2.1]
        exact nI_m1 (by omega)
      have pp : ∀ {Q : Option Value → zS → Prop}, (∀ σ1, pTd σ1 60 n (97 + 4 * b) (aTurn (mFR σ 139 n) n 0) → pBk σ1 (97 + 4 * b) (mB σ b) → zFr (pWq 60) σ σ1 → zCall 12 kX2_fits [.ref 60, .int x] σ1 (fun r' σ' => zisN r' = true ∧ zW 13 kX11_same 50 [.ref 1, .int x, .int y, .int (nI N), .retAddr 0, .retAddr 0] (zRstk r' ++ []) σ' Q)) → zCall 13 kX11_same [.ref 1, .int x, .int y, .int (nI N)] σ Q := fun h =>
        (bX11_same_0 g.1).mpr (zn n0 (zlt' rfl k0 (fun q => by omega) (fun _ => zlt' k3' rfl (fun q => by omega) (fun _ => zlt' rfl k0 (fun q => by omega) (fun _ => zlt' k3' rfl (fun q => by omega) (fun _ => p_sd g.1 (fun _ _ => ⟨rfl, (bX11_same_32 g.1).mpr (zy rfl (p_turn (d := 10) (k := 0) g T h0 (fun σ1 T1 f1 => ⟨rfl, (bX11_same_42 T1.1).mpr (h σ1 T1 (pBk_fr f1 (pWq_b zk_60 (zk_bk (by omega))) (g.bp hb)) f1)⟩)))⟩) (fun q => absurd cz q)))))))
      have hfs : ∀ r, r < n → aFst (mB σ b) (aTurn (mFR σ 139 n) n 0) r := fun r hr => by
        have z := T.fs r hr
        unfold aFst at *
        rw [aTurn_0 r 0 hr (by omega), aTurn_0 r 1 hr (by omega), aTurn_0 r 2 hr (by omega), aTurn_0 r 3 hr (by omega)]
        exact z
      have fit : ∀ v : Int32, aFit (mB σ b) (aHg (mW σ) v.toInt) n (aTurn (mFR σ 139 n) n 0) ↔ (0 < n ∧ ∀ r, r < n → aCan (mB σ b) (aHg (mW σ) v.toInt) (mFR σ 139 n r 0) 0 (mFR σ 139 n r 3)) := fun v => by
        rw [aFit_c aTurn_0]
        exact ⟨fun q => ⟨h0, q.1⟩, fun q => ⟨q.2, T.ap⟩⟩
      by_cases c1 : aFit (mB σ b) (aHg (mW σ) x.toInt) n (aTurn (mFR σ 139 n) n 0)
      · by_cases c2 : aFit (mB σ b) (aHg (mW σ) y.toInt) n (aTurn (mFR σ 139 n) n 0)
        · refine e_q g (aSum (fun k => aEq n (aR (mB σ b) (aHg (mW σ) x.toInt) n (mFR σ 139 n) k) (aR (mB σ b) (aHg (mW σ) y.toInt) n (mFR σ 139 n) k)) N) (fun Q h => pp (fun σ1 T1 g1 f1 => ?_)) (fun σ1 σ2 Q l1 e2 g2 f2 h => mm l1 e2 g2.1 (fun q => absurd q (m19 f2)) (fun _ => ?_))
          · refine p_fits (d := 10) (W := aHg (mW σ) x.toInt) T1 g1 hB (fun r hr => ⟨(hfs r hr).1, (hfs r hr).2.1⟩) rfl ⟨rfl, (bX11_same_50 T1.1).mpr (zt0 (fun _ => ?_) (fun q => absurd c1 q))⟩
            refine p_fits (d := 10) (W := aHg (mW σ) y.toInt) T1 g1 hB (fun r hr => ⟨(hfs r hr).1, (hfs r hr).2.1⟩) rfl ⟨rfl, (bX11_same_61 T1.1).mpr (zt0 (fun _ => ?_) (fun q => absurd c2 q))⟩
            refine p_same_l (d := 7) hB hfs g.wok cx cy (by omega) N 0 σ1 0 (by omega) (by omega) T1 g1 (pWx_q zk_60 zk_10 f1 g.wp) rfl (fun v σ3 hv f3 => h v σ3 ?_ ((pWq_z f1).trans f3))
            rw [hv]
            congr 1
            funext k
            rw [aR_c (aTurn_0 (F := mFR σ 139 n)), aR_c (aTurn_0 (F := mFR σ 139 n))]
          · have C2 := mCx_q g g2 T f2
            refine m_canStartWith C2 (T.m f2) T.sz cx (fun σ3 C3 f3 => ⟨rfl, (bX12_same_46 C3.1).mpr (zt0 (fun _ => ?_) (fun q => absurd ((fit x).mp c1) q))⟩)
            have hF3 : mF σ3 n = mFR σ 139 n := by
              rw [← T.m f2]
              unfold mF
              funext r w
              rw [f3.i (fun q => q)]
            refine m_canStartWith C3 hF3 T.sz cy (fun σ4 C4 f4 => ⟨rfl, (bX12_same_54 C4.1).mpr (zt0 (fun _ => ?_) (fun q => absurd ((fit y).mp c2) q))⟩)
            have hF4 : mF σ4 n = mFR σ 139 n := by
              rw [← hF3]
              unfold mF
              funext r w
              rw [f4.i (fun q => q)]
            have f24 : zFr mWq σ2 σ4 := (f3.trans f4).mono (fun _ _ _ q => q.elim)
            refine m_keep C4.1 (fun σ5 k5 f5 e139 e131 e31 => ⟨rfl, ?_⟩)
            have C5 := mCx_kq C4 f5 e131
            refine (bX12_same_63 C5.1).mpr (m_same_l (d := 3) T.fs cx cy (by omega) N 0 σ5 0 _ _ (by omega) (by omega) (zcat_r _) (zcat_r _) C5 (fun r w _ _ => by rw [← hF4]; unfold mF; rw [e139]) (by rw [f5.i (by unfold mWq; omega), f24.i (by unfold mWq; omega)]; exact g2.r43) rfl (fun v i σ6 u6 u7 q1 q2 hv l6 f6 => ?_))
            refine m_back l6 (mKept_y k5 (wSm_y f6)) ((mWq_x f5).trans (mWy_x (wSm_y f6))) (fun σ7 f7 => ⟨rfl, (bX12_same_194 (f7.lay C4.1 (fun _ _ _ _ => mWq_2)) q1 q2).mpr (h v σ7 hv (f24.trans f7))⟩)
        · refine e_q g (-1) (fun Q h => pp (fun σ1 T1 g1 f1 => ?_)) (fun σ1 σ2 Q l1 e2 g2 f2 h => mm l1 e2 g2.1 (fun q => absurd q (m19 f2)) (fun _ => ?_))
          · refine p_fits (d := 10) (W := aHg (mW σ) x.toInt) T1 g1 hB (fun r hr => ⟨(hfs r hr).1, (hfs r hr).2.1⟩) rfl ⟨rfl, (bX11_same_50 T1.1).mpr (zt0 (fun _ => ?_) (fun q => absurd c1 q))⟩
            exact p_fits (d := 10) (W := aHg (mW σ) y.toInt) T1 g1 hB (fun r hr => ⟨(hfs r hr).1, (hfs r hr).2.1⟩) rfl ⟨rfl, (bX11_same_61 T1.1).mpr (zt0 (fun q => absurd q c2) (fun _ => h _ σ1 km1 (pWq_z f1)))⟩
          · have C2 := mCx_q g g2 T f2
            refine m_canStartWith C2 (T.m f2) T.sz cx (fun σ3 C3 f3 => ⟨rfl, (bX12_same_46 C3.1).mpr (zt0 (fun _ => ?_) (fun q => absurd ((fit x).mp c1) q))⟩)
            have hF3 : mF σ3 n = mFR σ 139 n := by
              rw [← T.m f2]
              unfold mF
              funext r w
              rw [f3.i (fun q => q)]
            exact m_canStartWith C3 hF3 T.sz cy (fun σ4 C4 f4 => ⟨rfl, (bX12_same_54 C4.1).mpr (zt0 (fun q => absurd ((fit y).mpr q) c2) (fun _ => h _ σ4 km1 ((f3.trans f4).mono (fun _ _ _ q => q.elim))))⟩)
      · refine e_q g (-1) (fun Q h => pp (fun σ1 T1 g1 f1 => ?_)) (fun σ1 σ2 Q l1 e2 g2 f2 h => mm l1 e2 g2.1 (fun q => absurd q (m19 f2)) (fun _ => ?_))
        · exact p_fits (d := 10) (W := aHg (mW σ) x.toInt) T1 g1 hB (fun r hr => ⟨(hfs r hr).1, (hfs r hr).2.1⟩) rfl ⟨rfl, (bX11_same_50 T1.1).mpr (zt0 (fun q => absurd q c1) (fun _ => h _ σ1 km1 (pWq_z f1)))⟩
        · exact m_canStartWith (mCx_q g g2 T f2) (T.m f2) T.sz cx (fun σ3 C3 f3 => ⟨rfl, (bX12_same_46 C3.1).mpr (zt0 (fun q => absurd ((fit x).mpr q) c1) (fun _ => h _ σ3 km1 (f3.mono (fun _ _ _ q => q.elim))))⟩)
    · exact no hNil.2.2.1 hNil.2.1
  · refine e_q g (-1) (fun Q h => ?_) (fun σ1 σ2 Q l1 e2 g2 f2 h => ?_)
    · refine (bX11_same_0 g.1).mpr (zti (fun _ => h _ σ km1 (zFr.refl _ _)) (fun _ => zlt' rfl k0 (fun q => h _ σ km1 (zFr.refl _ _)) (fun q1 => zlt' k3' rfl (fun q => h _ σ km1 (zFr.refl _ _)) (fun q2 => zlt' rfl k0 (fun q => h _ σ km1 (zFr.refl _ _)) (fun q3 => zlt' k3' rfl (fun q => h _ σ km1 (zFr.refl _ _)) (fun q4 => p_sd g.1 (fun q5 q6 => absurd ⟨⟨⟨q1, by omega⟩, q3, by omega⟩, q5, q6⟩ c) (fun _ => ⟨rfl, (bX11_same_32 g.1).mpr (zn (by decide) (h _ σ km1 (zFr.refl _ _)))⟩)))))))
    · refine (bX12_same_0 l1).mpr ?_
      rw [e2]
      exact m_isIn g2.1 ⟨rfl, (bX12_same_11 g2.1).mpr (zt0 (fun q1 => m_isIn g2.1 ⟨rfl, (bX12_same_20 g2.1).mpr (zt0 (fun q2 => m_isIn g2.1 ⟨rfl, (bX12_same_30 g2.1).mpr (zt0 (fun q3 => absurd ⟨⟨by rw [k0, k3'] at q1; exact q1, by rw [k0, k3'] at q2; exact q2⟩, by rw [k1, k40] at q3; exact q3⟩ c) (fun _ => h _ σ2 km1 (zFr.refl _ _)))⟩) (fun _ => h _ σ2 km1 (zFr.refl _ _)))⟩) (fun _ => h _ σ2 km1 (zFr.refl _ _)))⟩
end SAMEE
