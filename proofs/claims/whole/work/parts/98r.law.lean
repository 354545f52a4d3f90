/-! the law's loop -/
def lLs (x4 : Int32) (v5 v6 : Value) : List Value := [.ref 0, .ref 1, .ref 131, .ref 164, .int x4, v5, v6]
/-- one round later -/
def lwN (σ σ' : zS) : Prop := σ'.1 = σ.1 ∧ zcc σ' ≤ zcc σ + 1 ∧ zcs σ' ≤ zcs σ + 6 ∧ ∀ k, zI σ' 0 k = zI σ 0 k
theorem lwN.of {σ σ' : zS} (h : zSam σ σ') : lwN σ σ' := ⟨h.1, by unfold zcc; rw [h.2.1]; omega, by unfold zcs; rw [h.2.1]; omega, h.2.2⟩
theorem lwB.sh {σ σ' : zS} {L : Nat} {xs : Nat → Int32} (h : lwB σ L xs) (e : σ'.1 = σ.1) (ei : ∀ k, zI σ' 0 k = zI σ 0 k) : lwB σ' L xs := ⟨by unfold zkind; rw [e]; exact h.1, by unfold zlen; rw [e]; exact h.2.1, (funext ei).trans h.2.2⟩
def lawH (L : Nat) (xs : Nat → Int32) (x4 : Int32) (v5 v6 : Value) (Q : Option Value → zS → Prop) (σ : zS) : Prop := Inv σ ∧ lwB σ L xs ∧ lwQ L x4 ∧ v5.category = 1 ∧ v6.category = 1 ∧ ∀ (σ' : zS) (v5 v6 : Value), Inv σ' → lwN σ σ' → v5.category = 1 → v6.category = 1 → zW 14 kL_law 2094 (lLs x4 v5 v6) [] σ' Q
section LAW
variable {L : Nat} {xs : Nat → Int32} {x4 : Int32} {v5 v6 : Value} {Q : Option Value → zS → Prop} {σ : zS}
theorem lw_case {K1 K2 : zK} {a1 a2 : List Value} {pc0 pc1 pc2 : Nat} (he : eCall K1 K2 a1 a2 σ)
    (r0 : zCall 13 K1 (.ref 1 :: a1) σ (fun r σ' => zisN r = true ∧ zW 14 kL_law pc1 (lLs x4 v5 v6) (zRstk r ++ []) σ' Q) → zW 14 kL_law pc0 (lLs x4 v5 v6) [] σ Q)
    (r1 : ∀ (σ : zS) (y : Int32), zLay σ → lwB σ L xs → zCall 13 K2 (.ref 131 :: a2) σ (fun r σ' => zisN r = true ∧ zW 14 kL_law pc2 (lLs x4 v5 v6) (zRstk r ++ [.int y]) σ' Q) → zW 14 kL_law pc1 (lLs x4 v5 v6) [.int y] σ Q)
    (r2 : ∀ (σ : zS) (y : Int32), zLay σ → zW 14 kL_law 2094 (lLs x4 v5 v6) [] σ Q → zW 14 kL_law pc2 (lLs x4 v5 v6) [.int y, .int y] σ Q)
    (h : lawH L xs x4 v5 v6 Q σ) : zW 14 kL_law pc0 (lLs x4 v5 v6) [] σ Q := by
  refine r0 (zW.imp he fun r σ1 q => ?_)
  obtain ⟨v, e, l1, s1, c2⟩ := q
  subst e
  refine ⟨rfl, r1 σ1 v l1 (h.2.1.sh s1.1 s1.2.2) (zW.imp c2 fun r σ2 q => ?_)⟩
  obtain ⟨e, i2, s2⟩ := q
  subst e
  obtain ⟨nb, ns, g2⟩ := i2
  exact ⟨rfl, r2 σ2 v g2.1 (h.2.2.2.2.2 σ2 v5 v6 ⟨nb, ns, g2⟩ (lwN.of (s1.trans s2)) h.2.2.2.1 h.2.2.2.2.1)⟩
/-- the long cell that the law keeps -/
def wOut : Nat → Nat → Nat → Prop := fun j c _ => j = 1 ∧ c = 164
theorem iA_out {σ σ' : zS} {nb ns : Nat} (h : zFr wOut σ σ') (g : iA σ nb ns) : iA σ' nb ns := by
  have w0 : ∀ c k, ¬ wOut 0 c k := fun c k q => absurd q.1 (by decide)
  have w2 : ∀ c k, ¬ wOut 2 c k := fun c k q => absurd q.1 (by decide)
  have w1 : ∀ c k, c ≠ 164 → ¬ wOut 1 c k := fun c k q z => q z.2
  obtain ⟨g1, g2, g3, g4, g5, g6, g7, g8, g9, gS⟩ := g
  refine ⟨h.lay g1 (fun _ _ _ _ => w2 _ _), iTape_fr h (fun c k _ => w0 c k) g2, iWx_fr h (fun c k _ => w0 c k) g3, ?_, iBr_fr h (fun c k _ => w0 c k) g5, iSt_fr h (fun c k _ => w0 c k) g6, iSg_fr h (Nat.le_refl _) (fun c k _ => w0 c k) g7, iRc_fr h (Nat.le_refl _) (Nat.le_refl _) (fun c k _ => w0 c k) ⟨w1 _ _ (by decide), w1 _ _ (by decide)⟩ (fun c k _ _ => w2 c k) g8, iIm_fr h (Nat.le_refl _) (Nat.le_refl _) (fun c k _ => w0 c k) ⟨w1 _ _ (by decide), w1 _ _ (by decide)⟩ (fun c k _ _ => w2 c k) g9, iSr_fr h (fun c _ _ => w2 c 0) gS⟩
  rw [h.i (w0 _ _)]
  exact g4
theorem iA_cnt {a : List (Nat × Nat)} {b : (Nat → Nat → Int32) × (Nat → Nat → Int64) × (Nat → Nat → Option Nat)} {c c' : Nat × Nat} {nb ns : Nat} (g : iA (a, b, c) nb ns) : iA (a, b, c') nb ns := g
theorem lw_cmp (x : Int64) : lg_cmp x x = 0 := by
  unfold lg_cmp
  rw [if_neg (by simp), if_pos rfl]
theorem lc_4 (h : lawH L xs x4 v5 v6 Q σ) : zW 14 kL_law 376 (lLs x4 v5 v6) [] σ Q := by
  obtain ⟨⟨nb, ns, g⟩, hs, hq, h5, h6, hn⟩ := h
  refine (bQ_L_law_376 g.1 hs hq h5 h6).mpr ?_
  refine zw_brook (d := 6) (show decode cL_law 390 = .ok (.invokestatic 38, 3) by decide +kernel) (by rfl) rfl (g.1.k2 zk_1) (g.1.n2 zk_1) (g.1.n2 zk_164) (by decide) ?_
  by_cases c : (0 ≤ (xs (x4 + 1).toNatClampNeg).toInt ∧ (xs (x4 + 1).toNatClampNeg).toInt < nb) ∧ (0 ≤ (xs (x4 + 2).toNatClampNeg).toInt ∧ (xs (x4 + 2).toNatClampNeg).toInt ≤ 3)
  · obtain ⟨b, hb, e, eb⟩ := ai_nx c.1.1
    have hbn : b < nb := by omega
    have hp := fun h => p_brook (d := 10) (Q := fun r σ' => (∃ v : Int32, r = some (.int v) ∧ zkind σ' 164 = 19 ∧ 0 < zlen σ' 164 ∧ zW 14 kL_law 393 (lLs x4 v5 v6) [.int 0] (zsL σ' 164 (vp_updL (zL σ' 164) 0 v.toInt64)) Q) ∨ (r = some zThr ∧ zW 14 kL_law 393 (lLs x4 v5 v6) [.int 1] (zbump σ' 1 6) Q)) g hbn c.2 h
    rw [← e] at hp
    refine hp (fun v hv => Or.inl ⟨v, rfl, g.1.k2 zk_164, by rw [g.1.l2 zk_164 zl_164]; decide, ?_⟩)
    have f1 : zFr wOut σ (zsL σ 164 (vp_updL (zL σ 164) 0 v.toInt64)) := zFr_L ⟨rfl, rfl⟩
    have g1 := iA_out f1 g
    refine (bQ_L_law_393 g1.1 (hs.sh f1.1 (fun k => rfl)) hq h5 h6).mpr ?_
    have hm := fun h => m_brook (d := 11) (Q := fun r σ' => zisN r = true ∧ zW 14 kL_law 411 [.ref 0, .ref 1, .ref 131, .ref 164, .int x4, .int 0, v6] (zRstk r ++ []) σ' Q) g1 hbn c.2 h
    rw [← e] at hm
    have l1 : zLay (zsI (zsL σ 164 (vp_updL (zL σ 164) 0 v.toInt64)) 131 (upd (zI (zsL σ 164 (vp_updL (zL σ 164) 0 v.toInt64)) 131) 0 0)) := g1.1.I
    refine hm (fun v2 hv2 => ⟨rfl, (bL_law_411 l1 h6).mpr ((bX12_thrown_0 l1).mpr ⟨rfl, (bL_law_417 l1).mpr ?_⟩)⟩)
    have ev : v2 = v := zint (hv2.trans hv.symm)
    subst ev
    have e0 : zI (zsI (zsL σ 164 (vp_updL (zL σ 164) 0 v2.toInt64)) 131 (upd (zI (zsL σ 164 (vp_updL (zL σ 164) 0 v2.toInt64)) 131) 0 0)) 131 0 = 0 := by rw [zI_self]; rfl
    have eL : zL (zsI (zsL σ 164 (vp_updL (zL σ 164) 0 v2.toInt64)) 131 (upd (zI (zsL σ 164 (vp_updL (zL σ 164) 0 v2.toInt64)) 131) 0 0)) 164 (0 : Int32).toNatClampNeg = v2.toInt64 := by
      show zL (zsL σ 164 (vp_updL (zL σ 164) 0 v2.toInt64)) 164 0 = _
      rw [zL_self]
      rfl
    rw [e0, eL]
    refine zy rfl (zy rfl ⟨vp_in_nI (n := 0) (by decide) (by decide), zy (lw_cmp _) ?_⟩)
    have f2 : zFr mWq (zsL σ 164 (vp_updL (zL σ 164) 0 v2.toInt64)) (zsI (zsL σ 164 (vp_updL (zL σ 164) 0 v2.toInt64)) 131 (upd (zI (zsL σ 164 (vp_updL (zL σ 164) 0 v2.toInt64)) 131) 0 0)) := zFr_U (by unfold mWq; omega)
    refine hn _ _ _ ⟨nb, ns, iA_fr (mWq_s f2) g1.1.I g1⟩ (lwN.of ((zSam.fr f1 (fun k q => absurd q.1 (by decide))).trans (zSam.fr f2 (fun k => by unfold mWq; omega)))) rfl rfl
  · refine p_brook0 (d := 10) g c (Or.inr ⟨rfl, ?_⟩)
    have g1 : iA (zbump σ 1 6) nb ns := iA_cnt (c := σ.2.2) g
    refine (bQ_L_law_393 g1.1 (hs.sh rfl (fun k => rfl)) hq h5 h6).mpr ?_
    have l1 : zLay (zsI (zbump σ 1 6) 131 (upd (zI (zbump σ 1 6) 131) 0 1)) := g1.1.I
    refine m_brook0 (d := 11) g1 c ⟨rfl, (bL_law_411 l1 h6).mpr ((bX12_thrown_0 l1).mpr ⟨rfl, (bL_law_417 l1).mpr ?_⟩)⟩
    have e0 : zI (zsI (zbump σ 1 6) 131 (upd (zI (zbump σ 1 6) 131) 0 1)) 131 0 = 1 := by rw [zI_self]; rfl
    rw [e0]
    refine zy rfl (zn (by decide) ?_)
    have f2 : zFr mWq (zbump σ 1 6) (zsI (zbump σ 1 6) 131 (upd (zI (zbump σ 1 6) 131) 0 1)) := zFr_U (by unfold mWq; omega)
    exact hn _ _ _ ⟨nb, ns, iA_fr (mWq_s f2) g1.1.I g1⟩ ⟨f2.1, Nat.le_refl _, Nat.le_refl _, fun k => f2.i (by unfold mWq; omega)⟩ rfl rfl
theorem lc_0 (h : lawH L xs x4 v5 v6 Q σ) : zW 14 kL_law 228 (lLs x4 v5 v6) [] σ Q := by
  obtain ⟨nb, ns, g⟩ := h.1
  exact lw_case (e_feed g _ _ _ _ _) (bQ_L_law_228 g.1 h.2.1 h.2.2.1 h.2.2.2.1 h.2.2.2.2.1).mpr (fun σ y l b => (bQ_L_law_262 l b h.2.2.1 h.2.2.2.1 h.2.2.2.2.1).mpr) (fun σ y l q => (bL_law_296 l h.2.2.2.1 h.2.2.2.2.1).mpr (zy rfl q)) h
theorem lc_1 (h : lawH L xs x4 v5 v6 Q σ) : zW 14 kL_law 301 (lLs x4 v5 v6) [] σ Q := by
  obtain ⟨nb, ns, g⟩ := h.1
  exact lw_case (e_end g _) (bQ_L_law_301 g.1 h.2.1 h.2.2.1 h.2.2.2.1 h.2.2.2.2.1).mpr (fun σ y l b => (bQ_L_law_311 l b h.2.2.1 h.2.2.2.1 h.2.2.2.2.1).mpr) (fun σ y l q => (bL_law_321 l h.2.2.2.1 h.2.2.2.2.1).mpr (zy rfl q)) h
theorem lc_2 (h : lawH L xs x4 v5 v6 Q σ) : zW 14 kL_law 326 (lLs x4 v5 v6) [] σ Q := by
  obtain ⟨nb, ns, g⟩ := h.1
  exact lw_case (e_fault g _) (bQ_L_law_326 g.1 h.2.1 h.2.2.1 h.2.2.2.1 h.2.2.2.2.1).mpr (fun σ y l b => (bQ_L_law_336 l b h.2.2.1 h.2.2.2.1 h.2.2.2.2.1).mpr) (fun σ y l q => (bL_law_346 l h.2.2.2.1 h.2.2.2.2.1).mpr (zy rfl q)) h
theorem lc_3 (h : lawH L xs x4 v5 v6 Q σ) : zW 14 kL_law 351 (lLs x4 v5 v6) [] σ Q := by
  obtain ⟨nb, ns, g⟩ := h.1
  exact lw_case (e_text g _) (bQ_L_law_351 g.1 h.2.1 h.2.2.1 h.2.2.2.1 h.2.2.2.2.1).mpr (fun σ y l b => (bQ_L_law_361 l b h.2.2.1 h.2.2.2.1 h.2.2.2.2.1).mpr) (fun σ y l q => (bL_law_371 l h.2.2.2.1 h.2.2.2.2.1).mpr (zy rfl q)) h
theorem lc_5 (h : lawH L xs x4 v5 v6 Q σ) : zW 14 kL_law 444 (lLs x4 v5 v6) [] σ Q := by
  obtain ⟨nb, ns, g⟩ := h.1
  exact lw_case (e_pace g _ _ _) (bQ_L_law_444 g.1 h.2.1 h.2.2.1 h.2.2.2.1 h.2.2.2.2.1).mpr (fun σ y l b => (bQ_L_law_466 l b h.2.2.1 h.2.2.2.1 h.2.2.2.2.1).mpr) (fun σ y l q => (bL_law_488 l h.2.2.2.1 h.2.2.2.2.1).mpr (zy rfl q)) h
theorem lc_6 (h : lawH L xs x4 v5 v6 Q σ) : zW 14 kL_law 493 (lLs x4 v5 v6) [] σ Q := by
  obtain ⟨nb, ns, g⟩ := h.1
  exact lw_case (e_stick g _ _) (bQ_L_law_493 g.1 h.2.1 h.2.2.1 h.2.2.2.1 h.2.2.2.2.1).mpr (fun σ y l b => (bQ_L_law_509 l b h.2.2.1 h.2.2.2.1 h.2.2.2.2.1).mpr) (fun σ y l q => (bL_law_525 l h.2.2.2.1 h.2.2.2.2.1).mpr (zy rfl q)) h
theorem lc_7 (h : lawH L xs x4 v5 v6 Q σ) : zW 14 kL_law 530 (lLs x4 v5 v6) [] σ Q := by
  obtain ⟨nb, ns, g⟩ := h.1
  exact lw_case (e_weather g _ _) (bQ_L_law_530 g.1 h.2.1 h.2.2.1 h.2.2.2.1 h.2.2.2.2.1).mpr (fun σ y l b => (bQ_L_law_546 l b h.2.2.1 h.2.2.2.1 h.2.2.2.2.1).mpr) (fun σ y l q => (bL_law_562 l h.2.2.2.1 h.2.2.2.2.1).mpr (zy rfl q)) h
theorem lc_8 (h : lawH L xs x4 v5 v6 Q σ) : zW 14 kL_law 567 (lLs x4 v5 v6) [] σ Q := by
  obtain ⟨nb, ns, g⟩ := h.1
  exact lw_case (e_can g _ _ _ _) (bQ_L_law_567 g.1 h.2.1 h.2.2.1 h.2.2.2.1 h.2.2.2.2.1).mpr (fun σ y l b => (bQ_L_law_595 l b h.2.2.1 h.2.2.2.1 h.2.2.2.2.1).mpr) (fun σ y l q => (bL_law_623 l h.2.2.2.1 h.2.2.2.2.1).mpr (zy rfl q)) h
theorem lc_9 (h : lawH L xs x4 v5 v6 Q σ) : zW 14 kL_law 628 (lLs x4 v5 v6) [] σ Q := by
  obtain ⟨nb, ns, g⟩ := h.1
  exact lw_case (e_on g _) (bQ_L_law_628 g.1 h.2.1 h.2.2.1 h.2.2.2.1 h.2.2.2.2.1).mpr (fun σ y l b => (bQ_L_law_638 l b h.2.2.1 h.2.2.2.1 h.2.2.2.2.1).mpr) (fun σ y l q => (bL_law_648 l h.2.2.2.1 h.2.2.2.2.1).mpr (zy rfl q)) h
theorem lc_10 (h : lawH L xs x4 v5 v6 Q σ) : zW 14 kL_law 653 (lLs x4 v5 v6) [] σ Q := by
  obtain ⟨nb, ns, g⟩ := h.1
  exact lw_case (e_runner g _ _) (bQ_L_law_653 g.1 h.2.1 h.2.2.1 h.2.2.2.1 h.2.2.2.2.1).mpr (fun σ y l b => (bQ_L_law_669 l b h.2.2.1 h.2.2.2.1 h.2.2.2.2.1).mpr) (fun σ y l q => (bL_law_685 l h.2.2.2.1 h.2.2.2.2.1).mpr (zy rfl q)) h
theorem lc_11 (h : lawH L xs x4 v5 v6 Q σ) : zW 14 kL_law 690 (lLs x4 v5 v6) [] σ Q := by
  obtain ⟨nb, ns, g⟩ := h.1
  exact lw_case (e_start g _) (bQ_L_law_690 g.1 h.2.1 h.2.2.1 h.2.2.2.1 h.2.2.2.2.1).mpr (fun σ y l b => (bQ_L_law_716 l b h.2.2.1 h.2.2.2.1 h.2.2.2.2.1).mpr) (fun σ y l q => (bL_law_742 l h.2.2.2.1 h.2.2.2.2.1).mpr (zy rfl q)) h
theorem lc_12 (h : lawH L xs x4 v5 v6 Q σ) : zW 14 kL_law 747 (lLs x4 v5 v6) [] σ Q := by
  obtain ⟨nb, ns, g⟩ := h.1
  exact lw_case (e_tick g _) (bQ_L_law_747 g.1 h.2.1 h.2.2.1 h.2.2.2.1 h.2.2.2.2.1).mpr (fun σ y l b => (bQ_L_law_757 l b h.2.2.1 h.2.2.2.1 h.2.2.2.2.1).mpr) (fun σ y l q => (bL_law_767 l h.2.2.2.1 h.2.2.2.2.1).mpr (zy rfl q)) h
theorem lc_13 (h : lawH L xs x4 v5 v6 Q σ) : zW 14 kL_law 772 (lLs x4 v5 v6) [] σ Q := by
  obtain ⟨nb, ns, g⟩ := h.1
  exact lw_case (e_look g _ _) (bQ_L_law_772 g.1 h.2.1 h.2.2.1 h.2.2.2.1 h.2.2.2.2.1).mpr (fun σ y l b => (bQ_L_law_788 l b h.2.2.1 h.2.2.2.1 h.2.2.2.2.1).mpr) (fun σ y l q => (bL_law_804 l h.2.2.2.1 h.2.2.2.2.1).mpr (zy rfl q)) h
theorem lc_14 (h : lawH L xs x4 v5 v6 Q σ) : zW 14 kL_law 809 (lLs x4 v5 v6) [] σ Q := by
  obtain ⟨nb, ns, g⟩ := h.1
  exact lw_case (e_pull g _) (bQ_L_law_809 g.1 h.2.1 h.2.2.1 h.2.2.2.1 h.2.2.2.2.1).mpr (fun σ y l b => (bQ_L_law_819 l b h.2.2.1 h.2.2.2.1 h.2.2.2.2.1).mpr) (fun σ y l q => (bL_law_829 l h.2.2.2.1 h.2.2.2.2.1).mpr (zy rfl q)) h
theorem lc_15 (h : lawH L xs x4 v5 v6 Q σ) : zW 14 kL_law 834 (lLs x4 v5 v6) [] σ Q := by
  obtain ⟨nb, ns, g⟩ := h.1
  exact lw_case (e_lies g _ _) (bQ_L_law_834 g.1 h.2.1 h.2.2.1 h.2.2.2.1 h.2.2.2.2.1).mpr (fun σ y l b => (bQ_L_law_850 l b h.2.2.1 h.2.2.2.1 h.2.2.2.2.1).mpr) (fun σ y l q => (bL_law_866 l h.2.2.2.1 h.2.2.2.2.1).mpr (zy rfl q)) h
theorem lc_16 (h : lawH L xs x4 v5 v6 Q σ) : zW 14 kL_law 871 (lLs x4 v5 v6) [] σ Q := by
  obtain ⟨nb, ns, g⟩ := h.1
  exact lw_case (e_odds g _ _ _) (bQ_L_law_871 g.1 h.2.1 h.2.2.1 h.2.2.2.1 h.2.2.2.2.1).mpr (fun σ y l b => (bQ_L_law_893 l b h.2.2.1 h.2.2.2.1 h.2.2.2.2.1).mpr) (fun σ y l q => (bL_law_915 l h.2.2.2.1 h.2.2.2.2.1).mpr (zy rfl q)) h
theorem lc_17 (h : lawH L xs x4 v5 v6 Q σ) : zW 14 kL_law 920 (lLs x4 v5 v6) [] σ Q := by
  obtain ⟨nb, ns, g⟩ := h.1
  exact lw_case (e_alone g _ _ _ _) (bQ_L_law_920 g.1 h.2.1 h.2.2.1 h.2.2.2.1 h.2.2.2.2.1).mpr (fun σ y l b => (bQ_L_law_964 l b h.2.2.1 h.2.2.2.1 h.2.2.2.2.1).mpr) (fun σ y l q => (bL_law_1008 l h.2.2.2.1 h.2.2.2.2.1).mpr (zy rfl q)) h
theorem lc_18 (h : lawH L xs x4 v5 v6 Q σ) : zW 14 kL_law 1013 (lLs x4 v5 v6) [] σ Q := by
  obtain ⟨nb, ns, g⟩ := h.1
  exact lw_case (e_luck g _ _ _ _) (bQ_L_law_1013 g.1 h.2.1 h.2.2.1 h.2.2.2.1 h.2.2.2.2.1).mpr (fun σ y l b => (bQ_L_law_1041 l b h.2.2.1 h.2.2.2.1 h.2.2.2.2.1).mpr) (fun σ y l q => (bL_law_1069 l h.2.2.2.1 h.2.2.2.2.1).mpr (zy rfl q)) h
theorem lc_19 (h : lawH L xs x4 v5 v6 Q σ) : zW 14 kL_law 1074 (lLs x4 v5 v6) [] σ Q := by
  obtain ⟨nb, ns, g⟩ := h.1
  exact lw_case (e_best g _ _ _ _) (bQ_L_law_1074 g.1 h.2.1 h.2.2.1 h.2.2.2.1 h.2.2.2.2.1).mpr (fun σ y l b => (bQ_L_law_1102 l b h.2.2.1 h.2.2.2.1 h.2.2.2.2.1).mpr) (fun σ y l q => (bL_law_1130 l h.2.2.2.1 h.2.2.2.2.1).mpr (zy rfl q)) h
theorem lc_20 (h : lawH L xs x4 v5 v6 Q σ) : zW 14 kL_law 1135 (lLs x4 v5 v6) [] σ Q := by
  obtain ⟨nb, ns, g⟩ := h.1
  exact lw_case (e_choice g _ _ _ _ _) (bQ_L_law_1135 g.1 h.2.1 h.2.2.1 h.2.2.2.1 h.2.2.2.2.1).mpr (fun σ y l b => (bQ_L_law_1169 l b h.2.2.1 h.2.2.2.1 h.2.2.2.2.1).mpr) (fun σ y l q => (bL_law_1203 l h.2.2.2.1 h.2.2.2.2.1).mpr (zy rfl q)) h
theorem lc_21 (h : lawH L xs x4 v5 v6 Q σ) : zW 14 kL_law 1208 (lLs x4 v5 v6) [] σ Q := by
  obtain ⟨nb, ns, g⟩ := h.1
  exact lw_case (e_same g _ _ _) (bQ_L_law_1208 g.1 h.2.1 h.2.2.1 h.2.2.2.1 h.2.2.2.2.1).mpr (fun σ y l b => (bQ_L_law_1230 l b h.2.2.1 h.2.2.2.1 h.2.2.2.2.1).mpr) (fun σ y l q => (bL_law_1252 l h.2.2.2.1 h.2.2.2.2.1).mpr (zy rfl q)) h
theorem lc_22 (h : lawH L xs x4 v5 v6 Q σ) : zW 14 kL_law 1257 (lLs x4 v5 v6) [] σ Q := by
  obtain ⟨nb, ns, g⟩ := h.1
  exact lw_case (e_carved g _ _ _ _) (bQ_L_law_1257 g.1 h.2.1 h.2.2.1 h.2.2.2.1 h.2.2.2.2.1).mpr (fun σ y l b => (bQ_L_law_1285 l b h.2.2.1 h.2.2.2.1 h.2.2.2.2.1).mpr) (fun σ y l q => (bL_law_1313 l h.2.2.2.1 h.2.2.2.2.1).mpr (zy rfl q)) h
theorem lc_23 (h : lawH L xs x4 v5 v6 Q σ) : zW 14 kL_law 1318 (lLs x4 v5 v6) [] σ Q := by
  obtain ⟨nb, ns, g⟩ := h.1
  exact lw_case (e_trials g _ _ _) (bQ_L_law_1318 g.1 h.2.1 h.2.2.1 h.2.2.2.1 h.2.2.2.2.1).mpr (fun σ y l b => (bQ_L_law_1340 l b h.2.2.1 h.2.2.2.1 h.2.2.2.2.1).mpr) (fun σ y l q => (bL_law_1362 l h.2.2.2.1 h.2.2.2.2.1).mpr (zy rfl q)) h
theorem lc_24 (h : lawH L xs x4 v5 v6 Q σ) : zW 14 kL_law 1367 (lLs x4 v5 v6) [] σ Q := by
  obtain ⟨nb, ns, g⟩ := h.1
  exact lw_case (e_plan g _ _ _) (bQ_L_law_1367 g.1 h.2.1 h.2.2.1 h.2.2.2.1 h.2.2.2.2.1).mpr (fun σ y l b => (bQ_L_law_1389 l b h.2.2.1 h.2.2.2.1 h.2.2.2.2.1).mpr) (fun σ y l q => (bL_law_1411 l h.2.2.2.1 h.2.2.2.2.1).mpr (zy rfl q)) h
theorem lc_25 (h : lawH L xs x4 v5 v6 Q σ) : zW 14 kL_law 1416 (lLs x4 v5 v6) [] σ Q := by
  obtain ⟨nb, ns, g⟩ := h.1
  exact lw_case (e_fewest g _ _) (bQ_L_law_1416 g.1 h.2.1 h.2.2.1 h.2.2.2.1 h.2.2.2.2.1).mpr (fun σ y l b => (bQ_L_law_1432 l b h.2.2.1 h.2.2.2.1 h.2.2.2.2.1).mpr) (fun σ y l q => (bL_law_1448 l h.2.2.2.1 h.2.2.2.2.1).mpr (zy rfl q)) h
theorem lc_26 (h : lawH L xs x4 v5 v6 Q σ) : zW 14 kL_law 1453 (lLs x4 v5 v6) [] σ Q := by
  obtain ⟨nb, ns, g⟩ := h.1
  exact lw_case (e_sight g _ _ _) (bQ_L_law_1453 g.1 h.2.1 h.2.2.1 h.2.2.2.1 h.2.2.2.2.1).mpr (fun σ y l b => (bQ_L_law_1475 l b h.2.2.1 h.2.2.2.1 h.2.2.2.2.1).mpr) (fun σ y l q => (bL_law_1497 l h.2.2.2.1 h.2.2.2.2.1).mpr (zy rfl q)) h
theorem lc_27 (h : lawH L xs x4 v5 v6 Q σ) : zW 14 kL_law 1502 (lLs x4 v5 v6) [] σ Q := by
  obtain ⟨nb, ns, g⟩ := h.1
  exact lw_case (e_agree g) (bL_law_1502 g.1 h.2.2.2.1 h.2.2.2.2.1).mpr (fun σ y l b => (bL_law_1506 l h.2.2.2.1 h.2.2.2.2.1).mpr) (fun σ y l q => (bL_law_1510 l h.2.2.2.1 h.2.2.2.2.1).mpr (zy rfl q)) h
theorem lc_28 (h : lawH L xs x4 v5 v6 Q σ) : zW 14 kL_law 1515 (lLs x4 v5 v6) [] σ Q := by
  obtain ⟨nb, ns, g⟩ := h.1
  exact lw_case (e_stoned g _ _) (bQ_L_law_1515 g.1 h.2.1 h.2.2.1 h.2.2.2.1 h.2.2.2.2.1).mpr (fun σ y l b => (bQ_L_law_1531 l b h.2.2.1 h.2.2.2.1 h.2.2.2.2.1).mpr) (fun σ y l q => (bL_law_1547 l h.2.2.2.1 h.2.2.2.2.1).mpr (zy rfl q)) h
theorem lc_29 (h : lawH L xs x4 v5 v6 Q σ) : zW 14 kL_law 1552 (lLs x4 v5 v6) [] σ Q := by
  obtain ⟨nb, ns, g⟩ := h.1
  exact lw_case (e_fair g _ _ _ _) (bQ_L_law_1552 g.1 h.2.1 h.2.2.1 h.2.2.2.1 h.2.2.2.2.1).mpr (fun σ y l b => (bQ_L_law_1580 l b h.2.2.1 h.2.2.2.1 h.2.2.2.2.1).mpr) (fun σ y l q => (bL_law_1608 l h.2.2.2.1 h.2.2.2.2.1).mpr (zy rfl q)) h
theorem lc_30 (h : lawH L xs x4 v5 v6 Q σ) : zW 14 kL_law 1613 (lLs x4 v5 v6) [] σ Q := by
  obtain ⟨nb, ns, g⟩ := h.1
  exact lw_case (e_image g) (bL_law_1613 g.1 h.2.2.2.1 h.2.2.2.2.1).mpr (fun σ y l b => (bL_law_1617 l h.2.2.2.1 h.2.2.2.2.1).mpr) (fun σ y l q => (bL_law_1621 l h.2.2.2.1 h.2.2.2.2.1).mpr (zy rfl q)) h
theorem lc_31 (h : lawH L xs x4 v5 v6 Q σ) : zW 14 kL_law 1626 (lLs x4 v5 v6) [] σ Q := by
  obtain ⟨nb, ns, g⟩ := h.1
  exact lw_case (e_back g) (bL_law_1626 g.1 h.2.2.2.1 h.2.2.2.2.1).mpr (fun σ y l b => (bL_law_1630 l h.2.2.2.1 h.2.2.2.2.1).mpr) (fun σ y l q => (bL_law_1634 l h.2.2.2.1 h.2.2.2.2.1).mpr (zy rfl q)) h
theorem lc_32 (h : lawH L xs x4 v5 v6 Q σ) : zW 14 kL_law 1639 (lLs x4 v5 v6) [] σ Q := by
  obtain ⟨nb, ns, g⟩ := h.1
  exact lw_case (e_was g _ _ _) (bQ_L_law_1639 g.1 h.2.1 h.2.2.1 h.2.2.2.1 h.2.2.2.2.1).mpr (fun σ y l b => (bQ_L_law_1661 l b h.2.2.1 h.2.2.2.1 h.2.2.2.2.1).mpr) (fun σ y l q => (bL_law_1683 l h.2.2.2.1 h.2.2.2.2.1).mpr (zy rfl q)) h
theorem lc_33 (h : lawH L xs x4 v5 v6 Q σ) : zW 14 kL_law 1688 (lLs x4 v5 v6) [] σ Q := by
  obtain ⟨nb, ns, g⟩ := h.1
  exact lw_case (e_passed g _ _) (bQ_L_law_1688 g.1 h.2.1 h.2.2.1 h.2.2.2.1 h.2.2.2.2.1).mpr (fun σ y l b => (bQ_L_law_1704 l b h.2.2.1 h.2.2.2.1 h.2.2.2.2.1).mpr) (fun σ y l q => (bL_law_1720 l h.2.2.2.1 h.2.2.2.2.1).mpr (zy rfl q)) h
theorem lc_34 (h : lawH L xs x4 v5 v6 Q σ) : zW 14 kL_law 1725 (lLs x4 v5 v6) [] σ Q := by
  obtain ⟨nb, ns, g⟩ := h.1
  exact lw_case (e_leader g _) (bQ_L_law_1725 g.1 h.2.1 h.2.2.1 h.2.2.2.1 h.2.2.2.2.1).mpr (fun σ y l b => (bQ_L_law_1735 l b h.2.2.1 h.2.2.2.1 h.2.2.2.2.1).mpr) (fun σ y l q => (bL_law_1745 l h.2.2.2.1 h.2.2.2.2.1).mpr (zy rfl q)) h
theorem lc_35 (h : lawH L xs x4 v5 v6 Q σ) : zW 14 kL_law 1750 (lLs x4 v5 v6) [] σ Q := by
  obtain ⟨nb, ns, g⟩ := h.1
  exact lw_case (e_led g _) (bQ_L_law_1750 g.1 h.2.1 h.2.2.1 h.2.2.2.1 h.2.2.2.2.1).mpr (fun σ y l b => (bQ_L_law_1760 l b h.2.2.1 h.2.2.2.1 h.2.2.2.2.1).mpr) (fun σ y l q => (bL_law_1770 l h.2.2.2.1 h.2.2.2.2.1).mpr (zy rfl q)) h
theorem lc_36 (h : lawH L xs x4 v5 v6 Q σ) : zW 14 kL_law 1775 (lLs x4 v5 v6) [] σ Q := by
  obtain ⟨nb, ns, g⟩ := h.1
  exact lw_case (e_struck g _) (bQ_L_law_1775 g.1 h.2.1 h.2.2.1 h.2.2.2.1 h.2.2.2.2.1).mpr (fun σ y l b => (bQ_L_law_1785 l b h.2.2.1 h.2.2.2.1 h.2.2.2.2.1).mpr) (fun σ y l q => (bL_law_1795 l h.2.2.2.1 h.2.2.2.2.1).mpr (zy rfl q)) h
theorem lc_37 (h : lawH L xs x4 v5 v6 Q σ) : zW 14 kL_law 1800 (lLs x4 v5 v6) [] σ Q := by
  obtain ⟨nb, ns, g⟩ := h.1
  exact lw_case (e_rounds g _ _ _) (bQ_L_law_1800 g.1 h.2.1 h.2.2.1 h.2.2.2.1 h.2.2.2.2.1).mpr (fun σ y l b => (bQ_L_law_1822 l b h.2.2.1 h.2.2.2.1 h.2.2.2.2.1).mpr) (fun σ y l q => (bL_law_1844 l h.2.2.2.1 h.2.2.2.2.1).mpr (zy rfl q)) h
theorem lc_38 (h : lawH L xs x4 v5 v6 Q σ) : zW 14 kL_law 1849 (lLs x4 v5 v6) [] σ Q := by
  obtain ⟨nb, ns, g⟩ := h.1
  exact lw_case (e_duel g _ _ _ _) (bQ_L_law_1849 g.1 h.2.1 h.2.2.1 h.2.2.2.1 h.2.2.2.2.1).mpr (fun σ y l b => (bQ_L_law_1877 l b h.2.2.1 h.2.2.2.1 h.2.2.2.2.1).mpr) (fun σ y l q => (bL_law_1905 l h.2.2.2.1 h.2.2.2.2.1).mpr (zy rfl q)) h
theorem lc_39 (h : lawH L xs x4 v5 v6 Q σ) : zW 14 kL_law 1910 (lLs x4 v5 v6) [] σ Q := by
  obtain ⟨nb, ns, g⟩ := h.1
  exact lw_case (e_ladder g _ _ _ _) (bQ_L_law_1910 g.1 h.2.1 h.2.2.1 h.2.2.2.1 h.2.2.2.2.1).mpr (fun σ y l b => (bQ_L_law_1938 l b h.2.2.1 h.2.2.2.1 h.2.2.2.2.1).mpr) (fun σ y l q => (bL_law_1966 l h.2.2.2.1 h.2.2.2.2.1).mpr (zy rfl q)) h
theorem lc_40 (h : lawH L xs x4 v5 v6 Q σ) : zW 14 kL_law 1971 (lLs x4 v5 v6) [] σ Q := by
  obtain ⟨nb, ns, g⟩ := h.1
  exact lw_case (e_reach g _ _ _ _ _) (bQ_L_law_1971 g.1 h.2.1 h.2.2.1 h.2.2.2.1 h.2.2.2.2.1).mpr (fun σ y l b => (bQ_L_law_2005 l b h.2.2.1 h.2.2.2.1 h.2.2.2.2.1).mpr) (fun σ y l q => (bL_law_2039 l h.2.2.2.1 h.2.2.2.2.1).mpr (zy rfl q)) h
theorem lc_41 (h : lawH L xs x4 v5 v6 Q σ) : zW 14 kL_law 2044 (lLs x4 v5 v6) [] σ Q := by
  obtain ⟨nb, ns, g⟩ := h.1
  exact lw_case (e_close g _) (bQ_L_law_2044 g.1 h.2.1 h.2.2.1 h.2.2.2.1 h.2.2.2.2.1).mpr (fun σ y l b => (bQ_L_law_2054 l b h.2.2.1 h.2.2.2.1 h.2.2.2.2.1).mpr) (fun σ y l q => (bL_law_2064 l h.2.2.2.1 h.2.2.2.2.1).mpr (zy rfl q)) h
theorem lc_42 (h : lawH L xs x4 v5 v6 Q σ) : zW 14 kL_law 2069 (lLs x4 v5 v6) [] σ Q := by
  obtain ⟨nb, ns, g⟩ := h.1
  exact lw_case (e_count g _) (bQ_L_law_2069 g.1 h.2.1 h.2.2.1 h.2.2.2.1 h.2.2.2.2.1).mpr (fun σ y l b => (bQ_L_law_2079 l b h.2.2.1 h.2.2.2.1 h.2.2.2.2.1).mpr) (fun σ y l q => (bL_law_2089 l h.2.2.2.1 h.2.2.2.2.1).mpr (zy rfl q)) h
theorem and63 (x : Int32) : 0 ≤ (x &&& 63).toInt ∧ (x &&& 63).toInt ≤ 63 := by
  have h : (x &&& 63).toBitVec.toNat ≤ 63 := by
    rw [Int32.toBitVec_and, BitVec.toNat_and]
    exact Nat.and_le_right
  have e : (x &&& 63).toInt = ((x &&& 63).toBitVec.toNat : Int) := BitVec.toInt_eq_toNat_of_lt (by omega)
  rw [e]
  omega
theorem lw_tab : decode cL_law 40 = .ok (.tableswitch 2054 0 42 #[188, 261, 286, 311, 336, 404, 453, 490, 527, 588, 613, 650, 707, 732, 769, 794, 831, 880, 973, 1034, 1095, 1168, 1217, 1278, 1327, 1376, 1413, 1462, 1475, 1512, 1573, 1586, 1599, 1648, 1685, 1710, 1735, 1760, 1809, 1870, 1931, 2004, 2029], 188) := by decide +kernel
theorem lw_sw (h : lawH L xs x4 v5 v6 Q σ) {x : Int32} (hx : 0 ≤ x.toInt ∧ x.toInt ≤ 63) : zW 14 kL_law 40 (lLs x4 v5 v6) [.int x] σ Q := by
  by_cases c : x.toInt ≤ 42
  · obtain ⟨k, -, rfl, e⟩ := ai_nx hx.1
    have hk : k < 43 := by omega
    clear hx c e
    match k, hk with
    | 0, _ => exact (zw_tableIn (K := kL_law) (pc := 40) (off := 188) (t := 228) lw_tab (by decide) (by decide) (by decide +kernel) (by decide +kernel)).mpr (lc_0 h)
    | 1, _ => exact (zw_tableIn (K := kL_law) (pc := 40) (off := 261) (t := 301) lw_tab (by decide) (by decide) (by decide +kernel) (by decide +kernel)).mpr (lc_1 h)
    | 2, _ => exact (zw_tableIn (K := kL_law) (pc := 40) (off := 286) (t := 326) lw_tab (by decide) (by decide) (by decide +kernel) (by decide +kernel)).mpr (lc_2 h)
    | 3, _ => exact (zw_tableIn (K := kL_law) (pc := 40) (off := 311) (t := 351) lw_tab (by decide) (by decide) (by decide +kernel) (by decide +kernel)).mpr (lc_3 h)
    | 4, _ => exact (zw_tableIn (K := kL_law) (pc := 40) (off := 336) (t := 376) lw_tab (by decide) (by decide) (by decide +kernel) (by decide +kernel)).mpr (lc_4 h)
    | 5, _ => exact (zw_tableIn (K := kL_law) (pc := 40) (off := 404) (t := 444) lw_tab (by decide) (by decide) (by decide +kernel) (by decide +kernel)).mpr (lc_5 h)
    | 6, _ => exact (zw_tableIn (K := kL_law) (pc := 40) (off := 453) (t := 493) lw_tab (by decide) (by decide) (by decide +kernel) (by decide +kernel)).mpr (lc_6 h)
    | 7, _ => exact (zw_tableIn (K := kL_law) (pc := 40) (off := 490) (t := 530) lw_tab (by decide) (by decide) (by decide +kernel) (by decide +kernel)).mpr (lc_7 h)
    | 8, _ => exact (zw_tableIn (K := kL_law) (pc := 40) (off := 527) (t := 567) lw_tab (by decide) (by decide) (by decide +kernel) (by decide +kernel)).mpr (lc_8 h)
    | 9, _ => exact (zw_tableIn (K := kL_law) (pc := 40) (off := 588) (t := 628) lw_tab (by decide) (by decide) (by decide +kernel) (by decide +kernel)).mpr (lc_9 h)
    | 10, _ => exact (zw_tableIn (K := kL_law) (pc := 40) (off := 613) (t := 653) lw_tab (by decide) (by decide) (by decide +kernel) (by decide +kernel)).mpr (lc_10 h)
    | 11, _ => exact (zw_tableIn (K := kL_law) (pc := 40) (off := 650) (t := 690) lw_tab (by decide) (by decide) (by decide +kernel) (by decide +kernel)).mpr (lc_11 h)
    | 12, _ => exact (zw_tableIn (K := kL_law) (pc := 40) (off := 707) (t := 747) lw_tab (by decide) (by decide) (by decide +kernel) (by decide +kernel)).mpr (lc_12 h)
    | 13, _ => exact (zw_tableIn (K := kL_law) (pc := 40) (off := 732) (t := 772) lw_tab (by decide) (by decide) (by decide +kernel) (by decide +kernel)).mpr (lc_13 h)
    | 14, _ => exact (zw_tableIn (K := kL_law) (pc := 40) (off := 769) (t := 809) lw_tab (by decide) (by decide) (by decide +kernel) (by decide +kernel)).mpr (lc_14 h)
    | 15, _ => exact (zw_tableIn (K := kL_law) (pc := 40) (off := 794) (t := 834) lw_tab (by decide) (by decide) (by decide +kernel) (by decide +kernel)).mpr (lc_15 h)
    | 16, _ => exact (zw_tableIn (K := kL_law) (pc := 40) (off := 831) (t := 871) lw_tab (by decide) (by decide) (by decide +kernel) (by decide +kernel)).mpr (lc_16 h)
    | 17, _ => exact (zw_tableIn (K := kL_law) (pc := 40) (off := 880) (t := 920) lw_tab (by decide) (by decide) (by decide +kernel) (by decide +kernel)).mpr (lc_17 h)
    | 18, _ => exact (zw_tableIn (K := kL_law) (pc := 40) (off := 973) (t := 1013) lw_tab (by decide) (by decide) (by decide +kernel) (by decide +kernel)).mpr (lc_18 h)
    | 19, _ => exact (zw_tableIn (K := kL_law) (pc := 40) (off := 1034) (t := 1074) lw_tab (by decide) (by decide) (by decide +kernel) (by decide +kernel)).mpr (lc_19 h)
    | 20, _ => exact (zw_tableIn (K := kL_law) (pc := 40) (off := 1095) (t := 1135) lw_tab (by decide) (by decide) (by decide +kernel) (by decide +kernel)).mpr (lc_20 h)
    | 21, _ => exact (zw_tableIn (K := kL_law) (pc := 40) (off := 1168) (t := 1208) lw_tab (by decide) (by decide) (by decide +kernel) (by decide +kernel)).mpr (lc_21 h)
    | 22, _ => exact (zw_tableIn (K := kL_law) (pc := 40) (off := 1217) (t := 1257) lw_tab (by decide) (by decide) (by decide +kernel) (by decide +kernel)).mpr (lc_22 h)
    | 23, _ => exact (zw_tableIn (K := kL_law) (pc := 40) (off := 1278) (t := 1318) lw_tab (by decide) (by decide) (by decide +kernel) (by decide +kernel)).mpr (lc_23 h)
    | 24, _ => exact (zw_tableIn (K := kL_law) (pc := 40) (off := 1327) (t := 1367) lw_tab (by decide) (by decide) (by decide +kernel) (by decide +kernel)).mpr (lc_24 h)
    | 25, _ => exact (zw_tableIn (K := kL_law) (pc := 40) (off := 1376) (t := 1416) lw_tab (by decide) (by decide) (by decide +kernel) (by decide +kernel)).mpr (lc_25 h)
    | 26, _ => exact (zw_tableIn (K := kL_law) (pc := 40) (off := 1413) (t := 1453) lw_tab (by decide) (by decide) (by decide +kernel) (by decide +kernel)).mpr (lc_26 h)
    | 27, _ => exact (zw_tableIn (K := kL_law) (pc := 40) (off := 1462) (t := 1502) lw_tab (by decide) (by decide) (by decide +kernel) (by decide +kernel)).mpr (lc_27 h)
    | 28, _ => exact (zw_tableIn (K := kL_law) (pc := 40) (off := 1475) (t := 1515) lw_tab (by decide) (by decide) (by decide +kernel) (by decide +kernel)).mpr (lc_28 h)
    | 29, _ => exact (zw_tableIn (K := kL_law) (pc := 40) (off := 1512) (t := 1552) lw_tab (by decide) (by decide) (by decide +kernel) (by decide +kernel)).mpr (lc_29 h)
    | 30, _ => exact (zw_tableIn (K := kL_law) (pc := 40) (off := 1573) (t := 1613) lw_tab (by decide) (by decide) (by decide +kernel) (by decide +kernel)).mpr (lc_30 h)
    | 31, _ => exact (zw_tableIn (K := kL_law) (pc := 40) (off := 1586) (t := 1626) lw_tab (by decide) (by decide) (by decide +kernel) (by decide +kernel)).mpr (lc_31 h)
    | 32, _ => exact (zw_tableIn (K := kL_law) (pc := 40) (off := 1599) (t := 1639) lw_tab (by decide) (by decide) (by decide +kernel) (by decide +kernel)).mpr (lc_32 h)
    | 33, _ => exact (zw_tableIn (K := kL_law) (pc := 40) (off := 1648) (t := 1688) lw_tab (by decide) (by decide) (by decide +kernel) (by decide +kernel)).mpr (lc_33 h)
    | 34, _ => exact (zw_tableIn (K := kL_law) (pc := 40) (off := 1685) (t := 1725) lw_tab (by decide) (by decide) (by decide +kernel) (by decide +kernel)).mpr (lc_34 h)
    | 35, _ => exact (zw_tableIn (K := kL_law) (pc := 40) (off := 1710) (t := 1750) lw_tab (by decide) (by decide) (by decide +kernel) (by decide +kernel)).mpr (lc_35 h)
    | 36, _ => exact (zw_tableIn (K := kL_law) (pc := 40) (off := 1735) (t := 1775) lw_tab (by decide) (by decide) (by decide +kernel) (by decide +kernel)).mpr (lc_36 h)
    | 37, _ => exact (zw_tableIn (K := kL_law) (pc := 40) (off := 1760) (t := 1800) lw_tab (by decide) (by decide) (by decide +kernel) (by decide +kernel)).mpr (lc_37 h)
    | 38, _ => exact (zw_tableIn (K := kL_law) (pc := 40) (off := 1809) (t := 1849) lw_tab (by decide) (by decide) (by decide +kernel) (by decide +kernel)).mpr (lc_38 h)
    | 39, _ => exact (zw_tableIn (K := kL_law) (pc := 40) (off := 1870) (t := 1910) lw_tab (by decide) (by decide) (by decide +kernel) (by decide +kernel)).mpr (lc_39 h)
    | 40, _ => exact (zw_tableIn (K := kL_law) (pc := 40) (off := 1931) (t := 1971) lw_tab (by decide) (by decide) (by decide +kernel) (by decide +kernel)).mpr (lc_40 h)
    | 41, _ => exact (zw_tableIn (K := kL_law) (pc := 40) (off := 2004) (t := 2044) lw_tab (by decide) (by decide) (by decide +kernel) (by decide +kernel)).mpr (lc_41 h)
    | 42, _ => exact (zw_tableIn (K := kL_law) (pc := 40) (off := 2029) (t := 2069) lw_tab (by decide) (by decide) (by decide +kernel) (by decide +kernel)).mpr (lc_42 h)
    | k + 43, hk => exact absurd hk (by omega)
  · exact (zw_tableOut (K := kL_law) (pc := 40) (t := 2094) lw_tab (Or.inr (by omega)) (by decide +kernel)).mpr (h.2.2.2.2.2 σ v5 v6 h.1 (lwN.of (zSam.refl σ)) h.2.2.2.1 h.2.2.2.2.1)
theorem lw_loop (hL : L ≤ 3072) : ∀ (m c : Nat) (v5 v6 : Value) (σ : zS), 513 - c = m → c ≤ 512 → Inv σ → lwB σ L xs → v5.category = 1 → v6.category = 1 → zcc σ ≤ 164 + c → zcs σ ≤ 6661 + 6 * c → zW 14 kL_law 23 (lLs (nI (6 * c)) v5 v6) [] σ (fun r σ' => r = some (.int 1) ∧ zcc σ' ≤ 601024 ∧ zcs σ' ≤ 7293034) := by
  intro m
  induction m with
  | zero => intro c v5 v6 σ hm hc; omega
  | succ m ih =>
    intro c v5 v6 σ hm hc hi hs h5 h6 hcc hcs
    have hi' := hi
    obtain ⟨nb, ns, g⟩ := hi'
    refine (bL_law_23 g.1 h5 h6).mpr ?_
    refine (zw_alen (K := kL_law) (pc := 26) (a := 0) (len := L) (v := nI L) (show decode cL_law 26 = .ok (.arraylength, 1) by decide +kernel) ⟨by rw [hs.1]; decide, Or.inr ⟨hs.1, rfl⟩⟩ (Nat.lt_trans Nat.zero_lt_one (g.1.n2 zk_1)) hs.2.1 rfl).mpr ?_
    refine (zw_bipush (K := kL_law) (pc := 27) (x := 6) (show decode cL_law 27 = .ok (.bipush 6, 2) by decide +kernel) (by decide)).mpr ?_
    refine (zw_isub (K := kL_law) (pc := 29) (show decode cL_law 29 = .ok (.isub, 1) by decide +kernel)).mpr ?_
    refine (zw_icmp_gt (K := kL_law) (pc := 30) (t := 2100) (show decode cL_law 30 = .ok (.if_icmp .gt 2070, 3) by decide +kernel) (by decide)).mpr ?_
    refine zlt' (zsub (ai_n (by omega)) k6 (by omega) (by omega)) (ai_n (by omega)) (fun q => ?_) (fun q => ?_)
    · refine (zw_iconst (K := kL_law) (pc := 2100) (x := 1) (show decode cL_law 2100 = .ok (.iconst 1, 1) by decide +kernel) (by decide)).mpr ?_
      refine (zw_iret2c (K := kL_law) (pc := 2101) (show decode cL_law 2101 = .ok (.ireturn, 1) by decide +kernel) rfl (Or.inr rfl)).mpr ?_
      exact ⟨rfl, by omega, by omega⟩
    · have vi : ∀ k, k < 6 → vp_in (nI (6 * c + k)) L := fun k hk => vp_in_nI (by omega) (by omega)
      have hq : lwQ L (nI (6 * c)) := ⟨vi 0 (by decide), by
        have := vi 1 (by decide); rwa [← ai_nIa] at this, by
        have := vi 2 (by decide); rwa [← ai_nIa] at this, by
        have := vi 3 (by decide); rwa [← ai_nIa] at this, by
        have := vi 4 (by decide); rwa [← ai_nIa] at this, by
        have := vi 5 (by decide); rwa [← ai_nIa] at this⟩
      refine (zw_aload_n (K := kL_law) (pc := 33) (show decode cL_law 33 = .ok (.aload_n 0, 1) by decide +kernel) rfl).mpr ?_
      refine (zw_iload (K := kL_law) (pc := 34) (show decode cL_law 34 = .ok (.iload 4, 2) by decide +kernel) rfl).mpr ?_
      refine (zw_isl (K := kL_law) (pc := 36) (show decode cL_law 36 = .ok (.iaload, 1) by decide +kernel) hs g.1 hq.1).mpr ?_
      refine (zw_bipush (K := kL_law) (pc := 37) (x := 63) (show decode cL_law 37 = .ok (.bipush 63, 2) by decide +kernel) (by decide)).mpr ?_
      refine (zw_iand (K := kL_law) (pc := 39) (show decode cL_law 39 = .ok (.iand, 1) by decide +kernel)).mpr ?_
      refine lw_sw ⟨hi, hs, hq, h5, h6, fun σ' w5 w6 i' n' k5 k6 => ?_⟩ (and63 _)
      obtain ⟨nb', ns', g'⟩ := i'
      refine (bL_law_2094 g'.1 k5 k6).mpr ?_
      have e6 : nI (6 * c) + 6 = nI (6 * (c + 1)) := ai_nIa (6 * c) 6
      rw [e6]
      exact ih (c + 1) w5 w6 σ' (by omega) (by omega) ⟨nb', ns', g'⟩ (hs.sh n'.1 n'.2.2.2) k5 k6 (by have := n'.2.1; omega) (by have := n'.2.2.1; omega)
theorem zOwed_proved : zOwed := fun L xs hL => by
  have i0 : Inv (zscr z1 L xs) := ⟨0, 0, inv0⟩
  have b0 : lwB (zscr z1 L xs) L xs := ⟨by simp [zkind, zscr], by simp [zlen, zscr], rfl⟩
  obtain ⟨-, -, e3, -⟩ := zini_eq
  have c0 : zcc (zscr z1 L xs) ≤ 164 + 0 := by
    have q : zcc z1 = 164 := by show z1.2.2.1 = 164; rw [e3]
    rw [(zscr_cc z1 L xs).1, q]
    exact Nat.le_of_ble_eq_true rfl
  have s0 : zcs (zscr z1 L xs) ≤ 6661 + 6 * 0 := by
    have q : zcs z1 = 6661 := by show z1.2.2.2 = 6661; rw [e3]
    rw [(zscr_cc z1 L xs).2, q]
    exact Nat.le_of_ble_eq_true rfl
  obtain ⟨f, r, σ', h1, h2, h3, h4⟩ := lw_loop (xs := xs) hL 513 0 (.retAddr 0) (.retAddr 0) _ rfl (by omega) i0 b0 rfl rfl c0 s0
  subst h2
  exact ⟨f, σ', h1, h3, h4⟩
end LAW
