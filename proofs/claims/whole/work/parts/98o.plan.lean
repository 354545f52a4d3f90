/-! the verb plan -/
/-- the pairs that one trial parts -/
noncomputable def n1 (σ : zS) (m1 : Int32) (T : tT) (t : Nat) : Nat := cnt (eT σ m1 T t) 15
theorem n1_b {σ : zS} {m1 : Int32} {T : tT} {t : Nat} : n1 σ m1 T t ≤ 15 := cnt_b 15
theorem n1_n {σ : zS} {m1 : Int32} {T : tT} {t : Nat} (ht : t < T.1) (h12 : T.1 ≤ 12) : nT σ m1 T (bt ((1 : Int32) <<< (nI t &&& 31))) = n1 σ m1 T t :=
  cnt_c 15 (fun k _ => pO_one (fun s hs => p_1bit15 t (by omega) s hs) T.1 (by omega) ht)
/-- the best trial of the first m + 1 -/
noncomputable def bT (N : Nat → Nat) : Nat → Nat
  | 0 => 0
  | m + 1 => if N (bT N m) < N (m + 1) then m + 1 else bT N m
theorem bT_le {N : Nat → Nat} : ∀ m, bT N m ≤ m
  | 0 => Nat.le_refl _
  | m + 1 => by
    have := bT_le (N := N) m
    by_cases h : N (bT N m) < N (m + 1)
    · exact Nat.le_of_eq (if_pos h)
    · exact Nat.le_trans (Nat.le_of_eq (if_neg h)) (Nat.le_succ_of_le this)
theorem bT_y {N : Nat → Nat} {m : Nat} (h : N (bT N m) < N (m + 1)) : bT N (m + 1) = m + 1 := if_pos h
theorem bT_n {N : Nat → Nat} {m : Nat} (h : ¬ N (bT N m) < N (m + 1)) : bT N (m + 1) = bT N m := if_neg h
theorem tSn_cT {σ0 σ : zS} {m1 : Int32} {T : tT} {ns : Nat} (f : zFr iSafe σ0 σ) (h10 : ns ≤ 10) {t : Nat} (ht : (T.2 t).1 < ns) {k : Nat} (hk : k < 15) : eT σ m1 T t k = eT σ0 m1 T t k := by
  have q := qAB k hk
  unfold eT eP
  show ((bt m1 (qA k) && bt m1 (qB k)) && decide (tSn σ m1 (qA k) (T.2 t) ≠ tSn σ m1 (qB k) (T.2 t))) = _
  rw [tSn_c f q.1 (by omega), tSn_c f q.2 (by omega)]
theorem n1_c {σ0 σ : zS} {m1 : Int32} {T : tT} {ns : Nat} (f : zFr iSafe σ0 σ) (h10 : ns ≤ 10) {t : Nat} (ht : (T.2 t).1 < ns) : n1 σ m1 T t = n1 σ0 m1 T t := cnt_c 15 (fun k hk => tSn_cT f h10 ht hk)
theorem nT_c {σ0 σ : zS} {m1 : Int32} {T : tT} {X : Nat → Bool} {ns : Nat} (f : zFr iSafe σ0 σ) (h10 : ns ≤ 10) (hT : ∀ t, t < T.1 → (T.2 t).1 < ns) : nT σ m1 T X = nT σ0 m1 T X := cnt_c 15 (fun k hk => pO_c T.1 (fun t ht => ⟨rfl, tSn_cT f h10 (hT t ht) hk⟩))
section PLAN
variable {d : Nat} {Q : Option Value → zS → Prop} {σ0 : zS} {nb ns : Nat} {m1 m2 : Int32}
theorem p_plan_l {T : tT} {σ : zS} {x2 x3 : Int32} (hl : zLay σ) (hTr : pTr σ T) (hP : pPar σ0 m1 σ T T.1) (h0 : 0 < T.1)
    (h : ∀ v : Int32, v.toInt = (if x3.toInt = 0 then (bT (n1 σ0 m1 T) (T.1 - 1) : Int) else (n1 σ0 m1 T (bT (n1 σ0 m1 T) (T.1 - 1)) : Int)) → Q (some (.int v)) σ) :
    ∀ (mm i : Nat) (x : Int32) (v7 : Value), T.1 - (i + 1) = mm → i < T.1 → v7.category = 1 → zW (d + 1) kX11_plan 44 [.ref 1, .int m1, .int x2, .int x3, .int (nI (bT (n1 σ0 m1 T) i)), .int (nI (n1 σ0 m1 T (bT (n1 σ0 m1 T) i))), .int (nI (i + 1)), v7] [] σ Q := by
  obtain ⟨t1, t2, t3⟩ := hTr
  intro mm
  induction mm with
  | zero =>
    intro i x v7 hm hi c7
    have e : i = T.1 - 1 := by omega
    have b1 := bT_le (N := n1 σ0 m1 T) i
    have b2 := n1_b (σ := σ0) (m1 := m1) (T := T) (t := bT (n1 σ0 m1 T) i)
    rw [← e] at h
    refine (bX11_plan_44 hl c7).mpr (zle' (zto t2 (ai_n (by omega))) (ai_n (by omega)) (fun _ => (bX11_plan_99 hl c7).mpr (zeq' rfl k0 (fun q => h _ ?_) (fun q => h _ ?_))) (fun q => by omega))
    · rw [if_pos q]; exact ai_n (by omega)
    · rw [if_neg q]; exact ai_n (by omega)
  | succ mm ih =>
    intro i x v7 hm hi c7
    have b1 := bT_le (N := n1 σ0 m1 T) i
    have b2 := n1_b (σ := σ0) (m1 := m1) (T := T) (t := bT (n1 σ0 m1 T) i)
    have b3 := n1_b (σ := σ0) (m1 := m1) (T := T) (t := i + 1)
    have ep : pc (zI σ 89 (i + 1)) = nI (n1 σ0 m1 T (i + 1)) := by
      have hE := hP (i + 1) (by omega)
      rw [pc_t (fun k hk q => ((hE k hk).mp q).1)]
      refine congrArg nI (cnt_c 15 (fun k hk => ?_))
      have z := hE k (by omega)
      show bt (zI σ 89 (i + 1)) k = eP m1 (fun b => tSn σ0 m1 b (T.2 (i + 1))) k
      cases h1 : bt (zI σ 89 (i + 1)) k <;> cases h2 : eP m1 (fun b => tSn σ0 m1 b (T.2 (i + 1))) k
      · rfl
      · exact absurd (z.mpr ⟨hk, h2⟩) (by rw [h1]; decide)
      · exact absurd (z.mp h1).2 (by rw [h2]; decide)
      · rfl
    refine (bX11_plan_44 hl c7).mpr (zle' (zto t2 (ai_n (by omega))) (ai_n (by omega)) (fun q => by omega) (fun _ => zle' k12 (ai_n (by omega)) (fun q => by omega) (fun _ => ⟨vp_in_nI (by omega) (by decide), ?_⟩)))
    rw [nI_clamp (by omega)]
    refine c_bc hl ⟨rfl, (bX11_plan_76 hl c7).mpr ?_⟩
    rw [ep, nI_1]
    refine zle' (ai_n (by omega)) (ai_n (by omega)) (fun q => ?_) (fun q => ?_)
    · have e := bT_n (N := n1 σ0 m1 T) (m := i) (by omega)
      have z := ih (i + 1) x (.int (nI (n1 σ0 m1 T (i + 1)))) (by omega) (by omega) (zcat_i _)
      rw [e] at z
      exact z
    · have e := bT_y (N := n1 σ0 m1 T) (m := i) (by omega)
      have z := ih (i + 1) x (.int (nI (n1 σ0 m1 T (i + 1)))) (by omega) (by omega) (zcat_i _)
      rw [e] at z
      exact z
theorem p_plan_0 {T : tT} {σ : zS} {x2 x3 : Int32} (hl : zLay σ) (hTr : pTr σ T) (hP : pPar σ0 m1 σ T T.1) (h0 : 0 < T.1)
    (h : ∀ v : Int32, v.toInt = (if x3.toInt = 0 then (bT (n1 σ0 m1 T) (T.1 - 1) : Int) else (n1 σ0 m1 T (bT (n1 σ0 m1 T) (T.1 - 1)) : Int)) → Q (some (.int v)) σ) :
    zW (d + 1) kX11_plan 44 [.ref 1, .int m1, .int x2, .int x3, .int 0, .int (-1), .int 0, .retAddr 0] [] σ Q := by
  have go := p_plan_l (d := d) (x2 := x2) hl hTr hP h0 h (T.1 - 1) 0 0
  obtain ⟨t1, t2, t3⟩ := hTr
  have b3 := n1_b (σ := σ0) (m1 := m1) (T := T) (t := 0)
  have ep : pc (zI σ 89 0) = nI (n1 σ0 m1 T 0) := by
    have hE := hP 0 (by omega)
    rw [pc_t (fun k hk q => ((hE k hk).mp q).1)]
    refine congrArg nI (cnt_c 15 (fun k hk => ?_))
    have z := hE k (by omega)
    show bt (zI σ 89 0) k = eP m1 (fun b => tSn σ0 m1 b (T.2 0)) k
    cases h1 : bt (zI σ 89 0) k <;> cases h2 : eP m1 (fun b => tSn σ0 m1 b (T.2 0)) k
    · rfl
    · exact absurd (z.mpr ⟨hk, h2⟩) (by rw [h1]; decide)
    · exact absurd (z.mp h1).2 (by rw [h2]; decide)
    · rfl
  refine (bX11_plan_44 hl (zcat_r _)).mpr (zle' (zto t2 (ai_n (by omega))) k0 (fun q => by omega) (fun _ => zn (by decide) ⟨vp_in_nI (n := 0) (by omega) (by decide), ?_⟩))
  rw [show (0 : Int32).toNatClampNeg = 0 from rfl]
  refine c_bc hl ⟨rfl, (bX11_plan_76 hl (zcat_r _)).mpr ?_⟩
  rw [ep]
  exact zle' (ai_n (by omega)) km1 (fun q => by omega) (fun q => go (.int (nI (n1 σ0 m1 T 0))) (by omega) (by omega) (zcat_i _))
theorem m_plan_l {T : tT} {σ : zS} {x2 x3 : Int32} (hl : zLay σ) (e11 : zI σ 131 11 = nI nb) (hT : mTr σ0 nb m1 σ T) (h6 : nb ≤ 6) (hm1 : tSt nb m1)
    (h : ∀ v : Int32, v.toInt = (if x3.toInt = 0 then (bT (n1 σ0 m1 T) (T.1 - 1) : Int) else (n1 σ0 m1 T (bT (n1 σ0 m1 T) (T.1 - 1)) : Int)) → Q (some (.int v)) σ) :
    ∀ (mm i : Nat), T.1 - (i + 1) = mm → i < T.1 → zW (d + 3) kX12_plan 38 [.ref 131, .int m1, .int x2, .int x3, .int (nI (bT (n1 σ0 m1 T) i)), .int (nI (i + 1))] [] σ Q := by
  have t1 := hT.1
  have t2 := hT.2.1
  intro mm
  induction mm with
  | zero =>
    intro i hm hi
    have e : i = T.1 - 1 := by omega
    have b1 := bT_le (N := n1 σ0 m1 T) i
    have b2 := n1_b (σ := σ0) (m1 := m1) (T := T) (t := bT (n1 σ0 m1 T) i)
    rw [← e] at h
    refine (bX12_plan_38 hl).mpr (zle' (zto t2 (ai_n (by omega))) (ai_n (by omega)) (fun _ => zeq' rfl k0 (fun q => (bX12_plan_96 hl).mpr (h _ ?_)) (fun q => m_partsOf (d := d) hl e11 hT h6 hm1 ⟨rfl, (bX12_plan_96 hl).mpr (h _ ?_)⟩)) (fun q => by omega))
    · rw [if_pos q]; exact ai_n (by omega)
    · rw [if_neg q, n1_n (by omega) t1]; exact ai_n (by omega)
  | succ mm ih =>
    intro i hm hi
    have b1 := bT_le (N := n1 σ0 m1 T) i
    have b2 := n1_b (σ := σ0) (m1 := m1) (T := T) (t := bT (n1 σ0 m1 T) i)
    have b3 := n1_b (σ := σ0) (m1 := m1) (T := T) (t := i + 1)
    refine (bX12_plan_38 hl).mpr (zle' (zto t2 (ai_n (by omega))) (ai_n (by omega)) (fun q => by omega) (fun _ => m_partsOf (d := d) hl e11 hT h6 hm1 ⟨rfl, (bX12_plan_56 hl).mpr (m_partsOf (d := d) hl e11 hT h6 hm1 ⟨rfl, (bX12_plan_65 hl).mpr ?_⟩)⟩))
    rw [n1_n (show i + 1 < T.1 by omega) t1, n1_n (show bT (n1 σ0 m1 T) i < T.1 by omega) t1]
    rw [nI_1]
    refine zle' (ai_n (by omega)) (ai_n (by omega)) (fun q => ?_) (fun q => ?_)
    · have z := ih (i + 1) (by omega) (by omega)
      rw [bT_n (N := n1 σ0 m1 T) (m := i) (by omega)] at z
      exact z
    · have z := ih (i + 1) (by omega) (by omega)
      rw [bT_y (N := n1 σ0 m1 T) (m := i) (by omega)] at z
      exact z
theorem bT_c {N N' : Nat → Nat} : ∀ m, (∀ k, k ≤ m → N k = N' k) → bT N m = bT N' m
  | 0, _ => rfl
  | m + 1, h => by
    have i := bT_c m (fun k hk => h k (by omega))
    have b := bT_le (N := N') m
    show (if N (bT N m) < N (m + 1) then m + 1 else bT N m) = (if N' (bT N' m) < N' (m + 1) then m + 1 else bT N' m)
    rw [i, h (bT N' m) (by omega), h (m + 1) (Nat.le_refl _)]
theorem e_plan {σ : zS} (g : iA σ nb ns) (x1 x2 x3 : Int32) : eCall kX11_plan kX12_plan [.int x1, .int x2, .int x3] [.int x1, .int x2, .int x3] σ := by
  have h6 := g.nb6
  have h10 := g.ns10
  have ok : ∀ t, t < (tOut (tC σ nb x1 x2) ns).1 → ((tOut (tC σ nb x1 x2) ns).2 t).1 < ns ∧ ((tOut (tC σ nb x1 x2) ns).2 t).2 < 6 ∧ tOn σ nb x1 ((tOut (tC σ nb x1 x2) ns).2 t).1 ((tOut (tC σ nb x1 x2) ns).2 t).2 := fun t ht => ⟨(tOut_ok ns t ht).1, (tOut_ok ns t ht).2.1, (tOut_ok ns t ht).2.2.2⟩
  generalize hTT : tOut (tC σ nb x1 x2) ns = T at ok
  have eT : ∀ σ2, zFr iSafe σ σ2 → tOut (tC σ2 nb x1 x2) ns = T := fun σ2 f => by rw [← hTT]; exact tTr_c f h6 h10
  by_cases cw : 0 ≤ x3.toInt ∧ x3.toInt ≤ 1
  · by_cases c : (tSt nb x1 ∧ tSt ns x2 ∧ T.1 ≤ 12) ∧ 0 < T.1
    · refine e_q g (if x3.toInt = 0 then (bT (n1 σ x1 T) (T.1 - 1) : Int) else (n1 σ x1 T (bT (n1 σ x1 T) (T.1 - 1)) : Int)) (fun Q h => ?_) (fun σ1 σ2 Q l1 e2 g2 f2 h => ?_)
      · refine (bX11_plan_0 g.1).mpr (zlt' rfl k0 (fun q => by omega) (fun _ => zlt' k1 rfl (fun q => by omega) (fun _ => p_find (d := 8) g (fun b1 _ σ' f' hT => ⟨rfl, (bX11_plan_15 (pZ g f').1.1).mpr (zn (by decide) ?_)⟩) (fun z => by rw [hTT] at z; exact absurd c.1 z))))
        rw [hTT] at hT
        refine zeq' (zto hT.2.1 (ai_n (by omega))) k0 (fun q => by omega) (fun _ => p_parts (d := 6) (nb := nb) g (tSt_b h6 b1) ok f' hT (fun σ3 f3 hT3 hP3 => ⟨rfl, (bX11_plan_35 (pZ g f3).1.1).mpr ?_⟩))
        exact p_plan_0 (d := 12) (pZ g f3).1.1 hT3 hP3 c.2 (fun v hv => h v σ3 hv f3)
      · refine (bX12_plan_0 l1).mpr ?_
        rw [e2]
        refine m_isIn g2.1 ⟨rfl, (bX12_plan_11 g2.1).mpr (zt0 (fun _ => ?_) (fun q => absurd (by rw [k0, k1]; exact cw) q))⟩
        refine m_are (d := 0) g2 (fun b1 _ σ' f' hT => ⟨rfl, (bX12_plan_20 (mZ g2 f').1.1).mpr (zn (by decide) ?_)⟩) (fun z => by rw [eT σ2 f2] at z; exact absurd c.1 z)
        rw [eT σ2 f2] at hT
        have l3 := (mZ g2 f').1.1
        refine zeq' (zto hT.2.1 (ai_n (by omega))) k0 (fun q => by omega) (fun _ => ?_)
        refine m_plan_l (d := 10) l3 (mZ g2 f').1.e11 hT h6 b1 (fun v hv => h v σ' ?_ f') (T.1 - 1) 0 (by omega) c.2
        have eb : bT (n1 σ2 x1 T) (T.1 - 1) = bT (n1 σ x1 T) (T.1 - 1) := bT_c _ (fun k hk => n1_c f2 h10 (ok k (by omega)).1)
        have b := bT_le (N := n1 σ x1 T) (T.1 - 1)
        rw [eb, n1_c f2 h10 (ok _ (by omega)).1] at hv
        exact hv
    · refine e_q g (-1) (fun Q h => ?_) (fun σ1 σ2 Q l1 e2 g2 f2 h => ?_)
      · refine (bX11_plan_0 g.1).mpr (zlt' rfl k0 (fun q => by omega) (fun _ => zlt' k1 rfl (fun q => by omega) (fun _ => p_find (d := 8) g (fun b1 b2 σ' f' hT => ⟨rfl, (bX11_plan_15 (pZ g f').1.1).mpr (zn (by decide) ?_)⟩) (fun _ σ' f' => ⟨rfl, (bX11_plan_15 (pZ g f').1.1).mpr (zy rfl (h _ σ' km1 f'))⟩))))
        rw [hTT] at hT
        refine zeq' (zto hT.2.1 (ai_n (by have := hT.1; omega))) k0 (fun _ => h _ σ' km1 f') (fun q => absurd ⟨⟨b1, b2, hT.1⟩, by omega⟩ c)
      · refine (bX12_plan_0 l1).mpr ?_
        rw [e2]
        refine m_isIn g2.1 ⟨rfl, (bX12_plan_11 g2.1).mpr (zt0 (fun _ => ?_) (fun q => absurd (by rw [k0, k1]; exact cw) q))⟩
        refine m_are (d := 0) g2 (fun b1 b2 σ' f' hT => ⟨rfl, (bX12_plan_20 (mZ g2 f').1.1).mpr (zn (by decide) ?_)⟩) (fun _ σ' f' => ⟨rfl, (bX12_plan_20 (mZ g2 f').1.1).mpr (zy rfl (h _ σ' km1 f'))⟩)
        rw [eT σ2 f2] at hT
        refine zeq' (zto hT.2.1 (ai_n (by have := hT.1; omega))) k0 (fun _ => h _ σ' km1 f') (fun q => absurd ⟨⟨b1, b2, hT.1⟩, by omega⟩ c)
  · refine e_q g (-1) (fun Q h => ?_) (fun σ1 σ2 Q l1 e2 g2 f2 h => ?_)
    · exact (bX11_plan_0 g.1).mpr (zlt' rfl k0 (fun q => h _ σ km1 (zFr.refl _ _)) (fun q => zlt' k1 rfl (fun q2 => h _ σ km1 (zFr.refl _ _)) (fun q2 => absurd ⟨q, q2⟩ cw)))
    · refine (bX12_plan_0 l1).mpr ?_
      rw [e2]
      exact m_isIn g2.1 ⟨rfl, (bX12_plan_11 g2.1).mpr (zt0 (fun q => absurd (by rw [k0, k1] at q; exact q) cw) (fun _ => h _ σ2 km1 (zFr.refl _ _)))⟩
end PLAN
