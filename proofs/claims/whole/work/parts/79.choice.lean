/-! the verb choice -/
noncomputable def cSt (t : Int × Int) (ok : Prop) (k v : Int) : Int × Int := @ite _ (ok ∧ (t.1 = -1 ∨ v < t.2)) (Classical.propDecidable _) (k, v) t
theorem cSt_y {t : Int × Int} {ok : Prop} {k v : Int} (h : ok) (h2 : t.1 = -1 ∨ v < t.2) : cSt t ok k v = (k, v) := if_pos ⟨h, h2⟩
theorem cSt_n {t : Int × Int} {ok : Prop} {k v : Int} (h : ok → ¬ (t.1 = -1 ∨ v < t.2)) : cSt t ok k v = t := if_neg (fun z => h z.1 z.2)
noncomputable def oSt (t : Int × Int × Int) (y : Int) (a : Int × Int) : Int × Int × Int := @ite _ (a.1 ≠ -1 ∧ (t.1 = -1 ∨ t.2.2 < a.2)) (Classical.propDecidable _) (y, a.1, a.2) t
theorem oSt_y {t : Int × Int × Int} {y : Int} {a : Int × Int} (h : a.1 ≠ -1) (h2 : t.1 = -1 ∨ t.2.2 < a.2) : oSt t y a = (y, a.1, a.2) := if_pos ⟨h, h2⟩
theorem oSt_n {t : Int × Int × Int} {y : Int} {a : Int × Int} (h : a.1 ≠ -1 → ¬ (t.1 = -1 ∨ t.2.2 < a.2)) : oSt t y a = t := if_neg (fun z => h z.1 z.2)
noncomputable def cI (σ : zS) (b s1 s2 N y : Nat) : Nat → Int × Int
  | 0 => (-1, 0)
  | k + 1 => cSt (cI σ b s1 s2 N y k) (tFit σ b s1 s2 y k) k (gm σ b s1 s2 N y k)
noncomputable def cO (σ : zS) (b s1 s2 N L : Nat) : Nat → Int × Int × Int
  | 0 => (-1, -1, 0)
  | y + 1 => oSt (cO σ b s1 s2 N L y) y (cI σ b s1 s2 N y L)
theorem cI_c {σ0 σ : zS} (f : zFr iSafe σ0 σ) {b s1 s2 N y : Nat} (hb : b < 6) (h1 : s1 < 10) (h2 : s2 < 10) : ∀ k, cI σ b s1 s2 N y k = cI σ0 b s1 s2 N y k
  | 0 => rfl
  | k + 1 => by
    show cSt (cI σ b s1 s2 N y k) (tFit σ b s1 s2 y k) k (gm σ b s1 s2 N y k) = cSt (cI σ0 b s1 s2 N y k) (tFit σ0 b s1 s2 y k) k (gm σ0 b s1 s2 N y k)
    rw [cI_c f hb h1 h2 k, tFit_c f hb h1 h2, gm_c f hb h1 h2]
theorem cO_c {σ0 σ : zS} (f : zFr iSafe σ0 σ) {b s1 s2 N L : Nat} (hb : b < 6) (h1 : s1 < 10) (h2 : s2 < 10) : ∀ y, cO σ b s1 s2 N L y = cO σ0 b s1 s2 N L y
  | 0 => rfl
  | y + 1 => by
    show oSt (cO σ b s1 s2 N L y) y (cI σ b s1 s2 N y L) = oSt (cO σ0 b s1 s2 N L y) y (cI σ0 b s1 s2 N y L)
    rw [cO_c f hb h1 h2 y, cI_c f hb h1 h2]
def c2 (x y : Int32) (t : Int × Int) : Prop := x.toInt = t.1 ∧ y.toInt = t.2
def cV (z : Int) (t : Int × Int × Int) : Int := if t.1 = -1 then -1000 else b3v z t
section CHOICE
variable {d : Nat} {Q : Option Value → zS → Prop} {σ0 : zS} {nb ns : Nat}
theorem p_choice_z {b s1 s2 N L y : Nat} {z : Int32} (g0 : iA σ0 nb ns) (hb : b < nb) (h1 : s1 < ns) (h2 : s2 < ns) (hN : N ≤ 40) (hL : (mB σ0 b).2.1 = (L : Int)) (hy : y < L) {x7 x8 x9 : Int32} (h3 : b3 x7 x8 x9 (cO σ0 b s1 s2 N L y)) :
    ∀ (mm k : Nat) (σ : zS) (x11 x12 : Int32) (w : Value), L - k = mm → k ≤ L → w.category = 1 → zFr pWz σ0 σ → c2 x11 x12 (cI σ0 b s1 s2 N y k) →
    (∀ (σ' : zS) (y7 y8 y9 : Int32) (v11 v12 v13 v14 : Value), v11.category = 1 → v12.category = 1 → v13.category = 1 → v14.category = 1 → zFr pWz σ0 σ' → b3 y7 y8 y9 (cO σ0 b s1 s2 N L (y + 1)) → zW (d + 7) kX11_choice 67 [.ref 1, .int (nI b), .int (nI s1), .int (nI s2), .int (nI N), .int z, .ref (97 + 4 * b), .int y7, .int y8, .int y9, .int (nI (y + 1)), v11, v12, v13, v14] [] σ' Q) →
    zW (d + 7) kX11_choice 86 [.ref 1, .int (nI b), .int (nI s1), .int (nI s2), .int (nI N), .int z, .ref (97 + 4 * b), .int x7, .int x8, .int x9, .int (nI y), .int x11, .int x12, .int (nI k), w] [] σ Q := by
  have h6 := g0.nb6
  have h10 := g0.ns10
  have hL6 : L ≤ 6 := by have := (g0.bok hb).2.1; omega
  have zb0 := zk_bk (show b < 6 by omega)
  intro mm
  induction mm with
  | zero =>
    intro k σ x11 x12 w hm hk cw f e2 h
    have e : k = L := by omega
    subst e
    obtain ⟨g, fs⟩ := pZ g0 f
    have eL := (g.bp hb).2.1
    rw [iS_mB fs (show b < 6 by omega), hL] at eL
    have eO : cO σ0 b s1 s2 N k (y + 1) = oSt (cO σ0 b s1 s2 N k y) y (cI σ0 b s1 s2 N y k) := rfl
    have skip : b3 x7 x8 x9 (cO σ0 b s1 s2 N k (y + 1)) → zW (d + 7) kX11_choice 67 [.ref 1, .int (nI b), .int (nI s1), .int (nI s2), .int (nI N), .int z, .ref (97 + 4 * b), .int x7, .int x8, .int x9, .int (nI y + 1), .int x11, .int x12, .int (nI k), w] [] σ Q := fun q => by
      rw [nI_1]
      exact h σ _ _ _ _ _ _ _ (zcat_i _) (zcat_i _) (zcat_i _) cw f q
    have take : (cI σ0 b s1 s2 N y k).1 ≠ -1 → ((cO σ0 b s1 s2 N k y).1 = -1 ∨ (cO σ0 b s1 s2 N k y).2.2 < (cI σ0 b s1 s2 N y k).2) → zW (d + 7) kX11_choice 178 [.ref 1, .int (nI b), .int (nI s1), .int (nI s2), .int (nI N), .int z, .ref (97 + 4 * b), .int x7, .int x8, .int x9, .int (nI y), .int x11, .int x12, .int (nI k), w] [] σ Q := fun q1 q2 => by
      refine (bX11_choice_178 g.1 zb0 cw).mpr ?_
      rw [nI_1]
      refine h σ _ _ _ _ _ _ _ (zcat_i _) (zcat_i _) (zcat_i _) cw f ?_
      rw [eO, oSt_y q1 q2]
      exact ⟨ai_n (by omega), e2.1, e2.2⟩
    refine (bX11_choice_86 g.1 zb0 cw).mpr (zle' eL (ai_n (by omega)) (fun _ => zeq' e2.1 km1 (fun q => skip ?_) (fun q => zeq' h3.1 km1 (fun q2 => take q (Or.inl q2)) (fun q2 => zle' e2.2 h3.2.2 (fun q3 => skip ?_) (fun q3 => take q (Or.inr q3))))) (fun q => by omega))
    · rw [eO, oSt_n (fun z => absurd q z)]; exact h3
    · rw [eO, oSt_n (fun _ => by omega)]; exact h3
  | succ mm ih =>
    intro k σ x11 x12 w hm hk cw f e2 h
    obtain ⟨g, fs⟩ := pZ g0 f
    have eL := (g.bp hb).2.1
    rw [iS_mB fs (show b < 6 by omega), hL] at eL
    have eI : cI σ0 b s1 s2 N y (k + 1) = cSt (cI σ0 b s1 s2 N y k) (tFit σ0 b s1 s2 y k) k (gm σ0 b s1 s2 N y k) := rfl
    have nx : ∀ (σ1 : zS) (y11 y12 : Int32) (w' : Value), w'.category = 1 → zFr pWz σ0 σ1 → c2 y11 y12 (cI σ0 b s1 s2 N y (k + 1)) → zW (d + 7) kX11_choice 86 [.ref 1, .int (nI b), .int (nI s1), .int (nI s2), .int (nI N), .int z, .ref (97 + 4 * b), .int x7, .int x8, .int x9, .int (nI y), .int y11, .int y12, .int (nI k + 1), w'] [] σ1 Q := fun σ1 y11 y12 w' cw' f1 q => by
      rw [nI_1]
      exact ih (k + 1) σ1 y11 y12 w' (by omega) (by omega) cw' f1 q h
    refine (bX11_choice_86 g.1 zb0 cw).mpr (zle' eL (ai_n (by omega)) (fun q => by omega) (fun _ => ⟨vp_in_nI (by omega) (by decide), ?_⟩))
    rw [zR_sk g.1 (by omega)]
    refine (bX11_choice_105 g.1 zb0 cw (zk_sk (by omega)) zb0).mpr ⟨vp_in_nI (by omega) (by decide), ?_⟩
    rw [zR_sk g.1 (by omega)]
    refine (bX11_choice_113 g.1 zb0 cw (zk_sk (by omega)) (zk_sk (by omega)) zb0).mpr (p_two (d := d + 3) g0 f hb h1 h2 (by omega) (by omega) (fun σ1 T1 f1 => ⟨rfl, (bX11_choice_118 (pZ g0 f1).1.1 zb0 cw).mpr (zt0 (fun c => ?_) (fun c => ?_))⟩))
    · refine p_lead (d := d) g0 f1 hb h1 h2 hN T1 c (fun v σ2 hv f2 => ⟨rfl, (bX11_choice_130 (pZ g0 f2).1.1 zb0 cw).mpr (zeq' e2.1 km1 (fun q => nx σ2 _ _ _ (zcat_i _) f2 ?_) (fun q => zle' e2.2 hv (fun q2 => nx σ2 _ _ _ (zcat_i _) f2 ?_) (fun q2 => nx σ2 _ _ _ (zcat_i _) f2 ?_)))⟩)
      · rw [eI, cSt_y c (Or.inl q)]; exact ⟨ai_n (by omega), hv⟩
      · rw [eI, cSt_n (fun _ => by omega)]; exact e2
      · rw [eI, cSt_y c (Or.inr q2)]; exact ⟨ai_n (by omega), hv⟩
    · refine nx σ1 _ _ _ cw f1 ?_
      rw [eI, cSt_n (fun z => absurd z c)]; exact e2
theorem p_choice_y {b s1 s2 N L : Nat} {z : Int32} (g0 : iA σ0 nb ns) (hb : b < nb) (h1 : s1 < ns) (h2 : s2 < ns) (hN : N ≤ 40) (hL : (mB σ0 b).2.1 = (L : Int)) (h : ∀ (v : Int32) (σ' : zS), v.toInt = cV z.toInt (cO σ0 b s1 s2 N L L) → zFr pWz σ0 σ' → Q (some (.int v)) σ') :
    ∀ (mm y : Nat) (σ : zS) (x7 x8 x9 : Int32) (v11 v12 v13 v14 : Value), L - y = mm → y ≤ L → v11.category = 1 → v12.category = 1 → v13.category = 1 → v14.category = 1 → zFr pWz σ0 σ → b3 x7 x8 x9 (cO σ0 b s1 s2 N L y) →
    zW (d + 7) kX11_choice 67 [.ref 1, .int (nI b), .int (nI s1), .int (nI s2), .int (nI N), .int z, .ref (97 + 4 * b), .int x7, .int x8, .int x9, .int (nI y), v11, v12, v13, v14] [] σ Q := by
  have h6 := g0.nb6
  have hL6 : L ≤ 6 := by have := (g0.bok hb).2.1; omega
  have zb0 := zk_bk (show b < 6 by omega)
  intro mm
  induction mm with
  | zero =>
    intro y σ x7 x8 x9 v11 v12 v13 v14 hm hk c11 c12 c13 c14 f h3
    have e : y = L := by omega
    subst e
    obtain ⟨g, fs⟩ := pZ g0 f
    have eL := (g.bp hb).2.1
    rw [iS_mB fs (show b < 6 by omega), hL] at eL
    refine (bX11_choice_67 g.1 zb0 c11 c12 c13 c14).mpr (zle' eL (ai_n (by omega)) (fun _ => zeq' h3.1 km1 (fun q => h _ σ ?_ f) (fun q => b3_o h3 (fun v hv => h v σ ?_ f))) (fun q => by omega))
    · unfold cV; rw [if_pos q]; exact km1000
    · unfold cV; rw [if_neg q]; exact hv
  | succ mm ih =>
    intro y σ x7 x8 x9 v11 v12 v13 v14 hm hk c11 c12 c13 c14 f h3
    obtain ⟨g, fs⟩ := pZ g0 f
    have eL := (g.bp hb).2.1
    rw [iS_mB fs (show b < 6 by omega), hL] at eL
    refine (bX11_choice_67 g.1 zb0 c11 c12 c13 c14).mpr (zle' eL (ai_n (by omega)) (fun q => by omega) (fun _ => ?_))
    exact p_choice_z g0 hb h1 h2 hN hL (by omega) h3 L 0 σ (-1) 0 v14 (by omega) (by omega) c14 f ⟨km1, k0⟩ (fun σ' y7 y8 y9 w11 w12 w13 w14 a11 a12 a13 a14 f' q => ih (y + 1) σ' y7 y8 y9 w11 w12 w13 w14 (by omega) (by omega) a11 a12 a13 a14 f' q)
theorem m_choice_z {b s1 s2 N L y : Nat} {z : Int32} (g0 : iA σ0 nb ns) (hb : b < nb) (h1 : s1 < ns) (h2 : s2 < ns) (hN : N ≤ 40) (hL : (mB σ0 b).2.1 = (L : Int)) (hy : y < L) {x7 x8 x9 : Int32} (h3 : b3 x7 x8 x9 (cO σ0 b s1 s2 N L y)) :
    ∀ (mm k : Nat) (σ : zS) (x11 x12 : Int32) (w : Value), L - k = mm → k ≤ L → w.category = 1 → zFr mWx σ0 σ → mKept σ0 σ → c2 x11 x12 (cI σ0 b s1 s2 N y k) →
    (∀ (σ' : zS) (y7 y8 y9 : Int32) (v11 v12 v13 v14 : Value), v11.category = 1 → v12.category = 1 → v13.category = 1 → v14.category = 1 → zFr mWx σ0 σ' → mKept σ0 σ' → b3 y7 y8 y9 (cO σ0 b s1 s2 N L (y + 1)) → zW (d + 11) kX12_choice 70 [.ref 131, .int (nI b), .int (nI s1), .int (nI s2), .int (nI N), .int z, .int y7, .int y8, .int y9, .int (nI (y + 1)), v11, v12, v13, v14] [] σ' Q) →
    zW (d + 11) kX12_choice 90 [.ref 131, .int (nI b), .int (nI s1), .int (nI s2), .int (nI N), .int z, .int x7, .int x8, .int x9, .int (nI y), .int x11, .int x12, .int (nI k), w] [] σ Q := by
  have h6 := g0.nb6
  have h10 := g0.ns10
  have hL6 : L ≤ 6 := by have := (g0.bok hb).2.1; omega
  have cl : (nI b).toNatClampNeg = b := nI_clamp (by omega)
  have cl1 : (nI s1).toNatClampNeg = s1 := nI_clamp (by omega)
  have cl2 : (nI s2).toNatClampNeg = s2 := nI_clamp (by omega)
  intro mm
  induction mm with
  | zero =>
    intro k σ x11 x12 w hm hk cw f hK e2 h
    have e : k = L := by omega
    subst e
    obtain ⟨l, e1, e22, e3, e4⟩ := mX g0 f
    have eL : (zI σ 134 b).toInt = (k : Int) := by
      have e := e1 b
      rw [← hL, ← e]; rfl
    have eO : cO σ0 b s1 s2 N k (y + 1) = oSt (cO σ0 b s1 s2 N k y) y (cI σ0 b s1 s2 N y k) := rfl
    have skip : b3 x7 x8 x9 (cO σ0 b s1 s2 N k (y + 1)) → zW (d + 11) kX12_choice 70 [.ref 131, .int (nI b), .int (nI s1), .int (nI s2), .int (nI N), .int z, .int x7, .int x8, .int x9, .int (nI y + 1), .int x11, .int x12, .int (nI k), w] [] σ Q := fun q => by
      rw [nI_1]
      exact h σ _ _ _ _ _ _ _ (zcat_i _) (zcat_i _) (zcat_i _) cw f hK q
    have take : (cI σ0 b s1 s2 N y k).1 ≠ -1 → ((cO σ0 b s1 s2 N k y).1 = -1 ∨ (cO σ0 b s1 s2 N k y).2.2 < (cI σ0 b s1 s2 N y k).2) → zW (d + 11) kX12_choice 215 [.ref 131, .int (nI b), .int (nI s1), .int (nI s2), .int (nI N), .int z, .int x7, .int x8, .int x9, .int (nI y), .int x11, .int x12, .int (nI k), w] [] σ Q := fun q1 q2 => by
      refine (bX12_choice_215 l cw).mpr ?_
      rw [nI_1]
      refine h σ _ _ _ _ _ _ _ (zcat_i _) (zcat_i _) (zcat_i _) cw f hK ?_
      rw [eO, oSt_y q1 q2]
      exact ⟨ai_n (by omega), e2.1, e2.2⟩
    refine (bX12_choice_90 l cw).mpr ⟨vp_in_nI (by omega) (by decide), ?_⟩
    rw [cl]
    refine zle' eL (ai_n (by omega)) (fun _ => zeq' e2.1 km1 (fun q => skip ?_) (fun q => zeq' h3.1 km1 (fun q2 => take q (Or.inl q2)) (fun q2 => zlt' h3.2.2 e2.2 (fun q3 => take q (Or.inr q3)) (fun q3 => skip ?_)))) (fun q => by omega)
    · rw [eO, oSt_n (fun z => absurd q z)]; exact h3
    · rw [eO, oSt_n (fun _ => by omega)]; exact h3
  | succ mm ih =>
    intro k σ x11 x12 w hm hk cw f hK e2 h
    obtain ⟨l, e1, e22, e3, e4⟩ := mX g0 f
    have eL : (zI σ 134 b).toInt = (L : Int) := by
      have e := e1 b
      rw [← hL, ← e]; rfl
    have ey : (nI y).toInt = (y : Int) := ai_n (by omega)
    have ek : (nI k).toInt = (k : Int) := ai_n (by omega)
    have eI : cI σ0 b s1 s2 N y (k + 1) = cSt (cI σ0 b s1 s2 N y k) (tFit σ0 b s1 s2 y k) k (gm σ0 b s1 s2 N y k) := rfl
    have nx : ∀ (σ1 : zS) (y11 y12 : Int32) (w' : Value), w'.category = 1 → zFr mWx σ0 σ1 → mKept σ0 σ1 → c2 y11 y12 (cI σ0 b s1 s2 N y (k + 1)) → zW (d + 11) kX12_choice 90 [.ref 131, .int (nI b), .int (nI s1), .int (nI s2), .int (nI N), .int z, .int x7, .int x8, .int x9, .int (nI y), .int y11, .int y12, .int (nI k + 1), w'] [] σ1 Q := fun σ1 y11 y12 w' cw' f1 hK1 q => by
      rw [nI_1]
      exact ih (k + 1) σ1 y11 y12 w' (by omega) (by omega) cw' f1 hK1 q h
    have no : ¬ tFit σ0 b s1 s2 y k → zW (d + 11) kX12_choice 90 [.ref 131, .int (nI b), .int (nI s1), .int (nI s2), .int (nI N), .int z, .int x7, .int x8, .int x9, .int (nI y), .int x11, .int x12, .int (nI k + 1), w] [] σ Q := fun c => by
      refine nx σ _ _ _ cw f hK ?_
      rw [eI, cSt_n (fun z => absurd z c)]; exact e2
    refine (bX12_choice_90 l cw).mpr ⟨vp_in_nI (by omega) (by decide), ?_⟩
    rw [cl]
    refine zle' eL (ai_n (by omega)) (fun q => by omega) (fun _ => m_cbX g0 f hb h1 (by omega) ⟨rfl, (bX12_choice_109 l cw).mpr (zt0 (fun c1 => m_cbX g0 f hb h2 (by omega) ⟨rfl, (bX12_choice_120 l cw).mpr (zt0 (fun c2 => ⟨vp_in_nI (by omega) (by decide), vp_in_nI (by omega) (by decide), ?_⟩) (fun c2 => no (fun z => c2 (tFit_i.mp z).2.1)))⟩) (fun c1 => no (fun z => c1 (tFit_i.mp z).1)))⟩)
    rw [cl1, cl2, (e4 s1).1, (e4 s2).1]
    have q1 := (g0.stk h1).1
    have q2 := (g0.stk h2).1
    refine m_areApart l ey rfl ek rfl (by omega) ⟨rfl, (bX12_choice_142 l cw).mpr (zt0 (fun c3 => ?_) (fun c3 => no (fun z => c3 (tFit_i.mp z).2.2)))⟩
    have c := tFit_i.mpr ⟨c1, c2, c3⟩
    refine m_game (d := d) g0 f hb h1 h2 (by omega) (by omega) hN c (fun v σ1 hv f1 => ⟨rfl, ?_⟩)
    have f01 := f.trans (mWy_x f1)
    have hK1 := mKept_y hK f1
    refine (bX12_choice_161 (mX g0 f01).1 cw).mpr (zeq' e2.1 km1 (fun q => nx σ1 _ _ _ (zcat_i _) f01 hK1 ?_) (fun q => zlt' hv e2.2 (fun q2 => nx σ1 _ _ _ (zcat_i _) f01 hK1 ?_) (fun q2 => nx σ1 _ _ _ (zcat_i _) f01 hK1 ?_)))
    · rw [eI, cSt_y c (Or.inl q)]; exact ⟨ai_n (by omega), hv⟩
    · rw [eI, cSt_y c (Or.inr q2)]; exact ⟨ai_n (by omega), hv⟩
    · rw [eI, cSt_n (fun _ => by omega)]; exact e2
theorem m_choice_y {b s1 s2 N L : Nat} {z : Int32} (g0 : iA σ0 nb ns) (hb : b < nb) (h1 : s1 < ns) (h2 : s2 < ns) (hN : N ≤ 40) (hL : (mB σ0 b).2.1 = (L : Int)) (h : ∀ (v : Int32) (σ' : zS), v.toInt = cV z.toInt (cO σ0 b s1 s2 N L L) → zFr mWq σ0 σ' → Q (some (.int v)) σ') :
    ∀ (mm y : Nat) (σ : zS) (x7 x8 x9 : Int32) (v11 v12 v13 v14 : Value), L - y = mm → y ≤ L → v11.category = 1 → v12.category = 1 → v13.category = 1 → v14.category = 1 → zFr mWx σ0 σ → mKept σ0 σ → b3 x7 x8 x9 (cO σ0 b s1 s2 N L y) →
    zW (d + 11) kX12_choice 70 [.ref 131, .int (nI b), .int (nI s1), .int (nI s2), .int (nI N), .int z, .int x7, .int x8, .int x9, .int (nI y), v11, v12, v13, v14] [] σ Q := by
  have h6 := g0.nb6
  have hL6 : L ≤ 6 := by have := (g0.bok hb).2.1; omega
  have cl : (nI b).toNatClampNeg = b := nI_clamp (by omega)
  intro mm
  induction mm with
  | zero =>
    intro y σ x7 x8 x9 v11 v12 v13 v14 hm hk c11 c12 c13 c14 f hK h3
    have e : y = L := by omega
    subst e
    obtain ⟨l, e1, e22, e3, e4⟩ := mX g0 f
    have eL : (zI σ 134 b).toInt = (y : Int) := by
      have e := e1 b
      rw [← hL, ← e]; rfl
    refine (bX12_choice_70 l c11 c12 c13 c14).mpr ⟨vp_in_nI (by omega) (by decide), ?_⟩
    rw [cl]
    refine zle' eL (ai_n (by omega)) (fun _ => m_back l hK f (fun σ1 f1 => ⟨rfl, (bX12_choice_237 (f1.lay g0.1 (fun _ _ _ _ => mWq_2)) c11 c12 c13 c14).mpr (zeq' h3.1 km1 (fun q => h _ σ1 ?_ f1) (fun q => b3_o h3 (fun v hv => h v σ1 ?_ f1)))⟩)) (fun q => by omega)
    · unfold cV; rw [if_pos q]; exact km1000
    · unfold cV; rw [if_neg q]; exact hv
  | succ mm ih =>
    intro y σ x7 x8 x9 v11 v12 v13 v14 hm hk c11 c12 c13 c14 f hK h3
    obtain ⟨l, e1, e22, e3, e4⟩ := mX g0 f
    have eL : (zI σ 134 b).toInt = (L : Int) := by
      have e := e1 b
      rw [← hL, ← e]; rfl
    refine (bX12_choice_70 l c11 c12 c13 c14).mpr ⟨vp_in_nI (by omega) (by decide), ?_⟩
    rw [cl]
    refine zle' eL (ai_n (by omega)) (fun q => by omega) (fun _ => ?_)
    exact m_choice_z (d := d) g0 hb h1 h2 hN hL (by omega) h3 L 0 σ (-1) 0 v14 (by omega) (by omega) c14 f hK ⟨km1, k0⟩ (fun σ' y7 y8 y9 w11 w12 w13 w14 a11 a12 a13 a14 f' hK' q => ih (y + 1) σ' y7 y8 y9 w11 w12 w13 w14 (by omega) (by omega) a11 a12 a13 a14 f' hK' q)
theorem e_choice {σ : zS} (g : iA σ nb ns) (b s1 s2 n z : Int32) : eCall kX11_choice kX12_choice [.int b, .int s1, .int s2, .int n, .int z] [.int b, .int s1, .int s2, .int n, .int z] σ := by
  have h6 := g.nb6
  have h10 := g.ns10
  rcases a_cs b nb with ⟨b, hb, rfl, -⟩ | hx
  · have hB := g.bok hb
    obtain ⟨L, hL⟩ : ∃ L : Nat, (mB σ b).2.1 = (L : Int) := ⟨(mB σ b).2.1.toNat, by have := hB.1; omega⟩
    rcases a_cs s1 ns with ⟨s1, h1, rfl, -⟩ | hx
    · rcases a_cs s2 ns with ⟨s2, h2, rfl, -⟩ | hx
      · by_cases c : (1 ≤ n.toInt ∧ n.toInt ≤ 40) ∧ (0 ≤ z.toInt ∧ z.toInt ≤ 2)
        · obtain ⟨n, hn, rfl, eN⟩ := ai_nx (x := n) (by omega)
          have hN : n ≤ 40 := by omega
          refine e_q g (cV z.toInt (cO σ b s1 s2 n L L)) (fun Q h => (bX11_choice_0 g.1).mpr (p_nb0 g.1 g.e2 h6 hb ⟨rfl, (bX11_choice_5 g.1).mpr (zy rfl (p_ns0 g.1 g.e4 h10 h1 ⟨rfl, (bX11_choice_13 g.1).mpr (zy rfl (p_ns0 g.1 g.e4 h10 h2 ⟨rfl, (bX11_choice_21 g.1).mpr (zy rfl (p_sd g.1 (fun _ _ => ⟨rfl, (bX11_choice_29 g.1).mpr (zy rfl (zlt' rfl k0 (fun q => absurd q (by omega)) (fun _ => zle' rfl k2 (fun _ => ⟨vp_in_nI (by omega) (by decide), ?_⟩) (fun q => absurd q (by omega)))))⟩) (fun q => absurd c.1 q)))⟩))⟩))⟩)) (fun σ1 σ2 Q l1 e2 g2 f2 h => ?_)
          · rw [zR_bk g.1 (by omega)]
            exact (bX11_choice_53 g.1 (zk_bk (by omega))).mpr (p_choice_y (d := 6) (Q := Q) g hb h1 h2 hN hL h L 0 σ _ _ _ _ _ _ _ (by omega) (by omega) (zcat_r _) (zcat_r _) (zcat_r _) (zcat_r _) (zFr.refl _ _) ⟨km1, km1, k0⟩)
          · have hL2 : (mB σ2 b).2.1 = (L : Int) := by rw [iS_mB f2 (by omega)]; exact hL
            refine (bX12_choice_0 l1).mpr ?_
            rw [e2]
            refine m_ib1 g2.1 g2.e11 h6 hb ⟨rfl, (bX12_choice_10 g2.1).mpr (zn (by decide) (m_is1 g2.1 g2.e12 h10 h1 ⟨rfl, (bX12_choice_18 g2.1).mpr (zn (by decide) (m_is1 g2.1 g2.e12 h10 h2 ⟨rfl, (bX12_choice_26 g2.1).mpr (zn (by decide) (m_isIn g2.1 ⟨rfl, (bX12_choice_37 g2.1).mpr (zt0 (fun _ => m_isIn g2.1 ⟨rfl, (bX12_choice_47 g2.1).mpr (zt0 (fun _ => ?_) (fun q => absurd (by rw [k0, k2]; exact c.2) q))⟩) (fun q => absurd (by rw [k1, k40]; exact c.1) q))⟩))⟩))⟩))⟩
            refine m_keep g2.1 (fun σ3 k3 f3 e139 e131 e31 => ⟨rfl, (bX12_choice_67 (f3.lay g2.1 (fun _ _ _ _ => mWq_2))).mpr ?_⟩)
            exact m_choice_y (d := 2) (Q := Q) g2 hb h1 h2 hN hL2 (fun v σ' hv f => h v σ' (by rw [cO_c f2 (by omega) (by omega) (by omega)] at hv; exact hv) f) L 0 σ3 _ _ _ _ _ _ _ (by omega) (by omega) (zcat_r _) (zcat_r _) (zcat_r _) (zcat_r _) (mWq_x f3) k3 ⟨km1, km1, k0⟩
        · refine e_q g (-1000) (fun Q h => (bX11_choice_0 g.1).mpr (p_nb0 g.1 g.e2 h6 hb ⟨rfl, (bX11_choice_5 g.1).mpr (zy rfl (p_ns0 g.1 g.e4 h10 h1 ⟨rfl, (bX11_choice_13 g.1).mpr (zy rfl (p_ns0 g.1 g.e4 h10 h2 ⟨rfl, (bX11_choice_21 g.1).mpr (zy rfl (p_sd g.1 (fun q1 q2 => ⟨rfl, (bX11_choice_29 g.1).mpr (zy rfl (zlt' rfl k0 (fun q => h _ σ km1000 (zFr.refl _ _)) (fun q3 => zle' rfl k2 (fun q4 => absurd ⟨⟨q1, q2⟩, q3, q4⟩ c) (fun q => h _ σ km1000 (zFr.refl _ _)))))⟩) (fun q => ⟨rfl, (bX11_choice_29 g.1).mpr (zn (by decide) (h _ σ km1000 (zFr.refl _ _)))⟩)))⟩))⟩))⟩)) (fun σ1 σ2 Q l1 e2 g2 f2 h => ?_)
          refine (bX12_choice_0 l1).mpr ?_
          rw [e2]
          exact m_ib1 g2.1 g2.e11 h6 hb ⟨rfl, (bX12_choice_10 g2.1).mpr (zn (by decide) (m_is1 g2.1 g2.e12 h10 h1 ⟨rfl, (bX12_choice_18 g2.1).mpr (zn (by decide) (m_is1 g2.1 g2.e12 h10 h2 ⟨rfl, (bX12_choice_26 g2.1).mpr (zn (by decide) (m_isIn g2.1 ⟨rfl, (bX12_choice_37 g2.1).mpr (zt0 (fun q => m_isIn g2.1 ⟨rfl, (bX12_choice_47 g2.1).mpr (zt0 (fun q2 => absurd ⟨by rw [k1, k40] at q; exact q, by rw [k0, k2] at q2; exact q2⟩ c) (fun _ => h _ σ2 km1000 (zFr.refl _ _)))⟩) (fun _ => h _ σ2 km1000 (zFr.refl _ _)))⟩))⟩))⟩))⟩
      · refine e_q g (-1000) (fun Q h => (bX11_choice_0 g.1).mpr (p_nb0 g.1 g.e2 h6 hb ⟨rfl, (bX11_choice_5 g.1).mpr (zy rfl (p_ns0 g.1 g.e4 h10 h1 ⟨rfl, (bX11_choice_13 g.1).mpr (zy rfl (p_ns1 g.1 g.e4 h10 hx ⟨rfl, (bX11_choice_21 g.1).mpr (zn (by decide) (h _ σ km1000 (zFr.refl _ _)))⟩))⟩))⟩)) (fun σ1 σ2 Q l1 e2 g2 f2 h => ?_)
        refine (bX12_choice_0 l1).mpr ?_
        rw [e2]
        exact m_ib1 g2.1 g2.e11 h6 hb ⟨rfl, (bX12_choice_10 g2.1).mpr (zn (by decide) (m_is1 g2.1 g2.e12 h10 h1 ⟨rfl, (bX12_choice_18 g2.1).mpr (zn (by decide) (m_is0 g2.1 g2.e12 h10 hx ⟨rfl, (bX12_choice_26 g2.1).mpr (zy rfl (h _ σ2 km1000 (zFr.refl _ _)))⟩))⟩))⟩
    · refine e_q g (-1000) (fun Q h => (bX11_choice_0 g.1).mpr (p_nb0 g.1 g.e2 h6 hb ⟨rfl, (bX11_choice_5 g.1).mpr (zy rfl (p_ns1 g.1 g.e4 h10 hx ⟨rfl, (bX11_choice_13 g.1).mpr (zn (by decide) (h _ σ km1000 (zFr.refl _ _)))⟩))⟩)) (fun σ1 σ2 Q l1 e2 g2 f2 h => ?_)
      refine (bX12_choice_0 l1).mpr ?_
      rw [e2]
      exact m_ib1 g2.1 g2.e11 h6 hb ⟨rfl, (bX12_choice_10 g2.1).mpr (zn (by decide) (m_is0 g2.1 g2.e12 h10 hx ⟨rfl, (bX12_choice_18 g2.1).mpr (zy rfl (h _ σ2 km1000 (zFr.refl _ _)))⟩))⟩
  · refine e_q g (-1000) (fun Q h => (bX11_choice_0 g.1).mpr (p_nb1 g.1 g.e2 h6 hx ⟨rfl, (bX11_choice_5 g.1).mpr (zn (by decide) (h _ σ km1000 (zFr.refl _ _)))⟩)) (fun σ1 σ2 Q l1 e2 g2 f2 h => ?_)
    refine (bX12_choice_0 l1).mpr ?_
    rw [e2]
    exact m_ib0 g2.1 g2.e11 h6 hx ⟨rfl, (bX12_choice_10 g2.1).mpr (zy rfl (h _ σ2 km1000 (zFr.refl _ _)))⟩
end CHOICE
