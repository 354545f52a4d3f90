/-! a runner is told -/
section RUNNER
variable {d : Nat} {σ : zS} {Q : Option Value → zS → Prop} {nb ns : Nat}
theorem p_add2 {t n b s : Nat} {F : aFn} {G : Nat → Int} {y : Int32} (hT : pTd σ t n b F) (hn : n < 6) (hs : zk s = 6) (hG : ∀ j, j < 3 → (zI σ s j).toInt = G j) (hy : y.toInt = G 3)
    (h : ∀ σ', zR σ' (t + 8 + 2 * n) 0 = some s → pTd σ' t (n + 1) b (aAdd F n G) → (∀ w, 4 ≤ w → w < 11 → (zI σ' (t + 8 + 2 * n) (w - 2)).toInt = aPut (aAdd F n G) n w) → zFr (pWa t n) σ σ' → Q none σ') : zCall (d + 1) kX2_add [.ref t, .ref s, .int y] σ Q := by
  obtain ⟨c1, c2, c3, c4, c5, c6, c7⟩ := hT
  have hk := zf_racer c2 hn
  have ri : zR σ (t + 1) n = some (t + 8 + 2 * n) := by
    refine c1.r ?_
    unfold zRT
    rw [(zf_race c2).1.1]
    show (if n < 6 then some (t + 1 + 7 + 2 * n) else none) = _
    rw [if_pos hn]
  refine (bX2_add_0 c1 c2 hs).mpr ?_
  rw [c4]
  refine zlt' (ai_n (by omega)) k0 (fun q => by omega) (fun _ => zlt' (ai_n (by omega)) k6 (fun _ => ⟨vp_in_nI (by omega) (by decide), ?_⟩) (fun q => by omega))
  rw [nI_clamp (by omega), ri]
  refine (bX2_add_26 c1 c2 hs hk).mpr ?_
  have f1 : zFr (pWa t n) σ (zsR σ (t + 8 + 2 * n) (va_up (zR σ (t + 8 + 2 * n)) 0 (some s))) := zFr_R (Or.inr ⟨rfl, rfl, rfl⟩)
  have f2 : zFr (pWa t n) σ (zsI (zsR σ (t + 8 + 2 * n) (va_up (zR σ (t + 8 + 2 * n)) 0 (some s))) (t + 8 + 2 * n) (upd (zI σ (t + 8 + 2 * n)) 1 y)) := f1.trans (zFr_I (fun k => Or.inl (Or.inl ⟨rfl, Or.inr rfl⟩)))
  have g1 : zI (zsI (zsR σ (t + 8 + 2 * n) (va_up (zR σ (t + 8 + 2 * n)) 0 (some s))) (t + 8 + 2 * n) (upd (zI σ (t + 8 + 2 * n)) 1 y)) (t + 8 + 2 * n) 1 = y := by rw [zI_self, pk_us]
  have g2 : zR (zsI (zsR σ (t + 8 + 2 * n) (va_up (zR σ (t + 8 + 2 * n)) 0 (some s))) (t + 8 + 2 * n) (upd (zI σ (t + 8 + 2 * n)) 1 y)) (t + 8 + 2 * n) 0 = some s := by
    show zR (zsR σ (t + 8 + 2 * n) _) (t + 8 + 2 * n) 0 = _
    rw [zR_self]
    exact if_pos rfl
  have g3 : ∀ c, c ≠ t + 8 + 2 * n → zI (zsI (zsR σ (t + 8 + 2 * n) (va_up (zR σ (t + 8 + 2 * n)) 0 (some s))) (t + 8 + 2 * n) (upd (zI σ (t + 8 + 2 * n)) 1 y)) c = zI σ c := fun c hc => zI_ne hc
  generalize zsI (zsR σ (t + 8 + 2 * n) (va_up (zR σ (t + 8 + 2 * n)) 0 (some s))) (t + 8 + 2 * n) (upd (zI σ (t + 8 + 2 * n)) 1 y) = σ1 at f2 g1 g2 g3 ⊢
  have l1 := pWq_lay c2 (pWa_q c2 hn f2) c1
  refine p_rbegin l1 hk (fun σ2 g f3 => ⟨rfl, ?_⟩)
  have f4 : zFr (pWa t n) σ σ2 := f2.trans (f3.mono (fun j c k q => Or.inl ⟨q.1, Or.inr q.2.1⟩))
  have l2 := pWq_lay c2 (pWa_q c2 hn f4) c1
  refine (bX2_add_41 l2 c2 hs hk).mpr ?_
  have e4 : zI σ2 t 4 = nI n := by rw [f3.i (fun q => by omega), g3 t (by omega)]; exact c4
  have f5 : zFr (pWa t n) σ (zsI σ2 t (upd (zI σ2 t) 4 (zI σ2 t 4 + 1))) := f4.trans (zFr_U (Or.inl ⟨rfl, Or.inl ⟨rfl, rfl⟩⟩))
  have gI : ∀ c k, c ≠ t → zI (zsI σ2 t (upd (zI σ2 t) 4 (zI σ2 t 4 + 1))) c k = zI σ2 c k := fun c k q => by rw [zI_ne q]
  have g4 : zI (zsI σ2 t (upd (zI σ2 t) 4 (zI σ2 t 4 + 1))) t 4 = nI (n + 1) := by rw [zI_self, pk_us, e4, nI_1]
  have gR : zR (zsI σ2 t (upd (zI σ2 t) 4 (zI σ2 t 4 + 1))) (t + 8 + 2 * n) 0 = some s := by
    show zR σ2 (t + 8 + 2 * n) 0 = _
    rw [f3.r (fun q => by omega)]; exact g2
  generalize zsI σ2 t (upd (zI σ2 t) 4 (zI σ2 t 4 + 1)) = σ3 at f5 gI g4 gR ⊢
  obtain ⟨q1, q2, q3, q4, q5, q6, q7, q8⟩ := g
  have eN : ∀ w, aAdd F n G n w = G w := fun w => if_pos rfl
  refine h σ3 gR ⟨pWq_lay c2 (pWa_q c2 hn f5) c1, c2, by omega, g4, ?_, c6, fun r hr => ?_⟩ (fun w h4 h11 => ?_) f5
  · rw [f5.r (by unfold pWa; omega)]; exact c5
  · by_cases e : r = n
    · subst e
      refine ⟨⟨s, gR, hs, fun j hj => ?_⟩, ?_⟩
      · rw [eN, f5.i (by unfold pWa; intro q; rcases q with ⟨_, q | q⟩ | q <;> first | omega | (rw [q.1] at hs; omega) | (rw [q] at hs; omega))]
        exact hG j hj
      · rw [eN, gI _ _ (by omega), q1, g1]; exact hy
    · have eF : ∀ w, aAdd F n G r w = F r w := fun w => if_neg e
      obtain ⟨⟨s', s1, s2, s3⟩, s4⟩ := c7 r (by omega)
      refine ⟨⟨s', by rw [f5.r (by unfold pWa; omega)]; exact s1, s2, fun j hj => ?_⟩, ?_⟩
      · rw [eF, f5.i (by unfold pWa; intro q; rcases q with ⟨_, q | q⟩ | q <;> first | omega | (rw [q.1] at s2; omega) | (rw [q] at s2; omega))]
        exact s3 j hj
      · rw [eF, f5.i (by unfold pWa; omega)]; exact s4
  · rw [gI _ _ (by omega)]
    rcases (by omega : w = 4 ∨ w = 5 ∨ w = 6 ∨ w = 7 ∨ w = 8 ∨ w = 9 ∨ w = 10) with e | e | e | e | e | e | e <;> subst e
    · show (zI σ2 _ 2).toInt = 0; rw [q2]; rfl
    · show (zI σ2 _ 3).toInt = aAdd F n G n 3; rw [q3, g1, eN]; exact hy
    · show (zI σ2 _ 4).toInt = 0; rw [q4]; rfl
    · show (zI σ2 _ 5).toInt = -1; rw [q5]; rfl
    · show (zI σ2 _ 6).toInt = -1; rw [q6]; rfl
    · show (zI σ2 _ 7).toInt = 0; rw [q7]; rfl
    · show (zI σ2 _ 8).toInt = 0; rw [q8]; rfl

theorem iT.td {n b : Nat} (T : iT σ nb ns n b) (g : iA σ nb ns) : pTd σ 12 n (97 + 4 * b) (mFR σ 139 n) :=
  ⟨g.1, zk_12, T.1, T.2.2.1, T.2.2.2.2.2.1, zk_bk (by have := T.bb; have := g.nb6; omega), fun r hr => by
    obtain ⟨s, s1, s2⟩ := T.2.2.2.2.2.2.1 r hr
    refine ⟨⟨121 + s, s2, zk_sk (by have := g.ns10; omega), fun j hj => ?_⟩, T.v (w := 3) hr (by omega) (by omega)⟩
    rw [← T.F, pF_s hr hj s2]⟩
theorem mF_r {n r w : Nat} (h : r < n) : mFR σ 139 (n + 1) r w = mFR σ 139 n r w := by
  unfold mFR
  by_cases q : w < 11
  · rw [if_pos ⟨by omega, q⟩, if_pos ⟨h, q⟩]
  · rw [if_neg (by omega), if_neg (by omega)]
def aNew (F : aFn) (n : Nat) (G : Nat → Int) : aFn := fun r w => if r < n + 1 ∧ w < 11 then (if r = n then (if w ≤ 3 then G w else aPut (fun _ => G) n w) else F r w) else 0
theorem aNew_o {F : aFn} {n r w : Nat} {G : Nat → Int} (h : r < n) (hw : w < 11) : aNew F n G r w = F r w := by
  unfold aNew
  rw [if_pos (by omega), if_neg (by omega)]
theorem aNew_n {F : aFn} {n w : Nat} {G : Nat → Int} (hw : w < 11) : aNew F n G n w = if w ≤ 3 then G w else aPut (fun _ => G) n w := by
  unfold aNew
  rw [if_pos (by omega), if_pos rfl]
/-- what the model knows of brooks, sticks, weather and race stands as it was -/
def jM (c k : Nat) : Prop := (c = 131 ∧ ((11 ≤ k ∧ k ≤ 15) ∨ (19 ≤ k ∧ k ≤ 22) ∨ k = 43)) ∨ jB 6 c k ∨ (136 ≤ c ∧ c ≤ 138 ∧ k < 10) ∨ (c = 139 ∧ k < 66)
def mEq (σ σ2 : zS) : Prop := zLay σ2 ∧ ∀ c k, jM c k → zI σ2 c k = zI σ c k
theorem mEq.s {σ σ2 : zS} (l2 : zLay σ2) (f : zFr iSafe σ σ2) : mEq σ σ2 := ⟨l2, fun c k q => f.i (by
  rcases q with ⟨rfl, q⟩ | q | ⟨q1, q2, q3⟩ | ⟨rfl, q⟩
  · exact nS3 (by omega)
  · exact nSB (Nat.le_refl _) q
  · exact nS6 ⟨q1, q2⟩ q3
  · exact nS7 q)⟩
theorem mEq.fr {W : Nat → Nat → Nat → Prop} {σ σ2 : zS} (l2 : zLay σ2) (f : zFr W σ σ2) (w : ∀ c k, jM c k → ¬ W 0 c k) : mEq σ σ2 := ⟨l2, fun c k q => f.i (w c k q)⟩
theorem mEq.i {σ σ2 : zS} (E : mEq σ σ2) {k : Nat} (h : (11 ≤ k ∧ k ≤ 15) ∨ (19 ≤ k ∧ k ≤ 22) ∨ k = 43) : zI σ2 131 k = zI σ 131 k := E.2 _ _ (Or.inl ⟨rfl, h⟩)
theorem mEq.b {σ σ2 : zS} (E : mEq σ σ2) {b : Nat} (hb : b < 6) : mB σ2 b = mB σ b := by
  unfold mB
  rw [E.2 134 b (Or.inr (Or.inl (by unfold jB; omega))), E.2 135 b (Or.inr (Or.inl (by unfold jB; omega)))]
  congr 1
  funext y x
  by_cases q : y < 6 ∧ x < 16
  · rw [if_pos q, if_pos q, E.2 133 (16 * (6 * b + y) + x) (Or.inr (Or.inl (by unfold jB; omega)))]
  · rw [if_neg q, if_neg q]
theorem mEq.w {σ σ2 : zS} (E : mEq σ σ2) : mW σ2 = mW σ := by
  unfold mW
  rw [E.i (by omega), E.i (by omega), E.i (by omega)]
theorem mEq.f {σ σ2 : zS} (E : mEq σ σ2) {n : Nat} (hn : n ≤ 6) : mF σ2 n = mFR σ 139 n := by
  funext r v
  unfold mF mFR
  by_cases q : r < n ∧ v < 11
  · rw [if_pos q, if_pos q, E.2 139 (11 * r + v) (Or.inr (Or.inr (Or.inr (by omega))))]
  · rw [if_neg q, if_neg q]
theorem mEq.g {σ σ2 : zS} (E : mEq σ σ2) {c s : Nat} (hc : 136 ≤ c ∧ c ≤ 138) (hs : s < 10) : zI σ2 c s = zI σ c s := E.2 _ _ (Or.inr (Or.inr (Or.inl ⟨hc.1, hc.2, hs⟩)))
theorem mEq.t {σ1 σ2 : zS} {σ : zS} (E : mEq σ σ2) {k : Nat} (e2 : zsI σ1 131 (upd (zI σ1 131) 0 0) = σ2) (h : (11 ≤ k ∧ k ≤ 15) ∨ (19 ≤ k ∧ k ≤ 22) ∨ k = 43) : zI σ1 131 k = zI σ 131 k := by
  rw [← E.i h, ← e2, zI_self, pk_un (by omega)]
theorem aFok_c {B : aBk} {F F' : aFn} {r : Nat} (h : ∀ w, w < 11 → F r w = F' r w) (g : aFok B F r) : aFok B F' r := by
  unfold aFok aFst at *
  rw [← h 0 (by omega), ← h 1 (by omega), ← h 2 (by omega), ← h 3 (by omega), ← h 4 (by omega), ← h 5 (by omega), ← h 6 (by omega), ← h 7 (by omega), ← h 8 (by omega)]
  exact g
theorem aPut_add {F : aFn} {n w : Nat} {G : Nat → Int} (h4 : 4 ≤ w) (h : w < 11) : aPut (aAdd F n G) n w = aPut (fun _ => G) n w := by
  have e : aAdd F n G n 3 = G 3 := if_pos rfl
  rcases (by omega : w = 4 ∨ w = 5 ∨ w = 6 ∨ w = 7 ∨ w = 8 ∨ w = 9 ∨ w = 10) with q | q | q | q | q | q | q <;> subst q
  · rfl
  · exact e
  · rfl
  · rfl
  · rfl
  · rfl
  · rfl
theorem aNew_v {F : aFn} {n : Nat} {G : Nat → Int} : aNew F n G n 0 = G 0 ∧ aNew F n G n 1 = G 1 ∧ aNew F n G n 2 = G 2 ∧ aNew F n G n 3 = G 3 ∧ aNew F n G n 4 = 0 ∧ aNew F n G n 5 = G 3 ∧ aNew F n G n 6 = 0 ∧ aNew F n G n 7 = -1 ∧ aNew F n G n 8 = -1 := by
  refine ⟨?_, ?_, ?_, ?_, ?_, ?_, ?_, ?_, ?_⟩ <;> rw [aNew_n (by omega)]
  · rw [if_pos (by omega)]
  · rw [if_pos (by omega)]
  · rw [if_pos (by omega)]
  · rw [if_pos (by omega)]
  · rw [if_neg (by omega)]; rfl
  · rw [if_neg (by omega)]; rfl
  · rw [if_neg (by omega)]; rfl
  · rw [if_neg (by omega)]; rfl
  · rw [if_neg (by omega)]; rfl
def wRun (j c k : Nat) : Prop := (j = 0 ∧ ((c = 12 ∧ k = 4) ∨ (20 ≤ c ∧ c ≤ 30) ∨ c = 139 ∨ (c = 131 ∧ (k = 0 ∨ k = 20)))) ∨ (j = 2 ∧ 20 ≤ c ∧ c ≤ 30)
theorem e_runner (g : iA σ nb ns) (s y : Int32) : eCall kX11_runner kX12_runner [.int s, .int y] [.int s, .int y] σ := by
  have h6 := g.nb6
  have h10 := g.ns10
  have m131 : ∀ {σ1 σ2 : zS} {k : Nat}, zsI σ1 131 (upd (zI σ1 131) 0 0) = σ2 → zFr iSafe σ σ2 → k ≠ 0 → ¬ iSafe 0 131 k → zI σ1 131 k = zI σ 131 k := fun e2 f2 h0 hk => by
    rw [← f2.i hk, ← e2, zI_self, pk_un h0]
  rcases g.race with ⟨n, b, T, hN | ⟨t, hR⟩⟩ | hN
  · have n6 := T.1
    have hb := T.bb
    have hB := g.bok hb
    have C := T.pcx g
    obtain ⟨m21, p9, hst⟩ := hN
    have m19 := T.2.2.2.1
    have m20 := T.2.1
    by_cases c6 : n = 6
    · refine e_q g (-1) (fun Q h => (bX11_runner_0 g.1).mpr (zy p9 (zle' k6 (zto T.2.2.1 (ai_n (by omega))) (fun _ => h _ σ km1 (zFr.refl _ _)) (fun q => by omega)))) (fun σ1 σ2 Q l1 e2 g2 f2 h => ?_)
      refine (bX12_runner_0 l1).mpr ?_
      rw [m131 e2 f2 (by decide) (nS3 (by omega)), m131 e2 f2 (by decide) (nS3 (by omega)), m131 e2 f2 (by decide) (nS3 (by omega)), m19, m20, e2]
      exact zn (nI_m1 (by omega)) (zy m21 (zy (by rw [c6]; rfl) (h _ σ2 km1 (zFr.refl _ _))))
    have n5 : n < 6 := by omega
    have hn6 : ¬ nI n = 6 := fun q => by
      have := congrArg Int32.toInt q
      rw [ai_n (by omega), k6] at this
      omega
    rcases a_cs s ns with ⟨s, hs, rfl, -⟩ | hx
    · have hS := g.stk hs
      obtain ⟨t0, t1, t2, s0, s1, s2⟩ := hS
      have c11 : (nI s).toNatClampNeg = s := nI_clamp (by omega)
      have pp : ∀ {Q : Option Value → zS → Prop}, zCall 12 kX0_holds [.ref (97 + 4 * b), .ref (121 + s), .int 0, .int y, .int (zI σ 10 1)] σ (fun r σ' => zisN r = true ∧ zW 13 kX11_runner 59 [.ref 1, .int (nI s), .int y, .ref (121 + s)] (zRstk r ++ []) σ' Q) → zCall 13 kX11_runner [.ref 1, .int (nI s), .int y] σ Q := by
        intro Q h
        refine (bX11_runner_0 g.1).mpr (zy p9 (zle' k6 (zto T.2.2.1 (ai_n (by omega))) (fun q => by omega) (fun _ => p_ns0 g.1 g.e4 h10 hs ⟨rfl, (bX11_runner_27 g.1).mpr (zy rfl ⟨vp_in_nI (by omega) (by decide), ?_⟩)⟩)))
        rw [zR_sk g.1 (by omega)]
        refine (bX11_runner_38 g.1 (zk_sk (by omega))).mpr ?_
        rw [T.2.2.2.2.2.1]
        exact (bX11_runner_46 g.1 (zk_sk (by omega)) (zk_bk (by omega))).mpr h
      have mm : ∀ {σ1 σ2 : zS} {Q : Option Value → zS → Prop}, zLay σ1 → zsI σ1 131 (upd (zI σ1 131) 0 0) = σ2 → mEq σ σ2 → (¬ aCan (mB σ b) (mW σ) (mG σ s y.toInt 0) 0 y.toInt → Q (some (.int (-1))) σ2) → (aCan (mB σ b) (mW σ) (mG σ s y.toInt 0) 0 y.toInt → ¬ aFree n (mFR σ 139 n) (-1) (mG σ s y.toInt 0) 0 y.toInt → Q (some (.int (-1))) σ2) → (aCan (mB σ b) (mW σ) (mG σ s y.toInt 0) 0 y.toInt → aFree n (mFR σ 139 n) (-1) (mG σ s y.toInt 0) 0 y.toInt → zW 13 kX12_runner 70 [.ref 131, .int (nI s), .int y] [.int 1] σ2 Q) → zCall 13 kX12_runner [.ref 131, .int (nI s), .int y] σ1 Q := by
        intro σ1 σ2 Q l1 e2 E h1 h2 h3
        have l2 := E.1
        refine (bX12_runner_0 l1).mpr ?_
        rw [E.t e2 (by omega), E.t e2 (by omega), E.t e2 (by omega), m19, m20, e2]
        refine zn (nI_m1 (by omega)) (zy m21 (zn hn6 (m_is1 l2 ((E.i (by omega)).trans g.e12) h10 hs ⟨rfl, (bX12_runner_35 l2).mpr (zn (by decide) ⟨vp_in_nI (by omega) (by decide), ?_⟩)⟩)))
        rw [c11, E.g (c := 136) (by omega) (by omega), E.i (k := 19) (by omega), m19]
        refine m_canLie l2 (E.b (by omega)) E.w hB (by omega) (by decide) (by omega) ⟨rfl, (bX12_runner_54 l2).mpr (zt0 (fun q => ⟨vp_in_nI (by omega) (by decide), ?_⟩) (fun q => h1 q))⟩
        have q1 := q.1
        have q2 := q.2.1
        have hB6 := hB.2.1
        rw [c11, E.g (c := 136) (by omega) (by omega)]
        refine m_isFree l2 (E.f n6) n6 ((E.i (by omega)).trans m20) (aLn_6 hB T.ln) ⟨by omega, by omega⟩ (by omega) ⟨rfl, ?_⟩
        by_cases c : aFree n (mFR σ 139 n) (-1 : Int32).toInt (zI σ 136 s).toInt (0 : Int32).toInt y.toInt
        · rw [zb_t c]; exact h3 q c
        · rw [zb_f c]; exact (bX12_runner_70 l2).mpr (zy rfl (h2 q c))
      have hG : mG σ s y.toInt 0 = (zI σ (121 + s) 0).toInt := by rw [s0]; rfl
      by_cases cC : aCan (mB σ b) (mW σ) (mG σ s y.toInt 0) 0 y.toInt
      · have q1 := cC.1
        have q2 := cC.2.1
        have hB6 := hB.2.1
        have hy6 : 0 ≤ y.toInt ∧ y.toInt ≤ 7 := by
          have : mG σ s y.toInt 0 = (zI σ 136 s).toInt := rfl
          omega
        have pf : ∀ {Q : Option Value → zS → Prop}, (∀ v u : Int32, (u &&& v = 0 ↔ aFree n (mFR σ 139 n) (-1) (mG σ s y.toInt 0) 0 y.toInt) → zW 13 kX11_runner 83 [.ref 1, .int (nI s), .int y, .ref (121 + s)] [.int v, .int u] σ Q) → zCall 13 kX11_runner [.ref 1, .int (nI s), .int y] σ Q := by
          intro Q h
          refine pp (p_holds g.1 (g.bp hb) hB (zk_sk (by omega)) hG.symm ⟨t0.1, t0.2⟩ g.wp.2.1 ⟨rfl, (bX11_runner_59 g.1 (zk_sk (by omega))).mpr (zt0 (fun _ => ?_) (fun q => absurd ⟨by decide, by have := hB.2.2.1; rw [k0]; omega, cC⟩ q))⟩)
          refine p_barredN (t := 12) C T.F T.ln (fun o ho => (T.ok o ho).2.2.2.2.2.2.2.2.1) (by decide) g.wp.2.1 (fun u hu => ⟨rfl, (bX11_runner_78 g.1 (zk_sk (by omega))).mpr (p_lanesFrom g.1 (zk_sk (by omega)) hG.symm ⟨by have := t0.1; have : mG σ s y.toInt 0 = (zI σ 136 s).toInt := rfl; omega, by have := t0.2; have : mG σ s y.toInt 0 = (zI σ 136 s).toInt := rfl; omega⟩ hy6 (fun v hv => ⟨rfl, h v u ?_⟩))⟩)
          rw [p_and0]
          unfold pBm at hu
          constructor
          · intro hz k k1 k2 hocc
            have hk32 : k.toNat < 32 := by omega
            have ek : ((k.toNat : Nat) : Int) = k := by omega
            refine hz k.toNat hk32 ⟨(hu k.toNat hk32).mpr (Or.inr ?_), (hv k.toNat hk32).mpr ?_⟩
            · rw [ek]; exact hocc
            · rw [ek]; exact ⟨k1, k2⟩
          · intro hf k hk hz
            have h1 := (hv k hk).mp hz.2
            rcases (hu k hk).mp hz.1 with h2 | h2
            · exact cC.2.2 k h1.1 h1.2 h2.2.2
            · exact hf k h1.1 h1.2 h2
        by_cases cF : aFree n (mFR σ 139 n) (-1) (mG σ s y.toInt 0) 0 y.toInt
        · refine pf (fun v u hvu => (bX11_runner_83 g.1 (zk_sk (by omega))).mpr (zy (hvu.mpr cF) ?_))
          refine p_add2 (G := mG σ s y.toInt) (T.td g) n5 (zk_sk (by omega)) (mG_p (g.stk hs)) rfl (fun σ1 eR T1 eP f1 => ⟨rfl, (bX11_runner_98 T1.1 (zk_sk (by omega))).mpr ?_⟩)
          have e4 := T1.2.2.2.1
          rw [e4, a_pred (by omega) (by omega), Nat.add_sub_cancel]
          have f1r : zFr wRun σ σ1 := f1.mono (fun j c k q => by unfold pWa at q; unfold wRun; omega)
          refine ⟨nI n, rfl, T1.1, zSam.fr f1r (fun k => by unfold wRun; omega), ?_⟩
          have f2 : zFr (fun j c k => j = 0 ∧ c = 131 ∧ k = 0) σ1 (zsI σ1 131 (upd (zI σ1 131) 0 0)) := zFr_U ⟨rfl, rfl, rfl⟩
          generalize e2 : zsI σ1 131 (upd (zI σ1 131) 0 0) = σ2 at f2 ⊢
          have l2 : zLay σ2 := by subst e2; exact T1.1.I
          have E : mEq σ σ2 := ⟨l2, fun c k q => by
            have q' : jM c k := q
            unfold jM jB at q'
            rw [f2.i (by omega), f1.i (by unfold pWa; omega)]⟩
          refine mm T1.1 e2 E (fun q => absurd cC q) (fun _ q => absurd cF q) (fun _ _ => (bX12_runner_70 l2).mpr (zn (by decide) ⟨vp_in_nI (by omega) (by decide), vp_in_nI (by omega) (by decide), vp_in_nI (by omega) (by decide), ?_⟩))
          rw [c11, E.g (c := 136) (by omega) (by omega), E.g (c := 137) (by omega) (by omega), E.g (c := 138) (by omega) (by omega)]
          refine m_join (G := mG σ s y.toInt) l2 n5 ((E.i (by omega)).trans m20) ((E.i (by omega)).trans g.r43) rfl rfl rfl rfl (fun σ3 e20 j1 j2 j3 f3 => ⟨rfl, ?_⟩)
          have l3 : zLay σ3 := f3.lay l2 (fun _ _ _ _ => by unfold mWj; omega)
          refine (bX12_runner_98 l3).mpr ?_
          rw [e20, a_pred (by omega) (by omega), Nat.add_sub_cancel]
          have f2r : zFr wRun σ1 σ2 := f2.mono (fun j c k q => by unfold wRun; omega)
          have f3r : zFr wRun σ2 σ3 := f3.mono (fun j c k q => by unfold mWj at q; unfold wRun; omega)
          have f23 : zFr (fun j c k => j = 0 ∧ (c = 131 ∨ c = 139)) σ1 σ3 := (f2.mono (fun j c k q => ⟨q.1, Or.inl q.2.1⟩)).trans (f3.mono (fun j c k q => by unfold mWj at q; exact ⟨q.1, by omega⟩))
          have hok := mG_ok (y := y.toInt) (g.stk hs)
          have hst1 : ∀ r, r < n + 1 → ∃ s', s' < ns ∧ zR σ1 (12 + 8 + 2 * r) 0 = some (121 + s') := fun r hr => by
            rcases Nat.lt_or_ge r n with h | h
            · obtain ⟨s', a1, a2⟩ := T.2.2.2.2.2.2.1 r h
              exact ⟨s', a1, by rw [f1.r (by unfold pWa; omega)]; exact a2⟩
            · obtain rfl : r = n := by omega
              exact ⟨s, hs, eR⟩
          have eF1 : pF σ1 12 (n + 1) = aNew (mFR σ 139 n) n (mG σ s y.toInt) := by
            funext r w
            unfold aNew
            by_cases q : r < n + 1 ∧ w < 11
            · rw [if_pos q]
              obtain ⟨⟨s', a1, a2, a3⟩, a4⟩ := T1.2.2.2.2.2.2 r q.1
              by_cases q3 : w ≤ 3
              · have e : pF σ1 12 (n + 1) r w = aAdd (mFR σ 139 n) n (mG σ s y.toInt) r w := by
                  rcases Nat.lt_or_ge w 3 with h | h
                  · rw [pF_s q.1 h a1]; exact a3 w h
                  · obtain rfl : w = 3 := by omega
                    rw [pF_w q.1 (by omega) (by omega)]; exact a4
                rw [e]
                unfold aAdd
                by_cases qn : r = n
                · rw [if_pos qn, if_pos qn, if_pos q3]
                · rw [if_neg qn, if_neg qn]
              · rw [pF_w q.1 (by omega) q.2]
                by_cases qn : r = n
                · subst qn
                  rw [if_pos rfl, if_neg q3, eP w (by omega) q.2]
                  exact aPut_add (by omega) q.2
                · rw [if_neg qn, f1.i (by unfold pWa; omega)]
                  exact T.v (by omega) (by omega) q.2
            · rw [if_neg q]
              unfold pF
              rw [if_neg q]
          have eF3 : pF σ3 12 (n + 1) = aNew (mFR σ 139 n) n (mG σ s y.toInt) := by
            rw [← eF1]
            exact pF_f (R := 1) (nb := nb) (ns := ns) f23 (by omega) (fun c k q => by unfold jTl jB at q; omega) (fun c k _ _ => by omega) hst1
          have eM3 : mFR σ3 139 (n + 1) = aNew (mFR σ 139 n) n (mG σ s y.toInt) := by
            funext r w
            show mF σ3 (n + 1) r w = _
            unfold aNew
            by_cases q : r < n + 1 ∧ w < 11
            · rw [if_pos q]
              by_cases qn : r = n
              · subst qn
                rw [if_pos rfl]
                by_cases q3 : w ≤ 3
                · rw [if_pos q3]; exact j1 w q3
                · rw [if_neg q3]; exact j2 w (by omega) q.2
              · rw [if_neg qn, j3 r w (by omega), E.f n6]
            · rw [if_neg q]
              exact mF_0 q
          have hF : ∀ r, r < n → ∀ w, w < 11 → mFR σ 139 n r w = aNew (mFR σ 139 n) n (mG σ s y.toInt) r w := fun r hr w hw => (aNew_o hr hw).symm
          obtain ⟨N0, N1, N2, N3, N4, N5, N6, N7, N8⟩ := aNew_v (F := mFR σ 139 n) (n := n) (G := mG σ s y.toInt)
          rw [show mG σ s y.toInt 3 = y.toInt from rfl] at N3 N5
          have B1 := hB.2.2.1
          have eB3 : mB σ3 b = mB σ b := by
            rw [← E.b (b := b) (by omega)]
            exact mB_f (nb := 6) f3 (fun c k q => by unfold jB at q; unfold mWj; omega) (by omega)
          have eSr : iSr σ3 := fun r hr => by
            obtain ⟨a1, a2⟩ := g.sr r hr
            refine ⟨?_, by rw [f23.r (by omega), f1.r (by unfold pWa; omega)]; exact a2⟩
            rw [f23.r (by omega)]
            by_cases q : r = n
            · subst q; exact ⟨121 + s, eR, zk_sk (by omega)⟩
            · rw [f1.r (by unfold pWa; omega)]; exact a1
          refine ⟨rfl, ⟨nb, ns, iA_but ((f1r.trans f2r).trans f3r) l3 g (by unfold wRun; omega) (Or.inl fun c k q => by unfold jTape at q; unfold wRun; omega) (Or.inl fun c k q => by unfold jWx at q; unfold wRun; omega) (Or.inl fun c k q => by unfold jBr jB at q; unfold wRun; omega) (Or.inl fun c k q => by unfold jSt at q; unfold wRun; omega) (Or.inl fun c k q => by unfold jSg at q; unfold wRun; omega) (Or.inr ⟨n + 1, by omega, e20, ?_, Or.inr ⟨b, ?_, ⟨hb, ?_, fun r hr => ?_, eF3.trans eM3.symm, fun r hr => ?_, fun r hr o ho => ?_⟩, Or.inl ⟨?_, ?_, fun r hr => ?_⟩⟩⟩) (Or.inl ⟨fun c k q => by unfold jIm jB at q; unfold wRun; omega, by unfold wRun; omega, fun c k _ _ => by unfold wRun; omega⟩) (Or.inr eSr)⟩, (zSam.fr f2r (fun k => by unfold wRun; omega)).trans (zSam.fr f3r (fun k => by unfold wRun; omega))⟩
          · rw [f23.i (by omega)]; exact e4
          · rw [f3.i (by unfold mWj; omega), E.i (by omega)]; exact m19
          · rw [f23.r (by omega)]; exact T1.2.2.2.2.1
          · obtain ⟨s', a1, a2⟩ := hst1 r hr
            exact ⟨s', a1, by rw [f23.r (by omega)]; exact a2⟩
          · rw [eM3, eB3]
            rcases Nat.lt_or_ge r n with h | h
            · exact aFok_c (hF r h) (T.ok r h)
            · obtain rfl : r = n := by omega
              unfold aFok aFst
              rw [N0, N1, N2, N3, N4, N5, N6, N7, N8]
              omega
          · rw [eM3]
            unfold aApart
            rcases Nat.lt_or_ge r n with h | h
            · rw [← hF r h 0 (by omega), ← hF r h 3 (by omega), ← hF o (by omega) 0 (by omega), ← hF o (by omega) 3 (by omega)]
              exact T.ap r h o ho
            · obtain rfl : r = n := by omega
              rw [N0, N3, ← hF o ho 0 (by omega), ← hF o ho 3 (by omega)]
              have u := hst o ho
              have k1 := (T.ok o ho).1.1
              rcases Int.lt_or_le (y.toInt + mG σ s y.toInt 0 - 1) (mFR σ 139 r o 3) with h1 | h1
              · omega
              rcases Int.lt_or_le (mFR σ 139 r o 3 + mFR σ 139 r o 0 - 1) y.toInt with h2 | h2
              · omega
              exfalso
              rcases Int.lt_or_le y.toInt (mFR σ 139 r o 3) with h3 | h3
              · exact cF (mFR σ 139 r o 3) (by omega) (by omega) ⟨o, ho, by omega, u.2.1, u.1, by omega, by omega⟩
              · exact cF y.toInt (by omega) (by omega) ⟨o, ho, by omega, u.2.1, u.1, by omega, by omega⟩
          · rw [f3.i (by unfold mWj; omega), E.i (by omega)]; exact m21
          · rw [f23.i (by omega), f1.i (by unfold pWa; omega)]; exact p9
          · rw [eM3]
            rcases Nat.lt_or_ge r n with h | h
            · rw [← hF r h 3 (by omega), ← hF r h 4 (by omega), ← hF r h 5 (by omega), ← hF r h 7 (by omega)]
              exact hst r h
            · obtain rfl : r = n := by omega
              rw [N3, N4, N5, N7]
              exact ⟨rfl, rfl, rfl⟩
        · refine e_q g (-1) (fun Q h => pf (fun v u hvu => (bX11_runner_83 g.1 (zk_sk (by omega))).mpr (zn (fun q => cF (hvu.mp q)) (h _ σ km1 (zFr.refl _ _))))) (fun σ1 σ2 Q l1 e2 g2 f2 h => ?_)
          exact mm l1 e2 (mEq.s g2.1 f2) (fun _ => h _ σ2 km1 (zFr.refl _ _)) (fun _ _ => h _ σ2 km1 (zFr.refl _ _)) (fun _ q => absurd q cF)
      · refine e_q g (-1) (fun Q h => ?_) (fun σ1 σ2 Q l1 e2 g2 f2 h => ?_)
        · exact pp (p_holds g.1 (g.bp hb) hB (zk_sk (by omega)) hG.symm ⟨t0.1, t0.2⟩ g.wp.2.1 ⟨rfl, (bX11_runner_59 g.1 (zk_sk (by omega))).mpr (zt0 (fun q => absurd q.2.2 cC) (fun _ => h _ σ km1 (zFr.refl _ _)))⟩)
        · exact mm l1 e2 (mEq.s g2.1 f2) (fun _ => h _ σ2 km1 (zFr.refl _ _)) (fun _ _ => h _ σ2 km1 (zFr.refl _ _)) (fun q _ => absurd q cC)
    · refine e_q g (-1) (fun Q h => (bX11_runner_0 g.1).mpr (zy p9 (zle' k6 (zto T.2.2.1 (ai_n (by omega))) (fun q => by omega) (fun _ => p_ns1 g.1 g.e4 h10 hx ⟨rfl, (bX11_runner_27 g.1).mpr (zn (by decide) (h _ σ km1 (zFr.refl _ _)))⟩)))) (fun σ1 σ2 Q l1 e2 g2 f2 h => ?_)
      refine (bX12_runner_0 l1).mpr ?_
      rw [m131 e2 f2 (by decide) (nS3 (by omega)), m131 e2 f2 (by decide) (nS3 (by omega)), m131 e2 f2 (by decide) (nS3 (by omega)), m19, m20, e2]
      exact zn (nI_m1 (by omega)) (zy m21 (zn hn6 (m_is0 g2.1 g2.e12 h10 hx ⟨rfl, (bX12_runner_35 g2.1).mpr (zy rfl (h _ σ2 km1 (zFr.refl _ _)))⟩)))
  · obtain ⟨r1, -, r3, -, r5, -⟩ := hR
    refine e_q g (-1) (fun Q h => (bX11_runner_0 g.1).mpr (zn (by rw [r5]; decide) (h _ σ km1 (zFr.refl _ _)))) (fun σ1 σ2 Q l1 e2 g2 f2 h => ?_)
    refine (bX12_runner_0 l1).mpr ?_
    rw [m131 e2 f2 (by decide) (nS3 (by omega)), m131 e2 f2 (k := 21) (by decide) (nS3 (by omega)), T.2.2.2.1, show zI σ 131 21 = nI t from r3, e2]
    exact zn (nI_m1 (by have := T.bb; omega)) (zn (nI_m1 (by omega)) (h _ σ2 km1 (zFr.refl _ _)))
  · obtain ⟨m19, m20, p4, m21, p9, zr, z3, z4⟩ := hN
    have mN : ∀ {σ1 σ2 : zS} {Q : Option Value → zS → Prop}, zLay σ1 → zsI σ1 131 (upd (zI σ1 131) 0 0) = σ2 → zFr iSafe σ σ2 → Q (some (.int (-1))) σ2 → zCall 13 kX12_runner [.ref 131, .int s, .int y] σ1 Q := by
      intro σ1 σ2 Q l1 e2 f2 h
      refine (bX12_runner_0 l1).mpr ?_
      rw [m131 e2 f2 (by decide) (nS3 (by omega)), e2]
      exact zy m19 h
    rcases a_cs s ns with ⟨s, hs, rfl, -⟩ | hx
    · refine e_q g (-1) (fun Q h => (bX11_runner_0 g.1).mpr (zy p9 (zle' k6 (zto p4 (ai_n (by omega))) (fun q => by omega) (fun _ => p_ns0 g.1 g.e4 h10 hs ⟨rfl, (bX11_runner_27 g.1).mpr (zy rfl ⟨vp_in_nI (by omega) (by decide), ?_⟩)⟩)))) (fun σ1 σ2 Q l1 e2 g2 f2 h => mN l1 e2 f2 (h _ σ2 km1 (zFr.refl _ _)))
      rw [zR_sk g.1 (by omega)]
      refine (bX11_runner_38 g.1 (zk_sk (by omega))).mpr ?_
      rw [zr]
      refine (bX11_runner_46 g.1 (zk_sk (by omega)) zk_16).mpr ((bX0_holds_0 g.1 zk_16 (zk_sk (by omega))).mpr ?_)
      have no : zisN (some (.int 0)) = true ∧ zW 13 kX11_runner 59 [.ref 1, .int (nI s), .int y, .ref (121 + s)] [.int 0] σ Q := ⟨rfl, (bX11_runner_59 g.1 (zk_sk (by omega))).mpr (zy rfl (h _ σ km1 (zFr.refl _ _)))⟩
      rw [z4]
      refine zlt' k0 k0 (fun q => by omega) (fun _ => zle' k0 k0 (fun _ => no) (fun q => by omega))
    · exact e_q g (-1) (fun Q h => (bX11_runner_0 g.1).mpr (zy p9 (zle' k6 (zto p4 (ai_n (by omega))) (fun q => by omega) (fun _ => p_ns1 g.1 g.e4 h10 hx ⟨rfl, (bX11_runner_27 g.1).mpr (zn (by decide) (h _ σ km1 (zFr.refl _ _)))⟩)))) (fun σ1 σ2 Q l1 e2 g2 f2 h => mN l1 e2 f2 (h _ σ2 km1 (zFr.refl _ _)))
end RUNNER
