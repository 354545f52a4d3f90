/-! the class's times over many seeds -/
theorem pTd_fr {W : Nat → Nat → Nat → Prop} {σ σ' : zS} {t n b : Nat} {F : aFn} (h : zFr W σ σ') (hl' : zLay σ') (w1 : ∀ c k, zk c = 6 → ¬ W 0 c k) (w2 : ¬ W 0 t 4) (w3 : ∀ r, r < 6 → ¬ W 0 (t + 8 + 2 * r) 1) (w4 : ∀ c k, ¬ W 2 c k) (T : pTd σ t n b F) : pTd σ' t n b F := by
  obtain ⟨c1, c2, c3, c4, c5, c6, c7⟩ := T
  refine ⟨hl', c2, c3, by rw [h.i w2]; exact c4, by rw [h.r (w4 _ _)]; exact c5, c6, fun r hr => ?_⟩
  obtain ⟨⟨s, s1, s2, s3⟩, s4⟩ := c7 r hr
  exact ⟨⟨s, by rw [h.r (w4 _ _)]; exact s1, s2, fun j hj => by rw [h.i (w1 _ _ s2)]; exact s3 j hj⟩, by rw [h.i (w3 r (by omega))]; exact s4⟩
theorem pHas_fr {W : Nat → Nat → Nat → Prop} {σ σ' : zS} {t n b : Nat} {D : aD} {F : aFn} (h : zFr W σ σ') (T : pTd σ t n b F) (w1 : ∀ c k, zk c = 6 → ¬ W 0 c k) (w2 : ∀ c k, zk c = 4 → ¬ W 0 c k) (w3 : ∀ k, ¬ W 0 t k) (w4 : ∀ k, ¬ W 0 (t + 3) k) (w5 : ∀ c k, ¬ W 1 c k) (w6 : ∀ c k, ¬ W 2 c k) (g : pHas σ t n D) : pHas σ' t n D := by
  obtain ⟨d1, d2, d3, d4, d5⟩ := g
  refine ⟨?_, by rw [h.i (w3 _)]; exact d2, by rw [h.l (w5 _ _)]; exact d3, by rw [h.i (w3 _)]; exact d4, fun x hx => by rw [h.i (w4 _)]; exact d5 x hx⟩
  rw [← d1]
  funext r w
  unfold pF
  by_cases q : r < n ∧ w < 11
  · rw [if_pos q, if_pos q]
    obtain ⟨⟨s, s1, s2, s3⟩, s4⟩ := T.2.2.2.2.2.2 r q.1
    by_cases q3 : w < 3
    · rw [if_pos q3, if_pos q3, h.r (w6 _ _), s1]
      show (zI σ' s w).toInt = (zI σ s w).toInt
      rw [h.i (w1 _ _ s2)]
    · rw [if_neg q3, if_neg q3, h.i (w2 _ _ (zf_racer T.2.1 (by have := T.2.2.1; omega)))]
  · rw [if_neg q, if_neg q]
theorem pTd_r {σ σ' : zS} {t n b : Nat} {F : aFn} (h : zFr (pWr t) σ σ') (T : pTd σ t n b F) : pTd σ' t n b F :=
  pTd_fr h (h.lay T.1 (fun _ _ _ _ => pWr_2)) (fun c k q => pWr_k T.2.1 (by omega) (by omega) (by omega)) (by have := zf_race T.2.1; unfold pWr; omega) (fun r hr => by have := zf_racer T.2.1 hr; have := zf_race T.2.1; unfold pWr; omega) (fun _ _ => pWr_2) T
theorem aSum_9 {f : Nat → Int} {m : Int} (h : ∀ k, 0 ≤ f k ∧ f k ≤ m) (hm : 0 ≤ m) : ∀ n : Nat, 0 ≤ aSum f n ∧ aSum f n ≤ m * n
  | 0 => by unfold aSum; simp
  | n + 1 => by
    have i := aSum_9 h hm n
    have hn := h n
    unfold aSum
    rw [show m * ((n + 1 : Nat) : Int) = m * n + m by rw [show ((n + 1 : Nat) : Int) = (n : Int) + 1 by omega, Int.mul_add, Int.mul_one]]
    omega
def pWt : Nat → Nat → Nat → Prop := fun j c _ => j = 0 ∧ (c = 83 ∨ c = 84)
theorem pWt_z {σ σ' : zS} (h : zFr pWt σ σ') : zFr pWz σ σ' := h.mono (fun j c k q => by
  unfold pWt at q
  unfold pWz
  omega)
theorem pWt_n {c k : Nat} (h3 : zk c ≠ 3) (h14 : zk c ≠ 14) : ¬ pWt 0 c k := fun q => by
  unfold pWt at q
  rcases q with ⟨_, q | q⟩
  · rw [q, zk_83] at h3; exact h3 rfl
  · rw [q, zk_84] at h14; exact h14 rfl
theorem pWt_b {b : Nat} (hb : zk b = 0) : (∀ k, ¬ pWt 0 b k) ∧ (∀ k, ¬ pWt 0 (b + 1) k) ∧ (∀ k, ¬ pWt 0 (b + 2) k) ∧ ∀ k, ¬ pWt 0 (b + 3) k := by
  have g := zf_brook hb
  have n1 : b ≠ 83 := fun e => by rw [e, zk_83] at hb; omega
  have n2 : b ≠ 82 := fun e => by rw [e, zk_82] at hb; omega
  have n3 : b ≠ 81 := fun e => by rw [e, zk_81] at hb; omega
  have n4 : b ≠ 80 := fun e => by rw [e, zk_80] at hb; omega
  have n5 : b ≠ 84 := fun e => by rw [e, zk_84] at hb; omega
  refine ⟨fun k q => ?_, fun k q => ?_, fun k q => ?_, fun k q => ?_⟩ <;> (unfold pWt at q; omega)
/-- what a stick alone over many seeds may change -/
def pWv : Nat → Nat → Nat → Prop := fun j c k => pWq 60 j c k ∨ pWt j c k
theorem pWq_nn {σ σ' : zS} (h : zFr (pWq 60) σ σ') : zFr pWv σ σ' := h.mono (fun j c k q => Or.inl q)
theorem pWt_nn {σ σ' : zS} (h : zFr pWt σ σ') : zFr pWv σ σ' := h.mono (fun j c k q => Or.inr q)
theorem pWv_z {σ σ' : zS} (h : zFr pWv σ σ') : zFr pWz σ σ' := h.mono (fun j c k q => by
  rcases q with q | q
  · unfold pWq at q
    unfold pWz
    omega
  · unfold pWt at q
    unfold pWz
    omega)
section PTIME
variable {d : Nat} {Q : Option Value → zS → Prop}
theorem p_time_l {b s n : Nat} {B : aBk} {W : aWx} {G : Nat → Int} {y : Int32} (hB : aBok B) (hW : aWok W) (gb : zk b = 0) (hs : zk s = 6) (gs : aGst B G) (hn : n ≤ 40) :
    ∀ (m k : Nat) (σ : zS), n - k = m → k ≤ n → pTd σ 60 1 b (fun _ => G) → pBk σ b B → ((zI σ 10 0).toInt = W.1 ∧ (zI σ 10 1).toInt = W.2.1 ∧ (zI σ 10 2).toInt = W.2.2) → rowR (zI σ 84) (aTimes (fun k => aAl B W G (aSd k)) k) → zI σ 83 1 = nI k → (zI σ 83 2).toInt = aSum (fun k => aAl B W G (aSd k)) k → (k = 0 ∨ ∃ sd, pHas σ 60 1 (aRace B W 1 (fun _ => G) sd).2) →
    (∀ (v : Int32) (σ' : zS), v.toInt = aSum (fun k => aAl B W G (aSd k)) n → rowR (zI σ' 84) (aTimes (fun k => aAl B W G (aSd k)) n) → zI σ' 83 1 = nI n → zFr pWv σ σ' → Q (some (.int v)) σ') → zW (d + 5) kX11_timeAlone 22 [.ref 1, .ref b, .ref s, .int y, .int (nI n), .int (nI k)] [] σ Q := by
  intro m
  induction m with
  | zero =>
    intro k σ hm hk T g eW hr h1 h2 _ h
    have e : k = n := by omega
    subst e
    exact (bX11_timeAlone_22 T.1 gb hs).mpr (zle' (ai_n (by omega)) (ai_n (by omega)) (fun _ => h _ σ h2 hr h1 (zFr.refl _ _)) (fun q => by omega))
  | succ m ih =>
    intro k σ hm hk T g eW hr h1 h2 hd h
    have fb : ∀ k, 0 ≤ aAl B W G (aSd k) ∧ aAl B W G (aSd k) ≤ 99 := fun k => aAl_b hB hW gs
    -- behind a race whose runners are those of seed k
    have p67 : ∀ (σ1 : zS) (sd : Int64), pTd σ1 60 1 b (fun _ => G) → pBk σ1 b B → ((zI σ1 10 0).toInt = W.1 ∧ (zI σ1 10 1).toInt = W.2.1 ∧ (zI σ1 10 2).toInt = W.2.2) → pHas σ1 60 1 (aRace B W 1 (fun _ => G) sd).2 → (aRace B W 1 (fun _ => G) sd).2.1 = (aRace B W 1 (fun _ => G) (aSd k)).2.1 → zI σ1 83 = zI σ 83 → zI σ1 84 = zI σ 84 → zFr pWv σ σ1 → zW (d + 5) kX11_timeAlone 67 [.ref 1, .ref b, .ref s, .int y, .int (nI n), .int (nI k)] [] σ1 Q := by
      intro σ1 sd T1 g1 eW1 hD1 eD e83 e84 f1
      have C1 : pCx σ1 60 1 B W 10 := pTd_cx T1 g1 hB zk_10 eW1 hW
      have ok1 := (aRace_ok (n := 1) (F := fun _ => G) (seed := sd) hB hW (by omega) (fun _ _ => gs)).1
      refine (bX11_timeAlone_67 T1.1 gb hs).mpr (p_first (d := d + 3) C1 hD1.1 (by omega) (ok1.1 0 (by omega)).2.2.2.2.2.2.2.2.1 (fun v hv => ⟨rfl, (bX11_timeAlone_78 T1.1 gb hs).mpr ?_⟩))
      have ev : v.toInt = aAl B W G (aSd k) := by rw [hv, eD]; rfl
      have hl40 : (aTimes (fun k => aAl B W G (aSd k)) k).length = k := aTimes_l
      have sb := aSum_9 (f := fun k => aAl B W G (aSd k)) fb (by omega) k
      have fbk := fb k
      have e2 : (zI σ1 83 2).toInt = aSum (fun k => aAl B W G (aSd k)) k := by rw [e83]; exact h2
      refine p_rowAdd (R := aTimes (fun k => aAl B W G (aSd k)) k) zk_83 T1.1 (by rw [e83, hl40]; exact h1) (by omega) (by show rowR (zI σ1 84) _; rw [e84]; exact hr) (by rw [e2, ev]; omega) (by rw [e2, ev]; omega) (fun σ2 q1 q2 q3 f2 => ⟨rfl, ?_⟩)
      have f2t : zFr pWt σ1 σ2 := f2.mono (fun j c k q => ⟨q.1, q.2⟩)
      have l2 : zLay σ2 := f2t.lay T1.1 (fun _ _ _ _ q => by unfold pWt at q; omega)
      have T2 : pTd σ2 60 1 b (fun _ => G) := pTd_fr f2t l2 (fun c k q => pWt_n (by omega) (by omega)) (by unfold pWt; omega) (fun r hr => by unfold pWt; omega) (fun c k => by unfold pWt; omega) T1
      have g2 : pBk σ2 b B := pBk_fr f2t (pWt_b gb) g1
      have hD2 : pHas σ2 60 1 (aRace B W 1 (fun _ => G) sd).2 := pHas_fr f2t T1 (fun c k q => pWt_n (by omega) (by omega)) (fun c k q => pWt_n (by omega) (by omega)) (fun k => by unfold pWt; omega) (fun k => by unfold pWt; omega) (fun c k => by unfold pWt; omega) (fun c k => by unfold pWt; omega) hD1
      refine (bX11_timeAlone_81 l2 gb hs).mpr ?_
      rw [nI_1]
      refine ih (k + 1) σ2 (by omega) (by omega) T2 g2 ?_ ?_ (by rw [q2, hl40]) ?_ (Or.inr ⟨sd, hD2⟩) (fun v σ' r1 r2 r3 r4 => h v σ' r1 r2 r3 (f1.trans ((pWt_nn f2t).trans r4)))
      · rw [f2t.i (by unfold pWt; omega), f2t.i (by unfold pWt; omega), f2t.i (by unfold pWt; omega)]; exact eW1
      · rw [ev] at q1; exact q1
      · rw [q3, e2, ev]; rfl
    have p44 : zW (d + 5) kX11_timeAlone 44 [.ref 1, .ref b, .ref s, .int y, .int (nI n), .int (nI k)] [] σ Q := by
      refine (bX11_timeAlone_44 T.1 gb hs).mpr (p_begin (d := d + 3) T (fun σ1 T1 hD1 t1 _ f1 => ⟨rfl, ?_⟩))
      have f1q := pWr_q f1
      have g1 := pBk_fr f1q (pWq_b zk_60 gb) g
      have eW1 := pWx_q zk_60 zk_10 f1q eW
      have C1 : pCx σ1 60 1 B W 10 := pTd_cx T1 g1 hB zk_10 eW1 hW
      have ok := aBeg_ok (n := 1) (F := fun _ => G) (X := (aSd k, False, fun _ => 0)) hB (fun _ _ => gs)
      refine (bX11_timeAlone_54 T1.1 gb hs).mpr ((bX2_run_0 C1.1 zk_60 zk_10).mpr (p_runN (N := 60) (by omega) 60 0 σ1 (0, aBeg 1 (fun _ => G), 0, aSd k, False, fun _ => 0) _ _ rfl (by omega) C1 hD1 ok t1 (Int.le_refl _) (by show (0 : Int) ≤ 60; decide) (zcat_r _) (zcat_r _) (fun σ2 hD2 t2 f2 => ⟨rfl, ?_⟩)))
      have f2q := f1q.trans (pWr_q f2)
      exact p67 σ2 (aSd k) (pTd_r f2 T1) (pBk_fr f2q (pWq_b zk_60 gb) g) (pWx_q zk_60 zk_10 f2q eW) hD2 rfl (funext fun k => f2q.i (pWq_k zk_60 (by rw [zk_83]; decide) (by rw [zk_83]; decide) (by rw [zk_83]; decide))) (funext fun k => f2q.i (by unfold pWq; omega)) (pWq_nn f2q)
    refine (bX11_timeAlone_22 T.1 gb hs).mpr (zle' (ai_n (by omega)) (ai_n (by omega)) (fun q => by omega) (fun _ => zeq' (ai_n (by omega)) k0 (fun _ => p44) (fun q => ?_)))
    rcases hd with q2 | ⟨sd, hD⟩
    · exact absurd (by omega) q
    · rw [hD.2.2.2.1]
      refine zt0 (fun _ => p44) (fun c => ?_)
      exact p67 σ sd T g eW hD (aRace_dw1 c (aSd k)).2.1.symm rfl rfl (zFr.refl _ _)
theorem p_time {σ : zS} {b s n : Nat} {B : aBk} {W : aWx} {G : Nat → Int} {y : Int32} (hl : zLay σ) (g : pBk σ b B) (hB : aBok B) (hs : zk s = 6) (hG : ∀ j, j < 3 → (zI σ s j).toInt = G j) (hy : y.toInt = G 3) (h0 : 1 ≤ G 0 ∧ G 0 ≤ 5 ∧ 0 ≤ G 1 ∧ G 1 ≤ 9 ∧ 0 ≤ G 2 ∧ G 2 ≤ 9) (eW : (zI σ 10 0).toInt = W.1 ∧ (zI σ 10 1).toInt = W.2.1 ∧ (zI σ 10 2).toInt = W.2.2) (hW : aWok W) (hn : n ≤ 40)
    (h : ∀ (v : Int32) (σ' : zS), (aCan B W (G 0) 0 (G 3) → v.toInt = aSum (fun k => aAl B W G (aSd k)) n ∧ rowR (zI σ' 84) (aTimes (fun k => aAl B W G (aSd k)) n) ∧ zI σ' 83 1 = nI n) → (¬ aCan B W (G 0) 0 (G 3) → v = -1) → zFr pWv σ σ' → Q (some (.int v)) σ') : zCall (d + 5) kX11_timeAlone [.ref 1, .ref b, .ref s, .int y, .int (nI n)] σ Q := by
  refine (bX11_timeAlone_0 hl g.1 hs).mpr (p_rowClear zk_83 hl (fun σ1 e1 e2 f1 => ⟨rfl, ?_⟩))
  have f1t : zFr pWt σ σ1 := f1.mono (fun j c k q => ⟨q.1, q.2⟩)
  have l1 : zLay σ1 := f1t.lay hl (fun _ _ _ _ q => by unfold pWt at q; omega)
  have g1 := pBk_fr f1t (pWt_b g.1) g
  have eW1 : (zI σ1 10 0).toInt = W.1 ∧ (zI σ1 10 1).toInt = W.2.1 ∧ (zI σ1 10 2).toInt = W.2.2 := by
    rw [f1t.i (by unfold pWt; omega), f1t.i (by unfold pWt; omega), f1t.i (by unfold pWt; omega)]; exact eW
  refine (bX11_timeAlone_7 l1 g.1 hs).mpr (p_one (d := d + 1) l1 g1 hB hs (fun j hj => by rw [f1t.i (pWt_n (by omega) (by omega))]; exact hG j hj) hy ⟨h0.1, h0.2.1⟩ eW1.2.1 (fun σ2 T2 g2 f2 => ⟨rfl, (bX11_timeAlone_14 T2.1 g.1 hs).mpr (zt0 (fun c => ?_) (fun c => h _ σ2 (fun q => absurd q c) (fun _ => rfl) ((pWt_nn f1t).trans (pWq_nn f2))))⟩))
  have gs : aGst B G := ⟨h0.1, h0.2.1, h0.2.2.1, h0.2.2.2.1, h0.2.2.2.2.1, h0.2.2.2.2.2, c.1, c.2.1⟩
  have n83 : ∀ k, zI σ2 83 k = zI σ1 83 k := fun k => f2.i (pWq_k zk_60 (by rw [zk_83]; decide) (by rw [zk_83]; decide) (by rw [zk_83]; decide))
  refine p_time_l hB hW g.1 hs gs hn n 0 σ2 rfl (by omega) T2 g2 (pWx_q zk_60 zk_10 f2 eW1) trivial (by rw [n83]; exact e1) (by rw [n83, e2]; rfl) (Or.inl rfl) (fun v σ' q1 q2 q3 q4 => h v σ' (fun _ => ⟨q1, q2, q3⟩) (fun q => absurd c q) (((pWt_nn f1t).trans (pWq_nn f2)).trans q4))
end PTIME
