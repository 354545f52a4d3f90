/-! rows in rising order (a list of them, the greatest first); the class's stick alone -/
def rPut (v : Int) : List Int → List Int
  | [] => [v]
  | x :: R => if v < x then x :: rPut v R else v :: x :: R
theorem rPut_l {v : Int} : ∀ {R : List Int}, (rPut v R).length = R.length + 1
  | [] => rfl
  | x :: R => by
    unfold rPut
    split
    · rw [List.length_cons, rPut_l (R := R), List.length_cons]
    · rfl
def rowR (f : Nat → Int32) : List Int → Prop
  | [] => True
  | x :: R => (f R.length).toInt = x ∧ rowR f R
theorem rowR_c {f g : Nat → Int32} : ∀ {R : List Int}, rowR f R → (∀ k, k < R.length → g k = f k) → rowR g R
  | [], _, _ => trivial
  | x :: R, h, e => ⟨by rw [e R.length (by simp)]; exact h.1, rowR_c h.2 (fun k q => e k (by simp only [List.length_cons]; omega))⟩
theorem rowR_at {f : Nat → Int32} : ∀ {R : List Int} (k : Nat), rowR f R → k < R.length → (f k).toInt = R.getD (R.length - 1 - k) 0
  | [], k, _, q => absurd q (by simp)
  | x :: R, k, h, q => by
    simp only [List.length_cons] at q ⊢
    by_cases e : k = R.length
    · subst e
      rw [show R.length + 1 - 1 - R.length = 0 by omega]
      exact h.1
    · have i := rowR_at k h.2 (by omega)
      rw [i, show R.length + 1 - 1 - k = (R.length - 1 - k) + 1 by omega]
      rfl
def aTimes (f : Nat → Int) : Nat → List Int
  | 0 => []
  | k + 1 => rPut (f k) (aTimes f k)
theorem aTimes_l {f : Nat → Int} : ∀ {k : Nat}, (aTimes f k).length = k
  | 0 => rfl
  | k + 1 => by
    unfold aTimes
    rw [rPut_l, aTimes_l (k := k)]
def aSd (k : Nat) : Int64 := (nI k).toInt64
def pWz : Nat → Nat → Nat → Prop := fun j c k => (j = 0 ∧ ((60 ≤ c ∧ c ≤ 96) ∨ c = 11)) ∨ (j = 1 ∧ c = 60) ∨ (j = 2 ∧ ((c = 60 ∧ k = 3) ∨ (zk c = 4 ∧ 68 ≤ c ∧ c ≤ 78 ∧ k = 0)))
theorem pWq_z {σ σ' : zS} (h : zFr (pWq 60) σ σ') : zFr pWz σ σ' := h.mono (fun j c k q => by
  unfold pWq at q
  unfold pWz
  rcases q with ⟨q0, q | q | q | q⟩ | q | ⟨q0, q | q⟩ <;> omega)
theorem pWz_lay {σ σ' : zS} (h : zFr pWz σ σ') (hl : zLay σ) : zLay σ' := h.lay hl (fun c k v hv q => by
  unfold pWz at q
  rcases q with q | q | ⟨_, q | q⟩
  · omega
  · omega
  · rw [q.1, q.2, zRT_2 zk_60] at hv; cases hv
  · rw [q.2.2.2, zRT_4 q.1] at hv; cases hv)
section PROW
variable {d : Nat} {Q : Option Value → zS → Prop}
theorem p_rowAdd_l {c : Nat} {v : Int32} {L : Int} (hc : zk c = 3) :
    ∀ (R : List Int) (σ : zS), zLay σ → R.length < 40 → rowR (zI σ (c + 1)) R → -2147483648 ≤ (zI σ c 2).toInt + v.toInt → (zI σ c 2).toInt + v.toInt < 2147483648 →
    (∀ σ', rowR (zI σ' (c + 1)) (rPut v.toInt R) → (∀ k, R.length < k → zI σ' (c + 1) k = zI σ (c + 1) k) → zI σ' c 1 = zI σ c 1 + 1 → (zI σ' c 2).toInt = (zI σ c 2).toInt + v.toInt → zFr (fun j c' _ => j = 0 ∧ (c' = c ∨ c' = c + 1)) σ σ' → Q none σ') → zW d kX3_add 22 [.ref c, .int v, .int (nI R.length)] [] σ Q := by
  have hk := zf_row hc
  have stop : ∀ (R : List Int) (σ : zS), zLay σ → R.length < 40 → rowR (zI σ (c + 1)) R → -2147483648 ≤ (zI σ c 2).toInt + v.toInt → (zI σ c 2).toInt + v.toInt < 2147483648 → rPut v.toInt R = v.toInt :: R →
    (∀ σ', rowR (zI σ' (c + 1)) (rPut v.toInt R) → (∀ k, R.length < k → zI σ' (c + 1) k = zI σ (c + 1) k) → zI σ' c 1 = zI σ c 1 + 1 → (zI σ' c 2).toInt = (zI σ c 2).toInt + v.toInt → zFr (fun j c' _ => j = 0 ∧ (c' = c ∨ c' = c + 1)) σ σ' → Q none σ') → zW d kX3_add 58 [.ref c, .int v, .int (nI R.length)] [] σ Q := by
    intro R σ hl hR hr b1 b2 er h
    refine (bX3_add_58 hl hc).mpr ⟨vp_in_nI hR (by decide), ?_⟩
    rw [nI_clamp (by omega)]
    have e1 : zI (zsI (zsI σ (c + 1) (upd (zI σ (c + 1)) R.length v)) c (upd (upd (zI σ c) 1 (zI σ c 1 + 1)) 2 (zI σ c 2 + v))) (c + 1) = upd (zI σ (c + 1)) R.length v := by rw [zI_ne (by omega), zI_self]
    refine h _ ?_ (fun k hk2 => ?_) ?_ ?_ ((zFr_U ⟨rfl, Or.inr rfl⟩).trans (zFr_I (fun k => Or.inl ⟨rfl, Or.inl rfl⟩)))
    · rw [er, e1]
      refine ⟨by rw [pk_us], rowR_c hr (fun k q => pk_un (by omega))⟩
    · rw [e1, pk_un (by omega)]
    · rw [zI_self, pk_un (by decide), pk_us]
    · rw [zI_self, pk_us]; exact ai_add b1 b2
  intro R
  induction R with
  | nil =>
    intro σ hl hR hr b1 b2 h
    exact (bX3_add_22 hl hc).mpr (zle' (ai_n (by decide)) k0 (fun _ => stop [] σ hl hR hr b1 b2 rfl h) (fun q => by simp at q))
  | cons x R ih =>
    intro σ hl hR hr b1 b2 h
    simp only [List.length_cons] at hR
    have ep : (nI (x :: R).length - 1 : Int32) = nI R.length := nI_pred _
    refine (bX3_add_22 hl hc).mpr (zle' (ai_n (by simp only [List.length_cons]; omega)) k0 (fun q => by simp only [List.length_cons] at q; omega) (fun _ => ?_))
    rw [ep]
    refine ⟨vp_in_nI (by omega) (by decide), ?_⟩
    rw [nI_clamp (by omega)]
    refine zle' hr.1 rfl (fun q => stop (x :: R) σ hl (by simp only [List.length_cons]; omega) hr b1 b2 (by unfold rPut; rw [if_neg (by omega)]) h) (fun q => ?_)
    refine ⟨vp_in_nI (by omega) (by decide), vp_in_nI (by simp only [List.length_cons]; omega) (by decide), ?_⟩
    have em : (nI (x :: R).length + (-1) : Int32) = nI R.length := pk_m1 _
    rw [em, nI_clamp (show (x :: R).length < 2 ^ 31 by simp only [List.length_cons]; omega)]
    have g : zI (zsI σ (c + 1) (upd (zI σ (c + 1)) (x :: R).length (zI σ (c + 1) R.length))) c = zI σ c := zI_ne (by omega)
    have g1 : zI (zsI σ (c + 1) (upd (zI σ (c + 1)) (x :: R).length (zI σ (c + 1) R.length))) (c + 1) = upd (zI σ (c + 1)) (x :: R).length (zI σ (c + 1) R.length) := zI_self
    refine ih _ hl.I (by omega) (by rw [g1]; exact rowR_c hr.2 (fun k q2 => pk_un (by simp only [List.length_cons]; omega))) (by rw [g]; exact b1) (by rw [g]; exact b2) (fun σ' q1 q2 q3 q4 q5 => h σ' ?_ (fun k hk2 => ?_) (by rw [q3, g]) (by rw [q4, g]) ((zFr_U ⟨rfl, Or.inr rfl⟩).trans q5))
    · unfold rPut
      rw [if_pos q]
      refine ⟨?_, q1⟩
      rw [rPut_l, q2 _ (by omega), g1]
      show (upd _ (R.length + 1) _ (R.length + 1)).toInt = x
      rw [pk_us]
      exact hr.1
    · simp only [List.length_cons] at hk2
      rw [q2 k (by omega), g1, pk_un (by simp only [List.length_cons]; omega)]
theorem p_rowAdd {c : Nat} {v : Int32} {R : List Int} {σ : zS} (hc : zk c = 3) (hl : zLay σ) (hs : zI σ c 1 = nI R.length) (hR : R.length < 40) (hr : rowR (zI σ (c + 1)) R) (b1 : -2147483648 ≤ (zI σ c 2).toInt + v.toInt) (b2 : (zI σ c 2).toInt + v.toInt < 2147483648)
    (h : ∀ σ', rowR (zI σ' (c + 1)) (rPut v.toInt R) → zI σ' c 1 = nI (R.length + 1) → (zI σ' c 2).toInt = (zI σ c 2).toInt + v.toInt → zFr (fun j c' _ => j = 0 ∧ (c' = c ∨ c' = c + 1)) σ σ' → Q none σ') : zCall d kX3_add [.ref c, .int v] σ Q := by
  refine (bX3_add_0 hl hc).mpr ?_
  rw [hs]
  refine zlt' (ai_n (by omega)) k0 (fun q => by omega) (fun _ => zlt' (ai_n (by omega)) k40 (fun _ => ?_) (fun q => by omega))
  exact p_rowAdd_l (L := 0) hc R σ hl hR hr b1 b2 (fun σ' q1 _ q3 q4 q5 => h σ' q1 (by rw [q3, hs, nI_1]) q4 q5)
theorem p_rowClear {c : Nat} {σ : zS} (hc : zk c = 3) (hl : zLay σ) (h : ∀ σ', zI σ' c 1 = nI 0 → zI σ' c 2 = 0 → zFr (fun j c' _ => j = 0 ∧ (c' = c ∨ c' = c + 1)) σ σ' → Q none σ') : zCall d kX3_clear [.ref c] σ Q :=
  (bX3_clear_0 hl hc).mpr (h _ (by rw [zI_self, pk_un (by decide), pk_us]; rfl) (by rw [zI_self, pk_us]) (zFr_I (fun k => Or.inl ⟨rfl, Or.inl rfl⟩)))
theorem p_rowAt {c i : Nat} {R : List Int} {σ : zS} (hc : zk c = 3) (hl : zLay σ) (hs : zI σ c 1 = nI R.length) (hR : R.length ≤ 40) (hr : rowR (zI σ (c + 1)) R) (hi : i < R.length) (h : ∀ v : Int32, v.toInt = R.getD (R.length - 1 - i) 0 → Q (some (.int v)) σ) : zCall d kX3_at [.ref c, .int (nI i)] σ Q := by
  refine (bX3_at_0 hl hc).mpr (zlt' (ai_n (by omega)) k0 (fun q => by omega) (fun _ => ?_))
  rw [hs]
  refine zle' (ai_n (by omega)) (ai_n (by omega)) (fun q => by omega) (fun _ => zlt' (ai_n (by omega)) k40 (fun _ => ⟨vp_in_nI (by omega) (by decide), ?_⟩) (fun q => by omega))
  rw [nI_clamp (by omega)]
  exact h _ (rowR_at i hr hi)
theorem pTd_cx {σ : zS} {t n b w : Nat} {F : aFn} {B : aBk} {W : aWx} (hT : pTd σ t n b F) (g : pBk σ b B) (hB : aBok B) (hw : zk w = 10) (eW : (zI σ w 0).toInt = W.1 ∧ (zI σ w 1).toInt = W.2.1 ∧ (zI σ w 2).toInt = W.2.2) (hW : aWok W) : pCx σ t n B W w := by
  obtain ⟨c1, c2, c3, c4, c5, c6, c7⟩ := hT
  refine ⟨c1, c2, hw, c3, c4, ⟨b, c5, g⟩, fun r hr => ?_, eW, hB, hW⟩
  obtain ⟨⟨s, s1, s2, -⟩, -⟩ := c7 r hr
  exact ⟨s, s1, s2⟩
theorem pWx_q {t w : Nat} {W : aWx} {σ σ' : zS} (ht : zk t = 2) (hw : zk w = 10) (h : zFr (pWq t) σ σ') (eW : (zI σ w 0).toInt = W.1 ∧ (zI σ w 1).toInt = W.2.1 ∧ (zI σ w 2).toInt = W.2.2) : (zI σ' w 0).toInt = W.1 ∧ (zI σ' w 1).toInt = W.2.1 ∧ (zI σ' w 2).toInt = W.2.2 := by
  rw [h.i (pWq_k ht (by omega) (by omega) (by omega)), h.i (pWq_k ht (by omega) (by omega) (by omega)), h.i (pWq_k ht (by omega) (by omega) (by omega))]
  exact eW
theorem aAdd_G {G : Nat → Int} : aAdd (fun _ => G) 0 G = fun _ => G := by
  funext r w
  unfold aAdd
  split <;> rfl
theorem p_one {σ : zS} {b s : Nat} {B : aBk} {W : aWx} {G : Nat → Int} {y : Int32} (hl : zLay σ) (g : pBk σ b B) (hB : aBok B) (hs : zk s = 6) (hG : ∀ j, j < 3 → (zI σ s j).toInt = G j) (hy : y.toInt = G 3) (h0 : 1 ≤ G 0 ∧ G 0 ≤ 5) (eh : (zI σ 10 1).toInt = W.2.1)
    (h : ∀ σ', pTd σ' 60 1 b (fun _ => G) → pBk σ' b B → zFr (pWq 60) σ σ' → Q (some (.int (zb (aCan B W (G 0) 0 (G 3))))) σ') : zCall (d + 3) kX11_placeOne [.ref 1, .ref b, .ref s, .int y] σ Q := by
  refine (bX11_placeOne_0 hl g.1 hs).mpr (p_clear (F := fun _ => G) hl zk_60 g.1 (fun σ1 T1 _ f1 => ⟨rfl, ?_⟩))
  have nk : ∀ k, ¬ pWq 60 0 s k := fun k => pWq_k zk_60 (by omega) (by omega) (by omega)
  refine (bX11_placeOne_8 T1.1 g.1 hs).mpr (p_add T1 (by omega) hs (fun j hj => by rw [f1.i (nk _)]; exact hG j hj) hy (fun σ2 T2 _ f2 => ⟨rfl, ?_⟩))
  rw [aAdd_G] at T2
  have f02 := f1.trans (pWa_q zk_60 (by omega) f2)
  have g2 := pBk_fr f02 (pWq_b zk_60 g.1) g
  refine (bX11_placeOne_17 T2.1 g.1 hs).mpr (p_fits T2 g2 hB (fun _ _ => h0) (by rw [f02.i (pWq_k zk_60 (by rw [zk_10]; decide) (by rw [zk_10]; decide) (by rw [zk_10]; decide))]; exact eh) ⟨rfl, (bX11_placeOne_31 T2.1 g.1 hs).mpr ⟨zb_01 _, ?_⟩⟩)
  refine zbq (h σ2 T2 g2 f02) ⟨fun q => ⟨fun r _ => q, fun r hr o ho => absurd ho (by omega)⟩, fun q => q.1 0 (by omega)⟩
theorem p_tAl {σ : zS} {b s : Nat} {B : aBk} {W : aWx} {G : Nat → Int} {y : Int32} {seed : Int64} (hl : zLay σ) (g : pBk σ b B) (hB : aBok B) (hs : zk s = 6) (hG : ∀ j, j < 3 → (zI σ s j).toInt = G j) (hy : y.toInt = G 3) (h0 : 1 ≤ G 0 ∧ G 0 ≤ 5 ∧ 0 ≤ G 1 ∧ G 1 ≤ 9 ∧ 0 ≤ G 2 ∧ G 2 ≤ 9) (eW : (zI σ 10 0).toInt = W.1 ∧ (zI σ 10 1).toInt = W.2.1 ∧ (zI σ 10 2).toInt = W.2.2) (hW : aWok W)
    (h : ∀ (v : Int32) (σ' : zS), v.toInt = zif (aCan B W (G 0) 0 (G 3)) (aAl B W G seed) (-1) → zFr (pWq 60) σ σ' → Q (some (.int v)) σ') : zCall (d + 5) kX11_ticksAlone [.ref 1, .ref b, .ref s, .int y, .long seed] σ Q := by
  refine (bX11_ticksAlone_0 hl g.1 hs).mpr (p_one (d := d + 1) hl g hB hs hG hy ⟨h0.1, h0.2.1⟩ eW.2.1 (fun σ1 T1 g1 f1 => ⟨rfl, (bX11_ticksAlone_7 T1.1 g.1 hs).mpr (zt0 (fun c => ?_) (fun c => h _ σ1 ?_ f1))⟩))
  · have gs : aGst B G := ⟨h0.1, h0.2.1, h0.2.2.1, h0.2.2.2.1, h0.2.2.2.2.1, h0.2.2.2.2.2, c.1, c.2.1⟩
    refine p_begin (d := d + 3) T1 (fun σ2 T2 hD2 t2 _ f2 => ⟨rfl, ?_⟩)
    have f02 := f1.trans (pWr_q f2)
    have g2 := pBk_fr (pWr_q f2) (pWq_b zk_60 g.1) g1
    have C2 : pCx σ2 60 1 B W 10 := pTd_cx T2 g2 hB zk_10 (pWx_q zk_60 zk_10 f02 eW) hW
    have ok := aBeg_ok (n := 1) (F := fun _ => G) (X := (seed, False, fun _ => 0)) hB (fun _ _ => gs)
    refine (bX11_ticksAlone_21 C2.1 g.1 hs).mpr ((bX2_run_0 C2.1 zk_60 zk_10).mpr (p_runN (N := 60) (by omega) 60 0 σ2 (0, aBeg 1 (fun _ => G), 0, seed, False, fun _ => 0) _ _ rfl (by omega) C2 hD2 ok t2 (Int.le_refl _) (by show (0 : Int) ≤ 60; decide) (zcat_r _) (zcat_r _) (fun σ3 hD3 t3 f3 => ⟨rfl, ?_⟩)))
    have C3 := pCx_fr f3 C2
    have f03 := f02.trans (pWr_q f3)
    have ok3 := (aRace_ok (n := 1) (F := fun _ => G) (seed := seed) hB hW (by omega) (fun _ _ => gs)).1
    refine (bX11_ticksAlone_34 C3.1 g.1 hs).mpr (p_first (d := d + 3) C3 hD3.1 (by omega) (ok3.1 0 (by omega)).2.2.2.2.2.2.2.2.1 (fun v hv => ⟨rfl, (bX11_ticksAlone_41 C3.1 g.1 hs).mpr (h v σ3 ?_ f03)⟩))
    rw [zif_t c]
    exact hv
  · rw [zif_f c]; rfl
end PROW
