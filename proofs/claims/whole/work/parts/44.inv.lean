/-! what holds between the calls: the class's cells against the model's -/
/-- what no later call reads -/
def iSafe : Nat → Nat → Nat → Prop := fun j c k => (60 ≤ c ∧ c ≤ 96) ∨ c = 11 ∨ (c = 139 ∧ 66 ≤ k) ∨ c = 140 ∨ (150 ≤ c ∧ c ≤ 155) ∨ (159 ≤ c ∧ c ≤ 163) ∨ (j = 0 ∧ c = 131 ∧ (k = 0 ∨ k = 3 ∨ k = 4 ∨ (23 ≤ k ∧ k ≤ 26) ∨ k = 50)) ∨ (j = 1 ∧ c = 131 ∧ k = 32) ∨ (c = 133 ∧ 576 ≤ k) ∨ (c = 134 ∧ k = 6) ∨ (c = 135 ∧ k = 6) ∨ (136 ≤ c ∧ c ≤ 138 ∧ k = 10)
def mFR (σ : zS) (R n : Nat) : aFn := fun r w => if r < n ∧ w < 11 then (zI σ R (11 * r + w)).toInt else 0
def iTape (σ : zS) : Prop := ∃ len : Nat, len ≤ 160 ∧ zI σ 2 1 = nI len ∧ zI σ 131 2 = nI len ∧ ∀ i, i < len → zI σ 3 i = zI σ 132 i &&& 255 ∧ 1 ≤ (zI σ 3 i).toInt ∧ (zI σ 3 i).toInt ≤ 255
def iBr (σ : zS) (nb : Nat) : Prop := nb ≤ 6 ∧ zI σ 1 2 = nI nb ∧ zI σ 131 11 = nI nb ∧ ∀ b, b < nb → aBok (mB σ b) ∧ pBk σ (97 + 4 * b) (mB σ b)
def iStk (σ : zS) (s : Nat) : Prop := (1 ≤ (zI σ 136 s).toInt ∧ (zI σ 136 s).toInt ≤ 5) ∧ (0 ≤ (zI σ 137 s).toInt ∧ (zI σ 137 s).toInt ≤ 9) ∧ (0 ≤ (zI σ 138 s).toInt ∧ (zI σ 138 s).toInt ≤ 9) ∧ zI σ (121 + s) 0 = zI σ 136 s ∧ zI σ (121 + s) 1 = zI σ 137 s ∧ zI σ (121 + s) 2 = zI σ 138 s
def iSt (σ : zS) (ns : Nat) : Prop := ns ≤ 10 ∧ zI σ 1 4 = nI ns ∧ zI σ 131 12 = nI ns ∧ ∀ s, s < ns → iStk σ s
def iWx (σ : zS) : Prop := aWok (mW σ) ∧ zI σ 10 0 = zI σ 131 13 ∧ zI σ 10 1 = zI σ 131 14 ∧ zI σ 10 2 = zI σ 131 15
def iSg (σ : zS) (ns : Nat) : Prop := ∃ n : Nat, n ≤ 10 ∧ zI σ 6 3 = nI n ∧ zI σ 131 54 = nI n ∧ ∀ i, i < n → ∃ s, s < ns ∧ zI σ 7 i = nI s ∧ zI σ 156 i = nI s ∧ zI σ 8 i = zI σ 157 i ∧ zI σ 9 i = zI σ 158 i ∧ 0 ≤ (zI σ 157 i).toInt ∧ (zI σ 157 i).toInt ≤ 5 ∧ 1 ≤ (zI σ 158 i).toInt ∧ (zI σ 158 i).toInt ≤ 99
/-- n runners told on the brook b: the class's race t, the model's row R -/
def iTl (σ : zS) (t R nb ns n b : Nat) : Prop := b < nb ∧ zR σ t 3 = some (97 + 4 * b) ∧ (∀ r, r < n → ∃ s, s < ns ∧ zR σ (t + 8 + 2 * r) 0 = some (121 + s)) ∧ pF σ t n = mFR σ R n ∧ (∀ r, r < n → aFok (mB σ b) (mFR σ R n) r) ∧ ∀ r, r < n → ∀ o, o < r → aApart (mFR σ R n) r o
/-- a race that was started: ticks T. Its model's fields from f on, draws l, strikes S; the class's log x1 y1 d1 against the model's x2 y2 d2 -/
def iRn (σ : zS) (t R f l S x1 y1 d1 x2 y2 d2 n T : Nat) : Prop := T ≤ 60 ∧ 0 < n ∧ zI σ 131 (f + 2) = nI T ∧ zI σ t 5 = nI T ∧ zI σ t 9 = 1 ∧ zI σ 131 (f + 3) = zI σ t 6 ∧ zL σ 131 l = zL σ t 7 ∧ (zI σ t 8 = 0 ∨ zI σ t 8 = 1) ∧ 0 ≤ (zI σ t 6).toInt ∧ (zI σ t 6).toInt + aIn (mFR σ R n) n = n ∧ (∀ x, x < 16 → 0 ≤ (zI σ S x).toInt ∧ (zI σ S x).toInt ≤ 6 * T) ∧ (∀ x, x < 16 → zI σ (t + 3) x = zI σ S x) ∧ (∀ k, k ≤ T → (∀ r, r < n → zI σ x1 (6 * k + r) = zI σ x2 (6 * k + r) ∧ zI σ y1 (6 * k + r) = zI σ y2 (6 * k + r)) ∧ zI σ d1 k = zI σ d2 k) ∧ ∀ r, r < n → (zI σ x2 r).toInt = 0
def iRc (σ : zS) (nb ns : Nat) : Prop := ∃ n : Nat, n ≤ 6 ∧ zI σ 131 20 = nI n ∧ zI σ 12 4 = nI n ∧
  ((zI σ 131 19 = -1 ∧ n = 0 ∧ zI σ 131 21 = -1 ∧ zI σ 12 9 = 0 ∧ zR σ 12 3 = some 16 ∧ zI σ 16 3 = 0 ∧ zI σ 16 4 = 0) ∨
   ∃ b : Nat, zI σ 131 19 = nI b ∧ iTl σ 12 139 nb ns n b ∧
    ((zI σ 131 21 = -1 ∧ zI σ 12 9 = 0 ∧ ∀ r, r < n → mFR σ 139 n r 4 = 0 ∧ mFR σ 139 n r 7 = -1 ∧ mFR σ 139 n r 5 = mFR σ 139 n r 3) ∨ ∃ T, iRn σ 12 139 19 31 145 33 34 35 142 143 144 n T))
def iIm (σ : zS) (nb ns : Nat) : Prop := (zI σ 131 34 = 0 ∧ zI σ 36 9 = 0) ∨ (zI σ 131 34 = 1 ∧ ∃ n b T : Nat, n ≤ 6 ∧ zI σ 131 28 = nI n ∧ zI σ 36 4 = nI n ∧ zI σ 131 27 = nI b ∧ iTl σ 36 141 nb ns n b ∧ iRn σ 36 141 27 33 149 57 58 59 146 147 148 n T)
/-- every runner of the race and of its image has a stick -/
def iSr (σ : zS) : Prop := ∀ r, r < 6 → (∃ s, zR σ (20 + 2 * r) 0 = some s ∧ zk s = 6) ∧ ∃ s, zR σ (44 + 2 * r) 0 = some s ∧ zk s = 6
theorem iSr_fr {σ σ' : zS} {W : Nat → Nat → Nat → Prop} (h : zFr W σ σ') (w : ∀ c, 20 ≤ c → c ≤ 54 → ¬ W 2 c 0) (g : iSr σ) : iSr σ' := fun r hr => by
  rw [h.r (w _ (by omega) (by omega)), h.r (w _ (by omega) (by omega))]
  exact g r hr
/-- with nb brooks and ns sticks -/
def iA (σ : zS) (nb ns : Nat) : Prop := zLay σ ∧ iTape σ ∧ iWx σ ∧ zI σ 131 43 = 0 ∧ iBr σ nb ∧ iSt σ ns ∧ iSg σ ns ∧ iRc σ nb ns ∧ iIm σ nb ns ∧ iSr σ
def Inv (σ : zS) : Prop := ∃ nb ns : Nat, iA σ nb ns
theorem pBk_c {σ : zS} {b : Nat} {B B' : aBk} (h : pBk σ b B) (e1 : B.2.1 = B'.2.1) (e2 : B.2.2 = B'.2.2) (e : ∀ y x : Nat, B.1 y x = B'.1 y x) : pBk σ b B' := by
  obtain ⟨h0, h1, h2, h3, h4, h5⟩ := h
  refine ⟨h0, by rw [← e1]; exact h1, by rw [← e2]; exact h2, fun y x a b c d => ?_, fun x k a b => ?_, fun x k a b => ?_⟩
  · rw [← e]; exact h3 y x a b (by rw [e1]; exact c) (by rw [e2]; exact d)
  · rw [← e1, ← e2, ← e]; exact h4 x k a b
  · rw [← e1, ← e2, ← e]; exact h5 x k a b
section INV
theorem fI {σ σ' : zS} {W : Nat → Nat → Nat → Prop} (h : zFr W σ σ') {P : Nat → Nat → Prop} (w : ∀ c k, P c k → ¬ W 0 c k) {c k : Nat} (q : P c k) : zI σ' c k = zI σ c k := h.i (w c k q)
def jTape (c k : Nat) : Prop := c = 2 ∨ c = 3 ∨ c = 132 ∨ (c = 131 ∧ k = 2)
theorem iTape_fr {σ σ' : zS} {W : Nat → Nat → Nat → Prop} (h : zFr W σ σ') (w : ∀ c k, jTape c k → ¬ W 0 c k) (g : iTape σ) : iTape σ' := by
  obtain ⟨len, t1, t2, t3, t4⟩ := g
  have e : ∀ c k, jTape c k → zI σ' c k = zI σ c k := fun c k q => fI h w q
  refine ⟨len, t1, ?_, ?_, fun i hi => ?_⟩
  · rw [e _ _ (by unfold jTape; omega)]; exact t2
  · rw [e _ _ (by unfold jTape; omega)]; exact t3
  · rw [e 3 _ (by unfold jTape; omega), e 132 _ (by unfold jTape; omega)]; exact t4 i hi
def jWx (c k : Nat) : Prop := c = 10 ∨ (c = 131 ∧ 13 ≤ k ∧ k ≤ 15)
theorem mW_f {σ σ' : zS} {W : Nat → Nat → Nat → Prop} (h : zFr W σ σ') (w : ∀ c k, jWx c k → ¬ W 0 c k) : mW σ' = mW σ := mW_fr h ⟨w _ _ (by unfold jWx; omega), w _ _ (by unfold jWx; omega), w _ _ (by unfold jWx; omega)⟩
theorem iWx_fr {σ σ' : zS} {W : Nat → Nat → Nat → Prop} (h : zFr W σ σ') (w : ∀ c k, jWx c k → ¬ W 0 c k) (g : iWx σ) : iWx σ' := by
  obtain ⟨w1, w2, w3, w4⟩ := g
  have e : ∀ c k, jWx c k → zI σ' c k = zI σ c k := fun c k q => fI h w q
  refine ⟨?_, ?_, ?_, ?_⟩
  · rw [mW_f h w]; exact w1
  · rw [e 10 _ (by unfold jWx; omega), e 131 _ (by unfold jWx; omega)]; exact w2
  · rw [e 10 _ (by unfold jWx; omega), e 131 _ (by unfold jWx; omega)]; exact w3
  · rw [e 10 _ (by unfold jWx; omega), e 131 _ (by unfold jWx; omega)]; exact w4
/-- the model's first nb brooks -/
def jB (nb c k : Nat) : Prop := (c = 133 ∧ k < 96 * nb) ∨ ((c = 134 ∨ c = 135) ∧ k < nb)
theorem mB_f {σ σ' : zS} {W : Nat → Nat → Nat → Prop} (h : zFr W σ σ') {nb : Nat} (w : ∀ c k, jB nb c k → ¬ W 0 c k) {b : Nat} (hb : b < nb) : mB σ' b = mB σ b := by
  unfold mB
  rw [fI h w (show jB nb 134 b by unfold jB; omega), fI h w (show jB nb 135 b by unfold jB; omega)]
  congr 1
  funext y x
  by_cases q : y < 6 ∧ x < 16
  · rw [if_pos q, if_pos q, fI h w (show jB nb 133 (16 * (6 * b + y) + x) by unfold jB; omega)]
  · rw [if_neg q, if_neg q]
def jBr (nb c k : Nat) : Prop := (c = 1 ∧ k = 2) ∨ (c = 131 ∧ k = 11) ∨ jB nb c k ∨ (97 ≤ c ∧ c < 97 + 4 * nb)
theorem iBr_fr {σ σ' : zS} {W : Nat → Nat → Nat → Prop} (h : zFr W σ σ') {nb : Nat} (w : ∀ c k, jBr nb c k → ¬ W 0 c k) (g : iBr σ nb) : iBr σ' nb := by
  obtain ⟨b1, b2, b3, b4⟩ := g
  have wB : ∀ c k, jB nb c k → ¬ W 0 c k := fun c k q => w c k (Or.inr (Or.inr (Or.inl q)))
  refine ⟨b1, ?_, ?_, fun b hb => ⟨?_, ?_⟩⟩
  · rw [fI h w (show jBr nb 1 2 by unfold jBr; omega)]; exact b2
  · rw [fI h w (show jBr nb 131 11 by unfold jBr; omega)]; exact b3
  · rw [mB_f h wB hb]; exact (b4 b hb).1
  · rw [mB_f h wB hb]
    exact pBk_fr h ⟨fun k => w _ _ (by unfold jBr; omega), fun k => w _ _ (by unfold jBr; omega), fun k => w _ _ (by unfold jBr; omega), fun k => w _ _ (by unfold jBr; omega)⟩ (b4 b hb).2
def jSt (ns c k : Nat) : Prop := (c = 1 ∧ k = 4) ∨ (c = 131 ∧ k = 12) ∨ (136 ≤ c ∧ c ≤ 138 ∧ k < ns) ∨ (121 ≤ c ∧ c < 121 + ns)
theorem iSt_fr {σ σ' : zS} {W : Nat → Nat → Nat → Prop} (h : zFr W σ σ') {ns : Nat} (w : ∀ c k, jSt ns c k → ¬ W 0 c k) (g : iSt σ ns) : iSt σ' ns := by
  obtain ⟨s1, s2, s3, s4⟩ := g
  have e : ∀ c k, jSt ns c k → zI σ' c k = zI σ c k := fun c k q => fI h w q
  refine ⟨s1, ?_, ?_, fun s hs => ?_⟩
  · rw [e _ _ (by unfold jSt; omega)]; exact s2
  · rw [e _ _ (by unfold jSt; omega)]; exact s3
  · have z := s4 s hs
    unfold iStk at z ⊢
    rw [e 136 _ (by unfold jSt; omega), e 137 _ (by unfold jSt; omega), e 138 _ (by unfold jSt; omega), e _ 0 (by unfold jSt; omega), e _ 1 (by unfold jSt; omega), e _ 2 (by unfold jSt; omega)]
    exact z
def jSg (c k : Nat) : Prop := (6 ≤ c ∧ c ≤ 9) ∨ (c = 131 ∧ k = 54) ∨ (156 ≤ c ∧ c ≤ 158)
theorem iSg_fr {σ σ' : zS} {W : Nat → Nat → Nat → Prop} (h : zFr W σ σ') {ns ns' : Nat} (hns : ns ≤ ns') (w : ∀ c k, jSg c k → ¬ W 0 c k) (g : iSg σ ns) : iSg σ' ns' := by
  obtain ⟨n, q1, q2, q3, q4⟩ := g
  have e : ∀ c k, jSg c k → zI σ' c k = zI σ c k := fun c k q => fI h w q
  refine ⟨n, q1, ?_, ?_, fun i hi => ?_⟩
  · rw [e _ _ (by unfold jSg; omega)]; exact q2
  · rw [e _ _ (by unfold jSg; omega)]; exact q3
  · rw [e 7 _ (by unfold jSg; omega), e 8 _ (by unfold jSg; omega), e 9 _ (by unfold jSg; omega), e 156 _ (by unfold jSg; omega), e 157 _ (by unfold jSg; omega), e 158 _ (by unfold jSg; omega)]
    obtain ⟨s, s1, s2⟩ := q4 i hi
    exact ⟨s, by omega, s2⟩
theorem mFR_f {σ σ' : zS} {W : Nat → Nat → Nat → Prop} (h : zFr W σ σ') {R n : Nat} (hn : n ≤ 6) (w : ∀ k, k < 66 → ¬ W 0 R k) : mFR σ' R n = mFR σ R n := by
  funext r v
  unfold mFR
  by_cases q : r < n ∧ v < 11
  · rw [if_pos q, if_pos q, h.i (w (11 * r + v) (by omega))]
  · rw [if_neg q, if_neg q]
/-- the class's race t, its sticks, the model's row R -/
def jTl (t R nb ns c k : Nat) : Prop := jB nb c k ∨ (121 ≤ c ∧ c < 121 + ns) ∨ (t ≤ c ∧ c ≤ t + 19) ∨ (c = R ∧ k < 66)
theorem pF_f {σ σ' : zS} {W : Nat → Nat → Nat → Prop} (h : zFr W σ σ') {t R n nb ns : Nat} (hn : n ≤ 6) (w : ∀ c k, jTl t R nb ns c k → ¬ W 0 c k) (w2 : ∀ c k, t ≤ c → c ≤ t + 19 → ¬ W 2 c k) (hst : ∀ r, r < n → ∃ s, s < ns ∧ zR σ (t + 8 + 2 * r) 0 = some (121 + s)) : pF σ' t n = pF σ t n := by
  funext r v
  unfold pF
  by_cases q : r < n ∧ v < 11
  · rw [if_pos q, if_pos q, fI h w (show jTl t R nb ns (t + 8 + 2 * r) (v - 2) by unfold jTl; omega), h.r (w2 _ _ (by omega) (by omega))]
    obtain ⟨s, s1, s2⟩ := hst r q.1
    rw [s2]
    show (if v < 3 then (zI σ' (121 + s) v).toInt else _) = (if v < 3 then (zI σ (121 + s) v).toInt else _)
    rw [fI h w (show jTl t R nb ns (121 + s) v by unfold jTl; omega)]
  · rw [if_neg q, if_neg q]
theorem iTl_fr {σ σ' : zS} {W : Nat → Nat → Nat → Prop} (h : zFr W σ σ') {t R nb ns nb' ns' n b : Nat} (hn : n ≤ 6) (hnb : nb ≤ nb') (hns : ns ≤ ns') (w : ∀ c k, jTl t R nb ns c k → ¬ W 0 c k) (w2 : ∀ c k, t ≤ c → c ≤ t + 19 → ¬ W 2 c k) (g : iTl σ t R nb ns n b) : iTl σ' t R nb' ns' n b := by
  obtain ⟨g1, g2, g3, g4, g5, g6⟩ := g
  have eF : mFR σ' R n = mFR σ R n := mFR_f h hn (fun k q => w _ _ (by unfold jTl; omega))
  have eB : mB σ' b = mB σ b := mB_f h (fun c k q => w c k (Or.inl q)) g1
  refine ⟨by omega, by rw [h.r (w2 _ _ (by omega) (by omega))]; exact g2, fun r hr => ?_, ?_, fun r hr => ?_, fun r hr o ho => ?_⟩
  · rw [h.r (w2 _ _ (by omega) (by omega))]
    obtain ⟨s, s1, s2⟩ := g3 r hr
    exact ⟨s, by omega, s2⟩
  · rw [pF_f h hn w w2 g3, eF]; exact g4
  · rw [eF, eB]; exact g5 r hr
  · rw [eF]; exact g6 r hr o ho
def jRn (t f S x1 y1 d1 x2 y2 d2 c k : Nat) : Prop := (c = 131 ∧ (k = f + 2 ∨ k = f + 3)) ∨ c = t ∨ c = t + 3 ∨ c = S ∨ c = x1 ∨ c = y1 ∨ c = d1 ∨ c = x2 ∨ c = y2 ∨ c = d2
theorem iRn_fr {σ σ' : zS} {W : Nat → Nat → Nat → Prop} (h : zFr W σ σ') {t R f l S x1 y1 d1 x2 y2 d2 n T : Nat} (w : ∀ c k, jRn t f S x1 y1 d1 x2 y2 d2 c k → ¬ W 0 c k) (w1 : ¬ W 1 131 l ∧ ¬ W 1 t 7) (eF : mFR σ' R n = mFR σ R n) (g : iRn σ t R f l S x1 y1 d1 x2 y2 d2 n T) : iRn σ' t R f l S x1 y1 d1 x2 y2 d2 n T := by
  have e : ∀ c k, jRn t f S x1 y1 d1 x2 y2 d2 c k → zI σ' c k = zI σ c k := fun c k q => fI h w q
  obtain ⟨g1, g2, g3, g4, g5, g6, g7, g8, g9, g10, g11, g12, g13, g14⟩ := g
  unfold iRn
  rw [eF, e 131 (f + 2) (by unfold jRn; omega), e 131 (f + 3) (by unfold jRn; omega), e t 5 (by unfold jRn; omega), e t 9 (by unfold jRn; omega), e t 6 (by unfold jRn; omega), e t 8 (by unfold jRn; omega), h.l w1.1, h.l w1.2]
  refine ⟨g1, g2, g3, g4, g5, g6, g7, g8, g9, g10, fun x hx => ?_, fun x hx => ?_, fun k hk => ⟨fun r hr => ?_, ?_⟩, fun r hr => ?_⟩
  · rw [e S x (by unfold jRn; omega)]; exact g11 x hx
  · rw [e (t + 3) x (by unfold jRn; omega), e S x (by unfold jRn; omega)]; exact g12 x hx
  · rw [e x1 _ (by unfold jRn; omega), e x2 _ (by unfold jRn; omega), e y1 _ (by unfold jRn; omega), e y2 _ (by unfold jRn; omega)]; exact (g13 k hk).1 r hr
  · rw [e d1 _ (by unfold jRn; omega), e d2 _ (by unfold jRn; omega)]; exact (g13 k hk).2
  · rw [e x2 _ (by unfold jRn; omega)]; exact g14 r hr
def jRc (nb ns c k : Nat) : Prop := jB nb c k ∨ (121 ≤ c ∧ c < 121 + ns) ∨ (12 ≤ c ∧ c ≤ 35) ∨ (c = 139 ∧ k < 66) ∨ (c = 131 ∧ 19 ≤ k ∧ k ≤ 22) ∨ (142 ≤ c ∧ c ≤ 145)
theorem jTl_rc {nb ns c k : Nat} (q : jTl 12 139 nb ns c k) : jRc nb ns c k :=
  q.elim Or.inl (fun q => q.elim (fun q => Or.inr (Or.inl q)) (fun q => q.elim (fun q => Or.inr (Or.inr (Or.inl (by omega)))) (fun q => Or.inr (Or.inr (Or.inr (Or.inl q))))))
theorem jRn_rc {nb ns c k : Nat} (q : jRn 12 19 145 33 34 35 142 143 144 c k) : jRc nb ns c k := Or.inr (Or.inr (by unfold jRn at q; omega))
theorem iRc_fr {σ σ' : zS} {W : Nat → Nat → Nat → Prop} (h : zFr W σ σ') {nb ns nb' ns' : Nat} (hnb : nb ≤ nb') (hns : ns ≤ ns') (w : ∀ c k, jRc nb ns c k → ¬ W 0 c k) (w1 : ¬ W 1 131 31 ∧ ¬ W 1 12 7) (w2 : ∀ c k, 12 ≤ c → c ≤ 31 → ¬ W 2 c k) (g : iRc σ nb ns) : iRc σ' nb' ns' := by
  have e : ∀ c k, jRc nb ns c k → zI σ' c k = zI σ c k := fun c k q => fI h w q
  obtain ⟨n, r1, r2, r3, r4⟩ := g
  have eF : mFR σ' 139 n = mFR σ 139 n := mFR_f h r1 (fun k q => w _ _ (by unfold jRc; omega))
  refine ⟨n, r1, by rw [e _ _ (by unfold jRc; omega)]; exact r2, by rw [e _ _ (by unfold jRc; omega)]; exact r3, ?_⟩
  rcases r4 with ⟨a1, a2, a3, a4, a5, a6, a7⟩ | ⟨b, a1, a2, a3⟩
  · refine Or.inl ⟨?_, a2, ?_, ?_, ?_, ?_, ?_⟩
    · rw [e _ _ (by unfold jRc; omega)]; exact a1
    · rw [e _ _ (by unfold jRc; omega)]; exact a3
    · rw [e _ _ (by unfold jRc; omega)]; exact a4
    · rw [h.r (w2 _ _ (by omega) (by omega))]; exact a5
    · rw [e _ _ (by unfold jRc; omega)]; exact a6
    · rw [e _ _ (by unfold jRc; omega)]; exact a7
  · refine Or.inr ⟨b, by rw [e _ _ (by unfold jRc; omega)]; exact a1, iTl_fr h r1 hnb hns (fun c k q => w c k (jTl_rc q)) (fun c k q1 q2 => w2 c k (by omega) (by omega)) a2, ?_⟩
    rcases a3 with ⟨c1, c2, c3⟩ | ⟨T, c1⟩
    · refine Or.inl ⟨by rw [e _ _ (by unfold jRc; omega)]; exact c1, by rw [e _ _ (by unfold jRc; omega)]; exact c2, fun r hr => ?_⟩
      rw [eF]; exact c3 r hr
    · exact Or.inr ⟨T, iRn_fr h (fun c k q => w c k (jRn_rc q)) w1 eF c1⟩
def jIm (nb ns c k : Nat) : Prop := jB nb c k ∨ (121 ≤ c ∧ c < 121 + ns) ∨ (36 ≤ c ∧ c ≤ 59) ∨ (c = 141 ∧ k < 66) ∨ (c = 131 ∧ ((27 ≤ k ∧ k ≤ 30) ∨ k = 34)) ∨ (146 ≤ c ∧ c ≤ 149)
theorem jTl_im {nb ns c k : Nat} (q : jTl 36 141 nb ns c k) : jIm nb ns c k :=
  q.elim Or.inl (fun q => q.elim (fun q => Or.inr (Or.inl q)) (fun q => q.elim (fun q => Or.inr (Or.inr (Or.inl (by omega)))) (fun q => Or.inr (Or.inr (Or.inr (Or.inl q))))))
theorem jRn_im {nb ns c k : Nat} (q : jRn 36 27 149 57 58 59 146 147 148 c k) : jIm nb ns c k := Or.inr (Or.inr (by unfold jRn at q; omega))
theorem iIm_fr {σ σ' : zS} {W : Nat → Nat → Nat → Prop} (h : zFr W σ σ') {nb ns nb' ns' : Nat} (hnb : nb ≤ nb') (hns : ns ≤ ns') (w : ∀ c k, jIm nb ns c k → ¬ W 0 c k) (w1 : ¬ W 1 131 33 ∧ ¬ W 1 36 7) (w2 : ∀ c k, 36 ≤ c → c ≤ 55 → ¬ W 2 c k) (g : iIm σ nb ns) : iIm σ' nb' ns' := by
  have e : ∀ c k, jIm nb ns c k → zI σ' c k = zI σ c k := fun c k q => fI h w q
  rcases g with ⟨a1, a2⟩ | ⟨a1, n, b, T, r1, r2, r3, r4, r5, r6⟩
  · exact Or.inl ⟨by rw [e _ _ (by unfold jIm; omega)]; exact a1, by rw [e _ _ (by unfold jIm; omega)]; exact a2⟩
  · have eF : mFR σ' 141 n = mFR σ 141 n := mFR_f h r1 (fun k q => w _ _ (by unfold jIm; omega))
    refine Or.inr ⟨by rw [e _ _ (by unfold jIm; omega)]; exact a1, n, b, T, r1, by rw [e _ _ (by unfold jIm; omega)]; exact r2, by rw [e _ _ (by unfold jIm; omega)]; exact r3, by rw [e _ _ (by unfold jIm; omega)]; exact r4, iTl_fr h r1 hnb hns (fun c k q => w c k (jTl_im q)) (fun c k q1 q2 => w2 c k (by omega) (by omega)) r5, ?_⟩
    exact iRn_fr h (fun c k q => w c k (jRn_im q)) w1 eF r6
theorem nS1 {c k : Nat} (h : c ≤ 59) (h2 : c ≠ 11) : ¬ iSafe 0 c k := by unfold iSafe; omega
theorem nS2 {c k : Nat} (h : 97 ≤ c) (h2 : c ≤ 130) : ¬ iSafe 0 c k := by unfold iSafe; omega
theorem nS3 {k : Nat} (h : k ≠ 0 ∧ k ≠ 3 ∧ k ≠ 4 ∧ (k < 23 ∨ 26 < k) ∧ k ≠ 50) : ¬ iSafe 0 131 k := by unfold iSafe; omega
theorem nS4 {k : Nat} (h : k < 576) : ¬ iSafe 0 133 k := by unfold iSafe; omega
theorem nS5 {c k : Nat} (h : c = 134 ∨ c = 135) (h2 : k < 6) : ¬ iSafe 0 c k := by unfold iSafe; omega
theorem nS6 {c k : Nat} (h : 136 ≤ c ∧ c ≤ 138) (h2 : k < 10) : ¬ iSafe 0 c k := by unfold iSafe; omega
theorem nS7 {k : Nat} (h : k < 66) : ¬ iSafe 0 139 k := by unfold iSafe; omega
theorem nS8 {c k : Nat} (h : 141 ≤ c) (h2 : c ≤ 149) : ¬ iSafe 0 c k := by unfold iSafe; omega
theorem nS9 {c k : Nat} (h : 156 ≤ c) (h2 : c ≤ 158) : ¬ iSafe 0 c k := by unfold iSafe; omega
theorem nS0 {k : Nat} : ¬ iSafe 0 132 k := by unfold iSafe; omega
theorem nSB {nb c k : Nat} (h6 : nb ≤ 6) (q : jB nb c k) : ¬ iSafe 0 c k := by
  rcases q with ⟨rfl, q⟩ | ⟨q1, q2⟩
  · exact nS4 (by omega)
  · exact nS5 q1 (by omega)
theorem iA_fr {σ σ' : zS} {nb ns : Nat} (h : zFr iSafe σ σ') (hl' : zLay σ') (g : iA σ nb ns) : iA σ' nb ns := by
  obtain ⟨g1, g2, g3, g4, g5, g6, g7, g8, g9, gS⟩ := g
  have b6 := g5.1
  have s10 := g6.1
  refine ⟨hl', iTape_fr h (fun c k q => ?_) g2, iWx_fr h (fun c k q => ?_) g3, ?_, iBr_fr h (fun c k q => ?_) g5, iSt_fr h (fun c k q => ?_) g6, iSg_fr h (Nat.le_refl _) (fun c k q => ?_) g7, iRc_fr h (Nat.le_refl _) (Nat.le_refl _) (fun c k q => ?_) ⟨by unfold iSafe; omega, by unfold iSafe; omega⟩ (fun c k a b => by unfold iSafe; omega) g8, iIm_fr h (Nat.le_refl _) (Nat.le_refl _) (fun c k q => ?_) ⟨by unfold iSafe; omega, by unfold iSafe; omega⟩ (fun c k a b => by unfold iSafe; omega) g9, iSr_fr h (fun c a b => by unfold iSafe; omega) gS⟩
  · rcases q with q | q | q | ⟨rfl, q⟩
    · exact nS1 (by omega) (by omega)
    · exact nS1 (by omega) (by omega)
    · subst q; exact nS0
    · exact nS3 (by omega)
  · rcases q with q | ⟨rfl, q⟩
    · exact nS1 (by omega) (by omega)
    · exact nS3 (by omega)
  · rw [h.i (nS3 (by omega))]
    exact g4
  · rcases q with q | ⟨rfl, q⟩ | q | q
    · exact nS1 (by omega) (by omega)
    · exact nS3 (by omega)
    · exact nSB b6 q
    · exact nS2 (by omega) (by omega)
  · rcases q with q | ⟨rfl, q⟩ | q | q
    · exact nS1 (by omega) (by omega)
    · exact nS3 (by omega)
    · exact nS6 (by omega) (by omega)
    · exact nS2 (by omega) (by omega)
  · rcases q with q | ⟨rfl, q⟩ | q
    · exact nS1 (by omega) (by omega)
    · exact nS3 (by omega)
    · exact nS9 (by omega) (by omega)
  · rcases q with q | q | q | ⟨rfl, q⟩ | ⟨rfl, q⟩ | q
    · exact nSB b6 q
    · exact nS2 (by omega) (by omega)
    · exact nS1 (by omega) (by omega)
    · exact nS7 q
    · exact nS3 (by omega)
    · exact nS8 (by omega) (by omega)
  · rcases q with q | q | q | ⟨rfl, q⟩ | ⟨rfl, q⟩ | q
    · exact nSB b6 q
    · exact nS2 (by omega) (by omega)
    · exact nS1 (by omega) (by omega)
    · exact nS8 (by omega) (by omega)
    · exact nS3 (by omega)
    · exact nS8 (by omega) (by omega)
theorem iS_mB {σ σ' : zS} (h : zFr iSafe σ σ') {b : Nat} (hb : b < 6) : mB σ' b = mB σ b := mB_f (nb := 6) h (fun c k q => nSB (Nat.le_refl _) q) hb
theorem iS_mW {σ σ' : zS} (h : zFr iSafe σ σ') : mW σ' = mW σ := mW_fr h ⟨by unfold iSafe; omega, by unfold iSafe; omega, by unfold iSafe; omega⟩
theorem iS_mFR {σ σ' : zS} (h : zFr iSafe σ σ') {R n : Nat} (hn : n ≤ 6) (hR : R = 139 ∨ R = 141) : mFR σ' R n = mFR σ R n := mFR_f h hn (fun k q => hR.elim (fun e => e ▸ nS7 q) (fun e => e ▸ nS8 (by omega) (by omega)))
end INV
theorem pWz_s {σ σ' : zS} (h : zFr pWz σ σ') : zFr iSafe σ σ' := h.mono (fun j c k q => by
  rcases q with ⟨_, q | q⟩ | ⟨_, q⟩ | ⟨_, q | q⟩
  · exact Or.inl q
  · exact Or.inr (Or.inl q)
  · exact Or.inl (by omega)
  · exact Or.inl (by omega)
  · exact Or.inl (by omega))
theorem mWq_s {σ σ' : zS} (h : zFr mWq σ σ') : zFr iSafe σ σ' := h.mono (fun j c k q => by
  rcases q with ⟨hj, q | q | q | q | ⟨q, q2⟩⟩ | ⟨hj, q, q2⟩
  · exact Or.inr (Or.inr (Or.inl q))
  · exact Or.inr (Or.inr (Or.inr (Or.inl q)))
  · exact Or.inr (Or.inr (Or.inr (Or.inr (Or.inl q))))
  · exact Or.inr (Or.inr (Or.inr (Or.inr (Or.inr (Or.inl q)))))
  · exact Or.inr (Or.inr (Or.inr (Or.inr (Or.inr (Or.inr (Or.inl ⟨hj, q, by omega⟩))))))
  · exact Or.inr (Or.inr (Or.inr (Or.inr (Or.inr (Or.inr (Or.inr (Or.inl ⟨hj, q, q2⟩))))))))
